/-! ===== reads and writes, as functions that may fail ===== -/
def rdI (s : Mem) (k : Nat) (i : Int) : Option Int := if 0 ≤ i ∧ i < lenI k then some (s k i.toNat) else none
def rdB (s : Mem) (k : Nat) (i : Int) : Option Int := if 0 ≤ i ∧ i < lenB k then some (s k i.toNat) else none
def rdZ (s : Mem) (k : Nat) (i : Int) : Option Int := if 0 ≤ i ∧ i < lenZ k then some (s k i.toNat) else none
def rdL (s : Mem) (k : Nat) (i : Int) : Option Int := if 0 ≤ i ∧ i < lenL k then some (s k i.toNat) else none
def rdS (k : Nat) (i : Int) : Option Int := if 0 ≤ i ∧ i < st_l k then some (st_c k i.toNat) else none
def rdG (k : Nat) (i : Int) : Option Nat := if 0 ≤ i ∧ i < lenG k then some (rowG k + i.toNat) else none
def wrI (s : Mem) (k : Nat) (i x : Int) : Option Mem := if 0 ≤ i ∧ i < lenI k then some (mu s k i.toNat x) else none
def wrB (s : Mem) (k : Nat) (i x : Int) : Option Mem := if 0 ≤ i ∧ i < lenB k then some (mu s k i.toNat (w8 x)) else none
def wrZ (s : Mem) (k : Nat) (i x : Int) : Option Mem := if (0 ≤ i ∧ i < lenZ k) ∧ (x = 0 ∨ x = 1) then some (mu s k i.toNat x) else none
def wrL (s : Mem) (k : Nat) (i x : Int) : Option Mem := if 0 ≤ i ∧ i < lenL k then some (mu s k i.toNat x) else none
def lt' {α β : Type} (a : α) (g : α → Option β) : Option β := g a
def b2 {α β : Type} (o : Option (α × Mem)) (g : α → Mem → Option β) : Option β := o.bind (fun q => g q.1 q.2)
/-- a test that must hold -/
def ck {β : Type} (c : Prop) [Decidable c] (g : Option β) : Option β := if c then g else none
theorem ck_some {β : Type} {c : Prop} [Decidable c] {g : Option β} {z : β} (h : ck c g = some z) : c ∧ g = some z := by
  unfold ck at h
  split at h
  · exact ⟨by assumption, h⟩
  · cases h
theorem b2_some {α β : Type} {o : Option (α × Mem)} {g : α → Mem → Option β} {z : β} (h : b2 o g = some z) : ∃ (r : α) (s : Mem), o = some (r, s) ∧ g r s = some z := by
  unfold b2 at h
  obtain ⟨⟨r, s⟩, h1, h2⟩ := Option.bind_eq_some_iff.mp h
  exact ⟨r, s, h1, h2⟩
theorem bd_some {α β : Type} {o : Option α} {g : α → Option β} {z : β} (h : o.bind g = some z) : ∃ r : α, o = some r ∧ g r = some z := Option.bind_eq_some_iff.mp h
theorem lt_some {α β : Type} {a : α} {g : α → Option β} {z : β} (h : lt' a g = some z) : ∃ v : α, v = a ∧ g v = some z := ⟨a, rfl, h⟩
theorem if_some_t {β : Type} {c : Prop} [Decidable c] {A B : Option β} {z : β} (h : (if c then A else B) = some z) (hc : c) : A = some z := by rw [if_pos hc] at h; exact h
theorem if_some_f {β : Type} {c : Prop} [Decidable c] {A B : Option β} {z : β} (h : (if c then A else B) = some z) (hc : ¬ c) : B = some z := by rw [if_neg hc] at h; exact h
theorem ab_pl_ok : ∀ k, k < 137 → 17 ≤ k → ∀ t ∈ ab_pl.getD k [], ∀ n, t = some n → 17 ≤ n := by
  have h : ((List.range 137).all fun k => decide (k < 17) || (ab_pl.getD k []).all fun t => match t with | some n => decide (17 ≤ n) | none => true) = true := by decide +kernel
  intro k hk hk2 t ht n hn
  have h1 := List.all_eq_true.mp h k (List.mem_range.mpr hk)
  rw [Bool.or_eq_true] at h1
  rcases h1 with h1 | h1
  · exact absurd (of_decide_eq_true h1) (by omega)
  · have h2 := List.all_eq_true.mp h1 t ht
    subst hn
    exact of_decide_eq_true h2
theorem ab_ptr_ok {k f t : Nat} (hk : k < 137) (h : ab_ptr k f = some t) {E : En} {U : State} (hC : ab_C E U) (h1 : eLo E ≤ k) : eLo E ≤ t := by
  rcases hC.2.2.2.2.1 with h0 | h0
  · omega
  · rw [h0] at h1 ⊢
    unfold ab_ptr at h
    rw [List.getD_eq_getElem?_getD] at h
    cases hq : (ab_pl.getD k [])[f]? with
    | none => rw [hq] at h; cases h
    | some u =>
      rw [hq] at h
      exact ab_pl_ok k hk h1 u (List.mem_of_getElem? hq) t h
theorem ab_row_ok : ∀ k, k < 137 → 6 ≤ (ab_sh k).1 → k ≤ rowG k := by
  have h : ((List.range 137).all fun k => decide ((ab_sh k).1 < 6) || decide (k ≤ rowG k)) = true := by decide +kernel
  intro k hk h6
  have h1 := List.all_eq_true.mp h k (List.mem_range.mpr hk)
  rw [Bool.or_eq_true] at h1
  rcases h1 with h1 | h1
  · exact absurd (of_decide_eq_true h1) (by omega)
  · exact of_decide_eq_true h1
theorem ab_lt_of {k n : Nat} (h : (ab_sh k).1 = n) (h0 : n ≠ 0) (h9 : n ≠ 9) : k < 137 := by
  rcases Nat.lt_or_ge k 137 with q | q
  · exact q
  · exfalso
    have key : ∀ j, j < 8 → (ab_sh (137 + j)).1 = 9 := by decide +kernel
    rcases Nat.lt_or_ge (k - 137) 8 with p | p
    · have := key _ p
      rw [show 137 + (k - 137) = k by omega] at this
      omega
    · have : ab_sh k = (0, 0, 0) := by
        unfold ab_sh
        rw [List.getD_eq_getElem?_getD, List.getElem?_eq_none (by have : ab_tb.length = 137 + 8 := by decide +kernel
                                                                  omega)]
        rfl
      rw [this] at h
      exact h0 h.symm
theorem ab_R.rg {E : En} {s : Mem} {H : Heap} (h : ab_R E s H) {k : Nat} (hk : (ab_sh k).1 ≠ 5) (j : Nat) : r32 (s k j) := by
  have := h.2 k j
  unfold ab_rg at this
  rw [if_neg hk] at this
  exact this
theorem ab_R.rgL {E : En} {s : Mem} {H : Heap} (h : ab_R E s H) {k : Nat} (hk : (ab_sh k).1 = 5) (j : Nat) : r64 (s k j) := by
  have := h.2 k j
  unfold ab_rg at this
  rw [if_pos hk] at this
  exact this
theorem rg_mu {s : Mem} {k j : Nat} {x : Int} (h : ∀ a b, ab_rg a (s a b)) (hx : ab_rg k x) : ∀ a b, ab_rg a (mu s k j x a b) := by
  intro a b
  by_cases ha : a = k
  · subst ha
    rw [mu_same]
    unfold fu
    split
    · exact hx
    · exact h a b
  · rw [mu_ne s j x ha]; exact h a b
theorem ent_I {E : En} {s : Mem} {k : Nat} (h : (ab_sh k).1 = 2 ∨ (ab_sh k).1 = 3 ∨ (ab_sh k).1 = 4) : ab_ent E s k = .inl (eCA E k, (ab_sh k).2.1, .inl (fun j => Int32.ofInt (s k j))) := by
  unfold ab_ent
  rw [if_neg (by omega), if_neg (by omega), if_pos (by omega)]
theorem ent_L {E : En} {s : Mem} {k : Nat} (h : (ab_sh k).1 = 5) : ab_ent E s k = .inl (eCA E k, (ab_sh k).2.1, .inr (.inl (fun j => Int64.ofInt (s k j)))) := by
  unfold ab_ent
  rw [if_neg (by omega), if_pos h]
theorem ent_G {E : En} {s : Mem} {k : Nat} (h : 6 ≤ (ab_sh k).1) : ab_ent E s k = .inl (eCA E k, (ab_sh k).2.1, .inr (.inr (.inr (.inr (fun j => some (eAd E (rowG k + j))))))) := by
  unfold ab_ent
  rw [if_neg (by omega), if_neg (by omega), if_neg (by omega)]
  rfl
theorem ent_O {E : En} {s : Mem} {k ci : Nat} (h : ab_sh k = (1, ci, 0)) : ab_ent E s k = .inr (ci, (List.range (ab_nf.getD ci 0)).map (ab_fv E s k)) := by
  unfold ab_ent
  rw [h]
  rfl
theorem fun_mu (s : Mem) (k j : Nat) (x : Int) : (fun i => Int32.ofInt (mu s k j x k i)) = upd (fun i => Int32.ofInt (s k i)) j (Int32.ofInt x) := by
  funext i
  rw [mu_same]
  unfold fu upd
  split <;> rfl
theorem fun_muL (s : Mem) (k j : Nat) (x : Int) : (fun i => Int64.ofInt (mu s k j x k i)) = vp_updL (fun i => Int64.ofInt (s k i)) j (Int64.ofInt x) := by
  funext i
  rw [mu_same]
  unfold fu vp_updL
  split <;> rfl
theorem lenI_k {k : Nat} {i : Int} (h0 : 0 ≤ i) (h : i < lenI k) : (ab_sh k).1 = 2 ∧ i < (ab_sh k).2.1 := by
  unfold lenI at h
  split at h
  · exact ⟨by assumption, h⟩
  · omega
theorem lenB_k {k : Nat} {i : Int} (h0 : 0 ≤ i) (h : i < lenB k) : (ab_sh k).1 = 3 ∧ i < (ab_sh k).2.1 := by
  unfold lenB at h
  split at h
  · exact ⟨by assumption, h⟩
  · omega
theorem lenZ_k {k : Nat} {i : Int} (h0 : 0 ≤ i) (h : i < lenZ k) : (ab_sh k).1 = 4 ∧ i < (ab_sh k).2.1 := by
  unfold lenZ at h
  split at h
  · exact ⟨by assumption, h⟩
  · omega
theorem lenL_k {k : Nat} {i : Int} (h0 : 0 ≤ i) (h : i < lenL k) : (ab_sh k).1 = 5 ∧ i < (ab_sh k).2.1 := by
  unfold lenL at h
  split at h
  · exact ⟨by assumption, h⟩
  · omega
theorem lenG_k {k : Nat} {i : Int} (h0 : 0 ≤ i) (h : i < lenG k) : 6 ≤ (ab_sh k).1 ∧ (ab_sh k).1 ≤ 8 ∧ i < (ab_sh k).2.1 := by
  unfold lenG at h
  split at h
  · rename_i q; exact ⟨q.1, q.2, h⟩
  · omega
theorem ab_K1 {E : En} {U : State} (h : ab_C E U) {k : Nat} (h1 : eLo E ≤ k) (h2 : k < 137) (h3 : (ab_sh k).1 ≠ 1) {ty : FieldType} (ht : ab_ft k = ty) : va_K (eD E) vwCl [(eCA E k, ty)] U := by
  refine ⟨h.2.1.1, fun j q hq => ?_⟩
  have hj : j < 1 := (List.getElem?_eq_some_iff.mp hq).1
  rw [show j = 0 by omega] at hq
  cases hq
  rw [← ht]
  exact h.2.2.1 k h1 h2 h3
section MW
variable {E : En} {b : Bn} {Q : State → Prop} {nL pc : Nat} {ls : List (Nat × AV)} {st : List AV} {s : Mem} {cc : ByteArray} {own : String} {ret : Option FieldType} {d : Nat} {γ : Type} {z : γ}
theorem x_iald (G : ab_G E b cc nL own ret d) {k : Nat} {i : Int} {g : Int → Option γ} (hd : decode cc pc = .ok (.iaload, 1)) (h : (rdI s k i).bind g = some z) (kk : ∀ x, x = s k i.toNat → g x = some z → ab_X E b Q nL (pc + 1) ls (vI x :: st) s) : ab_X E b Q nL pc ls (vI i :: vR k :: st) s := by
  obtain ⟨x, h1, h2⟩ := bd_some h
  unfold rdI at h1
  split at h1
  · rename_i hc
    cases h1
    obtain ⟨hk2, hk3⟩ := lenI_k hc.1 hc.2
    have hkN := ab_lt_of hk2 (by decide) (by decide)
    have kk := kk _ rfl h2
    obtain ⟨p, l, e, R, s0, m, args, below, meth, c, cells, slots⟩ := b
    intro H locs a hR hS hl ho hs
    have hi := (oks hs).1
    have hk := (oks (oks hs).2).1
    refine va_iald (i := Int32.ofInt i) (f := fun j => Int32.ofInt (s k j)) G.1 G.2.1 (ab_K1 G.2.2.2.2.1 hk hkN (by omega) (ty := .int) (by unfold ab_ft; rw [hk2]; rfl)) hR.1 (k - eLo E) 0 (by rw [ab_ws_at E s hk hkN, ent_I (Or.inl hk2)]) rfl (oi_in hi hc.1 hk3) hd ?_
    try dsimp only
    rw [oi_clamp hi hc.1]
    exact kk H locs a hR hS hl ho (okc (hR.rg (by omega) _) (oks (oks hs).2).2)
  · cases h1
theorem x_bald (G : ab_G E b cc nL own ret d) {k : Nat} {i : Int} {g : Int → Option γ} (hd : decode cc pc = .ok (.baload, 1)) (h : (rdB s k i).bind g = some z) (kk : ∀ x, x = s k i.toNat → g x = some z → ab_X E b Q nL (pc + 1) ls (vI x :: st) s) : ab_X E b Q nL pc ls (vI i :: vR k :: st) s := by
  obtain ⟨x, h1, h2⟩ := bd_some h
  unfold rdB at h1
  split at h1
  · rename_i hc
    cases h1
    obtain ⟨hk2, hk3⟩ := lenB_k hc.1 hc.2
    have hkN := ab_lt_of hk2 (by decide) (by decide)
    have kk := kk _ rfl h2
    obtain ⟨p, l, e, R, s0, m, args, below, meth, c, cells, slots⟩ := b
    intro H locs a hR hS hl ho hs
    have hi := (oks hs).1
    have hk := (oks (oks hs).2).1
    refine va_bald (i := Int32.ofInt i) (f := fun j => Int32.ofInt (s k j)) G.1 G.2.1 (ab_K1 G.2.2.2.2.1 hk hkN (by omega) (ty := .byte) (by unfold ab_ft; rw [hk2]; rfl)) hR.1 (k - eLo E) 0 (by rw [ab_ws_at E s hk hkN, ent_I (Or.inr (Or.inl hk2))]) rfl (oi_in hi hc.1 hk3) hd ?_
    try dsimp only
    rw [oi_clamp hi hc.1]
    exact kk H locs a hR hS hl ho (okc (hR.rg (by omega) _) (oks (oks hs).2).2)
  · cases h1
theorem x_zald (G : ab_G E b cc nL own ret d) {k : Nat} {i : Int} {g : Int → Option γ} (hd : decode cc pc = .ok (.baload, 1)) (h : (rdZ s k i).bind g = some z) (kk : ∀ x, x = s k i.toNat → g x = some z → ab_X E b Q nL (pc + 1) ls (vI x :: st) s) : ab_X E b Q nL pc ls (vI i :: vR k :: st) s := by
  obtain ⟨x, h1, h2⟩ := bd_some h
  unfold rdZ at h1
  split at h1
  · rename_i hc
    cases h1
    obtain ⟨hk2, hk3⟩ := lenZ_k hc.1 hc.2
    have hkN := ab_lt_of hk2 (by decide) (by decide)
    have kk := kk _ rfl h2
    obtain ⟨p, l, e, R, s0, m, args, below, meth, c, cells, slots⟩ := b
    intro H locs a hR hS hl ho hs
    have hi := (oks hs).1
    have hk := (oks (oks hs).2).1
    refine va_zald (i := Int32.ofInt i) (f := fun j => Int32.ofInt (s k j)) G.1 G.2.1 (ab_K1 G.2.2.2.2.1 hk hkN (by omega) (ty := .boolean) (by unfold ab_ft; rw [hk2]; rfl)) hR.1 (k - eLo E) 0 (by rw [ab_ws_at E s hk hkN, ent_I (Or.inr (Or.inr hk2))]) rfl (oi_in hi hc.1 hk3) hd ?_
    try dsimp only
    rw [oi_clamp hi hc.1]
    exact kk H locs a hR hS hl ho (okc (hR.rg (by omega) _) (oks (oks hs).2).2)
  · cases h1
theorem x_lald (G : ab_G E b cc nL own ret d) {k : Nat} {i : Int} {g : Int → Option γ} (hd : decode cc pc = .ok (.laload, 1)) (h : (rdL s k i).bind g = some z) (kk : ∀ x, x = s k i.toNat → g x = some z → ab_X E b Q nL (pc + 1) ls (vL x :: st) s) : ab_X E b Q nL pc ls (vI i :: vR k :: st) s := by
  obtain ⟨x, h1, h2⟩ := bd_some h
  unfold rdL at h1
  split at h1
  · rename_i hc
    cases h1
    obtain ⟨hk2, hk3⟩ := lenL_k hc.1 hc.2
    have hkN := ab_lt_of hk2 (by decide) (by decide)
    have kk := kk _ rfl h2
    obtain ⟨p, l, e, R, s0, m, args, below, meth, c, cells, slots⟩ := b
    intro H locs a hR hS hl ho hs
    have hi := (oks hs).1
    have hk := (oks (oks hs).2).1
    refine va_lald (i := Int32.ofInt i) (f := fun j => Int64.ofInt (s k j)) G.1 G.2.1 (ab_K1 G.2.2.2.2.1 hk hkN (by omega) (ty := .long) (by unfold ab_ft; rw [hk2]; rfl)) hR.1 (k - eLo E) 0 (by rw [ab_ws_at E s hk hkN, ent_L hk2]) rfl (oi_in hi hc.1 hk3) hd ?_
    try dsimp only
    rw [oi_clamp hi hc.1]
    exact kk H locs a hR hS hl ho (okc (hR.rgL hk2 _) (oks (oks hs).2).2)
  · cases h1
theorem x_aald (G : ab_G E b cc nL own ret d) {k : Nat} {i : Int} {g : Nat → Option γ} (hd : decode cc pc = .ok (.aaload, 1)) (h : (rdG k i).bind g = some z) (kk : 0 ≤ i → i < lenG k → ∀ x, x = rowG k + i.toNat → g x = some z → ab_X E b Q nL (pc + 1) ls (vR x :: st) s) : ab_X E b Q nL pc ls (vI i :: vR k :: st) s := by
  obtain ⟨x, h1, h2⟩ := bd_some h
  unfold rdG at h1
  split at h1
  · rename_i hc
    cases h1
    obtain ⟨hk2, hk8, hk3⟩ := lenG_k hc.1 hc.2
    have hkN := ab_lt_of (k := k) rfl (by omega) (by omega)
    have kk := kk hc.1 hc.2 _ rfl h2
    obtain ⟨p, l, e, R, s0, m, args, below, meth, c, cells, slots⟩ := b
    intro H locs a hR hS hl ho hs
    have hi := (oks hs).1
    have hk := (oks (oks hs).2).1
    have ha : (ab_ws E s)[k - eLo E]? = some (eAd E k, .inl (eCA E k, (ab_sh k).2.1, .inr (.inr (.inr (.inr (fun j => some (eAd E (rowG k + j)))))))) := by rw [ab_ws_at E s hk hkN, ent_G hk2]
    have hin := oi_in hi hc.1 hk3
    have hcl := oi_clamp hi hc.1
    have hlt : (Int32.ofInt i).toNatClampNeg < (ab_sh k).2.1 := by
      rw [hcl]
      have h0 := hc.1
      omega
    refine W.aald (v := .ref (eAd E (rowG k + i.toNat))) (ty := ab_ft k) G.1 G.2.1 (hR.1 _ _ ha) ((G.2.2.2.2.1.2.2.1 k hk hkN (by omega)).1 _ (fun j => va_rf (some (eAd E (rowG k + j))))) ?_ (fun q => by cases q) (by show ¬ (_ ∨ (arrV _ _ _).slots.size ≤ _); rw [arrV_size]; exact hin) (by show (arrV _ _ _).slots[_]? = _; rw [arrV_read _ _ hlt, hcl]; rfl) rfl rfl hd ?_
    · unfold ab_ft
      rcases (show (ab_sh k).1 = 6 ∨ (ab_sh k).1 = 7 ∨ (ab_sh k).1 = 8 by omega) with q | q | q <;> rw [q] <;> rfl
    · refine kk H locs a hR hS hl ho (okc ?_ (oks (oks hs).2).2)
      have := ab_row_ok k hkN hk2
      show eLo E ≤ rowG k + i.toNat
      have hk' : eLo E ≤ k := hk
      omega
  · cases h1
theorem x_siald (G : ab_G E b cc nL own ret d) {k : Nat} {i : Int} {g : Int → Option γ} (hd : decode cc pc = .ok (.iaload, 1)) (h : (rdS k i).bind g = some z) (kk : ∀ x, x = st_c k i.toNat → g x = some z → ab_X E b Q nL (pc + 1) ls (vI x :: st) s) : ab_X E b Q nL pc ls (vI i :: vR k :: st) s := by
  obtain ⟨x, h1, h2⟩ := bd_some h
  unfold rdS at h1
  split at h1
  · rename_i hc
    have h1 := Option.some.inj h1
    subst h1
    have hk9 : (ab_sh k).1 = 9 ∧ i < (ab_sh k).2.1 := by
      have hc2 := hc.2
      unfold st_l at hc2
      split at hc2
      · exact ⟨by assumption, hc2⟩
      · omega
    have key : ∀ n, n < 137 → (ab_sh n).1 ≠ 9 := by
      have h : ((List.range 137).all fun k => decide ((ab_sh k).1 ≠ 9)) = true := by decide +kernel
      intro n hn
      exact of_decide_eq_true (List.all_eq_true.mp h n (List.mem_range.mpr hn))
    have hlo : 137 ≤ k := by
      rcases Nat.lt_or_ge k 137 with q | q
      · exact absurd hk9.1 (key k q)
      · exact q
    have hhi : k < 137 + 8 := by
      rcases Nat.lt_or_ge k (137 + 8) with q | q
      · exact q
      · exfalso
        have h9 := hk9.1
        unfold ab_sh at h9
        rw [List.getD_eq_getElem?_getD, List.getElem?_eq_none (by have : ab_tb.length = 137 + 8 := by decide +kernel
                                                                  omega)] at h9
        cases h9
    have kk := kk _ rfl h2
    have hrng : r32 (st_c k i.toNat) := by
      have h : ((List.range 8).all fun j => (st_tb.getD j []).all fun v => decide (-2147483648 ≤ v ∧ v < 2147483648)) = true := by decide +kernel
      have h1 := List.all_eq_true.mp h (k - 137) (List.mem_range.mpr (by omega))
      unfold st_c
      rw [List.getD_eq_getElem?_getD]
      cases hq : (st_tb.getD (k - 137) [])[i.toNat]? with
      | none => show r32 0; unfold r32; omega
      | some v =>
        have h2 : -2147483648 ≤ v ∧ v < 2147483648 := of_decide_eq_true (List.all_eq_true.mp h1 v (List.mem_of_getElem? hq))
        exact h2
    obtain ⟨p, l, e, R, s0, m, args, below, meth, c, cells, slots⟩ := b
    intro H locs a hR hS hl ho hs
    have hi := (oks hs).1
    have hT := (G.2.2.2.2.1.2.2.2.1 (k - 137) (by omega)).2
    rw [show 137 + (k - 137) = k by omega] at hT
    exact va_ti (i := Int32.ofInt i) (v := .int (Int32.ofInt (st_c k i.toNat))) G.1 G.2.1 hT hS (oi_in hi hc.1 hc.2) (by rw [oi_clamp hi hc.1]) hd (kk H locs a hR hS hl ho (okc hrng (oks (oks hs).2).2))
  · cases h1
theorem x_slen (G : ab_G E b cc nL own ret d) {k : Nat} (hd : decode cc pc = .ok (.arraylength, 1)) (hlo : 137 ≤ k) (hhi : k < 137 + 8) (kk : ab_X E b Q nL (pc + 1) ls (vI (st_l k) :: st) s) : ab_X E b Q nL pc ls (vR k :: st) s := by
  obtain ⟨p, l, e, R, s0, m, args, below, meth, c, cells, slots⟩ := b
  intro H locs a hR hS hl ho hs
  have hT := (G.2.2.2.2.1.2.2.2.1 (k - 137) (by omega)).2
  rw [show 137 + (k - 137) = k by omega] at hT
  have hb : st_l k < 100 := by
    have h : ∀ j, j < 8 → st_l (137 + j) < 100 := by decide +kernel
    have := h (k - 137) (by omega)
    rw [show 137 + (k - 137) = k by omega] at this
    exact this
  exact va_tlen (v := Int32.ofInt (st_l k)) G.1 G.2.1 hT hS rfl hd (kk H locs a hR hS hl ho (okc (by show r32 _; unfold r32; omega) (oks hs).2))
theorem x_ilen (G : ab_G E b cc nL own ret d) {k : Nat} (hd : decode cc pc = .ok (.arraylength, 1)) (hk2 : (ab_sh k).1 = 2) (hb : (ab_sh k).2.1 < 1000) (kk : ab_X E b Q nL (pc + 1) ls (vI (lenI k) :: st) s) : ab_X E b Q nL pc ls (vR k :: st) s := by
  have hkN := ab_lt_of hk2 (by decide) (by decide)
  obtain ⟨p, l, e, R, s0, m, args, below, meth, c, cells, slots⟩ := b
  intro H locs a hR hS hl ho hs
  have hk := (oks hs).1
  have he : lenI k = (ab_sh k).2.1 := by unfold lenI; rw [if_pos hk2]
  refine va_alen (x := ((ab_sh k).2.1, .inl (fun j => Int32.ofInt (s k j)))) (v := Int32.ofInt (lenI k)) G.1 G.2.1 (ab_K1 G.2.2.2.2.1 hk hkN (by omega) (ty := .int) (by unfold ab_ft; rw [hk2]; rfl)) hR.1 (k - eLo E) 0 (by rw [ab_ws_at E s hk hkN, ent_I (Or.inl hk2)]) rfl (by rw [he]; rfl) hd ?_
  exact kk H locs a hR hS hl ho (okc (by show r32 _; unfold r32; omega) (oks hs).2)
theorem x_iast (G : ab_G E b cc nL own ret d) {k : Nat} {i x : Int} {g : Mem → Option γ} (hd : decode cc pc = .ok (.iastore, 1)) (h : (wrI s k i x).bind g = some z) (kk : ∀ s', s' = mu s k i.toNat x → g s' = some z → ab_X E b Q nL (pc + 1) ls st s') : ab_X E b Q nL pc ls (vI x :: vI i :: vR k :: st) s := by
  obtain ⟨s', h1, h2⟩ := bd_some h
  unfold wrI at h1
  split at h1
  · rename_i hc
    cases h1
    obtain ⟨hk2, hk3⟩ := lenI_k hc.1 hc.2
    have hkN := ab_lt_of hk2 (by decide) (by decide)
    have kk := kk _ rfl h2
    obtain ⟨p, l, e, R, s0, m, args, below, meth, c, cells, slots⟩ := b
    intro H locs a hR hS hl ho hs
    have hx := (oks hs).1
    have hi := (oks (oks hs).2).1
    have hk := (oks (oks (oks hs).2).2).1
    have hws : (ab_ws E s)[k - eLo E]? = some (eAd E k, .inl (eCA E k, (ab_sh k).2.1, .inl (fun j => Int32.ofInt (s k j)))) := by rw [ab_ws_at E s hk hkN, ent_I (Or.inl hk2)]
    refine va_iast (i := Int32.ofInt i) (x := Int32.ofInt x) (f := fun j => Int32.ofInt (s k j)) G.1 G.2.1 (ab_K1 G.2.2.2.2.1 hk hkN (by omega) (ty := .int) (by unfold ab_ft; rw [hk2]; rfl)) hR.1 (ab_ws_D s G.2.2.2.2.1) hS (k - eLo E) 0 hws rfl (oi_in hi hc.1 hk3) hd (fun H1 locs1 hP _ hS1 => ?_)
    rw [oi_clamp hi hc.1, ← fun_mu, ← ent_I (E := E) (s := mu s k i.toNat x) (Or.inl hk2), ab_ws_set E s i.toNat x hk hkN] at hP
    exact kk H1 locs1 a ⟨hP, rg_mu hR.2 (by unfold ab_rg; rw [if_neg (by omega)]; exact hx)⟩ hS1 hl ho (oks (oks (oks hs).2).2).2
  · cases h1
theorem vpn_b {x : Int} : vp_nar .byte (Int32.ofInt x) = Int32.ofInt (w8 x) := by rw [vp_nar_byte, oi_i2b]
theorem x_bast (G : ab_G E b cc nL own ret d) {k : Nat} {i x : Int} {g : Mem → Option γ} (hd : decode cc pc = .ok (.bastore, 1)) (h : (wrB s k i x).bind g = some z) (kk : ∀ s', s' = mu s k i.toNat (w8 x) → g s' = some z → ab_X E b Q nL (pc + 1) ls st s') : ab_X E b Q nL pc ls (vI x :: vI i :: vR k :: st) s := by
  obtain ⟨s', h1, h2⟩ := bd_some h
  unfold wrB at h1
  split at h1
  · rename_i hc
    cases h1
    obtain ⟨hk2, hk3⟩ := lenB_k hc.1 hc.2
    have hkN := ab_lt_of hk2 (by decide) (by decide)
    have kk := kk _ rfl h2
    obtain ⟨p, l, e, R, s0, m, args, below, meth, c, cells, slots⟩ := b
    intro H locs a hR hS hl ho hs
    have hx := (oks hs).1
    have hi := (oks (oks hs).2).1
    have hk := (oks (oks (oks hs).2).2).1
    have hws : (ab_ws E s)[k - eLo E]? = some (eAd E k, .inl (eCA E k, (ab_sh k).2.1, .inl (fun j => Int32.ofInt (s k j)))) := by rw [ab_ws_at E s hk hkN, ent_I (Or.inr (Or.inl hk2))]
    refine va_bast (i := Int32.ofInt i) (x := Int32.ofInt x) (f := fun j => Int32.ofInt (s k j)) G.1 G.2.1 (ab_K1 G.2.2.2.2.1 hk hkN (by omega) (ty := .byte) (by unfold ab_ft; rw [hk2]; rfl)) hR.1 (ab_ws_D s G.2.2.2.2.1) hS (k - eLo E) 0 hws rfl (oi_in hi hc.1 hk3) hd (fun H1 locs1 hP _ hS1 => ?_)
    rw [vpn_b, oi_clamp hi hc.1, ← fun_mu, ← ent_I (E := E) (s := mu s k i.toNat (w8 x)) (Or.inr (Or.inl hk2)), ab_ws_set E s i.toNat _ hk hkN] at hP
    exact kk H1 locs1 a ⟨hP, rg_mu hR.2 (by unfold ab_rg; rw [if_neg (by omega)]; exact r32_w8 x)⟩ hS1 hl ho (oks (oks (oks hs).2).2).2
  · cases h1
theorem vpn_z {x : Int} (h : x = 0 ∨ x = 1) : vp_nar .boolean (Int32.ofInt x) = Int32.ofInt x := by rcases h with rfl | rfl <;> decide
theorem nar_z {x : Int} (h : x = 0 ∨ x = 1) : narrow .boolean (.int (Int32.ofInt x)) = .int (Int32.ofInt x) := by rcases h with rfl | rfl <;> decide
theorem x_zast (G : ab_G E b cc nL own ret d) {k : Nat} {i x : Int} {g : Mem → Option γ} (hd : decode cc pc = .ok (.bastore, 1)) (h : (wrZ s k i x).bind g = some z) (kk : ∀ s', s' = mu s k i.toNat x → g s' = some z → ab_X E b Q nL (pc + 1) ls st s') : ab_X E b Q nL pc ls (vI x :: vI i :: vR k :: st) s := by
  obtain ⟨s', h1, h2⟩ := bd_some h
  unfold wrZ at h1
  split at h1
  · rename_i hc0
    obtain ⟨hc, hx01⟩ := hc0
    cases h1
    obtain ⟨hk2, hk3⟩ := lenZ_k hc.1 hc.2
    have hkN := ab_lt_of hk2 (by decide) (by decide)
    have kk := kk _ rfl h2
    obtain ⟨p, l, e, R, s0, m, args, below, meth, c, cells, slots⟩ := b
    intro H locs a hR hS hl ho hs
    have hx := (oks hs).1
    have hi := (oks (oks hs).2).1
    have hk := (oks (oks (oks hs).2).2).1
    have hws : (ab_ws E s)[k - eLo E]? = some (eAd E k, .inl (eCA E k, (ab_sh k).2.1, .inl (fun j => Int32.ofInt (s k j)))) := by rw [ab_ws_at E s hk hkN, ent_I (Or.inr (Or.inr hk2))]
    refine va_zast (i := Int32.ofInt i) (x := Int32.ofInt x) (f := fun j => Int32.ofInt (s k j)) G.1 G.2.1 (ab_K1 G.2.2.2.2.1 hk hkN (by omega) (ty := .boolean) (by unfold ab_ft; rw [hk2]; rfl)) hR.1 (ab_ws_D s G.2.2.2.2.1) hS (k - eLo E) 0 hws rfl (oi_in hi hc.1 hk3) hd (fun H1 locs1 hP _ hS1 => ?_)
    rw [vpn_z hx01, oi_clamp hi hc.1, ← fun_mu, ← ent_I (E := E) (s := mu s k i.toNat x) (Or.inr (Or.inr hk2)), ab_ws_set E s i.toNat _ hk hkN] at hP
    exact kk H1 locs1 a ⟨hP, rg_mu hR.2 (by unfold ab_rg; rw [if_neg (by omega)]; exact hx)⟩ hS1 hl ho (oks (oks (oks hs).2).2).2
  · cases h1
theorem x_last (G : ab_G E b cc nL own ret d) {k : Nat} {i x : Int} {g : Mem → Option γ} (hd : decode cc pc = .ok (.lastore, 1)) (h : (wrL s k i x).bind g = some z) (kk : ∀ s', s' = mu s k i.toNat x → g s' = some z → ab_X E b Q nL (pc + 1) ls st s') : ab_X E b Q nL pc ls (vL x :: vI i :: vR k :: st) s := by
  obtain ⟨s', h1, h2⟩ := bd_some h
  unfold wrL at h1
  split at h1
  · rename_i hc
    cases h1
    obtain ⟨hk2, hk3⟩ := lenL_k hc.1 hc.2
    have hkN := ab_lt_of hk2 (by decide) (by decide)
    have kk := kk _ rfl h2
    obtain ⟨p, l, e, R, s0, m, args, below, meth, c, cells, slots⟩ := b
    intro H locs a hR hS hl ho hs
    have hx := (oks hs).1
    have hi := (oks (oks hs).2).1
    have hk := (oks (oks (oks hs).2).2).1
    have hws : (ab_ws E s)[k - eLo E]? = some (eAd E k, .inl (eCA E k, (ab_sh k).2.1, .inr (.inl (fun j => Int64.ofInt (s k j))))) := by rw [ab_ws_at E s hk hkN, ent_L hk2]
    refine va_last (i := Int32.ofInt i) (x := Int64.ofInt x) (f := fun j => Int64.ofInt (s k j)) G.1 G.2.1 (ab_K1 G.2.2.2.2.1 hk hkN (by omega) (ty := .long) (by unfold ab_ft; rw [hk2]; rfl)) hR.1 (ab_ws_D s G.2.2.2.2.1) hS (k - eLo E) 0 hws rfl (oi_in hi hc.1 hk3) hd (fun H1 locs1 hP _ hS1 => ?_)
    rw [oi_clamp hi hc.1, ← fun_muL, ← ent_L (E := E) (s := mu s k i.toNat x) hk2, ab_ws_set E s i.toNat x hk hkN] at hP
    exact kk H1 locs1 a ⟨hP, rg_mu hR.2 (by unfold ab_rg; rw [if_pos hk2]; exact hx)⟩ hS1 hl ho (oks (oks (oks hs).2).2).2
  · cases h1
end MW

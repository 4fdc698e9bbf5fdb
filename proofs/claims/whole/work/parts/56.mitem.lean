/-! ===== ITEMS ===== -/
def epi (T : Nat → Int) (tl : Nat) : Nat → Nat → Nat
  | 0, p => p
  | k + 1, p => ep T tl (epi T tl k p)
/-- the numbers of an ITEM whose letter is L stand at p: so many -/
def wnt (L : Int) : Nat := if L = 104 then 4 else if L = 98 then 5 else if L = 115 then 6 else if L = 100 then 3 else if L = 103 then 3 else if L = 114 then 2 else if L = 119 then 1 else 0
/-- whether it is so, with so many HARBOURS, SORTS, STORMS ahead of it -/
def gdI (T : Nat → Int) (tl : Nat) (cH cB cS : Nat) (L : Int) (p : Nat) : Bool :=
  if L = 104 then (okn T tl (epi T tl 0 p) (1) (99) 44 && okn T tl (epi T tl 1 p) (1) (9) 44 && okn T tl (epi T tl 2 p) (1) (10) 44 && okn T tl (epi T tl 3 p) (0) (15) 59) && decide (cH < 4) else
  if L = 98 then (okn T tl (epi T tl 0 p) (1) (8) 44 && okn T tl (epi T tl 1 p) (1) (9) 44 && okn T tl (epi T tl 2 p) (0) (99) 44 && okn T tl (epi T tl 3 p) (0) (999) 44 && okn T tl (epi T tl 4 p) (0) (9) 59) && decide (cB < 4) else
  if L = 115 then (okn T tl (epi T tl 0 p) (0) (10) 44 && okn T tl (epi T tl 1 p) (0) (23) 44 && okn T tl (epi T tl 2 p) (1) (9) 44 && okn T tl (epi T tl 3 p) (0) (9) 44 && okn T tl (epi T tl 4 p) (0) (24) 44 && okn T tl (epi T tl 5 p) (0) (3) 59) && decide (cS < 4) else
  if L = 100 then okn T tl (epi T tl 0 p) (0) ((cB : Int) - 1) 44 && okn T tl (epi T tl 1 p) (0) ((cH : Int) - 1) 44 && okn T tl (epi T tl 2 p) (1) (99) 59 else
  if L = 103 then okn T tl (epi T tl 0 p) (0) ((cS : Int) - 1) 44 && okn T tl (epi T tl 1 p) (0) (23) 44 && okn T tl (epi T tl 2 p) (0) (9) 59 else
  if L = 114 then okn T tl (epi T tl 0 p) (1) (9) 44 && okn T tl (epi T tl 1 p) (0) (200) 59 else
  if L = 119 then okn T tl (epi T tl 0 p) (1) (9) 59 else false
/-- what it makes of the sea -/
def efI (T : Nat → Int) (tl : Nat) (D : Nat → Int) (cH cB cS : Nat) (L : Int) (p : Nat) : Nat → Int :=
  if L = 104 then (fu (fu (fu (fu (fu D (0 + 4 * cH) (nn T tl (epi T tl 0 p))) (0 + 4 * cH + 1) (nn T tl (epi T tl 1 p))) (0 + 4 * cH + 2) (nn T tl (epi T tl 2 p))) (0 + 4 * cH + 3) (nn T tl (epi T tl 3 p))) (183) ((cH : Int) + 1)) else
  if L = 98 then (fu (fu (fu (fu (fu (fu D (16 + 5 * cB) (nn T tl (epi T tl 0 p))) (16 + 5 * cB + 1) (nn T tl (epi T tl 1 p))) (16 + 5 * cB + 2) (nn T tl (epi T tl 2 p))) (16 + 5 * cB + 3) (nn T tl (epi T tl 3 p))) (16 + 5 * cB + 4) (nn T tl (epi T tl 4 p))) (184) ((cB : Int) + 1)) else
  if L = 115 then (fu (fu (fu (fu (fu (fu (fu D (52 + 6 * cS) (nn T tl (epi T tl 0 p))) (52 + 6 * cS + 1) (nn T tl (epi T tl 1 p))) (52 + 6 * cS + 2) (nn T tl (epi T tl 2 p))) (52 + 6 * cS + 3) (nn T tl (epi T tl 3 p))) (52 + 6 * cS + 4) (nn T tl (epi T tl 4 p))) (52 + 6 * cS + 5) (nn T tl (epi T tl 5 p))) (185) ((cS : Int) + 1)) else
  if L = 100 then fu D (36 + (4 * (nn T tl (epi T tl 0 p)).toNat + (nn T tl (epi T tl 1 p)).toNat)) (nn T tl (epi T tl 2 p)) else
  if L = 103 then fu D (76 + (24 * (nn T tl (epi T tl 0 p)).toNat + (nn T tl (epi T tl 1 p)).toNat)) (nn T tl (epi T tl 2 p)) else
  if L = 114 then fu D (172 + (nn T tl (epi T tl 0 p)).toNat) (nn T tl (epi T tl 1 p)) else
  if L = 119 then fu D 182 (nn T tl (epi T tl 0 p)) else D
def DrM (s : Mem) (D : Nat → Int) : Prop := ∀ k, k < 186 → s 1 (186 + k) = D k
/-- cells but the reference's own one and its sea are as they were, its sea below the draft too -/
def FrI (s s' : Mem) : Prop := (∀ k, k ≠ 0 → k ≠ 1 → s' k = s k) ∧ (∀ f, f ≠ 7 → f ≠ 8 → s' 0 f = s 0 f) ∧ (∀ k, k < 186 → s' 1 k = s 1 k)
section IT
variable {T : Nat → Int} {tl : Nat} {s s' : Mem} {D : Nat → Int}
theorem FrI.rf : FrI s s := ⟨fun _ _ _ => rfl, fun _ _ _ => rfl, fun _ _ => rfl⟩
theorem FrI.trans {s1 s2 s3 : Mem} (h : FrI s1 s2) (h2 : FrI s2 s3) : FrI s1 s3 := ⟨fun k a b => (h2.1 k a b).trans (h.1 k a b), fun f a b => (h2.2.1 f a b).trans (h.2.1 f a b), fun k a => (h2.2.2 k a).trans (h.2.2 k a)⟩
theorem FrI.mp (s : Mem) (w : Bool) (p : Nat) : FrI s (mp s w p) := ⟨fun k a _ => mp_c s w p a, fun f a b => mp_f s w p a b, fun k _ => by rw [mp_c s w p (by decide)]⟩
theorem FrI.sea {k : Nat} {x : Int} : FrI s (mu s 1 (186 + k) x) := ⟨fun a _ h1 => mu_ne _ _ _ h1, fun f _ _ => by rw [mu_ne _ _ _ (by decide)], fun a ha => by rw [mu_same, fu_ne _ _ (by omega)]⟩
theorem DrM.put (h : DrM s D) {k : Nat} {x : Int} : DrM (mu s 1 (186 + k) x) (fu D k x) := by
  intro a ha
  rw [mu_same]
  by_cases c : a = k
  · subst c; rw [fu_same, fu_same]
  · rw [fu_ne _ _ (by omega), fu_ne _ _ c]; exact h a ha
theorem DrM.mp (h : DrM s D) (w : Bool) (p : Nat) : DrM (mp s w p) D := fun k hk => by rw [mp_c s w p (by decide)]; exact h k hk
theorem m_draft (h : DrM s D) {k : Nat} (hk : k < 186) (w : Bool) (p : Nat) : fX9_draft (k : Int) (mp s w p) = some (D k, mp s w p) := by
  simp (disch := omega) only [fX9_draft, nab, na_0, na_1, na_2, na_3, na_4, na_5, na_6, na_8, na_10, na_12, na_16, na_24, na_36, na_52, na_76, na_120, na_172, na_186, nb_0, nb_1, nb_2, nb_3, nb_4, nb_5, nb_6, nb_8, nb_10, nb_12, nb_16, nb_24, nb_36, nb_52, nb_76, nb_120, nb_172, nb_186, nm_2, nm_3, nm_4, nm_5, nm_6, nm_8, nm_10, nm_12, nm_16, nm_24, nm_36, nm_52, nm_76, nm_120, nm_172, nm_186, nn_2, nn_3, nn_4, nn_5, nn_6, nn_8, nn_10, nn_12, nn_16, nn_24, nn_36, nn_52, nn_76, nn_120, nn_172, nn_186, rd_m_sea, bo_ok, Int.toNat_natCast]
  rw [mp_c s w p (by decide), h k hk]
theorem m_puts_t {k : Nat} {v : Int} (hk : k < 186) (p : Nat) : fX9_puts (k : Int) v (mp s true p) = some (mp (mu s 1 (186 + k) v) true p) := by
  unfold fX9_puts
  rw [mp_8, if_neg (by decide)]
  simp (disch := omega) only [nab, na_0, na_1, na_2, na_3, na_4, na_5, na_6, na_8, na_10, na_12, na_16, na_24, na_36, na_52, na_76, na_120, na_172, na_186, nb_0, nb_1, nb_2, nb_3, nb_4, nb_5, nb_6, nb_8, nb_10, nb_12, nb_16, nb_24, nb_36, nb_52, nb_76, nb_120, nb_172, nb_186, nm_2, nm_3, nm_4, nm_5, nm_6, nm_8, nm_10, nm_12, nm_16, nm_24, nm_36, nm_52, nm_76, nm_120, nm_172, nm_186, nn_2, nn_3, nn_4, nn_5, nn_6, nn_8, nn_10, nn_12, nn_16, nn_24, nn_36, nn_52, nn_76, nn_120, nn_172, nn_186, wr_m_sea, bo_ok, Int.toNat_natCast]
  rw [mp_sea]
theorem m_puts_f (k v : Int) (p : Nat) : fX9_puts k v (mp s false p) = some (mp s false p) := by
  unfold fX9_puts
  rw [mp_8, if_pos (by decide)]
theorem mp_w0 (s : Mem) (w : Bool) (p : Nat) : mu (mp s w p) 0 8 0 = mp s false p := mp_well s w false p
theorem mp_w1 (s : Mem) (w : Bool) (p : Nat) : mu (mp s w p) 0 8 1 = mp s true p := mp_well s w true p
theorem epi_le (T : Nat → Int) (tl p : Nat) : ∀ k, epi T tl k p ≤ p + 5 * k
  | 0 => by unfold epi; omega
  | k + 1 => by
    have h1 := epi_le T tl p k
    have h2 := ep_le T tl (epi T tl k p)
    show ep T tl (epi T tl k p) ≤ _
    omega
theorem epi_s (T : Nat → Int) (tl p k : Nat) : ep T tl (epi T tl k p) = epi T tl (k + 1) p := rfl
theorem epi_z (T : Nat → Int) (tl p : Nat) : epi T tl 0 p = p := rfl
theorem okn_rg {p : Nat} {lo hi e : Int} (h : okn T tl p lo hi e = true) : lo ≤ nn T tl p ∧ nn T tl p ≤ hi := by
  unfold okn at h
  simp only [Bool.and_eq_true, decide_eq_true_eq] at h
  exact h.2
theorem okn_nat {p : Nat} {lo hi e : Int} (h : okn T tl p lo hi e = true) : ∃ a : Nat, nn T tl p = a := by
  unfold okn at h
  simp only [Bool.and_eq_true, decide_eq_true_eq] at h
  exact nat_of (nn_rg h.1).1
/-- what the reading of an ITEM leaves: well (the place behind it, the new draft) or ill -/
def RdI (s s' : Mem) (b : Bool) (D' : Nat → Int) (x : Nat) : Prop := ∃ s2, FrI s s2 ∧ if b = true then s' = mp s2 true x ∧ DrM s2 D' else ∃ y, s' = mp s2 false y
theorem RdI.t {s s2 : Mem} {D' : Nat → Int} {x : Nat} (h : DrM s2 D') (f : FrI s s2) : RdI s (mp s2 true x) true D' x := ⟨s2, f, rfl, h⟩
theorem RdI.f {s s2 : Mem} {D' : Nat → Int} {x y : Nat} (f : FrI s s2) : RdI s (mp s2 false y) false D' x := ⟨s2, f, y, rfl⟩
theorem m_readsHarbour (h : TxtM s T tl) (htl : tl ≤ 500) (hT : ∀ k, 0 ≤ T k ∧ T k ≤ 255) (hD : DrM s D) {cH p : Nat} (hp : p < 900) (hc : D 183 = cH) (hc4 : cH ≤ 4) : ∃ s', fX9_readsHarbour (mp s true p) = some s' ∧ RdI s s' ((okn T tl (epi T tl 0 p) (1) (99) 44 && okn T tl (epi T tl 1 p) (1) (9) 44 && okn T tl (epi T tl 2 p) (1) (10) 44 && okn T tl (epi T tl 3 p) (0) (15) 59) && decide (cH < 4)) (fu (fu (fu (fu (fu D (0 + 4 * cH) (nn T tl (epi T tl 0 p))) (0 + 4 * cH + 1) (nn T tl (epi T tl 1 p))) (0 + 4 * cH + 2) (nn T tl (epi T tl 2 p))) (0 + 4 * cH + 3) (nn T tl (epi T tl 3 p))) (183) ((cH : Int) + 1)) (epi T tl 4 p) := by
  have hd : ∀ (w : Bool) (x : Nat), fX9_draft 183 (mp s w x) = some ((cH : Int), mp s w x) := fun w x => by rw [← hc]; exact m_draft hD (k := 183) (by decide) w x
  have e0 := epi_le T tl p 0
  have e1 := epi_le T tl p 1
  have e2 := epi_le T tl p 2
  have e3 := epi_le T tl p 3
  unfold fX9_readsHarbour fX9_readsHarbour_77 fX9_readsHarbour_78
  rw [show mp s true p = mp s true (epi T tl 0 p) from rfl]
  simp (disch := omega) only [hd, b2_ok, lt_ok, m_number h htl hT, epi_s, mp_8, nab, na_0, na_1, na_2, na_3, na_4, na_5, na_6, na_8, na_10, na_12, na_16, na_24, na_36, na_52, na_76, na_120, na_172, na_186, nb_0, nb_1, nb_2, nb_3, nb_4, nb_5, nb_6, nb_8, nb_10, nb_12, nb_16, nb_24, nb_36, nb_52, nb_76, nb_120, nb_172, nb_186, nm_2, nm_3, nm_4, nm_5, nm_6, nm_8, nm_10, nm_12, nm_16, nm_24, nm_36, nm_52, nm_76, nm_120, nm_172, nm_186, nn_2, nn_3, nn_4, nn_5, nn_6, nn_8, nn_10, nn_12, nn_16, nn_24, nn_36, nn_52, nn_76, nn_120, nn_172, nn_186, Nat.reduceAdd, mp_w0, mp_w1, Bool.true_and]
  by_cases c : (okn T tl (epi T tl 0 p) (1) (99) 44 && okn T tl (epi T tl 1 p) (1) (9) 44 && okn T tl (epi T tl 2 p) (1) (10) 44 && okn T tl (epi T tl 3 p) (0) (15) 59) = true
  · have c' := c
    simp only [Bool.and_eq_true] at c'
    obtain ⟨⟨⟨c0, c1⟩, c2⟩, c3⟩ := c'
    simp only [c0, c1, c2, c3, Bool.and_self, if_true, Bool.true_and]
    rw [if_neg (by decide)]
    by_cases c4 : cH < 4
    · rw [if_neg (by omega), ck_ok (by simp)]
      simp (disch := omega) only [m_puts_t, bo_ok]
      have hE := ((((hD.put (k := 0 + 4 * cH) (x := (nn T tl (epi T tl 0 p)))).put (k := 0 + 4 * cH + 1) (x := (nn T tl (epi T tl 1 p)))).put (k := 0 + 4 * cH + 2) (x := (nn T tl (epi T tl 2 p)))).put (k := 0 + 4 * cH + 3) (x := (nn T tl (epi T tl 3 p))))
      have hv : (fu (fu (fu (fu D (0 + 4 * cH) (nn T tl (epi T tl 0 p))) (0 + 4 * cH + 1) (nn T tl (epi T tl 1 p))) (0 + 4 * cH + 2) (nn T tl (epi T tl 2 p))) (0 + 4 * cH + 3) (nn T tl (epi T tl 3 p))) 183 = (cH : Int) := by rw [fu_ne _ _ (by omega), fu_ne _ _ (by omega), fu_ne _ _ (by omega), fu_ne _ _ (by omega)]; exact hc
      rw [show (183 : Int) = ((183 : Nat) : Int) from rfl, m_draft hE (by decide), b2_ok, hv, w32_id (by omega) (by omega), m_puts_t (by decide), bo_ok]
      rw [decide_eq_true c4]
      exact ⟨_, rfl, RdI.t hE.put (((((FrI.sea).trans FrI.sea).trans FrI.sea).trans FrI.sea).trans FrI.sea)⟩
    · rw [if_pos (by omega), ck_ok (by simp)]
      simp (disch := omega) only [m_puts_f, bo_ok, hd, b2_ok]
      rw [decide_eq_false c4]
      exact ⟨_, rfl, RdI.f FrI.rf⟩
  · have c2 := eq_false_of_ne_true c
    simp only [c2, Bool.false_eq_true, if_false, if_true, Bool.false_and]
    rw [ck_ok (by simp)]
    simp (disch := omega) only [m_puts_f, bo_ok, hd, b2_ok]
    exact ⟨_, rfl, RdI.f FrI.rf⟩
theorem m_readsSort (h : TxtM s T tl) (htl : tl ≤ 500) (hT : ∀ k, 0 ≤ T k ∧ T k ≤ 255) (hD : DrM s D) {cB p : Nat} (hp : p < 900) (hc : D 184 = cB) (hc4 : cB ≤ 4) : ∃ s', fX9_readsSort (mp s true p) = some s' ∧ RdI s s' ((okn T tl (epi T tl 0 p) (1) (8) 44 && okn T tl (epi T tl 1 p) (1) (9) 44 && okn T tl (epi T tl 2 p) (0) (99) 44 && okn T tl (epi T tl 3 p) (0) (999) 44 && okn T tl (epi T tl 4 p) (0) (9) 59) && decide (cB < 4)) (fu (fu (fu (fu (fu (fu D (16 + 5 * cB) (nn T tl (epi T tl 0 p))) (16 + 5 * cB + 1) (nn T tl (epi T tl 1 p))) (16 + 5 * cB + 2) (nn T tl (epi T tl 2 p))) (16 + 5 * cB + 3) (nn T tl (epi T tl 3 p))) (16 + 5 * cB + 4) (nn T tl (epi T tl 4 p))) (184) ((cB : Int) + 1)) (epi T tl 5 p) := by
  have hd : ∀ (w : Bool) (x : Nat), fX9_draft 184 (mp s w x) = some ((cB : Int), mp s w x) := fun w x => by rw [← hc]; exact m_draft hD (k := 184) (by decide) w x
  have e0 := epi_le T tl p 0
  have e1 := epi_le T tl p 1
  have e2 := epi_le T tl p 2
  have e3 := epi_le T tl p 3
  have e4 := epi_le T tl p 4
  unfold fX9_readsSort fX9_readsSort_90 fX9_readsSort_91
  rw [show mp s true p = mp s true (epi T tl 0 p) from rfl]
  simp (disch := omega) only [hd, b2_ok, lt_ok, m_number h htl hT, epi_s, mp_8, nab, na_0, na_1, na_2, na_3, na_4, na_5, na_6, na_8, na_10, na_12, na_16, na_24, na_36, na_52, na_76, na_120, na_172, na_186, nb_0, nb_1, nb_2, nb_3, nb_4, nb_5, nb_6, nb_8, nb_10, nb_12, nb_16, nb_24, nb_36, nb_52, nb_76, nb_120, nb_172, nb_186, nm_2, nm_3, nm_4, nm_5, nm_6, nm_8, nm_10, nm_12, nm_16, nm_24, nm_36, nm_52, nm_76, nm_120, nm_172, nm_186, nn_2, nn_3, nn_4, nn_5, nn_6, nn_8, nn_10, nn_12, nn_16, nn_24, nn_36, nn_52, nn_76, nn_120, nn_172, nn_186, Nat.reduceAdd, mp_w0, mp_w1, Bool.true_and]
  by_cases c : (okn T tl (epi T tl 0 p) (1) (8) 44 && okn T tl (epi T tl 1 p) (1) (9) 44 && okn T tl (epi T tl 2 p) (0) (99) 44 && okn T tl (epi T tl 3 p) (0) (999) 44 && okn T tl (epi T tl 4 p) (0) (9) 59) = true
  · have c' := c
    simp only [Bool.and_eq_true] at c'
    obtain ⟨⟨⟨⟨c0, c1⟩, c2⟩, c3⟩, c4⟩ := c'
    simp only [c0, c1, c2, c3, c4, Bool.and_self, if_true, Bool.true_and]
    rw [if_neg (by decide)]
    by_cases c4 : cB < 4
    · rw [if_neg (by omega), ck_ok (by simp)]
      simp (disch := omega) only [m_puts_t, bo_ok]
      have hE := (((((hD.put (k := 16 + 5 * cB) (x := (nn T tl (epi T tl 0 p)))).put (k := 16 + 5 * cB + 1) (x := (nn T tl (epi T tl 1 p)))).put (k := 16 + 5 * cB + 2) (x := (nn T tl (epi T tl 2 p)))).put (k := 16 + 5 * cB + 3) (x := (nn T tl (epi T tl 3 p)))).put (k := 16 + 5 * cB + 4) (x := (nn T tl (epi T tl 4 p))))
      have hv : (fu (fu (fu (fu (fu D (16 + 5 * cB) (nn T tl (epi T tl 0 p))) (16 + 5 * cB + 1) (nn T tl (epi T tl 1 p))) (16 + 5 * cB + 2) (nn T tl (epi T tl 2 p))) (16 + 5 * cB + 3) (nn T tl (epi T tl 3 p))) (16 + 5 * cB + 4) (nn T tl (epi T tl 4 p))) 184 = (cB : Int) := by rw [fu_ne _ _ (by omega), fu_ne _ _ (by omega), fu_ne _ _ (by omega), fu_ne _ _ (by omega), fu_ne _ _ (by omega)]; exact hc
      rw [show (184 : Int) = ((184 : Nat) : Int) from rfl, m_draft hE (by decide), b2_ok, hv, w32_id (by omega) (by omega), m_puts_t (by decide), bo_ok]
      rw [decide_eq_true c4]
      exact ⟨_, rfl, RdI.t hE.put ((((((FrI.sea).trans FrI.sea).trans FrI.sea).trans FrI.sea).trans FrI.sea).trans FrI.sea)⟩
    · rw [if_pos (by omega), ck_ok (by simp)]
      simp (disch := omega) only [m_puts_f, bo_ok, hd, b2_ok]
      rw [decide_eq_false c4]
      exact ⟨_, rfl, RdI.f FrI.rf⟩
  · have c2 := eq_false_of_ne_true c
    simp only [c2, Bool.false_eq_true, if_false, if_true, Bool.false_and]
    rw [ck_ok (by simp)]
    simp (disch := omega) only [m_puts_f, bo_ok, hd, b2_ok]
    exact ⟨_, rfl, RdI.f FrI.rf⟩
theorem m_readsStorm (h : TxtM s T tl) (htl : tl ≤ 500) (hT : ∀ k, 0 ≤ T k ∧ T k ≤ 255) (hD : DrM s D) {cS p : Nat} (hp : p < 900) (hc : D 185 = cS) (hc4 : cS ≤ 4) : ∃ s', fX9_readsStorm (mp s true p) = some s' ∧ RdI s s' ((okn T tl (epi T tl 0 p) (0) (10) 44 && okn T tl (epi T tl 1 p) (0) (23) 44 && okn T tl (epi T tl 2 p) (1) (9) 44 && okn T tl (epi T tl 3 p) (0) (9) 44 && okn T tl (epi T tl 4 p) (0) (24) 44 && okn T tl (epi T tl 5 p) (0) (3) 59) && decide (cS < 4)) (fu (fu (fu (fu (fu (fu (fu D (52 + 6 * cS) (nn T tl (epi T tl 0 p))) (52 + 6 * cS + 1) (nn T tl (epi T tl 1 p))) (52 + 6 * cS + 2) (nn T tl (epi T tl 2 p))) (52 + 6 * cS + 3) (nn T tl (epi T tl 3 p))) (52 + 6 * cS + 4) (nn T tl (epi T tl 4 p))) (52 + 6 * cS + 5) (nn T tl (epi T tl 5 p))) (185) ((cS : Int) + 1)) (epi T tl 6 p) := by
  have hd : ∀ (w : Bool) (x : Nat), fX9_draft 185 (mp s w x) = some ((cS : Int), mp s w x) := fun w x => by rw [← hc]; exact m_draft hD (k := 185) (by decide) w x
  have e0 := epi_le T tl p 0
  have e1 := epi_le T tl p 1
  have e2 := epi_le T tl p 2
  have e3 := epi_le T tl p 3
  have e4 := epi_le T tl p 4
  have e5 := epi_le T tl p 5
  unfold fX9_readsStorm fX9_readsStorm_100 fX9_readsStorm_101
  rw [show mp s true p = mp s true (epi T tl 0 p) from rfl]
  simp (disch := omega) only [hd, b2_ok, lt_ok, m_number h htl hT, epi_s, mp_8, nab, na_0, na_1, na_2, na_3, na_4, na_5, na_6, na_8, na_10, na_12, na_16, na_24, na_36, na_52, na_76, na_120, na_172, na_186, nb_0, nb_1, nb_2, nb_3, nb_4, nb_5, nb_6, nb_8, nb_10, nb_12, nb_16, nb_24, nb_36, nb_52, nb_76, nb_120, nb_172, nb_186, nm_2, nm_3, nm_4, nm_5, nm_6, nm_8, nm_10, nm_12, nm_16, nm_24, nm_36, nm_52, nm_76, nm_120, nm_172, nm_186, nn_2, nn_3, nn_4, nn_5, nn_6, nn_8, nn_10, nn_12, nn_16, nn_24, nn_36, nn_52, nn_76, nn_120, nn_172, nn_186, Nat.reduceAdd, mp_w0, mp_w1, Bool.true_and]
  by_cases c : (okn T tl (epi T tl 0 p) (0) (10) 44 && okn T tl (epi T tl 1 p) (0) (23) 44 && okn T tl (epi T tl 2 p) (1) (9) 44 && okn T tl (epi T tl 3 p) (0) (9) 44 && okn T tl (epi T tl 4 p) (0) (24) 44 && okn T tl (epi T tl 5 p) (0) (3) 59) = true
  · have c' := c
    simp only [Bool.and_eq_true] at c'
    obtain ⟨⟨⟨⟨⟨c0, c1⟩, c2⟩, c3⟩, c4⟩, c5⟩ := c'
    simp only [c0, c1, c2, c3, c4, c5, Bool.and_self, if_true, Bool.true_and]
    rw [if_neg (by decide)]
    by_cases c4 : cS < 4
    · rw [if_neg (by omega), ck_ok (by simp)]
      simp (disch := omega) only [m_puts_t, bo_ok]
      have hE := ((((((hD.put (k := 52 + 6 * cS) (x := (nn T tl (epi T tl 0 p)))).put (k := 52 + 6 * cS + 1) (x := (nn T tl (epi T tl 1 p)))).put (k := 52 + 6 * cS + 2) (x := (nn T tl (epi T tl 2 p)))).put (k := 52 + 6 * cS + 3) (x := (nn T tl (epi T tl 3 p)))).put (k := 52 + 6 * cS + 4) (x := (nn T tl (epi T tl 4 p)))).put (k := 52 + 6 * cS + 5) (x := (nn T tl (epi T tl 5 p))))
      have hv : (fu (fu (fu (fu (fu (fu D (52 + 6 * cS) (nn T tl (epi T tl 0 p))) (52 + 6 * cS + 1) (nn T tl (epi T tl 1 p))) (52 + 6 * cS + 2) (nn T tl (epi T tl 2 p))) (52 + 6 * cS + 3) (nn T tl (epi T tl 3 p))) (52 + 6 * cS + 4) (nn T tl (epi T tl 4 p))) (52 + 6 * cS + 5) (nn T tl (epi T tl 5 p))) 185 = (cS : Int) := by rw [fu_ne _ _ (by omega), fu_ne _ _ (by omega), fu_ne _ _ (by omega), fu_ne _ _ (by omega), fu_ne _ _ (by omega), fu_ne _ _ (by omega)]; exact hc
      rw [show (185 : Int) = ((185 : Nat) : Int) from rfl, m_draft hE (by decide), b2_ok, hv, w32_id (by omega) (by omega), m_puts_t (by decide), bo_ok]
      rw [decide_eq_true c4]
      exact ⟨_, rfl, RdI.t hE.put (((((((FrI.sea).trans FrI.sea).trans FrI.sea).trans FrI.sea).trans FrI.sea).trans FrI.sea).trans FrI.sea)⟩
    · rw [if_pos (by omega), ck_ok (by simp)]
      simp (disch := omega) only [m_puts_f, bo_ok, hd, b2_ok]
      rw [decide_eq_false c4]
      exact ⟨_, rfl, RdI.f FrI.rf⟩
  · have c2 := eq_false_of_ne_true c
    simp only [c2, Bool.false_eq_true, if_false, if_true, Bool.false_and]
    rw [ck_ok (by simp)]
    simp (disch := omega) only [m_puts_f, bo_ok, hd, b2_ok]
    exact ⟨_, rfl, RdI.f FrI.rf⟩
end IT

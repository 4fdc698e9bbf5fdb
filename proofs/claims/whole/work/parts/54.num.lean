/-! ===== numbers of THE TEXT ===== -/
def dg (T : Nat → Int) (tl p : Nat) : Bool := decide (p < tl) && (decide (48 ≤ T p) && decide (T p ≤ 57))
/-- how many figures from p on, 4 at most -/
def runF (T : Nat → Int) (tl : Nat) : Nat → Nat → Nat
  | 0, _ => 0
  | m + 1, p => if dg T tl p then runF T tl m (p + 1) + 1 else 0
def nv (T : Nat → Int) (p : Nat) : Nat → Int
  | 0 => 0
  | k + 1 => 10 * nv T p k + (T (p + k) - 48)
/-- a number at p with the sign e behind it: its value, the place behind the sign -/
def pn (T : Nat → Int) (tl p : Nat) (e : Int) : Option (Int × Nat) :=
  if 1 ≤ runF T tl 4 p ∧ runF T tl 4 p ≤ 3 ∧ p + runF T tl 4 p < tl ∧ T (p + runF T tl 4 p) = e then some (nv T p (runF T tl 4 p), p + runF T tl 4 p + 1) else none
theorem runF_le (T : Nat → Int) (tl : Nat) : ∀ m p, runF T tl m p ≤ m
  | 0, _ => Nat.le_refl _
  | m + 1, p => by
    unfold runF
    split
    · have := runF_le T tl m (p + 1); omega
    · omega
/-- the figures of a run are figures, and what stands behind a short one is none -/
theorem runF_dg (T : Nat → Int) (tl : Nat) : ∀ m p k, k < runF T tl m p → dg T tl (p + k) = true
  | 0, _, k, h => absurd h (by unfold runF; omega)
  | m + 1, p, k, h => by
    unfold runF at h
    split at h
    · rename_i hd
      cases k with
      | zero => exact hd
      | succ k =>
        have := runF_dg T tl m (p + 1) k (by omega)
        rw [show p + (k + 1) = p + 1 + k by omega]; exact this
    · omega
theorem runF_end (T : Nat → Int) (tl : Nat) : ∀ m p, runF T tl m p < m → dg T tl (p + runF T tl m p) = false
  | 0, _, h => absurd h (by omega)
  | m + 1, p, h => by
    unfold runF at h ⊢
    split at h
    · rename_i hd
      rw [if_pos hd]
      have := runF_end T tl m (p + 1) (by omega)
      rw [show p + (runF T tl m (p + 1) + 1) = p + 1 + runF T tl m (p + 1) by omega]; exact this
    · rename_i hd
      rw [if_neg hd]
      simpa using hd
theorem dg_iff {T : Nat → Int} {tl p : Nat} : dg T tl p = true ↔ p < tl ∧ 48 ≤ T p ∧ T p ≤ 57 := by
  unfold dg; simp
theorem nv_rg {T : Nat → Int} {tl p : Nat} : ∀ k, (∀ j, j < k → dg T tl (p + j) = true) → 0 ≤ nv T p k ∧ nv T p k < 10 ^ k
  | 0, _ => by unfold nv; decide
  | k + 1, h => by
    have ih := nv_rg k (fun j hj => h j (by omega))
    have hd := dg_iff.mp (h k (by omega))
    unfold nv
    have : (10 : Int) ^ (k + 1) = 10 * 10 ^ k := by rw [Int.pow_succ]; omega
    omega
theorem w8_lt {x c : Int} (h0 : 0 ≤ x) (h1 : x ≤ 255) (hc : 0 ≤ c) (hc2 : c < 128) : w8 x < c ↔ (x < c ∨ 127 < x) := by unfold w8; omega
theorem w8_gt {x c : Int} (h0 : 0 ≤ x) (h1 : x ≤ 255) (hc : 0 ≤ c) (hc2 : c < 128) : c < w8 x ↔ (c < x ∧ x ≤ 127) := by unfold w8; omega
theorem w8_eq {x c : Int} (h0 : 0 ≤ x) (h1 : x ≤ 255) (hc : 0 ≤ c) (hc2 : c < 128) : w8 x = c ↔ x = c := by unfold w8; omega
section NU
variable {T : Nat → Int} {tl : Nat} {s s' : Mem}
/-- the class at place p of its text -/
def AtC (s : Mem) (T : Nat → Int) (tl p : Nat) : Prop := TxtC s T tl ∧ s 18 2 = p
theorem AtC.step {p : Nat} (h : AtC s T tl p) (x : Nat) : AtC (mu s 18 2 (x : Int)) T tl x := by
  refine ⟨⟨?_, fun k hk => ?_⟩, by rw [mu_same, fu_same]⟩
  · rw [mu_same, fu_ne _ _ (by decide)]; exact h.1.1
  · rw [mu_ne _ _ _ (by decide)]; exact h.1.2 k hk
theorem mu_mu (s : Mem) (k j : Nat) (x y : Int) : mu (mu s k j x) k j y = mu s k j y := by
  funext a b
  unfold mu fu
  by_cases h : a = k
  · subst h; simp only [if_true]; split <;> rfl
  · simp only [h, if_false]
theorem c_readNumber_84 (hT : ∀ k, 0 ≤ T k ∧ T k ≤ 255) (htl : tl ≤ 500) {k f p : Nat} {e : Int} {v : Int} (hk : k < 6) (he : 0 ≤ e ∧ e < 128) (h : AtC s T tl p) : fX6_readNumber_84 k e v f s = if f ≠ 0 ∧ p < tl ∧ T p = e then some (1, mu (mu s 18 2 ((p + 1 : Nat) : Int)) 20 k v) else some (0, s) := by
  unfold fX6_readNumber_84
  rw [h.2, h.1.1]
  by_cases c1 : f = 0
  · rw [if_pos (by omega), if_neg (by omega)]
  · rw [if_neg (by omega)]
    by_cases c2 : p < tl
    · rw [if_neg (by omega)]
      simp (disch := omega) only [rd_text_bytes, bo_ok, lt_ok, Int.toNat_natCast, h.1.2 p c2, w8_eq (hT p).1 (hT p).2 he.1 he.2, w32_s, wr_text_numbers]
      by_cases c3 : T p = e
      · rw [if_pos c3, if_pos ⟨c1, c2, c3⟩]
      · rw [if_neg c3, if_neg (fun z => c3 z.2.2)]
    · rw [if_pos (by omega), if_neg (by omega)]
/-- the class's loop over figures: f of them are read, r more of the run come -/
theorem c_readNumber_5 (hT : ∀ k, 0 ≤ T k ∧ T k ≤ 255) (htl : tl ≤ 500) {k p : Nat} {e : Int} (hk : k < 6) (he : 0 ≤ e ∧ e < 128) : ∀ (m n f : Nat) (s : Mem), f + m = 3 → m < n → (∀ j, j < f → dg T tl (p + j) = true) → AtC s T tl (p + f) → fX6_readNumber_5 n k e (nv T p f) f s = if f + runF T tl m (p + f) ≠ 0 ∧ p + (f + runF T tl m (p + f)) < tl ∧ T (p + (f + runF T tl m (p + f))) = e then some (1, mu (mu s 18 2 ((p + (f + runF T tl m (p + f)) + 1 : Nat) : Int)) 20 k (nv T p (f + runF T tl m (p + f)))) else some (0, mu s 18 2 ((p + (f + runF T tl m (p + f)) : Nat) : Int))
  | 0, n + 1, f, s, e1, _, hd, h => by
    have e2 : fX6_readNumber_5 (n + 1) k e (nv T p f) f s = fX6_readNumber_84 k e (nv T p f) f s := by
      rw [fX6_readNumber_5]
      split
      · rfl
      · rw [if_pos (by omega)]
    have e3 : mu s 18 2 ((p + (f + 0) : Nat) : Int) = s := by
      have := h.2
      funext a b
      unfold mu fu
      by_cases c : a = 18
      · subst c; simp only [if_true]
        by_cases c2 : b = 2
        · subst c2; simp only [if_true]; rw [this]; rfl
        · simp only [c2, if_false]
      · simp only [c, if_false]
    rw [e2, c_readNumber_84 hT htl hk he h]
    show _ = if f + 0 ≠ 0 ∧ p + (f + 0) < tl ∧ T (p + (f + 0)) = e then some (1, mu (mu s 18 2 ((p + (f + 0) + 1 : Nat) : Int)) 20 k (nv T p (f + 0))) else some (0, mu s 18 2 ((p + (f + 0) : Nat) : Int))
    rw [e3]
    rfl
  | m + 1, n + 1, f, s, e1, hn, hd, h => by
    have e3 : mu s 18 2 ((p + f : Nat) : Int) = s := by
      have := h.2
      funext a b
      unfold mu fu
      by_cases c : a = 18
      · subst c; simp only [if_true]
        by_cases c2 : b = 2
        · subst c2; simp only [if_true]; rw [this]
        · simp only [c2, if_false]
      · simp only [c, if_false]
    by_cases c : dg T tl (p + f) = true
    · have c' := dg_iff.mp c
      have hv := nv_rg (T := T) (tl := tl) (p := p) f hd
      have hv2 : nv T p f < 1000 := by
        have : (10 : Int) ^ f ≤ 10 ^ 3 := by
          rcases (show f = 0 ∨ f = 1 ∨ f = 2 by omega) with rfl | rfl | rfl <;> decide
        omega
      have hb := h.1.2 (p + f) c'.1
      have hw : w8 (T (p + f)) = T (p + f) := by unfold w8; omega
      rw [hw] at hb
      rw [fX6_readNumber_5, h.2, h.1.1, if_neg (by omega), if_neg (by omega)]
      simp (disch := omega) only [rd_text_bytes, bo_ok, lt_ok, Int.toNat_natCast, hb]
      rw [if_neg (by omega), if_neg (by omega), w32_id (x := 10 * nv T p f) (by omega) (by omega), w32_id (x := 10 * nv T p f + _) (by omega) (by omega), w32_id (x := 10 * nv T p f + _ - 48) (by omega) (by omega), w32_s (by omega), w32_s (by omega)]
      have ih := c_readNumber_5 hT htl hk he m n (f + 1) (mu s 18 2 ((p + f + 1 : Nat) : Int)) (by omega) (by omega) (fun j hj => by
        by_cases cj : j = f
        · subst cj; exact c
        · exact hd j (by omega)) (h.step (p + f + 1))
      have er : runF T tl (m + 1) (p + f) = runF T tl m (p + (f + 1)) + 1 := by
        rw [runF, if_pos c]; rfl
      rw [er, show f + (runF T tl m (p + (f + 1)) + 1) = f + 1 + runF T tl m (p + (f + 1)) by omega]
      have env : nv T p (f + 1) = 10 * nv T p f + T (p + f) - 48 := by rw [nv]; omega
      rw [env] at ih
      rw [ih, mu_mu, mu_mu]
    · have er : runF T tl (m + 1) (p + f) = 0 := by rw [runF, if_neg c]
      have e2 : fX6_readNumber_5 (n + 1) k e (nv T p f) f s = fX6_readNumber_84 k e (nv T p f) f s := by
        rw [fX6_readNumber_5, h.2, h.1.1]
        by_cases c1 : tl ≤ p + f
        · rw [if_pos (by omega)]
        · have hb := h.1.2 (p + f) (by omega)
          have hTp := hT (p + f)
          rw [if_neg (by omega), if_neg (by omega)]
          simp (disch := omega) only [rd_text_bytes, bo_ok, Int.toNat_natCast, hb]
          by_cases c2 : w8 (T (p + f)) < 48
          · rw [if_pos c2]
          · rw [if_neg c2, if_pos]
            have : ¬ (48 ≤ T (p + f) ∧ T (p + f) ≤ 57) := fun z => c (dg_iff.mpr ⟨by omega, z⟩)
            unfold w8 at c2 ⊢
            omega
      rw [e2, c_readNumber_84 hT htl hk he h, er]
      simp only [Nat.add_zero]
      rw [e3]
  | _, 0, _, _, _, hn, _, _ => absurd hn (by omega)
theorem runF_34 (T : Nat → Int) (tl p : Nat) : runF T tl 3 p = if runF T tl 4 p ≤ 3 then runF T tl 4 p else 3 := by
  by_cases h0 : dg T tl p = true <;> by_cases h1 : dg T tl (p + 1) = true <;> by_cases h2 : dg T tl (p + 1 + 1) = true <;> by_cases h3 : dg T tl (p + 1 + 1 + 1) = true <;> simp [runF, h0, h1, h2, h3]
theorem c_readNumber (hT : ∀ k, 0 ≤ T k ∧ T k ≤ 255) (htl : tl ≤ 500) {k p : Nat} {e : Int} (hk : k < 6) (he : e = 44 ∨ e = 59) (h : AtC s T tl p) : (∃ x : Nat, x ≤ p + 3 ∧ pn T tl p e = none ∧ fX6_readNumber k e s = some (0, mu s 18 2 (x : Int))) ∨ (∃ (v : Int) (p' : Nat), pn T tl p e = some (v, p') ∧ p < p' ∧ p' ≤ tl ∧ 0 ≤ v ∧ v ≤ 999 ∧ fX6_readNumber k e s = some (1, mu (mu s 18 2 (p' : Int)) 20 k v)) := by
  have key := c_readNumber_5 hT htl hk (p := p) (e := e) (by omega) 3 600 0 s (by omega) (by omega) (fun j hj => absurd hj (by omega)) h
  have e0 : fX6_readNumber k e s = fX6_readNumber_5 600 k e (nv T p 0) ((0 : Nat) : Int) s := rfl
  rw [e0, key]
  simp only [Nat.zero_add, Nat.add_zero]
  have r4 := runF_le T tl 4 p
  by_cases c : runF T tl 4 p ≤ 3
  · have r3 : runF T tl 3 p = runF T tl 4 p := by rw [runF_34, if_pos c]
    rw [r3]
    by_cases c2 : runF T tl 4 p ≠ 0 ∧ p + runF T tl 4 p < tl ∧ T (p + runF T tl 4 p) = e
    · refine Or.inr ⟨nv T p (runF T tl 4 p), p + runF T tl 4 p + 1, ?_, by omega, by omega, ?_, ?_, by rw [if_pos c2]⟩
      · unfold pn; rw [if_pos ⟨by omega, c, c2.2⟩]
      · exact (nv_rg (tl := tl) _ (fun j hj => runF_dg T tl 4 p j hj)).1
      · have := (nv_rg (tl := tl) _ (fun j hj => runF_dg T tl 4 p j hj)).2
        have h2 : (10 : Int) ^ runF T tl 4 p ≤ 10 ^ 3 := by
          rcases (show runF T tl 4 p = 0 ∨ runF T tl 4 p = 1 ∨ runF T tl 4 p = 2 ∨ runF T tl 4 p = 3 by omega) with q | q | q | q <;> rw [q] <;> decide
        omega
    · refine Or.inl ⟨p + runF T tl 4 p, by omega, ?_, by rw [if_neg c2]⟩
      unfold pn
      rw [if_neg (fun z => c2 ⟨by omega, z.2.2⟩)]
  · have r3 : runF T tl 3 p = 3 := by rw [runF_34, if_neg c]
    have hd := dg_iff.mp (runF_dg T tl 4 p 3 (by omega))
    rw [r3]
    refine Or.inl ⟨p + 3, by omega, ?_, ?_⟩
    · unfold pn
      rw [if_neg (fun z => c z.2.1)]
    · rw [if_neg (fun z => by have := z.2.2; omega)]
end NU

/-! ===== the reference's reads of the sea ===== -/
def SeaM (s : Mem) (D : Nat → Int) : Prop := ∀ k, k < 186 → s 1 k = D k
theorem SeaM.at {s : Mem} {D : Nat → Int} (h : SeaM s D) {k : Nat} (hk : k < 186) : s 1 k = D k := h k hk
section MR
variable {D : Nat → Int} {nH nB nS : Nat} {s : Mem}
theorem m_isIn (a b c : Int) (s : Mem) : fX9_isIn a b c s = some (if b ≤ a ∧ a ≤ c then 1 else 0, s) := by
  unfold fX9_isIn
  by_cases h1 : a < b
  · rw [if_pos h1, if_neg (by omega)]
  · rw [if_neg h1]
    by_cases h2 : c < a
    · rw [if_pos h2, if_neg (by omega)]
    · rw [if_neg h2, if_pos (by omega)]
theorem if01 (c : Prop) [Decidable c] : (if c then (1 : Int) else 0) = 0 ∨ (if c then (1 : Int) else 0) = 1 := by by_cases h : c <;> simp [h]
theorem if01_0 {c : Prop} [Decidable c] : ((if c then (1 : Int) else 0) = 0) ↔ ¬ c := by by_cases h : c <;> simp [h]
theorem m_isStorm (hM : SeaM s D) (h : SeaOk D nH nB nS) (a : Int) : fX9_isStorm a s = some (if 0 ≤ a ∧ a < nS then 1 else 0, s) := by
  have h1 := h.1
  have e : s 1 185 = nS := by rw [hM 185 (by omega)]; exact h1.2.2.1
  have e2 : (0 ≤ a ∧ a ≤ (nS : Int) - 1) = (0 ≤ a ∧ a < nS) := propext (by omega)
  simp (disch := omega) only [fX9_isStorm, rd_m_sea, bo_ok, m_isIn, b2_ok, Int.reduceToNat, e, w32_id, e2]
  exact ck_ok (if01 _) _
theorem m_isSort (hM : SeaM s D) (h : SeaOk D nH nB nS) (a : Int) : fX9_isSort a s = some (if 0 ≤ a ∧ a < nB then 1 else 0, s) := by
  have h1 := h.1
  have e : s 1 184 = nB := by rw [hM 184 (by omega)]; exact h1.2.1
  have e2 : (0 ≤ a ∧ a ≤ (nB : Int) - 1) = (0 ≤ a ∧ a < nB) := propext (by omega)
  simp (disch := omega) only [fX9_isSort, rd_m_sea, bo_ok, m_isIn, b2_ok, Int.reduceToNat, e, w32_id, e2]
  exact ck_ok (if01 _) _
theorem m_isHarbour (hM : SeaM s D) (h : SeaOk D nH nB nS) (a : Int) : fX9_isHarbour a s = some (if 0 ≤ a ∧ a < nH then 1 else 0, s) := by
  have h1 := h.1
  have e : s 1 183 = nH := by rw [hM 183 (by omega)]; exact h1.1
  have e2 : (0 ≤ a ∧ a ≤ (nH : Int) - 1) = (0 ≤ a ∧ a < nH) := propext (by omega)
  simp (disch := omega) only [fX9_isHarbour, rd_m_sea, bo_ok, m_isIn, b2_ok, Int.reduceToNat, e, w32_id, e2]
  exact ck_ok (if01 _) _
theorem m_strength (hM : SeaM s D) (h : SeaOk D nH nB nS) {q t : Nat} (hq : q < 4) (ht : t < 24) : fX9_strength q t s = some (str D q t, s) := by
  have h1 := h.2.2.2.2.1 q hq
  have hp : ¬ ((t : Int) - D (52 + 6 * q + 1) < 0) → 0 ≤ D (52 + 6 * q + 2) * ((t : Int) - D (52 + 6 * q + 1) + 1) ∧ D (52 + 6 * q + 2) * ((t : Int) - D (52 + 6 * q + 1) + 1) ≤ 300 := by
    intro hn
    refine ⟨Int.mul_nonneg (by omega) (by omega), ?_⟩
    have := Int.mul_le_mul (show D (52 + 6 * q + 2) ≤ 9 by omega) (show (t : Int) - D (52 + 6 * q + 1) + 1 ≤ 24 by omega) (by omega) (by omega)
    omega
  simp (disch := omega) only [fX9_strength, lt_ok, bo_ok, nab, na_0, na_1, na_2, na_3, na_4, na_5, na_6, na_8, na_10, na_12, na_16, na_24, na_36, na_52, na_76, na_120, na_172, na_186, nb_0, nb_1, nb_2, nb_3, nb_4, nb_5, nb_6, nb_8, nb_10, nb_12, nb_16, nb_24, nb_36, nb_52, nb_76, nb_120, nb_172, nb_186, nm_2, nm_3, nm_4, nm_5, nm_6, nm_8, nm_10, nm_12, nm_16, nm_24, nm_36, nm_52, nm_76, nm_120, nm_172, nm_186, nn_2, nn_3, nn_4, nn_5, nn_6, nn_8, nn_10, nn_12, nn_16, nn_24, nn_36, nn_52, nn_76, nn_120, nn_172, nn_186, rd_m_sea, Int.toNat_natCast, hM.at, w32_id (x := (t : Int) - D (52 + 6 * q + 1))]
  by_cases c1 : (t : Int) - D (52 + 6 * q + 1) < 0
  · unfold str
    rw [if_pos c1]
    split
    · rfl
    · omega
  · have hp := hp c1
    rw [if_neg c1, w32_id (x := (t : Int) - D (52 + 6 * q + 1) + 1) (by omega) (by omega), w32_id (x := D (52 + 6 * q + 2) * ((t : Int) - D (52 + 6 * q + 1) + 1)) (by omega) (by omega)]
    unfold str imin
    generalize D (52 + 6 * q + 2) * ((t : Int) - D (52 + 6 * q + 1) + 1) = z at hp ⊢
    repeat' split
    all_goals first | rfl | (exfalso; omega)
theorem m_glass (hM : SeaM s D) {q t : Nat} (hq : q < 4) (ht : t < 24) : fX9_glass q t s = some (D (76 + 24 * q + t), s) := by
  simp (disch := omega) only [fX9_glass, lt_ok, bo_ok, nab, na_0, na_1, na_2, na_3, na_4, na_5, na_6, na_8, na_10, na_12, na_16, na_24, na_36, na_52, na_76, na_120, na_172, na_186, nb_0, nb_1, nb_2, nb_3, nb_4, nb_5, nb_6, nb_8, nb_10, nb_12, nb_16, nb_24, nb_36, nb_52, nb_76, nb_120, nb_172, nb_186, nm_2, nm_3, nm_4, nm_5, nm_6, nm_8, nm_10, nm_12, nm_16, nm_24, nm_36, nm_52, nm_76, nm_120, nm_172, nm_186, nn_2, nn_3, nn_4, nn_5, nn_6, nn_8, nn_10, nn_12, nn_16, nn_24, nn_36, nn_52, nn_76, nn_120, nn_172, nn_186, rd_m_sea, Int.toNat_natCast, hM.at]
theorem m_away (hM : SeaM s D) {i j : Nat} (hi : i < 4) (hj : j < 4) : fX9_away i j s = some (D (36 + 4 * i + j), s) := by
  simp (disch := omega) only [fX9_away, lt_ok, bo_ok, nab, na_0, na_1, na_2, na_3, na_4, na_5, na_6, na_8, na_10, na_12, na_16, na_24, na_36, na_52, na_76, na_120, na_172, na_186, nb_0, nb_1, nb_2, nb_3, nb_4, nb_5, nb_6, nb_8, nb_10, nb_12, nb_16, nb_24, nb_36, nb_52, nb_76, nb_120, nb_172, nb_186, nm_2, nm_3, nm_4, nm_5, nm_6, nm_8, nm_10, nm_12, nm_16, nm_24, nm_36, nm_52, nm_76, nm_120, nm_172, nm_186, nn_2, nn_3, nn_4, nn_5, nn_6, nn_8, nn_10, nn_12, nn_16, nn_24, nn_36, nn_52, nn_76, nn_120, nn_172, nn_186, rd_m_sea, Int.toNat_natCast, hM.at]
theorem m_tenths (hM : SeaM s D) {q : Nat} (hq : q < 4) : fX9_tenths q s = some (D (52 + 6 * q), s) := by
  simp (disch := omega) only [fX9_tenths, lt_ok, bo_ok, nab, na_0, na_1, na_2, na_3, na_4, na_5, na_6, na_8, na_10, na_12, na_16, na_24, na_36, na_52, na_76, na_120, na_172, na_186, nb_0, nb_1, nb_2, nb_3, nb_4, nb_5, nb_6, nb_8, nb_10, nb_12, nb_16, nb_24, nb_36, nb_52, nb_76, nb_120, nb_172, nb_186, nm_2, nm_3, nm_4, nm_5, nm_6, nm_8, nm_10, nm_12, nm_16, nm_24, nm_36, nm_52, nm_76, nm_120, nm_172, nm_186, nn_2, nn_3, nn_4, nn_5, nn_6, nn_8, nn_10, nn_12, nn_16, nn_24, nn_36, nn_52, nn_76, nn_120, nn_172, nn_186, rd_m_sea, Int.toNat_natCast, hM.at]
theorem m_isOpen (hM : SeaM s D) (h : SeaOk D nH nB nS) {j q t : Nat} (hj : j < 4) (hq : q < 4) (ht : t < 24) : fX9_isOpen j q t s = some (if opn D j q t then 1 else 0, s) := by
  have h1 := h.2.2.2.2.1 q hq
  have h2 := h.2.1 j hj
  obtain ⟨e, he⟩ := nat_of h2.2.2.2.2.2.2.1
  obtain ⟨a, ha⟩ := nat_of h1.2.2.2.2.2.2.2.2.2.2.1
  have hb := bit_0 (a := e) (k := a) (by omega) (by omega)
  simp (disch := omega) only [fX9_isOpen, fX9_isOpen_53, m_strength hM h hq ht, b2_ok, bo_ok, nab, na_0, na_1, na_2, na_3, na_4, na_5, na_6, na_8, na_10, na_12, na_16, na_24, na_36, na_52, na_76, na_120, na_172, na_186, nb_0, nb_1, nb_2, nb_3, nb_4, nb_5, nb_6, nb_8, nb_10, nb_12, nb_16, nb_24, nb_36, nb_52, nb_76, nb_120, nb_172, nb_186, nm_2, nm_3, nm_4, nm_5, nm_6, nm_8, nm_10, nm_12, nm_16, nm_24, nm_36, nm_52, nm_76, nm_120, nm_172, nm_186, nn_2, nn_3, nn_4, nn_5, nn_6, nn_8, nn_10, nn_12, nn_16, nn_24, nn_36, nn_52, nn_76, nn_120, nn_172, nn_186, rd_m_sea, Int.toNat_natCast, hM.at]
  unfold opn
  rw [he, ha, Int.toNat_natCast, Int.toNat_natCast]
  by_cases c1 : str D q t < D (0 + 4 * j + 2)
  · rw [if_pos c1, decide_eq_true c1, Bool.true_or]; rfl
  · rw [if_neg c1, decide_eq_false c1, Bool.false_or]
    by_cases c2 : e.testBit a = false
    · rw [if_pos (hb.mpr c2), decide_eq_true c2]; rfl
    · rw [if_neg (fun z => c2 (hb.mp z)), decide_eq_false c2]; rfl
theorem m_riskOf (hM : SeaM s D) (h : SeaOk D nH nB nS) {i q t : Nat} (hi : i < 4) (hq : q < 4) (ht : t < 24) : fX9_riskOf i q t s = some (rsk D i q t, s) := by
  have h1 := str_rg h (t := t) hq
  have h2 := rsk_pr h (t := t) hi hq
  obtain ⟨x, hx⟩ := nat_of h1.1
  have hx2 : (str D q t).toNat = x := by omega
  rw [hx2] at h2
  simp (disch := omega) only [fX9_riskOf, m_strength hM h hq ht, hx, b2_ok, bo_ok, lt_ok, nab, na_0, na_1, na_2, na_3, na_4, na_5, na_6, na_8, na_10, na_12, na_16, na_24, na_36, na_52, na_76, na_120, na_172, na_186, nb_0, nb_1, nb_2, nb_3, nb_4, nb_5, nb_6, nb_8, nb_10, nb_12, nb_16, nb_24, nb_36, nb_52, nb_76, nb_120, nb_172, nb_186, nm_2, nm_3, nm_4, nm_5, nm_6, nm_8, nm_10, nm_12, nm_16, nm_24, nm_36, nm_52, nm_76, nm_120, nm_172, nm_186, nn_2, nn_3, nn_4, nn_5, nn_6, nn_8, nn_10, nn_12, nn_16, nn_24, nn_36, nn_52, nn_76, nn_120, nn_172, nn_186, rd_m_sea, Int.toNat_natCast, hM.at]
  rw [w32_id (by omega) (by omega)]
  unfold rsk imin
  rw [hx2]
  by_cases c : D (172 + x) * D (16 + 5 * i + 4) ≤ 999
  · rw [if_pos c]
    by_cases c2 : D (172 + x) * D (16 + 5 * i + 4) < 999
    · rw [if_pos c2]
    · rw [if_neg c2, show D (172 + x) * D (16 + 5 * i + 4) = 999 by omega]
  · rw [if_neg c, if_neg (by omega)]
theorem tdiv_nn {a b : Int} (h : 0 ≤ a) : Int.tdiv a b = a / b := Int.tdiv_eq_ediv_of_nonneg h
theorem div_rg {a b : Int} (h : 0 ≤ a) (h9 : a ≤ 9) (hb : 1 ≤ b) : 0 ≤ a / b ∧ a / b ≤ 9 := by
  refine ⟨Int.ediv_nonneg h (by omega), ?_⟩
  exact Int.le_trans (Int.ediv_le_self _ h) h9
theorem m_madeBy (hM : SeaM s D) (h : SeaOk D nH nB nS) {v : Int} {q t : Nat} (hv : 0 ≤ v ∧ v ≤ 9) (hq : q < 4) (ht : t < 24) : fX9_madeBy v q t s = some (spd D v q t, s) := by
  have h1 := str_rg h (t := t) hq
  have h2 := h.2.2.2.2.2.2.2.1
  have h3 := div_rg h1.1 h1.2 h2.1
  simp (disch := omega) only [fX9_madeBy, m_strength hM h hq ht, b2_ok, bo_ok, lt_ok, rd_m_sea, Int.reduceToNat, hM.at, ck_ok, tdiv_nn, w32_id]
  unfold spd imax
  by_cases c : 1 ≤ v - str D q t / D 182
  · rw [if_pos c]
    by_cases c2 : 1 < v - str D q t / D 182
    · rw [if_pos c2]
    · rw [if_neg c2, show v - str D q t / D 182 = 1 by omega]
  · rw [if_neg c, if_neg (by omega)]
end MR

/-! ===== calls that need no simulation ===== -/
section EZ
variable {D : Nat → Int} {nH nB nS : Nat} {N K : Nat → Int} {kc : Nat} {T : Nat → Int} {tl : Nat} {s s' : Mem}
theorem NowM.at (h : NowM s N) {k : Nat} (hk : k < 12) : s 2 k = N k := h k hk
/-- the reference's reach: the same HOUR, or 99 for 24 where it never gets there -/
theorem m_reachOf_7 (hM : SeaM s D) (h : SeaOk D nH nB nS) {i j q : Nat} (hi : i < nB) (hj : j < nH) (hq : q < nS) : ∀ (m n t : Nat) (made : Int), t + m = 24 → m < n → 0 ≤ made → made ≤ 9 * t → made < D (36 + 4 * i + j) → ∃ r : Int, fX9_reachOf_7 n i j q made t s = some (r, s) ∧ ((r = arrG D (D (16 + 5 * i + 1)) (D (36 + 4 * i + j)) q m t made ∧ r ≤ 23) ∨ (23 < r ∧ arrG D (D (16 + 5 * i + 1)) (D (36 + 4 * i + j)) q m t made = 24))
  | 0, n + 1, t, made, e, _, h0, h1, h2 => by
    have hb := h.1
    rw [fX9_reachOf_7, if_pos (by omega), fX9_reachOf_56, m_away hM (by omega) (by omega), b2_ok, if_pos h2]
    exact ⟨99, rfl, Or.inr ⟨by omega, rfl⟩⟩
  | m + 1, n + 1, t, made, e, hn, h0, h1, h2 => by
    have hb := h.1
    have hB := h.2.2.1 i (by omega)
    have hsp := spd_rg h (v := D (16 + 5 * i + 1)) (by omega) (q := q) (t := t) (by omega)
    have hmi := h.2.2.2.1 i j (by omega) (by omega)
    rw [fX9_reachOf_7, if_neg (by omega), m_away hM (by omega) (by omega), b2_ok, if_neg (by omega)]
    simp (disch := omega) only [nab, na_0, na_1, na_2, na_3, na_4, na_5, na_6, na_8, na_10, na_12, na_16, na_24, na_36, na_52, na_76, na_120, na_172, na_186, nb_0, nb_1, nb_2, nb_3, nb_4, nb_5, nb_6, nb_8, nb_10, nb_12, nb_16, nb_24, nb_36, nb_52, nb_76, nb_120, nb_172, nb_186, nm_2, nm_3, nm_4, nm_5, nm_6, nm_8, nm_10, nm_12, nm_16, nm_24, nm_36, nm_52, nm_76, nm_120, nm_172, nm_186, nn_2, nn_3, nn_4, nn_5, nn_6, nn_8, nn_10, nn_12, nn_16, nn_24, nn_36, nn_52, nn_76, nn_120, nn_172, nn_186, rd_m_sea, bo_ok, Int.toNat_natCast, hM.at]
    rw [m_madeBy hM h (by omega) (by omega) (by omega), b2_ok, lt_ok, lt_ok, w32_id (x := made + _) (by omega) (by omega)]
    rw [arrG]
    by_cases c : made + spd D (D (16 + 5 * i + 1)) q t < D (36 + 4 * i + j)
    · rw [if_pos c]
      exact m_reachOf_7 hM h hi hj hq m n (t + 1) _ (by omega) (by omega) (by omega) (by omega) c
    · rw [if_neg c]
      cases n with
      | zero => omega
      | succ n =>
        rw [fX9_reachOf_7]
        by_cases c2 : 24 ≤ ((t + 1 : Nat) : Int)
        · rw [if_pos c2, fX9_reachOf_56, m_away hM (by omega) (by omega), b2_ok, if_neg (by omega)]
          exact ⟨_, rfl, Or.inr ⟨by omega, by omega⟩⟩
        · rw [if_neg c2, m_away hM (by omega) (by omega), b2_ok, if_pos (by omega), fX9_reachOf_56, m_away hM (by omega) (by omega), b2_ok, if_neg (by omega)]
          exact ⟨_, rfl, Or.inl ⟨rfl, by omega⟩⟩
  | _, 0, _, _, _, hn, _, _, _ => absurd hn (by omega)
theorem m_reachOf (hM : SeaM s D) (h : SeaOk D nH nB nS) {i j q u : Nat} (hi : i < nB) (hj : j < nH) (hq : q < nS) (hu : u ≤ 24) : ∃ r : Int, fX9_reachOf i j q u s = some (r, s) ∧ ((r = arr D (D (16 + 5 * i + 1)) (D (36 + 4 * i + j)) q u ∧ r ≤ 23) ∨ (23 < r ∧ arr D (D (16 + 5 * i + 1)) (D (36 + 4 * i + j)) q u = 24)) := by
  have hmi := h.2.2.2.1 i j (by have := h.1; omega) (by have := h.1; omega)
  unfold fX9_reachOf
  exact m_reachOf_7 hM h hi hj hq (24 - u) 600 u 0 (by omega) (by omega) (by omega) (by omega) (by omega)
theorem call_reach (hI : Inv s) (a b c d : Int) : ∃ r s1 s2, fX8_reach a b c d s = some (r, s1) ∧ fX9_reach a b c d s1 = some (r, s2) ∧ Inv s2 := by
  have hI2 := hI.read
  obtain ⟨D, nH, nB, nS, N, K, kc, T, tl, hV, hM, hC⟩ := hI
  have hb := hV.1.1
  have hM1 : SeaM (mu s 0 0 0) D := hM.1.fr mu00_1
  refine ⟨if (((0 ≤ a ∧ a < nB) ∧ (0 ≤ b ∧ b < nH)) ∧ (0 ≤ c ∧ c < nS)) ∧ (0 ≤ d ∧ d ≤ 23) then (if arr D (D (16 + 5 * a.toNat + 1)) (D (36 + 4 * a.toNat + b.toNat)) c.toNat d.toNat ≤ 23 then ((arr D (D (16 + 5 * a.toNat + 1)) (D (36 + 4 * a.toNat + b.toNat)) c.toNat d.toNat : Nat) : Int) else -4) else -1, s, mu s 0 0 0, ?_, ?_, hI2⟩
  · unfold fX8_reach
    simp only [c_isStorm hC.1, c_isSort hC.1, c_isHarbour hC.1, c_isHour, b2_ok, if01_0]
    by_cases hv : (((0 ≤ a ∧ a < nB) ∧ (0 ≤ b ∧ b < nH)) ∧ (0 ≤ c ∧ c < nS)) ∧ (0 ≤ d ∧ d ≤ 23)
    · obtain ⟨i, rfl⟩ := nat_of hv.1.1.1.1
      obtain ⟨j, rfl⟩ := nat_of hv.1.1.2.1
      obtain ⟨q, rfl⟩ := nat_of hv.1.2.1
      obtain ⟨u, rfl⟩ := nat_of hv.2.1
      rw [if_pos hv, if_neg (by omega), if_neg (by omega), if_neg (by omega), if_neg (by omega), c_arrival hC.2.1 hV.1 (by omega) (by omega) (by omega) (by omega), b2_ok]
      simp only [Int.toNat_natCast]
      repeat' split
      all_goals first | rfl | (exfalso; omega)
    · rw [if_neg hv]
      repeat' split
      all_goals first | rfl | (exfalso; omega)
  · unfold fX9_reach
    simp only [lt_ok, m_isStorm hM1 hV.1, m_isSort hM1 hV.1, m_isHarbour hM1 hV.1, m_isIn, b2_ok, if01_0]
    by_cases hv : (((0 ≤ a ∧ a < nB) ∧ (0 ≤ b ∧ b < nH)) ∧ (0 ≤ c ∧ c < nS)) ∧ (0 ≤ d ∧ d ≤ 23)
    · obtain ⟨i, rfl⟩ := nat_of hv.1.1.1.1
      obtain ⟨j, rfl⟩ := nat_of hv.1.1.2.1
      obtain ⟨q, rfl⟩ := nat_of hv.1.2.1
      obtain ⟨u, rfl⟩ := nat_of hv.2.1
      obtain ⟨r, hr, hr2⟩ := m_reachOf hM1 hV.1 (i := i) (j := j) (q := q) (u := u) (by omega) (by omega) (by omega) (by omega)
      rw [if_pos hv, if_neg (by omega), if_neg (by omega), if_neg (by omega), if_neg (by omega), hr, b2_ok]
      simp only [Int.toNat_natCast]
      rcases hr2 with ⟨e, h2⟩ | ⟨h1, h2⟩
      · rw [if_pos h2, if_pos (by omega), e]
      · rw [if_neg (by omega), if_neg (by omega)]
    · rw [if_neg hv]
      repeat' split
      all_goals first | rfl | (exfalso; omega)
theorem call_now (hI : Inv s) (a : Int) : ∃ r s1 s2, fX8_now a s = some (r, s1) ∧ fX9_now a s1 = some (r, s2) ∧ Inv s2 := by
  have hI2 := hI.read
  obtain ⟨D, nH, nB, nS, N, K, kc, T, tl, hV, hM, hC⟩ := hI
  have hN : NowM (mu s 0 0 0) N := hM.thrown.2.1
  obtain ⟨e1, e2, e3, e4, -⟩ := hC.2.2.1
  refine ⟨if a = 0 then N 10 else if a = 1 then N 11 else if a = 2 then N 8 else if a = 3 then N 9 else -1, s, mu s 0 0 0, ?_, ?_, hI2⟩
  · unfold fX8_now
    rw [e1, e2, e3, e4]
    repeat' split
    all_goals rfl
  · unfold fX9_now
    simp (disch := omega) only [lt_ok, rd_m_now, bo_ok, Int.reduceToNat, hN.at]
    repeat' split
    all_goals rfl
theorem NowOk.cong {N N' : Nat → Int} (h : NowOk N nH nS) (e : ∀ k, k < 12 → N' k = N k) : NowOk N' nH nS := by
  obtain ⟨h1, h2⟩ := h
  refine ⟨fun i hi => ?_, ?_⟩
  · rw [e _ (by omega), e _ (by omega)]; exact h1 i hi
  · rw [e 8 (by omega), e 9 (by omega), e 10 (by omega), e 11 (by omega)]; exact h2
theorem NowOk.put {N : Nat → Int} (h : NowOk N nH nS) {k : Nat} {x : Int} (hk : (k = 8 ∧ 0 ≤ x ∧ x ≤ 9) ∨ (k = 9 ∧ 1 ≤ x ∧ x ≤ 32)) : NowOk (fu N k x) nH nS := by
  obtain ⟨w1, w2, w3, w4, w5, w6, w7, th, w8, w9⟩ := h
  refine ⟨fun i hi => ?_, ?_⟩
  · rw [fu_ne _ _ (by omega), fu_ne _ _ (by omega)]; exact w1 i hi
  · rw [fu_ne _ _ (show 10 ≠ k by omega), fu_ne _ _ (show 11 ≠ k by omega)]
    rcases hk with ⟨rfl, a, b⟩ | ⟨rfl, a, b⟩
    · rw [fu_same, fu_ne _ _ (by decide)]; exact ⟨a, b, w4, w5, w6, w7, th, w8, w9⟩
    · rw [fu_same, fu_ne _ _ (by decide)]; exact ⟨w2, w3, a, b, w6, w7, th, w8, w9⟩
theorem NowM.put {k : Nat} {x : Int} (h : NowM s N) : NowM (mu s 2 k x) (fu N k x) := by
  intro j hj
  rw [mu_same]
  by_cases e : j = k
  · subst e; rw [fu_same, fu_same]
  · rw [fu_ne _ _ e, fu_ne _ _ e]; exact h j hj
theorem call_set (hI : Inv s) (a b : Int) : ∃ r s1 s2, fX8_set a b s = some (r, s1) ∧ fX9_set a b s1 = some (r, s2) ∧ Inv s2 := by
  have hI2 := hI.read
  obtain ⟨D, nH, nB, nS, N, K, kc, T, tl, hV, hM, hC⟩ := hI
  obtain ⟨e1, e2, e3, e4, e5⟩ := hC.2.2.1
  by_cases c0 : a = 0 ∧ (0 ≤ b ∧ b ≤ 9)
  · obtain ⟨rfl, hb0⟩ := c0
    refine ⟨N 8, mu s 109 1 b, mu (mu (mu s 109 1 b) 0 0 0) 2 8 b, ?_, ?_, ?_⟩
    · unfold fX8_set
      rw [if_pos rfl, if_neg (by omega), if_neg (by omega), lt_ok, lt_ok, e1]
    · unfold fX9_set fX9_set_43
      simp (disch := omega) only [lt_ok, m_isIn, b2_ok, if01_0, if_true, w32_id, Int.reduceAdd, rd_m_now, wr_m_now, bo_ok, Int.reduceToNat, mu_ne, hM.2.1.at]
      rw [if_neg (by omega), if_neg (by omega)]
    · refine ⟨D, nH, nB, nS, fu N 8 b, K, kc, T, tl, ⟨hV.1, hV.2.1.put (Or.inl ⟨rfl, hb0⟩), hV.2.2⟩, ?_, ?_⟩
      · refine (hM.fr (FrC.mu (k := 109) (j := 1) (x := b) (by decide))).thrown.now (NowM.put (InvM.fr hM (FrC.mu (k := 109) (j := 1) (x := b) (by decide))).thrown.2.1) ?_ ?_ ?_ ?_ ?_ <;> simp (disch := omega) only [mu_ne]
      · refine (hC.now (s' := mu s 109 1 b) hV.1 ?_ (fun k h1 h2 h3 => mu_ne _ _ _ (by omega))).fr (FrM.trans (FrM.mu (by decide)) (FrM.mu (by decide)))
        refine ⟨?_, ?_, ?_, ?_, fun i hi => ?_⟩ <;> simp (disch := omega) only [mu_same, mu_ne, fu_same, fu_ne]
        · exact e2
        · exact e3
        · exact e4
        · exact e5 i hi
  · by_cases c1 : a = 1 ∧ (1 ≤ b ∧ b ≤ 32)
    · obtain ⟨rfl, hb0⟩ := c1
      refine ⟨N 9, mu s 109 2 b, mu (mu (mu s 109 2 b) 0 0 0) 2 9 b, ?_, ?_, ?_⟩
      · unfold fX8_set fX8_set_32
        rw [if_neg (by decide), if_pos rfl, if_neg (by omega), if_neg (by omega), lt_ok, lt_ok, e2]
      · unfold fX9_set fX9_set_43
        simp (disch := omega) only [lt_ok, m_isIn, b2_ok, if01_0, w32_id, Int.reduceAdd, rd_m_now, wr_m_now, bo_ok, Int.reduceToNat, mu_ne, hM.2.1.at]
        rw [if_neg (by omega), if_neg (by decide), if_neg (by omega)]
      · refine ⟨D, nH, nB, nS, fu N 9 b, K, kc, T, tl, ⟨hV.1, hV.2.1.put (Or.inr ⟨rfl, hb0⟩), hV.2.2⟩, ?_, ?_⟩
        · refine (hM.fr (FrC.mu (k := 109) (j := 2) (x := b) (by decide))).thrown.now (NowM.put (InvM.fr hM (FrC.mu (k := 109) (j := 2) (x := b) (by decide))).thrown.2.1) ?_ ?_ ?_ ?_ ?_ <;> simp (disch := omega) only [mu_ne]
        · refine (hC.now (s' := mu s 109 2 b) hV.1 ?_ (fun k h1 h2 h3 => mu_ne _ _ _ (by omega))).fr (FrM.trans (FrM.mu (by decide)) (FrM.mu (by decide)))
          refine ⟨?_, ?_, ?_, ?_, fun i hi => ?_⟩ <;> simp (disch := omega) only [mu_same, mu_ne, fu_same, fu_ne]
          · exact e1
          · exact e3
          · exact e4
          · exact e5 i hi
    · refine ⟨-1, s, mu s 0 0 0, ?_, ?_, hI2⟩
      · unfold fX8_set fX8_set_32
        repeat' split
        all_goals first | rfl | (exfalso; omega)
      · unfold fX9_set
        simp only [lt_ok, m_isIn, b2_ok, if01_0]
        repeat' split
        all_goals first | rfl | (exfalso; omega)
end EZ

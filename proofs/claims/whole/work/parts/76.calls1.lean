section C1
variable {D : Nat → Int} {nH nB nS q : Nat} {N K : Nat → Int} {kc : Nat} {T : Nat → Int} {tl : Nat} {U G : Nat → Nat} {V : Nat → Int} {w : Bool} {s s1 s2 s' : Mem}
/-- behind a call that leaves both objects as they were, their scratch rows aside -/
theorem fin_inv (hV : VOk D nH nB nS N K kc T tl) (hM : InvM s D N K kc T tl) (hC : InvC s D nH nB nS N K kc T tl) (f1 : ∀ k, k < 122 → s1 k = s k) (f2 : ∀ c, c ≠ 0 → (c < 5 ∨ 16 < c) → s2 c = s1 c) (f0 : ∀ f, f ≠ 0 → s2 0 f = s1 0 f) : Inv s2 := by
  refine ⟨D, nH, nB, nS, N, K, kc, T, tl, hV, ?_, ?_⟩
  · have h1 : InvM s1 D N K kc T tl := hM.fr (fun k hk => f1 k (by omega))
    exact h1.keep (f2 1 (by decide) (by decide)) (f2 2 (by decide) (by decide)) (f2 3 (by decide) (by decide)) (f2 4 (by decide) (by decide)) (f0 4 (by decide)) (f0 6 (by decide))
  · have h1 : InvC s1 D nH nB nS N K kc T tl := hC.scr hV.1 (fun k a b => f1 k (by omega))
    exact h1.fr (fun k hk => f2 k (by omega) (by omega))
/-- the reference as it begins to sail by the told PLANS -/
theorem m_begin (hV : VOk D nH nB nS N K kc T tl) (hM : InvM s1 D N K kc T tl) : ∃ s3, fX9_asPlanned (mu s1 0 0 0) = some s3 ∧ PrM s3 D nB (uN N) (gN N) (vD D) ∧ NowM s3 N ∧ (∀ c, c ≠ 0 → (c < 5 ∨ 7 < c) → s3 c = s1 c) ∧ (∀ f, f ≠ 0 → s3 0 f = s1 0 f) ∧ (∀ i, i < 4 → s3 5 i = N (2 * i) ∧ s3 6 i = N (2 * i + 1) ∧ s3 7 i = D (16 + 5 * i + 1)) := by
  have h0 := hM.thrown
  obtain ⟨s3, q1, q2, q3, q4⟩ := m_asPlanned hV.1 hV.2.1 h0.1 h0.2.1
  refine ⟨s3, q1, q2, fun k hk => by rw [q3 2 (by decide) (by decide) (by decide)]; exact h0.2.1 k hk, fun c h1 h2 => by rw [q3 c (by omega) (by omega) (by omega), mu_ne _ _ _ h1], fun f hf => by rw [q3 0 (by decide) (by decide) (by decide), mu_same, fu_ne _ _ hf], q4⟩
theorem call_value (hI : Inv s) (a : Int) : ∃ r s1 s2, fX8_value a s = some (r, s1) ∧ fX9_value a s1 = some (r, s2) ∧ Inv s2 := by
  have hI2 := hI.read
  obtain ⟨D, nH, nB, nS, N, K, kc, T, tl, hV, hM, hC⟩ := hI
  have hb := hV.1.1
  by_cases ha : 0 ≤ a ∧ a < nS
  · obtain ⟨q, rfl⟩ := nat_of ha.1
    obtain ⟨u1, u2, u3, u4⟩ := c_usual hC hV.1 hV.2.1
    have hP := PlOk'.now hV.1 hV.2.1
    obtain ⟨s1, p1, p2⟩ := c_worthOf (hP.at (q := q) (by omega)) plc_w (all_16 (nB := nB) (by omega)) u2
    have f1 : ∀ k, k < 122 → s1 k = s k := fun k hk => by rw [p2 k (by omega), u4 k (by omega)]
    have hM1 : InvM s1 D N K kc T tl := hM.fr (fun k hk => f1 k (by omega))
    obtain ⟨s3, z1, z2, z3, z4, z5, z6⟩ := m_begin hV hM1
    obtain ⟨s4, g1, g2, g3, g4⟩ := m_goesBy (w := false) (hP.at (q := q) (by omega)) z2
    refine ⟨w64 (vM D nB q (uN N) (gN N) (vD D) false (2 ^ nB - 1)), s1, s4, ?_, ?_, fin_inv hV hM hC f1 (fun c h1 h2 => by rw [g4 c (by omega), z4 c h1 (by omega)]) (fun f hf => by rw [g4 0 (by omega), z5 f hf])⟩
    · unfold fX8_value
      rw [c_isStorm hC.1, b2_ok, if_neg (by rw [if_pos ha]; decide), u1, bo_ok, c_allSorts u2.1 (by omega), b2_ok, p1, b2_ok]
    · unfold fX9_value
      rw [lt_ok, m_isStorm hM1.thrown.1 hV.1, b2_ok, if_neg (by rw [if_pos ha]; decide), z1, bo_ok]
      have g1' : fX9_goesBy q 0 s3 = _ := g1
      rw [g1', b2_ok]
  · refine ⟨-9223372036854775808, s, mu s 0 0 0, ?_, ?_, hI2⟩
    · unfold fX8_value
      rw [c_isStorm hC.1, b2_ok, if_pos (by rw [if_neg ha])]
    · unfold fX9_value
      rw [lt_ok, m_isStorm hM.thrown.1 hV.1, b2_ok, if_pos (by rw [if_neg ha])]
theorem call_mean (hI : Inv s) : ∃ r s1 s2, fX8_mean s = some (r, s1) ∧ fX9_mean s1 = some (r, s2) ∧ Inv s2 := by
  obtain ⟨D, nH, nB, nS, N, K, kc, T, tl, hV, hM, hC⟩ := hI
  have hb := hV.1.1
  obtain ⟨th, e11, hth⟩ := hV.2.1.2.2.2.2.2.2.2
  have h16 := th_16 hth (by omega)
  obtain ⟨u1, u2, u3, u4⟩ := c_usual hC hV.1 hV.2.1
  have hP := PlOk'.now hV.1 hV.2.1
  obtain ⟨s1, p1, p2⟩ := c_meanOf hP plc_w (all_16 (nB := nB) (by omega)) h16 u2
  have f1 : ∀ k, k < 122 → s1 k = s k := fun k hk => by rw [p2 k (by omega), u4 k (by omega)]
  have hM1 : InvM s1 D N K kc T tl := hM.fr (fun k hk => f1 k (by omega))
  obtain ⟨s3, z1, z2, z3, z4, z5, z6⟩ := m_begin hV hM1
  obtain ⟨s4, g1, g4⟩ := m_meanOf (w := false) (own := -1) hP e11 h16 (by omega) z2 z3
  refine ⟨w64 (mn D nB nS (uN N) (gN N) (vD D) false (2 ^ nB - 1) th), s1, s4, ?_, ?_, fin_inv hV hM hC f1 (fun c h1 h2 => by rw [g4 c (by omega), z4 c h1 (by omega)]) (fun f hf => by rw [g4 0 (by omega), z5 f hf])⟩
  · unfold fX8_mean
    rw [u1, bo_ok, c_allSorts u2.1 (by omega), b2_ok, u4 _ (by decide), hC.2.2.1.2.2.2.1, e11, p1, b2_ok]
  · unfold fX9_mean
    rw [lt_ok, z1, bo_ok]
    have g1' : fX9_meanOf 0 (-1) s3 = some (w64 (mn D nB nS (uN N) (gN N) (vD D) false (2 ^ nB - 1) th), s4) := g1
    rw [g1', b2_ok]
end C1

section E7
variable {D : Nat → Int} {nH nB nS : Nat} {N K : Nat → Int} {kc : Nat} {T : Nat → Int} {tl : Nat} {s s' : Mem}
theorem m_back_27 (hk : KepM s K (kc + 1)) (h2 : kc < 2) : ∃ s', fX9_back_27 600 0 (mu s 0 4 (kc : Int)) = some ((kc : Int), s') ∧ NowM s' (fun k => K (12 * kc + k)) ∧ (∀ k, k ≠ 0 → k ≠ 2 → s' k = s k) ∧ s' 0 = fu (s 0) 4 (kc : Int) := by
  have key : ∀ (m n i : Nat) (s1 : Mem), i + m = 12 → m < n → s1 0 = fu (s 0) 4 (kc : Int) → (∀ k, k ≠ 0 → k ≠ 2 → s1 k = s k) → (∀ k, k < i → s1 2 k = K (12 * kc + k)) → ∃ s', fX9_back_27 n i s1 = some ((kc : Int), s') ∧ NowM s' (fun k => K (12 * kc + k)) ∧ (∀ k, k ≠ 0 → k ≠ 2 → s' k = s k) ∧ s' 0 = fu (s 0) 4 (kc : Int) := by
    intro m
    induction m with
    | zero =>
      intro n i s1 e hn h0 h3 h5
      cases n with
      | zero => omega
      | succ n =>
        refine ⟨s1, ?_, fun k hk2 => h5 k (by omega), h3, h0⟩
        rw [fX9_back_27, if_pos (by omega), h0, fu_same]
    | succ m ih =>
      intro n i s1 e hn h0 h3 h5
      cases n with
      | zero => omega
      | succ n =>
        rw [fX9_back_27, if_neg (by omega), h0, fu_same]
        simp (disch := omega) only [nab, na_0, na_1, na_2, na_3, na_4, na_5, na_6, na_8, na_10, na_12, na_16, na_24, na_36, na_52, na_76, na_120, na_172, na_186, nb_0, nb_1, nb_2, nb_3, nb_4, nb_5, nb_6, nb_8, nb_10, nb_12, nb_16, nb_24, nb_36, nb_52, nb_76, nb_120, nb_172, nb_186, nm_2, nm_3, nm_4, nm_5, nm_6, nm_8, nm_10, nm_12, nm_16, nm_24, nm_36, nm_52, nm_76, nm_120, nm_172, nm_186, nn_2, nn_3, nn_4, nn_5, nn_6, nn_8, nn_10, nn_12, nn_16, nn_24, nn_36, nn_52, nn_76, nn_120, nn_172, nn_186, rd_m_kept, wr_m_now, bo_ok, lt_ok, Int.toNat_natCast]
        rw [h3 3 (by decide) (by decide), hk.2 (12 * kc + i) (by omega)]
        refine ih n (i + 1) _ (by omega) (by omega) (by rw [mu_ne _ _ _ (by decide)]; exact h0) (fun k k0 k3 => by rw [mu_ne _ _ _ k3]; exact h3 k k0 k3) (fun k hk2 => ?_)
        rw [mu_same]
        by_cases c : k = i
        · subst c; rw [fu_same]
        · rw [fu_ne _ _ c]; exact h5 k (by omega)
  exact key 12 600 0 _ (by omega) (by omega) (by rw [mu_same]) (fun k k0 _ => mu_ne _ _ _ k0) (fun k hk2 => absurd hk2 (by omega))
theorem call_back (hI : Inv s) : ∃ r s1 s2, fX8_back s = some (r, s1) ∧ fX9_back s1 = some (r, s2) ∧ Inv s2 := by
  have hI2 := hI.read
  obtain ⟨D, nH, nB, nS, N, K, kc, T, tl, hV, hM, hC⟩ := hI
  have hkc := hV.2.2.1
  cases kc with
  | zero =>
    refine ⟨-2, s, mu s 0 0 0, ?_, ?_, hI2⟩
    · unfold fX8_back
      rw [hC.2.2.2.1.1, if_neg (by omega)]
    · unfold fX9_back
      rw [lt_ok, hM.thrown.2.2.1.1, if_pos (by omega)]
  | succ kc =>
    have ew : w32 (((kc + 1 : Nat) : Int) - 1) = (kc : Int) := by rw [w32_id (by omega) (by omega)]; omega
    have hcls : ∃ s1, fX8_back s = some ((kc : Int), s1) ∧ WatC s1 109 111 112 (fun k => K (12 * kc + k)) ∧ s1 17 4 = kc ∧ (∀ k, k < 17 → s1 k = s k) ∧ (∀ k, 17 < k → k < 122 → (k < 109 ∨ 113 ≤ k) → s1 k = s k) := by
      unfold fX8_back
      rw [hC.2.2.2.1.1, if_pos (by omega), lt_ok, ew]
      have e4 : (mu s 17 4 (kc : Int)) 17 4 = (kc : Int) := by rw [mu_same, fu_same]
      rw [e4]
      rcases (show kc = 0 ∨ kc = 1 by omega) with rfl | rfl
      · have hW : WatC (mu s 17 4 ((0 : Nat) : Int)) 114 117 118 K := (hC.2.2.2.1.2.1 (by omega)).fr (mu_ne _ _ _ (by decide)) (mu_ne _ _ _ (by decide)) (mu_ne _ _ _ (by decide))
        obtain ⟨s1, g1, g2, g3⟩ := c_copyWatch (w0 := 109) (w1 := 114) pt_watch_0 pt_kept_0_0 pt_watch_plans_0 pt_watch_plans_1 pt_kept_0_plans_0 pt_kept_0_plans_1 (by decide +kernel) (by decide +kernel) (by decide +kernel) (by decide +kernel) (by decide) (by decide) (by decide) (by decide) (by decide) (by decide) (by decide) (by decide) (by decide) (by decide) hW
        refine ⟨s1, ?_, WatC.cong g2 (fun k hk => by congr 1; omega), ?_, fun k hk => ?_, fun k h1 h2 h3 => ?_⟩
        · simp (disch := omega) only [rdG_kept, bo_ok, Int.toNat_natCast, Nat.add_zero]
          rw [g1, bo_ok, g3 17 (by decide) (by decide) (by decide), e4]
        · rw [g3 17 (by decide) (by decide) (by decide), e4]
        · rw [g3 k (by omega) (by omega) (by omega), mu_ne _ _ _ (by omega)]
        · rw [g3 k (by omega) (by omega) (by omega), mu_ne _ _ _ (by omega)]
      · have hW : WatC (mu s 17 4 ((1 : Nat) : Int)) 115 120 121 (fun k => K (12 + k)) := (hC.2.2.2.1.2.2 (by omega)).fr (mu_ne _ _ _ (by decide)) (mu_ne _ _ _ (by decide)) (mu_ne _ _ _ (by decide))
        obtain ⟨s1, g1, g2, g3⟩ := c_copyWatch (w0 := 109) (w1 := 115) pt_watch_0 pt_kept_1_0 pt_watch_plans_0 pt_watch_plans_1 pt_kept_1_plans_0 pt_kept_1_plans_1 (by decide +kernel) (by decide +kernel) (by decide +kernel) (by decide +kernel) (by decide) (by decide) (by decide) (by decide) (by decide) (by decide) (by decide) (by decide) (by decide) (by decide) hW
        refine ⟨s1, ?_, WatC.cong g2 (fun k hk => rfl), ?_, fun k hk => ?_, fun k h1 h2 h3 => ?_⟩
        · simp (disch := omega) only [rdG_kept, bo_ok, Int.toNat_natCast]
          rw [g1, bo_ok, g3 17 (by decide) (by decide) (by decide), e4]
        · rw [g3 17 (by decide) (by decide) (by decide), e4]
        · rw [g3 k (by omega) (by omega) (by omega), mu_ne _ _ _ (by omega)]
        · rw [g3 k (by omega) (by omega) (by omega), mu_ne _ _ _ (by omega)]
    obtain ⟨s1, g1, g2, g3, g4, g5⟩ := hcls
    have hM1 := (hM.fr (s' := s1) (fun k hk => g4 k hk)).thrown
    obtain ⟨s2, f1, f2, f3, f4⟩ := m_back_27 hM1.2.2.1 (by omega)
    refine ⟨_, s1, s2, g1, ?_, D, nH, nB, nS, fun k => K (12 * kc + k), K, kc, T, tl, ⟨hV.1, ?_, by omega, fun z => hV.2.2.2.1 (by omega), fun z => hV.2.2.2.2.1 (by omega), hV.2.2.2.2.2⟩, ?_, ?_⟩
    · unfold fX9_back
      rw [lt_ok, hM1.2.2.1.1, if_neg (by omega), lt_ok, ew]
      exact f1
    · rcases (show kc = 0 ∨ kc = 1 by omega) with rfl | rfl
      · exact (hV.2.2.2.1 (by omega)).cong (fun k hk => by congr 1; omega)
      · exact hV.2.2.2.2.1 (by omega)
    · obtain ⟨m1, m2, m3, m4⟩ := hM1
      refine ⟨fun k hk => ?_, f2, ⟨?_, fun k hk => ?_⟩, ?_, fun k hk => ?_⟩
      · rw [f3 1 (by decide) (by decide)]; exact m1 k hk
      · rw [f4, fu_same]
      · rw [f3 3 (by decide) (by decide)]; exact m3.2 k (by omega)
      · rw [f4, fu_ne _ _ (by decide)]; exact m4.1
      · rw [f3 4 (by decide) (by decide)]; exact m4.2 k hk
    · refine InvC.fr (s := s1) ?_ (fun k hk => by rw [f3 k (by omega) (by omega), mu_ne _ _ _ (by omega)])
      refine ⟨hC.1.of hV.1.b (fun k a b => g5 k (by omega) (by omega) (by omega)), hC.2.1.of hV.1.b (fun k a b => g5 k (by omega) (by omega) (by omega)), g2, ⟨g3, fun z => ?_, fun z => absurd z (by omega)⟩, hC.2.2.2.2.of (by rw [g5 _ (by decide) (by decide) (by decide)]) (g5 _ (by decide) (by decide) (by decide))⟩
      exact (hC.2.2.2.1.2.1 (by omega)).fr (g5 _ (by decide) (by decide) (by decide)) (g5 _ (by decide) (by decide) (by decide)) (g5 _ (by decide) (by decide) (by decide))
end E7

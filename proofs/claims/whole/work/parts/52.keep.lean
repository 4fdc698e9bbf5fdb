section E6
variable {D : Nat → Int} {nH nB nS : Nat} {N K : Nat → Int} {kc : Nat} {T : Nat → Int} {tl : Nat} {s s' : Mem}
/-! ===== keep, back ===== -/
/-- copying PLANS: rows c, d of p1 into rows a, b of p0 -/
theorem c_copyFrom {p0 p1 a b c d : Nat} (e1 : ab_pt p0 0 = a) (e2 : ab_pt p0 1 = b) (e3 : ab_pt p1 0 = c) (e4 : ab_pt p1 1 = d) (la : lenI a = 4) (lb : lenI b = 4) (lc : lenI c = 4) (ld : lenI d = 4) (n1 : a ≠ b) (n2 : a ≠ c) (n3 : a ≠ d) (n4 : b ≠ c) (n5 : b ≠ d) (s : Mem) : ∃ s', fX3_copyFrom p0 p1 s = some s' ∧ (∀ i, i < 4 → s' a i = s c i ∧ s' b i = s d i) ∧ (∀ k, k ≠ a → k ≠ b → s' k = s k) := by
  have key : ∀ (m n i : Nat) (s1 : Mem), i + m = 4 → m < n → (∀ j, j < i → s1 a j = s c j ∧ s1 b j = s d j) → (∀ k, k ≠ a → k ≠ b → s1 k = s k) → ∃ s', fX3_copyFrom_2 n p0 p1 i s1 = some s' ∧ (∀ i, i < 4 → s' a i = s c i ∧ s' b i = s d i) ∧ (∀ k, k ≠ a → k ≠ b → s' k = s k) := by
    intro m
    induction m with
    | zero =>
      intro n i s1 e hn h1 h2
      cases n with
      | zero => omega
      | succ n =>
        refine ⟨s1, ?_, fun j hj => h1 j (by omega), h2⟩
        rw [fX3_copyFrom_2, if_pos (by omega)]
    | succ m ih =>
      intro n i s1 e hn h1 h2
      cases n with
      | zero => omega
      | succ n =>
        obtain ⟨s', g1, g2, g3⟩ := ih n (i + 1) (mu (mu s1 a i (s c i)) b i (s d i)) (by omega) (by omega) (fun j hj => by
          rw [mu_ne _ _ _ n1, mu_same, mu_same]
          by_cases ej : j = i
          · subst ej; rw [fu_same, fu_same]; exact ⟨rfl, rfl⟩
          · rw [fu_ne _ _ ej, fu_ne _ _ ej, mu_ne _ _ _ (Ne.symm n1)]; exact h1 j (by omega)) (fun k ka kb => by rw [mu_ne _ _ _ kb, mu_ne _ _ _ ka]; exact h2 k ka kb)
        refine ⟨s', ?_, g2, g3⟩
        rw [fX3_copyFrom_2, if_neg (by omega), e3, e4, rdI_of lc (by omega) (by omega), bo_ok, rdI_of ld (by omega) (by omega), bo_ok]
        unfold fX3_send
        rw [e1, e2, wrI_of la (by omega) (by omega), bo_ok, wrI_of lb (by omega) (by omega), bo_ok, bo_ok, lt_ok, w32_s (by omega), Int.toNat_natCast, h2 c (Ne.symm n2) (Ne.symm n4), h2 d (Ne.symm n3) (Ne.symm n5)]
        exact g1
  exact key 4 600 0 s (by omega) (by omega) (fun j hj => absurd hj (by omega)) (fun _ _ _ => rfl)
/-- copying a Watch -/
theorem c_copyWatch {w0 w1 p0 p1 a b c d : Nat} (f0 : ab_pt w0 0 = p0) (f1 : ab_pt w1 0 = p1) (e1 : ab_pt p0 0 = a) (e2 : ab_pt p0 1 = b) (e3 : ab_pt p1 0 = c) (e4 : ab_pt p1 1 = d) (la : lenI a = 4) (lb : lenI b = 4) (lc : lenI c = 4) (ld : lenI d = 4) (n1 : a ≠ b) (n2 : a ≠ c) (n3 : a ≠ d) (n4 : b ≠ c) (n5 : b ≠ d) (x1 : w0 ≠ w1) (x2 : w0 ≠ a) (x3 : w0 ≠ b) (x4 : w1 ≠ a) (x5 : w1 ≠ b) {s : Mem} {N : Nat → Int} (h : WatC s w1 c d N) : ∃ s', fX7_copyFrom w0 w1 s = some s' ∧ WatC s' w0 a b N ∧ (∀ k, k ≠ w0 → k ≠ a → k ≠ b → s' k = s k) := by
  obtain ⟨s1, g1, g2, g3⟩ := c_copyFrom e1 e2 e3 e4 la lb lc ld n1 n2 n3 n4 n5 s
  obtain ⟨h1, h2, h3, h4, h5⟩ := h
  have hw := g3 w1 x4 x5
  refine ⟨mu (mu (mu (mu s1 w0 1 (N 8)) w0 2 (N 9)) w0 3 (N 10)) w0 4 (N 11), ?_, ?_, fun k k0 k1 k2 => ?_⟩
  · unfold fX7_copyFrom
    rw [f0, f1, g1, bo_ok]
    simp only [lt_ok, mu_ne _ _ _ (Ne.symm x1), hw, h1, h2, h3, h4]
  · refine ⟨?_, ?_, ?_, ?_, fun i hi => ?_⟩
    · simp only [mu_same, fu_same, fu_ne _ _ (show 1 ≠ 4 by decide), fu_ne _ _ (show 1 ≠ 3 by decide), fu_ne _ _ (show 1 ≠ 2 by decide)]
    · simp only [mu_same, fu_same, fu_ne _ _ (show 2 ≠ 4 by decide), fu_ne _ _ (show 2 ≠ 3 by decide)]
    · simp only [mu_same, fu_same, fu_ne _ _ (show 3 ≠ 4 by decide)]
    · simp only [mu_same, fu_same]
    · simp only [mu_ne _ _ _ (Ne.symm x2), mu_ne _ _ _ (Ne.symm x3)]
      rw [(g2 i hi).1, (g2 i hi).2]; exact h5 i hi
  · simp only [mu_ne _ _ _ k0]; exact g3 k k1 k2
def kput (N K : Nat → Int) (kc : Nat) : Nat → Int := fun k => if 12 * kc ≤ k then N (k - 12 * kc) else K k
theorem m_keep_18 (hN : NowM s N) (hk : KepM s K kc) (h2 : kc < 2) : ∃ s', fX9_keep_18 600 0 s = some (((kc + 1 : Nat) : Int), s') ∧ KepM s' (kput N K kc) (kc + 1) ∧ (∀ k, k ≠ 0 → k ≠ 3 → s' k = s k) ∧ s' 0 6 = s 0 6 := by
  have key : ∀ (m n i : Nat) (s1 : Mem), i + m = 12 → m < n → s1 0 = s 0 → (∀ k, k ≠ 3 → s1 k = s k) → (∀ k, k < 12 * kc → s1 3 k = K k) → (∀ k, k < i → s1 3 (12 * kc + k) = N k) → ∃ s', fX9_keep_18 n i s1 = some (((kc + 1 : Nat) : Int), s') ∧ KepM s' (kput N K kc) (kc + 1) ∧ (∀ k, k ≠ 0 → k ≠ 3 → s' k = s k) ∧ s' 0 6 = s 0 6 := by
    intro m
    induction m with
    | zero =>
      intro n i s1 e hn h0 h3 h4 h5
      cases n with
      | zero => omega
      | succ n =>
        refine ⟨mu s1 0 4 ((kc + 1 : Nat) : Int), ?_, ⟨?_, fun k hk2 => ?_⟩, fun k k0 k3 => ?_, ?_⟩
        · rw [fX9_keep_18, if_pos (by omega), lt_ok, h0, hk.1, w32_s (by omega), mu_same, fu_same]
        · rw [mu_same, fu_same]
        · rw [mu_ne _ _ _ (by decide)]
          unfold kput
          by_cases c : 12 * kc ≤ k
          · rw [if_pos c]
            have := h5 (k - 12 * kc) (by omega)
            rw [show 12 * kc + (k - 12 * kc) = k by omega] at this
            exact this
          · rw [if_neg c]; exact h4 k (by omega)
        · rw [mu_ne _ _ _ k0]; exact h3 k k3
        · rw [mu_same, fu_ne _ _ (by decide), h0]
    | succ m ih =>
      intro n i s1 e hn h0 h3 h4 h5
      cases n with
      | zero => omega
      | succ n =>
        rw [fX9_keep_18, if_neg (by omega), h0, hk.1]
        simp (disch := omega) only [nab, na_0, na_1, na_2, na_3, na_4, na_5, na_6, na_8, na_10, na_12, na_16, na_24, na_36, na_52, na_76, na_120, na_172, na_186, nb_0, nb_1, nb_2, nb_3, nb_4, nb_5, nb_6, nb_8, nb_10, nb_12, nb_16, nb_24, nb_36, nb_52, nb_76, nb_120, nb_172, nb_186, nm_2, nm_3, nm_4, nm_5, nm_6, nm_8, nm_10, nm_12, nm_16, nm_24, nm_36, nm_52, nm_76, nm_120, nm_172, nm_186, nn_2, nn_3, nn_4, nn_5, nn_6, nn_8, nn_10, nn_12, nn_16, nn_24, nn_36, nn_52, nn_76, nn_120, nn_172, nn_186, rd_m_now, wr_m_kept, bo_ok, lt_ok, Int.toNat_natCast]
        rw [h3 2 (by decide), hN i (by omega)]
        refine ih n (i + 1) _ (by omega) (by omega) (by rw [mu_ne _ _ _ (by decide)]; exact h0) (fun k k3 => by rw [mu_ne _ _ _ k3]; exact h3 k k3) (fun k hk2 => ?_) (fun k hk2 => ?_)
        · rw [mu_same, fu_ne _ _ (by omega)]; exact h4 k hk2
        · rw [mu_same]
          by_cases c : k = i
          · subst c; rw [fu_same]
          · rw [fu_ne _ _ (by omega)]; exact h5 k (by omega)
  exact key 12 600 0 s (by omega) (by omega) rfl (fun _ _ => rfl) hk.2 (fun k hk2 => absurd hk2 (by omega))
theorem kput_0 {k : Nat} (h : k < 12) : kput N K 0 k = N k := by unfold kput; rw [if_pos (by omega)]; congr 1
theorem WatC.cong {N N' : Nat → Int} {w a b : Nat} (h : WatC s w a b N) (e : ∀ k, k < 12 → N' k = N k) : WatC s w a b N' := by
  obtain ⟨h1, h2, h3, h4, h5⟩ := h
  refine ⟨by rw [e 8 (by decide)]; exact h1, by rw [e 9 (by decide)]; exact h2, by rw [e 10 (by decide)]; exact h3, by rw [e 11 (by decide)]; exact h4, fun i hi => ?_⟩
  rw [e _ (by omega), e _ (by omega)]; exact h5 i hi
theorem call_keep (hI : Inv s) : ∃ r s1 s2, fX8_keep s = some (r, s1) ∧ fX9_keep s1 = some (r, s2) ∧ Inv s2 := by
  have hI2 := hI.read
  obtain ⟨D, nH, nB, nS, N, K, kc, T, tl, hV, hM, hC⟩ := hI
  have hkc := hV.2.2.1
  by_cases c : kc < 2
  · -- the class keeps its Watch in place kc
    have hcls : ∃ s1, fX8_keep s = some (((kc + 1 : Nat) : Int), s1) ∧ KepC s1 (kput N K kc) (kc + 1) ∧ (∀ k, k < 17 → s1 k = s k) ∧ (∀ k, 17 < k → k < 113 → s1 k = s k) := by
      unfold fX8_keep
      rw [hC.2.2.2.1.1, if_pos (by omega)]
      rcases (show kc = 0 ∨ kc = 1 by omega) with rfl | rfl
      · obtain ⟨s1, g1, g2, g3⟩ := c_copyWatch (w0 := 114) (w1 := 109) pt_kept_0_0 pt_watch_0 pt_kept_0_plans_0 pt_kept_0_plans_1 pt_watch_plans_0 pt_watch_plans_1 (by decide +kernel) (by decide +kernel) (by decide +kernel) (by decide +kernel) (by decide) (by decide) (by decide) (by decide) (by decide) (by decide) (by decide) (by decide) (by decide) (by decide) hC.2.2.1
        refine ⟨mu s1 17 4 1, ?_, ⟨?_, fun _ => ?_, fun z => absurd z (by omega)⟩, fun k hk => ?_, fun k h1 h2 => ?_⟩
        · simp (disch := omega) only [rdG_kept, bo_ok, lt_ok, Int.toNat_natCast, Nat.add_zero]
          rw [g1, bo_ok, g3 17 (by decide) (by decide) (by decide), hC.2.2.2.1.1, show w32 (((0 : Nat) : Int) + 1) = 1 from by decide, mu_same, fu_same]; rfl
        · rw [mu_same, fu_same]; rfl
        · exact (g2.fr (mu_ne _ _ _ (by decide)) (mu_ne _ _ _ (by decide)) (mu_ne _ _ _ (by decide))).cong (fun k hk => kput_0 hk)
        · rw [mu_ne _ _ _ (by omega)]; exact g3 k (by omega) (by omega) (by omega)
        · rw [mu_ne _ _ _ (by omega)]; exact g3 k (by omega) (by omega) (by omega)
      · obtain ⟨s1, g1, g2, g3⟩ := c_copyWatch (w0 := 115) (w1 := 109) pt_kept_1_0 pt_watch_0 pt_kept_1_plans_0 pt_kept_1_plans_1 pt_watch_plans_0 pt_watch_plans_1 (by decide +kernel) (by decide +kernel) (by decide +kernel) (by decide +kernel) (by decide) (by decide) (by decide) (by decide) (by decide) (by decide) (by decide) (by decide) (by decide) (by decide) hC.2.2.1
        refine ⟨mu s1 17 4 2, ?_, ⟨?_, fun _ => ?_, fun _ => ?_⟩, fun k hk => ?_, fun k h1 h2 => ?_⟩
        · simp (disch := omega) only [rdG_kept, bo_ok, lt_ok, Int.toNat_natCast]
          rw [g1, bo_ok, g3 17 (by decide) (by decide) (by decide), hC.2.2.2.1.1, show w32 (((1 : Nat) : Int) + 1) = 2 from by decide, mu_same, fu_same]; rfl
        · rw [mu_same, fu_same]; rfl
        · refine WatC.cong (N := K) ?_ (fun k hk => by unfold kput; rw [if_neg (by omega)])
          exact (hC.2.2.2.1.2.1 (by omega)).fr (by rw [mu_ne _ _ _ (by decide)]; exact g3 _ (by decide) (by decide) (by decide)) (by rw [mu_ne _ _ _ (by decide)]; exact g3 _ (by decide) (by decide) (by decide)) (by rw [mu_ne _ _ _ (by decide)]; exact g3 _ (by decide) (by decide) (by decide))
        · refine WatC.cong (N := N) ?_ (fun k hk => by unfold kput; rw [if_pos (by omega)]; congr 1; omega)
          exact g2.fr (mu_ne _ _ _ (by decide)) (mu_ne _ _ _ (by decide)) (mu_ne _ _ _ (by decide))
        · rw [mu_ne _ _ _ (by omega)]; exact g3 k (by omega) (by omega) (by omega)
        · rw [mu_ne _ _ _ (by omega)]; exact g3 k (by omega) (by omega) (by omega)
    obtain ⟨s1, g1, g2, g3, g4⟩ := hcls
    have hM1 := (hM.fr (s' := s1) (fun k hk => g3 k hk)).thrown
    obtain ⟨s2, f1, f2, f3, f4⟩ := m_keep_18 hM1.2.1 hM1.2.2.1 c
    refine ⟨_, s1, s2, g1, ?_, D, nH, nB, nS, N, kput N K kc, kc + 1, T, tl, ⟨hV.1, hV.2.1, by omega, fun _ => ?_, fun _ => ?_, hV.2.2.2.2.2⟩, ?_, ?_⟩
    · unfold fX9_keep
      rw [lt_ok, hM1.2.2.1.1, if_neg (by omega)]
      exact f1
    · rcases (show kc = 0 ∨ kc = 1 by omega) with rfl | rfl
      · exact hV.2.1.cong (fun k hk => kput_0 hk)
      · exact (hV.2.2.2.1 (by omega)).cong (fun k hk => by unfold kput; rw [if_neg (by omega)])
    · have : kc = 1 := by omega
      subst this
      exact hV.2.1.cong (fun k hk => by unfold kput; rw [if_pos (by omega)]; congr 1; omega)
    · obtain ⟨m1, m2, m3, m4⟩ := hM1
      refine ⟨fun k hk => ?_, fun k hk => ?_, f2, ?_, fun k hk => ?_⟩
      · rw [f3 1 (by decide) (by decide)]; exact m1 k hk
      · rw [f3 2 (by decide) (by decide)]; exact m2 k hk
      · rw [f4]; exact m4.1
      · rw [f3 4 (by decide) (by decide)]; exact m4.2 k hk
    · refine InvC.fr (s := s1) ?_ (fun k hk => by rw [f3 k (by omega) (by omega), mu_ne _ _ _ (by omega)])
      exact ⟨hC.1.of hV.1.b (fun k a b => g4 k (by omega) (by omega)), hC.2.1.of hV.1.b (fun k a b => g4 k (by omega) (by omega)), hC.2.2.1.fr (g4 _ (by decide) (by decide)) (g4 _ (by decide) (by decide)) (g4 _ (by decide) (by decide)), g2, hC.2.2.2.2.of (by rw [g4 _ (by decide) (by decide)]) (g4 _ (by decide) (by decide))⟩
  · refine ⟨-3, s, mu s 0 0 0, ?_, ?_, hI2⟩
    · unfold fX8_keep
      rw [hC.2.2.2.1.1, if_neg (by omega)]
    · unfold fX9_keep
      rw [lt_ok, hM.thrown.2.2.1.1, if_pos (by omega)]
end E6

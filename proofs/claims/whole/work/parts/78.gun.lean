/-! ===== NEAREST; the GUN; a CONVOY ===== -/
def nrG (D : Nat → Int) (i : Nat) : Nat → Nat → Nat → Nat
  | 0, b, _ => b
  | m + 1, b, j => if D (36 + 4 * i + b) ≤ D (36 + 4 * i + j) then nrG D i m b (j + 1) else nrG D i m j (j + 1)
def nr (D : Nat → Int) (nH i : Nat) : Nat := nrG D i (nH - 1) 0 1
section GU
variable {D : Nat → Int} {nH nB nS q : Nat} {N K : Nat → Int} {kc : Nat} {T : Nat → Int} {tl : Nat} {U G : Nat → Nat} {V : Nat → Int} {w : Bool} {s s1 s2 s' : Mem}
theorem nrG_lt {i : Nat} : ∀ (m b j : Nat), j + m = nH → b < nH → nrG D i m b j < nH
  | 0, b, j, _, hb => by unfold nrG; exact hb
  | m + 1, b, j, e, hb => by
    unfold nrG
    split
    · exact nrG_lt m b (j + 1) (by omega) hb
    · exact nrG_lt m j (j + 1) (by omega) (by omega)
theorem nr_lt (h : SeaOk D nH nB nS) {i : Nat} : nr D nH i < nH := nrG_lt _ _ _ (by have := h.1; omega) (by have := h.1; omega)
theorem c_nearest_4 (h : SeaOk D nH nB nS) (hC : SeaC s D nH nB nS) {i : Nat} (hi : i < 4) : ∀ (m n b j : Nat), j + m = nH → m < n → b < nH → fX5_nearest_4 n i b j s = some (((nrG D i m b j : Nat) : Int), s)
  | m, 0, _, _, _, hn, _ => absurd hn (by omega)
  | 0, n + 1, b, j, e, _, hb => by
    rw [fX5_nearest_4, hC.1, if_pos (by omega), nrG]
  | m + 1, n + 1, b, j, e, hn, hb => by
    have h1 := h.1
    rw [fX5_nearest_4, hC.1, if_neg (by omega), nrG]
    simp (disch := omega) only [rdG_sea_miles, rd_sea_miles, bo_ok, lt_ok, Int.toNat_natCast, hC.m, w32_s]
    by_cases c : D (36 + 4 * i + b) ≤ D (36 + 4 * i + j)
    · rw [if_pos c, if_pos c]
      exact c_nearest_4 h hC hi m n b (j + 1) (by omega) (by omega) hb
    · rw [if_neg c, if_neg c]
      exact c_nearest_4 h hC hi m n j (j + 1) (by omega) (by omega) (by omega)
theorem c_nearest (h : SeaOk D nH nB nS) (hC : SeaC s D nH nB nS) {i : Nat} (hi : i < 4) : fX5_nearest i s = some (((nr D nH i : Nat) : Int), s) := c_nearest_4 h hC hi (nH - 1) 600 0 1 (by have := h.1; omega) (by have := h.1; omega) (by have := h.1; omega)
theorem m_nearest_4 (h : SeaOk D nH nB nS) (hM : SeaM s D) {i : Nat} (hi : i < 4) : ∀ (m n b j : Nat), j + m = nH → m < n → b < nH → fX9_nearest_4 n i b j s = some (((nrG D i m b j : Nat) : Int), s)
  | m, 0, _, _, _, hn, _ => absurd hn (by omega)
  | 0, n + 1, b, j, e, _, hb => by
    have h1 := h.1
    rw [fX9_nearest_4, nrG]
    simp (disch := omega) only [rd_m_sea, bo_ok, Int.reduceToNat, hM.at]
    rw [if_pos (by omega)]
  | m + 1, n + 1, b, j, e, hn, hb => by
    have h1 := h.1
    rw [fX9_nearest_4, nrG]
    simp (disch := omega) only [rd_m_sea, bo_ok, Int.reduceToNat, hM.at]
    rw [if_neg (by omega), m_away hM hi (by omega), b2_ok, m_away hM hi (by omega), b2_ok]
    unfold fX9_nearest_36
    rw [lt_ok, lt_ok, w32_s (by omega)]
    by_cases c : D (36 + 4 * i + b) ≤ D (36 + 4 * i + j)
    · rw [if_pos c, if_pos c]
      exact m_nearest_4 h hM hi m n b (j + 1) (by omega) (by omega) hb
    · rw [if_neg c, if_neg c]
      exact m_nearest_4 h hM hi m n j (j + 1) (by omega) (by omega) (by omega)
theorem m_nearest (h : SeaOk D nH nB nS) (hM : SeaM s D) {i : Nat} (hi : i < 4) : fX9_nearest i s = some (((nr D nH i : Nat) : Int), s) := m_nearest_4 h hM hi (nH - 1) 600 0 1 (by have := h.1; omega) (by have := h.1; omega) (by have := h.1; omega)
theorem plc_t : PlC 134 135 136 := ⟨⟨pt_trial_0, pt_trial_1⟩, Or.inr ⟨rfl, rfl⟩⟩
/-- the class as it begins to sail by PLANS on trial -/
theorem c_usual_t (hC : SeaC s D nH nB nS) (hT : TabC s D nH nB nS) (h : SeaOk D nH nB nS) (hp : ∀ i, i < nB → s 135 i = ((U i : Nat) : Int) ∧ s 136 i = ((G i : Nat) : Int)) : fX2_asUsual s = some (mu (mu s 122 1 0) 122 3 0) ∧ SlC (mu (mu s 122 1 0) 122 3 0) D nH nB nS 135 136 U G (vD D) false ∧ (∀ k, k ≠ 122 → (mu (mu s 122 1 0) 122 3 0) k = s k) := by
  have fr : ∀ k, k ≠ 122 → (mu (mu s 122 1 0) 122 3 0) k = s k := fun k hk => by rw [mu_ne _ _ _ hk, mu_ne _ _ _ hk]
  refine ⟨by unfold fX2_asUsual; rw [lt_ok, lt_ok], ⟨hC.of h.b (fun k a b => fr k (by omega)), hT.of h.b (fun k a b => fr k (by omega)), fun i hi => ?_, by rw [mu_same, fu_same]; rfl, 0, ?_, by decide, fun i hi => ?_⟩, fr⟩
  · rw [fr _ (by decide), fr _ (by decide)]
    exact hp i hi
  · rw [mu_same, fu_ne _ _ (by decide), mu_same, fu_same]; rfl
  · rw [Nat.zero_testBit, if_neg (by decide)]; rfl
def gv (D : Nat → Int) (nH nB nS th u : Nat) : Int := w64 (mn D nB nS (fun _ => u) (nr D nH) (vD D) false (2 ^ nB - 1) th)
theorem gunP (h : SeaOk D nH nB nS) {u : Nat} (hu : u ≤ 24) : PlOk' D nH nB nS (fun _ => u) (nr D nH) (vD D) := ⟨h, fun i hi => ⟨hu, nr_lt h⟩, fun i hi => vD_rg h (by have := h.1; omega)⟩
theorem c_gun_2 (h : SeaOk D nH nB nS) {th u : Nat} (hth : th < 16) (hu : u ≤ 24) : ∀ (m n i : Nat) (s : Mem), i + m = nB → m < n → SeaC s D nH nB nS → TabC s D nH nB nS → s 109 4 = th → (∀ a, a < i → s 135 a = ((u : Nat) : Int) ∧ s 136 a = ((nr D nH a : Nat) : Int)) → ∃ s', fX8_meanOfGun_2 n u i s = some (gv D nH nB nS th u, s') ∧ (∀ k, k < 122 → s' k = s k)
  | m, 0, _, _, _, hn, _, _, _, _ => absurd hn (by omega)
  | 0, n + 1, i, s, e, _, hC, hT, h4, hp => by
    have hb := h.1
    have e : i = nB := by omega
    subst e
    obtain ⟨u1, u2, u4⟩ := c_usual_t (U := fun _ => u) (G := nr D nH) hC hT h hp
    obtain ⟨s1, p1, p2⟩ := c_meanOf (gunP h hu) plc_t (all_16 (nB := i) (by omega)) hth u2
    refine ⟨s1, ?_, fun k hk => by rw [p2 k (by omega), u4 k (by omega)]⟩
    rw [fX8_meanOfGun_2, hC.2.1, if_pos (by omega), u1, bo_ok, c_allSorts u2.1 (by omega), b2_ok, u4 _ (by decide), h4, p1, b2_ok]; rfl
  | m + 1, n + 1, i, s, e, hn, hC, hT, h4, hp => by
    have hb := h.1
    have fr : ∀ k, k < 122 → mu (mu s 135 i ((u : Nat) : Int)) 136 i ((nr D nH i : Nat) : Int) k = s k := fun k hk => by rw [mu_ne _ _ _ (by omega), mu_ne _ _ _ (by omega)]
    obtain ⟨s', q1, q2⟩ := c_gun_2 h hth hu m n (i + 1) (mu (mu s 135 i ((u : Nat) : Int)) 136 i ((nr D nH i : Nat) : Int)) (by omega) (by omega) (hC.of h.b (fun k a b => fr k (by omega))) (hT.of h.b (fun k a b => fr k (by omega))) (by rw [fr _ (by decide)]; exact h4) (fun a ha => by
      rw [mu_ne _ _ _ (by decide), mu_same, mu_same]
      by_cases c : a = i
      · subst c; rw [fu_same, fu_same]; exact ⟨rfl, rfl⟩
      · rw [fu_ne _ _ c, fu_ne _ _ c, mu_ne _ _ _ (by decide)]; exact hp a (by omega))
    refine ⟨s', ?_, fun k hk => by rw [q2 k hk, fr k hk]⟩
    rw [fX8_meanOfGun_2, hC.2.1, if_neg (by omega), c_nearest h hC (by omega), b2_ok, c_send_t (by omega), bo_ok, lt_ok, w32_s (by omega)]
    exact q1
theorem c_meanOfGun (h : SeaOk D nH nB nS) {th u : Nat} (hth : th < 16) (hu : u ≤ 24) (hC : SeaC s D nH nB nS) (hT : TabC s D nH nB nS) (h4 : s 109 4 = th) : ∃ s', fX8_meanOfGun u s = some (gv D nH nB nS th u, s') ∧ (∀ k, k < 122 → s' k = s k) := c_gun_2 h hth hu nB 600 0 s (by omega) (by have := h.1; omega) hC hT h4 (fun a ha => absurd ha (by omega))
theorem m_gun_6 (h : SeaOk D nH nB nS) {th u : Nat} (e11 : N 11 = th) (hth : th < 16) (hu : u ≤ 24) : ∀ (m n i : Nat) (s : Mem), i + m = nB → m < n → SeaM s D → NowM s N → (∀ a, a < i → s 5 a = ((u : Nat) : Int) ∧ s 6 a = ((nr D nH a : Nat) : Int)) → (∀ a, a < 4 → s 7 a = D (16 + 5 * a + 1)) → ∃ s', fX9_gunAt_6 n u i s = some (gv D nH nB nS th u, s') ∧ (∀ c, (c < 5 ∨ 14 < c) → s' c = s c)
  | m, 0, _, _, _, hn, _, _, _, _ => absurd hn (by omega)
  | 0, n + 1, i, s, e, _, hM, hN, hp, h7 => by
    have hb := h.1
    have e : i = nB := by omega
    subst e
    obtain ⟨s1, p1, p2⟩ := m_meanOf (w := false) (own := -1) (gunP h hu) e11 hth (by omega) (s := s) ⟨hM, fun a ha => ⟨(hp a ha).1, (hp a ha).2, h7 a (by omega)⟩⟩ hN
    have p1' : fX9_meanOf 0 (-1) s = some (gv D nH i nS th u, s1) := p1
    refine ⟨s1, ?_, fun c hc => p2 c (by omega)⟩
    rw [fX9_gunAt_6]
    simp (disch := omega) only [rd_m_sea, bo_ok, Int.reduceToNat, hM.at]
    rw [if_pos (by omega), p1', b2_ok]
  | m + 1, n + 1, i, s, e, hn, hM, hN, hp, h7 => by
    have hb := h.1
    have hM1 : SeaM (mu s 5 i ((u : Nat) : Int)) D := hM.fr (mu_ne _ _ _ (by decide))
    obtain ⟨s', q1, q2⟩ := m_gun_6 h e11 hth hu m n (i + 1) (mu (mu s 5 i ((u : Nat) : Int)) 6 i ((nr D nH i : Nat) : Int)) (by omega) (by omega) (hM.fr (by rw [mu_ne _ _ _ (by decide), mu_ne _ _ _ (by decide)])) (fun k hk => by rw [mu_ne _ _ _ (by decide), mu_ne _ _ _ (by decide)]; exact hN k hk) (fun a ha => by
      rw [mu_ne _ _ _ (by decide), mu_same, mu_same]
      by_cases c : a = i
      · subst c; rw [fu_same, fu_same]; exact ⟨rfl, rfl⟩
      · rw [fu_ne _ _ c, fu_ne _ _ c, mu_ne _ _ _ (by decide)]; exact hp a (by omega)) (fun a ha => by rw [mu_ne _ _ _ (by decide), mu_ne _ _ _ (by decide)]; exact h7 a ha)
    refine ⟨s', ?_, fun c hc => by rw [q2 c hc, mu_ne _ _ _ (by omega), mu_ne _ _ _ (by omega)]⟩
    rw [fX9_gunAt_6]
    simp (disch := omega) only [rd_m_sea, bo_ok, Int.reduceToNat, hM.at]
    rw [if_neg (by omega), wr_m_hours (by omega) (by omega), bo_ok, Int.toNat_natCast, m_nearest h hM1 (by omega), b2_ok, wr_m_goals (by omega) (by omega), bo_ok, Int.toNat_natCast, lt_ok, w32_s (by omega)]
    exact q1
theorem m_gunAt (h : SeaOk D nH nB nS) (hO : NowOk N nH nS) {th u : Nat} (e11 : N 11 = th) (hth : th < 16) (hu : u ≤ 24) (hM : SeaM s D) (hN : NowM s N) : ∃ s', fX9_gunAt u s = some (gv D nH nB nS th u, s') ∧ (∀ c, (c < 5 ∨ 14 < c) → s' c = s c) := by
  have hb := h.1
  obtain ⟨s2, q1, q2, q3, q4⟩ := m_asPlanned h hO hM hN
  obtain ⟨s', r1, r2⟩ := m_gun_6 h e11 hth hu nB 600 0 s2 (by omega) (by omega) q2.1 (fun k hk => by rw [q3 2 (by decide) (by decide) (by decide)]; exact hN k hk) (fun a ha => absurd ha (by omega)) (fun a ha => (q4 a ha).2.2)
  refine ⟨s', ?_, fun c hc => by rw [r2 c hc, q3 c (by omega) (by omega) (by omega)]⟩
  unfold fX9_gunAt
  rw [q1, bo_ok]; exact r1
theorem call_gun (hI : Inv s) (a : Int) : ∃ r s1 s2, fX8_gun a s = some (r, s1) ∧ fX9_gun a s1 = some (r, s2) ∧ Inv s2 := by
  have hI2 := hI.read
  obtain ⟨D, nH, nB, nS, N, K, kc, T, tl, hV, hM, hC⟩ := hI
  have hb := hV.1.1
  obtain ⟨th, e11, hth⟩ := hV.2.1.2.2.2.2.2.2.2
  have h16 := th_16 hth (by omega)
  by_cases ha : 0 ≤ a ∧ a ≤ 24
  · obtain ⟨u, rfl⟩ := nat_of ha.1
    obtain ⟨s1, p1, f1⟩ := c_meanOfGun hV.1 h16 (show u ≤ 24 by omega) hC.1 hC.2.1 (by rw [hC.2.2.1.2.2.2.1, e11])
    have hM1 : InvM s1 D N K kc T tl := hM.fr (fun k hk => f1 k (by omega))
    have h0 := hM1.thrown
    obtain ⟨s4, g1, g4⟩ := m_gunAt hV.1 hV.2.1 e11 h16 (show u ≤ 24 by omega) h0.1 h0.2.1
    refine ⟨gv D nH nB nS th u, s1, s4, ?_, ?_, fin_inv hV hM hC f1 (fun c h1 h2 => by rw [g4 c (by omega), mu_ne _ _ _ h1]) (fun f hf => by rw [g4 0 (by omega), mu_same, fu_ne _ _ hf])⟩
    · unfold fX8_gun
      rw [c_isHourOrNever, b2_ok, if_neg (by rw [if_pos ha]; decide), p1, b2_ok]
    · unfold fX9_gun
      rw [lt_ok, m_isIn, b2_ok, if_neg (by rw [if_pos ha]; decide), g1, b2_ok]
  · refine ⟨-9223372036854775808, s, mu s 0 0 0, ?_, ?_, hI2⟩
    · unfold fX8_gun
      rw [c_isHourOrNever, b2_ok, if_pos (by rw [if_neg ha])]
    · unfold fX9_gun
      rw [lt_ok, m_isIn, b2_ok, if_pos (by rw [if_neg ha])]
def bgS (f : Nat → Int) : Nat → Nat → Int → Nat → Nat
  | 0, b, _, _ => b
  | m + 1, b, x, u => if f u ≤ x then bgS f m b x (u + 1) else bgS f m u (f u) (u + 1)
theorem c_bestGun_11 (h : SeaOk D nH nB nS) {th : Nat} (hth : th < 16) : ∀ (m n u b : Nat) (x : Int) (s : Mem), u + m = 25 → m < n → SeaC s D nH nB nS → TabC s D nH nB nS → s 109 4 = th → ∃ s', fX8_bestGun_11 n b x u s = some (((bgS (gv D nH nB nS th) m b x u : Nat) : Int), s') ∧ (∀ k, k < 122 → s' k = s k)
  | m, 0, _, _, _, _, _, hn, _, _, _ => absurd hn (by omega)
  | 0, n + 1, u, b, x, s, e, _, hC, hT, h4 => ⟨s, by rw [fX8_bestGun_11, if_pos (by omega), bgS], fun _ _ => rfl⟩
  | m + 1, n + 1, u, b, x, s, e, hn, hC, hT, h4 => by
    obtain ⟨s1, p1, f1⟩ := c_meanOfGun h hth (show u ≤ 24 by omega) hC hT h4
    have hC1 := hC.of h.b (s' := s1) (fun k a b => f1 k (by omega))
    have hT1 := hT.of h.b (s' := s1) (fun k a b => f1 k (by omega))
    have h41 : s1 109 4 = th := by rw [f1 _ (by decide)]; exact h4
    rw [fX8_bestGun_11, if_neg (by omega), p1, b2_ok, lt_ok, lt_ok, w32_s (by omega), bgS]
    by_cases c : gv D nH nB nS th u ≤ x
    · rw [if_pos c, if_pos c]
      obtain ⟨s', q1, q2⟩ := c_bestGun_11 h hth m n (u + 1) b x s1 (by omega) (by omega) hC1 hT1 h41
      exact ⟨s', q1, fun k hk => by rw [q2 k hk, f1 k hk]⟩
    · rw [if_neg c, if_neg c]
      obtain ⟨s', q1, q2⟩ := c_bestGun_11 h hth m n (u + 1) u (gv D nH nB nS th u) s1 (by omega) (by omega) hC1 hT1 h41
      exact ⟨s', q1, fun k hk => by rw [q2 k hk, f1 k hk]⟩
theorem m_bestGun_16 (h : SeaOk D nH nB nS) (hO : NowOk N nH nS) {th : Nat} (e11 : N 11 = th) (hth : th < 16) : ∀ (m n u b : Nat) (x : Int) (s : Mem), u + m = 25 → m < n → SeaM s D → NowM s N → ∃ s', fX9_bestGun_16 n b x u s = some (((bgS (gv D nH nB nS th) m b x u : Nat) : Int), s') ∧ (∀ c, (c < 5 ∨ 14 < c) → s' c = s c)
  | m, 0, _, _, _, _, _, hn, _, _ => absurd hn (by omega)
  | 0, n + 1, u, b, x, s, e, _, hM, hN => ⟨s, by rw [fX9_bestGun_16, if_pos (by omega), bgS], fun _ _ => rfl⟩
  | m + 1, n + 1, u, b, x, s, e, hn, hM, hN => by
    obtain ⟨s1, p1, f1⟩ := m_gunAt h hO e11 hth (show u ≤ 24 by omega) hM hN
    have hM1 : SeaM s1 D := hM.fr (f1 _ (by omega))
    have hN1 : NowM s1 N := fun k hk => by rw [f1 2 (by omega)]; exact hN k hk
    rw [fX9_bestGun_16, if_neg (by omega), p1, b2_ok, bgS]
    unfold fX9_bestGun_44 fX9_bestGun_58
    by_cases c : gv D nH nB nS th u ≤ x
    · rw [if_pos c, if_pos c, if_pos c, lt_ok, w32_s (by omega)]
      obtain ⟨s', q1, q2⟩ := m_bestGun_16 h hO e11 hth m n (u + 1) b x s1 (by omega) (by omega) hM1 hN1
      exact ⟨s', q1, fun k hk => by rw [q2 k hk, f1 k hk]⟩
    · rw [if_neg c, if_neg c, if_neg c, lt_ok, w32_s (by omega)]
      obtain ⟨s', q1, q2⟩ := m_bestGun_16 h hO e11 hth m n (u + 1) u (gv D nH nB nS th u) s1 (by omega) (by omega) hM1 hN1
      exact ⟨s', q1, fun k hk => by rw [q2 k hk, f1 k hk]⟩
theorem call_bestGun (hI : Inv s) : ∃ r s1 s2, fX8_bestGun s = some (r, s1) ∧ fX9_bestGun s1 = some (r, s2) ∧ Inv s2 := by
  obtain ⟨D, nH, nB, nS, N, K, kc, T, tl, hV, hM, hC⟩ := hI
  have hb := hV.1.1
  obtain ⟨th, e11, hth⟩ := hV.2.1.2.2.2.2.2.2.2
  have h16 := th_16 hth (by omega)
  obtain ⟨s1, p1, f1⟩ := c_meanOfGun hV.1 h16 (show 0 ≤ 24 by omega) hC.1 hC.2.1 (by rw [hC.2.2.1.2.2.2.1, e11])
  obtain ⟨s2, r1, f2⟩ := c_bestGun_11 hV.1 h16 24 600 1 0 (gv D nH nB nS th 0) s1 (by omega) (by omega) (hC.1.of hV.1.b (fun k a b => f1 k (by omega))) (hC.2.1.of hV.1.b (fun k a b => f1 k (by omega))) (by rw [f1 _ (by decide), hC.2.2.1.2.2.2.1, e11])
  have f12 : ∀ k, k < 122 → s2 k = s k := fun k hk => by rw [f2 k hk, f1 k hk]
  have hM1 : InvM s2 D N K kc T tl := hM.fr (fun k hk => f12 k (by omega))
  have h0 := hM1.thrown
  obtain ⟨s4, g1, g4⟩ := m_gunAt hV.1 hV.2.1 e11 h16 (show 0 ≤ 24 by omega) h0.1 h0.2.1
  obtain ⟨s5, k1, k4⟩ := m_bestGun_16 hV.1 hV.2.1 e11 h16 24 600 1 0 (gv D nH nB nS th 0) s4 (by omega) (by omega) (h0.1.fr (g4 _ (by omega))) (fun k hk => by rw [g4 2 (by omega)]; exact h0.2.1 k hk)
  refine ⟨((bgS (gv D nH nB nS th) 24 0 (gv D nH nB nS th 0) 1 : Nat) : Int), s2, s5, ?_, ?_, fin_inv hV hM hC f12 (fun c h1 h2 => by rw [k4 c (by omega), g4 c (by omega), mu_ne _ _ _ h1]) (fun f hf => by rw [k4 0 (by omega), g4 0 (by omega), mu_same, fu_ne _ _ hf])⟩
  · unfold fX8_bestGun
    have p1' : fX8_meanOfGun 0 s = _ := p1
    rw [p1', b2_ok]; exact r1
  · unfold fX9_bestGun
    have g1' : fX9_gunAt 0 (mu s2 0 0 0) = _ := g1
    rw [lt_ok, g1', b2_ok]; exact k1
end GU

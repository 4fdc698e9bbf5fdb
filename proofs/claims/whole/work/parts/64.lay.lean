/-! ===== lay ===== -/
def nw (v : Int) (k : Nat) : Int := if k < 8 then (if k % 2 = 0 then 24 else 0) else if k = 8 then 3 else if k = 9 then 4 else if k = 10 then 0 else v
section LA
variable {D : Nat → Int} {nH nB nS : Nat} {s s' : Mem} {T : Nat → Int} {tl : Nat}
theorem c_stay_2 : ∀ (m n i : Nat) (s : Mem), i + m = 4 → m < n → (∀ a, a < i → s 111 a = 24 ∧ s 112 a = 0) → ∃ s', fX3_stayAll_2 n 110 i s = some s' ∧ (∀ a, a < 4 → s' 111 a = 24 ∧ s' 112 a = 0) ∧ (∀ c, c ≠ 111 → c ≠ 112 → s' c = s c)
  | 0, n + 1, i, s, e, _, h => ⟨s, by rw [fX3_stayAll_2, if_pos (by omega)], fun a ha => h a (by omega), fun _ _ _ => rfl⟩
  | m + 1, n + 1, i, s, e, hn, h => by
    obtain ⟨s', q1, q2, q3⟩ := c_stay_2 m n (i + 1) (mu (mu s 111 i 24) 112 i 0) (by omega) (by omega) (fun a ha => by
      rw [mu_ne _ _ _ (show 111 ≠ 112 by decide), mu_same, mu_same, mu_ne _ _ _ (show 112 ≠ 111 by decide)]
      by_cases c : a = i
      · subst c; rw [fu_same, fu_same]; exact ⟨rfl, rfl⟩
      · rw [fu_ne _ _ c, fu_ne _ _ c]; exact h a (by omega))
    refine ⟨s', ?_, q2, fun c h1 h2 => by rw [q3 c h1 h2, mu_ne _ _ _ h2, mu_ne _ _ _ h1]⟩
    rw [fX3_stayAll_2, if_neg (by omega), c_send_w (by omega), bo_ok, lt_ok, w32_s (by omega)]
    exact q1
  | _, 0, _, _, _, hn, _ => absurd hn (by omega)
theorem nw_ev (v : Int) {i : Nat} (h : i < 4) : nw v (2 * i) = 24 := by unfold nw; rw [if_pos (by omega), if_pos (by omega)]
theorem nw_od (v : Int) {i : Nat} (h : i < 4) : nw v (2 * i + 1) = 0 := by unfold nw; rw [if_pos (by omega), if_neg (by omega)]
theorem c_begin (v : Int) (s : Mem) : ∃ s', fX7_begin 109 v s = some s' ∧ WatC s' 109 111 112 (nw v) ∧ (∀ c, c ≠ 109 → c ≠ 111 → c ≠ 112 → s' c = s c) := by
  obtain ⟨s2, q1, q2, q3⟩ := c_stay_2 4 600 0 s (by omega) (by omega) (fun a ha => absurd ha (by omega))
  refine ⟨mu (mu (mu (mu s2 109 1 3) 109 2 4) 109 3 0) 109 4 v, ?_, ?_, fun c h1 h2 h3 => ?_⟩
  · unfold fX7_begin
    rw [pt_watch_0]
    have q1' : fX3_stayAll 110 s = some s2 := q1
    rw [q1', bo_ok]
    simp only [lt_ok]
  · refine ⟨?_, ?_, ?_, ?_, fun i hi => ⟨?_, ?_⟩⟩
    · simp (disch := decide) only [mu_same, fu_ne, fu_same]; rfl
    · simp (disch := decide) only [mu_same, fu_ne, fu_same]; rfl
    · simp (disch := decide) only [mu_same, fu_ne, fu_same]; rfl
    · simp (disch := decide) only [mu_same, fu_ne, fu_same]; rfl
    · simp (disch := decide) only [mu_ne]; rw [nw_ev v hi]; exact (q2 i hi).1
    · simp (disch := decide) only [mu_ne]; rw [nw_od v hi]; exact (q2 i hi).2
  · simp (disch := assumption) only [mu_ne]; exact q3 c h2 h3
theorem allst (h : nS ≤ 4) : w32 ((shlI 1 (nS : Int)) - 1) = ((2 ^ nS - 1 : Nat) : Int) := by
  rw [shl_1 h]
  have : 1 ≤ 2 ^ nS := Nat.one_le_two_pow
  have h2 : 2 ^ nS ≤ 2 ^ 4 := Nat.pow_le_pow_right (by decide) h
  rw [w32_id (by omega) (by omega)]
  omega
theorem nw_ok (h1 : 1 ≤ nH) : NowOk (nw ((2 ^ nS - 1 : Nat) : Int)) nH nS := by
  have e8 : ∀ v, nw v 8 = 3 := fun v => rfl
  have e9 : ∀ v, nw v 9 = 4 := fun v => rfl
  have e10 : ∀ v, nw v 10 = 0 := fun v => rfl
  refine ⟨fun i hi => ?_, by rw [e8]; decide, by rw [e8]; decide, by rw [e9]; decide, by rw [e9]; decide, by rw [e10]; decide, by rw [e10]; decide, 2 ^ nS - 1, rfl, ?_⟩
  · rw [nw_ev _ hi, nw_od _ hi]; omega
  · have : 1 ≤ 2 ^ nS := Nat.one_le_two_pow
    omega
theorem m_anew_23 {v : Nat} (hv : v ≤ 4) : ∀ (m n i : Nat) (s : Mem), i + m = 4 → m < n → s 1 185 = v → (∀ a, a < 12 → s 2 a = if a < 2 * i ∧ a % 2 = 0 then 24 else 0) → ∃ s', fX9_anew_23 n i s = some s' ∧ NowM s' (nw ((2 ^ v - 1 : Nat) : Int)) ∧ s' 0 4 = 0 ∧ (∀ f, f ≠ 4 → s' 0 f = s 0 f) ∧ (∀ c, c ≠ 0 → c ≠ 2 → s' c = s c)
  | 0, n + 1, i, s, e, _, h5, h => by
    refine ⟨mu (mu (mu (mu s 2 8 3) 2 9 4) 2 11 ((2 ^ v - 1 : Nat) : Int)) 0 4 0, ?_, fun k hk => ?_, by rw [mu_same, fu_same], fun f hf => ?_, fun c h0 h2 => ?_⟩
    · rw [fX9_anew_23, if_pos (by omega)]
      simp (disch := omega) only [wr_m_now, rd_m_sea, bo_ok, lt_ok, Int.reduceToNat]
      rw [mu_ne _ _ _ (by decide), mu_ne _ _ _ (by decide), h5, allst hv]
    · rw [mu_ne _ _ _ (by decide), mu_same]
      unfold nw
      by_cases c11 : k = 11
      · subst c11; rw [fu_same]; rfl
      · rw [fu_ne _ _ c11, mu_same]
        by_cases c9 : k = 9
        · subst c9; rw [fu_same]; rfl
        · rw [fu_ne _ _ c9, mu_same]
          by_cases c8 : k = 8
          · subst c8; rw [fu_same]; rfl
          · rw [fu_ne _ _ c8, h k hk]
            by_cases c : k < 8
            · rw [if_pos c]
              by_cases c2 : k % 2 = 0
              · rw [if_pos ⟨by omega, c2⟩, if_pos c2]
              · rw [if_neg (fun z => c2 z.2), if_neg c2]
            · rw [if_neg (by omega), if_neg c, if_neg c8, if_neg c9, if_pos (by omega)]
    · rw [mu_same, fu_ne _ _ hf, mu_ne _ _ _ (by decide), mu_ne _ _ _ (by decide), mu_ne _ _ _ (by decide)]
    · rw [mu_ne _ _ _ h0, mu_ne _ _ _ h2, mu_ne _ _ _ h2, mu_ne _ _ _ h2]
  | m + 1, n + 1, i, s, e, hn, h5, h => by
    have key : fX9_anew_23 (n + 1) i s = fX9_anew_23 n ((i + 1 : Nat) : Int) (mu s 2 (0 + 2 * i) 24) := by
      rw [fX9_anew_23, if_neg (by omega)]
      simp (disch := omega) only [nab, na_0, na_1, na_2, na_3, na_4, na_5, na_6, na_8, na_10, na_12, na_16, na_24, na_36, na_52, na_76, na_120, na_172, na_186, nb_0, nb_1, nb_2, nb_3, nb_4, nb_5, nb_6, nb_8, nb_10, nb_12, nb_16, nb_24, nb_36, nb_52, nb_76, nb_120, nb_172, nb_186, nm_2, nm_3, nm_4, nm_5, nm_6, nm_8, nm_10, nm_12, nm_16, nm_24, nm_36, nm_52, nm_76, nm_120, nm_172, nm_186, nn_2, nn_3, nn_4, nn_5, nn_6, nn_8, nn_10, nn_12, nn_16, nn_24, nn_36, nn_52, nn_76, nn_120, nn_172, nn_186, wr_m_now, bo_ok, lt_ok, Int.toNat_natCast]
    obtain ⟨s', q1, q2, q3, q4, q5⟩ := m_anew_23 hv m n (i + 1) (mu s 2 (0 + 2 * i) 24) (by omega) (by omega) (by rw [mu_ne _ _ _ (by decide)]; exact h5) (fun a ha => by
      rw [mu_same]
      by_cases c : a = 0 + 2 * i
      · subst c; rw [fu_same, if_pos (by omega)]
      · rw [fu_ne _ _ c, h a ha]
        by_cases c2 : a < 2 * i ∧ a % 2 = 0
        · rw [if_pos c2, if_pos (by omega)]
        · rw [if_neg c2, if_neg (by omega)])
    exact ⟨s', key.trans q1, q2, q3, fun f hf => by rw [q4 f hf, mu_ne _ _ _ (by decide)], fun c h0 h2 => by rw [q5 c h0 h2, mu_ne _ _ _ h2]⟩
  | _, 0, _, _, _, hn, _, _ => absurd hn (by omega)
theorem m_anew_2 {v : Nat} (hv : v ≤ 4) : ∀ (m n k : Nat) (s : Mem), k + m = 12 → m < n → s 1 185 = v → (∀ a, a < k → s 2 a = 0) → ∃ s', fX9_anew_2 n k s = some s' ∧ NowM s' (nw ((2 ^ v - 1 : Nat) : Int)) ∧ s' 0 4 = 0 ∧ (∀ f, f ≠ 4 → s' 0 f = s 0 f) ∧ (∀ c, c ≠ 0 → c ≠ 2 → s' c = s c)
  | 0, n + 1, k, s, e, _, h5, h => by
    obtain ⟨s', q1, q2⟩ := m_anew_23 hv 4 600 0 s (by omega) (by omega) h5 (fun a ha => by rw [if_neg (by omega)]; exact h a (by omega))
    refine ⟨s', ?_, q2⟩
    rw [fX9_anew_2, if_pos (by omega)]
    exact q1
  | m + 1, n + 1, k, s, e, hn, h5, h => by
    have key : fX9_anew_2 (n + 1) k s = fX9_anew_2 n ((k + 1 : Nat) : Int) (mu s 2 k 0) := by
      rw [fX9_anew_2, if_neg (by omega)]
      simp (disch := omega) only [wr_m_now, bo_ok, lt_ok, Int.toNat_natCast, w32_s]
    obtain ⟨s', q1, q2, q3, q4, q5⟩ := m_anew_2 hv m n (k + 1) (mu s 2 k 0) (by omega) (by omega) (by rw [mu_ne _ _ _ (by decide)]; exact h5) (fun a ha => by
      rw [mu_same]
      by_cases c : a = k
      · subst c; rw [fu_same]
      · rw [fu_ne _ _ c]; exact h a (by omega))
    exact ⟨s', key.trans q1, q2, q3, fun f hf => by rw [q4 f hf, mu_ne _ _ _ (by decide)], fun c h0 h2 => by rw [q5 c h0 h2, mu_ne _ _ _ h2]⟩
  | _, 0, _, _, _, hn, _, _ => absurd hn (by omega)
theorem m_anew {v : Nat} (hv : v ≤ 4) (h5 : s 1 185 = v) : ∃ s', fX9_anew s = some s' ∧ NowM s' (nw ((2 ^ v - 1 : Nat) : Int)) ∧ s' 0 4 = 0 ∧ (∀ f, f ≠ 4 → s' 0 f = s 0 f) ∧ (∀ c, c ≠ 0 → c ≠ 2 → s' c = s c) :=
  m_anew_2 hv 12 600 0 s (by omega) (by omega) h5 (fun a ha => absurd ha (by omega))
theorem m_draft' (h : DrM s D) {k : Nat} (hk : k < 186) : fX9_draft (k : Int) s = some (D k, s) := by
  simp (disch := omega) only [fX9_draft, nab, na_0, na_1, na_2, na_3, na_4, na_5, na_6, na_8, na_10, na_12, na_16, na_24, na_36, na_52, na_76, na_120, na_172, na_186, nb_0, nb_1, nb_2, nb_3, nb_4, nb_5, nb_6, nb_8, nb_10, nb_12, nb_16, nb_24, nb_36, nb_52, nb_76, nb_120, nb_172, nb_186, nm_2, nm_3, nm_4, nm_5, nm_6, nm_8, nm_10, nm_12, nm_16, nm_24, nm_36, nm_52, nm_76, nm_120, nm_172, nm_186, nn_2, nn_3, nn_4, nn_5, nn_6, nn_8, nn_10, nn_12, nn_16, nn_24, nn_36, nn_52, nn_76, nn_120, nn_172, nn_186, rd_m_sea, bo_ok, Int.toNat_natCast]
  rw [h k hk]
theorem m_lay_38 (s : Mem) : fX9_lay_38 s = some (-2, s) := by
  unfold fX9_lay_38 fX9_lay_39
  have e : fX9_draft 185 s = some (s 1 371, s) := by
    simp (disch := omega) only [fX9_draft, show w32 (186 + 185) = 371 from by decide, rd_m_sea, bo_ok, Int.reduceToNat]
  rw [fX9_lay_44, e, b2_ok]
  unfold fX9_lay_79
  split
  · rfl
  · rfl
theorem m_lay_44 (h : DrOk D nH nB nS) (hD : DrM s D) : ∀ (m n q : Nat), q + m = nS → m < n → fX9_lay_44 n 1 (tnD D q) q s = fX9_lay_79 1 (tnD D nS) s
  | 0, n + 1, q, e, _ => by
    have e : q = nS := by omega
    subst e
    rw [fX9_lay_44, show (185 : Int) = ((185 : Nat) : Int) from rfl, m_draft' hD (by decide), b2_ok, h.1.1.2.2, if_pos (by omega)]
  | m + 1, n + 1, q, e, hn => by
    have hb := h.1.2
    have r1 := tnD_rg h.2.1 q (by omega)
    have r2 := tnD_rg h.2.1 (q + 1) (by omega)
    rw [tnD_s] at r2
    rw [fX9_lay_44, show (185 : Int) = ((185 : Nat) : Int) from rfl, m_draft' hD (by decide), b2_ok, h.1.1.2.2, if_neg (by omega), if_neg (by decide)]
    simp (disch := omega) only [nab, na_0, na_1, na_2, na_3, na_4, na_5, na_6, na_8, na_10, na_12, na_16, na_24, na_36, na_52, na_76, na_120, na_172, na_186, nb_0, nb_1, nb_2, nb_3, nb_4, nb_5, nb_6, nb_8, nb_10, nb_12, nb_16, nb_24, nb_36, nb_52, nb_76, nb_120, nb_172, nb_186, nm_2, nm_3, nm_4, nm_5, nm_6, nm_8, nm_10, nm_12, nm_16, nm_24, nm_36, nm_52, nm_76, nm_120, nm_172, nm_186, nn_2, nn_3, nn_4, nn_5, nn_6, nn_8, nn_10, nn_12, nn_16, nn_24, nn_36, nn_52, nn_76, nn_120, nn_172, nn_186]
    rw [m_draft' hD (by omega), b2_ok, lt_ok, lt_ok, w32_id (by omega) (by omega), ← tnD_s]
    exact m_lay_44 h hD m n (q + 1) (by omega) (by omega)
  | _, 0, _, _, hn => absurd hn (by omega)
theorem m_lay_94 (hO : D 185 = nS) (hS : nS ≤ 4) (h184 : D 184 = nB) : ∀ (m n k : Nat) (s : Mem), k + m = 186 → m < n → DrM s D → (∀ a, a < k → s 1 a = D a) → ∃ s', fX9_lay_94 n k s = some ((nB : Int), s') ∧ SeaM s' D ∧ NowM s' (nw ((2 ^ nS - 1 : Nat) : Int)) ∧ s' 0 4 = 0 ∧ (∀ f, f ≠ 4 → s' 0 f = s 0 f) ∧ (∀ c, c ≠ 0 → c ≠ 1 → c ≠ 2 → s' c = s c)
  | 0, n + 1, k, s, e, _, hD, h => by
    obtain ⟨s', q1, q2, q3, q4, q5⟩ := m_anew (s := s) (v := nS) hS (by rw [h 185 (by omega)]; exact hO)
    refine ⟨s', ?_, fun a ha => by rw [q5 1 (by decide) (by decide)]; exact h a (by omega), q2, q3, q4, fun c a _ b => q5 c a b⟩
    rw [fX9_lay_94, if_pos (by omega), q1, bo_ok, rd_m_sea (by omega) (by omega), bo_ok, q5 1 (by decide) (by decide)]
    show some (s 1 184, s') = _
    rw [h 184 (by omega), h184]
  | m + 1, n + 1, k, s, e, hn, hD, h => by
    have key : fX9_lay_94 (n + 1) k s = fX9_lay_94 n ((k + 1 : Nat) : Int) (mu s 1 k (D k)) := by
      rw [fX9_lay_94, if_neg (by omega)]
      simp (disch := omega) only [nab, na_0, na_1, na_2, na_3, na_4, na_5, na_6, na_8, na_10, na_12, na_16, na_24, na_36, na_52, na_76, na_120, na_172, na_186, nb_0, nb_1, nb_2, nb_3, nb_4, nb_5, nb_6, nb_8, nb_10, nb_12, nb_16, nb_24, nb_36, nb_52, nb_76, nb_120, nb_172, nb_186, nm_2, nm_3, nm_4, nm_5, nm_6, nm_8, nm_10, nm_12, nm_16, nm_24, nm_36, nm_52, nm_76, nm_120, nm_172, nm_186, nn_2, nn_3, nn_4, nn_5, nn_6, nn_8, nn_10, nn_12, nn_16, nn_24, nn_36, nn_52, nn_76, nn_120, nn_172, nn_186, rd_m_sea, wr_m_sea, bo_ok, lt_ok, Int.toNat_natCast]
      rw [hD k (by omega)]
    obtain ⟨s', q1, q2, q3, q4, q5, q6⟩ := m_lay_94 hO hS h184 m n (k + 1) (mu s 1 k (D k)) (by omega) (by omega) (fun a ha => by rw [mu_same, fu_ne _ _ (by omega)]; exact hD a ha) (fun a ha => by
      rw [mu_same]
      by_cases c : a = k
      · subst c; rw [fu_same]
      · rw [fu_ne _ _ c]; exact h a (by omega))
    exact ⟨s', key.trans q1, q2, q3, q4, fun f hf => by rw [q5 f hf, mu_ne _ _ _ (by decide)], fun c h0 h1 h2 => by rw [q6 c h0 h1 h2, mu_ne _ _ _ h1]⟩
  | _, 0, _, _, _, hn, _, _ => absurd hn (by omega)
theorem c_isWhole {cH cB cS : Nat} {tn : Int} (h : CnC s cH cB cS tn) : fX6_isWhole s = some (if 0 < cH ∧ 0 < cB ∧ tn = 10 then 1 else 0, s) := by
  unfold fX6_isWhole
  rw [h.1, h.2.1, h.2.2.2]
  by_cases c : 0 < cH ∧ 0 < cB ∧ tn = 10
  · rw [if_pos c, if_neg (by omega), if_neg (by omega), if_pos c.2.2]
  · rw [if_neg c]
    repeat' split
    all_goals first | rfl | (exfalso; omega)
theorem call_lay (hI : Inv s) : ∃ r s1 s2, fX8_lay s = some (r, s1) ∧ fX9_lay s1 = some (r, s2) ∧ Inv s2 := by
  obtain ⟨D, nH, nB, nS, N, K, kc, T, tl, hV, hM, hC⟩ := hI
  have hT := hV.2.2.2.2.2.2
  have htl := hV.2.2.2.2.2.1
  obtain ⟨s1, h1, h2, h3⟩ := c_firstFault hT htl hC.2.2.2.2
  by_cases cF : flt T tl 501 0 0 0 0 = -4
  · have hCn := h3 cF
    have hok := fin_ok (T := T) (tl := tl) 501 (p := 0) D0_ok
    by_cases cW : 0 < (fin T tl 501 D0 0 0 0 0).2.1 ∧ 0 < (fin T tl 501 D0 0 0 0 0).2.2.1 ∧ tnD (fin T tl 501 D0 0 0 0 0).1 (fin T tl 501 D0 0 0 0 0).2.2.2 = 10
    · have hSO := hok.sea cW.1 cW.2.1 cW.2.2
      obtain ⟨s2, a1, a2, a3⟩ := c_clear s1
      obtain ⟨s3, b1, b2', b3⟩ := c_fill hT htl (s := s2) (hC.2.2.2.2.of (by rw [a3 _ (by omega)]; exact h2.2) (by rw [a3 _ (by omega)]; exact h2.1 _ (by decide) (by decide))) a2 cF
      generalize hf : fin T tl 501 D0 0 0 0 0 = F at *
      obtain ⟨D', cH, cB, cS⟩ := F
      dsimp only at hok cW hSO b3 hCn
      obtain ⟨s4, d1, d2, d3⟩ := c_reckon hSO b3
      have hS4 : SeaC s4 D' cH cB cS := b3.of2 hSO.b (fun k a b => d3 k (by omega))
      obtain ⟨s5, e1, e2, e3⟩ := c_begin ((2 ^ cS - 1 : Nat) : Int) s4
      have hall : fX5_allStorms s4 = some (((2 ^ cS - 1 : Nat) : Int), s4) := by
        unfold fX5_allStorms
        rw [hS4.2.2.1, allst hSO.b.2.2]
      have hcls : fX8_lay s = some ((cB : Int), mu s5 17 4 0) := by
        unfold fX8_lay
        rw [h1, b2_ok, if_pos cF, c_isWhole hCn, b2_ok, if_neg (by rw [if_pos cW]; decide), a1, bo_ok, b1, bo_ok, d1, bo_ok, hall, b2_ok, e1, bo_ok, lt_ok]
        rw [mu_ne _ _ _ (by decide), e3 _ (by decide) (by decide) (by decide), hS4.2.1]
      have frm : ∀ k, k < 17 → (mu s5 17 4 0) k = s k := fun k hk => by
        rw [mu_ne _ _ _ (by omega), e3 _ (by omega) (by omega) (by omega), d3 _ (by omega), b2'.1 _ (by omega) (by omega) (by omega), a3 _ (by omega), h2.1 _ (by omega) (by omega)]
      have hM1 := (hM.fr (s' := mu s5 17 4 0) (fun k hk => frm k (by omega))).thrown
      obtain ⟨s6, g1, g2, g3⟩ := m_reads hT htl hM1.2.2.2
      have g3 := g3 cF
      rw [hf] at g3
      dsimp only at g3
      obtain ⟨s7, k1, k2, k3, k4, k5, k6⟩ := m_lay_94 hok.1.1.2.2 hSO.b.2.2 hok.1.1.2.1 186 600 0 s6 (by omega) (by omega) g3 (fun a ha => absurd ha (by omega))
      have hmod : fX9_lay (mu s5 17 4 0) = some ((cB : Int), s7) := by
        unfold fX9_lay
        rw [lt_ok, g1, b2_ok, if_pos cF, show (183 : Int) = ((183 : Nat) : Int) from rfl, show (184 : Int) = ((184 : Nat) : Int) from rfl, m_draft' g3 (by decide), b2_ok, hok.1.1.1, if_neg (by omega), m_draft' g3 (by decide), b2_ok, hok.1.1.2.1, if_neg (by omega)]
        unfold fX9_lay_39
        have := m_lay_44 hok g3 cS 600 0 (by omega) (by have := hSO.b; omega)
        rw [tnD_0] at this
        refine this.trans ?_
        unfold fX9_lay_79
        rw [if_neg (by decide), if_pos cW.2.2]
        exact k1
      have hMd := hM1.frI g2
      refine ⟨_, _, s7, hcls, hmod, D', cH, cB, cS, nw ((2 ^ cS - 1 : Nat) : Int), K, 0, T, tl, ⟨hSO, nw_ok (by omega), by omega, fun z => absurd z (by omega), fun z => absurd z (by omega), htl, hT⟩, ⟨k2, k3, ⟨k4, fun k hk => absurd hk (by omega)⟩, ⟨by rw [k5 6 (by decide)]; exact hMd.2.2.2.1, fun k hk => by rw [k6 4 (by decide) (by decide) (by decide)]; exact hMd.2.2.2.2 k hk⟩⟩, ?_⟩
      have fr7 : ∀ k, 17 ≤ k → s7 k = (mu s5 17 4 0) k := fun k hk => by
        rw [k6 k (by omega) (by omega) (by omega), g2.1 k (by omega) (by omega), mu_ne _ _ _ (by omega)]
      refine InvC.fr (s := mu s5 17 4 0) ⟨?_, ?_, ?_, ⟨by rw [mu_same, fu_same]; rfl, fun z => absurd z (by omega), fun z => absurd z (by omega)⟩, ?_⟩ (fun k hk => fr7 k hk)
      · exact hS4.of hSO.b (fun k a b => by rw [mu_ne _ _ _ (by omega), e3 _ (by omega) (by omega) (by omega)])
      · exact d2.of hSO.b (fun k a b => by rw [mu_ne _ _ _ (by omega), e3 _ (by omega) (by omega) (by omega)])
      · exact e2.fr (mu_ne _ _ _ (by decide)) (mu_ne _ _ _ (by decide)) (mu_ne _ _ _ (by decide))
      · refine hC.2.2.2.2.of ?_ ?_
        · rw [mu_ne _ _ _ (by omega), e3 _ (by omega) (by omega) (by omega), d3 _ (by omega), b2'.2, a3 _ (by omega), h2.2]
        · rw [mu_ne _ _ _ (by omega), e3 _ (by omega) (by omega) (by omega), d3 _ (by omega), b2'.1 _ (by omega) (by omega) (by omega), a3 _ (by omega), h2.1 _ (by omega) (by omega)]
    · have hcls : fX8_lay s = some (-2, s1) := by
        unfold fX8_lay
        rw [h1, b2_ok, if_pos cF, c_isWhole hCn, b2_ok, if_pos (by rw [if_neg cW])]
      have hM1 : InvM s1 D N K kc T tl := hM.fr (fun k hk => h2.1 k (by omega) (by omega))
      have hC1 := hC.frF hV.1 h2
      obtain ⟨s2, q1, q2, q3⟩ := m_reads hT htl hM1.thrown.2.2.2
      have q3 := q3 cF
      refine ⟨-2, s1, s2, hcls, ?_, D, nH, nB, nS, N, K, kc, T, tl, hV, hM1.thrown.frI q2, hC1.fr (fun k hk => by rw [q2.1 k (by omega) (by omega), mu_ne _ _ _ (by omega)])⟩
      unfold fX9_lay
      rw [lt_ok, q1, b2_ok, if_pos cF, show (183 : Int) = ((183 : Nat) : Int) from rfl, show (184 : Int) = ((184 : Nat) : Int) from rfl, m_draft' q3 (by decide), b2_ok, hok.1.1.1]
      by_cases c1 : 0 < (fin T tl 501 D0 0 0 0 0).2.1
      · rw [if_neg (by omega), m_draft' q3 (by decide), b2_ok, hok.1.1.2.1]
        by_cases c2 : 0 < (fin T tl 501 D0 0 0 0 0).2.2.1
        · rw [if_neg (by omega)]
          unfold fX9_lay_39
          have := m_lay_44 hok q3 (fin T tl 501 D0 0 0 0 0).2.2.2 600 0 (by omega) (by have := hok.1.2.2.2; omega)
          rw [tnD_0] at this
          refine this.trans ?_
          unfold fX9_lay_79
          rw [if_neg (by decide), if_neg (fun z => cW ⟨c1, c2, z⟩)]
        · rw [if_pos (by omega), m_lay_38]
      · rw [if_pos (by omega), m_lay_38]
  · have hcls : fX8_lay s = some (-2, s1) := by
      unfold fX8_lay
      rw [h1, b2_ok, if_neg cF]
    have hM1 : InvM s1 D N K kc T tl := hM.fr (fun k hk => h2.1 k (by omega) (by omega))
    have hC1 := hC.frF hV.1 h2
    obtain ⟨s2, q1, q2, _⟩ := m_reads hT htl hM1.thrown.2.2.2
    refine ⟨-2, s1, s2, hcls, ?_, D, nH, nB, nS, N, K, kc, T, tl, hV, hM1.thrown.frI q2, hC1.fr (fun k hk => by rw [q2.1 k (by omega) (by omega), mu_ne _ _ _ (by omega)])⟩
    unfold fX9_lay
    rw [lt_ok, q1, b2_ok, if_neg cF, m_lay_38]
end LA

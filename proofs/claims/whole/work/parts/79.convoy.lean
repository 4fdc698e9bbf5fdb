/-- the least SPEED of SORTS -/
def lsG (D : Nat → Int) (so : Nat) : Nat → Int
  | 0 => 9
  | m + 1 => if so.testBit m = true then imin (lsG D so m) (D (16 + 5 * m + 1)) else lsG D so m
def uC (N : Nat → Int) (so u i : Nat) : Nat := if so.testBit i = true then u else uN N i
def gC (N : Nat → Int) (so j i : Nat) : Nat := if so.testBit i = true then j else gN N i
def vC (D : Nat → Int) (nB so i : Nat) : Int := if so.testBit i = true then lsG D so nB else vD D i
section CV
variable {D : Nat → Int} {nH nB nS q : Nat} {N K : Nat → Int} {kc : Nat} {T : Nat → Int} {tl : Nat} {U G : Nat → Nat} {V : Nat → Int} {w : Bool} {s s1 s2 s' : Mem}
theorem lsG_rg (h : SeaOk D nH nB nS) {so : Nat} : ∀ m, m ≤ 4 → 0 ≤ lsG D so m ∧ lsG D so m ≤ 9
  | 0, _ => by unfold lsG; omega
  | m + 1, hm => by
    have ih := lsG_rg h (so := so) m (by omega)
    have := h.2.2.1 m (by omega)
    unfold lsG imin
    split
    · split <;> omega
    · exact ih
theorem convP (h : SeaOk D nH nB nS) (hO : NowOk N nH nS) {so u j : Nat} (hu : u ≤ 24) (hj : j < nH) : PlOk' D nH nB nS (uC N so u) (gC N so j) (vC D nB so) := by
  have hb := h.1
  refine ⟨h, fun i hi => ?_, fun i hi => ?_⟩
  · have := uN_i hO (i := i) (by omega)
    unfold uC gC
    split
    · exact ⟨hu, hj⟩
    · exact ⟨this.2.1, this.2.2.2⟩
  · unfold vC
    split
    · exact lsG_rg h nB (by omega)
    · exact vD_rg h (by omega)
theorem c_least_5 (h : SeaOk D nH nB nS) (hC : SeaC s D nH nB nS) {so : Nat} (hs : so < 16) : ∀ (m n i : Nat), i + m = nB → m < n → fX5_leastSpeed_5 n so (lsG D so i) i s = some (lsG D so nB, s)
  | m, 0, _, _, hn => absurd hn (by omega)
  | 0, n + 1, i, e, _ => by
    have e : i = nB := by omega
    subst e
    rw [fX5_leastSpeed_5, hC.2.1, if_pos (by omega)]
  | m + 1, n + 1, i, e, hn => by
    have hb := h.1
    have ih := c_least_5 h hC hs m n (i + 1) (by omega) (by omega)
    rw [lsG] at ih
    rw [fX5_leastSpeed_5, hC.2.1, if_neg (by omega)]
    by_cases c : so.testBit i = true
    · rw [if_pos c] at ih
      rw [if_neg (fun z => by rw [(bit_0 (by omega) (by omega)).mp z] at c; exact absurd c (by simp))]
      simp (disch := omega) only [rdG_sea_sorts, rd_sea_sorts, bo_ok, lt_ok, Int.toNat_natCast, Int.reduceToNat, hC.b1, w32_s]
      exact ih
    · rw [if_neg c] at ih
      rw [if_pos ((bit_0 (by omega) (by omega)).mpr (eq_false_of_ne_true c)), lt_ok, w32_s (by omega)]
      exact ih
theorem c_conv_55 (h : SeaOk D nH nB nS) (hO : NowOk N nH nS) {th so u j : Nat} (hth : th < 16) (hs : so < 16) (hu : u ≤ 24) (hj : j < nH) : ∀ (m n i : Nat) (s : Mem), i + m = nB → m < n → SeaC s D nH nB nS → TabC s D nH nB nS → s 109 4 = th → (∀ a, a < 4 → s 135 a = (if a < i then ((uC N so u a : Nat) : Int) else N (2 * a)) ∧ s 136 a = (if a < i then ((gC N so j a : Nat) : Int) else N (2 * a + 1))) → ∃ s', fX8_convoy_55 n so u j i s = some (w64 (mn D nB nS (uC N so u) (gC N so j) (vC D nB so) false (2 ^ nB - 1) th), s') ∧ (∀ k, k < 122 → s' k = s k)
  | m, 0, _, _, _, hn, _, _, _, _ => absurd hn (by omega)
  | 0, n + 1, i, s, e, _, hC, hT, h4, hp => by
    have hb := h.1
    have e : i = nB := by omega
    subst e
    have u4 : ∀ k, k ≠ 122 → (mu (mu (mu s 122 1 (so : Int)) 122 2 (lsG D so i)) 122 3 0) k = s k := fun k hk => by rw [mu_ne _ _ _ hk, mu_ne _ _ _ hk, mu_ne _ _ _ hk]
    have u2 : SlC (mu (mu (mu s 122 1 (so : Int)) 122 2 (lsG D so i)) 122 3 0) D nH i nS 135 136 (uC N so u) (gC N so j) (vC D i so) false := by
      refine ⟨hC.of h.b (fun k a b => u4 k (by omega)), hT.of h.b (fun k a b => u4 k (by omega)), fun a ha => ?_, by rw [mu_same, fu_same]; rfl, so, ?_, hs, fun a ha => ?_⟩
      · have := hp a (by omega)
        rw [if_pos ha, if_pos ha] at this
        rw [u4 _ (by decide), u4 _ (by decide)]
        exact this
      · rw [mu_same, fu_ne _ _ (by decide), mu_same, fu_ne _ _ (by decide), mu_same, fu_same]
      · unfold vC vD
        rw [mu_same, fu_ne _ _ (by decide), mu_same, fu_same]
    obtain ⟨s1, p1, p2⟩ := c_meanOf (convP h hO (so := so) hu hj) plc_t (all_16 (nB := i) (by omega)) hth u2
    refine ⟨s1, ?_, fun k hk => by rw [p2 k (by omega), u4 k (by omega)]⟩
    have hl : fX5_leastSpeed so s = some (lsG D so i, s) := c_least_5 h hC hs i 600 0 (by omega) (by omega)
    rw [fX8_convoy_55, hC.2.1, if_pos (by omega), hl, b2_ok]
    unfold fX2_inConvoy
    rw [lt_ok, lt_ok, lt_ok, bo_ok, c_allSorts u2.1 (by omega), b2_ok, u4 _ (by decide), h4, p1, b2_ok]
  | m + 1, n + 1, i, s, e, hn, hC, hT, h4, hp => by
    have hb := h.1
    have hui := uN_i hO (i := i) (by omega)
    by_cases c : so.testBit i = true
    · have fr : ∀ k, k < 122 → mu (mu s 135 i ((u : Nat) : Int)) 136 i ((j : Nat) : Int) k = s k := fun k hk => by rw [mu_ne _ _ _ (by omega), mu_ne _ _ _ (by omega)]
      obtain ⟨s', q1, q2⟩ := c_conv_55 h hO hth hs hu hj m n (i + 1) (mu (mu s 135 i ((u : Nat) : Int)) 136 i ((j : Nat) : Int)) (by omega) (by omega) (hC.of h.b (fun k a b => fr k (by omega))) (hT.of h.b (fun k a b => fr k (by omega))) (by rw [fr _ (by decide)]; exact h4) (fun a ha => by
        rw [mu_ne _ _ _ (by decide), mu_same, mu_same]
        by_cases ce : a = i
        · subst ce
          rw [fu_same, fu_same, if_pos (by omega), if_pos (by omega)]
          unfold uC gC
          rw [if_pos c, if_pos c]; exact ⟨rfl, rfl⟩
        · have := hp a ha
          rw [fu_ne _ _ ce, fu_ne _ _ ce, mu_ne _ _ _ (by decide)]
          by_cases cl : a < i
          · rw [if_pos cl, if_pos cl] at this
            rw [if_pos (by omega), if_pos (by omega)]; exact this
          · rw [if_neg cl, if_neg cl] at this
            rw [if_neg (by omega), if_neg (by omega)]; exact this)
      refine ⟨s', ?_, fun k hk => by rw [q2 k hk, fr k hk]⟩
      rw [fX8_convoy_55, hC.2.1, if_neg (by omega), if_neg (fun z => by rw [(bit_0 (by omega) (by omega)).mp z] at c; exact absurd c (by simp)), c_send_t (by omega), bo_ok, lt_ok, w32_s (by omega)]
      exact q1
    · obtain ⟨s', q1, q2⟩ := c_conv_55 h hO hth hs hu hj m n (i + 1) s (by omega) (by omega) hC hT h4 (fun a ha => by
        have := hp a ha
        by_cases ce : a = i
        · subst ce
          rw [if_neg (by omega), if_neg (by omega)] at this
          rw [if_pos (by omega), if_pos (by omega)]
          unfold uC gC
          rw [if_neg c, if_neg c, hui.1, hui.2.2.1]; exact this
        · by_cases cl : a < i
          · rw [if_pos cl, if_pos cl] at this
            rw [if_pos (by omega), if_pos (by omega)]; exact this
          · rw [if_neg cl, if_neg cl] at this
            rw [if_neg (by omega), if_neg (by omega)]; exact this)
      refine ⟨s', ?_, q2⟩
      rw [fX8_convoy_55, hC.2.1, if_neg (by omega), if_pos ((bit_0 (by omega) (by omega)).mpr (eq_false_of_ne_true c)), lt_ok, w32_s (by omega)]
      exact q1
theorem m_conv_116 (h : SeaOk D nH nB nS) (hO : NowOk N nH nS) {th so u j : Nat} (e11 : N 11 = th) (hth : th < 16) (hs : so < 16) (hu : u ≤ 24) (hj : j < nH) : ∀ (m n i : Nat) (s : Mem), i + m = nB → m < n → SeaM s D → NowM s N → (∀ a, a < 4 → s 5 a = (if a < i then ((uC N so u a : Nat) : Int) else N (2 * a)) ∧ s 6 a = (if a < i then ((gC N so j a : Nat) : Int) else N (2 * a + 1)) ∧ s 7 a = (if a < i then vC D nB so a else vD D a)) → ∃ s', fX9_convoy_116 n so u j (lsG D so nB) i s = some (w64 (mn D nB nS (uC N so u) (gC N so j) (vC D nB so) false (2 ^ nB - 1) th), s') ∧ (∀ c, (c < 5 ∨ 14 < c) → s' c = s c)
  | m, 0, _, _, _, hn, _, _, _ => absurd hn (by omega)
  | 0, n + 1, i, s, e, _, hM, hN, hp => by
    have hb := h.1
    have e : i = nB := by omega
    subst e
    obtain ⟨s1, p1, p2⟩ := m_meanOf (w := false) (own := -1) (convP h hO (so := so) hu hj) e11 hth (by omega) (s := s) ⟨hM, fun a ha => by
      have := hp a (by omega)
      rw [if_pos ha, if_pos ha, if_pos ha] at this
      exact this⟩ hN
    have p1' : fX9_meanOf 0 (-1) s = some (w64 (mn D i nS (uC N so u) (gC N so j) (vC D i so) false (2 ^ i - 1) th), s1) := p1
    refine ⟨s1, ?_, fun c hc => p2 c (by omega)⟩
    rw [fX9_convoy_116]
    simp (disch := omega) only [rd_m_sea, bo_ok, Int.reduceToNat, hM.at]
    rw [if_pos (by omega), p1', b2_ok]
  | m + 1, n + 1, i, s, e, hn, hM, hN, hp => by
    have hb := h.1
    have hui := uN_i hO (i := i) (by omega)
    have hpi := hp i (by omega)
    rw [if_neg (by omega), if_neg (by omega), if_neg (by omega)] at hpi
    obtain ⟨s', q1, q2⟩ := m_conv_116 h hO e11 hth hs hu hj m n (i + 1) (mu (mu (mu s 5 i ((uC N so u i : Nat) : Int)) 6 i ((gC N so j i : Nat) : Int)) 7 i (vC D nB so i)) (by omega) (by omega) (hM.fr (by simp (disch := decide) only [mu_ne])) (fun k hk => by simp (disch := decide) only [mu_ne]; exact hN k hk) (fun a ha => by
      simp (disch := decide) only [mu_ne, mu_same]
      by_cases ce : a = i
      · subst ce
        simp only [fu_same, if_pos (show a < a + 1 by omega), and_self]
      · have := hp a ha
        simp only [fu_ne _ _ ce]
        by_cases cl : a < i
        · rw [if_pos cl, if_pos cl, if_pos cl] at this
          rw [if_pos (by omega), if_pos (by omega), if_pos (by omega)]; exact this
        · rw [if_neg cl, if_neg cl, if_neg cl] at this
          rw [if_neg (by omega), if_neg (by omega), if_neg (by omega)]; exact this)
    refine ⟨s', ?_, fun c hc => by rw [q2 c hc, mu_ne _ _ _ (by omega), mu_ne _ _ _ (by omega), mu_ne _ _ _ (by omega)]⟩
    rw [fX9_convoy_116]
    simp (disch := omega) only [rd_m_sea, bo_ok, Int.reduceToNat, hM.at]
    rw [if_neg (by omega)]
    unfold fX9_convoy_144 fX9_convoy_168 fX9_convoy_191 fX9_convoy_215
    unfold uC gC vC at q1
    by_cases c : so.testBit i = true
    · rw [if_pos c, if_pos c, if_pos c] at q1
      rw [if_pos ((bit_1 (by omega) (by omega)).mpr c), if_neg (by decide)]
      simp (disch := omega) only [wr_m_hours, wr_m_goals, wr_m_speeds, bo_ok, lt_ok, Int.toNat_natCast, w32_s]
      rw [if_neg (by decide), if_neg (by decide)]
      exact q1
    · rw [if_neg c, if_neg c, if_neg c, hui.1, hui.2.2.1] at q1
      rw [if_neg (fun z => c ((bit_1 (by omega) (by omega)).mp z)), if_pos rfl]
      simp (disch := omega) only [rd_m_hours, rd_m_goals, rd_m_speeds, wr_m_hours, wr_m_goals, wr_m_speeds, bo_ok, lt_ok, Int.toNat_natCast, w32_s, if_true]
      simp (disch := decide) only [mu_ne, hpi.1, hpi.2.1, hpi.2.2]
      exact q1
theorem m_conv_58 (h : SeaOk D nH nB nS) {so : Nat} {u j : Int} (hM : SeaM s D) (hs : so < 16) (h7 : ∀ a, a < 4 → s 7 a = vD D a) : ∀ (m n i : Nat), i + m = nB → m < n → fX9_convoy_58 n so u j (lsG D so i) i s = fX9_convoy_116 600 so u j (lsG D so nB) 0 s
  | m, 0, _, _, hn => absurd hn (by omega)
  | 0, n + 1, i, e, _ => by
    have hb := h.1
    have e : i = nB := by omega
    subst e
    rw [fX9_convoy_58]
    simp (disch := omega) only [rd_m_sea, bo_ok, Int.reduceToNat, hM.at]
    rw [if_pos (by omega)]
  | m + 1, n + 1, i, e, hn => by
    have hb := h.1
    have ih := m_conv_58 h (u := u) (j := j) hM hs h7 m n (i + 1) (by omega) (by omega)
    rw [lsG] at ih
    rw [fX9_convoy_58]
    simp (disch := omega) only [rd_m_sea, bo_ok, Int.reduceToNat, hM.at]
    rw [if_neg (by omega)]
    unfold fX9_convoy_103 fX9_convoy_105
    by_cases c : so.testBit i = true
    · rw [if_pos c] at ih
      rw [if_pos ((bit_1 (by omega) (by omega)).mpr c)]
      simp (disch := omega) only [rd_m_speeds, bo_ok, lt_ok, Int.toNat_natCast, w32_s, h7 i (by omega)]
      unfold imin at ih
      unfold vD
      by_cases cl : D (16 + 5 * i + 1) < lsG D so i
      · rw [if_pos cl] at ih
        rw [if_neg (by omega)]; exact ih
      · rw [if_neg cl] at ih
        rw [if_pos (by omega)]; exact ih
    · rw [if_neg c] at ih
      rw [if_neg (fun z => c ((bit_1 (by omega) (by omega)).mp z)), lt_ok, w32_s (by omega)]
      exact ih
theorem call_convoy (hI : Inv s) (a b c : Int) : ∃ r s1 s2, fX8_convoy a b c s = some (r, s1) ∧ fX9_convoy a b c s1 = some (r, s2) ∧ Inv s2 := by
  have hI2 := hI.read
  obtain ⟨D, nH, nB, nS, N, K, kc, T, tl, hV, hM, hC⟩ := hI
  have hb := hV.1.1
  have ha16 := all_16 (nB := nB) (by omega)
  obtain ⟨th, e11, hth⟩ := hV.2.1.2.2.2.2.2.2.2
  have h16 := th_16 hth (by omega)
  by_cases hh : (1 ≤ a ∧ a ≤ ((2 ^ nB - 1 : Nat) : Int)) ∧ (0 ≤ b ∧ b ≤ 23) ∧ (0 ≤ c ∧ c < nH)
  · obtain ⟨ha, hbb, hc⟩ := hh
    obtain ⟨so, rfl⟩ := nat_of (show 0 ≤ a by omega)
    obtain ⟨u, rfl⟩ := nat_of hbb.1
    obtain ⟨j, rfl⟩ := nat_of hc.1
    obtain ⟨s0, y1, y2, y3⟩ := c_copyFrom pt_trial_0 pt_trial_1 pt_watch_plans_0 pt_watch_plans_1 plc_t.lh.1 plc_t.lh.2 plc_w.lh.1 plc_w.lh.2 (by decide) (by decide) (by decide) (by decide) (by decide) s
    have f0 : ∀ k, k < 122 → s0 k = s k := fun k hk => y3 k (by omega) (by omega)
    obtain ⟨s1, p1, f1'⟩ := c_conv_55 hV.1 hV.2.1 h16 (show so < 16 by omega) (show u ≤ 24 by omega) (show j < nH by omega) nB 600 0 s0 (by omega) (by omega) (hC.1.of hV.1.b (fun k a b => f0 k (by omega))) (hC.2.1.of hV.1.b (fun k a b => f0 k (by omega))) (by rw [f0 _ (by decide), hC.2.2.1.2.2.2.1, e11]) (fun a ha => by
      rw [if_neg (by omega), if_neg (by omega), (y2 a ha).1, (y2 a ha).2]
      exact hC.2.2.1.2.2.2.2 a ha)
    have f1 : ∀ k, k < 122 → s1 k = s k := fun k hk => by rw [f1' k hk, f0 k hk]
    have hM1 : InvM s1 D N K kc T tl := hM.fr (fun k hk => f1 k (by omega))
    obtain ⟨s3, z1, z2, z3, z4, z5, z6⟩ := m_begin hV hM1
    obtain ⟨s4, g1, g4⟩ := m_conv_116 hV.1 hV.2.1 e11 h16 (show so < 16 by omega) (show u ≤ 24 by omega) (show j < nH by omega) nB 600 0 s3 (by omega) (by omega) z2.1 z3 (fun a ha => by
      rw [if_neg (by omega), if_neg (by omega), if_neg (by omega)]
      exact z6 a ha)
    have g0 := m_conv_58 hV.1 (u := (u : Int)) (j := (j : Int)) z2.1 (show so < 16 by omega) (fun a ha => (z6 a ha).2.2) nB 600 0 (by omega) (by omega)
    refine ⟨w64 (mn D nB nS (uC N so u) (gC N so j) (vC D nB so) false (2 ^ nB - 1) th), s1, s4, ?_, ?_, fin_inv hV hM hC f1 (fun c h1 h2 => by rw [g4 c (by omega), z4 c h1 (by omega)]) (fun f hf => by rw [g4 0 (by omega), z5 f hf])⟩
    · unfold fX8_convoy
      rw [if_neg (by omega), c_allSorts hC.1 (by omega), b2_ok, if_neg (by omega), c_isHour, b2_ok, if_neg (by rw [if_pos hbb]; decide), c_isHarbour hC.1, b2_ok, if_neg (by rw [if_pos hc]; decide), y1, bo_ok]
      exact p1
    · unfold fX9_convoy
      rw [lt_ok]
      simp (disch := omega) only [rd_m_sea, bo_ok, Int.reduceToNat, hM1.thrown.1.at]
      rw [hb.2.1, allst (by omega), m_isIn, b2_ok, if_neg (by rw [if_pos ha]; decide), m_isIn, b2_ok, if_neg (by rw [if_pos hbb]; decide), m_isHarbour hM1.thrown.1 hV.1, b2_ok, if_neg (by rw [if_pos hc]; decide), z1, bo_ok]
      exact g0.trans g1
  · refine ⟨-9223372036854775808, s, mu s 0 0 0, ?_, ?_, hI2⟩
    · unfold fX8_convoy
      rw [c_allSorts hC.1 (by omega), b2_ok, c_isHour, b2_ok, c_isHarbour hC.1, b2_ok]
      simp only [if01_0]
      repeat' split
      all_goals first | rfl | (exfalso; omega)
    · unfold fX9_convoy
      rw [lt_ok]
      simp (disch := omega) only [rd_m_sea, bo_ok, Int.reduceToNat, hM.thrown.1.at]
      rw [hb.2.1, allst (by omega), m_isIn, b2_ok, m_isIn, b2_ok, m_isHarbour hM.thrown.1 hV.1, b2_ok]
      simp only [if01_0]
      repeat' split
      all_goals first | rfl | (exfalso; omega)
end CV

section BY
variable {D : Nat → Int} {nH nB nS q th : Nat} {N K : Nat → Int} {kc : Nat} {T : Nat → Int} {tl : Nat} {rule : Int} {s s1 s2 s' : Mem}
theorem m_ruled_11 : ∀ (m n i : Nat) (s : Mem), i + m = 4 → m < n → (∀ k, k < i → s 5 k = 24) → ∃ s', fX9_ruled_11 n rule q i s = fX9_ruled_35 600 rule q 0 0 s' ∧ (∀ k, k < 4 → s' 5 k = 24) ∧ (∀ c, c ≠ 5 → s' c = s c)
  | m, 0, _, _, _, hn, _ => absurd hn (by omega)
  | 0, n + 1, i, s, e, _, h => ⟨s, by rw [fX9_ruled_11, if_pos (by omega)], fun k hk => h k (by omega), fun _ _ => rfl⟩
  | m + 1, n + 1, i, s, e, hn, h => by
    obtain ⟨s', q1, q2, q3⟩ := m_ruled_11 m n (i + 1) (mu s 5 i 24) (by omega) (by omega) (fun k hk => by
      rw [mu_same]
      by_cases c : k = i
      · subst c; rw [fu_same]
      · rw [fu_ne _ _ c]; exact h k (by omega))
    refine ⟨s', ?_, q2, fun c hc => by rw [q3 c hc, mu_ne _ _ _ hc]⟩
    rw [fX9_ruled_11, if_neg (by omega), wr_m_hours (by omega) (by omega), bo_ok, Int.toNat_natCast, lt_ok, w32_s (by omega)]
    exact q1
/-- the goals that the reference sails by -/
def rG' (D N : Nat → Int) (nH nB nS th : Nat) (rule : Int) (q i : Nat) : Nat := if rule = 0 then gN N i else if (rAll D N nH nB nS th rule q).1 i < 24 then (rAll D N nH nB nS th rule q).2 i else gN N i
theorem m_ruled (h : SeaOk D nH nB nS) (hO : NowOk N nH nS) (e11 : N 11 = th) (hth : th < 16) (hq : q < nS) (hr : rule ≤ 4) (hM : SeaM s D) (hN : NowM s N) : ∃ s', fX9_ruled rule q s = some s' ∧ PrM s' D nB (rAll D N nH nB nS th rule q).1 (rG' D N nH nB nS th rule q) (vD D) ∧ (∀ c, (c < 5 ∨ 7 < c) → s' c = s c) := by
  have hb := h.1
  obtain ⟨s2, q1, q2, q3, q4⟩ := m_asPlanned h hO hM hN
  have hN2 : NowM s2 N := fun k hk => by rw [q3 2 (by decide) (by decide) (by decide)]; exact hN k hk
  unfold fX9_ruled
  rw [q1, bo_ok]
  by_cases c0 : rule = 0
  · have e : rAll D N nH nB nS th rule q = (uN N, gN N) := if_pos c0
    have e2 : rG' D N nH nB nS th rule q = gN N := funext fun i => if_pos c0
    rw [if_pos c0, e, e2]
    exact ⟨s2, rfl, q2, fun c hc => q3 c (by omega) (by omega) (by omega)⟩
  · rw [if_neg c0]
    obtain ⟨s3, r1, r2, r3⟩ := m_ruled_11 (rule := rule) (q := q) 4 600 0 s2 (by omega) (by omega) (fun k hk => absurd hk (by omega))
    have hM3 : SeaM s3 D := q2.1.fr (r3 _ (by decide))
    have hN3 : NowM s3 N := fun k hk => by rw [r3 2 (by decide)]; exact hN2 k hk
    have hf3 : RfM s3 D N nB (fun _ => 24, fun _ => 0) := fun i hi => by
      have h4 : i < 4 := by omega
      dsimp only
      rw [if_neg (by omega), r2 i h4, r3 6 (by decide), r3 7 (by decide), (q4 i h4).2.1, (q4 i h4).2.2, (uN_i hO h4).2.2.1]
      exact ⟨rfl, rfl, rfl⟩
    have fin : ∀ s', RfM s' D N nB (rAll D N nH nB nS th rule q) → SeaM s' D → PrM s' D nB (rAll D N nH nB nS th rule q).1 (rG' D N nH nB nS th rule q) (vD D) := fun s' hf hm => ⟨hm, fun i hi => by
      have := hf i hi
      have e : rG' D N nH nB nS th rule q i = if (rAll D N nH nB nS th rule q).1 i < 24 then (rAll D N nH nB nS th rule q).2 i else gN N i := if_neg c0
      rw [e]; exact this⟩
    have r1' : fX9_ruled_11 600 rule q 0 s2 = fX9_ruled_35 600 rule q 0 0 s3 := r1
    rw [r1']
    by_cases c4 : rule = 4
    · have e : rAll D N nH nB nS th rule q = (fun _ => 24, fun _ => 0) := (if_neg c0).trans (if_pos c4)
      refine ⟨s3, ?_, fin s3 (by rw [e]; exact hf3) hM3, fun c hc => by rw [r3 c (by omega), q3 c (by omega) (by omega) (by omega)]⟩
      rw [fX9_ruled_35, if_neg (by omega), if_pos (by omega)]
    · have e : rAll D N nH nB nS th rule q = itr (rhr D N nH nB nS th rule q) 24 0 (fun _ => 24, fun _ => 0) := (if_neg c0).trans (if_neg c4)
      obtain ⟨s', p1, p2, p3⟩ := m_ruled_35 (rule := rule) h e11 hth hq (by omega) 24 600 0 s3 (fun _ => 24, fun _ => 0) (by omega) (by omega) hM3 hN3 hf3 (fun i => Or.inr rfl)
      have g0 : gone D (fun _ => 24) 0 nB = 0 := by
        have := gone_le h (U := fun _ => 24) (t := 0)
        have z : ∀ m, gone D (fun _ => 24) 0 m = 0 := fun m => by
          induction m with
          | zero => rfl
          | succ m ih => rw [gone, ih, if_neg (by omega)]
        exact z nB
      dsimp only at p1
      rw [g0] at p1
      exact ⟨s', p1, fin s' (by rw [e]; exact p2) (hM3.fr (p3 _ (by decide) (by decide))), fun c hc => by rw [p3 c (by omega) (by omega), r3 c (by omega), q3 c (by omega) (by omega) (by omega)]⟩
theorem rG_p (h : SeaOk D nH nB nS) (hO : NowOk N nH nS) : PlOk' D nH nB nS (rAll D N nH nB nS th rule q).1 (rG' D N nH nB nS th rule q) (vD D) := by
  have hb := h.1
  have h0 := rAll_p (rule := rule) (q := q) (th := th) h hO
  refine ⟨h, fun i hi => ⟨(h0.2.1 i hi).1, ?_⟩, h0.2.2⟩
  unfold rG'
  split
  · exact (uN_i hO (by omega)).2.2.2
  · split
    · exact (h0.2.1 i hi).2
    · exact (uN_i hO (by omega)).2.2.2
theorem rv_m (h : SeaOk D nH nB nS) : w64 (vM D nB q (rAll D N nH nB nS th rule q).1 (rG' D N nH nB nS th rule q) (vD D) false (2 ^ nB - 1)) = rv D N nH nB nS th rule q := by
  unfold rv
  by_cases c0 : rule = 0
  · have e : rAll D N nH nB nS th rule q = (uN N, gN N) := if_pos c0
    have e2 : rG' D N nH nB nS th rule q = gN N := funext fun i => if_pos c0
    rw [e, e2]
  · have h1 := rAll_ok (N := N) (th := th) (q := q) h c0
    rw [vM_gc (fun i => (h1 i).1) (fun i hi => ?_)]
    unfold rG'
    rw [if_neg c0, if_pos hi]
theorem m_worthByRule (h : SeaOk D nH nB nS) (hO : NowOk N nH nS) (e11 : N 11 = th) (hth : th < 16) (hq : q < nS) (hr : rule ≤ 4) (hM : SeaM s D) (hN : NowM s N) : ∃ s1 s2, fX9_ruled rule q s = some s1 ∧ SeaM s1 D ∧ fX9_goesBy q 0 s1 = some (rv D N nH nB nS th rule q, s2) ∧ (∀ c, (c < 5 ∨ 14 < c) → s2 c = s c) := by
  obtain ⟨s1, p1, p2, p3⟩ := m_ruled (rule := rule) h hO e11 hth hq hr hM hN
  obtain ⟨s2, g1, g2, g3, g4⟩ := m_goesBy (w := false) ((rG_p h hO).at hq) p2
  rw [rv_m h] at g1
  exact ⟨s1, s2, p1, p2.1, g1, fun c hc => by rw [g4 c (by omega), p3 c (by omega)]⟩
def byG (D : Nat → Int) (th : Nat) (f : Nat → Int) : Nat → Nat → Int → Int
  | 0, _, x => x
  | m + 1, q, x => if th.testBit q = true then byG D th f m (q + 1) (w64 (x + w64 (D (52 + 6 * q) * f q))) else byG D th f m (q + 1) x
theorem c_by_16 (h : SeaOk D nH nB nS) (hO : NowOk N nH nS) (e11 : N 11 = th) (hth : th < 16) : ∀ (m n q : Nat) (x : Int) (s : Mem), q + m = nS → m < n → RuC s D nH nB nS N → ∃ s', fX8_by_16 n rule x q s = some (byG D th (rv D N nH nB nS th rule) m q x, s') ∧ (∀ k, k < 122 → s' k = s k)
  | m, 0, _, _, _, _, hn, _ => absurd hn (by omega)
  | 0, n + 1, q, x, s, e, _, hR => ⟨s, by rw [fX8_by_16, hR.1.2.2.1, if_pos (by omega), byG], fun _ _ => rfl⟩
  | m + 1, n + 1, q, x, s, e, hn, hR => by
    have hb := h.1
    rw [fX8_by_16, hR.1.2.2.1, if_neg (by omega), hR.2.2.2.2.2.1, e11, byG]
    by_cases c : th.testBit q = true
    · obtain ⟨s1, p1, p2⟩ := c_worthByRule (rule := rule) h hO e11 hth (show q < nS by omega) hR
      obtain ⟨s', q1, q2⟩ := c_by_16 h hO e11 hth m n (q + 1) (w64 (x + w64 (D (52 + 6 * q) * rv D N nH nB nS th rule q))) s1 (by omega) (by omega) (hR.fr h p2)
      rw [if_pos c, if_neg (fun z => by rw [(bit_0 (by omega) (by omega)).mp z] at c; exact absurd c (by simp))]
      simp (disch := omega) only [rdG_sea_storms, rd_sea_storms, bo_ok, Int.toNat_natCast, Int.reduceToNat, hR.1.q0]
      rw [p1, b2_ok, lt_ok, lt_ok, w32_s (by omega)]
      exact ⟨s', q1, fun k hk => by rw [q2 k hk, p2 k hk]⟩
    · rw [if_neg c, if_pos ((bit_0 (by omega) (by omega)).mpr (eq_false_of_ne_true c)), lt_ok, w32_s (by omega)]
      exact c_by_16 h hO e11 hth m n (q + 1) x s (by omega) (by omega) hR
theorem m_by_21 (h : SeaOk D nH nB nS) (hO : NowOk N nH nS) (e11 : N 11 = th) (hth : th < 16) (hr : rule ≤ 4) : ∀ (m n q : Nat) (x : Int) (s : Mem), q + m = nS → m < n → SeaM s D → NowM s N → ∃ s', fX9_by_21 n rule x q s = some (byG D th (rv D N nH nB nS th rule) m q x, s') ∧ (∀ c, (c < 5 ∨ 14 < c) → s' c = s c)
  | m, 0, _, _, _, _, hn, _, _ => absurd hn (by omega)
  | 0, n + 1, q, x, s, e, _, hM, hN => by
    have hb := h.1
    refine ⟨s, ?_, fun _ _ => rfl⟩
    rw [fX9_by_21, byG]
    simp (disch := omega) only [rd_m_sea, bo_ok, Int.reduceToNat, hM.at]
    rw [if_pos (by omega)]
  | m + 1, n + 1, q, x, s, e, hn, hM, hN => by
    have hb := h.1
    rw [fX9_by_21, byG]
    simp (disch := omega) only [rd_m_sea, bo_ok, Int.reduceToNat, hM.at]
    rw [if_neg (by omega), m_isThought hN e11 hth (by omega), b2_ok]
    by_cases c : th.testBit q = true
    · obtain ⟨s1, s2, p1, p2, p3, p4⟩ := m_worthByRule (rule := rule) h hO e11 hth (show q < nS by omega) hr hM hN
      obtain ⟨s', q1, q2⟩ := m_by_21 h hO e11 hth hr m n (q + 1) (w64 (x + w64 (D (52 + 6 * q) * rv D N nH nB nS th rule q))) s2 (by omega) (by omega) (hM.fr (p4 _ (by omega))) (fun k hk => by rw [p4 2 (by omega)]; exact hN k hk)
      rw [if_pos c, if_pos c, if_neg (by decide), p1, bo_ok, m_tenths p2 (by omega), b2_ok, p3, b2_ok, lt_ok, lt_ok, w32_s (by omega)]
      exact ⟨s', q1, fun k hk => by rw [q2 k hk, p4 k hk]⟩
    · rw [if_neg c, if_neg c, if_pos rfl, lt_ok, w32_s (by omega)]
      exact m_by_21 h hO e11 hth hr m n (q + 1) x s (by omega) (by omega) hM hN
theorem m_isRule (a : Int) (s : Mem) : fX9_isRule a s = some (if 0 ≤ a ∧ a ≤ 4 then 1 else 0, s) := by
  unfold fX9_isRule
  rw [m_isIn, b2_ok, ck_ok (if01 _)]
theorem call_by (hI : Inv s) (a : Int) : ∃ r s1 s2, fX8_by a s = some (r, s1) ∧ fX9_by a s1 = some (r, s2) ∧ Inv s2 := by
  have hI2 := hI.read
  obtain ⟨D, nH, nB, nS, N, K, kc, T, tl, hV, hM, hC⟩ := hI
  have hb := hV.1.1
  obtain ⟨th, e11, hth⟩ := hV.2.1.2.2.2.2.2.2.2
  have h16 := th_16 hth (by omega)
  by_cases ha : 0 ≤ a ∧ a ≤ 4
  · obtain ⟨s1, p1, f1⟩ := c_by_16 (rule := a) hV.1 hV.2.1 e11 h16 nS 600 0 0 s (by omega) (by omega) ⟨hC.1, hC.2.1, hC.2.2.1⟩
    have hM1 : InvM s1 D N K kc T tl := hM.fr (fun k hk => f1 k (by omega))
    have h0 := hM1.thrown
    obtain ⟨s4, g1, g4⟩ := m_by_21 (rule := a) hV.1 hV.2.1 e11 h16 ha.2 nS 600 0 0 (mu s1 0 0 0) (by omega) (by omega) h0.1 h0.2.1
    refine ⟨byG D th (rv D N nH nB nS th a) nS 0 0, s1, s4, ?_, ?_, fin_inv hV hM hC f1 (fun c h1 h2 => by rw [g4 c (by omega), mu_ne _ _ _ h1]) (fun f hf => by rw [g4 0 (by omega), mu_same, fu_ne _ _ hf])⟩
    · unfold fX8_by
      rw [c_isRule, b2_ok, if_neg (by rw [if_pos ha]; decide)]; exact p1
    · unfold fX9_by
      rw [lt_ok, m_isRule, b2_ok, if_neg (by rw [if_pos ha]; decide)]; exact g1
  · refine ⟨-9223372036854775808, s, mu s 0 0 0, ?_, ?_, hI2⟩
    · unfold fX8_by
      rw [c_isRule, b2_ok, if_pos (by rw [if_neg ha])]
    · unfold fX9_by
      rw [lt_ok, m_isRule, b2_ok, if_pos (by rw [if_neg ha])]
theorem call_ran (hI : Inv s) (a b c : Int) : ∃ r s1 s2, fX8_ran a b c s = some (r, s1) ∧ fX9_ran a b c s1 = some (r, s2) ∧ Inv s2 := by
  have hI2 := hI.read
  obtain ⟨D, nH, nB, nS, N, K, kc, T, tl, hV, hM, hC⟩ := hI
  have hb := hV.1.1
  obtain ⟨th, e11, hth⟩ := hV.2.1.2.2.2.2.2.2.2
  have h16 := th_16 hth (by omega)
  by_cases hh : (0 ≤ a ∧ a ≤ 4) ∧ (0 ≤ b ∧ b < nS) ∧ (0 ≤ c ∧ c < nB)
  · obtain ⟨ha, hbb, hc⟩ := hh
    obtain ⟨q, rfl⟩ := nat_of hbb.1
    obtain ⟨i, rfl⟩ := nat_of hc.1
    have hi : i < nB := by omega
    obtain ⟨s1, p1, p2, f1⟩ := c_follow (rule := a) hV.1 hV.2.1 e11 h16 (show q < nS by omega) ⟨hC.1, hC.2.1, hC.2.2.1⟩
    have hM1 : InvM s1 D N K kc T tl := hM.fr (fun k hk => f1 k (by omega))
    have h0 := hM1.thrown
    obtain ⟨s4, g1, g2, g4⟩ := m_ruled (rule := a) hV.1 hV.2.1 e11 h16 (show q < nS by omega) ha.2 h0.1 h0.2.1
    have hp := (rAll_p (rule := a) (q := q) (th := th) hV.1 hV.2.1).2.1 i hi
    refine ⟨if (rAll D N nH nB nS th a q).1 i < 24 then ((10 * (rAll D N nH nB nS th a q).1 i + (rAll D N nH nB nS th a q).2 i : Nat) : Int) else 240, s1, s4, ?_, ?_, fin_inv hV hM hC f1 (fun c h1 h2 => by rw [g4 c (by omega), mu_ne _ _ _ h1]) (fun f hf => by rw [g4 0 (by omega), mu_same, fu_ne _ _ hf])⟩
    · unfold fX8_ran fX3_told
      rw [c_isRule, b2_ok, if_neg (by rw [if_pos ha]; decide), c_isStorm hC.1, b2_ok, if_neg (by rw [if_pos hbb]; decide), c_isSort hC.1, b2_ok, if_neg (by rw [if_pos hc]; decide), p1, bo_ok]
      simp (disch := omega) only [pt_trial_0, pt_trial_1, rd_trial_hour, rd_trial_harbour, bo_ok, b2_ok, Int.toNat_natCast, (p2 i hi).1, (p2 i hi).2, nab, na_0, na_1, na_2, na_3, na_4, na_5, na_6, na_8, na_10, na_12, na_16, na_24, na_36, na_52, na_76, na_120, na_172, na_186, nb_0, nb_1, nb_2, nb_3, nb_4, nb_5, nb_6, nb_8, nb_10, nb_12, nb_16, nb_24, nb_36, nb_52, nb_76, nb_120, nb_172, nb_186, nm_2, nm_3, nm_4, nm_5, nm_6, nm_8, nm_10, nm_12, nm_16, nm_24, nm_36, nm_52, nm_76, nm_120, nm_172, nm_186, nn_2, nn_3, nn_4, nn_5, nn_6, nn_8, nn_10, nn_12, nn_16, nn_24, nn_36, nn_52, nn_76, nn_120, nn_172, nn_186]
      by_cases cu : (rAll D N nH nB nS th a q).1 i < 24
      · rw [if_neg (by omega), if_pos cu]
      · rw [if_pos (by omega), if_neg cu]
    · have hg := g2.2 i hi
      unfold fX9_ran
      rw [lt_ok, m_isRule, b2_ok, if_neg (by rw [if_pos ha]; decide), m_isStorm h0.1 hV.1, b2_ok, if_neg (by rw [if_pos hbb]; decide), m_isSort h0.1 hV.1, b2_ok, if_neg (by rw [if_pos hc]; decide), g1, bo_ok]
      have hg3 : rG' D N nH nB nS th a q i ≤ 4 := by
        have := ((rG_p (rule := a) (q := q) (th := th) hV.1 hV.2.1).2.1 i hi).2; omega
      simp (disch := omega) only [rd_m_hours, rd_m_goals, bo_ok, Int.toNat_natCast, hg.1, hg.2.1, nab, na_0, na_1, na_2, na_3, na_4, na_5, na_6, na_8, na_10, na_12, na_16, na_24, na_36, na_52, na_76, na_120, na_172, na_186, nb_0, nb_1, nb_2, nb_3, nb_4, nb_5, nb_6, nb_8, nb_10, nb_12, nb_16, nb_24, nb_36, nb_52, nb_76, nb_120, nb_172, nb_186, nm_2, nm_3, nm_4, nm_5, nm_6, nm_8, nm_10, nm_12, nm_16, nm_24, nm_36, nm_52, nm_76, nm_120, nm_172, nm_186, nn_2, nn_3, nn_4, nn_5, nn_6, nn_8, nn_10, nn_12, nn_16, nn_24, nn_36, nn_52, nn_76, nn_120, nn_172, nn_186]
      by_cases cu : (rAll D N nH nB nS th a q).1 i < 24
      · rw [if_neg (by omega), if_pos cu]
        have e : rG' D N nH nB nS th a q i = (rAll D N nH nB nS th a q).2 i := by
          unfold rG'
          by_cases c0 : a = 0
          · have e2 : rAll D N nH nB nS th a q = (uN N, gN N) := if_pos c0
            rw [if_pos c0, e2]
          · rw [if_neg c0, if_pos cu]
        rw [e]
      · rw [if_pos (by omega), if_neg cu]
  · refine ⟨-1, s, mu s 0 0 0, ?_, ?_, hI2⟩
    · unfold fX8_ran
      simp only [c_isRule, c_isStorm hC.1, c_isSort hC.1, b2_ok, if01_0]
      by_cases h1 : 0 ≤ a ∧ a ≤ 4
      · by_cases h2 : 0 ≤ b ∧ b < nS
        · by_cases h3 : 0 ≤ c ∧ c < nB
          · exact absurd ⟨h1, h2, h3⟩ hh
          · rw [if_neg (fun z => z h1), if_neg (fun z => z h2), if_pos h3]
        · rw [if_neg (fun z => z h1), if_pos h2]
      · rw [if_pos h1]
    · unfold fX9_ran
      simp only [lt_ok, m_isRule, m_isStorm hM.thrown.1 hV.1, m_isSort hM.thrown.1 hV.1, b2_ok, if01_0]
      by_cases h1 : 0 ≤ a ∧ a ≤ 4
      · by_cases h2 : 0 ≤ b ∧ b < nS
        · by_cases h3 : 0 ≤ c ∧ c < nB
          · exact absurd ⟨h1, h2, h3⟩ hh
          · rw [if_neg (fun z => z h1), if_neg (fun z => z h2), if_pos h3]
        · rw [if_neg (fun z => z h1), if_pos h2]
      · rw [if_pos h1]
end BY

section BB
variable {D : Nat → Int} {nH nB nS q th : Nat} {N K : Nat → Int} {kc : Nat} {T : Nat → Int} {tl : Nat} {s s1 s2 s' : Mem}
theorem m_run_6 (h : SeaOk D nH nB nS) (hM : SeaM s D) {i u j set : Nat} (hW : WyM s D nH nS i nS 0 0) (hj : j < nH) (hu : u ≤ 24) (hs : set < 16) : ∀ (m n q : Nat), q + m = nS → m < n → fX9_running_6 n u set j (w64 (sm set (fun q => D (52 + 6 * q) * wy D i q u j) q)) q s = some (rn D nS i set u j, s)
  | m, 0, _, _, hn => absurd hn (by omega)
  | 0, n + 1, q, e, _ => by
    have hb := h.1
    have e : q = nS := by omega
    subst e
    rw [fX9_running_6]
    simp (disch := omega) only [rd_m_sea, bo_ok, Int.reduceToNat, hM.at]
    rw [if_pos (by omega)]; rfl
  | m + 1, n + 1, q, e, hn => by
    have hb := h.1
    have ih := m_run_6 h hM hW hj hu hs m n (q + 1) (by omega) (by omega)
    have hw := hW q u j (by omega) (by omega) hj (by omega)
    rw [sm] at ih
    rw [fX9_running_6]
    simp (disch := omega) only [rd_m_sea, bo_ok, Int.reduceToNat, hM.at]
    rw [if_neg (by omega)]
    unfold fX9_running_51
    by_cases c : set.testBit q = true
    · rw [if_pos c] at ih
      rw [if_pos ((bit_1 (by omega) (by omega)).mpr c)]
      simp (disch := omega) only [nab, na_0, na_1, na_2, na_3, na_4, na_5, na_6, na_8, na_10, na_12, na_16, na_24, na_36, na_52, na_76, na_120, na_172, na_186, nb_0, nb_1, nb_2, nb_3, nb_4, nb_5, nb_6, nb_8, nb_10, nb_12, nb_16, nb_24, nb_36, nb_52, nb_76, nb_120, nb_172, nb_186, nm_2, nm_3, nm_4, nm_5, nm_6, nm_8, nm_10, nm_12, nm_16, nm_24, nm_36, nm_52, nm_76, nm_120, nm_172, nm_186, nn_2, nn_3, nn_4, nn_5, nn_6, nn_8, nn_10, nn_12, nn_16, nn_24, nn_36, nn_52, nn_76, nn_120, nn_172, nn_186, rd_m_ways, bo_ok, lt_ok, Int.toNat_natCast, hw]
      rw [w64_ar, w64_al]
      exact ih
    · rw [if_neg c] at ih
      rw [if_neg (fun z => c ((bit_1 (by omega) (by omega)).mp z)), Int.add_zero, w64_w, lt_ok, lt_ok, w32_s (by omega)]
      exact ih
theorem m_running (h : SeaOk D nH nB nS) (hM : SeaM s D) {i u j set : Nat} (hW : WyM s D nH nS i nS 0 0) (hj : j < nH) (hu : u ≤ 24) (hs : set < 16) : fX9_running u set j s = some (rn D nS i set u j, s) := m_run_6 h hM hW hj hu hs nS 600 0 (by omega) (by have := h.1; omega)
theorem sS_w {f : Nat → Int} {set t : Nat} : ∀ v, w64 (sS f D nS set t v) = sS f D nS set t v
  | 0 => by unfold sS; decide
  | v + 1 => by
    unfold sS
    split
    · exact sS_w v
    · exact w64_w _
theorem or_0 {a : Nat} (ha : a < 2147483648) : orI (a : Int) 0 = (a : Int) := by
  have := or_n (a := a) (b := 0) ha (by decide)
  rw [Nat.or_zero] at this
  exact this
theorem m_see_18 (h : SeaOk D nH nB nS) (hM : SeaM s D) {f : Nat → Int} {set t : Nat} {v acc : Int} (hs : set < 16) (ht : t < 24) (hB : ∀ k, 0 < k → k < 2 ^ nS → s 16 (16 * t + k) = f k) (K : Int → Int → Int → Int → Mem → Option (Int × Mem)) : ∀ (m n q : Nat), q + m = nS → m < n → fX9_seeing_18 K n t set acc v ((tel D set t v q : Nat) : Int) q s = fX9_seeing_94 K t set v acc (if tel D set t v nS = 0 then 0 else f (tel D set t v nS)) s
  | m, 0, _, _, hn => absurd hn (by omega)
  | 0, n + 1, q, e, _ => by
    have hb := h.1
    have e : q = nS := by omega
    subst e
    have h16 := tel_16 D set t v (m := q) (by omega)
    have hlt := tel_lt D set t v q
    rw [fX9_seeing_18]
    simp (disch := omega) only [rd_m_sea, bo_ok, Int.reduceToNat, hM.at]
    rw [if_pos (by omega)]
    by_cases c : tel D set t v q = 0
    · rw [if_pos (by omega), if_pos c]
    · rw [if_neg (by omega), if_neg c]
      simp (disch := omega) only [nab, na_0, na_1, na_2, na_3, na_4, na_5, na_6, na_8, na_10, na_12, na_16, na_24, na_36, na_52, na_76, na_120, na_172, na_186, nb_0, nb_1, nb_2, nb_3, nb_4, nb_5, nb_6, nb_8, nb_10, nb_12, nb_16, nb_24, nb_36, nb_52, nb_76, nb_120, nb_172, nb_186, nm_2, nm_3, nm_4, nm_5, nm_6, nm_8, nm_10, nm_12, nm_16, nm_24, nm_36, nm_52, nm_76, nm_120, nm_172, nm_186, nn_2, nn_3, nn_4, nn_5, nn_6, nn_8, nn_10, nn_12, nn_16, nn_24, nn_36, nn_52, nn_76, nn_120, nn_172, nn_186, rd_m_bests, bo_ok, Int.toNat_natCast, hB _ (Nat.pos_of_ne_zero c) hlt]
  | m + 1, n + 1, q, e, hn => by
    have hb := h.1
    have h16 := tel_16 D set t v (m := q) (by omega)
    have hp := pow_16 (m := q) (by omega)
    have ih := m_see_18 h hM (v := v) (acc := acc) hs ht hB K m n (q + 1) (by omega) (by omega)
    rw [tel] at ih
    rw [fX9_seeing_18]
    simp (disch := omega) only [rd_m_sea, bo_ok, Int.reduceToNat, hM.at]
    rw [if_neg (by omega), m_glass hM (by omega) ht, b2_ok]
    unfold fX9_seeing_62 fX9_seeing_63
    rw [or_0 (by omega), shl_1 (by omega), or_n (by omega) (by omega), lt_ok, lt_ok, lt_ok, w32_s (by omega)]
    by_cases c : set.testBit q = true
    · rw [if_pos ((bit_1 (by omega) (by omega)).mpr c)]
      by_cases c2 : D (76 + 24 * q + t) = v
      · rw [if_pos ⟨c, c2⟩] at ih
        rw [if_pos c2]; exact ih
      · rw [if_neg (fun z => c2 z.2)] at ih
        rw [if_neg c2]; exact ih
    · rw [if_neg (fun z => c z.1)] at ih
      rw [if_neg (fun z => c ((bit_1 (by omega) (by omega)).mp z))]
      exact ih
theorem m_see_5 (h : SeaOk D nH nB nS) (hM : SeaM s D) {f : Nat → Int} {set t : Nat} (hs : set < 16) (ht : t < 24) (hB : ∀ k, 0 < k → k < 2 ^ nS → s 16 (16 * t + k) = f k) : ∀ (m n v : Nat), v + m = 10 → m < n → fX9_seeing_5 n t set (sS f D nS set t v) v s = some (sS f D nS set t 10, s)
  | m, 0, _, _, hn => absurd hn (by omega)
  | 0, n + 1, v, e, _ => by
    have e : v = 10 := by omega
    subst e
    rw [fX9_seeing_5, if_pos (by omega)]
  | m + 1, n + 1, v, e, hn => by
    have hb := h.1
    have ih := m_see_5 h hM hs ht hB m n (v + 1) (by omega) (by omega)
    have key := m_see_18 h hM (v := (v : Int)) (acc := sS f D nS set t v) hs ht hB (fun p1 p2 p3 p5 s => fX9_seeing_5 n p1 p2 p3 p5 s) nS 600 0 (by omega) (by omega)
    rw [sS] at ih
    rw [fX9_seeing_5, if_neg (by omega)]
    refine (Eq.trans ?_ key).trans ?_
    · rfl
    · unfold fX9_seeing_94
      rw [lt_ok, lt_ok, w32_s (by omega)]
      by_cases c : tel D set t (v : Int) nS = 0
      · rw [if_pos c] at ih
        rw [if_pos c, Int.add_zero, sS_w]; exact ih
      · rw [if_neg c] at ih
        rw [if_neg c]; exact ih
theorem m_seeing (h : SeaOk D nH nB nS) (hM : SeaM s D) {f : Nat → Int} {set t : Nat} (hs : set < 16) (ht : t < 24) (hB : ∀ k, 0 < k → k < 2 ^ nS → s 16 (16 * t + k) = f k) : fX9_seeing t set s = some (sS f D nS set t 10, s) := m_see_5 h hM hs ht hB 10 600 0 (by omega) (by omega)
/-- rows above t are full, and row t below k -/
def BeM (s : Mem) (D : Nat → Int) (nH nS i t k : Nat) : Prop := (∀ t' k', t < t' → t' < 24 → 0 < k' → k' < 2 ^ nS → s 16 (16 * t' + k') = bF D nH nS i (24 - t') k') ∧ (∀ k', 0 < k' → k' < k → s 16 (16 * t + k') = bF D nH nS i (24 - t) k')
theorem m_staying (h : SeaOk D nH nB nS) (hM : SeaM s D) {i t set k : Nat} (hW : WyM s D nH nS i nS 0 0) (hs : set < 16) (ht : t < 24) (hB : BeM s D nH nS i t k) : fX9_staying t set s = some (stF D nH nS i (23 - t) set, s) := by
  have hb := h.1
  unfold fX9_staying stF
  by_cases c : t = 23
  · have e : fX9_running 24 set 0 s = some (rn D nS i set 24 0, s) := m_running h hM hW (u := 24) (j := 0) (by omega) (by omega) hs
    rw [if_pos (by omega), e, b2_ok, if_pos (by omega)]
  · have := m_seeing h hM (f := bF D nH nS i (24 - (t + 1))) (t := t + 1) hs (by omega) (fun k h1 h2 => hB.1 (t + 1) k (by omega) (by omega) h1 h2)
    rw [if_neg (by omega), w32_s (by omega), this, b2_ok, if_neg (by omega), show 24 - (23 - t) = t + 1 by omega, show 24 - (t + 1) = 23 - t by omega]
theorem lmax_e (a b : Int) : lmax a b = if b ≤ a then a else b := by
  unfold lmax
  by_cases c : b < a
  · rw [if_pos c, if_pos (by omega)]
  · rw [if_neg c]
    by_cases c2 : b ≤ a
    · rw [if_pos c2]; omega
    · rw [if_neg c2]
theorem m_lay_122 (h : SeaOk D nH nB nS) (hM : SeaM s D) {i t set : Nat} {x : Int} (hW : WyM s D nH nS i nS 0 0) (hs : set < 16) (ht : t < 24) (K91 : Int → Mem → Option Mem) (K97 : Int → Int → Mem → Option Mem) : ∀ (m n j : Nat), j + m = nH → m < n → fX9_laysAlone_122 K91 K97 n t set (mxJ x (fun j => rn D nS i set t j) j) j s = K97 t ((set + 1 : Nat) : Int) (mu s 16 (16 * t + set) (mxJ x (fun j => rn D nS i set t j) nH))
  | m, 0, _, _, hn => absurd hn (by omega)
  | 0, n + 1, j, e, _ => by
    have hb := h.1
    have e : j = nH := by omega
    subst e
    rw [fX9_laysAlone_122]
    simp (disch := omega) only [rd_m_sea, bo_ok, Int.reduceToNat, hM.at]
    rw [if_pos (by omega)]
    simp (disch := omega) only [nab, na_0, na_1, na_2, na_3, na_4, na_5, na_6, na_8, na_10, na_12, na_16, na_24, na_36, na_52, na_76, na_120, na_172, na_186, nb_0, nb_1, nb_2, nb_3, nb_4, nb_5, nb_6, nb_8, nb_10, nb_12, nb_16, nb_24, nb_36, nb_52, nb_76, nb_120, nb_172, nb_186, nm_2, nm_3, nm_4, nm_5, nm_6, nm_8, nm_10, nm_12, nm_16, nm_24, nm_36, nm_52, nm_76, nm_120, nm_172, nm_186, nn_2, nn_3, nn_4, nn_5, nn_6, nn_8, nn_10, nn_12, nn_16, nn_24, nn_36, nn_52, nn_76, nn_120, nn_172, nn_186, wr_m_bests, bo_ok, lt_ok, Int.toNat_natCast]
  | m + 1, n + 1, j, e, hn => by
    have hb := h.1
    have ih := m_lay_122 h hM (x := x) hW hs ht K91 K97 m n (j + 1) (by omega) (by omega)
    rw [mxJ, lmax_e] at ih
    rw [fX9_laysAlone_122]
    simp (disch := omega) only [rd_m_sea, bo_ok, Int.reduceToNat, hM.at]
    rw [if_neg (by omega), m_running h hM hW (by omega) (by omega) hs, b2_ok]
    unfold fX9_laysAlone_160
    rw [lt_ok, lt_ok, w32_s (by omega)]
    by_cases c : rn D nS i set t j ≤ mxJ x (fun j => rn D nS i set t j) j
    · rw [if_pos c] at ih
      rw [if_pos c]; exact ih
    · rw [if_neg c] at ih
      rw [if_neg c]; exact ih
theorem m_lay_97 (h : SeaOk D nH nB nS) {i t : Nat} (ht : t < 24) (K91 : Int → Mem → Option Mem) : ∀ (m n k : Nat) (s : Mem), k + m = 2 ^ nS → 0 < k → m < n → SeaM s D → WyM s D nH nS i nS 0 0 → BeM s D nH nS i t k → ∃ s', fX9_laysAlone_97 K91 n t k s = K91 ((t : Int) - 1) s' ∧ BeM s' D nH nS i t (2 ^ nS) ∧ (∀ c, c ≠ 16 → s' c = s c)
  | m, 0, _, _, _, _, hn, _, _, _ => absurd hn (by omega)
  | 0, n + 1, k, s, e, _, _, hM, hW, hB => by
    have hb := h.1
    have e : k = 2 ^ nS := by omega
    refine ⟨s, ?_, by rw [← e]; exact hB, fun _ _ => rfl⟩
    rw [fX9_laysAlone_97]
    simp (disch := omega) only [rd_m_sea, bo_ok, Int.reduceToNat, hM.at]
    rw [hb.2.2.1, shl_1 (by omega), if_pos (by omega), lt_ok, w32_id (by omega) (by omega)]; rfl
  | m + 1, n + 1, k, s, e, hk, hn, hM, hW, hB => by
    have hb := h.1
    have h2 : 2 ^ nS ≤ 2 ^ 4 := Nat.pow_le_pow_right (by decide) (by omega)
    have hk16 : k < 16 := by omega
    have key := m_lay_122 h hM (x := stF D nH nS i (23 - t) k) hW hk16 ht K91 (fun p2 p3 s => fX9_laysAlone_97 K91 n p2 p3 s) nH 600 0 (by omega) (by omega)
    have eb : mxJ (stF D nH nS i (23 - t) k) (fun j => rn D nS i k t j) nH = bF D nH nS i (24 - t) k := by
      rw [show 24 - t = 23 - t + 1 by omega, bF_s, show 23 - (23 - t) = t by omega]
    rw [eb] at key
    obtain ⟨s', q1, q2, q3⟩ := m_lay_97 h ht K91 m n (k + 1) (mu s 16 (16 * t + k) (bF D nH nS i (24 - t) k)) (by omega) (by omega) (by omega) (hM.fr (mu_ne _ _ _ (by decide))) (fun a b c d e f => by rw [mu_ne _ _ _ (by decide)]; exact hW a b c d e f) ⟨fun t' k' h1 h3 h4 h5 => by
      rw [mu_same, fu_ne _ _ (by omega)]; exact hB.1 t' k' h1 h3 h4 h5, fun k' h1 h3 => by
      rw [mu_same]
      by_cases c : k' = k
      · subst c; rw [fu_same]
      · rw [fu_ne _ _ (by omega)]; exact hB.2 k' h1 (by omega)⟩
    refine ⟨s', ?_, q2, fun c hc => by rw [q3 c hc, mu_ne _ _ _ hc]⟩
    rw [fX9_laysAlone_97]
    simp (disch := omega) only [rd_m_sea, bo_ok, Int.reduceToNat, hM.at]
    rw [hb.2.2.1, shl_1 (by omega), if_neg (by omega), m_staying h hM hW hk16 ht hB, b2_ok]
    exact key.trans q1
theorem m_lay_91 (h : SeaOk D nH nB nS) {i : Nat} : ∀ (m n : Nat) (s : Mem), m ≤ 24 → m < n → SeaM s D → WyM s D nH nS i nS 0 0 → (∀ t' k', m ≤ t' → t' < 24 → 0 < k' → k' < 2 ^ nS → s 16 (16 * t' + k') = bF D nH nS i (24 - t') k') → ∃ s', fX9_laysAlone_91 n ((m : Int) - 1) s = some s' ∧ (∀ t' k', t' < 24 → 0 < k' → k' < 2 ^ nS → s' 16 (16 * t' + k') = bF D nH nS i (24 - t') k') ∧ (∀ c, c ≠ 16 → s' c = s c)
  | m, 0, _, _, hn, _, _, _ => absurd hn (by omega)
  | 0, n + 1, s, _, _, hM, hW, hB => ⟨s, by rw [fX9_laysAlone_91, if_pos (by omega)], fun t' k' h1 h2 h3 => hB t' k' (by omega) h1 h2 h3, fun _ _ => rfl⟩
  | m + 1, n + 1, s, hm, hn, hM, hW, hB => by
    have hb := h.1
    have h2 : 2 ^ nS ≤ 2 ^ 4 := Nat.pow_le_pow_right (by decide) (by omega)
    have h3 : 0 < 2 ^ nS := Nat.two_pow_pos nS
    obtain ⟨s2, p1, p2, p3⟩ := m_lay_97 h (i := i) (show m < 24 by omega) (fun p2 s => fX9_laysAlone_91 n p2 s) (2 ^ nS - 1) 600 1 s (by omega) (by omega) (by omega) hM hW ⟨fun t' k' z1 z2 z3 z4 => hB t' k' (by omega) z2 z3 z4, fun k' z1 z2 => absurd z2 (by omega)⟩
    obtain ⟨s', q1, q2, q3⟩ := m_lay_91 h m n s2 (by omega) (by omega) (hM.fr (p3 _ (by decide))) (fun a b c d e f => by rw [p3 15 (by decide)]; exact hW a b c d e f) (fun t' k' z1 z2 z3 z4 => by
      by_cases c : t' = m
      · subst c; exact p2.2 k' z3 z4
      · exact p2.1 t' k' (by omega) z2 z3 z4)
    refine ⟨s', ?_, q2, fun c hc => by rw [q3 c hc, p3 c hc]⟩
    rw [fX9_laysAlone_91, if_neg (by omega), show ((m + 1 : Nat) : Int) - 1 = (m : Int) by omega]
    exact p1.trans q1
theorem m_laysAlone (h : SeaOk D nH nB nS) {i : Nat} (hi : i < nB) (hM : SeaM s D) : ∃ s', fX9_laysAlone i s = some s' ∧ SeaM s' D ∧ WyM s' D nH nS i nS 0 0 ∧ (∀ t' k', t' < 24 → 0 < k' → k' < 2 ^ nS → s' 16 (16 * t' + k') = bF D nH nS i (24 - t') k') ∧ (∀ c, c ≠ 15 → c ≠ 16 → s' c = s c) := by
  have hb := h.1
  obtain ⟨s2, p1, p2, p3⟩ := m_lay_2 h hi nS 600 0 s (by omega) (by omega) hM (fun q' u' j' _ _ _ z => by omega)
  obtain ⟨s', q1, q2, q3⟩ := m_lay_91 h (i := i) 24 600 s2 (by omega) (by omega) (hM.fr (p3 _ (by decide))) p2 (fun t' k' z1 z2 => absurd z2 (by omega))
  refine ⟨s', p1.trans q1, hM.fr (by rw [q3 _ (by decide), p3 _ (by decide)]), fun a b c d e f => by rw [q3 15 (by decide)]; exact p2 a b c d e f, q2, fun c h1 h2 => by rw [q3 c h2, p3 c h1]⟩
theorem call_alone (hI : Inv s) (a : Int) : ∃ r s1 s2, fX8_alone a s = some (r, s1) ∧ fX9_alone a s1 = some (r, s2) ∧ Inv s2 := by
  have hI2 := hI.read
  obtain ⟨D, nH, nB, nS, N, K, kc, T, tl, hV, hM, hC⟩ := hI
  have hb := hV.1.1
  have h16 := all_16 (nB := nS) (by omega)
  have h3 : 0 < 2 ^ nS := Nat.two_pow_pos nS
  by_cases ha : 0 ≤ a ∧ a < nB
  · obtain ⟨i, rfl⟩ := nat_of ha.1
    have hi : i < nB := by omega
    have h0 := hM.thrown
    obtain ⟨s4, g1, g2, g3, g4, g5⟩ := m_laysAlone hV.1 hi h0.1
    refine ⟨sS (bF D nH nS i 24) D nS (2 ^ nS - 1) 0 10, s, s4, ?_, ?_, fin_inv hV hM hC (fun _ _ => rfl) (fun c h1 h2 => by rw [g5 c (by omega) (by omega), mu_ne _ _ _ h1]) (fun f hf => by rw [g5 0 (by omega) (by omega), mu_same, fu_ne _ _ hf])⟩
    · have := c_bog hV.1 hC.1 hC.2.1 hi 23 30 (by omega) (by omega) (2 ^ nS - 1) h16
      have e : fBOG 30 i 0 ((2 ^ nS - 1 : Nat) : Int) s = some (sS (bF D nH nS i 24) D nS (2 ^ nS - 1) 0 10, s) := this
      unfold fX8_alone fX5_allStorms
      rw [c_isSort hC.1, b2_ok, if_neg (by rw [if_pos ha]; decide), b2_ok, hC.1.2.2.1, allst (by omega), e, b2_ok]
    · have := m_seeing hV.1 g2 (f := bF D nH nS i 24) (set := 2 ^ nS - 1) (t := 0) h16 (by omega) (fun k z1 z2 => g4 0 k (by omega) z1 z2)
      have e : fX9_seeing 0 ((2 ^ nS - 1 : Nat) : Int) s4 = some (sS (bF D nH nS i 24) D nS (2 ^ nS - 1) 0 10, s4) := this
      unfold fX9_alone
      rw [lt_ok, m_isSort h0.1 hV.1, b2_ok, if_neg (by rw [if_pos ha]; decide), g1, bo_ok]
      simp (disch := omega) only [rd_m_sea, bo_ok, Int.reduceToNat, g2.at]
      rw [hb.2.2.1, allst (by omega), e, b2_ok]
  · refine ⟨-9223372036854775808, s, mu s 0 0 0, ?_, ?_, hI2⟩
    · unfold fX8_alone
      rw [c_isSort hC.1, b2_ok, if_pos (by rw [if_neg ha])]
    · unfold fX9_alone
      rw [lt_ok, m_isSort hM.thrown.1 hV.1, b2_ok, if_pos (by rw [if_neg ha])]
theorem m_does_64 (h : SeaOk D nH nB nS) (hM : SeaM s D) {i t set : Nat} (hW : WyM s D nH nS i nS 0 0) (hs : set < 16) (ht : t < 24) : ∀ (m n j b : Nat) (x : Int), j + m = nH → m < n → fX9_does_64 n t set x b j s = some (((chJ (fun j => rn D nS i set t j) m j b x : Nat) : Int), s)
  | m, 0, _, _, _, _, hn => absurd hn (by omega)
  | 0, n + 1, j, b, x, e, _ => by
    have hb := h.1
    rw [fX9_does_64, chJ]
    simp (disch := omega) only [rd_m_sea, bo_ok, Int.reduceToNat, hM.at]
    rw [if_pos (by omega)]
  | m + 1, n + 1, j, b, x, e, hn => by
    have hb := h.1
    rw [fX9_does_64, chJ]
    simp (disch := omega) only [rd_m_sea, bo_ok, Int.reduceToNat, hM.at]
    rw [if_neg (by omega), m_running h hM hW (by omega) (by omega) hs, b2_ok, m_running h hM hW (by omega) (by omega) hs, b2_ok, lt_ok, lt_ok, lt_ok, w32_s (by omega), na_1 (by omega)]
    by_cases c : rn D nS i set t j ≤ x
    · rw [if_pos c, if_pos c]
      exact m_does_64 h hM hW hs ht m n (j + 1) b x (by omega) (by omega)
    · rw [if_neg c, if_neg c]
      exact m_does_64 h hM hW hs ht m n (j + 1) (1 + j) (rn D nS i set t j) (by omega) (by omega)
theorem call_does (hI : Inv s) (a b c : Int) : ∃ r s1 s2, fX8_does a b c s = some (r, s1) ∧ fX9_does a b c s1 = some (r, s2) ∧ Inv s2 := by
  have hI2 := hI.read
  obtain ⟨D, nH, nB, nS, N, K, kc, T, tl, hV, hM, hC⟩ := hI
  have hb := hV.1.1
  have h16 := all_16 (nB := nS) (by omega)
  have h3 : 0 < 2 ^ nS := Nat.two_pow_pos nS
  by_cases hh : (0 ≤ a ∧ a < nB) ∧ (0 ≤ b ∧ b ≤ 23) ∧ (1 ≤ c ∧ c ≤ ((2 ^ nS - 1 : Nat) : Int))
  · obtain ⟨ha, hbb, hc⟩ := hh
    obtain ⟨i, rfl⟩ := nat_of ha.1
    obtain ⟨t, rfl⟩ := nat_of hbb.1
    obtain ⟨set, rfl⟩ := nat_of (show 0 ≤ c by omega)
    have hi : i < nB := by omega
    have h0 := hM.thrown
    obtain ⟨s4, g1, g2, g3, g4, g5⟩ := m_laysAlone hV.1 hi h0.1
    refine ⟨((chJ (fun j => rn D nS i set t j) nH 0 0 (stF D nH nS i (23 - t) set) : Nat) : Int), s, s4, ?_, ?_, fin_inv hV hM hC (fun _ _ => rfl) (fun c h1 h2 => by rw [g5 c (by omega) (by omega), mu_ne _ _ _ h1]) (fun f hf => by rw [g5 0 (by omega) (by omega), mu_same, fu_ne _ _ hf])⟩
    · have := c_choice hV.1 hC.1 hC.2.1 hi (m := 23 - t) (set := set) (by omega) (by omega)
      rw [show 23 - (23 - t) = t by omega] at this
      unfold fX8_does fX5_allStorms
      rw [c_isSort hC.1, b2_ok, if_neg (by rw [if_pos ha]; decide), c_isHour, b2_ok, if_neg (by rw [if_pos hbb]; decide), if_neg (by omega), b2_ok, hC.1.2.2.1, allst (by omega), if_pos (by omega), this, b2_ok]
    · unfold fX9_does
      rw [lt_ok, m_isSort h0.1 hV.1, b2_ok, if_neg (by rw [if_pos ha]; decide), m_isIn, b2_ok, if_neg (by rw [if_pos hbb]; decide)]
      simp (disch := omega) only [rd_m_sea, bo_ok, Int.reduceToNat, h0.1.at]
      rw [hb.2.2.1, allst (by omega), m_isIn, b2_ok, if_neg (by rw [if_pos hc]; decide), g1, bo_ok, m_staying hV.1 g2 (k := 2 ^ nS) g3 (by omega) (by omega) ⟨fun t' k' _ z2 z3 z4 => g4 t' k' z2 z3 z4, fun k' z1 z2 => g4 t k' (by omega) z1 z2⟩, b2_ok]
      exact m_does_64 hV.1 g2 g3 (by omega) (by omega) nH 600 0 0 _ (by omega) (by omega)
  · refine ⟨-1, s, mu s 0 0 0, ?_, ?_, hI2⟩
    · unfold fX8_does fX5_allStorms
      simp only [c_isSort hC.1, c_isHour, b2_ok, if01_0]
      rw [hC.1.2.2.1, allst (by omega)]
      by_cases h1 : 0 ≤ a ∧ a < nB
      · rw [if_neg (fun z => z h1)]
        by_cases h2 : 0 ≤ b ∧ b ≤ 23
        · rw [if_neg (fun z => z h2)]
          by_cases h4 : c < 1
          · rw [if_pos h4]
          · rw [if_neg h4, if_neg (fun z => hh ⟨h1, h2, by omega, z⟩)]
        · rw [if_pos h2]
      · rw [if_pos h1]
    · unfold fX9_does
      simp only [lt_ok, m_isSort hM.thrown.1 hV.1, m_isIn, b2_ok, if01_0]
      by_cases h1 : 0 ≤ a ∧ a < nB
      · rw [if_neg (fun z => z h1)]
        by_cases h2 : 0 ≤ b ∧ b ≤ 23
        · rw [if_neg (fun z => z h2)]
          simp (disch := omega) only [rd_m_sea, bo_ok, Int.reduceToNat, hM.thrown.1.at]
          rw [hb.2.2.1, allst (by omega), if_pos (fun z => hh ⟨h1, h2, z⟩)]
        · rw [if_pos h2]
      · rw [if_pos h1]
end BB

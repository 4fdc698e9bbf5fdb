/-! ===== ALONE, the reference ===== -/
section WA
variable {D : Nat → Int} {nH nB nS q th : Nat} {N K : Nat → Int} {kc : Nat} {T : Nat → Int} {tl : Nat} {s s1 s2 s' : Mem}
theorem entG_ge (j q : Nat) : ∀ m t, t + m = 24 → t ≤ entG D j q m t
  | 0, t, e => by unfold entG; omega
  | m + 1, t, e => by
    unfold entG
    split
    · exact Nat.le_refl _
    · have := entG_ge j q m (t + 1) (by omega); omega
theorem entG_op (j q : Nat) : ∀ m t, t + m = 24 → entG D j q m t < 24 → opn D j q (entG D j q m t) = true
  | 0, t, e, h => by unfold entG at h; omega
  | m + 1, t, e, h => by
    unfold entG at h ⊢
    by_cases c : opn D j q t = true
    · rw [if_pos c]; exact c
    · rw [if_neg c] at h ⊢
      exact entG_op j q m (t + 1) (by omega) h
theorem entG_no (j q : Nat) : ∀ m t x, t + m = 24 → t ≤ x → x < entG D j q m t → opn D j q x = false
  | 0, t, x, e, h1, h2 => by
    have h3 : entG D j q 0 t = 24 := rfl
    omega
  | m + 1, t, x, e, h1, h2 => by
    unfold entG at h2
    by_cases c : opn D j q t = true
    · rw [if_pos c] at h2; omega
    · rw [if_neg c] at h2
      by_cases cx : x = t
      · subst cx; exact eq_false_of_ne_true c
      · exact entG_no j q m (t + 1) x (by omega) (by omega) h2
theorem entA_u {i j q u : Nat} (hu : u ≤ 24) : u ≤ entA D i j q u := by
  have ha := arr_le D (D (16 + 5 * i + 1)) (D (36 + 4 * i + j)) q hu
  have hg := entG_ge (D := D) j q (24 - arr D (D (16 + 5 * i + 1)) (D (36 + 4 * i + j)) q u) (arr D (D (16 + 5 * i + 1)) (D (36 + 4 * i + j)) q u) (by omega)
  unfold entA
  by_cases c : u < 24
  · have := arr_gt D (D (16 + 5 * i + 1)) (D (36 + 4 * i + j)) q c; omega
  · have : u = 24 := by omega
    subst this
    rw [arr_24] at hg ⊢
    exact hg
theorem way_test {i j q u t : Nat} {r : Int} (hu : u ≤ 24) (hr : (r = arr D (D (16 + 5 * i + 1)) (D (36 + 4 * i + j)) q u ∧ r ≤ 23) ∨ (23 < r ∧ arr D (D (16 + 5 * i + 1)) (D (36 + 4 * i + j)) q u = 24)) (ht : t < 24) (hte : t ≤ entA D i j q u) : (¬ ((t : Nat) : Int) < r ∧ opn D j q t = true) ↔ t = entA D i j q u := by
  have ha := arr_le D (D (16 + 5 * i + 1)) (D (36 + 4 * i + j)) q hu
  have g1 := entG_ge (D := D) j q (24 - arr D (D (16 + 5 * i + 1)) (D (36 + 4 * i + j)) q u) (arr D (D (16 + 5 * i + 1)) (D (36 + 4 * i + j)) q u) (by omega)
  have g2 := entG_op (D := D) j q (24 - arr D (D (16 + 5 * i + 1)) (D (36 + 4 * i + j)) q u) (arr D (D (16 + 5 * i + 1)) (D (36 + 4 * i + j)) q u) (by omega)
  have g3 := fun x => entG_no (D := D) j q (24 - arr D (D (16 + 5 * i + 1)) (D (36 + 4 * i + j)) q u) (arr D (D (16 + 5 * i + 1)) (D (36 + 4 * i + j)) q u) x (by omega)
  unfold entA at hte ⊢
  generalize entG D j q (24 - arr D (D (16 + 5 * i + 1)) (D (36 + 4 * i + j)) q u) (arr D (D (16 + 5 * i + 1)) (D (36 + 4 * i + j)) q u) = e at *
  generalize arr D (D (16 + 5 * i + 1)) (D (36 + 4 * i + j)) q u = A at *
  constructor
  · rintro ⟨h1, h2⟩
    rcases Nat.lt_or_ge t e with z | z
    · have := g3 t (by omega) z
      rw [h2] at this; exact absurd this (by decide)
    · omega
  · rintro rfl
    exact ⟨by omega, g2 ht⟩
theorem m_way_s (h : SeaOk D nH nB nS) (hM : SeaM s D) {i : Nat} (hi : i < nB) {q u j v its r : Int} : ∀ (m n t : Nat), t + m = 24 → m < n → fX9_wayOf_35 n i q u j v its r 1 t s = some (w64 (v - w64 (D (16 + 5 * i + 3) * w32 (1000000 - its))), s)
  | m, 0, _, _, hn => absurd hn (by omega)
  | 0, n + 1, t, e, _ => by
    have hb := h.1
    rw [fX9_wayOf_35, if_pos (by omega)]
    simp (disch := omega) only [nab, na_0, na_1, na_2, na_3, na_4, na_5, na_6, na_8, na_10, na_12, na_16, na_24, na_36, na_52, na_76, na_120, na_172, na_186, nb_0, nb_1, nb_2, nb_3, nb_4, nb_5, nb_6, nb_8, nb_10, nb_12, nb_16, nb_24, nb_36, nb_52, nb_76, nb_120, nb_172, nb_186, nm_2, nm_3, nm_4, nm_5, nm_6, nm_8, nm_10, nm_12, nm_16, nm_24, nm_36, nm_52, nm_76, nm_120, nm_172, nm_186, nn_2, nn_3, nn_4, nn_5, nn_6, nn_8, nn_10, nn_12, nn_16, nn_24, nn_36, nn_52, nn_76, nn_120, nn_172, nn_186, rd_m_sea, bo_ok, Int.toNat_natCast, hM.at]
  | m + 1, n + 1, t, e, hn => by
    rw [fX9_wayOf_35, if_neg (by omega), if_neg (by decide)]
    unfold fX9_wayOf_66 fX9_wayOf_71
    rw [if_neg (by decide), lt_ok, w32_s (by omega)]
    exact m_way_s h hM hi m n (t + 1) (by omega) (by omega)
theorem m_way_35 (h : SeaOk D nH nB nS) (hM : SeaM s D) {i j q u : Nat} {r : Int} (hi : i < nB) (hj : j < nH) (hq : q < nS) (hu : u ≤ 24) (hr : (r = arr D (D (16 + 5 * i + 1)) (D (36 + 4 * i + j)) q u ∧ r ≤ 23) ∨ (23 < r ∧ arr D (D (16 + 5 * i + 1)) (D (36 + 4 * i + j)) q u = 24)) : ∀ (m n t : Nat), t + m = 24 → m < n → t ≤ entA D i j q u → fX9_wayOf_35 n i q u j (fsh D i q (min t u)) (alv D i q t) r 0 t s = some (w64 (wy D i q u j), s)
  | m, 0, _, _, hn, _ => absurd hn (by omega)
  | 0, n + 1, t, e, _, hte => by
    have hb := h.1
    have he := entA_le D i j q hu
    have ha := alv_rg h (i := i) (q := q) (by omega) (by omega) t
    have e : t = 24 := by omega
    subst e
    rw [fX9_wayOf_35, if_pos (by omega)]
    simp (disch := omega) only [nab, na_0, na_1, na_2, na_3, na_4, na_5, na_6, na_8, na_10, na_12, na_16, na_24, na_36, na_52, na_76, na_120, na_172, na_186, nb_0, nb_1, nb_2, nb_3, nb_4, nb_5, nb_6, nb_8, nb_10, nb_12, nb_16, nb_24, nb_36, nb_52, nb_76, nb_120, nb_172, nb_186, nm_2, nm_3, nm_4, nm_5, nm_6, nm_8, nm_10, nm_12, nm_16, nm_24, nm_36, nm_52, nm_76, nm_120, nm_172, nm_186, nn_2, nn_3, nn_4, nn_5, nn_6, nn_8, nn_10, nn_12, nn_16, nn_24, nn_36, nn_52, nn_76, nn_120, nn_172, nn_186, rd_m_sea, bo_ok, Int.toNat_natCast, hM.at]
    unfold wy
    rw [show min 24 u = u by omega, show entA D i j q u = 24 by omega, w32_id (by omega) (by omega), w64_sr]
  | m + 1, n + 1, t, e, hn, hte => by
    have hb := h.1
    have he := entA_le D i j q hu
    have ht := way_test hu hr (show t < 24 by omega) hte
    have ha := alv_rg h (i := i) (q := q) (by omega) (by omega) t
    have heu := entA_u (D := D) (i := i) (j := j) (q := q) hu
    by_cases c : t = entA D i j q u
    · have ht2 := ht.mpr c
      rw [fX9_wayOf_35, if_neg (by omega), if_pos rfl, if_neg ht2.1, m_isOpen hM h (by omega) (by omega) (by omega), b2_ok, if_neg (by rw [if_pos ht2.2]; decide)]
      unfold fX9_wayOf_66 fX9_wayOf_71
      rw [if_neg (by decide), lt_ok, w32_s (by omega)]
      refine (m_way_s h hM hi m n (t + 1) (by omega) (by omega)).trans ?_
      unfold wy
      rw [show min t u = u by omega, ← c, w32_id (by omega) (by omega), w64_sr]
    · have hnx : fX9_wayOf_35 (n + 1) i q u j (fsh D i q (min t u)) (alv D i q t) r 0 t s = fX9_wayOf_70 (fun p1 p2 p3 p4 p5 p7 p8 p9 p10 s => fX9_wayOf_35 n p1 p2 p3 p4 p5 p7 p8 p9 p10 s) i q u j (fsh D i q (min t u)) (alv D i q t) r t s := by
        rw [fX9_wayOf_35, if_neg (by omega), if_pos rfl]
        by_cases c1 : ((t : Nat) : Int) < r
        · rw [if_pos c1]
        · rw [if_neg c1, m_isOpen hM h (by omega) (by omega) (by omega), b2_ok]
          have : ¬ opn D j q t = true := fun z => c (ht.mp ⟨c1, z⟩)
          rw [if_pos (by rw [if_neg this])]
      have ih := m_way_35 h hM hi hj hq hu hr m n (t + 1) (by omega) (by omega) (by omega)
      have r2 := alv_pr h (i := i) (q := q) (by omega) (by omega) t
      have r3 := rsk_rg h (i := i) (q := q) (t := t) (by omega) (by omega)
      have f1 := fsh_rg h (i := i) (q := q) (by omega) (by omega) t
      have f2 := fsh_pr h (i := i) (q := q) (by omega) (by omega) t
      have f3 := fsh_rg h (i := i) (q := q) (by omega) (by omega) u
      have k108 : ∀ (x y z : Int), w64 (x + y) = z → fX9_wayOf_108 (fun p1 p2 p3 p4 p5 p7 p8 p9 p10 s => fX9_wayOf_35 n p1 p2 p3 p4 p5 p7 p8 p9 p10 s) i q u j (alv D i q t) r 0 t x y s = fX9_wayOf_35 n i q u j z (alv D i q (t + 1)) r 0 ((t + 1 : Nat) : Int) s := fun x y z hz => by
        unfold fX9_wayOf_108
        rw [lt_ok, hz, m_riskOf hM h (by omega) (by omega) (by omega), b2_ok, w32_id (x := 1000 - rsk D i q t) (by omega) (by omega), w64_id (x := alv D i q t * (1000 - rsk D i q t)) (by omega) (by omega), tdiv_nn r2.1, w64_id (by omega) (by omega), w32_id (by omega) (by omega), lt_ok, lt_ok, w32_s (by omega)]
        rfl
      rw [hnx]
      unfold fX9_wayOf_70 fX9_wayOf_71
      rw [if_pos rfl]
      by_cases cu : u ≤ t
      · rw [if_pos (by omega), k108 _ _ (fsh D i q (min (t + 1) u)) (by rw [show min t u = u by omega, show min (t + 1) u = u by omega, Int.add_zero, w64_id (by omega) (by omega)])]
        exact ih
      · rw [if_neg (by omega)]
        simp (disch := omega) only [nab, na_0, na_1, na_2, na_3, na_4, na_5, na_6, na_8, na_10, na_12, na_16, na_24, na_36, na_52, na_76, na_120, na_172, na_186, nb_0, nb_1, nb_2, nb_3, nb_4, nb_5, nb_6, nb_8, nb_10, nb_12, nb_16, nb_24, nb_36, nb_52, nb_76, nb_120, nb_172, nb_186, nm_2, nm_3, nm_4, nm_5, nm_6, nm_8, nm_10, nm_12, nm_16, nm_24, nm_36, nm_52, nm_76, nm_120, nm_172, nm_186, nn_2, nn_3, nn_4, nn_5, nn_6, nn_8, nn_10, nn_12, nn_16, nn_24, nn_36, nn_52, nn_76, nn_120, nn_172, nn_186, rd_m_sea, bo_ok, Int.toNat_natCast, hM.at]
        rw [k108 _ _ (fsh D i q (min (t + 1) u)) (by
          rw [show min t u = t by omega, show min (t + 1) u = t + 1 by omega, w64_ar, fsh, w64_id (by omega) (by omega)])]
        exact ih
theorem m_wayOf (h : SeaOk D nH nB nS) (hM : SeaM s D) {i j q u : Nat} (hi : i < nB) (hj : j < nH) (hq : q < nS) (hu : u ≤ 24) : fX9_wayOf i q u j s = some (w64 (wy D i q u j), s) := by
  have key : ∀ r : Int, ((r = arr D (D (16 + 5 * i + 1)) (D (36 + 4 * i + j)) q u ∧ r ≤ 23) ∨ (23 < r ∧ arr D (D (16 + 5 * i + 1)) (D (36 + 4 * i + j)) q u = 24)) → fX9_wayOf_27 i q u j 0 1000000 r s = some (w64 (wy D i q u j), s) := fun r hr => by
    have := m_way_35 h hM hi hj hq hu hr 24 600 0 (by omega) (by omega) (by omega)
    rw [show min 0 u = 0 by omega] at this
    exact this
  unfold fX9_wayOf
  by_cases c : u = 24
  · subst c
    rw [if_pos (by omega)]
    exact key 99 (Or.inr ⟨by decide, arr_24 _ _ _ _⟩)
  · obtain ⟨r, r1, r2⟩ := m_reachOf hM h hi hj hq hu
    rw [if_neg (by omega), r1, b2_ok]
    exact key r r2
/-! the table of ways -/
def WyM (s : Mem) (D : Nat → Int) (nH nS i q u j : Nat) : Prop := ∀ q' u' j', q' < nS → u' < 25 → j' < nH → (q' < q ∨ (q' = q ∧ (u' < u ∨ (u' = u ∧ j' < j)))) → s 15 (120 * q' + 4 * u' + j') = w64 (D (52 + 6 * q') * wy D i q' u' j')
theorem m_lay_25 (h : SeaOk D nH nB nS) {i q u : Nat} (hi : i < nB) (hq : q < nS) (hu : u < 25) (K2 : Int → Int → Mem → Option Mem) (K16 : Int → Int → Int → Mem → Option Mem) : ∀ (m n j : Nat) (s : Mem), j + m = nH → m < n → SeaM s D → WyM s D nH nS i q u j → ∃ s', fX9_laysAlone_25 K2 K16 n i q u j s = K16 i q ((u + 1 : Nat) : Int) s' ∧ WyM s' D nH nS i q (u + 1) 0 ∧ (∀ c, c ≠ 15 → s' c = s c)
  | m, 0, _, _, _, hn, _, _ => absurd hn (by omega)
  | 0, n + 1, j, s, e, _, hM, hW => by
    have hb := h.1
    refine ⟨s, ?_, fun q' u' j' h1 h2 h3 h4 => hW q' u' j' h1 h2 h3 (by omega), fun _ _ => rfl⟩
    rw [fX9_laysAlone_25]
    simp (disch := omega) only [rd_m_sea, bo_ok, Int.reduceToNat, hM.at]
    rw [if_pos (by omega), lt_ok, w32_s (by omega)]
  | m + 1, n + 1, j, s, e, hn, hM, hW => by
    have hb := h.1
    obtain ⟨s', q1, q2, q3⟩ := m_lay_25 h hi hq hu K2 K16 m n (j + 1) (mu s 15 (120 * q + 4 * u + j) (w64 (D (52 + 6 * q) * wy D i q u j))) (by omega) (by omega) (hM.fr (mu_ne _ _ _ (by decide))) (fun q' u' j' h1 h2 h3 h4 => by
      rw [mu_same]
      by_cases c : 120 * q' + 4 * u' + j' = 120 * q + 4 * u + j
      · have e1 : q' = q := by omega
        have e2 : u' = u := by omega
        have e3 : j' = j := by omega
        subst e1; subst e2; subst e3
        rw [fu_same]
      · rw [fu_ne _ _ c]
        exact hW q' u' j' h1 h2 h3 (by omega))
    refine ⟨s', ?_, q2, fun c hc => by rw [q3 c hc, mu_ne _ _ _ hc]⟩
    rw [fX9_laysAlone_25]
    simp (disch := omega) only [rd_m_sea, bo_ok, Int.reduceToNat, hM.at]
    rw [if_neg (by omega), m_tenths hM (by omega), b2_ok, m_wayOf h hM hi (by omega) hq (by omega), b2_ok, w64_mr]
    simp (disch := omega) only [nab, na_0, na_1, na_2, na_3, na_4, na_5, na_6, na_8, na_10, na_12, na_16, na_24, na_36, na_52, na_76, na_120, na_172, na_186, nb_0, nb_1, nb_2, nb_3, nb_4, nb_5, nb_6, nb_8, nb_10, nb_12, nb_16, nb_24, nb_36, nb_52, nb_76, nb_120, nb_172, nb_186, nm_2, nm_3, nm_4, nm_5, nm_6, nm_8, nm_10, nm_12, nm_16, nm_24, nm_36, nm_52, nm_76, nm_120, nm_172, nm_186, nn_2, nn_3, nn_4, nn_5, nn_6, nn_8, nn_10, nn_12, nn_16, nn_24, nn_36, nn_52, nn_76, nn_120, nn_172, nn_186, wr_m_ways, bo_ok, lt_ok, Int.toNat_natCast]
    exact q1
theorem m_lay_16 (h : SeaOk D nH nB nS) {i q : Nat} (hi : i < nB) (hq : q < nS) (K2 : Int → Int → Mem → Option Mem) : ∀ (m n u : Nat) (s : Mem), u + m = 25 → m < n → SeaM s D → WyM s D nH nS i q u 0 → ∃ s', fX9_laysAlone_16 K2 n i q u s = K2 i ((q + 1 : Nat) : Int) s' ∧ WyM s' D nH nS i (q + 1) 0 0 ∧ (∀ c, c ≠ 15 → s' c = s c)
  | m, 0, _, _, _, hn, _, _ => absurd hn (by omega)
  | 0, n + 1, u, s, e, _, hM, hW => by
    have hb := h.1
    refine ⟨s, ?_, fun q' u' j' h1 h2 h3 h4 => hW q' u' j' h1 h2 h3 (by omega), fun _ _ => rfl⟩
    rw [fX9_laysAlone_16, if_pos (by omega), lt_ok, w32_s (by omega)]
  | m + 1, n + 1, u, s, e, hn, hM, hW => by
    have hb := h.1
    obtain ⟨s2, p1, p2, p3⟩ := m_lay_25 h hi hq (show u < 25 by omega) K2 (fun p1 p2 p3 s => fX9_laysAlone_16 K2 n p1 p2 p3 s) nH 600 0 s (by omega) (by omega) hM hW
    obtain ⟨s', q1, q2, q3⟩ := m_lay_16 h hi hq K2 m n (u + 1) s2 (by omega) (by omega) (hM.fr (p3 _ (by decide))) p2
    refine ⟨s', ?_, q2, fun c hc => by rw [q3 c hc, p3 c hc]⟩
    rw [fX9_laysAlone_16, if_neg (by omega)]
    exact p1.trans q1
theorem m_lay_2 (h : SeaOk D nH nB nS) {i : Nat} (hi : i < nB) : ∀ (m n q : Nat) (s : Mem), q + m = nS → m < n → SeaM s D → WyM s D nH nS i q 0 0 → ∃ s', fX9_laysAlone_2 n i q s = fX9_laysAlone_91 600 23 s' ∧ WyM s' D nH nS i nS 0 0 ∧ (∀ c, c ≠ 15 → s' c = s c)
  | m, 0, _, _, _, hn, _, _ => absurd hn (by omega)
  | 0, n + 1, q, s, e, _, hM, hW => by
    have hb := h.1
    have e : q = nS := by omega
    subst e
    refine ⟨s, ?_, hW, fun _ _ => rfl⟩
    rw [fX9_laysAlone_2]
    simp (disch := omega) only [rd_m_sea, bo_ok, Int.reduceToNat, hM.at]
    rw [if_pos (by omega)]
  | m + 1, n + 1, q, s, e, hn, hM, hW => by
    have hb := h.1
    obtain ⟨s2, p1, p2, p3⟩ := m_lay_16 h hi (show q < nS by omega) (fun p1 p2 s => fX9_laysAlone_2 n p1 p2 s) 25 600 0 s (by omega) (by omega) hM hW
    obtain ⟨s', q1, q2, q3⟩ := m_lay_2 h hi m n (q + 1) s2 (by omega) (by omega) (hM.fr (p3 _ (by decide))) p2
    refine ⟨s', ?_, q2, fun c hc => by rw [q3 c hc, p3 c hc]⟩
    rw [fX9_laysAlone_2]
    simp (disch := omega) only [rd_m_sea, bo_ok, Int.reduceToNat, hM.at]
    rw [if_neg (by omega)]
    exact p1.trans q1
end WA

/-! ===== the class reckons its tables ===== -/
section RK
variable {D : Nat → Int} {nH nB nS : Nat} {s s' s0 : Mem}
theorem SeaC.of2 (h : SeaC s D nH nB nS) (hb : nH ≤ 4 ∧ nB ≤ 4 ∧ nS ≤ 4) (hf : ∀ k, 21 ≤ k → k < 48 → s' k = s k) : SeaC s' D nH nB nS := by
  obtain ⟨h1, h2, h3, h4, h5, h6, h7, h8, h9, h10⟩ := h
  refine ⟨?_, ?_, ?_, ?_, fun j f a b => ?_, fun j f a b => ?_, fun j f a b => ?_, fun j f a b => ?_, fun j f a b => ?_, fun x a => ?_⟩ <;> rw [hf _ (by omega) (by omega)]
  · exact h1
  · exact h2
  · exact h3
  · exact h4
  · exact h5 j f a b
  · exact h6 j f a b
  · exact h7 j f a b
  · exact h8 j f a b
  · exact h9 j f a b
  · exact h10 x a
theorem c_strengthOf (hC : SeaC s D nH nB nS) (h : SeaOk D nH nB nS) {q t : Nat} (hq : q < nS) (ht : t < 24) : fX5_strengthOf (33 + q) t s = some (str D q t, s) := by
  have hb := h.1
  have h1 := h.2.2.2.2.1 q (by omega)
  have e1 := hC.q 1 hq (by omega)
  have e2 := hC.q 2 hq (by omega)
  have e3 := hC.q 3 hq (by omega)
  have e4 := hC.q 4 hq (by omega)
  unfold fX5_strengthOf
  simp (disch := omega) only [rd_sea_storms, bo_ok, Int.reduceToNat, e1, e2, e3, e4]
  unfold str
  by_cases c1 : (t : Int) < D (52 + 6 * q + 1)
  · rw [if_pos c1, if_pos (Or.inl c1)]
  · rw [if_neg c1, w32_id (x := D (52 + 6 * q + 1) + D (52 + 6 * q + 4)) (by omega) (by omega)]
    by_cases c2 : (t : Int) < D (52 + 6 * q + 1) + D (52 + 6 * q + 4)
    · have hp : 0 ≤ D (52 + 6 * q + 2) * ((t : Int) - D (52 + 6 * q + 1) + 1) := Int.mul_nonneg (by omega) (by omega)
      have hp2 := Int.mul_le_mul (show D (52 + 6 * q + 2) ≤ 9 by omega) (show (t : Int) - D (52 + 6 * q + 1) + 1 ≤ 24 by omega) (by omega) (by omega)
      rw [if_pos c2, if_neg (by omega), w32_id (x := (t : Int) - D (52 + 6 * q + 1)) (by omega) (by omega), w32_id (x := (t : Int) - D (52 + 6 * q + 1) + 1) (by omega) (by omega), w32_id (x := D (52 + 6 * q + 2) * ((t : Int) - D (52 + 6 * q + 1) + 1)) (by omega) (by omega)]
    · rw [if_neg c2, if_pos (Or.inr (by omega))]
theorem c_open_34 (hC : SeaC s D nH nB nS) (h : SeaOk D nH nB nS) {j q : Nat} (hj : j < nH) (hq : q < nS) (hs : ∀ t, t < 24 → s (49 + q) t = str D q t) : ∀ (m n t : Nat), t + m = 24 → m < n → fX5_openHoursOf_34 n j q (if (D (0 + 4 * j + 3)).toNat.testBit (D (52 + 6 * q + 5)).toNat = false then 1 else 0) ((opB D j q t : Nat) : Int) t s = some (((opB D j q 24 : Nat) : Int), s)
  | 0, n + 1, t, e, _ => by
    have e : t = 24 := by omega
    subst e
    rw [fX5_openHoursOf_34, if_pos (by omega)]
  | m + 1, n + 1, t, e, hn => by
    have hb := h.1
    have e2 := hC.h2 hj
    have ht := hs t (by omega)
    have ih := c_open_34 hC h hj hq hs m n (t + 1) (by omega) (by omega)
    have hlt : opB D j q t < 16777216 := Nat.lt_of_lt_of_le (opB_lt D j q t) (show 2 ^ t ≤ 2 ^ 24 from Nat.pow_le_pow_right (by decide) (by omega))
    have h2t : 2 ^ t < 16777216 := Nat.lt_of_lt_of_le (Nat.pow_lt_pow_right (by decide) (show t < 24 by omega)) (by decide)
    have eo : orI ((opB D j q t : Nat) : Int) (shlI 1 (t : Int)) = ((opB D j q t ||| 2 ^ t : Nat) : Int) := by
      rw [show (1 : Int) = ((1 : Nat) : Int) from rfl, shl_n (by omega) (by omega), Nat.one_mul, or_n (by omega) (by omega)]
    have go : opn D j q t = true → fX5_openHoursOf_65 (fun p1 p2 p3 p4 p5 s => fX5_openHoursOf_34 n p1 p2 p3 p4 p5 s) j q (if (D (0 + 4 * j + 3)).toNat.testBit (D (52 + 6 * q + 5)).toNat = false then 1 else 0) ((opB D j q t : Nat) : Int) t s = some (((opB D j q 24 : Nat) : Int), s) := by
      intro ho
      unfold fX5_openHoursOf_65
      rw [lt_ok, lt_ok, eo, w32_s (by omega)]
      rw [opB, if_pos ho] at ih
      exact ih
    rw [fX5_openHoursOf_34, if_neg (by omega)]
    by_cases c1 : (D (0 + 4 * j + 3)).toNat.testBit (D (52 + 6 * q + 5)).toNat = false
    · have ho : opn D j q t = true := by unfold opn; rw [decide_eq_true c1, Bool.or_true]
      rw [if_pos c1] at go ⊢
      rw [if_neg (by decide)]
      exact go ho
    · rw [if_neg c1] at go ih ⊢
      rw [if_pos rfl]
      simp (disch := omega) only [rdG_sea_strength, rd_sea_strength, rdG_sea_harbours, rd_sea_harbours, bo_ok, Int.toNat_natCast, Int.reduceToNat, ht, e2, lt_ok]
      by_cases c2 : D (0 + 4 * j + 2) ≤ str D q t
      · have ho : opn D j q t = false := by
          unfold opn
          rw [decide_eq_false (by omega), decide_eq_false c1]; rfl
        rw [opB, if_neg (by rw [ho]; decide)] at ih
        rw [if_pos c2, w32_s (by omega)]
        exact ih
      · have ho : opn D j q t = true := by
          unfold opn
          rw [decide_eq_true (by omega)]; rfl
        rw [if_neg c2]
        exact go ho
  | _, 0, _, _, hn => absurd hn (by omega)
theorem c_openHoursOf (hC : SeaC s D nH nB nS) (h : SeaOk D nH nB nS) {j q : Nat} (hj : j < nH) (hq : q < nS) (hs : ∀ t, t < 24 → s (49 + q) t = str D q t) : fX5_openHoursOf j q s = some (((opB D j q 24 : Nat) : Int), s) := by
  have hb := h.1
  have h1 := h.2.2.2.2.1 q (by omega)
  have h2 := h.2.1 j (by omega)
  have e3 := hC.h3 hj
  have e5 := hC.q 5 hq (by omega)
  have key := c_open_34 hC h hj hq hs 24 600 0 (by omega) (by omega)
  unfold fX5_openHoursOf fX5_openHoursOf_27
  simp (disch := omega) only [rd_sea_storms, rdG_sea_storms, rdG_sea_harbours, rd_sea_harbours, bo_ok, Int.reduceToNat, Int.toNat_natCast, e3, e5]
  obtain ⟨a, ea⟩ := nat_of (show 0 ≤ D (0 + 4 * j + 3) by omega)
  obtain ⟨b, eb⟩ := nat_of (show 0 ≤ D (52 + 6 * q + 5) by omega)
  rw [ea, eb, Int.toNat_natCast, Int.toNat_natCast] at key
  rw [ea, eb]
  by_cases c : a.testBit b = false
  · rw [if_pos c] at key
    rw [if_pos ((bit_0 (by omega) (by omega)).mpr c)]
    exact key
  · rw [if_neg c] at key
    rw [if_neg (fun z => c ((bit_0 (by omega) (by omega)).mp z))]
    exact key
theorem c_bank_36 (h : SeaOk D nH nB nS) {i q : Nat} (hi : i < nB) (hq : q < nS) : ∀ (m n t : Nat) (s : Mem), t + m = 24 → m < n → SeaC s D nH nB nS → (∀ t, t < 24 → s (49 + q) t = str D q t) → (∀ u, u ≤ t → s (59 + (q * 4 + i)) u = alv D i q u ∧ s (76 + (q * 4 + i)) u = fsh D i q u) → ∃ s', fX5_reckonBank_36 n q i (59 + (q * 4 + i)) (76 + (q * 4 + i)) t s = some s' ∧ (∀ u, u ≤ 24 → s' (59 + (q * 4 + i)) u = alv D i q u ∧ s' (76 + (q * 4 + i)) u = fsh D i q u) ∧ (∀ c, c ≠ 59 + (q * 4 + i) → c ≠ 76 + (q * 4 + i) → s' c = s c)
  | 0, n + 1, t, s, e, _, _, _, h2 => ⟨s, by rw [fX5_reckonBank_36, if_pos (by omega)], fun u hu => h2 u (by omega), fun _ _ _ => rfl⟩
  | m + 1, n + 1, t, s, e, hn, hC, hs, h2 => by
    have hb := h.1
    have r1 := alv_rg h (i := i) (q := q) (by omega) (by omega) t
    have r2 := alv_pr h (i := i) (q := q) (by omega) (by omega) t
    have r3 := fsh_pr h (i := i) (q := q) (by omega) (by omega) t
    have r4 := fsh_rg h (i := i) (q := q) (by omega) (by omega) t
    have r5 := rsk_rg h (i := i) (q := q) (t := t) (by omega) (by omega)
    have e2 := hC.b2 hi
    have ht := h2 t (by omega)
    have hC6 : ∀ x, SeaC (mu s (76 + (q * 4 + i)) (t + 1) x) D nH nB nS := fun x => hC.of2 h.b (fun k a b => mu_ne _ _ _ (by omega))
    have er := fun x => c_riskOf (hC6 x) h hi hq (t := t) (by omega) (by rw [mu_ne _ _ _ (by omega)]; exact hs t (by omega))
    have ea : ∀ x, mu s (76 + (q * 4 + i)) (t + 1) x (59 + (q * 4 + i)) = s (59 + (q * 4 + i)) := fun x => mu_ne _ _ _ (by omega)
    have r6 : 0 ≤ alv D i q t * (1000 - rsk D i q t) / 1000 ∧ alv D i q t * (1000 - rsk D i q t) / 1000 ≤ 1000000 := by omega
    have key : fX5_reckonBank_36 (n + 1) q i (59 + (q * 4 + i)) (76 + (q * 4 + i)) t s = fX5_reckonBank_36 n q i (59 + (q * 4 + i)) (76 + (q * 4 + i)) ((t + 1 : Nat) : Int) (mu (mu s (76 + (q * 4 + i)) (t + 1) (fsh D i q (t + 1))) (59 + (q * 4 + i)) (t + 1) (alv D i q (t + 1))) := by
      rw [fX5_reckonBank_36, if_neg (by omega)]
      simp (disch := omega) only [w32_s, rd_sea_fished, rd_sea_alive, rdG_sea_sorts, rd_sea_sorts, wr_sea_fished, wr_sea_alive, bo_ok, b2_ok, lt_ok, Int.toNat_natCast, Int.reduceToNat, e2, ht.1, ht.2, er, ea]
      rw [w64_id (x := D (16 + 5 * i + 2) * alv D i q t) (by omega) (by omega), w64_id (x := fsh D i q t + _) (by omega) (by omega), w32_id (x := 1000 - rsk D i q t) (by omega) (by omega), w32_id (x := alv D i q t * (1000 - rsk D i q t)) (by omega) (by omega), tdiv_nn r2.1, w32_id (x := alv D i q t * (1000 - rsk D i q t) / 1000) (by omega) (by omega)]
      rfl
    obtain ⟨s', q1, q2, q3⟩ := c_bank_36 h hi hq m n (t + 1) (mu (mu s (76 + (q * 4 + i)) (t + 1) (fsh D i q (t + 1))) (59 + (q * 4 + i)) (t + 1) (alv D i q (t + 1))) (by omega) (by omega) ((hC6 _).of2 h.b (fun k a b => mu_ne _ _ _ (by omega))) (fun u hu => by rw [mu_ne _ _ _ (by omega), mu_ne _ _ _ (by omega)]; exact hs u hu) (fun u hu => by
      rw [mu_same, mu_ne _ _ _ (show 76 + (q * 4 + i) ≠ 59 + (q * 4 + i) by omega), mu_same]
      by_cases c : u = t + 1
      · subst c; rw [fu_same, fu_same]; exact ⟨rfl, rfl⟩
      · rw [fu_ne _ _ c, fu_ne _ _ c, mu_ne _ _ _ (show 59 + (q * 4 + i) ≠ 76 + (q * 4 + i) by omega)]; exact h2 u (by omega))
    exact ⟨s', key.trans q1, q2, fun c h1 h3 => by rw [q3 c h1 h3, mu_ne _ _ _ h1, mu_ne _ _ _ h3]⟩
  | _, 0, _, _, _, hn, _, _, _ => absurd hn (by omega)
theorem c_bank (hC : SeaC s D nH nB nS) (h : SeaOk D nH nB nS) {i q : Nat} (hi : i < nB) (hq : q < nS) (hs : ∀ t, t < 24 → s (49 + q) t = str D q t) : ∃ s', fX5_reckonBank q i s = some s' ∧ (∀ u, u ≤ 24 → s' (59 + (q * 4 + i)) u = alv D i q u ∧ s' (76 + (q * 4 + i)) u = fsh D i q u) ∧ (∀ c, c ≠ 59 + (q * 4 + i) → c ≠ 76 + (q * 4 + i) → s' c = s c) := by
  have hb := h.1
  obtain ⟨s', q1, q2, q3⟩ := c_bank_36 h hi hq 24 600 0 (mu (mu s (59 + (q * 4 + i)) 0 1000000) (76 + (q * 4 + i)) 0 0) (by omega) (by omega) (hC.of2 h.b (fun k a b => by rw [mu_ne _ _ _ (by omega), mu_ne _ _ _ (by omega)])) (fun u hu => by rw [mu_ne _ _ _ (by omega), mu_ne _ _ _ (by omega)]; exact hs u hu) (fun u hu => by
    have : u = 0 := by omega
    subst this
    rw [mu_same, mu_ne _ _ _ (show 59 + (q * 4 + i) ≠ 76 + (q * 4 + i) by omega), mu_same, fu_same, fu_same]; exact ⟨rfl, rfl⟩)
  refine ⟨s', ?_, q2, fun c h1 h3 => by rw [q3 c h1 h3, mu_ne _ _ _ h3, mu_ne _ _ _ h1]⟩
  unfold fX5_reckonBank
  simp (disch := omega) only [nab, na_0, na_1, na_2, na_3, na_4, na_5, na_6, na_8, na_10, na_12, na_16, na_24, na_36, na_52, na_76, na_120, na_172, na_186, nb_0, nb_1, nb_2, nb_3, nb_4, nb_5, nb_6, nb_8, nb_10, nb_12, nb_16, nb_24, nb_36, nb_52, nb_76, nb_120, nb_172, nb_186, nm_2, nm_3, nm_4, nm_5, nm_6, nm_8, nm_10, nm_12, nm_16, nm_24, nm_36, nm_52, nm_76, nm_120, nm_172, nm_186, nn_2, nn_3, nn_4, nn_5, nn_6, nn_8, nn_10, nn_12, nn_16, nn_24, nn_36, nn_52, nn_76, nn_120, nn_172, nn_186, rdG_sea_alive, rdG_sea_fished, wr_sea_alive, wr_sea_fished, bo_ok, Int.toNat_natCast, Int.reduceToNat]
  exact q1
theorem c_arr_26 (h : SeaOk D nH nB nS) {i q j : Nat} (hi : i < nB) (hq : q < nS) (hj : j < nH) (K : Int → Int → Nat → Int → Mem → Option Mem) : ∀ (m n u : Nat) (s : Mem), u + m = 24 → m < n → SeaC s D nH nB nS → (∀ t, t < 24 → s (49 + q) t = str D q t) → (∀ j' u', (j' < j ∨ (j' = j ∧ u' < u)) → u' < 24 → s (93 + (q * 4 + i)) (j' * 24 + u') = ((arr D (D (16 + 5 * i + 1)) (D (36 + 4 * i + j')) q u' : Nat) : Int)) → ∃ s', fX5_reckonArrivals_26 K n q i (93 + (q * 4 + i)) j u s = K q i (93 + (q * 4 + i)) ((j + 1 : Nat) : Int) s' ∧ (∀ j' u', j' < j + 1 → u' < 24 → s' (93 + (q * 4 + i)) (j' * 24 + u') = ((arr D (D (16 + 5 * i + 1)) (D (36 + 4 * i + j')) q u' : Nat) : Int)) ∧ (∀ c, c ≠ 93 + (q * 4 + i) → s' c = s c)
  | 0, n + 1, u, s, e, _, _, _, h2 => by
    have hb := h.1
    exact ⟨s, by rw [fX5_reckonArrivals_26, if_pos (by omega), lt_ok, w32_s (by omega)], fun j' u' a b => h2 j' u' (by omega) b, fun _ _ => rfl⟩
  | m + 1, n + 1, u, s, e, hn, hC, hs, h2 => by
    have hb := h.1
    have e1 := hC.b1 hi
    have e3 := hC.m (i := i) (j := j) (by omega) (by omega)
    have r1 := h.2.2.1 i (by omega)
    have r2 := h.2.2.2.1 i j (by omega) (by omega)
    have ea := c_arrivalAt hC h (v := D (16 + 5 * i + 1)) (off := D (36 + 4 * i + j)) hq (by omega) (by omega) hs (u := u) (by omega)
    have key : fX5_reckonArrivals_26 K (n + 1) q i (93 + (q * 4 + i)) j u s = fX5_reckonArrivals_26 K n q i (93 + (q * 4 + i)) j ((u + 1 : Nat) : Int) (mu s (93 + (q * 4 + i)) (j * 24 + u) ((arr D (D (16 + 5 * i + 1)) (D (36 + 4 * i + j)) q u : Nat) : Int)) := by
      rw [fX5_reckonArrivals_26, if_neg (by omega)]
      simp (disch := omega) only [nab, na_0, na_1, na_2, na_3, na_4, na_5, na_6, na_8, na_10, na_12, na_16, na_24, na_36, na_52, na_76, na_120, na_172, na_186, nb_0, nb_1, nb_2, nb_3, nb_4, nb_5, nb_6, nb_8, nb_10, nb_12, nb_16, nb_24, nb_36, nb_52, nb_76, nb_120, nb_172, nb_186, nm_2, nm_3, nm_4, nm_5, nm_6, nm_8, nm_10, nm_12, nm_16, nm_24, nm_36, nm_52, nm_76, nm_120, nm_172, nm_186, nn_2, nn_3, nn_4, nn_5, nn_6, nn_8, nn_10, nn_12, nn_16, nn_24, nn_36, nn_52, nn_76, nn_120, nn_172, nn_186, rdG_sea_sorts, rd_sea_sorts, rdG_sea_miles, rd_sea_miles, bo_ok, b2_ok, lt_ok, Int.toNat_natCast, Int.reduceToNat, e1, e3, ea, wr_sea_arrivals]
    obtain ⟨s', q1, q2, q3⟩ := c_arr_26 h hi hq hj K m n (u + 1) (mu s (93 + (q * 4 + i)) (j * 24 + u) ((arr D (D (16 + 5 * i + 1)) (D (36 + 4 * i + j)) q u : Nat) : Int)) (by omega) (by omega) (hC.of2 h.b (fun k a b => mu_ne _ _ _ (by omega))) (fun t ht => by rw [mu_ne _ _ _ (by omega)]; exact hs t ht) (fun j' u' a b => by
      rw [mu_same]
      by_cases c : j' = j ∧ u' = u
      · obtain ⟨rfl, rfl⟩ := c; rw [fu_same]
      · rw [fu_ne _ _ (by omega)]; exact h2 j' u' (by omega) b)
    exact ⟨s', key.trans q1, q2, fun c h1 => by rw [q3 c h1, mu_ne _ _ _ h1]⟩
  | _, 0, _, _, _, hn, _, _, _ => absurd hn (by omega)
theorem c_arr_14 (h : SeaOk D nH nB nS) {i q : Nat} (hi : i < nB) (hq : q < nS) : ∀ (m n j : Nat) (s : Mem), j + m = nH → m < n → SeaC s D nH nB nS → (∀ t, t < 24 → s (49 + q) t = str D q t) → (∀ j' u', j' < j → u' < 24 → s (93 + (q * 4 + i)) (j' * 24 + u') = ((arr D (D (16 + 5 * i + 1)) (D (36 + 4 * i + j')) q u' : Nat) : Int)) → ∃ s', fX5_reckonArrivals_14 n q i (93 + (q * 4 + i)) j s = some s' ∧ (∀ j' u', j' < nH → u' < 24 → s' (93 + (q * 4 + i)) (j' * 24 + u') = ((arr D (D (16 + 5 * i + 1)) (D (36 + 4 * i + j')) q u' : Nat) : Int)) ∧ (∀ c, c ≠ 93 + (q * 4 + i) → s' c = s c)
  | 0, n + 1, j, s, e, _, hC, _, h2 => ⟨s, by rw [fX5_reckonArrivals_14, hC.1, if_pos (by omega)], fun j' u' a b => h2 j' u' (by omega) b, fun _ _ => rfl⟩
  | m + 1, n + 1, j, s, e, hn, hC, hs, h2 => by
    have hb := h.1
    obtain ⟨s2, q1, q2, q3⟩ := c_arr_26 h hi hq (j := j) (by omega) (fun p1 p2 p3 p4 s => fX5_reckonArrivals_14 n p1 p2 p3 p4 s) 24 600 0 s (by omega) (by omega) hC hs (fun j' u' a b => h2 j' u' (by omega) b)
    obtain ⟨s', r1, r2, r3⟩ := c_arr_14 h hi hq m n (j + 1) s2 (by omega) (by omega) (hC.of2 h.b (fun k a b => q3 _ (by omega))) (fun t ht => by rw [q3 _ (by omega)]; exact hs t ht) q2
    refine ⟨s', ?_, r2, fun c h1 => by rw [r3 c h1, q3 c h1]⟩
    rw [fX5_reckonArrivals_14, hC.1, if_neg (by omega)]
    exact q1.trans r1
  | _, 0, _, _, _, hn, _, _, _ => absurd hn (by omega)
theorem c_reckArr (hC : SeaC s D nH nB nS) (h : SeaOk D nH nB nS) {i q : Nat} (hi : i < nB) (hq : q < nS) (hs : ∀ t, t < 24 → s (49 + q) t = str D q t) : ∃ s', fX5_reckonArrivals q i s = some s' ∧ (∀ j' u', j' < nH → u' < 24 → s' (93 + (q * 4 + i)) (j' * 24 + u') = ((arr D (D (16 + 5 * i + 1)) (D (36 + 4 * i + j')) q u' : Nat) : Int)) ∧ (∀ c, c ≠ 93 + (q * 4 + i) → s' c = s c) := by
  have hb := h.1
  obtain ⟨s', q1, q2, q3⟩ := c_arr_14 h hi hq nH 600 0 s (by omega) (by omega) hC hs (fun j' u' a b => absurd a (by omega))
  refine ⟨s', ?_, q2, q3⟩
  unfold fX5_reckonArrivals
  simp (disch := omega) only [nab, na_0, na_1, na_2, na_3, na_4, na_5, na_6, na_8, na_10, na_12, na_16, na_24, na_36, na_52, na_76, na_120, na_172, na_186, nb_0, nb_1, nb_2, nb_3, nb_4, nb_5, nb_6, nb_8, nb_10, nb_12, nb_16, nb_24, nb_36, nb_52, nb_76, nb_120, nb_172, nb_186, nm_2, nm_3, nm_4, nm_5, nm_6, nm_8, nm_10, nm_12, nm_16, nm_24, nm_36, nm_52, nm_76, nm_120, nm_172, nm_186, nn_2, nn_3, nn_4, nn_5, nn_6, nn_8, nn_10, nn_12, nn_16, nn_24, nn_36, nn_52, nn_76, nn_120, nn_172, nn_186, rdG_sea_arrivals, bo_ok, Int.toNat_natCast]
  exact q1
/-- the tables of one STORM, of the SORTS below i -/
def TabQ (s : Mem) (D : Nat → Int) (nH q i : Nat) : Prop := ∀ i', i' < i → (∀ t, t < 25 → s (59 + (q * 4 + i')) t = alv D i' q t) ∧ (∀ t, t < 25 → s (76 + (q * 4 + i')) t = fsh D i' q t) ∧ (∀ j u, j < nH → u < 24 → s (93 + (q * 4 + i')) (j * 24 + u) = ((arr D (D (16 + 5 * i' + 1)) (D (36 + 4 * i' + j)) q u : Nat) : Int))
theorem c_reckon_74 (h : SeaOk D nH nB nS) {q : Nat} (hq : q < nS) (K : Int → Mem → Option Mem) : ∀ (m n i : Nat) (s : Mem), i + m = nB → m < n → SeaC s D nH nB nS → (∀ t, t < 24 → s (49 + q) t = str D q t) → TabQ s D nH q i → ∃ s', fX5_reckon_74 K n q i s = K ((q + 1 : Nat) : Int) s' ∧ TabQ s' D nH q nB ∧ (∀ c, (∀ i', i' < nB → c ≠ 59 + (q * 4 + i') ∧ c ≠ 76 + (q * 4 + i') ∧ c ≠ 93 + (q * 4 + i')) → s' c = s c)
  | 0, n + 1, i, s, e, _, hC, _, hT => by
    have hb := h.1
    refine ⟨s, ?_, fun i' hi' => hT i' (by omega), fun _ _ => rfl⟩
    rw [fX5_reckon_74, hC.2.1, if_pos (by omega), lt_ok, w32_s (by omega)]
  | m + 1, n + 1, i, s, e, hn, hC, hs, hT => by
    have hb := h.1
    obtain ⟨s2, p1, p2, p3⟩ := c_bank hC h (i := i) (by omega) hq hs
    obtain ⟨s3, r1, r2, r3⟩ := c_reckArr (s := s2) (hC.of2 h.b (fun k a b => p3 _ (by omega) (by omega))) h (i := i) (by omega) hq (fun t ht => by rw [p3 _ (by omega) (by omega)]; exact hs t ht)
    obtain ⟨s', q1, q2, q3⟩ := c_reckon_74 h hq K m n (i + 1) s3 (by omega) (by omega) (hC.of2 h.b (fun k a b => by rw [r3 _ (by omega), p3 _ (by omega) (by omega)])) (fun t ht => by rw [r3 _ (by omega), p3 _ (by omega) (by omega)]; exact hs t ht) (fun i' hi' => by
      by_cases c : i' = i
      · subst c
        refine ⟨fun t ht => ?_, fun t ht => ?_, r2⟩
        · rw [r3 _ (by omega)]; exact (p2 t (by omega)).1
        · rw [r3 _ (by omega)]; exact (p2 t (by omega)).2
      · obtain ⟨x1, x2, x3⟩ := hT i' (by omega)
        refine ⟨fun t ht => ?_, fun t ht => ?_, fun j u hj hu => ?_⟩
        · rw [r3 _ (by omega), p3 _ (by omega) (by omega)]; exact x1 t ht
        · rw [r3 _ (by omega), p3 _ (by omega) (by omega)]; exact x2 t ht
        · rw [r3 _ (by omega), p3 _ (by omega) (by omega)]; exact x3 j u hj hu)
    refine ⟨s', ?_, q2, fun c hc => ?_⟩
    · rw [fX5_reckon_74, hC.2.1, if_neg (by omega), p1, bo_ok, r1, bo_ok, lt_ok, w32_s (by omega)]
      exact q1
    · have := hc i (by omega)
      rw [q3 c hc, r3 c this.2.2, p3 c this.1 this.2.1]
  | _, 0, _, _, _, hn, _, _, _ => absurd hn (by omega)
theorem c_reckon_44 (h : SeaOk D nH nB nS) {q : Nat} (hq : q < nS) (K : Int → Mem → Option Mem) : ∀ (m n j : Nat) (s : Mem), j + m = nH → m < n → SeaC s D nH nB nS → (∀ t, t < 24 → s (49 + q) t = str D q t) → (∀ j', j' < j → s (54 + j') q = ((opB D j' q 24 : Nat) : Int)) → ∃ s', fX5_reckon_44 K n q j s = K ((q + 1 : Nat) : Int) s' ∧ (∀ j', j' < nH → s' (54 + j') q = ((opB D j' q 24 : Nat) : Int)) ∧ TabQ s' D nH q nB ∧ (∀ j' x, j' < nH → x ≠ q → s' (54 + j') x = s (54 + j') x) ∧ (∀ c, (∀ j', j' < nH → c ≠ 54 + j') → (∀ i', i' < nB → c ≠ 59 + (q * 4 + i') ∧ c ≠ 76 + (q * 4 + i') ∧ c ≠ 93 + (q * 4 + i')) → s' c = s c)
  | 0, n + 1, j, s, e, _, hC, hs, hO => by
    have hb := h.1
    obtain ⟨s', q1, q2, q3⟩ := c_reckon_74 h hq K nB 600 0 s (by omega) (by omega) hC hs (fun i' hi' => absurd hi' (by omega))
    refine ⟨s', ?_, fun j' hj' => by rw [q3 _ (fun i' hi' => by omega)]; exact hO j' (by omega), q2, fun j' x hj' hx => by rw [q3 _ (fun i' hi' => by omega)], fun c _ hc => q3 c hc⟩
    rw [fX5_reckon_44, hC.1, if_pos (by omega)]
    exact q1
  | m + 1, n + 1, j, s, e, hn, hC, hs, hO => by
    have hb := h.1
    have key : fX5_reckon_44 K (n + 1) q j s = fX5_reckon_44 K n q ((j + 1 : Nat) : Int) (mu s (54 + j) q ((opB D j q 24 : Nat) : Int)) := by
      rw [fX5_reckon_44, hC.1, if_neg (by omega), rdG_sea_openHours (by omega) (by omega), bo_ok, c_openHoursOf hC h (by omega) hq hs, b2_ok]
      simp (disch := omega) only [Int.toNat_natCast, wr_sea_openHours, bo_ok, lt_ok, w32_s]
    obtain ⟨s', q1, q2, q3, q4, q5⟩ := c_reckon_44 h hq K m n (j + 1) (mu s (54 + j) q ((opB D j q 24 : Nat) : Int)) (by omega) (by omega) (hC.of2 h.b (fun k a b => mu_ne _ _ _ (by omega))) (fun t ht => by rw [mu_ne _ _ _ (by omega)]; exact hs t ht) (fun j' hj' => by
      by_cases c : j' = j
      · subst c; rw [mu_same, fu_same]
      · rw [mu_ne _ _ _ (by omega)]; exact hO j' (by omega))
    refine ⟨s', key.trans q1, q2, q3, fun j' x hj' hx => ?_, fun c h1 h2 => ?_⟩
    · rw [q4 j' x hj' hx]
      by_cases c : j' = j
      · subst c; rw [mu_same, fu_ne _ _ hx]
      · rw [mu_ne _ _ _ (by omega)]
    · rw [q5 c h1 h2, mu_ne _ _ _ (h1 j (by omega))]
  | _, 0, _, _, _, hn, _, _, _ => absurd hn (by omega)
theorem c_reckon_12 (h : SeaOk D nH nB nS) {q : Nat} (hq : q < nS) (K : Int → Mem → Option Mem) : ∀ (m n t : Nat) (s : Mem), t + m = 24 → m < n → SeaC s D nH nB nS → (∀ a, a < t → s (49 + q) a = str D q a) → TabC s D nH nB q → ∃ s', fX5_reckon_12 K n q t s = K ((q + 1 : Nat) : Int) s' ∧ TabC s' D nH nB (q + 1) ∧ (∀ c, (c < 48 ∨ 109 ≤ c) → s' c = s c)
  | 0, n + 1, t, s, e, _, hC, hs, hT => by
    have hb := h.1
    obtain ⟨s', q1, q2, q3, q4, q5⟩ := c_reckon_44 h hq K nH 600 0 s (by omega) (by omega) hC (fun a ha => hs a (by omega)) (fun j' hj' => absurd hj' (by omega))
    refine ⟨s', ?_, ⟨fun q' t' a b => ?_, fun j' q' a b => ?_, fun q' i' t' a b c => ?_, fun q' i' t' a b c => ?_, fun q' i' j' u' a b c d => ?_⟩, fun c hc => q5 c (fun j' hj' => by omega) (fun i' hi' => by omega)⟩
    · rw [fX5_reckon_12, if_pos (by omega)]
      exact q1
    · rw [q5 _ (fun j' hj' => by omega) (fun i' hi' => by omega)]
      by_cases c : q' = q
      · subst c; exact hs t' (by omega)
      · exact hT.1 q' t' (by omega) b
    · by_cases c : q' = q
      · subst c; exact q2 j' a
      · rw [q4 j' q' a c]; exact hT.2.1 j' q' a (by omega)
    · by_cases cq : q' = q
      · subst cq; exact (q3 i' b).1 t' c
      · rw [q5 _ (fun j' hj' => by omega) (fun i' hi' => by omega)]; exact hT.2.2.1 q' i' t' (by omega) b c
    · by_cases cq : q' = q
      · subst cq; exact (q3 i' b).2.1 t' c
      · rw [q5 _ (fun j' hj' => by omega) (fun i' hi' => by omega)]; exact hT.2.2.2.1 q' i' t' (by omega) b c
    · by_cases cq : q' = q
      · subst cq; exact (q3 i' b).2.2 j' u' c d
      · rw [q5 _ (fun j' hj' => by omega) (fun i' hi' => by omega)]; exact hT.2.2.2.2 q' i' j' u' (by omega) b c d
  | m + 1, n + 1, t, s, e, hn, hC, hs, hT => by
    have hb := h.1
    have key : fX5_reckon_12 K (n + 1) q t s = fX5_reckon_12 K n q ((t + 1 : Nat) : Int) (mu s (49 + q) t (str D q t)) := by
      rw [fX5_reckon_12, if_neg (by omega), rdG_sea_strength (by omega) (by omega), bo_ok, rdG_sea_storms (by omega) (by omega), bo_ok, Int.toNat_natCast, c_strengthOf hC h hq (by omega), b2_ok]
      simp (disch := omega) only [Int.toNat_natCast, wr_sea_strength, bo_ok, lt_ok, w32_s]
    obtain ⟨s', q1, q2, q3⟩ := c_reckon_12 h hq K m n (t + 1) (mu s (49 + q) t (str D q t)) (by omega) (by omega) (hC.of2 h.b (fun k a b => mu_ne _ _ _ (by omega))) (fun a ha => by
      rw [mu_same]
      by_cases c : a = t
      · subst c; rw [fu_same]
      · rw [fu_ne _ _ c]; exact hs a (by omega)) (by
      refine ⟨fun q' t' a b => ?_, fun j' q' a b => ?_, fun q' i' t' a b c => ?_, fun q' i' t' a b c => ?_, fun q' i' j' u' a b c d => ?_⟩
      · rw [mu_ne _ _ _ (by omega)]; exact hT.1 q' t' a b
      · rw [mu_ne _ _ _ (by omega)]; exact hT.2.1 j' q' a b
      · rw [mu_ne _ _ _ (by omega)]; exact hT.2.2.1 q' i' t' a b c
      · rw [mu_ne _ _ _ (by omega)]; exact hT.2.2.2.1 q' i' t' a b c
      · rw [mu_ne _ _ _ (by omega)]; exact hT.2.2.2.2 q' i' j' u' a b c d)
    exact ⟨s', key.trans q1, q2, fun c hc => by rw [q3 c hc, mu_ne _ _ _ (by omega)]⟩
  | _, 0, _, _, _, hn, _, _, _ => absurd hn (by omega)
theorem c_reckon_2 (h : SeaOk D nH nB nS) : ∀ (m n q : Nat) (s : Mem), q + m = nS → m < n → SeaC s D nH nB nS → TabC s D nH nB q → ∃ s', fX5_reckon_2 n q s = some s' ∧ TabC s' D nH nB nS ∧ (∀ c, (c < 48 ∨ 109 ≤ c) → s' c = s c)
  | 0, n + 1, q, s, e, _, hC, hT => by
    have e : q = nS := by omega
    subst e
    exact ⟨s, by rw [fX5_reckon_2, hC.2.2.1, if_pos (by omega)], hT, fun _ _ => rfl⟩
  | m + 1, n + 1, q, s, e, hn, hC, hT => by
    obtain ⟨s2, q1, q2, q3⟩ := c_reckon_12 h (q := q) (by omega) (fun p1 s => fX5_reckon_2 n p1 s) 24 600 0 s (by omega) (by omega) hC (fun a ha => absurd ha (by omega)) hT
    obtain ⟨s', r1, r2, r3⟩ := c_reckon_2 h m n (q + 1) s2 (by omega) (by omega) (hC.of2 h.b (fun k a b => q3 k (by omega))) q2
    refine ⟨s', ?_, r2, fun c hc => by rw [r3 c hc, q3 c hc]⟩
    rw [fX5_reckon_2, hC.2.2.1, if_neg (by omega)]
    exact q1.trans r1
  | _, 0, _, _, _, hn, _, _ => absurd hn (by omega)
theorem c_reckon (h : SeaOk D nH nB nS) (hC : SeaC s D nH nB nS) : ∃ s', fX5_reckon s = some s' ∧ TabC s' D nH nB nS ∧ (∀ c, (c < 48 ∨ 109 ≤ c) → s' c = s c) := by
  have hb := h.1
  exact c_reckon_2 h nS 600 0 s (by omega) (by omega) hC ⟨fun q' t' a b => absurd a (by omega), fun j' q' a b => absurd b (by omega), fun q' i' t' a b c => absurd a (by omega), fun q' i' t' a b c => absurd a (by omega), fun q' i' j' u' a b c d => absurd a (by omega)⟩
end RK

/-! ===== an HOUR of the reference's boats ===== -/
theorem arrG_gt (D : Nat → Int) (v off : Int) (q : Nat) : ∀ (m t : Nat) (made : Int), t + m = 24 → arrG D v off q m t made = 24 ∨ t < arrG D v off q m t made
  | 0, _, _, _ => Or.inl rfl
  | m + 1, t, made, h => by
    unfold arrG
    split
    · rcases arrG_gt D v off q m (t + 1) (made + spd D v q t) (by omega) with z | z
      · exact Or.inl z
      · right; omega
    · right; omega
theorem arr_gt (D : Nat → Int) (v off : Int) (q : Nat) {u : Nat} (h : u < 24) : u < arr D v off q u := by
  unfold arr
  rcases arrG_gt D v off q (24 - u) u 0 (by omega) with z | z
  · rw [z]; exact h
  · exact z
section HO
variable {D : Nat → Int} {nH nB nS q : Nat} {U G : Nat → Nat} {V : Nat → Int} {w : Bool} {s s' : Mem} {S : Nat → Nat × (Nat → Nat)}
theorem aF_gt (h : PlOk D nH nB nS q U G V) {i t : Nat} (hi : i < nB) (ht : t < 24) (hu : t < U i) : t < aF D q U G V i := by
  have h1 := (h.2.2.1 i hi).1
  unfold aF
  by_cases c : U i < 24
  · have := arr_gt D (V i) (D (36 + 4 * i + G i)) q c; omega
  · rw [show U i = 24 by omega, arr_24]; exact ht
theorem m_hour_123 (h : PlOk D nH nB nS q U G V) (hM : SeaM s D) {i b t : Nat} (hi : i < nB) (hb : b < 32) (ht : t < 24) (hl : s 11 b = alv D i q t) : fX9_hour_123 b q t i s = some (mu s 11 b (alv D i q (t + 1))) := by
  have hb4 := h.1.1
  have hq := h.2.1
  have r1 := alv_rg h.1 (i := i) (q := q) (by omega) (by omega) t
  have r2 := alv_pr h.1 (i := i) (q := q) (by omega) (by omega) t
  have r3 := rsk_rg h.1 (i := i) (q := q) (t := t) (by omega) (by omega)
  unfold fX9_hour_123
  rw [rd_m_lives (by omega) (by omega), bo_ok, Int.toNat_natCast, hl, m_riskOf hM h.1 (by omega) (by omega) ht, b2_ok, w32_id (x := 1000 - rsk D i q t) (by omega) (by omega), w64_id (x := alv D i q t * (1000 - rsk D i q t)) (by omega) (by omega), tdiv_nn r2.1, w64_id (by omega) (by omega), w32_id (by omega) (by omega), wr_m_lives (by omega) (by omega), bo_ok, Int.toNat_natCast]
  rfl
theorem m_hour (h : PlOk D nH nB nS q U G V) (hM : PrM s D nB U G V) {i b t : Nat} (hi : i < nB) (hb : b < 32) (ht : t < 24) (h8 : s 8 b = ((i : Nat) : Int)) (hl : s 11 b = alv D i q t) (hc : CmM s D q U G V t i b) : ∃ s', fX9_hour b q t s = some s' ∧ s' 11 b = alv D i q (t + 1) ∧ (∀ x, x ≠ b → s' 11 x = s 11 x) ∧ CmM s' D q U G V (t + 1) i b ∧ (∀ x, x ≠ b → s' 9 x = s 9 x ∧ s' 10 x = s 10 x) ∧ s' 14 = (if t < U i then fu (s 14) i (w64 (s 14 i + D (16 + 5 * i + 2) * alv D i q t)) else s 14) ∧ (∀ c, c ≠ 9 → c ≠ 10 → c ≠ 11 → c ≠ 14 → s' c = s c) := by
  have hb4 := h.1.1
  have hq := h.2.1
  obtain ⟨g1, g2, g3⟩ := hM.2 i hi
  obtain ⟨c1, c2, c3, c4⟩ := hc
  have hG := (h.2.2.1 i (by omega)).2
  have hv := h.2.2.2 i hi
  unfold fX9_hour
  simp (disch := omega) only [rd_m_boatSort, rd_m_hours, bo_ok, Int.toNat_natCast, h8, g1]
  by_cases cu : t < U i
  · have ha := aF_gt h (i := i) (by omega) ht cu
    rw [if_neg (by omega), if_pos cu]
    simp (disch := omega) only [nab, na_0, na_1, na_2, na_3, na_4, na_5, na_6, na_8, na_10, na_12, na_16, na_24, na_36, na_52, na_76, na_120, na_172, na_186, nb_0, nb_1, nb_2, nb_3, nb_4, nb_5, nb_6, nb_8, nb_10, nb_12, nb_16, nb_24, nb_36, nb_52, nb_76, nb_120, nb_172, nb_186, nm_2, nm_3, nm_4, nm_5, nm_6, nm_8, nm_10, nm_12, nm_16, nm_24, nm_36, nm_52, nm_76, nm_120, nm_172, nm_186, nn_2, nn_3, nn_4, nn_5, nn_6, nn_8, nn_10, nn_12, nn_16, nn_24, nn_36, nn_52, nn_76, nn_120, nn_172, nn_186, rd_m_valueOf, wr_m_valueOf, rd_m_sea, rd_m_lives, bo_ok, Int.toNat_natCast, hM.1.at, hl]
    rw [w64_ar, m_hour_123 (s := mu s 14 i _) h (hM.1.fr (mu_ne _ _ _ (by decide))) hi hb ht (by rw [mu_ne _ _ _ (by decide)]; exact hl)]
    refine ⟨_, rfl, by rw [mu_same, fu_same], fun x hx => by rw [mu_same, fu_ne _ _ hx, mu_ne _ _ _ (by decide)], ?_, fun x hx => ⟨by rw [mu_ne _ _ _ (by decide), mu_ne _ _ _ (by decide)], by rw [mu_ne _ _ _ (by decide), mu_ne _ _ _ (by decide)]⟩, by rw [mu_ne _ _ _ (by decide), mu_same], fun c h9 h10 h11 h14 => by rw [mu_ne _ _ _ h11, mu_ne _ _ _ h14]⟩
    unfold CmM
    simp (disch := decide) only [mu_ne]
    refine ⟨fun z1 z2 => ?_, fun z => c2 ha, fun z => c3 (by omega), fun z1 z2 => ?_⟩
    · by_cases c : t + 1 < U i
      · have := aF_gt h (i := i) (by omega) (show t + 1 < 24 by have := (h.2.2.1 i (by omega)).1; omega) c; omega
      · have e : U i = t + 1 := by omega
        have e24 : U i < 24 := by
          rcases Nat.lt_or_ge (U i) 24 with z | z
          · exact z
          · exfalso
            have : aF D q U G V i = 24 := by unfold aF; rw [show U i = 24 by have := (h.2.2.1 i (by omega)).1; omega, arr_24]
            omega
        have := arr_gt D (V i) (D (36 + 4 * i + G i)) q e24
        unfold aF at z1
        omega
    · have e : U i = t + 1 := by omega
      rw [c3 (by omega)]
      refine ⟨?_, by omega, by omega⟩
      unfold aF arr
      rw [e]
  · rw [if_pos (by omega), if_neg cu]
    by_cases ca : aF D q U G V i ≤ t
    · have hcm := c1 ca (by omega)
      simp (disch := omega) only [rd_m_came, bo_ok, Int.toNat_natCast, hcm]
      rw [if_pos (by omega), m_hour_123 h hM.1 hi hb ht hl]
      refine ⟨_, rfl, by rw [mu_same, fu_same], fun x hx => by rw [mu_same, fu_ne _ _ hx], ?_, fun x hx => ⟨by rw [mu_ne _ _ _ (by decide)], by rw [mu_ne _ _ _ (by decide)]⟩, by rw [mu_ne _ _ _ (by decide)], fun c h9 h10 h11 h14 => by rw [mu_ne _ _ _ h11]⟩
      unfold CmM
      simp (disch := decide) only [mu_ne]
      exact ⟨fun _ _ => hcm, fun z => absurd z (by omega), fun z => absurd z (by omega), fun _ z => absurd z (by omega)⟩
    · have hcm := c2 (by omega)
      obtain ⟨k1, k2, k3⟩ := c4 (by omega) (by omega)
      have rs := spd_rg h.1 (v := V i) (by omega) (q := q) (t := t) (by omega)
      have em := m_madeBy hM.1 h.1 (v := V i) hv (q := q) (t := t) (by omega) ht
      have e10 : mu s 10 b (s 10 b + spd D (V i) q t) 10 b = s 10 b + spd D (V i) q t := by rw [mu_same, fu_same]
      have e6 : mu s 10 b (s 10 b + spd D (V i) q t) 6 i = ((G i : Nat) : Int) := by rw [mu_ne _ _ _ (by decide)]; exact g2
      have hM10 : SeaM (mu s 10 b (s 10 b + spd D (V i) q t)) D := hM.1.fr (mu_ne _ _ _ (by decide))
      have eaw := m_away hM10 (i := i) (j := G i) (by omega) (by omega)
      simp (disch := omega) only [rd_m_came, rd_m_miles, rd_m_speeds, bo_ok, Int.toNat_natCast, hcm, g3, em, b2_ok]
      rw [if_neg (by omega), w32_id (by omega) (by omega)]
      simp (disch := omega) only [wr_m_miles, rd_m_miles, rd_m_goals, bo_ok, Int.toNat_natCast, e10, e6, eaw, b2_ok]
      have hstep : arrG D (V i) (D (36 + 4 * i + G i)) q (24 - t) t (s 10 b) = if s 10 b + spd D (V i) q t < D (36 + 4 * i + G i) then arrG D (V i) (D (36 + 4 * i + G i)) q (24 - (t + 1)) (t + 1) (s 10 b + spd D (V i) q t) else t + 1 := by
        rw [show 24 - t = (24 - (t + 1)) + 1 by omega, arrG]
      rw [k1] at hstep
      unfold fX9_hour_122
      by_cases cf : s 10 b + spd D (V i) q t < D (36 + 4 * i + G i)
      · rw [if_pos cf] at hstep
        rw [if_pos cf, wr_m_came (by omega) (by omega), bo_ok, Int.toNat_natCast, m_hour_123 (s := mu (mu s 10 b _) 9 b 99) h (hM10.fr (mu_ne _ _ _ (by decide))) hi hb ht (by rw [mu_ne _ _ _ (by decide), mu_ne _ _ _ (by decide)]; exact hl)]
        refine ⟨_, rfl, by rw [mu_same, fu_same], fun x hx => by rw [mu_same, fu_ne _ _ hx, mu_ne _ _ _ (by decide), mu_ne _ _ _ (by decide)], ?_, fun x hx => ⟨by rw [mu_ne _ _ _ (by decide), mu_same, fu_ne _ _ hx, mu_ne _ _ _ (by decide)], by rw [mu_ne _ _ _ (by decide), mu_ne _ _ _ (by decide), mu_same, fu_ne _ _ hx]⟩, by rw [mu_ne _ _ _ (by decide), mu_ne _ _ _ (by decide), mu_ne _ _ _ (by decide)], fun c h9 h10 h11 h14 => by rw [mu_ne _ _ _ h11, mu_ne _ _ _ h9, mu_ne _ _ _ h10]⟩
        have e9 : ∀ y, mu (mu (mu s 10 b (s 10 b + spd D (V i) q t)) 9 b 99) 11 b y 9 b = 99 := fun y => by rw [mu_ne _ _ _ (by decide), mu_same, fu_same]
        have e10' : ∀ y, mu (mu (mu s 10 b (s 10 b + spd D (V i) q t)) 9 b 99) 11 b y 10 b = s 10 b + spd D (V i) q t := fun y => by rw [mu_ne _ _ _ (by decide), mu_ne _ _ _ (by decide), mu_same, fu_same]
        unfold CmM
        rw [e9, e10']
        refine ⟨fun z1 z2 => ?_, fun _ => rfl, fun z => absurd z (by omega), fun _ _ => ⟨hstep.symm, by omega, by omega⟩⟩
        rcases arrG_gt D (V i) (D (36 + 4 * i + G i)) q (24 - (t + 1)) (t + 1) (s 10 b + spd D (V i) q t) (by omega) with z | z <;> omega
      · rw [if_neg cf] at hstep
        rw [if_neg cf, w32_s (by omega), wr_m_came (by omega) (by omega), bo_ok, Int.toNat_natCast, m_hour_123 (s := mu (mu s 10 b _) 9 b _) h (hM10.fr (mu_ne _ _ _ (by decide))) hi hb ht (by rw [mu_ne _ _ _ (by decide), mu_ne _ _ _ (by decide)]; exact hl)]
        refine ⟨_, rfl, by rw [mu_same, fu_same], fun x hx => by rw [mu_same, fu_ne _ _ hx, mu_ne _ _ _ (by decide), mu_ne _ _ _ (by decide)], ?_, fun x hx => ⟨by rw [mu_ne _ _ _ (by decide), mu_same, fu_ne _ _ hx, mu_ne _ _ _ (by decide)], by rw [mu_ne _ _ _ (by decide), mu_ne _ _ _ (by decide), mu_same, fu_ne _ _ hx]⟩, by rw [mu_ne _ _ _ (by decide), mu_ne _ _ _ (by decide), mu_ne _ _ _ (by decide)], fun c h9 h10 h11 h14 => by rw [mu_ne _ _ _ h11, mu_ne _ _ _ h9, mu_ne _ _ _ h10]⟩
        have e9 : ∀ y, mu (mu (mu s 10 b (s 10 b + spd D (V i) q t)) 9 b ((t + 1 : Nat) : Int)) 11 b y 9 b = ((t + 1 : Nat) : Int) := fun y => by rw [mu_ne _ _ _ (by decide), mu_same, fu_same]
        unfold CmM
        rw [e9]
        exact ⟨fun _ _ => by rw [hstep], fun z => absurd z (by omega), fun z => absurd z (by omega), fun _ z => absurd z (by omega)⟩
end HO

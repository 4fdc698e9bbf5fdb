section E4
variable {D : Nat → Int} {nH nB nS : Nat} {N K : Nat → Int} {kc : Nat} {T : Nat → Int} {tl : Nat} {s s' : Mem}
/-! ===== plan ===== -/
theorem c_send_w {i : Nat} {u j : Int} (hi : i < 4) : fX3_send 110 i u j s = some (mu (mu s 111 i u) 112 i j) := by
  unfold fX3_send
  simp (disch := omega) only [pt_watch_plans_0, pt_watch_plans_1, wr_watch_plans_hour, wr_watch_plans_harbour, bo_ok, Int.toNat_natCast]
theorem c_send_t {i : Nat} {u j : Int} (hi : i < 4) : fX3_send 134 i u j s = some (mu (mu s 135 i u) 136 i j) := by
  unfold fX3_send
  simp (disch := omega) only [pt_trial_0, pt_trial_1, wr_trial_hour, wr_trial_harbour, bo_ok, Int.toNat_natCast]
def pput (N : Nat → Int) (i : Nat) (u j : Int) : Nat → Int := fu (fu N (2 * i) u) (2 * i + 1) j
theorem pput_ev {N : Nat → Int} {i k : Nat} {u j : Int} : pput N i u j (2 * k) = if k = i then u else N (2 * k) := by
  unfold pput
  rw [fu_ne _ _ (by omega)]
  by_cases e : k = i
  · subst e; rw [fu_same, if_pos rfl]
  · rw [fu_ne _ _ (by omega), if_neg e]
theorem pput_od {N : Nat → Int} {i k : Nat} {u j : Int} : pput N i u j (2 * k + 1) = if k = i then j else N (2 * k + 1) := by
  unfold pput
  by_cases e : k = i
  · subst e; rw [fu_same, if_pos rfl]
  · rw [fu_ne _ _ (by omega), fu_ne _ _ (by omega), if_neg e]
theorem pput_hi {N : Nat → Int} {i k : Nat} {u j : Int} (hi : i < 4) (hk : 8 ≤ k) : pput N i u j k = N k := by
  unfold pput
  rw [fu_ne _ _ (by omega), fu_ne _ _ (by omega)]
theorem NowOk.pput (h : NowOk N nH nS) {i : Nat} {u j : Int} (hi : i < 4) (hu : 0 ≤ u ∧ u ≤ 24) (hj : 0 ≤ j ∧ j < nH) : NowOk (pput N i u j) nH nS := by
  obtain ⟨w1, w2⟩ := h
  refine ⟨fun k hk => ?_, ?_⟩
  · rw [pput_ev, pput_od]
    have := w1 k hk
    by_cases e : k = i
    · rw [if_pos e, if_pos e]; omega
    · rw [if_neg e, if_neg e]; exact this
  · rw [pput_hi hi (by omega), pput_hi hi (by omega), pput_hi hi (by omega), pput_hi hi (by omega)]; exact w2
theorem WatC.pput (h : WatC s 109 111 112 N) {i : Nat} {u j : Int} (hi : i < 4) : WatC (mu (mu s 111 i u) 112 i j) 109 111 112 (pput N i u j) := by
  obtain ⟨h1, h2, h3, h4, h5⟩ := h
  refine ⟨?_, ?_, ?_, ?_, fun k hk => ?_⟩
  · simp (disch := omega) only [mu_ne, pput_hi hi]; exact h1
  · simp (disch := omega) only [mu_ne, pput_hi hi]; exact h2
  · simp (disch := omega) only [mu_ne, pput_hi hi]; exact h3
  · simp (disch := omega) only [mu_ne, pput_hi hi]; exact h4
  · rw [pput_ev, pput_od, mu_same, mu_ne _ _ _ (by decide), mu_same]
    by_cases e : k = i
    · subst e; rw [fu_same, fu_same, if_pos rfl, if_pos rfl]; exact ⟨rfl, rfl⟩
    · rw [fu_ne _ _ e, fu_ne _ _ e, if_neg e, if_neg e, mu_ne _ _ _ (by decide)]; exact h5 k hk
theorem NowM.pput (h : NowM s N) {i : Nat} {u j : Int} : NowM (mu (mu s 2 (2 * i) u) 2 (2 * i + 1) j) (pput N i u j) := NowM.put (NowM.put h)
theorem call_plan (hI : Inv s) (a b c : Int) : ∃ r s1 s2, fX8_plan a b c s = some (r, s1) ∧ fX9_plan a b c s1 = some (r, s2) ∧ Inv s2 := by
  have hI2 := hI.read
  obtain ⟨D, nH, nB, nS, N, K, kc, T, tl, hV, hM, hC⟩ := hI
  have hb := hV.1.1
  have hM1 : SeaM (mu s 0 0 0) D := hM.1.fr mu00_1
  by_cases hv : ((0 ≤ a ∧ a < nB) ∧ (0 ≤ b ∧ b ≤ 24)) ∧ (0 ≤ c ∧ c < nH)
  · obtain ⟨i, rfl⟩ := nat_of hv.1.1.1
    have hi : i < 4 := by omega
    have hn := hV.2.1.1 i hi
    have hw := hC.2.2.1.2.2.2.2 i hi
    have hMs : InvM (mu (mu (mu s 111 i b) 112 i c) 0 0 0) D N K kc T tl := (hM.fr (FrC.trans (FrC.mu (by decide)) (FrC.mu (by decide)))).thrown
    refine ⟨10 * N (2 * i) + N (2 * i + 1), mu (mu s 111 i b) 112 i c, mu (mu (mu (mu (mu s 111 i b) 112 i c) 0 0 0) 2 (2 * i) b) 2 (2 * i + 1) c, ?_, ?_, ?_⟩
    · unfold fX8_plan fX3_told
      simp (disch := omega) only [c_isSort hC.1, c_isHourOrNever, c_isHarbour hC.1, b2_ok, if01_0, pt_watch_plans_0, pt_watch_plans_1, rd_watch_plans_hour, rd_watch_plans_harbour, bo_ok, Int.toNat_natCast, hw.1, hw.2, c_send_w]
      rw [if_neg (by omega), if_neg (by omega), if_neg (by omega), w32_id (x := 10 * N (2 * i)) (by omega) (by omega), w32_id (by omega) (by omega)]
    · unfold fX9_plan
      simp (disch := omega) only [lt_ok, m_isSort hMs.1 hV.1, m_isHarbour hMs.1 hV.1, m_isIn, b2_ok, if01_0, nab, na_0, na_1, na_2, na_3, na_4, na_5, na_6, na_8, na_10, na_12, na_16, na_24, na_36, na_52, na_76, na_120, na_172, na_186, nb_0, nb_1, nb_2, nb_3, nb_4, nb_5, nb_6, nb_8, nb_10, nb_12, nb_16, nb_24, nb_36, nb_52, nb_76, nb_120, nb_172, nb_186, nm_2, nm_3, nm_4, nm_5, nm_6, nm_8, nm_10, nm_12, nm_16, nm_24, nm_36, nm_52, nm_76, nm_120, nm_172, nm_186, nn_2, nn_3, nn_4, nn_5, nn_6, nn_8, nn_10, nn_12, nn_16, nn_24, nn_36, nn_52, nn_76, nn_120, nn_172, nn_186, rd_m_now, wr_m_now, bo_ok, Int.toNat_natCast, hMs.2.1.at]
      rw [if_neg (by omega), if_neg (by omega), if_neg (by omega), Nat.zero_add, w32_id (x := 10 * N (2 * i)) (by omega) (by omega), w32_id (by omega) (by omega)]
    · refine ⟨D, nH, nB, nS, pput N i b c, K, kc, T, tl, ⟨hV.1, hV.2.1.pput hi hv.1.2 hv.2, hV.2.2⟩, ?_, ?_⟩
      · refine hMs.now (hMs.2.1.pput) ?_ ?_ ?_ ?_ ?_ <;> simp (disch := omega) only [mu_ne]
      · refine (hC.now (s' := mu (mu s 111 i b) 112 i c) hV.1 (hC.2.2.1.pput hi) (fun k h1 h2 h3 => by simp (disch := omega) only [mu_ne])).fr (FrM.trans (FrM.trans (FrM.mu (by decide)) (FrM.mu (by decide))) (FrM.mu (by decide)))
  · refine ⟨-1, s, mu s 0 0 0, ?_, ?_, hI2⟩
    · unfold fX8_plan
      simp only [c_isSort hC.1, c_isHourOrNever, c_isHarbour hC.1, b2_ok, if01_0]
      repeat' split
      all_goals first | rfl | (exfalso; omega)
    · unfold fX9_plan
      simp only [lt_ok, m_isSort hM1 hV.1, m_isHarbour hM1 hV.1, m_isIn, b2_ok, if01_0]
      repeat' split
      all_goals first | rfl | (exfalso; omega)
/-! ===== count ===== -/
/-- boats of the first m SORTS -/
def nbo (D : Nat → Int) : Nat → Int
  | 0 => 0
  | m + 1 => nbo D m + D (16 + 5 * m)
theorem nbo_rg (h : SeaOk D nH nB nS) : ∀ m : Nat, m ≤ 4 → 0 ≤ nbo D m ∧ nbo D m ≤ 8 * m
  | 0, _ => by unfold nbo; omega
  | m + 1, hm => by
    have := nbo_rg h m (by omega)
    have h2 := h.2.2.1 m (by omega)
    unfold nbo
    omega
theorem c_allBoats (hC : SeaC s D nH nB nS) (h : SeaOk D nH nB nS) : fX5_allBoats s = some (nbo D nB, s) := by
  have hb := h.1
  have key : ∀ (m n i : Nat), i + m = nB → m < n → fX5_allBoats_4 n (nbo D i) i s = some (nbo D nB, s) := by
    intro m
    induction m with
    | zero =>
      intro n i e hn
      cases n with
      | zero => omega
      | succ n => rw [fX5_allBoats_4, hC.2.1, if_pos (by omega), show i = nB by omega]
    | succ m ih =>
      intro n i e hn
      cases n with
      | zero => omega
      | succ n =>
        have h1 := nbo_rg h i (by omega)
        have h2 := h.2.2.1 i (by omega)
        rw [fX5_allBoats_4, hC.2.1, if_neg (by omega)]
        simp (disch := omega) only [rdG_sea_sorts, rd_sea_sorts, bo_ok, lt_ok, Int.toNat_natCast, Int.reduceToNat, hC.b0, w32_s]
        rw [w32_id (by omega) (by omega)]
        exact ih n (i + 1) (by omega) (by omega)
  exact key nB 600 0 (by omega) (by omega)
theorem m_boats (hM : SeaM s D) (h : SeaOk D nH nB nS) : fX9_boats s = some (nbo D nB, s) := by
  have hb := h.1
  have e : D 184 = nB := hb.2.1
  have key : ∀ (m n i : Nat), i + m = nB → m < n → fX9_boats_4 n (nbo D i) i s = some (nbo D nB, s) := by
    intro m
    induction m with
    | zero =>
      intro n i e2 hn
      cases n with
      | zero => omega
      | succ n =>
        rw [fX9_boats_4]
        simp (disch := omega) only [rd_m_sea, bo_ok, Int.reduceToNat, hM.at, e]
        rw [if_pos (by omega), show i = nB by omega]
    | succ m ih =>
      intro n i e2 hn
      cases n with
      | zero => omega
      | succ n =>
        have h1 := nbo_rg h i (by omega)
        have h2 := h.2.2.1 i (by omega)
        rw [fX9_boats_4]
        simp (disch := omega) only [nab, na_0, na_1, na_2, na_3, na_4, na_5, na_6, na_8, na_10, na_12, na_16, na_24, na_36, na_52, na_76, na_120, na_172, na_186, nb_0, nb_1, nb_2, nb_3, nb_4, nb_5, nb_6, nb_8, nb_10, nb_12, nb_16, nb_24, nb_36, nb_52, nb_76, nb_120, nb_172, nb_186, nm_2, nm_3, nm_4, nm_5, nm_6, nm_8, nm_10, nm_12, nm_16, nm_24, nm_36, nm_52, nm_76, nm_120, nm_172, nm_186, nn_2, nn_3, nn_4, nn_5, nn_6, nn_8, nn_10, nn_12, nn_16, nn_24, nn_36, nn_52, nn_76, nn_120, nn_172, nn_186, rd_m_sea, bo_ok, lt_ok, Int.reduceToNat, Int.toNat_natCast, hM.at, e]
        rw [if_neg (by omega), w32_id (by omega) (by omega)]
        exact ih n (i + 1) (by omega) (by omega)
  exact key nB 600 0 (by omega) (by omega)
theorem call_count (hI : Inv s) (a : Int) : ∃ r s1 s2, fX8_count a s = some (r, s1) ∧ fX9_count a s1 = some (r, s2) ∧ Inv s2 := by
  have hI2 := hI.read
  obtain ⟨D, nH, nB, nS, N, K, kc, T, tl, hV, hM, hC⟩ := hI
  have hb := hV.1.1
  have hM1 := hM.thrown
  refine ⟨if a = 0 then nH else if a = 1 then nB else if a = 2 then nS else if a = 3 then nbo D nB else if a = 4 then tl else if a = 5 then kc else -1, s, mu s 0 0 0, ?_, ?_, hI2⟩
  · unfold fX8_count
    rw [hC.1.1, hC.1.2.1, hC.1.2.2.1, c_allBoats hC.1 hV.1, b2_ok, hC.2.2.2.2.1, hC.2.2.2.1.1]
    repeat' split
    all_goals rfl
  · unfold fX9_count
    simp (disch := omega) only [lt_ok, rd_m_sea, bo_ok, Int.reduceToNat, hM1.1.at, hb.1, hb.2.1, hb.2.2.1]
    rw [m_boats hM1.1 hV.1, b2_ok, hM1.2.2.2.1, hM1.2.2.1.1]
    repeat' split
    all_goals rfl
end E4

/-! ===== all ITEMS ===== -/
def flt (T : Nat → Int) (tl : Nat) : Nat → Nat → Nat → Nat → Nat → Int
  | 0, _, _, _, _ => -4
  | n + 1, cH, cB, cS, p => if tl ≤ p then -4 else if gdI T tl cH cB cS (T p) (p + 1) = true then flt T tl n (nxC 104 (T p) cH) (nxC 98 (T p) cB) (nxC 115 (T p) cS) (epi T tl (wnt (T p)) (p + 1)) else (p : Int)
def fin (T : Nat → Int) (tl : Nat) : Nat → (Nat → Int) → Nat → Nat → Nat → Nat → (Nat → Int) × Nat × Nat × Nat
  | 0, D, cH, cB, cS, _ => (D, cH, cB, cS)
  | n + 1, D, cH, cB, cS, p => if tl ≤ p then (D, cH, cB, cS) else if gdI T tl cH cB cS (T p) (p + 1) = true then fin T tl n (efI T tl D cH cB cS (T p) (p + 1)) (nxC 104 (T p) cH) (nxC 98 (T p) cB) (nxC 115 (T p) cS) (epi T tl (wnt (T p)) (p + 1)) else (D, cH, cB, cS)
section FA
variable {T : Nat → Int} {tl : Nat} {s s' : Mem} {D : Nat → Int} {cH cB cS : Nat}
theorem epi_ge (T : Nat → Int) (tl p : Nat) : ∀ k, p ≤ epi T tl k p
  | 0 => Nat.le_refl _
  | k + 1 => by
    have h1 := epi_ge T tl p k
    show p ≤ ep T tl (epi T tl k p)
    unfold ep
    omega
theorem fin_ok : ∀ (n : Nat) {D : Nat → Int} {cH cB cS p : Nat}, DrOk D cH cB cS → DrOk (fin T tl n D cH cB cS p).1 (fin T tl n D cH cB cS p).2.1 (fin T tl n D cH cB cS p).2.2.1 (fin T tl n D cH cB cS p).2.2.2
  | 0, _, _, _, _, _, h => h
  | n + 1, D, cH, cB, cS, p, h => by
    unfold fin
    by_cases c : tl ≤ p
    · rw [if_pos c]; exact h
    · rw [if_neg c]
      by_cases g : gdI T tl cH cB cS (T p) (p + 1) = true
      · rw [if_pos g]; exact fin_ok n (item_ok h g).1
      · rw [if_neg g]; exact h
theorem flt_ge : ∀ (n : Nat) {cH cB cS p : Nat}, flt T tl n cH cB cS p = -4 ∨ 0 ≤ flt T tl n cH cB cS p
  | 0, _, _, _, _ => Or.inl rfl
  | n + 1, cH, cB, cS, p => by
    unfold flt
    split
    · exact Or.inl rfl
    · split
      · exact flt_ge n
      · right; omega
/-- the class's reading has changed its Text's place, counts, numbers alone -/
def FrF (s s' : Mem) : Prop := (∀ c, c ≠ 18 → c ≠ 20 → s' c = s c) ∧ s' 18 1 = s 18 1
theorem FrF.rf : FrF s s := ⟨fun _ _ _ => rfl, rfl⟩
theorem FrF.trans {s1 s2 s3 : Mem} (h : FrF s1 s2) (h2 : FrF s2 s3) : FrF s1 s3 := ⟨fun c a b => (h2.1 c a b).trans (h.1 c a b), h2.2.trans h.2⟩
theorem FrT.f (h : FrT s s') : FrF s s' := ⟨h.1, h.2 1 (by decide) (by decide)⟩
theorem FrF.mu {k : Nat} {x : Int} (hk : k ≠ 1) : FrF s (mu s 18 k x) := ⟨fun c a _ => mu_ne _ _ _ a, by rw [mu_same, fu_ne _ _ (Ne.symm hk)]⟩
theorem c_tally {tn v0 L : Int} (h0 : 0 ≤ L) (h1 : L ≤ 255) {p : Nat} (hA : AtC s T tl p) (hC : CnC s cH cB cS tn) (h4 : cH ≤ 4 ∧ cB ≤ 4 ∧ cS ≤ 4) (ht : 0 ≤ tn ∧ tn ≤ 1000) (hL : s 18 3 = w8 L) (hv : L = 115 → s 20 0 = v0 ∧ 0 ≤ v0 ∧ v0 ≤ 1000) : ∃ s', fX6_tally s = some s' ∧ FrF s s' ∧ AtC s' T tl p ∧ CnC s' (nxC 104 L cH) (nxC 98 L cB) (nxC 115 L cS) (tn + if L = 115 then v0 else 0) := by
  have fr : ∀ {s : Mem} {k : Nat} {x : Int}, AtC s T tl p → k ≠ 1 → k ≠ 2 → AtC (mu s 18 k x) T tl p := fun h a b => ⟨⟨by rw [mu_same, fu_ne _ _ (Ne.symm a)]; exact h.1.1, fun j hj => by rw [mu_ne _ _ _ (by decide)]; exact h.1.2 j hj⟩, by rw [mu_same, fu_ne _ _ (Ne.symm b)]; exact h.2⟩
  unfold fX6_tally nxC
  rw [hL]
  simp only [w8_eq h0 h1 (show (0 : Int) ≤ 98 by decide) (by decide), w8_eq h0 h1 (show (0 : Int) ≤ 104 by decide) (by decide), w8_eq h0 h1 (show (0 : Int) ≤ 115 by decide) (by decide)]
  obtain ⟨a1, a2, a3, a4⟩ := hC
  by_cases c1 : L = 104
  · subst c1
    refine ⟨_, by rw [if_pos rfl, lt_ok, a1, w32_s (by omega)], FrF.mu (by decide), fr hA (by decide) (by decide), ?_⟩
    simp only [if_true, if_false, Int.reduceEq, Int.add_zero]
    unfold CnC
    rw [mu_same]
    exact ⟨by rw [fu_same], by rw [fu_ne _ _ (by decide)]; exact a2, by rw [fu_ne _ _ (by decide)]; exact a3, by rw [fu_ne _ _ (by decide)]; exact a4⟩
  · by_cases c2 : L = 98
    · subst c2
      refine ⟨_, by rw [if_neg (by decide), if_pos rfl, lt_ok, a2, w32_s (by omega)], FrF.mu (by decide), fr hA (by decide) (by decide), ?_⟩
      simp only [if_true, if_false, Int.reduceEq, Int.add_zero]
      unfold CnC
      rw [mu_same]
      exact ⟨by rw [fu_ne _ _ (by decide)]; exact a1, by rw [fu_same], by rw [fu_ne _ _ (by decide)]; exact a3, by rw [fu_ne _ _ (by decide)]; exact a4⟩
    · by_cases c3 : L = 115
      · subst c3
        have hv := hv rfl
        have e1 : mu s 18 7 ((cS + 1 : Nat) : Int) 20 0 = v0 := by rw [mu_ne _ _ _ (by decide)]; exact hv.1
        have e2 : mu s 18 7 ((cS + 1 : Nat) : Int) 18 8 = tn := by rw [mu_same, fu_ne _ _ (by decide)]; exact a4
        refine ⟨mu (mu s 18 7 ((cS + 1 : Nat) : Int)) 18 8 (tn + v0), ?_, (FrF.mu (by decide)).trans (FrF.mu (by decide)), fr (fr hA (by decide) (by decide)) (by decide) (by decide), ?_⟩
        · rw [if_neg (by decide), if_neg (by decide), if_pos rfl, lt_ok, a3, w32_s (by omega)]
          simp (disch := omega) only [rd_text_numbers, bo_ok, lt_ok, Int.reduceToNat]
          rw [e1, e2, w32_id (by omega) (by omega)]
        · simp only [if_true, if_false, Int.reduceEq]
          unfold CnC
          rw [mu_same]
          exact ⟨by rw [fu_ne _ _ (by decide), mu_same, fu_ne _ _ (by decide)]; exact a1, by rw [fu_ne _ _ (by decide), mu_same, fu_ne _ _ (by decide)]; exact a2, by rw [fu_ne _ _ (by decide), mu_same, fu_same], by rw [fu_same]⟩
      · refine ⟨s, by rw [if_neg c1, if_neg c2, if_neg c3], FrF.rf, hA, ?_⟩
        rw [if_neg c1, if_neg c2, if_neg c3, if_neg c3, Int.add_zero]
        exact ⟨a1, a2, a3, a4⟩
theorem v0_rg {p : Nat} {L : Int} (hg : gdI T tl cH cB cS L p = true) (hL : L = 115) : 0 < wnt L ∧ 0 ≤ nn T tl (epi T tl 0 p) ∧ nn T tl (epi T tl 0 p) ≤ 10 := by
  subst hL
  unfold gdI at hg
  simp at hg
  have := okn_rg hg.1.1.1.1.1.1
  exact ⟨by decide, this⟩
theorem c_firstFault_6 (hT : ∀ k, 0 ≤ T k ∧ T k ≤ 255) (htl : tl ≤ 500) : ∀ (m n i : Nat) {D : Nat → Int} {cH cB cS p : Nat} {s : Mem}, tl ≤ p + m → (i ≤ p ∧ i ≤ 500) → 500 < n + i → DrOk D cH cB cS → AtC s T tl p → CnC s cH cB cS (tnD D cS) → ∃ s', fX6_firstFault_6 n i s = some (flt T tl (m + 1) cH cB cS p, s') ∧ FrF s s' ∧ (flt T tl (m + 1) cH cB cS p = -4 → CnC s' (fin T tl (m + 1) D cH cB cS p).2.1 (fin T tl (m + 1) D cH cB cS p).2.2.1 (fin T tl (m + 1) D cH cB cS p).2.2.2 (tnD (fin T tl (m + 1) D cH cB cS p).1 (fin T tl (m + 1) D cH cB cS p).2.2.2))
  | m, 0, i, D, cH, cB, cS, p, s, e, hi, hn, hD, hA, hC => by
    omega
  | m, n + 1, i, D, cH, cB, cS, p, s, e, hi, hn, hD, hA, hC => by
    rw [fX6_firstFault_6]
    unfold flt fin
    by_cases c : tl ≤ p
    · rw [if_pos c, if_pos c]
      refine ⟨s, ?_, FrF.rf, fun _ => hC⟩
      by_cases c2 : 500 ≤ (i : Int)
      · rw [if_pos c2]
      · rw [if_neg c2, hA.1.1, hA.2, if_pos (by omega)]
    · rw [if_neg c, if_neg c, if_neg (by omega), hA.1.1, hA.2, if_neg (by omega), lt_ok]
      have h4 : cH ≤ 4 ∧ cB ≤ 4 ∧ cS ≤ 4 := hD.1.2
      obtain ⟨r, s5, h1, h2, h3⟩ := c_item hT htl (by omega) hA hC h4
      rw [h1, b2_ok]
      rcases h3 with ⟨rfl, g⟩ | ⟨rfl, r2, h5, h6⟩
      · rw [if_pos rfl, g]
        exact ⟨s5, rfl, h2.f, fun z => absurd z (by simp)⟩
      · rw [if_neg (by decide), h5, b2_ok]
        rcases h6 with ⟨rfl, g⟩ | ⟨rfl, g, h7, h8, h9⟩
        · rw [if_pos rfl, g]
          exact ⟨s5, rfl, h2.f, fun z => absurd z (by simp)⟩
        · rw [if_neg (by decide), if_pos g, if_pos g]
          have hC5 : CnC s5 cH cB cS (tnD D cS) := ⟨(h2.2 5 (by decide) (by decide)).trans hC.1, (h2.2 6 (by decide) (by decide)).trans hC.2.1, (h2.2 7 (by decide) (by decide)).trans hC.2.2.1, (h2.2 8 (by decide) (by decide)).trans hC.2.2.2⟩
          have ht := tnD_rg hD.2.1 cS h4.2.2
          obtain ⟨s6, k1, k2, k3, k4⟩ := c_tally (v0 := nn T tl (epi T tl 0 (p + 1))) (hT p).1 (hT p).2 h7 hC5 h4 (by omega) h8 (fun z => ⟨h9 0 (v0_rg g z).1, (v0_rg g z).2.1, by have := (v0_rg g z).2.2; omega⟩)
          rw [k1, bo_ok, lt_ok, w32_s (by omega)]
          obtain ⟨i1, i2⟩ := item_ok hD g
          rw [← i2] at k4
          have ge := epi_ge T tl (p + 1) (wnt (T p))
          cases m with
          | zero => omega
          | succ m =>
            obtain ⟨s7, q1, q2, q3⟩ := c_firstFault_6 hT htl m n (i + 1) (by omega) (by omega) (by omega) i1 k3 k4
            exact ⟨s7, q1, (h2.f.trans k2).trans q2, q3⟩
theorem c_firstFault (hT : ∀ k, 0 ≤ T k ∧ T k ≤ 255) (htl : tl ≤ 500) (h : TxtC s T tl) : ∃ s', fX6_firstFault s = some (flt T tl 501 0 0 0 0, s') ∧ FrF s s' ∧ (flt T tl 501 0 0 0 0 = -4 → CnC s' (fin T tl 501 D0 0 0 0 0).2.1 (fin T tl 501 D0 0 0 0 0).2.2.1 (fin T tl 501 D0 0 0 0 0).2.2.2 (tnD (fin T tl 501 D0 0 0 0 0).1 (fin T tl 501 D0 0 0 0 0).2.2.2)) := by
  unfold fX6_firstFault fX6_toBegin
  simp only [lt_ok, bo_ok]
  have hA : AtC (mu (mu (mu (mu (mu s 18 2 0) 18 5 0) 18 6 0) 18 7 0) 18 8 0) T tl 0 := by
    refine ⟨⟨?_, fun j hj => ?_⟩, ?_⟩
    · simp (disch := decide) only [mu_same, fu_ne]; exact h.1
    · simp (disch := decide) only [mu_ne]; exact h.2 j hj
    · simp (disch := decide) only [mu_same, fu_ne, fu_same]; rfl
  have hC : CnC (mu (mu (mu (mu (mu s 18 2 0) 18 5 0) 18 6 0) 18 7 0) 18 8 0) 0 0 0 (tnD D0 0) := by
    unfold CnC
    simp (disch := decide) only [mu_same, fu_ne, fu_same]
    exact ⟨rfl, rfl, rfl, rfl⟩
  obtain ⟨s7, q1, q2, q3⟩ := c_firstFault_6 hT htl 500 600 0 (by omega) (by omega) (by omega) D0_ok hA hC
  exact ⟨s7, q1, FrF.trans ((((FrF.mu (by decide)).trans (FrF.mu (by decide))).trans (FrF.mu (by decide))).trans (FrF.mu (by decide)) |>.trans (FrF.mu (by decide))) q2, q3⟩
theorem m_reads_17 (hT : ∀ k, 0 ≤ T k ∧ T k ≤ 255) (htl : tl ≤ 500) : ∀ (m n : Nat) {D : Nat → Int} {cH cB cS p : Nat} {s : Mem}, tl ≤ p + m → m < n → TxtM s T tl → DrOk D cH cB cS → DrM s D → ∃ s' w x, fX9_reads_17 n (mp s true p) = some (flt T tl (m + 1) cH cB cS p, mp s' w x) ∧ FrI s s' ∧ (flt T tl (m + 1) cH cB cS p = -4 → DrM s' (fin T tl (m + 1) D cH cB cS p).1)
  | m, 0, _, _, _, _, _, _, _, hn, _, _, _ => absurd hn (by omega)
  | m, n + 1, D, cH, cB, cS, p, s, e, hn, hX, hD, hM => by
    rw [fX9_reads_17]
    unfold flt fin
    rw [mp_f s true p (by decide) (by decide), mp_7, hX.1]
    by_cases c : tl ≤ p
    · rw [if_pos c, if_pos c, if_pos (by omega)]
      exact ⟨s, true, p, rfl, FrI.rf, fun _ => hM⟩
    · rw [if_neg c, if_neg c, if_neg (by omega), lt_ok, m_byteAt hX htl, b2_ok, lt_ok, mp_7, w32_s (by omega), mp_at, if_pos (by omega)]
      obtain ⟨s7, h1, s2, f2, h2⟩ := m_readsItem hX htl hT hM hD.1 (p := p + 1) (by omega) (T p)
      rw [h1, bo_ok]
      by_cases g : gdI T tl cH cB cS (T p) (p + 1) = true
      · rw [if_pos g] at h2
        rw [if_pos g, if_pos g, h2.1, mp_8, if_neg (by decide)]
        have ge := epi_ge T tl (p + 1) (wnt (T p))
        cases m with
        | zero => omega
        | succ m =>
          have hX2 : TxtM s2 T tl := ⟨(f2.2.1 6 (by decide) (by decide)).trans hX.1, fun k hk => by rw [f2.1 4 (by decide) (by decide)]; exact hX.2 k hk⟩
          obtain ⟨s', w, x, q1, q2, q3⟩ := m_reads_17 hT htl m n (p := epi T tl (wnt (T p)) (p + 1)) (by omega) (by omega) hX2 (item_ok hD g).1 h2.2
          exact ⟨s', w, x, q1, f2.trans q2, q3⟩
      · rw [if_neg g] at h2
        obtain ⟨y, h2⟩ := h2
        rw [if_neg g, if_neg g, h2, mp_8, if_pos (by decide)]
        exact ⟨s2, false, y, rfl, f2, fun z => absurd z (by omega)⟩
theorem m_begins : ∀ (m n k : Nat) (b : Nat) (s : Mem), k + m = 186 → m < n → b ≤ 186 → (∀ a, a < k → s 1 (b + a) = D0 a) → ∃ s', fX9_begins_2 n b k s = some s' ∧ (∀ a, a < 186 → s' 1 (b + a) = D0 a) ∧ (∀ c, c ≠ 1 → s' c = s c) ∧ (∀ a, (a < b ∨ b + 186 ≤ a) → s' 1 a = s 1 a)
  | 0, n + 1, k, b, s, e, _, _, h => ⟨s, by rw [fX9_begins_2, if_pos (by omega)], fun a ha => h a (by omega), fun _ _ => rfl, fun _ _ => rfl⟩
  | m + 1, n + 1, k, b, s, e, hn, hb, h => by
    have key : fX9_begins_2 (n + 1) b k s = fX9_begins_2 n b ((k + 1 : Nat) : Int) (mu s 1 (b + k) (D0 k)) := by
      rw [fX9_begins_2, if_neg (by omega)]
      unfold fX9_begins_33 fX9_begins_45 D0
      simp (disch := omega) only [nab, na_0, na_1, na_2, na_3, na_4, na_5, na_6, na_8, na_10, na_12, na_16, na_24, na_36, na_52, na_76, na_120, na_172, na_186, nb_0, nb_1, nb_2, nb_3, nb_4, nb_5, nb_6, nb_8, nb_10, nb_12, nb_16, nb_24, nb_36, nb_52, nb_76, nb_120, nb_172, nb_186, nm_2, nm_3, nm_4, nm_5, nm_6, nm_8, nm_10, nm_12, nm_16, nm_24, nm_36, nm_52, nm_76, nm_120, nm_172, nm_186, nn_2, nn_3, nn_4, nn_5, nn_6, nn_8, nn_10, nn_12, nn_16, nn_24, nn_36, nn_52, nn_76, nn_120, nn_172, nn_186, wr_m_sea, bo_ok, lt_ok, Int.toNat_natCast]
      by_cases c1 : k < 36
      · rw [if_pos (by omega), if_neg (by omega), if_neg (by omega), if_neg (by omega)]
      · rw [if_neg (by omega)]
        by_cases c2 : 52 ≤ k
        · rw [if_pos (by omega), if_neg (show ¬ (36 ≤ k ∧ k < 52) by omega)]
          by_cases c3 : k = 182
          · rw [if_pos (by omega), if_pos c3]
          · rw [if_neg (by omega), if_neg c3]
        · rw [if_neg (by omega), if_pos (by omega)]
    obtain ⟨s', q1, q2, q3, q4⟩ := m_begins m n (k + 1) b (mu s 1 (b + k) (D0 k)) (by omega) (by omega) hb (fun a ha => by
      rw [mu_same]
      by_cases c : a = k
      · subst c; rw [fu_same]
      · rw [fu_ne _ _ (by omega)]; exact h a (by omega))
    refine ⟨s', key.trans q1, q2, fun c hc => by rw [q3 c hc, mu_ne _ _ _ hc], fun a ha => by rw [q4 a ha, mu_same, fu_ne _ _ (by omega)]⟩
  | _, 0, _, _, _, _, hn, _, _ => absurd hn (by omega)
theorem m_reads (hT : ∀ k, 0 ≤ T k ∧ T k ≤ 255) (htl : tl ≤ 500) (h : TxtM s T tl) : ∃ s', fX9_reads s = some (flt T tl 501 0 0 0 0, s') ∧ FrI s s' ∧ (flt T tl 501 0 0 0 0 = -4 → DrM s' (fin T tl 501 D0 0 0 0 0).1) := by
  obtain ⟨s2, q1, q2, q3, q4⟩ := m_begins 186 600 0 186 s (by omega) (by omega) (by omega) (fun a ha => absurd ha (by omega))
  have fr : FrI s s2 := ⟨fun k _ h1 => q3 k h1, fun f _ _ => by rw [q3 0 (by decide)], fun k hk => q4 k (by omega)⟩
  have e : fX9_reads s = fX9_reads_17 600 (mp s2 true 0) := by
    have q1' : fX9_begins 186 s = some s2 := q1
    unfold fX9_reads
    rw [q1', bo_ok, lt_ok, lt_ok, mu_swap _ _ _ (by omega)]
    rfl
  obtain ⟨s', w, x, k1, k2, k3⟩ := m_reads_17 hT htl 500 600 (p := 0) (s := s2) (by omega) (by omega) ⟨(fr.2.1 6 (by decide) (by decide)).trans h.1, fun k hk => by rw [fr.1 4 (by decide) (by decide)]; exact h.2 k hk⟩ D0_ok q2
  exact ⟨_, e.trans k1, (fr.trans k2).trans (FrI.mp _ _ _), fun z => (k3 z).mp w x⟩
theorem InvM.frI {N K : Nat → Int} {kc : Nat} (h : InvM s D N K kc T tl) (hf : FrI s s') : InvM s' D N K kc T tl := by
  obtain ⟨a1, a2, a3, a4⟩ := h
  refine ⟨fun k hk => by rw [hf.2.2 k hk]; exact a1 k hk, fun k hk => by rw [hf.1 2 (by decide) (by decide)]; exact a2 k hk, ⟨by rw [hf.2.1 4 (by decide) (by decide)]; exact a3.1, fun k hk => by rw [hf.1 3 (by decide) (by decide)]; exact a3.2 k hk⟩, ⟨by rw [hf.2.1 6 (by decide) (by decide)]; exact a4.1, fun k hk => by rw [hf.1 4 (by decide) (by decide)]; exact a4.2 k hk⟩⟩
theorem InvC.frF {nH nB nS : Nat} {N K : Nat → Int} {kc : Nat} (h : InvC s D nH nB nS N K kc T tl) (hO : SeaOk D nH nB nS) (hf : FrF s s') : InvC s' D nH nB nS N K kc T tl :=
  ⟨h.1.of hO.b (fun k a b => hf.1 k (by omega) (by omega)), h.2.1.of hO.b (fun k a b => hf.1 k (by omega) (by omega)), h.2.2.1.fr (hf.1 _ (by decide) (by decide)) (hf.1 _ (by decide) (by decide)) (hf.1 _ (by decide) (by decide)), h.2.2.2.1.of (by rw [hf.1 _ (by decide) (by decide)]) (fun k a b => hf.1 k (by omega) (by omega)), h.2.2.2.2.of hf.2 (hf.1 _ (by decide) (by decide))⟩
theorem call_fault (hI : Inv s) : ∃ r s1 s2, fX8_fault s = some (r, s1) ∧ fX9_fault s1 = some (r, s2) ∧ Inv s2 := by
  obtain ⟨D, nH, nB, nS, N, K, kc, T, tl, hV, hM, hC⟩ := hI
  obtain ⟨s1, h1, h2, _⟩ := c_firstFault hV.2.2.2.2.2.2 hV.2.2.2.2.2.1 hC.2.2.2.2
  have hM1 : InvM s1 D N K kc T tl := hM.fr (fun k hk => h2.1 k (by omega) (by omega))
  have hC1 := hC.frF hV.1 h2
  obtain ⟨s2, q1, q2, _⟩ := m_reads hV.2.2.2.2.2.2 hV.2.2.2.2.2.1 hM1.thrown.2.2.2
  refine ⟨flt T tl 501 0 0 0 0, s1, s2, ?_, ?_, D, nH, nB, nS, N, K, kc, T, tl, hV, hM1.thrown.frI q2, hC1.fr (fun k hk => ?_)⟩
  · unfold fX8_fault; rw [h1, b2_ok]
  · unfold fX9_fault; rw [lt_ok, q1, b2_ok]
  · rw [q2.1 k (by omega) (by omega), mu_ne _ _ _ (by omega)]
end FA

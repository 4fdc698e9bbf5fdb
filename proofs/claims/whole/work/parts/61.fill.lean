/-! ===== a sea is filled ===== -/
section FI
variable {T : Nat → Int} {tl : Nat} {s s' : Mem} {D : Nat → Int} {cH cB cS : Nat}
theorem c_copyRow_2 {c n : Nat} (hs : (ab_sh c).1 = 2 ∧ (ab_sh c).2.1 < 1000) (hl : lenI c = n) (hn : n ≤ 6) (hc : c ≠ 20) (s0 : Mem) : ∀ (m f k : Nat) (s : Mem), k + m = n → m < f → (∀ a, a ≠ c → s a = s0 a) → (∀ a, a < k → s c a = s0 20 a) → ∃ s', fX5_copyRow_2 f 20 c k s = some s' ∧ (∀ a, a < n → s' c a = s0 20 a) ∧ (∀ a, a ≠ c → s' a = s0 a)
  | 0, f + 1, k, s, e, _, h1, h2 => by
    refine ⟨s, ?_, fun a ha => h2 a (by omega), h1⟩
    rw [fX5_copyRow_2, ck_ok hs, hl, if_pos (by omega)]
  | m + 1, f + 1, k, s, e, hf, h1, h2 => by
    have h20 : lenI 20 = 6 := by decide +kernel
    rw [fX5_copyRow_2, ck_ok hs, hl, if_neg (by omega), ck_ok (by decide +kernel), h20, if_neg (by omega), rdI_of h20 (by omega) (by omega), bo_ok, wrI_of hl (by omega) (by omega), bo_ok, lt_ok, w32_s (by omega), Int.toNat_natCast]
    refine c_copyRow_2 hs hl hn hc s0 m f (k + 1) _ (by omega) (by omega) (fun a ha => by rw [mu_ne _ _ _ ha]; exact h1 a ha) (fun a ha => ?_)
    rw [mu_same]
    by_cases c1 : a = k
    · subst c1; rw [fu_same, h1 _ (Ne.symm hc)]
    · rw [fu_ne _ _ c1]; exact h2 a (by omega)
  | _, 0, _, _, _, hf, _, _ => absurd hf (by omega)
theorem c_copyRow {c n : Nat} (hs : (ab_sh c).1 = 2 ∧ (ab_sh c).2.1 < 1000) (hl : lenI c = n) (hn : n ≤ 6) (hc : c ≠ 20) : ∃ s', fX5_copyRow 20 c s = some s' ∧ (∀ a, a < n → s' c a = s 20 a) ∧ (∀ a, a ≠ c → s' a = s a) :=
  c_copyRow_2 hs hl hn hc s n 600 0 s (by omega) (by omega) (fun _ _ => rfl) (fun a ha => absurd ha (by omega))
theorem gd_L {p : Nat} {L : Int} (hg : gdI T tl cH cB cS L p = true) : L = 104 ∨ L = 98 ∨ L = 115 ∨ L = 100 ∨ L = 103 ∨ L = 114 ∨ L = 119 := by
  unfold gdI at hg
  by_cases c1 : L = 104
  · simp [c1]
  · by_cases c2 : L = 98
    · simp [c2]
    · by_cases c3 : L = 115
      · simp [c3]
      · by_cases c4 : L = 100
        · simp [c4]
        · by_cases c5 : L = 103
          · simp [c5]
          · by_cases c6 : L = 114
            · simp [c6]
            · by_cases c7 : L = 119
              · simp [c7]
              · simp [c1, c2, c3, c4, c5, c6, c7] at hg
theorem sh_h : ∀ j, j < 4 → (ab_sh (23 + j)).1 = 2 ∧ (ab_sh (23 + j)).2.1 < 1000 := by decide +kernel
theorem sh_b : ∀ j, j < 4 → (ab_sh (28 + j)).1 = 2 ∧ (ab_sh (28 + j)).2.1 < 1000 := by decide +kernel
theorem sh_q : ∀ j, j < 4 → (ab_sh (33 + j)).1 = 2 ∧ (ab_sh (33 + j)).2.1 < 1000 := by decide +kernel
theorem c_take (hS : SeaC s D cH cB cS) (h4 : cH ≤ 4 ∧ cB ≤ 4 ∧ cS ≤ 4) {L : Int} {p : Nat} (hg : gdI T tl cH cB cS L p = true) (hn : ∀ j, j < wnt L → s 20 j = nn T tl (epi T tl j p)) : ∃ s', fX5_take L 20 s = some s' ∧ SeaC s' (efI T tl D cH cB cS L p) (nxC 104 L cH) (nxC 98 L cB) (nxC 115 L cS) ∧ ∀ c, (c < 21 ∨ 48 ≤ c) → s' c = s c := by
  have hg' := hg
  obtain ⟨k1, k2, k3, k4, k5, k6, k7, k8, k9, k10⟩ := hS
  unfold fX5_take
  rcases gd_L hg with rfl | rfl | rfl | rfl | rfl | rfl | rfl
  · unfold gdI at hg'
    simp only [if_true, Bool.and_eq_true, decide_eq_true_eq] at hg'
    have h3 := hg'.2
    obtain ⟨s4, g1, g2, g3⟩ := c_copyRow (s := s) (sh_h cH h3) (len_sea_harbours cH h3) (by omega) (by omega)
    have w : wnt 104 = 4 := rfl
    rw [w] at hn
    have e0 := g2 0 (by omega)
    have e1 := g2 1 (by omega)
    have e2 := g2 2 (by omega)
    have e3 := g2 3 (by omega)
    rw [hn 0 (by omega)] at e0
    rw [hn 1 (by omega)] at e1
    rw [hn 2 (by omega)] at e2
    rw [hn 3 (by omega)] at e3
    refine ⟨mu s4 21 0 ((cH + 1 : Nat) : Int), ?_, ?_, fun c hc => ?_⟩
    · simp only [if_false, if_true, Int.reduceEq]
      rw [k1]
      simp (disch := omega) only [rdG_sea_harbours, bo_ok, Int.toNat_natCast]
      rw [g1, bo_ok, lt_ok, g3 _ (by omega), k1, w32_s (by omega)]
    · unfold efI nxC
      simp only [if_false, if_true, Int.reduceEq]
      refine ⟨by rw [mu_same, fu_same], ?_, ?_, ?_, fun j f hj hf => ?_, fun i f hi hf => ?_, fun q f hq hf => ?_, fun i j hi hj => ?_, fun q t hq ht => ?_, fun x hx => ?_⟩
      · rw [mu_same, fu_ne _ _ (by decide), g3 _ (by omega)]; exact k2
      · rw [mu_same, fu_ne _ _ (by decide), g3 _ (by omega)]; exact k3
      · rw [mu_same, fu_ne _ _ (by decide), g3 _ (by omega)]
        simp (disch := omega) only [fu_ne]; exact k4
      · rw [mu_ne _ _ _ (by omega)]
        by_cases c : j = cH
        · subst c
          rcases (show f = 0 ∨ f = 1 ∨ f = 2 ∨ f = 3 by omega) with rfl | rfl | rfl | rfl
          · simp (disch := omega) only [fu_ne, fu_same, Nat.add_zero]; exact e0
          · simp (disch := omega) only [fu_ne, fu_same]; exact e1
          · simp (disch := omega) only [fu_ne, fu_same]; exact e2
          · simp (disch := omega) only [fu_ne, fu_same]; exact e3
        · rw [g3 _ (by omega)]
          simp (disch := omega) only [fu_ne]
          exact k5 j f (by omega) hf
      · rw [mu_ne _ _ _ (by omega), g3 _ (by omega)]
        simp (disch := omega) only [fu_ne]
        exact k6 i f hi hf
      · rw [mu_ne _ _ _ (by omega), g3 _ (by omega)]
        simp (disch := omega) only [fu_ne]
        exact k7 q f hq hf
      · rw [mu_ne _ _ _ (by omega), g3 _ (by omega)]
        simp (disch := omega) only [fu_ne]
        exact k8 i j hi hj
      · rw [mu_ne _ _ _ (by omega), g3 _ (by omega)]
        simp (disch := omega) only [fu_ne]
        exact k9 q t hq ht
      · rw [mu_ne _ _ _ (by omega), g3 _ (by omega)]
        simp (disch := omega) only [fu_ne]
        exact k10 x hx
    · rw [mu_ne _ _ _ (by omega), g3 _ (by omega)]
  · unfold gdI at hg'
    simp only [if_true, if_false, Int.reduceEq, Bool.and_eq_true, decide_eq_true_eq] at hg'
    have h3 := hg'.2
    obtain ⟨s4, g1, g2, g3⟩ := c_copyRow (s := s) (sh_b cB h3) (len_sea_sorts cB h3) (by omega) (by omega)
    have w : wnt 98 = 5 := rfl
    rw [w] at hn
    have e0 := g2 0 (by omega)
    have e1 := g2 1 (by omega)
    have e2 := g2 2 (by omega)
    have e3 := g2 3 (by omega)
    have e4 := g2 4 (by omega)
    rw [hn 0 (by omega)] at e0
    rw [hn 1 (by omega)] at e1
    rw [hn 2 (by omega)] at e2
    rw [hn 3 (by omega)] at e3
    rw [hn 4 (by omega)] at e4
    refine ⟨mu s4 21 1 ((cB + 1 : Nat) : Int), ?_, ?_, fun c hc => ?_⟩
    · simp only [if_true]
      rw [k2]
      simp (disch := omega) only [rdG_sea_sorts, bo_ok, Int.toNat_natCast]
      rw [g1, bo_ok, lt_ok, g3 _ (by omega), k2, w32_s (by omega)]
    · unfold efI nxC
      simp only [if_false, if_true, Int.reduceEq]
      refine ⟨?_, by rw [mu_same, fu_same], ?_, ?_, fun j f hj hf => ?_, fun i f hi hf => ?_, fun q f hq hf => ?_, fun i j hi hj => ?_, fun q t hq ht => ?_, fun x hx => ?_⟩
      · rw [mu_same, fu_ne _ _ (by decide), g3 _ (by omega)]; exact k1
      · rw [mu_same, fu_ne _ _ (by decide), g3 _ (by omega)]; exact k3
      · rw [mu_same, fu_ne _ _ (by decide), g3 _ (by omega)]
        simp (disch := omega) only [fu_ne]; exact k4
      · rw [mu_ne _ _ _ (by omega), g3 _ (by omega)]
        simp (disch := omega) only [fu_ne]
        exact k5 j f hj hf
      · rw [mu_ne _ _ _ (by omega)]
        by_cases c : i = cB
        · subst c
          rcases (show f = 0 ∨ f = 1 ∨ f = 2 ∨ f = 3 ∨ f = 4 by omega) with rfl | rfl | rfl | rfl | rfl
          · simp (disch := omega) only [fu_ne, fu_same, Nat.add_zero]; exact e0
          · simp (disch := omega) only [fu_ne, fu_same]; exact e1
          · simp (disch := omega) only [fu_ne, fu_same]; exact e2
          · simp (disch := omega) only [fu_ne, fu_same]; exact e3
          · simp (disch := omega) only [fu_ne, fu_same]; exact e4
        · rw [g3 _ (by omega)]
          simp (disch := omega) only [fu_ne]
          exact k6 i f (by omega) hf
      · rw [mu_ne _ _ _ (by omega), g3 _ (by omega)]
        simp (disch := omega) only [fu_ne]
        exact k7 q f hq hf
      · rw [mu_ne _ _ _ (by omega), g3 _ (by omega)]
        simp (disch := omega) only [fu_ne]
        exact k8 i j hi hj
      · rw [mu_ne _ _ _ (by omega), g3 _ (by omega)]
        simp (disch := omega) only [fu_ne]
        exact k9 q t hq ht
      · rw [mu_ne _ _ _ (by omega), g3 _ (by omega)]
        simp (disch := omega) only [fu_ne]
        exact k10 x hx
    · rw [mu_ne _ _ _ (by omega), g3 _ (by omega)]
  · unfold gdI at hg'
    simp only [if_true, if_false, Int.reduceEq, Bool.and_eq_true, decide_eq_true_eq] at hg'
    have h3 := hg'.2
    obtain ⟨s4, g1, g2, g3⟩ := c_copyRow (s := s) (sh_q cS h3) (len_sea_storms cS h3) (by omega) (by omega)
    have w : wnt 115 = 6 := rfl
    rw [w] at hn
    have e0 := g2 0 (by omega)
    have e1 := g2 1 (by omega)
    have e2 := g2 2 (by omega)
    have e3 := g2 3 (by omega)
    have e4 := g2 4 (by omega)
    have e5 := g2 5 (by omega)
    rw [hn 0 (by omega)] at e0
    rw [hn 1 (by omega)] at e1
    rw [hn 2 (by omega)] at e2
    rw [hn 3 (by omega)] at e3
    rw [hn 4 (by omega)] at e4
    rw [hn 5 (by omega)] at e5
    refine ⟨mu s4 21 2 ((cS + 1 : Nat) : Int), ?_, ?_, fun c hc => ?_⟩
    · simp only [if_false, if_true, Int.reduceEq]
      rw [k3]
      simp (disch := omega) only [rdG_sea_storms, bo_ok, Int.toNat_natCast]
      rw [g1, bo_ok, lt_ok, g3 _ (by omega), k3, w32_s (by omega)]
    · unfold efI nxC
      simp only [if_false, if_true, Int.reduceEq]
      refine ⟨?_, ?_, by rw [mu_same, fu_same], ?_, fun j f hj hf => ?_, fun i f hi hf => ?_, fun q f hq hf => ?_, fun i j hi hj => ?_, fun q t hq ht => ?_, fun x hx => ?_⟩
      · rw [mu_same, fu_ne _ _ (by decide), g3 _ (by omega)]; exact k1
      · rw [mu_same, fu_ne _ _ (by decide), g3 _ (by omega)]; exact k2
      · rw [mu_same, fu_ne _ _ (by decide), g3 _ (by omega)]
        simp (disch := omega) only [fu_ne]; exact k4
      · rw [mu_ne _ _ _ (by omega), g3 _ (by omega)]
        simp (disch := omega) only [fu_ne]
        exact k5 j f hj hf
      · rw [mu_ne _ _ _ (by omega), g3 _ (by omega)]
        simp (disch := omega) only [fu_ne]
        exact k6 i f hi hf
      · rw [mu_ne _ _ _ (by omega)]
        by_cases c : q = cS
        · subst c
          rcases (show f = 0 ∨ f = 1 ∨ f = 2 ∨ f = 3 ∨ f = 4 ∨ f = 5 by omega) with rfl | rfl | rfl | rfl | rfl | rfl
          · simp (disch := omega) only [fu_ne, fu_same, Nat.add_zero]; exact e0
          · simp (disch := omega) only [fu_ne, fu_same]; exact e1
          · simp (disch := omega) only [fu_ne, fu_same]; exact e2
          · simp (disch := omega) only [fu_ne, fu_same]; exact e3
          · simp (disch := omega) only [fu_ne, fu_same]; exact e4
          · simp (disch := omega) only [fu_ne, fu_same]; exact e5
        · rw [g3 _ (by omega)]
          simp (disch := omega) only [fu_ne]
          exact k7 q f (by omega) hf
      · rw [mu_ne _ _ _ (by omega), g3 _ (by omega)]
        simp (disch := omega) only [fu_ne]
        exact k8 i j hi hj
      · rw [mu_ne _ _ _ (by omega), g3 _ (by omega)]
        simp (disch := omega) only [fu_ne]
        exact k9 q t hq ht
      · rw [mu_ne _ _ _ (by omega), g3 _ (by omega)]
        simp (disch := omega) only [fu_ne]
        exact k10 x hx
    · rw [mu_ne _ _ _ (by omega), g3 _ (by omega)]
  · unfold gdI at hg'
    simp only [if_true, if_false, Int.reduceEq, Bool.and_eq_true] at hg'
    have w : wnt 100 = 3 := rfl
    rw [w] at hn
    obtain ⟨a, ea⟩ := okn_nat hg'.1.1
    obtain ⟨b, eb⟩ := okn_nat hg'.1.2
    have ra := okn_rg hg'.1.1
    have rb := okn_rg hg'.1.2
    have n0 := hn 0 (by omega)
    have n1 := hn 1 (by omega)
    have n2 := hn 2 (by omega)
    rw [ea] at ra n0
    rw [eb] at rb n1
    refine ⟨mu s (38 + a) b (nn T tl (epi T tl 2 p)), ?_, ?_, fun c hc => by rw [mu_ne _ _ _ (by omega)]⟩
    · simp only [if_false, if_true, Int.reduceEq]
      simp (disch := omega) only [rd_text_numbers, bo_ok, Int.reduceToNat, n0, n1, n2, rdG_sea_miles, Int.toNat_natCast, wr_sea_miles]
    · unfold efI nxC
      simp only [if_false, if_true, Int.reduceEq, ea, eb, Int.toNat_natCast]
      refine ⟨by rw [mu_ne _ _ _ (by omega)]; exact k1, by rw [mu_ne _ _ _ (by omega)]; exact k2, by rw [mu_ne _ _ _ (by omega)]; exact k3, by rw [mu_ne _ _ _ (by omega), fu_ne _ _ (by omega)]; exact k4, fun j f hj hf => ?_, fun i f hi hf => ?_, fun q f hq hf => ?_, fun i j hi hj => ?_, fun q t hq ht => ?_, fun x hx => ?_⟩
      · rw [mu_ne _ _ _ (by omega), fu_ne _ _ (by omega)]; exact k5 j f hj hf
      · rw [mu_ne _ _ _ (by omega), fu_ne _ _ (by omega)]; exact k6 i f hi hf
      · rw [mu_ne _ _ _ (by omega), fu_ne _ _ (by omega)]; exact k7 q f hq hf
      · by_cases c : i = a
        · subst c
          rw [mu_same]
          by_cases c2 : j = b
          · subst c2; rw [fu_same, show 36 + 4 * i + j = 36 + (4 * i + j) by omega, fu_same]
          · rw [fu_ne _ _ c2, fu_ne _ _ (by omega)]; exact k8 i j hi hj
        · rw [mu_ne _ _ _ (by omega), fu_ne _ _ (by omega)]; exact k8 i j hi hj
      · rw [mu_ne _ _ _ (by omega), fu_ne _ _ (by omega)]; exact k9 q t hq ht
      · rw [mu_ne _ _ _ (by omega), fu_ne _ _ (by omega)]; exact k10 x hx
  · unfold gdI at hg'
    simp only [if_true, if_false, Int.reduceEq, Bool.and_eq_true] at hg'
    have w : wnt 103 = 3 := rfl
    rw [w] at hn
    obtain ⟨a, ea⟩ := okn_nat hg'.1.1
    obtain ⟨b, eb⟩ := okn_nat hg'.1.2
    have ra := okn_rg hg'.1.1
    have rb := okn_rg hg'.1.2
    have n0 := hn 0 (by omega)
    have n1 := hn 1 (by omega)
    have n2 := hn 2 (by omega)
    rw [ea] at ra n0
    rw [eb] at rb n1
    refine ⟨mu s (43 + a) b (nn T tl (epi T tl 2 p)), ?_, ?_, fun c hc => by rw [mu_ne _ _ _ (by omega)]⟩
    · simp only [if_false, if_true, Int.reduceEq]
      simp (disch := omega) only [rd_text_numbers, bo_ok, Int.reduceToNat, n0, n1, n2, rdG_sea_glass, Int.toNat_natCast, wr_sea_glass]
    · unfold efI nxC
      simp only [if_false, if_true, Int.reduceEq, ea, eb, Int.toNat_natCast]
      refine ⟨by rw [mu_ne _ _ _ (by omega)]; exact k1, by rw [mu_ne _ _ _ (by omega)]; exact k2, by rw [mu_ne _ _ _ (by omega)]; exact k3, by rw [mu_ne _ _ _ (by omega), fu_ne _ _ (by omega)]; exact k4, fun j f hj hf => ?_, fun i f hi hf => ?_, fun q f hq hf => ?_, fun i j hi hj => ?_, fun q t hq ht => ?_, fun x hx => ?_⟩
      · rw [mu_ne _ _ _ (by omega), fu_ne _ _ (by omega)]; exact k5 j f hj hf
      · rw [mu_ne _ _ _ (by omega), fu_ne _ _ (by omega)]; exact k6 i f hi hf
      · rw [mu_ne _ _ _ (by omega), fu_ne _ _ (by omega)]; exact k7 q f hq hf
      · rw [mu_ne _ _ _ (by omega), fu_ne _ _ (by omega)]; exact k8 i j hi hj
      · by_cases c : q = a
        · subst c
          rw [mu_same]
          by_cases c2 : t = b
          · subst c2; rw [fu_same, show 76 + 24 * q + t = 76 + (24 * q + t) by omega, fu_same]
          · rw [fu_ne _ _ c2, fu_ne _ _ (by omega)]; exact k9 q t hq ht
        · rw [mu_ne _ _ _ (by omega), fu_ne _ _ (by omega)]; exact k9 q t hq ht
      · rw [mu_ne _ _ _ (by omega), fu_ne _ _ (by omega)]; exact k10 x hx
  · unfold gdI at hg'
    simp only [if_true, if_false, Int.reduceEq, Bool.and_eq_true] at hg'
    have w : wnt 114 = 2 := rfl
    rw [w] at hn
    obtain ⟨a, ea⟩ := okn_nat hg'.1
    have ra := okn_rg hg'.1
    have n0 := hn 0 (by omega)
    have n1 := hn 1 (by omega)
    rw [ea] at ra n0
    refine ⟨mu s 47 a (nn T tl (epi T tl 1 p)), ?_, ?_, fun c hc => by rw [mu_ne _ _ _ (by omega)]⟩
    · simp only [if_false, if_true, Int.reduceEq]
      simp (disch := omega) only [rd_text_numbers, bo_ok, Int.reduceToNat, n0, n1, Int.toNat_natCast, wr_sea_loss]
    · unfold efI nxC
      simp only [if_false, if_true, Int.reduceEq, ea, Int.toNat_natCast]
      refine ⟨by rw [mu_ne _ _ _ (by omega)]; exact k1, by rw [mu_ne _ _ _ (by omega)]; exact k2, by rw [mu_ne _ _ _ (by omega)]; exact k3, by rw [mu_ne _ _ _ (by omega), fu_ne _ _ (by omega)]; exact k4, fun j f hj hf => ?_, fun i f hi hf => ?_, fun q f hq hf => ?_, fun i j hi hj => ?_, fun q t hq ht => ?_, fun x hx => ?_⟩
      · rw [mu_ne _ _ _ (by omega), fu_ne _ _ (by omega)]; exact k5 j f hj hf
      · rw [mu_ne _ _ _ (by omega), fu_ne _ _ (by omega)]; exact k6 i f hi hf
      · rw [mu_ne _ _ _ (by omega), fu_ne _ _ (by omega)]; exact k7 q f hq hf
      · rw [mu_ne _ _ _ (by omega), fu_ne _ _ (by omega)]; exact k8 i j hi hj
      · rw [mu_ne _ _ _ (by omega), fu_ne _ _ (by omega)]; exact k9 q t hq ht
      · rw [mu_same]
        by_cases c : x = a
        · subst c; rw [fu_same, fu_same]
        · rw [fu_ne _ _ c, fu_ne _ _ (by omega)]; exact k10 x hx
  · have w : wnt 119 = 1 := rfl
    rw [w] at hn
    have n0 := hn 0 (by omega)
    refine ⟨mu s 21 9 (nn T tl (epi T tl 0 p)), ?_, ?_, fun c hc => by rw [mu_ne _ _ _ (by omega)]⟩
    · simp only [if_false, if_true, Int.reduceEq]
      simp (disch := omega) only [rd_text_numbers, bo_ok, Int.reduceToNat, n0, lt_ok]
    · unfold efI nxC
      simp only [if_false, if_true, Int.reduceEq]
      refine ⟨by rw [mu_same, fu_ne _ _ (by decide)]; exact k1, by rw [mu_same, fu_ne _ _ (by decide)]; exact k2, by rw [mu_same, fu_ne _ _ (by decide)]; exact k3, by rw [mu_same, fu_same, fu_same], fun j f hj hf => ?_, fun i f hi hf => ?_, fun q f hq hf => ?_, fun i j hi hj => ?_, fun q t hq ht => ?_, fun x hx => ?_⟩
      · rw [mu_ne _ _ _ (by omega), fu_ne _ _ (by omega)]; exact k5 j f hj hf
      · rw [mu_ne _ _ _ (by omega), fu_ne _ _ (by omega)]; exact k6 i f hi hf
      · rw [mu_ne _ _ _ (by omega), fu_ne _ _ (by omega)]; exact k7 q f hq hf
      · rw [mu_ne _ _ _ (by omega), fu_ne _ _ (by omega)]; exact k8 i j hi hj
      · rw [mu_ne _ _ _ (by omega), fu_ne _ _ (by omega)]; exact k9 q t hq ht
      · rw [mu_ne _ _ _ (by omega), fu_ne _ _ (by omega)]; exact k10 x hx
end FI

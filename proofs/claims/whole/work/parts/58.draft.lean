/-! ===== the draft's bounds ===== -/
def bl (k : Nat) : Int := if (36 ≤ k ∧ k < 52) ∨ k = 182 then 1 else 0
def bh (k : Nat) : Int :=
  if k < 16 then ([99, 9, 10, 15] : List Int).getD (k % 4) 0 else
  if k < 36 then ([8, 9, 99, 999, 9] : List Int).getD ((k - 16) % 5) 0 else
  if k < 52 then 99 else
  if k < 76 then ([10, 23, 9, 9, 24, 3] : List Int).getD ((k - 52) % 6) 0 else
  if k < 172 then 9 else
  if k < 182 then 200 else 9
def Bd (D : Nat → Int) : Prop := ∀ k, k < 183 → bl k ≤ D k ∧ D k ≤ bh k
theorem Bd.put {D : Nat → Int} (h : Bd D) {k : Nat} {x : Int} (hx : bl k ≤ x ∧ x ≤ bh k) : Bd (fu D k x) := by
  intro a ha
  by_cases c : a = k
  · subst c; rw [fu_same]; exact hx
  · rw [fu_ne _ _ c]; exact h a ha
theorem Bd.put2 {D : Nat → Int} (h : Bd D) {k : Nat} {x : Int} (hk : 183 ≤ k) : Bd (fu D k x) := by
  intro a ha
  rw [fu_ne _ _ (by omega)]; exact h a ha
/-- the tenths of the STORMS so far -/
def tnD (D : Nat → Int) (cS : Nat) : Int := itr (fun q a => a + D (52 + 6 * q)) cS 0 0
theorem tnD_s (D : Nat → Int) (c : Nat) : tnD D (c + 1) = tnD D c + D (52 + 6 * c) := by
  unfold tnD; rw [itr_last, Nat.zero_add]
theorem tnD_congr {D D' : Nat → Int} {c : Nat} (h : ∀ q, q < c → D' (52 + 6 * q) = D (52 + 6 * q)) : tnD D' c = tnD D c := by
  unfold tnD
  exact itr_congr (fun j b _ h2 => by rw [h j (by omega)])
def DrOk (D : Nat → Int) (cH cB cS : Nat) : Prop := CtD D cH cB cS ∧ Bd D ∧ (∀ j, j < cH → 1 ≤ D (0 + 4 * j) ∧ 1 ≤ D (0 + 4 * j + 1) ∧ 1 ≤ D (0 + 4 * j + 2)) ∧ (∀ i, i < cB → 1 ≤ D (16 + 5 * i) ∧ 1 ≤ D (16 + 5 * i + 1))
def D0 (k : Nat) : Int := if 36 ≤ k ∧ k < 52 then 20 else if k = 182 then 3 else 0
theorem D0_ok : DrOk D0 0 0 0 := by
  refine ⟨⟨⟨rfl, rfl, rfl⟩, by decide⟩, ?_, fun j h => absurd h (by omega), fun j h => absurd h (by omega)⟩
  have : ∀ k, k < 183 → bl k ≤ D0 k ∧ D0 k ≤ bh k := by decide +kernel
  exact this
theorem tnD_0 (D : Nat → Int) : tnD D 0 = 0 := rfl
theorem tnD_rg {D : Nat → Int} (h : Bd D) : ∀ c, c ≤ 4 → 0 ≤ tnD D c ∧ tnD D c ≤ 10 * c
  | 0, _ => by rw [tnD_0]; omega
  | c + 1, hc => by
    have ih := tnD_rg h c (by omega)
    have h1 := h (52 + 6 * c) (by omega)
    have e : bl (52 + 6 * c) = 0 ∧ bh (52 + 6 * c) = 10 := by
      have : ∀ c, c < 4 → bl (52 + 6 * c) = 0 ∧ bh (52 + 6 * c) = 10 := by decide
      exact this c (by omega)
    rw [tnD_s]
    omega
/-- a draft without FAULT whose STORMS' tenths are ten is a sea -/
theorem DrOk.sea {D : Nat → Int} {cH cB cS : Nat} (h : DrOk D cH cB cS) (h1 : 0 < cH) (h2 : 0 < cB) (h3 : tnD D cS = 10) : SeaOk D cH cB cS := by
  obtain ⟨⟨⟨a1, a2, a3⟩, a4, a5, a6⟩, hb, hh, hi⟩ := h
  have h0 : 0 < cS := by
    cases cS with
    | zero => rw [tnD_0] at h3; omega
    | succ c => omega
  have b1 : ∀ j, j < 4 → bl (0 + 4 * j) = 0 ∧ bh (0 + 4 * j) = 99 ∧ bl (0 + 4 * j + 1) = 0 ∧ bh (0 + 4 * j + 1) = 9 ∧ bl (0 + 4 * j + 2) = 0 ∧ bh (0 + 4 * j + 2) = 10 ∧ bl (0 + 4 * j + 3) = 0 ∧ bh (0 + 4 * j + 3) = 15 := by decide
  have b2 : ∀ j, j < 4 → bl (16 + 5 * j) = 0 ∧ bh (16 + 5 * j) = 8 ∧ bl (16 + 5 * j + 1) = 0 ∧ bh (16 + 5 * j + 1) = 9 ∧ bl (16 + 5 * j + 2) = 0 ∧ bh (16 + 5 * j + 2) = 99 ∧ bl (16 + 5 * j + 3) = 0 ∧ bh (16 + 5 * j + 3) = 999 ∧ bl (16 + 5 * j + 4) = 0 ∧ bh (16 + 5 * j + 4) = 9 := by decide
  have b3 : ∀ i, i < 4 → ∀ j, j < 4 → bl (36 + 4 * i + j) = 1 ∧ bh (36 + 4 * i + j) = 99 := by decide
  have b4 : ∀ j, j < 4 → bl (52 + 6 * j) = 0 ∧ bh (52 + 6 * j) = 10 ∧ bl (52 + 6 * j + 1) = 0 ∧ bh (52 + 6 * j + 1) = 23 ∧ bl (52 + 6 * j + 2) = 0 ∧ bh (52 + 6 * j + 2) = 9 ∧ bl (52 + 6 * j + 3) = 0 ∧ bh (52 + 6 * j + 3) = 9 ∧ bl (52 + 6 * j + 4) = 0 ∧ bh (52 + 6 * j + 4) = 24 ∧ bl (52 + 6 * j + 5) = 0 ∧ bh (52 + 6 * j + 5) = 3 := by decide
  have b5 : ∀ i, i < 4 → ∀ j, j < 24 → bl (76 + 24 * i + j) = 0 ∧ bh (76 + 24 * i + j) = 9 := by decide +kernel
  have b6 : ∀ x, x < 10 → bl (172 + x) = 0 ∧ bh (172 + x) = 200 := by decide
  refine ⟨⟨a1, a2, a3, h1, a4, h2, a5, h0, a6⟩, fun j hj => ?_, fun i hi => ?_, fun i j hi hj => ?_, fun q hq => ?_, fun q t hq ht => ?_, fun x hx => ?_, ?_, h3, hh, hi⟩
  · have z := b1 j hj
    have := hb (0 + 4 * j) (by omega)
    have := hb (0 + 4 * j + 1) (by omega)
    have := hb (0 + 4 * j + 2) (by omega)
    have := hb (0 + 4 * j + 3) (by omega)
    omega
  · have z := b2 i hi
    have := hb (16 + 5 * i) (by omega)
    have := hb (16 + 5 * i + 1) (by omega)
    have := hb (16 + 5 * i + 2) (by omega)
    have := hb (16 + 5 * i + 3) (by omega)
    have := hb (16 + 5 * i + 4) (by omega)
    omega
  · have z := b3 i hi j hj
    have := hb (36 + 4 * i + j) (by omega)
    omega
  · have z := b4 q hq
    have := hb (52 + 6 * q) (by omega)
    have := hb (52 + 6 * q + 1) (by omega)
    have := hb (52 + 6 * q + 2) (by omega)
    have := hb (52 + 6 * q + 3) (by omega)
    have := hb (52 + 6 * q + 4) (by omega)
    have := hb (52 + 6 * q + 5) (by omega)
    omega
  · have z := b5 q hq t ht
    have := hb (76 + 24 * q + t) (by omega)
    omega
  · have z := b6 x hx
    have := hb (172 + x) (by omega)
    omega
  · have := hb 182 (by omega)
    have e : bl 182 = 1 ∧ bh 182 = 9 := by decide
    omega
/-- the counts behind an ITEM -/
def nxC (l L : Int) (c : Nat) : Nat := if L = l then c + 1 else c
section DR
variable {T : Nat → Int} {tl : Nat} {D : Nat → Int} {cH cB cS : Nat}
theorem item_ok (h : DrOk D cH cB cS) {p : Nat} {L : Int} (hg : gdI T tl cH cB cS L p = true) : DrOk (efI T tl D cH cB cS L p) (nxC 104 L cH) (nxC 98 L cB) (nxC 115 L cS) ∧ tnD (efI T tl D cH cB cS L p) (nxC 115 L cS) = tnD D cS + (if L = 115 then nn T tl (epi T tl 0 p) else 0) := by
  obtain ⟨⟨⟨a1, a2, a3⟩, a4, a5, a6⟩, hb, hh, hi⟩ := h
  unfold gdI at hg
  unfold efI nxC
  by_cases c104 : L = 104
  · subst c104
    simp only [if_true, if_false, Int.reduceEq] at hg ⊢
    simp only [Bool.and_eq_true, decide_eq_true_eq] at hg
    obtain ⟨⟨⟨⟨k0, k1⟩, k2⟩, k3⟩, k4⟩ := hg
    have r0 := okn_rg k0
    have r1 := okn_rg k1
    have r2 := okn_rg k2
    have r3 := okn_rg k3
    have hbd : ∀ c, c < 4 → bl (0 + 4 * c) = 0 ∧ bh (0 + 4 * c) = 99 ∧ bl (0 + 4 * c + 1) = 0 ∧ bh (0 + 4 * c + 1) = 9 ∧ bl (0 + 4 * c + 2) = 0 ∧ bh (0 + 4 * c + 2) = 10 ∧ bl (0 + 4 * c + 3) = 0 ∧ bh (0 + 4 * c + 3) = 15 := by decide
    have z := hbd cH (by omega)
    have hb2 := ((((hb.put (k := 0 + 4 * cH) (x := nn T tl (epi T tl 0 p)) (by omega)).put (k := 0 + 4 * cH + 1) (x := nn T tl (epi T tl 1 p)) (by omega)).put (k := 0 + 4 * cH + 2) (x := nn T tl (epi T tl 2 p)) (by omega)).put (k := 0 + 4 * cH + 3) (x := nn T tl (epi T tl 3 p)) (by omega))
    refine ⟨⟨⟨⟨by rw [fu_same]; omega, by rw [fu_ne _ _ (by omega), fu_ne _ _ (by omega), fu_ne _ _ (by omega), fu_ne _ _ (by omega), fu_ne _ _ (by omega)]; exact a2, by rw [fu_ne _ _ (by omega), fu_ne _ _ (by omega), fu_ne _ _ (by omega), fu_ne _ _ (by omega), fu_ne _ _ (by omega)]; exact a3⟩, by omega, by omega, by omega⟩, hb2.put2 (by omega), fun j hj => ?_, fun j hj => ?_⟩, ?_⟩
    · by_cases e : j = cH
      · subst e
        simp (disch := omega) only [fu_same, fu_ne]
        omega
      · have := hh j (by omega)
        simp (disch := omega) only [fu_ne]
        exact this
    · have := hi j hj
      simp (disch := omega) only [fu_ne]
      exact this
    · rw [Int.add_zero]
      exact tnD_congr (fun q hq => by simp (disch := omega) only [fu_ne])
  · simp only [if_neg c104] at hg ⊢
    by_cases c98 : L = 98
    · subst c98
      simp only [if_true, if_false, Int.reduceEq] at hg ⊢
      simp only [Bool.and_eq_true, decide_eq_true_eq] at hg
      obtain ⟨⟨⟨⟨⟨k0, k1⟩, k2⟩, k3⟩, k4⟩, kk⟩ := hg
      have r0 := okn_rg k0
      have r1 := okn_rg k1
      have r2 := okn_rg k2
      have r3 := okn_rg k3
      have r4 := okn_rg k4
      have hbd : ∀ c, c < 4 → bl (16 + 5 * c) = 0 ∧ bh (16 + 5 * c) = 8 ∧ bl (16 + 5 * c + 1) = 0 ∧ bh (16 + 5 * c + 1) = 9 ∧ bl (16 + 5 * c + 2) = 0 ∧ bh (16 + 5 * c + 2) = 99 ∧ bl (16 + 5 * c + 3) = 0 ∧ bh (16 + 5 * c + 3) = 999 ∧ bl (16 + 5 * c + 4) = 0 ∧ bh (16 + 5 * c + 4) = 9 := by decide
      have z := hbd cB (by omega)
      have hb2 := (((((hb.put (k := 16 + 5 * cB) (x := nn T tl (epi T tl 0 p)) (by omega)).put (k := 16 + 5 * cB + 1) (x := nn T tl (epi T tl 1 p)) (by omega)).put (k := 16 + 5 * cB + 2) (x := nn T tl (epi T tl 2 p)) (by omega)).put (k := 16 + 5 * cB + 3) (x := nn T tl (epi T tl 3 p)) (by omega)).put (k := 16 + 5 * cB + 4) (x := nn T tl (epi T tl 4 p)) (by omega))
      refine ⟨⟨⟨⟨by rw [fu_ne _ _ (by omega), fu_ne _ _ (by omega), fu_ne _ _ (by omega), fu_ne _ _ (by omega), fu_ne _ _ (by omega), fu_ne _ _ (by omega)]; exact a1, by rw [fu_same]; omega, by rw [fu_ne _ _ (by omega), fu_ne _ _ (by omega), fu_ne _ _ (by omega), fu_ne _ _ (by omega), fu_ne _ _ (by omega), fu_ne _ _ (by omega)]; exact a3⟩, by omega, by omega, by omega⟩, hb2.put2 (by omega), fun j hj => ?_, fun j hj => ?_⟩, ?_⟩
      · have := hh j hj
        simp (disch := omega) only [fu_ne]
        exact this
      · by_cases e : j = cB
        · subst e
          simp (disch := omega) only [fu_same, fu_ne]
          omega
        · have := hi j (by omega)
          simp (disch := omega) only [fu_ne]
          exact this
      · rw [Int.add_zero]
        exact tnD_congr (fun q hq => by simp (disch := omega) only [fu_ne])
    · simp only [if_neg c98] at hg ⊢
      by_cases c115 : L = 115
      · subst c115
        simp only [if_true, if_false, Int.reduceEq] at hg ⊢
        simp only [Bool.and_eq_true, decide_eq_true_eq] at hg
        obtain ⟨⟨⟨⟨⟨⟨k0, k1⟩, k2⟩, k3⟩, k4⟩, k5⟩, kk⟩ := hg
        have r0 := okn_rg k0
        have r1 := okn_rg k1
        have r2 := okn_rg k2
        have r3 := okn_rg k3
        have r4 := okn_rg k4
        have r5 := okn_rg k5
        have hbd : ∀ c, c < 4 → bl (52 + 6 * c) = 0 ∧ bh (52 + 6 * c) = 10 ∧ bl (52 + 6 * c + 1) = 0 ∧ bh (52 + 6 * c + 1) = 23 ∧ bl (52 + 6 * c + 2) = 0 ∧ bh (52 + 6 * c + 2) = 9 ∧ bl (52 + 6 * c + 3) = 0 ∧ bh (52 + 6 * c + 3) = 9 ∧ bl (52 + 6 * c + 4) = 0 ∧ bh (52 + 6 * c + 4) = 24 ∧ bl (52 + 6 * c + 5) = 0 ∧ bh (52 + 6 * c + 5) = 3 := by decide
        have z := hbd cS (by omega)
        have hb2 := ((((((hb.put (k := 52 + 6 * cS) (x := nn T tl (epi T tl 0 p)) (by omega)).put (k := 52 + 6 * cS + 1) (x := nn T tl (epi T tl 1 p)) (by omega)).put (k := 52 + 6 * cS + 2) (x := nn T tl (epi T tl 2 p)) (by omega)).put (k := 52 + 6 * cS + 3) (x := nn T tl (epi T tl 3 p)) (by omega)).put (k := 52 + 6 * cS + 4) (x := nn T tl (epi T tl 4 p)) (by omega)).put (k := 52 + 6 * cS + 5) (x := nn T tl (epi T tl 5 p)) (by omega))
        refine ⟨⟨⟨⟨by rw [fu_ne _ _ (by omega), fu_ne _ _ (by omega), fu_ne _ _ (by omega), fu_ne _ _ (by omega), fu_ne _ _ (by omega), fu_ne _ _ (by omega), fu_ne _ _ (by omega)]; exact a1, by rw [fu_ne _ _ (by omega), fu_ne _ _ (by omega), fu_ne _ _ (by omega), fu_ne _ _ (by omega), fu_ne _ _ (by omega), fu_ne _ _ (by omega), fu_ne _ _ (by omega)]; exact a2, by rw [fu_same]; omega⟩, by omega, by omega, by omega⟩, hb2.put2 (by omega), fun j hj => ?_, fun j hj => ?_⟩, ?_⟩
        · have := hh j hj
          simp (disch := omega) only [fu_ne]
          exact this
        · have := hi j hj
          simp (disch := omega) only [fu_ne]
          exact this
        · rw [tnD_s]
          congr 1
          · exact tnD_congr (fun q hq => by simp (disch := omega) only [fu_ne])
          · simp (disch := omega) only [fu_same, fu_ne]
      · simp only [if_neg c115] at hg ⊢
        by_cases c100 : L = 100
        · simp only [if_pos c100] at hg ⊢
          rw [Int.add_zero]
          simp only [Bool.and_eq_true] at hg
          obtain ⟨⟨k0, k1⟩, k2⟩ := hg
          have r0 := okn_rg k0
          have r1 := okn_rg k1
          have r2 := okn_rg k2
          obtain ⟨a, ea⟩ := okn_nat k0
          rw [ea] at r0
          obtain ⟨b, eb⟩ := okn_nat k1
          rw [eb] at r1
          simp only [ea, eb, Int.toNat_natCast]
          have z : ∀ i, i < 4 → ∀ j, j < 4 → bl (36 + (4 * i + j)) = 1 ∧ bh (36 + (4 * i + j)) = 99 := by decide +kernel
          have z := z a (by omega) b (by omega)
          refine ⟨⟨⟨⟨by rw [fu_ne _ _ (by omega)]; exact a1, by rw [fu_ne _ _ (by omega)]; exact a2, by rw [fu_ne _ _ (by omega)]; exact a3⟩, a4, a5, a6⟩, hb.put (by omega), fun j hj => ?_, fun j hj => ?_⟩, ?_⟩
          · have := hh j hj
            simp (disch := omega) only [fu_ne]
            exact this
          · have := hi j hj
            simp (disch := omega) only [fu_ne]
            exact this
          · exact tnD_congr (fun q hq => by simp (disch := omega) only [fu_ne])
        · simp only [if_neg c100] at hg ⊢
          by_cases c103 : L = 103
          · simp only [if_pos c103] at hg ⊢
            rw [Int.add_zero]
            simp only [Bool.and_eq_true] at hg
            obtain ⟨⟨k0, k1⟩, k2⟩ := hg
            have r0 := okn_rg k0
            have r1 := okn_rg k1
            have r2 := okn_rg k2
            obtain ⟨a, ea⟩ := okn_nat k0
            rw [ea] at r0
            obtain ⟨b, eb⟩ := okn_nat k1
            rw [eb] at r1
            simp only [ea, eb, Int.toNat_natCast]
            have z : ∀ i, i < 4 → ∀ j, j < 24 → bl (76 + (24 * i + j)) = 0 ∧ bh (76 + (24 * i + j)) = 9 := by decide +kernel
            have z := z a (by omega) b (by omega)
            refine ⟨⟨⟨⟨by rw [fu_ne _ _ (by omega)]; exact a1, by rw [fu_ne _ _ (by omega)]; exact a2, by rw [fu_ne _ _ (by omega)]; exact a3⟩, a4, a5, a6⟩, hb.put (by omega), fun j hj => ?_, fun j hj => ?_⟩, ?_⟩
            · have := hh j hj
              simp (disch := omega) only [fu_ne]
              exact this
            · have := hi j hj
              simp (disch := omega) only [fu_ne]
              exact this
            · exact tnD_congr (fun q hq => by simp (disch := omega) only [fu_ne])
          · simp only [if_neg c103] at hg ⊢
            by_cases c114 : L = 114
            · simp only [if_pos c114] at hg ⊢
              rw [Int.add_zero]
              simp only [Bool.and_eq_true] at hg
              obtain ⟨k0, k1⟩ := hg
              have r0 := okn_rg k0
              have r1 := okn_rg k1
              obtain ⟨a, ea⟩ := okn_nat k0
              rw [ea] at r0
              simp only [ea, Int.toNat_natCast]
              have z : ∀ x, x < 10 → bl (172 + x) = 0 ∧ bh (172 + x) = 200 := by decide +kernel
              have z := z a (by omega)
              refine ⟨⟨⟨⟨by rw [fu_ne _ _ (by omega)]; exact a1, by rw [fu_ne _ _ (by omega)]; exact a2, by rw [fu_ne _ _ (by omega)]; exact a3⟩, a4, a5, a6⟩, hb.put (by omega), fun j hj => ?_, fun j hj => ?_⟩, ?_⟩
              · have := hh j hj
                simp (disch := omega) only [fu_ne]
                exact this
              · have := hi j hj
                simp (disch := omega) only [fu_ne]
                exact this
              · exact tnD_congr (fun q hq => by simp (disch := omega) only [fu_ne])
            · simp only [if_neg c114] at hg ⊢
              by_cases c119 : L = 119
              · simp only [if_pos c119] at hg ⊢
                rw [Int.add_zero]
                have k0 := hg
                have r0 := okn_rg k0
                have z : bl 182 = 1 ∧ bh 182 = 9 := by decide +kernel
                have z := z
                refine ⟨⟨⟨⟨by rw [fu_ne _ _ (by omega)]; exact a1, by rw [fu_ne _ _ (by omega)]; exact a2, by rw [fu_ne _ _ (by omega)]; exact a3⟩, a4, a5, a6⟩, hb.put (by omega), fun j hj => ?_, fun j hj => ?_⟩, ?_⟩
                · have := hh j hj
                  simp (disch := omega) only [fu_ne]
                  exact this
                · have := hi j hj
                  simp (disch := omega) only [fu_ne]
                  exact this
                · exact tnD_congr (fun q hq => by simp (disch := omega) only [fu_ne])
              · simp only [if_neg c119] at hg ⊢
                exact absurd hg (by decide)
end DR

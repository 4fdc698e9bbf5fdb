section E5
variable {D : Nat → Int} {nH nB nS : Nat} {N K : Nat → Int} {kc : Nat} {T : Nat → Int} {tl : Nat} {s s' : Mem}
/-! ===== the STORMS of a set of which the GLASS tells v ===== -/
def tel (D : Nat → Int) (th t : Nat) (v : Int) : Nat → Nat
  | 0 => 0
  | m + 1 => if th.testBit m = true ∧ D (76 + 24 * m + t) = v then tel D th t v m ||| 2 ^ m else tel D th t v m
theorem tel_lt (D : Nat → Int) (th t : Nat) (v : Int) : ∀ m, tel D th t v m < 2 ^ m
  | 0 => by unfold tel; decide
  | m + 1 => by
    have h := tel_lt D th t v m
    have h2 : 2 ^ m < 2 ^ (m + 1) := Nat.pow_lt_pow_right (by decide) (Nat.lt_succ_self m)
    unfold tel
    split
    · exact Nat.or_lt_two_pow (by omega) h2
    · omega
theorem tel_16 (D : Nat → Int) (th t : Nat) (v : Int) {m : Nat} (hm : m ≤ 4) : tel D th t v m < 16 := by
  have := tel_lt D th t v m
  have h2 : 2 ^ m ≤ 2 ^ 4 := Nat.pow_le_pow_right (by decide) hm
  omega
theorem th_16 {th : Nat} (h : th < 2 ^ nS) (hS : nS ≤ 4) : th < 16 := by
  have h2 : 2 ^ nS ≤ 2 ^ 4 := Nat.pow_le_pow_right (by decide) hS
  omega
theorem pow_16 {m : Nat} (h : m < 4) : 2 ^ m < 16 := by
  rcases (show m = 0 ∨ m = 1 ∨ m = 2 ∨ m = 3 by omega) with rfl | rfl | rfl | rfl <;> decide
theorem shl_1 {m : Nat} (h : m ≤ 4) : shlI 1 (m : Int) = ((2 ^ m : Nat) : Int) := by
  have := shl_n (a := 1) (k := m) (by omega) (by have h2 : 2 ^ m ≤ 2 ^ 4 := Nat.pow_le_pow_right (by decide) h; omega)
  rw [Nat.one_mul] at this
  exact this
theorem c_telling (hC : SeaC s D nH nB nS) (h : SeaOk D nH nB nS) {th t : Nat} {v : Int} (hth : th < 16) (ht : t < 24) : fX5_telling th t v s = some (((tel D th t v nS : Nat) : Int), s) := by
  have hb := h.1
  have key : ∀ (m n q : Nat), q + m = nS → m < n → fX5_telling_6 n th t v ((tel D th t v q : Nat) : Int) q s = some (((tel D th t v nS : Nat) : Int), s) := by
    intro m
    induction m with
    | zero =>
      intro n q e hn
      cases n with
      | zero => omega
      | succ n => rw [fX5_telling_6, hC.2.2.1, if_pos (by omega), show q = nS by omega]
    | succ m ih =>
      intro n q e hn
      cases n with
      | zero => omega
      | succ n =>
        have h1 := tel_16 D th t v (m := q) (by omega)
        have h2 := pow_16 (m := q) (by omega)
        have hbit := bit_0 (a := th) (k := q) (by omega) (by omega)
        have ih := ih n (q + 1) (by omega) (by omega)
        rw [tel] at ih
        rw [fX5_telling_6, hC.2.2.1, if_neg (by omega)]
        simp (disch := omega) only [rdG_sea_glass, rd_sea_glass, bo_ok, lt_ok, Int.toNat_natCast, hC.g, w32_s, shl_1, or_n]
        by_cases c1 : th.testBit q = true
        · rw [if_neg (fun z => by rw [hbit.mp z] at c1; cases c1)]
          by_cases c2 : D (76 + 24 * q + t) = v
          · rw [if_pos c2]; rw [if_pos ⟨c1, c2⟩] at ih; exact ih
          · rw [if_neg c2]; rw [if_neg (fun z => c2 z.2)] at ih; exact ih
        · rw [if_pos (hbit.mpr (by cases hq : th.testBit q; rfl; exact absurd hq c1))]
          rw [if_neg (fun z => c1 z.1)] at ih; exact ih
  exact key nS 600 0 (by omega) (by omega)
theorem m_isThought (hN : NowM s N) {th q : Nat} (e : N 11 = th) (hth : th < 16) (hq : q < 4) : fX9_isThought q s = some (if th.testBit q = true then 1 else 0, s) := by
  have hbit := bit_1 (a := th) (k := q) (by omega) (by omega)
  unfold fX9_isThought
  simp (disch := omega) only [rd_m_now, bo_ok, Int.reduceToNat, hN.at, e]
  by_cases c : th.testBit q = true
  · rw [if_pos (hbit.mpr c), if_pos c]
  · rw [if_neg (fun z => c (hbit.mp z)), if_neg c]
theorem m_sign_21 (hM : SeaM s D) (hN : NowM s N) (h : SeaOk D nH nB nS) {th t : Nat} {v : Int} (e11 : N 11 = th) (e10 : N 10 = t) (hth : th < 16) (ht : t < 24) : ∀ (m n q : Nat), q + m = nS → m < n → fX9_sign_21 n v ((tel D th t v q : Nat) : Int) q s = fX9_sign_85 ((tel D th t v nS : Nat) : Int) s := by
  have hb := h.1
  have e : D 185 = nS := hb.2.2.1
  intro m
  induction m with
  | zero =>
    intro n q e2 hn
    cases n with
    | zero => omega
    | succ n =>
      rw [fX9_sign_21]
      simp (disch := omega) only [rd_m_sea, bo_ok, Int.reduceToNat, hM.at, e]
      rw [if_pos (by omega), show q = nS by omega]
  | succ m ih =>
    intro n q e2 hn
    cases n with
    | zero => omega
    | succ n =>
      have h1 := tel_16 D th t v (m := q) (by omega)
      have h2 := pow_16 (m := q) (by omega)
      have ih := ih n (q + 1) (by omega) (by omega)
      rw [tel] at ih
      have or0 : orI ((tel D th t v q : Nat) : Int) 0 = ((tel D th t v q : Nat) : Int) := by
        have := or_n (a := tel D th t v q) (b := 0) (by omega) (by omega)
        rw [Nat.or_zero] at this
        exact this
      rw [fX9_sign_21]
      unfold fX9_sign_76 fX9_sign_77
      simp (disch := omega) only [rd_m_sea, rd_m_now, bo_ok, lt_ok, Int.reduceToNat, hM.at, hN.at, e, e10, m_isThought hN e11 hth, m_glass hM, b2_ok, w32_s, shl_1, or_n, or0, if01_0]
      rw [if_neg (by omega), if_neg (by omega)]
      by_cases c1 : th.testBit q = true
      · rw [if_neg (fun z => z c1)]
        by_cases c2 : D (76 + 24 * q + t) = v
        · rw [if_pos c2]; rw [if_pos ⟨c1, c2⟩] at ih; exact ih
        · rw [if_neg c2]; rw [if_neg (fun z => c2 z.2)] at ih; exact ih
      · rw [if_pos c1]
        rw [if_neg (fun z => c1 z.1)] at ih; exact ih
theorem call_sign (hI : Inv s) (a : Int) : ∃ r s1 s2, fX8_sign a s = some (r, s1) ∧ fX9_sign a s1 = some (r, s2) ∧ Inv s2 := by
  have hI2 := hI.read
  obtain ⟨D, nH, nB, nS, N, K, kc, T, tl, hV, hM, hC⟩ := hI
  have hb := hV.1.1
  have hM1 := hM.thrown
  obtain ⟨e1, e2, e3, e4, e5⟩ := hC.2.2.1
  obtain ⟨w1, w2, w3, w4, w5, w6, w7, th, w8, w9⟩ := hV.2.1
  have hth := th_16 w9 (by omega)
  obtain ⟨t, ht⟩ := nat_of w6
  by_cases c0 : 0 ≤ a ∧ a ≤ 9
  · by_cases c1 : t < 24
    · by_cases c2 : tel D th t a nS = 0
      · refine ⟨-2, s, mu s 0 0 0, ?_, ?_, hI2⟩
        · unfold fX8_sign
          rw [if_neg (by omega), if_pos (by omega), c_isHour, b2_ok, if_neg (by rw [if01_0, e3]; omega), e4, e3, w8, ht, c_telling hC.1 hV.1 hth c1, b2_ok, c2, if_pos (by omega)]
        · unfold fX9_sign
          rw [lt_ok, m_isIn, b2_ok, if_neg (by rw [if01_0]; omega)]
          have := m_sign_21 hM1.1 hM1.2.1 hV.1 (v := a) w8 ht hth c1 nS 600 0 (by omega) (by omega)
          rw [c2] at this
          refine this.trans ?_
          unfold fX9_sign_85
          rw [if_pos (by omega)]
      · have hlt := tel_lt D th t a nS
        refine ⟨((tel D th t a nS : Nat) : Int), mu (mu s 109 4 ((tel D th t a nS : Nat) : Int)) 109 3 ((t + 1 : Nat) : Int), mu (mu (mu (mu (mu s 109 4 ((tel D th t a nS : Nat) : Int)) 109 3 ((t + 1 : Nat) : Int)) 0 0 0) 2 11 ((tel D th t a nS : Nat) : Int)) 2 10 ((t + 1 : Nat) : Int), ?_, ?_, ?_⟩
        · unfold fX8_sign
          rw [if_neg (by omega), if_pos (by omega), c_isHour, b2_ok, if_neg (by rw [if01_0, e3]; omega), e4, e3, w8, ht, c_telling hC.1 hV.1 hth c1, b2_ok, if_neg (by omega), lt_ok, lt_ok, mu_same, fu_ne _ _ (by decide), e3, ht, w32_s (by omega)]
        · have hMs : InvM (mu (mu (mu s 109 4 ((tel D th t a nS : Nat) : Int)) 109 3 ((t + 1 : Nat) : Int)) 0 0 0) D N K kc T tl := (hM.fr (FrC.trans (FrC.mu (by decide)) (FrC.mu (by decide)))).thrown
          unfold fX9_sign
          rw [lt_ok, m_isIn, b2_ok, if_neg (by rw [if01_0]; omega)]
          refine (m_sign_21 hMs.1 hMs.2.1 hV.1 (v := a) w8 ht hth c1 nS 600 0 (by omega) (by omega)).trans ?_
          unfold fX9_sign_85
          rw [if_neg (by omega)]
          simp (disch := omega) only [rd_m_now, wr_m_now, bo_ok, Int.reduceToNat, mu_same, fu_ne]
          rw [hMs.2.1 10 (by decide), ht, w32_s (by omega)]
        · have hf : FrC s (mu (mu s 109 4 ((tel D th t a nS : Nat) : Int)) 109 3 ((t + 1 : Nat) : Int)) := FrC.trans (FrC.mu (by decide)) (FrC.mu (by decide))
          refine ⟨D, nH, nB, nS, fu (fu N 11 ((tel D th t a nS : Nat) : Int)) 10 ((t + 1 : Nat) : Int), K, kc, T, tl, ⟨hV.1, ?_, hV.2.2⟩, ?_, ?_⟩
          · refine ⟨fun i hi => ?_, ?_⟩
            · simp (disch := omega) only [fu_ne]; exact w1 i hi
            · simp (disch := omega) only [fu_ne, fu_same]
              exact ⟨w2, w3, w4, w5, by omega, by omega, tel D th t a nS, rfl, hlt⟩
          · refine (hM.fr hf).thrown.now (NowM.put (NowM.put (hM.fr hf).thrown.2.1)) ?_ ?_ ?_ ?_ ?_ <;> simp (disch := omega) only [mu_ne]
          · refine (hC.now (s' := mu (mu s 109 4 ((tel D th t a nS : Nat) : Int)) 109 3 ((t + 1 : Nat) : Int)) hV.1 ?_ (fun k h1 h2 h3 => by simp (disch := omega) only [mu_ne])).fr (FrM.trans (FrM.trans (FrM.mu (by decide)) (FrM.mu (by decide))) (FrM.mu (by decide)))
            refine ⟨?_, ?_, ?_, ?_, fun i hi => ?_⟩ <;> simp (disch := omega) only [mu_same, mu_ne, fu_same, fu_ne]
            · exact e1
            · exact e2
            · exact e5 i hi
    · refine ⟨-2, s, mu s 0 0 0, ?_, ?_, hI2⟩
      · unfold fX8_sign
        rw [if_neg (by omega), if_pos (by omega), c_isHour, b2_ok, if_pos (by rw [if01_0, e3]; omega)]
      · unfold fX9_sign
        have e : D 185 = nS := hb.2.2.1
        rw [lt_ok, m_isIn, b2_ok, if_neg (by rw [if01_0]; omega), fX9_sign_21]
        unfold fX9_sign_85
        simp (disch := omega) only [rd_m_sea, rd_m_now, bo_ok, Int.reduceToNat, hM1.1.at, hM1.2.1.at, e, ht]
        rw [if_neg (by omega), if_pos (by omega), if_pos (by trivial)]
  · refine ⟨-1, s, mu s 0 0 0, ?_, ?_, hI2⟩
    · unfold fX8_sign
      repeat' split
      all_goals first | rfl | (exfalso; omega)
    · unfold fX9_sign
      rw [lt_ok, m_isIn, b2_ok, if_pos (by rw [if01_0]; omega)]
end E5

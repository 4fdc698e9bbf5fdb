section F2
variable {T : Nat → Int} {tl : Nat} {s s' : Mem} {D : Nat → Int} {cH cB cS : Nat}
theorem c_clear_76 {k : Nat} (hk : k < 4) (K : Int → Mem → Option Mem) : ∀ (m n t : Nat) (s : Mem), t + m = 24 → m < n → (∀ a, a < t → s (43 + k) a = 0) → ∃ s', fX5_clear_76 K n k t s = K ((k + 1 : Nat) : Int) s' ∧ (∀ a, a < 24 → s' (43 + k) a = 0) ∧ (∀ c, c ≠ 43 + k → s' c = s c)
  | 0, n + 1, t, s, e, _, h => ⟨s, by rw [fX5_clear_76, if_pos (by omega), lt_ok, w32_s (by omega)], fun a ha => h a (by omega), fun _ _ => rfl⟩
  | m + 1, n + 1, t, s, e, hn, h => by
    have key : fX5_clear_76 K (n + 1) k t s = fX5_clear_76 K n k ((t + 1 : Nat) : Int) (mu s (43 + k) t 0) := by
      rw [fX5_clear_76, if_neg (by omega)]
      simp (disch := omega) only [rdG_sea_glass, wr_sea_glass, bo_ok, lt_ok, Int.toNat_natCast, w32_s]
    obtain ⟨s', q1, q2, q3⟩ := c_clear_76 hk K m n (t + 1) (mu s (43 + k) t 0) (by omega) (by omega) (fun a ha => by
      rw [mu_same]
      by_cases c : a = t
      · subst c; rw [fu_same]
      · rw [fu_ne _ _ c]; exact h a (by omega))
    exact ⟨s', key.trans q1, q2, fun c hc => by rw [q3 c hc, mu_ne _ _ _ hc]⟩
  | _, 0, _, _, _, hn, _ => absurd hn (by omega)
theorem c_clear_53 {k : Nat} (hk : k < 4) (K : Int → Mem → Option Mem) : ∀ (m n j : Nat) (s : Mem), j + m = 4 → m < n → (∀ a, a < j → s (38 + k) a = 20) → ∃ s', fX5_clear_53 K n k j s = K ((k + 1 : Nat) : Int) s' ∧ (∀ a, a < 4 → s' (38 + k) a = 20) ∧ (∀ a, a < 24 → s' (43 + k) a = 0) ∧ (∀ c, c ≠ 43 + k → c ≠ 38 + k → s' c = s c)
  | 0, n + 1, t, s, e, _, h => by
    obtain ⟨s', q1, q2, q3⟩ := c_clear_76 hk K 24 600 0 s (by omega) (by omega) (fun a ha => absurd ha (by omega))
    refine ⟨s', ?_, fun a ha => by rw [q3 _ (by omega)]; exact h a (by omega), q2, fun c h1 _ => q3 c h1⟩
    rw [fX5_clear_53, if_pos (by omega)]
    exact q1
  | m + 1, n + 1, t, s, e, hn, h => by
    have key : fX5_clear_53 K (n + 1) k t s = fX5_clear_53 K n k ((t + 1 : Nat) : Int) (mu s (38 + k) t 20) := by
      rw [fX5_clear_53, if_neg (by omega)]
      simp (disch := omega) only [rdG_sea_miles, wr_sea_miles, bo_ok, lt_ok, Int.toNat_natCast, w32_s]
    obtain ⟨s', q1, q2, q3, q4⟩ := c_clear_53 hk K m n (t + 1) (mu s (38 + k) t 20) (by omega) (by omega) (fun a ha => by
      rw [mu_same]
      by_cases c : a = t
      · subst c; rw [fu_same]
      · rw [fu_ne _ _ c]; exact h a (by omega))
    exact ⟨s', key.trans q1, q2, q3, fun c h1 h2 => by rw [q4 c h1 h2, mu_ne _ _ _ h2]⟩
  | _, 0, _, _, _, hn, _ => absurd hn (by omega)
theorem c_clear_46 : ∀ (m n k : Nat) (s : Mem), k + m = 4 → m < n → (∀ i, i < k → (∀ a, a < 4 → s (38 + i) a = 20) ∧ (∀ a, a < 24 → s (43 + i) a = 0)) → ∃ s', fX5_clear_46 n k s = some s' ∧ (∀ i, i < 4 → (∀ a, a < 4 → s' (38 + i) a = 20) ∧ (∀ a, a < 24 → s' (43 + i) a = 0)) ∧ (∀ c, (c < 38 ∨ 47 ≤ c) → s' c = s c)
  | 0, n + 1, k, s, e, _, h => ⟨s, by rw [fX5_clear_46, if_pos (by omega)], fun i hi => h i (by omega), fun _ _ => rfl⟩
  | m + 1, n + 1, k, s, e, hn, h => by
    obtain ⟨s2, q1, q2, q3, q4⟩ := c_clear_53 (k := k) (by omega) (fun p1 s => fX5_clear_46 n p1 s) 4 600 0 s (by omega) (by omega) (fun a ha => absurd ha (by omega))
    obtain ⟨s', r1, r2, r3⟩ := c_clear_46 m n (k + 1) s2 (by omega) (by omega) (fun i hi => by
      by_cases c : i = k
      · subst c; exact ⟨q2, q3⟩
      · refine ⟨fun a ha => ?_, fun a ha => ?_⟩
        · rw [q4 _ (by omega) (by omega)]; exact (h i (by omega)).1 a ha
        · rw [q4 _ (by omega) (by omega)]; exact (h i (by omega)).2 a ha)
    refine ⟨s', ?_, r2, fun c hc => by rw [r3 c hc, q4 c (by omega) (by omega)]⟩
    rw [fX5_clear_46, if_neg (by omega)]
    exact q1.trans r1
  | _, 0, _, _, _, hn, _ => absurd hn (by omega)
theorem c_clear_22 : ∀ (m n x : Nat) (s : Mem), x + m = 10 → m < n → (∀ a, a < x → s 47 a = 0) → ∃ s', fX5_clear_22 n x s = some s' ∧ (∀ a, a < 10 → s' 47 a = 0) ∧ (∀ i, i < 4 → (∀ a, a < 4 → s' (38 + i) a = 20) ∧ (∀ a, a < 24 → s' (43 + i) a = 0)) ∧ (∀ c, (c < 38 ∨ 47 < c) → s' c = s c)
  | 0, n + 1, x, s, e, _, h => by
    have hl : lenI 47 = 10 := by decide +kernel
    obtain ⟨s', q1, q2, q3⟩ := c_clear_46 4 600 0 s (by omega) (by omega) (fun i hi => absurd hi (by omega))
    refine ⟨s', ?_, fun a ha => by rw [q3 _ (by omega)]; exact h a (by omega), q2, fun c hc => q3 c (by omega)⟩
    rw [fX5_clear_22, ck_ok (by decide +kernel), hl, if_pos (by omega)]
    exact q1
  | m + 1, n + 1, x, s, e, hn, h => by
    have hl : lenI 47 = 10 := by decide +kernel
    have key : fX5_clear_22 (n + 1) x s = fX5_clear_22 n ((x + 1 : Nat) : Int) (mu s 47 x 0) := by
      rw [fX5_clear_22, ck_ok (by decide +kernel), hl, if_neg (by omega)]
      simp (disch := omega) only [wr_sea_loss, bo_ok, lt_ok, Int.toNat_natCast, w32_s]
    obtain ⟨s', q1, q2, q3, q4⟩ := c_clear_22 m n (x + 1) (mu s 47 x 0) (by omega) (by omega) (fun a ha => by
      rw [mu_same]
      by_cases c : a = x
      · subst c; rw [fu_same]
      · rw [fu_ne _ _ c]; exact h a (by omega))
    exact ⟨s', key.trans q1, q2, q3, fun c h1 => by rw [q4 c h1, mu_ne _ _ _ (by omega)]⟩
  | _, 0, _, _, _, hn, _ => absurd hn (by omega)
theorem c_clear (s : Mem) : ∃ s', fX5_clear s = some s' ∧ SeaC s' D0 0 0 0 ∧ (∀ c, (c < 21 ∨ 48 ≤ c) → s' c = s c) := by
  unfold fX5_clear
  simp only [lt_ok]
  obtain ⟨s', q1, q2, q3, q4⟩ := c_clear_22 10 600 0 (mu (mu (mu (mu s 21 0 0) 21 1 0) 21 2 0) 21 9 3) (by omega) (by omega) (fun a ha => absurd ha (by omega))
  refine ⟨s', q1, ⟨?_, ?_, ?_, ?_, fun j f hj hf => absurd hj (by omega), fun j f hj hf => absurd hj (by omega), fun j f hj hf => absurd hj (by omega), fun i j hi hj => ?_, fun q t hq ht => ?_, fun x hx => ?_⟩, fun c hc => ?_⟩
  · rw [q4 _ (by omega)]; simp (disch := decide) only [mu_same, fu_ne, fu_same]; rfl
  · rw [q4 _ (by omega)]; simp (disch := decide) only [mu_same, fu_ne, fu_same]; rfl
  · rw [q4 _ (by omega)]; simp (disch := decide) only [mu_same, fu_ne, fu_same]; rfl
  · rw [q4 _ (by omega)]; simp (disch := decide) only [mu_same, fu_ne, fu_same]; rfl
  · rw [(q3 i hi).1 j hj]; unfold D0; rw [if_pos (by omega)]
  · rw [(q3 q hq).2 t ht]; unfold D0; rw [if_neg (by omega), if_neg (by omega)]
  · rw [q2 x hx]; unfold D0; rw [if_neg (by omega), if_neg (by omega)]
  · rw [q4 c (by omega)]; simp (disch := omega) only [mu_ne]
/-- the class's filling of a sea has changed its Text and that sea alone -/
def FrL (s s' : Mem) : Prop := (∀ c, c ≠ 18 → c ≠ 20 → (c < 21 ∨ 48 ≤ c) → s' c = s c) ∧ s' 18 1 = s 18 1
theorem FrL.rf : FrL s s := ⟨fun _ _ _ _ => rfl, rfl⟩
theorem FrL.trans {s1 s2 s3 : Mem} (h : FrL s1 s2) (h2 : FrL s2 s3) : FrL s1 s3 := ⟨fun c a b d => (h2.1 c a b d).trans (h.1 c a b d), h2.2.trans h.2⟩
theorem FrF.l (h : FrF s s') : FrL s s' := ⟨fun c a b _ => h.1 c a b, h.2⟩
theorem c_fill_6 (hT : ∀ k, 0 ≤ T k ∧ T k ≤ 255) (htl : tl ≤ 500) : ∀ (m n i : Nat) {D : Nat → Int} {cH cB cS p : Nat} {s : Mem}, tl ≤ p + m → (i ≤ p ∧ i ≤ 500) → 500 < n + i → DrOk D cH cB cS → AtC s T tl p → CnC s cH cB cS (tnD D cS) → SeaC s D cH cB cS → flt T tl (m + 1) cH cB cS p = -4 → ∃ s', fX6_fill_6 n i s = some s' ∧ FrL s s' ∧ SeaC s' (fin T tl (m + 1) D cH cB cS p).1 (fin T tl (m + 1) D cH cB cS p).2.1 (fin T tl (m + 1) D cH cB cS p).2.2.1 (fin T tl (m + 1) D cH cB cS p).2.2.2
  | m, 0, i, D, cH, cB, cS, p, s, e, hi, hn, hD, hA, hC, hS, hF => by
    omega
  | m, n + 1, i, D, cH, cB, cS, p, s, e, hi, hn, hD, hA, hC, hS, hF => by
    rw [fX6_fill_6]
    unfold flt at hF
    unfold fin
    by_cases c : tl ≤ p
    · rw [if_pos c]
      refine ⟨s, ?_, FrL.rf, hS⟩
      by_cases c2 : 500 ≤ (i : Int)
      · rw [if_pos c2]
      · rw [if_neg c2, hA.1.1, hA.2, if_pos (by omega)]
    · rw [if_neg c] at hF
      rw [if_neg c, if_neg (by omega), hA.1.1, hA.2, if_neg (by omega)]
      have h4 : cH ≤ 4 ∧ cB ≤ 4 ∧ cS ≤ 4 := hD.1.2
      obtain ⟨r, s5, h1, h2, h3⟩ := c_item hT htl (by omega) hA hC h4
      rw [h1, b2_ok]
      rcases h3 with ⟨rfl, g⟩ | ⟨rfl, r2, h5, h6⟩
      · rw [g] at hF; exact absurd hF (by simp)
      · rw [if_neg (by decide), h5, b2_ok]
        rcases h6 with ⟨rfl, g⟩ | ⟨rfl, g, h7, h8, h9⟩
        · rw [g] at hF; exact absurd hF (by simp)
        · rw [if_pos g] at hF
          rw [if_neg (by decide), if_pos g]
          have hS5 : SeaC s5 D cH cB cS := hS.of h4 (fun k a b => h2.1 k (by omega) (by omega))
          have e8 : w8 (T p) = T p := by
            unfold w8
            rcases gd_L g with h | h | h | h | h | h | h <;> rw [h] <;> rfl
          obtain ⟨s6, t1, t2, t3⟩ := c_take hS5 h4 g h9
          rw [h8, e8, t1, bo_ok]
          have hC5 : CnC s6 cH cB cS (tnD D cS) := by
            unfold CnC
            rw [t3 18 (by omega)]
            exact ⟨(h2.2 5 (by decide) (by decide)).trans hC.1, (h2.2 6 (by decide) (by decide)).trans hC.2.1, (h2.2 7 (by decide) (by decide)).trans hC.2.2.1, (h2.2 8 (by decide) (by decide)).trans hC.2.2.2⟩
          have h7' : AtC s6 T tl (epi T tl (wnt (T p)) (p + 1)) := ⟨⟨by rw [t3 _ (by omega)]; exact h7.1.1, fun k hk => by rw [t3 _ (by omega)]; exact h7.1.2 k hk⟩, by rw [t3 _ (by omega)]; exact h7.2⟩
          have ht := tnD_rg hD.2.1 cS h4.2.2
          obtain ⟨s7, k1, k2, k3, k4⟩ := c_tally (s := s6) (v0 := nn T tl (epi T tl 0 (p + 1))) (hT p).1 (hT p).2 h7' hC5 h4 (by omega) (by rw [t3 _ (by omega)]; exact h8) (fun z => ⟨by rw [t3 _ (by omega)]; exact h9 0 (v0_rg g z).1, (v0_rg g z).2.1, by have := (v0_rg g z).2.2; omega⟩)
          rw [k1, bo_ok, lt_ok, w32_s (by omega)]
          obtain ⟨i1, i2⟩ := item_ok hD g
          rw [← i2] at k4
          have ge := epi_ge T tl (p + 1) (wnt (T p))
          have hS7 : SeaC s7 _ _ _ _ := t2.of i1.1.2 (fun k a b => k2.1 k (by omega) (by omega))
          cases m with
          | zero => omega
          | succ m =>
            obtain ⟨s8, q1, q2, q3⟩ := c_fill_6 hT htl m n (i + 1) (by omega) (by omega) (by omega) i1 k3 k4 hS7 hF
            refine ⟨s8, q1, ?_, q3⟩
            refine FrL.trans (s2 := s6) ?_ (k2.l.trans q2)
            exact h2.f.l.trans ⟨fun c _ _ d => t3 c d, by rw [t3 _ (by omega)]⟩
theorem c_fill (hT : ∀ k, 0 ≤ T k ∧ T k ≤ 255) (htl : tl ≤ 500) (h : TxtC s T tl) (hS : SeaC s D0 0 0 0) (hF : flt T tl 501 0 0 0 0 = -4) : ∃ s', fX6_fill s = some s' ∧ FrL s s' ∧ SeaC s' (fin T tl 501 D0 0 0 0 0).1 (fin T tl 501 D0 0 0 0 0).2.1 (fin T tl 501 D0 0 0 0 0).2.2.1 (fin T tl 501 D0 0 0 0 0).2.2.2 := by
  unfold fX6_fill fX6_toBegin
  simp only [lt_ok, bo_ok]
  have hA : AtC (mu (mu (mu (mu (mu s 18 2 0) 18 5 0) 18 6 0) 18 7 0) 18 8 0) T tl 0 := by
    refine ⟨⟨?_, fun j hj => ?_⟩, ?_⟩
    · simp (disch := decide) only [mu_same, fu_ne]; exact h.1
    · simp (disch := decide) only [mu_ne]; exact h.2 j hj
    · simp (disch := decide) only [mu_same, fu_ne, fu_same]; rfl
  have hC : CnC (mu (mu (mu (mu (mu s 18 2 0) 18 5 0) 18 6 0) 18 7 0) 18 8 0) 0 0 0 (tnD D0 0) := by
    unfold CnC
    simp (disch := decide) only [mu_same, fu_ne, fu_same]
    exact ⟨rfl, rfl, rfl, rfl⟩
  have fr : FrF s (mu (mu (mu (mu (mu s 18 2 0) 18 5 0) 18 6 0) 18 7 0) 18 8 0) := ((((FrF.mu (by decide)).trans (FrF.mu (by decide))).trans (FrF.mu (by decide))).trans (FrF.mu (by decide))).trans (FrF.mu (by decide))
  have hS2 := hS.of (s' := mu (mu (mu (mu (mu s 18 2 0) 18 5 0) 18 6 0) 18 7 0) 18 8 0) (by omega) (fun k a b => fr.1 k (by omega) (by omega))
  obtain ⟨s7, q1, q2, q3⟩ := c_fill_6 hT htl 500 600 0 (by omega) (by omega) (by omega) D0_ok hA hC hS2 hF
  exact ⟨s7, q1, fr.l.trans q2, q3⟩
end F2

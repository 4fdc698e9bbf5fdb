/-! ===== the two objects side by side ===== -/
def NowM (s : Mem) (N : Nat → Int) : Prop := ∀ k, k < 12 → s 2 k = N k
def KepM (s : Mem) (K : Nat → Int) (kc : Nat) : Prop := s 0 4 = kc ∧ ∀ k, k < 12 * kc → s 3 k = K k
def TxtM (s : Mem) (T : Nat → Int) (tl : Nat) : Prop := s 0 6 = tl ∧ ∀ k, k < tl → s 4 k = T k
def InvM (s : Mem) (D N K : Nat → Int) (kc : Nat) (T : Nat → Int) (tl : Nat) : Prop := SeaM s D ∧ NowM s N ∧ KepM s K kc ∧ TxtM s T tl
/-- a Watch of the class (its cell, its PLANS' two rows) holds N -/
def WatC (s : Mem) (w a b : Nat) (N : Nat → Int) : Prop := s w 1 = N 8 ∧ s w 2 = N 9 ∧ s w 3 = N 10 ∧ s w 4 = N 11 ∧ ∀ i, i < 4 → s a i = N (2 * i) ∧ s b i = N (2 * i + 1)
def KepC (s : Mem) (K : Nat → Int) (kc : Nat) : Prop := s 17 4 = kc ∧ (0 < kc → WatC s 114 117 118 K) ∧ (1 < kc → WatC s 115 120 121 (fun k => K (12 + k)))
def TxtC (s : Mem) (T : Nat → Int) (tl : Nat) : Prop := s 18 1 = tl ∧ ∀ k, k < tl → s 19 k = w8 (T k)
def InvC (s : Mem) (D : Nat → Int) (nH nB nS : Nat) (N K : Nat → Int) (kc : Nat) (T : Nat → Int) (tl : Nat) : Prop := SeaC s D nH nB nS ∧ TabC s D nH nB nS ∧ WatC s 109 111 112 N ∧ KepC s K kc ∧ TxtC s T tl
def NowOk (N : Nat → Int) (nH nS : Nat) : Prop := (∀ i, i < 4 → 0 ≤ N (2 * i) ∧ N (2 * i) ≤ 24 ∧ 0 ≤ N (2 * i + 1) ∧ N (2 * i + 1) < nH) ∧ 0 ≤ N 8 ∧ N 8 ≤ 9 ∧ 1 ≤ N 9 ∧ N 9 ≤ 32 ∧ 0 ≤ N 10 ∧ N 10 ≤ 24 ∧ ∃ th : Nat, N 11 = th ∧ th < 2 ^ nS
def VOk (D : Nat → Int) (nH nB nS : Nat) (N K : Nat → Int) (kc : Nat) (T : Nat → Int) (tl : Nat) : Prop := SeaOk D nH nB nS ∧ NowOk N nH nS ∧ kc ≤ 2 ∧ (0 < kc → NowOk K nH nS) ∧ (1 < kc → NowOk (fun k => K (12 + k)) nH nS) ∧ tl ≤ 500 ∧ ∀ k, 0 ≤ T k ∧ T k ≤ 255
def Inv (s : Mem) : Prop := ∃ (D : Nat → Int) (nH nB nS : Nat) (N K : Nat → Int) (kc : Nat) (T : Nat → Int) (tl : Nat), VOk D nH nB nS N K kc T tl ∧ InvM s D N K kc T tl ∧ InvC s D nH nB nS N K kc T tl
/-- cells of the reference alone, of the class alone have changed -/
def FrM (s s' : Mem) : Prop := ∀ k, 17 ≤ k → s' k = s k
def FrC (s s' : Mem) : Prop := ∀ k, k < 17 → s' k = s k
section IV
variable {D : Nat → Int} {nH nB nS : Nat} {N K : Nat → Int} {kc : Nat} {T : Nat → Int} {tl : Nat} {s s' : Mem}
theorem FrM.mu {k j : Nat} {x : Int} (hk : k < 17) : FrM s (mu s k j x) := fun a ha => mu_ne s j x (by omega)
theorem FrM.trans {s1 s2 s3 : Mem} (h : FrM s1 s2) (h2 : FrM s2 s3) : FrM s1 s3 := fun k hk => (h2 k hk).trans (h k hk)
theorem FrC.trans {s1 s2 s3 : Mem} (h : FrC s1 s2) (h2 : FrC s2 s3) : FrC s1 s3 := fun k hk => (h2 k hk).trans (h k hk)
theorem FrC.mu {k j : Nat} {x : Int} (hk : 17 ≤ k) : FrC s (mu s k j x) := fun a ha => mu_ne s j x (by omega)
theorem FrC.rf : FrC s s := fun _ _ => rfl
theorem FrM.rf : FrM s s := fun _ _ => rfl
theorem SeaC.fr (h : SeaC s D nH nB nS) (hf : FrM s s') : SeaC s' D nH nB nS := by
  obtain ⟨h1, h2, h3, h4, h5, h6, h7, h8, h9, h10⟩ := h
  refine ⟨?_, ?_, ?_, ?_, fun j f a b => ?_, fun j f a b => ?_, fun j f a b => ?_, fun j f a b => ?_, fun j f a b => ?_, fun x a => ?_⟩ <;> rw [hf _ (by omega)]
  · exact h1
  · exact h2
  · exact h3
  · exact h4
  · exact h5 j f a b
  · exact h6 j f a b
  · exact h7 j f a b
  · exact h8 j f a b
  · exact h9 j f a b
  · exact h10 x a
theorem TabC.fr (h : TabC s D nH nB nS) (hf : FrM s s') : TabC s' D nH nB nS := by
  obtain ⟨h1, h2, h3, h4, h5⟩ := h
  refine ⟨fun q t a b => ?_, fun j q a b => ?_, fun q i t a b c => ?_, fun q i t a b c => ?_, fun q i j u a b c d => ?_⟩ <;> rw [hf _ (by omega)]
  · exact h1 q t a b
  · exact h2 j q a b
  · exact h3 q i t a b c
  · exact h4 q i t a b c
  · exact h5 q i j u a b c d
theorem WatC.fr {w a b : Nat} (h : WatC s w a b N) (h1 : s' w = s w) (h2 : s' a = s a) (h3 : s' b = s b) : WatC s' w a b N := by
  unfold WatC at *
  rw [h1, h2, h3]; exact h
theorem KepC.fr (h : KepC s K kc) (hf : FrM s s') : KepC s' K kc := by
  obtain ⟨h1, h2, h3⟩ := h
  refine ⟨?_, fun a => (h2 a).fr (hf _ (by omega)) (hf _ (by omega)) (hf _ (by omega)), fun a => (h3 a).fr (hf _ (by omega)) (hf _ (by omega)) (hf _ (by omega))⟩
  rw [hf _ (by omega)]; exact h1
theorem TxtC.fr (h : TxtC s T tl) (hf : FrM s s') : TxtC s' T tl := by
  unfold TxtC at *
  rw [hf _ (by omega), hf _ (by omega)]; exact h
theorem InvC.fr (h : InvC s D nH nB nS N K kc T tl) (hf : FrM s s') : InvC s' D nH nB nS N K kc T tl := ⟨h.1.fr hf, h.2.1.fr hf, h.2.2.1.fr (hf _ (by omega)) (hf _ (by omega)) (hf _ (by omega)), h.2.2.2.1.fr hf, h.2.2.2.2.fr hf⟩
theorem InvM.fr (h : InvM s D N K kc T tl) (hf : FrC s s') : InvM s' D N K kc T tl := by
  obtain ⟨h1, h2, h3, h4⟩ := h
  unfold SeaM NowM KepM TxtM at *
  unfold InvM SeaM NowM KepM TxtM
  rw [hf 0 (by omega), hf 1 (by omega), hf 2 (by omega), hf 3 (by omega), hf 4 (by omega)]
  exact ⟨h1, h2, h3, h4⟩
/-- what a call of the reference leaves when it only reads: scratch rows may differ, the five that count don't -/
theorem InvM.keep (h : InvM s D N K kc T tl) (h1 : s' 1 = s 1) (h2 : s' 2 = s 2) (h3 : s' 3 = s 3) (h4 : s' 4 = s 4) (h5 : s' 0 4 = s 0 4) (h6 : s' 0 6 = s 0 6) : InvM s' D N K kc T tl := by
  obtain ⟨a1, a2, a3, a4⟩ := h
  unfold SeaM NowM KepM TxtM at *
  unfold InvM SeaM NowM KepM TxtM
  rw [h1, h2, h3, h4, h5, h6]
  exact ⟨a1, a2, a3, a4⟩
theorem InvM.now {N' : Nat → Int} (h : InvM s D N K kc T tl) (hN : NowM s' N') (h1 : s' 1 = s 1) (h3 : s' 3 = s 3) (h4 : s' 4 = s 4) (h5 : s' 0 4 = s 0 4) (h6 : s' 0 6 = s 0 6) : InvM s' D N' K kc T tl := by
  obtain ⟨a1, a2, a3, a4⟩ := h
  unfold SeaM KepM TxtM at *
  unfold InvM SeaM KepM TxtM
  rw [h1, h3, h4, h5, h6]
  exact ⟨a1, hN, a3, a4⟩
theorem InvM.thrown (h : InvM s D N K kc T tl) : InvM (mu s 0 0 0) D N K kc T tl := by
  refine h.keep (mu_ne _ _ _ (by decide)) (mu_ne _ _ _ (by decide)) (mu_ne _ _ _ (by decide)) (mu_ne _ _ _ (by decide)) ?_ ?_
  · rw [mu_same, fu_ne _ _ (by decide)]
  · rw [mu_same, fu_ne _ _ (by decide)]
theorem SeaC.of (h : SeaC s D nH nB nS) (hb : nH ≤ 4 ∧ nB ≤ 4 ∧ nS ≤ 4) (hf : ∀ k, 21 ≤ k → k < 109 → s' k = s k) : SeaC s' D nH nB nS := by
  obtain ⟨h1, h2, h3, h4, h5, h6, h7, h8, h9, h10⟩ := h
  refine ⟨?_, ?_, ?_, ?_, fun j f a b => ?_, fun j f a b => ?_, fun j f a b => ?_, fun j f a b => ?_, fun j f a b => ?_, fun x a => ?_⟩ <;> rw [hf _ (by omega) (by omega)]
  · exact h1
  · exact h2
  · exact h3
  · exact h4
  · exact h5 j f a b
  · exact h6 j f a b
  · exact h7 j f a b
  · exact h8 j f a b
  · exact h9 j f a b
  · exact h10 x a
theorem TabC.of (h : TabC s D nH nB nS) (hb : nH ≤ 4 ∧ nB ≤ 4 ∧ nS ≤ 4) (hf : ∀ k, 21 ≤ k → k < 109 → s' k = s k) : TabC s' D nH nB nS := by
  obtain ⟨h1, h2, h3, h4, h5⟩ := h
  refine ⟨fun q t a b => ?_, fun j q a b => ?_, fun q i t a b c => ?_, fun q i t a b c => ?_, fun q i j u a b c d => ?_⟩ <;> rw [hf _ (by omega) (by omega)]
  · exact h1 q t a b
  · exact h2 j q a b
  · exact h3 q i t a b c
  · exact h4 q i t a b c
  · exact h5 q i j u a b c d
theorem KepC.of (h : KepC s K kc) (h4 : s' 17 4 = s 17 4) (hf : ∀ k, 113 ≤ k → k < 122 → s' k = s k) : KepC s' K kc := by
  obtain ⟨h1, h2, h3⟩ := h
  refine ⟨by rw [h4]; exact h1, fun a => (h2 a).fr (hf _ (by omega) (by omega)) (hf _ (by omega) (by omega)) (hf _ (by omega) (by omega)), fun a => (h3 a).fr (hf _ (by omega) (by omega)) (hf _ (by omega) (by omega)) (hf _ (by omega) (by omega))⟩
theorem TxtC.of (h : TxtC s T tl) (h1 : s' 18 1 = s 18 1) (h2 : s' 19 = s 19) : TxtC s' T tl := by
  unfold TxtC at *
  rw [h1, h2]; exact h
theorem SeaOk.b (h : SeaOk D nH nB nS) : nH ≤ 4 ∧ nB ≤ 4 ∧ nS ≤ 4 := ⟨h.1.2.2.2.2.1, h.1.2.2.2.2.2.2.1, h.1.2.2.2.2.2.2.2.2⟩
/-- scratch cells alone have changed -/
theorem InvC.scr (h : InvC s D nH nB nS N K kc T tl) (hO : SeaOk D nH nB nS) (hf : ∀ k, 17 ≤ k → k < 122 → s' k = s k) : InvC s' D nH nB nS N K kc T tl :=
  ⟨h.1.of hO.b (fun k a b => hf k (by omega) (by omega)), h.2.1.of hO.b (fun k a b => hf k (by omega) (by omega)), h.2.2.1.fr (hf _ (by omega) (by omega)) (hf _ (by omega) (by omega)) (hf _ (by omega) (by omega)), h.2.2.2.1.of (by rw [hf _ (by omega) (by omega)]) (fun k a b => hf k (by omega) (by omega)), h.2.2.2.2.of (by rw [hf _ (by omega) (by omega)]) (by rw [hf _ (by omega) (by omega)])⟩
/-- the Watch has changed -/
theorem InvC.now {N' : Nat → Int} (h : InvC s D nH nB nS N K kc T tl) (hO : SeaOk D nH nB nS) (hW : WatC s' 109 111 112 N') (hf : ∀ k, 17 ≤ k → k < 122 → (k < 109 ∨ 113 ≤ k) → s' k = s k) : InvC s' D nH nB nS N' K kc T tl :=
  ⟨h.1.of hO.b (fun k a b => hf k (by omega) (by omega) (by omega)), h.2.1.of hO.b (fun k a b => hf k (by omega) (by omega) (by omega)), hW, h.2.2.2.1.of (by rw [hf _ (by omega) (by omega) (by omega)]) (fun k a b => hf k (by omega) (by omega) (by omega)), h.2.2.2.2.of (by rw [hf _ (by omega) (by omega) (by omega)]) (by rw [hf _ (by omega) (by omega) (by omega)])⟩
theorem SeaM.fr (h : SeaM s D) (hf : s' 1 = s 1) : SeaM s' D := by unfold SeaM at *; rw [hf]; exact h
theorem mu00_1 : (mu s 0 0 0) 1 = s 1 := mu_ne _ _ _ (by decide)
/-- a call that only reads, on both sides -/
theorem Inv.read (h : Inv s) : Inv (mu s 0 0 0) := by
  obtain ⟨D, nH, nB, nS, N, K, kc, T, tl, hV, hM, hC⟩ := h
  exact ⟨D, nH, nB, nS, N, K, kc, T, tl, hV, hM.thrown, hC.fr (FrM.mu (by decide))⟩
theorem call_storm (hI : Inv s) (a b c : Int) : ∃ r s1 s2, fX8_storm a b c s = some (r, s1) ∧ fX9_storm a b c s1 = some (r, s2) ∧ Inv s2 := by
  have hI2 := hI.read
  obtain ⟨D, nH, nB, nS, N, K, kc, T, tl, hV, hM, hC⟩ := hI
  have hb := hV.1.1
  have hM1 : SeaM (mu s 0 0 0) D := hM.1.fr mu00_1
  refine ⟨if ((0 ≤ a ∧ a < nS) ∧ (0 ≤ b ∧ b ≤ 23)) ∧ (0 ≤ c ∧ c ≤ 1) then (if c = 0 then str D a.toNat b.toNat else D (76 + 24 * a.toNat + b.toNat)) else -1, s, mu s 0 0 0, ?_, ?_, hI2⟩
  · unfold fX8_storm
    simp only [c_isStorm hC.1, c_isHour, b2_ok, if01_0]
    by_cases hv : ((0 ≤ a ∧ a < nS) ∧ (0 ≤ b ∧ b ≤ 23)) ∧ (0 ≤ c ∧ c ≤ 1)
    · obtain ⟨i, rfl⟩ := nat_of hv.1.1.1
      obtain ⟨t, rfl⟩ := nat_of hv.1.2.1
      rw [if_pos hv, if_neg (by omega), if_neg (by omega), if_neg (by omega), if_pos (by omega)]
      by_cases c0 : c = 0
      · rw [if_pos c0, if_pos c0]
        simp (disch := omega) only [rdG_sea_strength, rd_sea_strength, bo_ok, Int.toNat_natCast, hC.2.1.1 i t]
      · rw [if_neg c0, if_neg c0]
        simp (disch := omega) only [rdG_sea_glass, rd_sea_glass, bo_ok, Int.toNat_natCast, hC.1.g]
    · rw [if_neg hv]
      repeat' split
      all_goals first | rfl | (exfalso; omega)
  · unfold fX9_storm fX9_storm_32
    simp only [lt_ok, m_isStorm hM1 hV.1, m_isIn, b2_ok, if01_0]
    by_cases hv : ((0 ≤ a ∧ a < nS) ∧ (0 ≤ b ∧ b ≤ 23)) ∧ (0 ≤ c ∧ c ≤ 1)
    · obtain ⟨i, rfl⟩ := nat_of hv.1.1.1
      obtain ⟨t, rfl⟩ := nat_of hv.1.2.1
      rw [if_pos hv, if_neg (by omega), if_neg (by omega), if_neg (by omega), m_strength hM1 hV.1 (by omega) (by omega), m_glass hM1 (by omega) (by omega), b2_ok, b2_ok]
      by_cases c0 : c = 0
      · rw [if_pos c0, if_pos c0]; rfl
      · rw [if_neg c0, if_neg c0]; rfl
    · rw [if_neg hv]
      repeat' split
      all_goals first | rfl | (exfalso; omega)
theorem call_open (hI : Inv s) (a b c : Int) : ∃ r s1 s2, fX8_open a b c s = some (r, s1) ∧ fX9_open a b c s1 = some (r, s2) ∧ Inv s2 := by
  have hI2 := hI.read
  obtain ⟨D, nH, nB, nS, N, K, kc, T, tl, hV, hM, hC⟩ := hI
  have hb := hV.1.1
  have hM1 : SeaM (mu s 0 0 0) D := hM.1.fr mu00_1
  refine ⟨if ((0 ≤ a ∧ a < nH) ∧ (0 ≤ b ∧ b < nS)) ∧ (0 ≤ c ∧ c ≤ 23) then (if opn D a.toNat b.toNat c.toNat then 1 else 0) else -1, s, mu s 0 0 0, ?_, ?_, hI2⟩
  · unfold fX8_open
    simp only [c_isStorm hC.1, c_isHarbour hC.1, c_isHour, b2_ok, if01_0]
    by_cases hv : ((0 ≤ a ∧ a < nH) ∧ (0 ≤ b ∧ b < nS)) ∧ (0 ≤ c ∧ c ≤ 23)
    · obtain ⟨i, rfl⟩ := nat_of hv.1.1.1
      obtain ⟨q, rfl⟩ := nat_of hv.1.2.1
      obtain ⟨t, rfl⟩ := nat_of hv.2.1
      rw [if_pos hv, if_neg (by omega), if_neg (by omega), if_neg (by omega), c_isOpen hC.2.1 hV.1 (by omega) (by omega) (by omega), b2_ok]
      simp only [Int.toNat_natCast]
      by_cases ho : opn D i q t = true <;> simp [ho]
    · rw [if_neg hv]
      repeat' split
      all_goals first | rfl | (exfalso; omega)
  · unfold fX9_open fX9_open_31
    simp only [lt_ok, m_isStorm hM1 hV.1, m_isHarbour hM1 hV.1, m_isIn, b2_ok, if01_0]
    by_cases hv : ((0 ≤ a ∧ a < nH) ∧ (0 ≤ b ∧ b < nS)) ∧ (0 ≤ c ∧ c ≤ 23)
    · obtain ⟨i, rfl⟩ := nat_of hv.1.1.1
      obtain ⟨q, rfl⟩ := nat_of hv.1.2.1
      obtain ⟨t, rfl⟩ := nat_of hv.2.1
      rw [if_pos hv, if_neg (by omega), if_neg (by omega), if_neg (by omega), m_isOpen hM1 hV.1 (by omega) (by omega) (by omega), b2_ok]
      simp only [Int.toNat_natCast]
      by_cases ho : opn D i q t = true <;> simp [ho]
    · rw [if_neg hv]
      repeat' split
      all_goals first | rfl | (exfalso; omega)
theorem call_risk (hI : Inv s) (a b c : Int) : ∃ r s1 s2, fX8_risk a b c s = some (r, s1) ∧ fX9_risk a b c s1 = some (r, s2) ∧ Inv s2 := by
  have hI2 := hI.read
  obtain ⟨D, nH, nB, nS, N, K, kc, T, tl, hV, hM, hC⟩ := hI
  have hb := hV.1.1
  have hM1 : SeaM (mu s 0 0 0) D := hM.1.fr mu00_1
  refine ⟨if ((0 ≤ a ∧ a < nB) ∧ (0 ≤ b ∧ b < nS)) ∧ (0 ≤ c ∧ c ≤ 23) then rsk D a.toNat b.toNat c.toNat else -1, s, mu s 0 0 0, ?_, ?_, hI2⟩
  · unfold fX8_risk
    simp only [c_isStorm hC.1, c_isSort hC.1, c_isHour, b2_ok, if01_0]
    by_cases hv : ((0 ≤ a ∧ a < nB) ∧ (0 ≤ b ∧ b < nS)) ∧ (0 ≤ c ∧ c ≤ 23)
    · obtain ⟨i, rfl⟩ := nat_of hv.1.1.1
      obtain ⟨q, rfl⟩ := nat_of hv.1.2.1
      obtain ⟨t, rfl⟩ := nat_of hv.2.1
      rw [if_pos hv, if_neg (by omega), if_neg (by omega), if_neg (by omega), c_riskOf hC.1 hV.1 (by omega) (by omega) (by omega) (hC.2.1.1 q t (by omega) (by omega)), b2_ok]
      rfl
    · rw [if_neg hv]
      repeat' split
      all_goals first | rfl | (exfalso; omega)
  · unfold fX9_risk
    simp only [lt_ok, m_isStorm hM1 hV.1, m_isSort hM1 hV.1, m_isIn, b2_ok, if01_0]
    by_cases hv : ((0 ≤ a ∧ a < nB) ∧ (0 ≤ b ∧ b < nS)) ∧ (0 ≤ c ∧ c ≤ 23)
    · obtain ⟨i, rfl⟩ := nat_of hv.1.1.1
      obtain ⟨q, rfl⟩ := nat_of hv.1.2.1
      obtain ⟨t, rfl⟩ := nat_of hv.2.1
      rw [if_pos hv, if_neg (by omega), if_neg (by omega), if_neg (by omega), m_riskOf hM1 hV.1 (by omega) (by omega) (by omega), b2_ok]
      rfl
    · rw [if_neg hv]
      repeat' split
      all_goals first | rfl | (exfalso; omega)
end IV

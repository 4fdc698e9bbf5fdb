/-! ===== PLANS made BETTER ===== -/
def pm (D : Nat → Int) (nB nS th msk : Nat) (N : Nat → Int) : Int := w64 (mn D nB nS (uN N) (gN N) (vD D) false msk th)
def bsJ (D : Nat → Int) (nB nS th msk : Nat) (N : Nat → Int) (i u j : Nat) (b : Int × Int × Int × Int) : Int × Int × Int × Int := if pm D nB nS th msk (pput N i u j) ≤ b.2.2.1 then b else (u, j, pm D nB nS th msk (pput N i u j), 1)
def bsU (D : Nat → Int) (nH nB nS th msk : Nat) (N : Nat → Int) (i u : Nat) (b : Int × Int × Int × Int) : Int × Int × Int × Int := itr (bsJ D nB nS th msk N i u) nH 0 b
def bsr (D : Nat → Int) (nH nB nS th msk : Nat) (N : Nat → Int) (i : Nat) : Int × Int × Int × Int := itr (bsU D nH nB nS th msk N i) 25 0 (N (2 * i), N (2 * i + 1), pm D nB nS th msk N, 0)
def BsOk (nH : Nat) (b : Int × Int × Int × Int) : Prop := (0 ≤ b.1 ∧ b.1 ≤ 24) ∧ (0 ≤ b.2.1 ∧ b.2.1 < nH) ∧ (b.2.2.2 = 0 ∨ b.2.2.2 = 1)
def BtC (s : Mem) (D : Nat → Int) (nH nB nS : Nat) (N : Nat → Int) : Prop := RuC s D nH nB nS N ∧ s 122 1 = 0 ∧ s 122 3 = 0
section BE
variable {D : Nat → Int} {nH nB nS q th msk : Nat} {N K : Nat → Int} {kc : Nat} {T : Nat → Int} {tl : Nat} {s s1 s2 s' : Mem}
theorem BsOk.u (h : SeaOk D nH nB nS) {i u : Nat} {b : Int × Int × Int × Int} (hu : u ≤ 24) (hb : BsOk nH b) : BsOk nH (bsU D nH nB nS th msk N i u b) := by
  unfold bsU
  refine itr_inv (fun _ b => BsOk nH b) hb (fun j b _ hj hb => ?_)
  unfold bsJ
  split
  · exact hb
  · exact ⟨⟨by dsimp only; omega, by dsimp only; omega⟩, ⟨by dsimp only; omega, by dsimp only; omega⟩, Or.inr rfl⟩
theorem BsOk.r (h : SeaOk D nH nB nS) (hO : NowOk N nH nS) {i : Nat} (hi : i < 4) : BsOk nH (bsr D nH nB nS th msk N i) := by
  have h1 := hO.1 i hi
  unfold bsr
  exact itr_inv (fun _ b => BsOk nH b) ⟨⟨h1.1, h1.2.1⟩, ⟨h1.2.2.1, h1.2.2.2⟩, Or.inl rfl⟩ (fun u b _ hu hb => BsOk.u h (by omega) hb)
theorem pput_pput {i : Nat} {x y u j : Int} : pput (pput N i x y) i u j = pput N i u j := by
  funext k
  unfold pput
  by_cases c1 : k = 2 * i + 1
  · subst c1; rw [fu_same, fu_same]
  · rw [fu_ne _ _ c1, fu_ne _ _ c1]
    by_cases c2 : k = 2 * i
    · subst c2; rw [fu_same, fu_same]
    · rw [fu_ne _ _ c2, fu_ne _ _ c2, fu_ne _ _ c1, fu_ne _ _ c2]
theorem pput_self {i : Nat} : pput N i (N (2 * i)) (N (2 * i + 1)) = N := by
  funext k
  unfold pput
  by_cases c1 : k = 2 * i + 1
  · subst c1; rw [fu_same]
  · rw [fu_ne _ _ c1]
    by_cases c2 : k = 2 * i
    · subst c2; rw [fu_same]
    · rw [fu_ne _ _ c2]
theorem BtC.frS (h : BtC s D nH nB nS N) (hO : SeaOk D nH nB nS) (hf : FrS s s') : BtC s' D nH nB nS N := ⟨h.1.fr hO (fun k hk => hf k (by omega)), by rw [hf _ (by omega)]; exact h.2.1, by rw [hf _ (by omega)]; exact h.2.2⟩
theorem BtC.send (h : BtC s D nH nB nS N) (hO : SeaOk D nH nB nS) {i : Nat} {u j : Int} (hi : i < 4) : BtC (mu (mu s 111 i u) 112 i j) D nH nB nS (pput N i u j) := by
  have fr : ∀ k, k ≠ 111 → k ≠ 112 → mu (mu s 111 i u) 112 i j k = s k := fun k h1 h2 => by rw [mu_ne _ _ _ h2, mu_ne _ _ _ h1]
  exact ⟨⟨h.1.1.of hO.b (fun k a b => fr k (by omega) (by omega)), h.1.2.1.of hO.b (fun k a b => fr k (by omega) (by omega)), h.1.2.2.pput hi⟩, by rw [fr _ (by decide) (by decide)]; exact h.2.1, by rw [fr _ (by decide) (by decide)]; exact h.2.2⟩
theorem BtC.sl (h : BtC s D nH nB nS N) (hV : SeaOk D nH nB nS) (hN : NowOk N nH nS) : SlC s D nH nB nS 111 112 (uN N) (gN N) (vD D) false := by
  refine ⟨h.1.1, h.1.2.1, fun i hi => ?_, h.2.2, 0, h.2.1, by decide, fun i hi => ?_⟩
  · have h4 : i < 4 := by have := hV.1; omega
    rw [(uN_i hN h4).1, (uN_i hN h4).2.2.1]
    exact h.1.2.2.2.2.2.2 i h4
  · rw [Nat.zero_testBit, if_neg (by decide)]; rfl
theorem c_pm (h : SeaOk D nH nB nS) (hN : NowOk N nH nS) (hB : BtC s D nH nB nS N) (e11 : N 11 = th) (hth : th < 16) (hm : msk < 16) : ∃ s', fX2_meanOf 110 (s 109 4) msk s = some (pm D nB nS th msk N, s') ∧ FrS s s' := by
  rw [hB.1.2.2.2.2.2.1, e11]
  exact c_meanOf (PlOk'.now h hN) plc_w hm hth (hB.sl h hN)
theorem c_imp_58 (h : SeaOk D nH nB nS) (hN : NowOk N nH nS) (e11 : N 11 = th) (hth : th < 16) (hm : msk < 16) {i u : Nat} (hi : i < 4) (hu : u ≤ 24) (K : Int → Int → Int → Int → Int → Int → Int → Mem → Option (Int × Mem)) : ∀ (m n j : Nat) (s : Mem) (b : Int × Int × Int × Int) (x y : Int), j + m = nH → m < n → BtC s D nH nB nS (pput N i x y) → ∃ s' x' y', fX0_improves_58 K n i msk b.1 b.2.1 b.2.2.1 b.2.2.2 u j s = K i msk (itr (bsJ D nB nS th msk N i u) m j b).1 (itr (bsJ D nB nS th msk N i u) m j b).2.1 (itr (bsJ D nB nS th msk N i u) m j b).2.2.1 (itr (bsJ D nB nS th msk N i u) m j b).2.2.2 ((u + 1 : Nat) : Int) s' ∧ BtC s' D nH nB nS (pput N i x' y') ∧ (∀ k, k < 122 → k ≠ 111 → k ≠ 112 → s' k = s k)
  | m, 0, _, _, _, _, _, _, hn, _ => absurd hn (by omega)
  | 0, n + 1, j, s, b, x, y, e, _, hB => by
    refine ⟨s, x, y, ?_, hB, fun _ _ _ _ => rfl⟩
    rw [fX0_improves_58, hB.1.1.1, if_pos (by omega), lt_ok, w32_s (by omega)]; rfl
  | m + 1, n + 1, j, s, b, x, y, e, hn, hB => by
    have hb := h.1
    have hB1 := hB.send h (u := ((u : Nat) : Int)) (j := ((j : Nat) : Int)) hi
    rw [pput_pput] at hB1
    have hN1 : NowOk (pput N i u j) nH nS := hN.pput hi ⟨by omega, by omega⟩ ⟨by omega, by omega⟩
    obtain ⟨s2, p1, p2⟩ := c_pm h hN1 hB1 (by rw [pput_hi hi (by decide)]; exact e11) hth hm
    have fr : ∀ k, k < 122 → k ≠ 111 → k ≠ 112 → s2 k = s k := fun k hk h1 h2 => by rw [p2 k (by omega), mu_ne _ _ _ h2, mu_ne _ _ _ h1]
    rw [itr_succ, fX0_improves_58, hB.1.1.1, if_neg (by omega), c_send_w hi, bo_ok, p1, b2_ok, lt_ok, lt_ok, w32_s (by omega)]
    by_cases c : pm D nB nS th msk (pput N i u j) ≤ b.2.2.1
    · have eb : bsJ D nB nS th msk N i u j b = b := if_pos c
      rw [eb, if_pos c]
      obtain ⟨s', x', y', q1, q2, q3⟩ := c_imp_58 h hN e11 hth hm hi hu K m n (j + 1) s2 b u j (by omega) (by omega) (hB1.frS h p2)
      exact ⟨s', x', y', q1, q2, fun k hk h1 h2 => by rw [q3 k hk h1 h2, fr k hk h1 h2]⟩
    · have eb : bsJ D nB nS th msk N i u j b = (((u : Nat) : Int), ((j : Nat) : Int), pm D nB nS th msk (pput N i u j), 1) := if_neg c
      rw [eb, if_neg c]
      obtain ⟨s', x', y', q1, q2, q3⟩ := c_imp_58 h hN e11 hth hm hi hu K m n (j + 1) s2 (((u : Nat) : Int), ((j : Nat) : Int), pm D nB nS th msk (pput N i u j), 1) u j (by omega) (by omega) (hB1.frS h p2)
      exact ⟨s', x', y', q1, q2, fun k hk h1 h2 => by rw [q3 k hk h1 h2, fr k hk h1 h2]⟩
theorem c_imp_48 (h : SeaOk D nH nB nS) (hN : NowOk N nH nS) (e11 : N 11 = th) (hth : th < 16) (hm : msk < 16) {i : Nat} (hi : i < 4) : ∀ (m n u : Nat) (s : Mem) (b : Int × Int × Int × Int) (x y : Int), u + m = 25 → m < n → BtC s D nH nB nS (pput N i x y) → BsOk nH b → ∃ s', fX0_improves_48 n i msk b.1 b.2.1 b.2.2.1 b.2.2.2 u s = some ((itr (bsU D nH nB nS th msk N i) m u b).2.2.2, s') ∧ BtC s' D nH nB nS (pput N i (itr (bsU D nH nB nS th msk N i) m u b).1 (itr (bsU D nH nB nS th msk N i) m u b).2.1) ∧ (∀ k, k < 122 → k ≠ 111 → k ≠ 112 → s' k = s k)
  | m, 0, _, _, _, _, _, _, hn, _, _ => absurd hn (by omega)
  | 0, n + 1, u, s, b, x, y, e, _, hB, hb => by
    have hB1 := hB.send h (u := b.1) (j := b.2.1) hi
    rw [pput_pput] at hB1
    refine ⟨_, ?_, hB1, fun k hk h1 h2 => by rw [mu_ne _ _ _ h2, mu_ne _ _ _ h1]⟩
    rw [fX0_improves_48, if_pos (by omega), c_send_w hi, bo_ok, ck_ok hb.2.2]; rfl
  | m + 1, n + 1, u, s, b, x, y, e, hn, hB, hb => by
    have h1 := h.1
    obtain ⟨s2, x2, y2, p1, p2, p3⟩ := c_imp_58 h hN e11 hth hm hi (show u ≤ 24 by omega) (fun p1 p2 p4 p5 p6 p8 p9 s => fX0_improves_48 n p1 p2 p4 p5 p6 p8 p9 s) nH 600 0 s b x y (by omega) (by omega) hB
    obtain ⟨s', q1, q2, q3⟩ := c_imp_48 h hN e11 hth hm hi m n (u + 1) s2 (bsU D nH nB nS th msk N i u b) x2 y2 (by omega) (by omega) p2 (BsOk.u h (by omega) hb)
    rw [itr_succ]
    refine ⟨s', ?_, q2, fun k hk h1 h2 => by rw [q3 k hk h1 h2, p3 k hk h1 h2]⟩
    rw [fX0_improves_48, if_neg (by omega)]
    exact p1.trans q1
theorem c_improves (h : SeaOk D nH nB nS) (hN : NowOk N nH nS) (e11 : N 11 = th) (hth : th < 16) (hm : msk < 16) {i : Nat} (hi : i < 4) (hB : BtC s D nH nB nS N) : ∃ s', fX0_improves i msk s = some ((bsr D nH nB nS th msk N i).2.2.2, s') ∧ BtC s' D nH nB nS (pput N i (bsr D nH nB nS th msk N i).1 (bsr D nH nB nS th msk N i).2.1) ∧ (∀ k, k < 122 → k ≠ 111 → k ≠ 112 → s' k = s k) := by
  have hw := hB.1.2.2.2.2.2.2 i hi
  have h1 := hN.1 i hi
  obtain ⟨s2, p1, p2⟩ := c_pm h hN hB e11 hth hm
  obtain ⟨s', q1, q2, q3⟩ := c_imp_48 h hN e11 hth hm hi 25 600 0 s2 (N (2 * i), N (2 * i + 1), pm D nB nS th msk N, 0) (N (2 * i)) (N (2 * i + 1)) (by omega) (by omega) (by rw [pput_self]; exact hB.frS h p2) ⟨⟨h1.1, h1.2.1⟩, ⟨h1.2.2.1, h1.2.2.2⟩, Or.inl rfl⟩
  refine ⟨s', ?_, q2, fun k hk h1 h2 => by rw [q3 k hk h1 h2, p2 k (by omega)]⟩
  unfold fX0_improves
  rw [rd_watch_plans_hour (by omega) (by omega), bo_ok, rd_watch_plans_harbour (by omega) (by omega), bo_ok, p1, b2_ok, Int.toNat_natCast, hw.1, hw.2]
  exact q1
/-! the reference -/
theorem PrM.put (h : PrM s D nB (uN N) (gN N) (vD D)) {i u j : Nat} : PrM (mu (mu s 5 i ((u : Nat) : Int)) 6 i ((j : Nat) : Int)) D nB (uN (pput N i u j)) (gN (pput N i u j)) (vD D) := by
  refine ⟨h.1.fr (by rw [mu_ne _ _ _ (by decide), mu_ne _ _ _ (by decide)]), fun k hk => ?_⟩
  have hk' := h.2 k hk
  unfold uN gN
  rw [pput_ev, pput_od]
  unfold uN gN at hk'
  rw [mu_ne _ _ _ (by decide), mu_same, mu_same, mu_ne _ _ _ (by decide), mu_ne _ _ _ (by decide)]
  by_cases c : k = i
  · subst c
    rw [fu_same, fu_same, if_pos rfl, if_pos rfl, Int.toNat_natCast, Int.toNat_natCast]
    exact ⟨rfl, rfl, hk'.2.2⟩
  · rw [fu_ne _ _ c, fu_ne _ _ c, if_neg c, if_neg c, mu_ne _ _ _ (by decide)]
    exact hk'
theorem m_pm {N0 : Nat → Int} (h : SeaOk D nH nB nS) (hN : NowOk N nH nS) (hP : PrM s D nB (uN N) (gN N) (vD D)) (hn : NowM s N0) (e11 : N0 11 = th) (hth : th < 16) {own : Int} (hown : own < nB) : ∃ s', fX9_meanOf 0 own s = some (pm D nB nS th (mskO nB own) N, s') ∧ (∀ c, (c < 8 ∨ 14 < c) → s' c = s c) := m_meanOf (w := false) (PlOk'.now h hN) e11 hth hown hP hn
theorem m_bet_54 (h : SeaOk D nH nB nS) (hN : NowOk N nH nS) (e11 : N 11 = th) (hth : th < 16) {own : Int} (hown : own < nB) {i u : Nat} (hi : i < 4) (hu : u ≤ 24) (K : Int → Int → Int → Int → Int → Int → Int → Mem → Option (Int × Mem)) : ∀ (m n j : Nat) (s : Mem) (b : Int × Int × Int × Int) (x y : Nat), j + m = nH → m < n → PrM s D nB (uN (pput N i x y)) (gN (pput N i x y)) (vD D) → NowM s N → ∃ (s' : Mem) (x' y' : Nat), fX9_betters_54 K n i own b.2.2.1 b.1 b.2.1 b.2.2.2 u j s = K i own (itr (bsJ D nB nS th (mskO nB own) N i u) m j b).2.2.1 (itr (bsJ D nB nS th (mskO nB own) N i u) m j b).1 (itr (bsJ D nB nS th (mskO nB own) N i u) m j b).2.1 (itr (bsJ D nB nS th (mskO nB own) N i u) m j b).2.2.2 ((u + 1 : Nat) : Int) s' ∧ PrM s' D nB (uN (pput N i x' y')) (gN (pput N i x' y')) (vD D) ∧ (∀ c, (c < 5 ∨ 14 < c) → s' c = s c)
  | m, 0, _, _, _, _, _, _, hn, _, _ => absurd hn (by omega)
  | 0, n + 1, j, s, b, x, y, e, _, hP, hn => by
    have hb := h.1
    refine ⟨s, x, y, ?_, hP, fun _ _ => rfl⟩
    rw [fX9_betters_54]
    simp (disch := omega) only [rd_m_sea, bo_ok, Int.reduceToNat, hP.1.at]
    rw [if_pos (by omega), lt_ok, w32_s (by omega)]; rfl
  | m + 1, n + 1, j, s, b, x, y, e, hnn, hP, hn => by
    have hb := h.1
    have hP1 := hP.put (i := i) (u := u) (j := j)
    rw [pput_pput] at hP1
    have hN1 : NowOk (pput N i u j) nH nS := hN.pput hi ⟨by omega, by omega⟩ ⟨by omega, by omega⟩
    have hn1 : NowM (mu (mu s 5 i ((u : Nat) : Int)) 6 i ((j : Nat) : Int)) N := fun k hk => by rw [mu_ne _ _ _ (by decide), mu_ne _ _ _ (by decide)]; exact hn k hk
    obtain ⟨s2, p1, p2⟩ := m_pm h hN1 hP1 hn1 e11 hth hown
    have fr : ∀ c, (c < 5 ∨ 14 < c) → s2 c = s c := fun c hc => by rw [p2 c (by omega), mu_ne _ _ _ (by omega), mu_ne _ _ _ (by omega)]
    have hP2 := hP1.fr (p2 _ (by omega)) (p2 _ (by omega)) (p2 _ (by omega)) (p2 _ (by omega))
    have hn2 : NowM s2 N := fun k hk => by rw [fr 2 (by omega)]; exact hn k hk
    rw [itr_succ, fX9_betters_54]
    simp (disch := omega) only [rd_m_sea, wr_m_hours, wr_m_goals, bo_ok, lt_ok, Int.reduceToNat, Int.toNat_natCast, hP.1.at]
    rw [if_neg (by omega), p1, b2_ok, w32_s (by omega)]
    by_cases c : pm D nB nS th (mskO nB own) (pput N i u j) ≤ b.2.2.1
    · have eb : bsJ D nB nS th (mskO nB own) N i u j b = b := if_pos c
      rw [eb, if_pos c]
      obtain ⟨s', x', y', q1, q2, q3⟩ := m_bet_54 h hN e11 hth hown hi hu K m n (j + 1) s2 b u j (by omega) (by omega) hP2 hn2
      exact ⟨s', x', y', q1, q2, fun c hc => by rw [q3 c hc, fr c hc]⟩
    · have eb : bsJ D nB nS th (mskO nB own) N i u j b = (((u : Nat) : Int), ((j : Nat) : Int), pm D nB nS th (mskO nB own) (pput N i u j), 1) := if_neg c
      rw [eb, if_neg c]
      obtain ⟨s', x', y', q1, q2, q3⟩ := m_bet_54 h hN e11 hth hown hi hu K m n (j + 1) s2 (((u : Nat) : Int), ((j : Nat) : Int), pm D nB nS th (mskO nB own) (pput N i u j), 1) u j (by omega) (by omega) hP2 hn2
      exact ⟨s', x', y', q1, q2, fun c hc => by rw [q3 c hc, fr c hc]⟩
theorem m_bet_44 (h : SeaOk D nH nB nS) (hN : NowOk N nH nS) (e11 : N 11 = th) (hth : th < 16) {own : Int} (hown : own < nB) {i : Nat} (hi : i < 4) : ∀ (m n u : Nat) (s : Mem) (b : Int × Int × Int × Int) (x y : Nat), u + m = 25 → m < n → PrM s D nB (uN (pput N i x y)) (gN (pput N i x y)) (vD D) → NowM s N → BsOk nH b → ∃ s', fX9_betters_44 n i own b.2.2.1 b.1 b.2.1 b.2.2.2 u s = some ((itr (bsU D nH nB nS th (mskO nB own) N i) m u b).2.2.2, s') ∧ SeaM s' D ∧ NowM s' (pput N i (itr (bsU D nH nB nS th (mskO nB own) N i) m u b).1 (itr (bsU D nH nB nS th (mskO nB own) N i) m u b).2.1) ∧ (∀ c, c ≠ 2 → (c < 5 ∨ 14 < c) → s' c = s c)
  | m, 0, _, _, _, _, _, _, hn, _, _, _ => absurd hn (by omega)
  | 0, n + 1, u, s, b, x, y, e, _, hP, hn, hb => by
    refine ⟨mu (mu s 2 (2 * i) b.1) 2 (2 * i + 1) b.2.1, ?_, hP.1.fr (by rw [mu_ne _ _ _ (by decide), mu_ne _ _ _ (by decide)]), hn.pput, fun c h2 hc => by rw [mu_ne _ _ _ h2, mu_ne _ _ _ h2]⟩
    rw [fX9_betters_44, if_pos (by omega)]
    simp (disch := omega) only [nab, na_0, na_1, na_2, na_3, na_4, na_5, na_6, na_8, na_10, na_12, na_16, na_24, na_36, na_52, na_76, na_120, na_172, na_186, nb_0, nb_1, nb_2, nb_3, nb_4, nb_5, nb_6, nb_8, nb_10, nb_12, nb_16, nb_24, nb_36, nb_52, nb_76, nb_120, nb_172, nb_186, nm_2, nm_3, nm_4, nm_5, nm_6, nm_8, nm_10, nm_12, nm_16, nm_24, nm_36, nm_52, nm_76, nm_120, nm_172, nm_186, nn_2, nn_3, nn_4, nn_5, nn_6, nn_8, nn_10, nn_12, nn_16, nn_24, nn_36, nn_52, nn_76, nn_120, nn_172, nn_186, wr_m_now, bo_ok, Int.toNat_natCast]
    rw [ck_ok hb.2.2, Nat.zero_add]; rfl
  | m + 1, n + 1, u, s, b, x, y, e, hnn, hP, hn, hb => by
    have h1 := h.1
    obtain ⟨s2, x2, y2, p1, p2, p3⟩ := m_bet_54 h hN e11 hth hown hi (show u ≤ 24 by omega) (fun p1 p3 p4 p6 p7 p8 p9 s => fX9_betters_44 n p1 p3 p4 p6 p7 p8 p9 s) nH 600 0 s b x y (by omega) (by omega) hP hn
    obtain ⟨s', q1, q2, q3, q4⟩ := m_bet_44 h hN e11 hth hown hi m n (u + 1) s2 (bsU D nH nB nS th (mskO nB own) N i u b) x2 y2 (by omega) (by omega) p2 (fun k hk => by rw [p3 2 (by omega)]; exact hn k hk) (BsOk.u h (by omega) hb)
    rw [itr_succ]
    refine ⟨s', ?_, q2, q3, fun c h2 hc => by rw [q4 c h2 hc, p3 c hc]⟩
    rw [fX9_betters_44, if_neg (by omega)]
    exact p1.trans q1
theorem m_bet_9 (h : SeaOk D nH nB nS) (hN : NowOk N nH nS) (e11 : N 11 = th) (hth : th < 16) {own : Int} (hown : own < nB) {i : Nat} (hi : i < nB) (hM : SeaM s D) (hn : NowM s N) : ∃ s', fX9_betters_9 i own s = some ((bsr D nH nB nS th (mskO nB own) N i).2.2.2, s') ∧ SeaM s' D ∧ NowM s' (pput N i (bsr D nH nB nS th (mskO nB own) N i).1 (bsr D nH nB nS th (mskO nB own) N i).2.1) ∧ (∀ c, c ≠ 2 → (c < 5 ∨ 14 < c) → s' c = s c) := by
  have hb := h.1
  have h4 : i < 4 := by omega
  have h1 := hN.1 i h4
  have hu := uN_i hN h4
  obtain ⟨s2, q1, q2, q3, q4⟩ := m_asPlanned h hN hM hn
  have hn2 : NowM s2 N := fun k hk => by rw [q3 2 (by decide) (by decide) (by decide)]; exact hn k hk
  obtain ⟨s3, p1, p2⟩ := m_pm h hN q2 hn2 e11 hth hown
  have hP3 := q2.fr (p2 _ (by omega)) (p2 _ (by omega)) (p2 _ (by omega)) (p2 _ (by omega))
  obtain ⟨s', r1, r2, r3, r4⟩ := m_bet_44 h hN e11 hth hown h4 25 600 0 s3 (N (2 * i), N (2 * i + 1), pm D nB nS th (mskO nB own) N, 0) (uN N i) (gN N i) (by omega) (by omega) (by rw [hu.1, hu.2.2.1, pput_self]; exact hP3) (fun k hk => by rw [p2 2 (by omega)]; exact hn2 k hk) ⟨⟨h1.1, h1.2.1⟩, ⟨h1.2.2.1, h1.2.2.2⟩, Or.inl rfl⟩
  refine ⟨s', ?_, r2, r3, fun c h2 hc => by rw [r4 c h2 hc, p2 c (by omega), q3 c (by omega) (by omega) (by omega)]⟩
  unfold fX9_betters_9
  rw [q1, bo_ok, p1, b2_ok, rd_m_hours (by omega) (by omega), bo_ok, rd_m_goals (by omega) (by omega), bo_ok, Int.toNat_natCast, p2 5 (by omega), p2 6 (by omega), (q4 i h4).1, (q4 i h4).2.1]
  exact r1
end BE

def msA (a : Int) (nB i : Nat) : Nat := if a = 0 then 2 ^ nB - 1 else 2 ^ i
def brI (D : Nat → Int) (nH nB nS th : Nat) (a : Int) (i : Nat) (c : (Nat → Int) × Int) : (Nat → Int) × Int := (pput c.1 i (bsr D nH nB nS th (msA a nB i) c.1 i).1 (bsr D nH nB nS th (msA a nB i) c.1 i).2.1, if (bsr D nH nB nS th (msA a nB i) c.1 i).2.2.2 = 0 then c.2 else 1)
def brR (D : Nat → Int) (nH nB nS th : Nat) (a : Int) (N : Nat → Int) : (Nat → Int) × Int := itr (brI D nH nB nS th a) nB 0 (N, 0)
def brG (D : Nat → Int) (nH nB nS th : Nat) (a : Int) : Nat → Nat → (Nat → Int) → (Nat → Int) × Int
  | 0, _, N => (N, -4)
  | m + 1, r, N => if (brR D nH nB nS th a N).2 = 0 then ((brR D nH nB nS th a N).1, (r : Int)) else brG D nH nB nS th a m (r + 1) (brR D nH nB nS th a N).1
def BrOk (nH nS th : Nat) (c : (Nat → Int) × Int) : Prop := NowOk c.1 nH nS ∧ c.1 11 = th ∧ (c.2 = 0 ∨ c.2 = 1)
section BR
variable {D : Nat → Int} {nH nB nS q th : Nat} {N K : Nat → Int} {kc : Nat} {T : Nat → Int} {tl : Nat} {a : Int} {s s1 s2 s' : Mem}
theorem BrOk.i (h : SeaOk D nH nB nS) {i : Nat} (hi : i < 4) {c : (Nat → Int) × Int} (hc : BrOk nH nS th c) : BrOk nH nS th (brI D nH nB nS th a i c) := by
  have hr := BsOk.r (th := th) (msk := msA a nB i) h hc.1 hi
  refine ⟨hc.1.pput hi hr.1 hr.2.1, ?_, ?_⟩
  · show pput c.1 i _ _ 11 = _
    rw [pput_hi hi (by decide)]; exact hc.2.1
  · show (if _ then c.2 else 1) = 0 ∨ (if _ then c.2 else 1) = 1
    split
    · exact hc.2.2
    · exact Or.inr rfl
theorem BrOk.r (h : SeaOk D nH nB nS) (hN : NowOk N nH nS) (e11 : N 11 = th) : BrOk nH nS th (brR D nH nB nS th a N) := by
  have hb := h.1
  unfold brR
  exact itr_inv (fun _ c => BrOk nH nS th c) ⟨hN, e11, Or.inl rfl⟩ (fun j c _ hj hc => BrOk.i h (by omega) hc)
theorem msA_16 (h : nB ≤ 4) {i : Nat} (hi : i < 4) : msA a nB i < 16 := by
  unfold msA
  split
  · exact all_16 h
  · exact pow_16 hi
theorem c_better_20 (h : SeaOk D nH nB nS) (hth : th < 16) {r : Nat} (hr : r < 100) (K : Int → Int → Mem → Option (Int × Mem)) : ∀ (m n i : Nat) (s : Mem) (c : (Nat → Int) × Int), i + m = nB → m < n → BtC s D nH nB nS c.1 → BrOk nH nS th c → ∃ s', fX8_better_20 K n a r c.2 i s = (if (itr (brI D nH nB nS th a) m i c).2 = 0 then some ((r : Int), s') else K a ((r + 1 : Nat) : Int) s') ∧ BtC s' D nH nB nS (itr (brI D nH nB nS th a) m i c).1 ∧ (∀ k, k < 122 → k ≠ 111 → k ≠ 112 → s' k = s k)
  | m, 0, _, _, _, _, hn, _, _ => absurd hn (by omega)
  | 0, n + 1, i, s, c, e, _, hB, hc => by
    refine ⟨s, ?_, hB, fun _ _ _ _ => rfl⟩
    rw [fX8_better_20, hB.1.1.2.1, if_pos (by omega), lt_ok, w32_s (by omega)]; rfl
  | m + 1, n + 1, i, s, c, e, hn, hB, hc => by
    have hb := h.1
    have hi : i < 4 := by omega
    obtain ⟨s2, p1, p2, p3⟩ := c_improves h hc.1 hc.2.1 hth (msA_16 (a := a) (nB := nB) (by omega) hi) hi hB
    obtain ⟨s', q1, q2, q3⟩ := c_better_20 h hth hr K m n (i + 1) s2 (brI D nH nB nS th a i c) (by omega) (by omega) p2 (BrOk.i h hi hc)
    rw [itr_succ]
    refine ⟨s', ?_, q2, fun k hk h1 h2 => by rw [q3 k hk h1 h2, p3 k hk h1 h2]⟩
    have k56 : fX8_better_56 K (fun p1 p2 p3 p4 s => fX8_better_20 K n p1 p2 p3 p4 s) a r c.2 i i ((msA a nB i : Nat) : Int) s = fX8_better_20 K n a r (brI D nH nB nS th a i c).2 ((i + 1 : Nat) : Int) s2 := by
      unfold fX8_better_56
      rw [p1, b2_ok, lt_ok, lt_ok, w32_s (by omega)]
      unfold brI
      dsimp only
      split <;> rfl
    rw [fX8_better_20, hB.1.1.2.1, if_neg (by omega), c_allSorts hB.1.1 (by omega), b2_ok, shl_1 (by omega)]
    by_cases c0 : a = 0
    · rw [if_pos c0]
      have em : msA a nB i = 2 ^ nB - 1 := if_pos c0
      rw [em] at k56
      exact k56.trans q1
    · rw [if_neg c0]
      have em : msA a nB i = 2 ^ i := if_neg c0
      rw [em] at k56
      exact k56.trans q1
theorem c_better_9 (h : SeaOk D nH nB nS) (hth : th < 16) : ∀ (m n r : Nat) (s : Mem) (N : Nat → Int), r + m = 7 → m < n → BtC s D nH nB nS N → NowOk N nH nS → N 11 = th → ∃ s', fX8_better_9 n a r s = some ((brG D nH nB nS th a m r N).2, s') ∧ BtC s' D nH nB nS (brG D nH nB nS th a m r N).1 ∧ (∀ k, k < 122 → k ≠ 111 → k ≠ 112 → s' k = s k)
  | m, 0, _, _, _, _, hn, _, _, _ => absurd hn (by omega)
  | 0, n + 1, r, s, N, e, _, hB, hN, e11 => ⟨s, by rw [fX8_better_9, if_pos (by omega), brG], hB, fun _ _ _ _ => rfl⟩
  | m + 1, n + 1, r, s, N, e, hn, hB, hN, e11 => by
    have hb := h.1
    obtain ⟨s2, p1, p2, p3⟩ := c_better_20 (a := a) h hth (show r < 100 by omega) (fun p1 p2 s => fX8_better_9 n p1 p2 s) nB 600 0 s (N, 0) (by omega) (by omega) hB ⟨hN, e11, Or.inl rfl⟩
    have hr := BrOk.r (a := a) h hN e11
    rw [fX8_better_9, if_neg (by omega), brG]
    by_cases c : (brR D nH nB nS th a N).2 = 0
    · refine ⟨s2, ?_, ?_, p3⟩
      · rw [if_pos c]
        exact p1.trans (if_pos c)
      · rw [if_pos c]; exact p2
    · obtain ⟨s', q1, q2, q3⟩ := c_better_9 h hth m n (r + 1) s2 (brR D nH nB nS th a N).1 (by omega) (by omega) p2 hr.1 hr.2.1
      refine ⟨s', ?_, ?_, fun k hk h1 h2 => by rw [q3 k hk h1 h2, p3 k hk h1 h2]⟩
      · rw [if_neg c]
        exact (p1.trans (if_neg c)).trans q1
      · rw [if_neg c]; exact q2
theorem m_betters (h : SeaOk D nH nB nS) (hN : NowOk N nH nS) (e11 : N 11 = th) (hth : th < 16) {i : Nat} (hi : i < nB) (hM : SeaM s D) (hn : NowM s N) : ∃ s', fX9_betters i a s = some ((bsr D nH nB nS th (msA a nB i) N i).2.2.2, s') ∧ SeaM s' D ∧ NowM s' (pput N i (bsr D nH nB nS th (msA a nB i) N i).1 (bsr D nH nB nS th (msA a nB i) N i).2.1) ∧ (∀ c, c ≠ 2 → (c < 5 ∨ 14 < c) → s' c = s c) := by
  unfold fX9_betters
  by_cases c0 : a = 0
  · have em : msA a nB i = mskO nB (-1) := (if_pos c0).trans (by unfold mskO; rw [if_neg (by omega)])
    rw [if_pos c0, em]
    exact m_bet_9 h hN e11 hth (by omega) hi hM hn
  · have em : msA a nB i = mskO nB (i : Int) := (if_neg c0).trans (by unfold mskO; rw [if_pos (by omega), Int.toNat_natCast])
    rw [if_neg c0, em]
    exact m_bet_9 h hN e11 hth (by omega) hi hM hn
theorem or_01 {x y : Int} (hx : x = 0 ∨ x = 1) (hy : y = 0 ∨ y = 1) : orI x y = if y = 0 then x else 1 := by
  rcases hx with rfl | rfl <;> rcases hy with rfl | rfl <;> decide
theorem m_better_18 (h : SeaOk D nH nB nS) (hth : th < 16) {r : Nat} (hr : r < 100) (K : Int → Int → Mem → Option (Int × Mem)) : ∀ (m n i : Nat) (s : Mem) (c : (Nat → Int) × Int), i + m = nB → m < n → SeaM s D → NowM s c.1 → BrOk nH nS th c → ∃ s', fX9_better_18 K n a r c.2 i s = (if (itr (brI D nH nB nS th a) m i c).2 = 0 then some ((r : Int), s') else K a ((r + 1 : Nat) : Int) s') ∧ SeaM s' D ∧ NowM s' (itr (brI D nH nB nS th a) m i c).1 ∧ (∀ k, k ≠ 2 → (k < 5 ∨ 14 < k) → s' k = s k)
  | m, 0, _, _, _, _, hn, _, _, _ => absurd hn (by omega)
  | 0, n + 1, i, s, c, e, _, hM, hN, hc => by
    have hb := h.1
    refine ⟨s, ?_, hM, hN, fun _ _ _ => rfl⟩
    rw [fX9_better_18]
    simp (disch := omega) only [rd_m_sea, bo_ok, Int.reduceToNat, hM.at]
    rw [if_pos (by omega), lt_ok, w32_s (by omega)]; rfl
  | m + 1, n + 1, i, s, c, e, hn, hM, hN, hc => by
    have hb := h.1
    have hi : i < nB := by omega
    have hbs := BsOk.r (th := th) (msk := msA a nB i) h hc.1 (show i < 4 by omega)
    obtain ⟨s2, p1, p2, p3, p4⟩ := m_betters (a := a) h hc.1 hc.2.1 hth hi hM hN
    obtain ⟨s', q1, q2, q3, q4⟩ := m_better_18 h hth hr K m n (i + 1) s2 (brI D nH nB nS th a i c) (by omega) (by omega) p2 p3 (BrOk.i h (by omega) hc)
    rw [itr_succ]
    refine ⟨s', ?_, q2, q3, fun k h1 h2 => by rw [q4 k h1 h2, p4 k h1 h2]⟩
    rw [fX9_better_18]
    simp (disch := omega) only [rd_m_sea, bo_ok, Int.reduceToNat, hM.at]
    rw [if_neg (by omega), p1, b2_ok, lt_ok, lt_ok, w32_s (by omega), or_01 hc.2.2 hbs.2.2]
    exact q1
theorem m_better_7 (h : SeaOk D nH nB nS) (hth : th < 16) : ∀ (m n r : Nat) (s : Mem) (N : Nat → Int), r + m = 7 → m < n → SeaM s D → NowM s N → NowOk N nH nS → N 11 = th → ∃ s', fX9_better_7 n a r s = some ((brG D nH nB nS th a m r N).2, s') ∧ NowM s' (brG D nH nB nS th a m r N).1 ∧ (∀ k, k ≠ 2 → (k < 5 ∨ 14 < k) → s' k = s k)
  | m, 0, _, _, _, _, hn, _, _, _, _ => absurd hn (by omega)
  | 0, n + 1, r, s, N, e, _, hM, hn, hN, e11 => ⟨s, by rw [fX9_better_7, if_pos (by omega), brG], hn, fun _ _ _ => rfl⟩
  | m + 1, n + 1, r, s, N, e, hnn, hM, hn, hN, e11 => by
    have hb := h.1
    obtain ⟨s2, p1, p2, p3, p4⟩ := m_better_18 (a := a) h hth (show r < 100 by omega) (fun p1 p2 s => fX9_better_7 n p1 p2 s) nB 600 0 s (N, 0) (by omega) (by omega) hM hn ⟨hN, e11, Or.inl rfl⟩
    have hr := BrOk.r (a := a) h hN e11
    rw [fX9_better_7, if_neg (by omega), brG]
    by_cases c : (brR D nH nB nS th a N).2 = 0
    · refine ⟨s2, ?_, ?_, p4⟩
      · rw [if_pos c]
        exact p1.trans (if_pos c)
      · rw [if_pos c]; exact p3
    · obtain ⟨s', q1, q2, q3⟩ := m_better_7 h hth m n (r + 1) s2 (brR D nH nB nS th a N).1 (by omega) (by omega) p2 p3 hr.1 hr.2.1
      refine ⟨s', ?_, ?_, fun k h1 h2 => by rw [q3 k h1 h2, p4 k h1 h2]⟩
      · rw [if_neg c]
        exact (p1.trans (if_neg c)).trans q1
      · rw [if_neg c]; exact q2
theorem brG_ok (h : SeaOk D nH nB nS) : ∀ (m r : Nat) (N : Nat → Int), NowOk N nH nS → N 11 = th → NowOk (brG D nH nB nS th a m r N).1 nH nS
  | 0, _, _, hN, _ => hN
  | m + 1, r, N, hN, e11 => by
    have hr := BrOk.r (a := a) h hN e11
    unfold brG
    split
    · exact hr.1
    · exact brG_ok h m (r + 1) _ hr.1 hr.2.1
theorem call_better (hI : Inv s) (a : Int) : ∃ r s1 s2, fX8_better a s = some (r, s1) ∧ fX9_better a s1 = some (r, s2) ∧ Inv s2 := by
  obtain ⟨D, nH, nB, nS, N, K, kc, T, tl, hV, hM, hC⟩ := hI
  have hb := hV.1.1
  obtain ⟨th, e11, hth⟩ := hV.2.1.2.2.2.2.2.2.2
  have h16 := th_16 hth (by omega)
  obtain ⟨u1, u2, u3, u4⟩ := c_usual hC hV.1 hV.2.1
  have hB : BtC (mu (mu s 122 1 0) 122 3 0) D nH nB nS N := ⟨⟨u2.1, u2.2.1, hC.2.2.1.fr (u4 _ (by decide)) (u4 _ (by decide)) (u4 _ (by decide))⟩, by rw [mu_same, fu_ne _ _ (by decide), mu_same, fu_same], by rw [mu_same, fu_same]⟩
  obtain ⟨s1, p1, p2, p3⟩ := c_better_9 (a := a) hV.1 h16 6 600 1 _ N (by omega) (by omega) hB hV.2.1 e11
  have f1 : ∀ k, k < 122 → k ≠ 111 → k ≠ 112 → s1 k = s k := fun k hk h1 h2 => by rw [p3 k hk h1 h2, u4 k (by omega)]
  have hM1 : InvM s1 D N K kc T tl := hM.fr (fun k hk => f1 k (by omega) (by omega) (by omega))
  have h0 := hM1.thrown
  obtain ⟨s2, g1, g2, g3⟩ := m_better_7 (a := a) hV.1 h16 6 600 1 (mu s1 0 0 0) N (by omega) (by omega) h0.1 h0.2.1 hV.2.1 e11
  have f2 : ∀ c, c ≠ 0 → c ≠ 2 → (c < 5 ∨ 16 < c) → s2 c = s1 c := fun c h1 h2 h3 => by rw [g3 c h2 (by omega), mu_ne _ _ _ h1]
  have f0 : ∀ f, f ≠ 0 → s2 0 f = s1 0 f := fun f hf => by rw [g3 0 (by decide) (by decide), mu_same, fu_ne _ _ hf]
  refine ⟨(brG D nH nB nS th a 6 1 N).2, s1, s2, ?_, ?_, D, nH, nB, nS, (brG D nH nB nS th a 6 1 N).1, K, kc, T, tl, ⟨hV.1, brG_ok hV.1 6 1 N hV.2.1 e11, hV.2.2⟩, ?_, ?_⟩
  · unfold fX8_better
    rw [u1, bo_ok]; exact p1
  · unfold fX9_better
    rw [lt_ok]; exact g1
  · exact hM1.now g2 (f2 1 (by decide) (by decide) (by decide)) (f2 3 (by decide) (by decide) (by decide)) (f2 4 (by decide) (by decide) (by decide)) (f0 4 (by decide)) (f0 6 (by decide))
  · have h1 : InvC s1 D nH nB nS (brG D nH nB nS th a 6 1 N).1 K kc T tl := hC.now hV.1 p2.1.2.2 (fun k a b c => f1 k (by omega) (by omega) (by omega))
    exact h1.fr (fun k hk => f2 k (by omega) (by omega) (by omega))
end BR

section G2
variable {D : Nat → Int} {nH nB nS q : Nat} {U G : Nat → Nat} {V : Nat → Int} {w : Bool} {s s' : Mem}
/-- the boats as they stand at first: the whole SORTS below i, and k of SORT i -/
def BoI (s : Mem) (D : Nat → Int) (i k : Nat) : Prop := ∀ i' n, (i' < i ∨ (i' = i ∧ n < k)) → n < nbF D i' → s 8 (fo D i' + n) = ((i' : Nat) : Int) ∧ s 9 (fo D i' + n) = 99 ∧ s 10 (fo D i' + n) = 0 ∧ s 11 (fo D i' + n) = 1000000 ∧ s 12 (fo D i' + n) = 0
theorem m_29 {K : Int → Int → Int → Int → Mem → Option (Int × Mem)} (h : PlOk D nH nB nS q U G V) {i : Nat} {a1 a2 : Int} (hi : i < nB) : ∀ (m n k : Nat) (s : Mem), k + m = nbF D i → m < n → SeaM s D → BoI s D i k → ∃ s', fX9_goesBy_29 K n a1 a2 ((fo D i + k : Nat) : Int) i k s = K a1 a2 ((fo D (i + 1) : Nat) : Int) ((i + 1 : Nat) : Int) s' ∧ BoI s' D (i + 1) 0 ∧ (∀ c, (c < 8 ∨ 12 < c) → s' c = s c)
  | m, 0, _, _, _, hn, _, _ => absurd hn (by omega)
  | 0, n + 1, k, s, e, _, hM, hB => by
    have hb4 := h.1.1
    have hn8 := nbF_i h.1 (i := i) (by omega)
    refine ⟨s, ?_, fun i' k' hor hk' => hB i' k' (by
      rcases hor with z | z
      · by_cases c : i' = i
        · subst c; exact Or.inr ⟨rfl, by omega⟩
        · exact Or.inl (by omega)
      · omega) hk', fun _ _ => rfl⟩
    rw [fX9_goesBy_29]
    simp (disch := omega) only [nab, na_0, na_1, na_2, na_3, na_4, na_5, na_6, na_8, na_10, na_12, na_16, na_24, na_36, na_52, na_76, na_120, na_172, na_186, nb_0, nb_1, nb_2, nb_3, nb_4, nb_5, nb_6, nb_8, nb_10, nb_12, nb_16, nb_24, nb_36, nb_52, nb_76, nb_120, nb_172, nb_186, nm_2, nm_3, nm_4, nm_5, nm_6, nm_8, nm_10, nm_12, nm_16, nm_24, nm_36, nm_52, nm_76, nm_120, nm_172, nm_186, nn_2, nn_3, nn_4, nn_5, nn_6, nn_8, nn_10, nn_12, nn_16, nn_24, nn_36, nn_52, nn_76, nn_120, nn_172, nn_186, rd_m_sea, bo_ok, lt_ok, Int.toNat_natCast, hM.at]
    rw [if_pos (by omega), fo_s, show nbF D i = k by omega]
  | m + 1, n + 1, k, s, e, hn, hM, hB => by
    have hb4 := h.1.1
    have hn8 := nbF_i h.1 (i := i) (by omega)
    have hfo := fo_le h.1 nB (by omega)
    have hlt := fo_lt D hi
    obtain ⟨s', q1, q2, q3⟩ := m_29 (K := K) (a1 := a1) (a2 := a2) h hi m n (k + 1) (mu (mu (mu (mu (mu s 8 (fo D i + k) ((i : Nat) : Int)) 9 (fo D i + k) 99) 10 (fo D i + k) 0) 11 (fo D i + k) 1000000) 12 (fo D i + k) 0) (by omega) (by omega) (hM.fr (by simp (disch := decide) only [mu_ne])) (fun i' n' hor hn' => by
      simp (disch := decide) only [mu_ne, mu_same]
      by_cases c : fo D i' + n' = fo D i + k
      · obtain ⟨rfl, rfl⟩ := fo_inj hn' (show k < nbF D i by omega) c
        simp only [fu_same]; simp
      · simp only [fu_ne _ _ c]
        refine hB i' n' ?_ hn'
        rcases hor with z | ⟨rfl, z⟩
        · exact Or.inl z
        · exact Or.inr ⟨rfl, by
            rcases Nat.lt_or_ge n' k with y | y
            · exact y
            · exact absurd (show fo D i' + n' = fo D i' + k by omega) c⟩)
    refine ⟨s', ?_, q2, fun c hc => by rw [q3 c hc]; simp (disch := omega) only [mu_ne]⟩
    rw [fX9_goesBy_29]
    simp (disch := omega) only [nab, na_0, na_1, na_2, na_3, na_4, na_5, na_6, na_8, na_10, na_12, na_16, na_24, na_36, na_52, na_76, na_120, na_172, na_186, nb_0, nb_1, nb_2, nb_3, nb_4, nb_5, nb_6, nb_8, nb_10, nb_12, nb_16, nb_24, nb_36, nb_52, nb_76, nb_120, nb_172, nb_186, nm_2, nm_3, nm_4, nm_5, nm_6, nm_8, nm_10, nm_12, nm_16, nm_24, nm_36, nm_52, nm_76, nm_120, nm_172, nm_186, nn_2, nn_3, nn_4, nn_5, nn_6, nn_8, nn_10, nn_12, nn_16, nn_24, nn_36, nn_52, nn_76, nn_120, nn_172, nn_186, rd_m_sea, wr_m_boatSort, wr_m_came, wr_m_miles, wr_m_lives, bo_ok, lt_ok, Int.toNat_natCast, hM.at]
    rw [if_neg (by omega), wr_m_isSafe (by omega) (by omega) (Or.inl rfl), bo_ok, Int.toNat_natCast]
    exact q1
theorem m_102 (h : PlOk D nH nB nS q U G V) {a1 a2 a3 : Int} : ∀ (m n j : Nat) (s : Mem), j + m = 4 → m < n → (∀ a, a < j → s 13 a = 0) → ∃ s', fX9_goesBy_102 n a1 a2 a3 j s = fX9_goesBy_125 600 a1 a2 a3 0 s' ∧ (∀ a, a < 4 → s' 13 a = 0) ∧ (∀ c, c ≠ 13 → s' c = s c)
  | m, 0, _, _, _, hn, _ => absurd hn (by omega)
  | 0, n + 1, j, s, e, _, hI => ⟨s, by rw [fX9_goesBy_102, if_pos (by omega)], fun a ha => hI a (by omega), fun _ _ => rfl⟩
  | m + 1, n + 1, j, s, e, hn, hI => by
    obtain ⟨s', q1, q2, q3⟩ := m_102 (a1 := a1) (a2 := a2) (a3 := a3) h m n (j + 1) (mu s 13 j 0) (by omega) (by omega) (fun a ha => by
      rw [mu_same]
      by_cases c : a = j
      · subst c; rw [fu_same]
      · rw [fu_ne _ _ c]; exact hI a (by omega))
    refine ⟨s', ?_, q2, fun c hc => by rw [q3 c hc, mu_ne _ _ _ hc]⟩
    rw [fX9_goesBy_102, if_neg (by omega)]
    simp (disch := omega) only [wr_m_inside, bo_ok, lt_ok, Int.toNat_natCast, w32_s]
    exact q1
theorem m_5 (h : PlOk D nH nB nS q U G V) {a1 a2 : Int} : ∀ (m n i : Nat) (s : Mem), i + m = nB → m < n → SeaM s D → BoI s D i 0 → (∀ a, a < i → s 14 a = 0) → ∃ s', fX9_goesBy_5 n a1 a2 ((fo D i : Nat) : Int) i s = fX9_goesBy_125 600 a1 a2 ((fo D nB : Nat) : Int) 0 s' ∧ BoI s' D nB 0 ∧ (∀ a, a < nB → s' 14 a = 0) ∧ (∀ a, a < 4 → s' 13 a = 0) ∧ (∀ c, (c < 8 ∨ 14 < c) → s' c = s c)
  | m, 0, _, _, _, hn, _, _, _ => absurd hn (by omega)
  | 0, n + 1, i, s, e, _, hM, hB, hV => by
    have hb4 := h.1.1
    have e : i = nB := by omega
    subst e
    obtain ⟨s', q1, q2, q3⟩ := m_102 (a1 := a1) (a2 := a2) (a3 := ((fo D i : Nat) : Int)) h 4 600 0 s (by omega) (by omega) (fun a ha => absurd ha (by omega))
    refine ⟨s', ?_, fun i' n' hor hn' => ?_, fun a ha => by rw [q3 14 (by decide)]; exact hV a ha, q2, fun c hc => q3 c (by omega)⟩
    · rw [fX9_goesBy_5]
      simp (disch := omega) only [rd_m_sea, bo_ok, Int.reduceToNat, hM.at]
      rw [if_pos (by omega)]
      exact q1
    · rw [q3 8 (by decide), q3 9 (by decide), q3 10 (by decide), q3 11 (by decide), q3 12 (by decide)]; exact hB i' n' hor hn'
  | m + 1, n + 1, i, s, e, hn, hM, hB, hV => by
    have hb4 := h.1.1
    have hn8 := nbF_i h.1 (i := i) (by omega)
    obtain ⟨s2, q1, q2, q3⟩ := m_29 (K := fun p1 p2 p3 p4 s => fX9_goesBy_5 n p1 p2 p3 p4 s) (a1 := a1) (a2 := a2) h (i := i) (by omega) (nbF D i) 600 0 (mu s 14 i 0) (by omega) (by omega) (hM.fr (mu_ne _ _ _ (by decide))) (fun i' n' hor hn' => by
      simp (disch := decide) only [mu_ne]
      exact hB i' n' hor hn')
    obtain ⟨s', r1, r2, r3, r4, r5⟩ := m_5 (a1 := a1) (a2 := a2) h m n (i + 1) s2 (by omega) (by omega) (hM.fr (by rw [q3 1 (by omega), mu_ne _ _ _ (by decide)])) q2 (fun a ha => by
      rw [q3 14 (by omega), mu_same]
      by_cases c : a = i
      · subst c; rw [fu_same]
      · rw [fu_ne _ _ c]; exact hV a (by omega))
    refine ⟨s', ?_, r2, r3, r4, fun c hc => by rw [r5 c hc, q3 c (by omega), mu_ne _ _ _ (by omega)]⟩
    rw [fX9_goesBy_5]
    simp (disch := omega) only [rd_m_sea, wr_m_valueOf, bo_ok, Int.reduceToNat, Int.toNat_natCast, hM.at]
    rw [if_neg (by omega)]
    exact q1.trans r1
/-- the reference's sailing: its sum, the worth of each SORT, its boats at last -/
theorem m_goesBy (h : PlOk D nH nB nS q U G V) (hM : PrM s D nB U G V) : ∃ s', fX9_goesBy q (if w = true then 1 else 0) s = some (w64 (vM D nB q U G V w (2 ^ nB - 1)), s') ∧ (∀ i, i < nB → s' 14 i = w64 (vS D nB q U G V w i)) ∧ BoC s' D nB q U G V (FF D nB q U G V w) 24 ∧ (∀ c, (c < 8 ∨ 14 < c) → s' c = s c) := by
  have hb4 := h.1.1
  have hfo := fo_le h.1 nB (by omega)
  obtain ⟨s1, a1, a2, a3, a4, a5⟩ := m_5 (a1 := q) (a2 := if w = true then 1 else 0) h nB 600 0 s (by omega) (by omega) hM.1 (fun i' n' hor _ => by omega) (fun a ha => absurd ha (by omega))
  have hM1 : PrM s1 D nB U G V := hM.fr (a5 _ (by omega)) (a5 _ (by omega)) (a5 _ (by omega)) (a5 _ (by omega))
  have e0 : ∀ i, SJ D nB q U G V w 0 0 i = (0, fun _ => 24) := fun i => by unfold SJ; rw [if_neg (by omega)]; rfl
  obtain ⟨s2, b1, b2, b3, b4⟩ := m_125 (w := w) h 24 600 0 s1 (by omega) (by omega) hM1 (fun i n hi hn => by
    obtain ⟨x1, x2, x3, x4, x5⟩ := a2 i n (Or.inl hi) hn
    rw [e0 i]
    refine ⟨x1, by rw [if_neg (by simp)]; exact x5, by rw [if_neg (by simp)]; exact x4, fun _ => ⟨fun z1 z2 => ?_, fun _ => x2, fun _ => x3, fun z1 z2 => ?_⟩⟩
    · exfalso
      have hu := (h.2.2.1 i (by omega)).1
      unfold aF at z1 z2
      rcases Nat.lt_or_ge (U i) 24 with z | z
      · have := arr_gt D (V i) (D (36 + 4 * i + G i)) q z; omega
      · rw [show U i = 24 by omega, arr_24] at z2; omega
    · rw [x3]
      refine ⟨?_, by omega, by omega⟩
      unfold aF arr
      rw [show U i = 0 by omega]) (fun j hj => by
    rw [a4 j (by omega), inn_cg (S := S0) nB (fun i _ => e0 i), inn_0]; rfl) (fun i hi => by
    rw [a3 i hi, show min 0 (U i) = 0 by omega]
    show 0 = w64 ((nbF D i : Int) * 0)
    rw [Int.mul_zero]; rfl)
  obtain ⟨s3, c1, c2, c3⟩ := m_315 h (fo D nB) 600 0 s2 (by omega) (by omega) (hM1.1.fr (b4 _ (by omega))) b2 (fun i hi => by
    have hu := (h.2.2.1 i (by omega)).1
    rw [b3 i hi, show min 24 (U i) = U i by omega, show min (0 - fo D i) (nbF D i) = 0 by omega, dd, Int.mul_zero, Int.sub_zero])
  refine ⟨s3, a1.trans (b1.trans c1), c2, fun i n hi hn => ?_, fun c hc => by rw [c3 c (by omega), b4 c hc, a5 c hc]⟩
  obtain ⟨x1, x2, x3, x4⟩ := b2 i n hi hn
  rw [c3 8 (by decide), c3 12 (by decide), c3 11 (by decide)]
  exact ⟨x1, x2, x3, fun z => (x4 z).fr (by rw [c3 9 (by decide)]) (by rw [c3 10 (by decide)])⟩
end G2

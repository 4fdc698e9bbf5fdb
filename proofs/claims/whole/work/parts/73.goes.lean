/-! ===== the reference's sailing ===== -/
def VaM (s : Mem) (D : Nat → Int) (nB q : Nat) (U : Nat → Nat) (t : Nat) : Prop := ∀ i, i < nB → s 14 i = w64 ((nbF D i : Int) * fsh D i q (min t (U i)))
def BoP (s : Mem) (D : Nat → Int) (nB q : Nat) (U G : Nat → Nat) (V : Nat → Int) (S : Nat → Nat × (Nat → Nat)) (t b : Nat) : Prop := ∀ i n, i < nB → n < nbF D i → s 8 (fo D i + n) = ((i : Nat) : Int) ∧ s 12 (fo D i + n) = (if n < (S i).1 then 1 else 0) ∧ s 11 (fo D i + n) = alv D i q (if n < (S i).1 then (S i).2 n else if fo D i + n < b then t + 1 else t) ∧ ((S i).1 ≤ n → CmM s D q U G V (if fo D i + n < b then t + 1 else t) i (fo D i + n))
def VaP (s : Mem) (D : Nat → Int) (nB q : Nat) (U : Nat → Nat) (t b : Nat) : Prop := ∀ i, i < nB → s 14 i = w64 ((nbF D i : Int) * fsh D i q (min t (U i)) + (if t < U i then ((min (b - fo D i) (nbF D i) : Nat) : Int) * (D (16 + 5 * i + 2) * alv D i q t) else 0))
section GO
variable {D : Nat → Int} {nH nB nS q : Nat} {U G : Nat → Nat} {V : Nat → Int} {w : Bool} {s s' : Mem} {S : Nat → Nat × (Nat → Nat)}
theorem m_272 {K : Int → Int → Int → Int → Mem → Option (Int × Mem)} (h : PlOk D nH nB nS q U G V) {t : Nat} {ww : Int} (ht : t < 24) (hS : Sok (nbF D) (aF D q U G V) (t + 1) S) : ∀ (m n b : Nat) (s : Mem), b + m = fo D nB → m < n → PrM s D nB U G V → BoP s D nB q U G V S t b → VaP s D nB q U t b → ∃ s', fX9_goesBy_272 K n q ww ((fo D nB : Nat) : Int) t b s = K q ww ((fo D nB : Nat) : Int) ((t + 1 : Nat) : Int) s' ∧ BoC s' D nB q U G V S (t + 1) ∧ VaM s' D nB q U (t + 1) ∧ (∀ c, c ≠ 9 → c ≠ 10 → c ≠ 11 → c ≠ 14 → s' c = s c)
  | m, 0, _, _, _, hn, _, _, _ => absurd hn (by omega)
  | 0, n + 1, b, s, e, _, hM, hB, hV => by
    have e : b = fo D nB := by omega
    subst e
    refine ⟨s, by rw [fX9_goesBy_272, if_pos (by omega), lt_ok, w32_s (by omega)], fun i k hi hk => ?_, fun i hi => ?_, fun _ _ _ _ _ => rfl⟩
    · have hlt := fo_lt D hi
      have := hB i k hi hk
      rw [if_pos (show fo D i + k < fo D nB by omega)] at this
      exact this
    · have hlt := fo_lt D hi
      rw [hV i hi, show min (fo D nB - fo D i) (nbF D i) = nbF D i by omega]
      by_cases c : t < U i
      · rw [if_pos c, show min t (U i) = t by omega, show min (t + 1) (U i) = t + 1 by omega, fsh, Int.mul_add]
      · rw [if_neg c, Int.add_zero, show min t (U i) = U i by omega, show min (t + 1) (U i) = U i by omega]
  | m + 1, n + 1, b, s, e, hn, hM, hB, hV => by
    have hb4 := h.1.1
    have hf := fo_le h.1 nB (by omega)
    obtain ⟨i, k, hi, hk, rfl⟩ := fo_ex D (show b < fo D nB by omega)
    obtain ⟨b1, b2, b3, b4⟩ := hB i k hi hk
    rw [if_neg (show ¬ fo D i + k < fo D i + k by omega)] at b3 b4
    rw [fX9_goesBy_272, if_neg (by omega)]
    simp (disch := omega) only [rd_m_isSafe, bo_ok, Int.toNat_natCast, b2]
    by_cases cs : k < (S i).1
    · rw [if_pos cs, if_neg (by decide), lt_ok, w32_s (by omega)]
      refine m_272 h ht hS m n (fo D i + k + 1) s (by omega) (by omega) hM (fun i' k' hi' hk' => ?_) (fun i' hi' => ?_)
      · obtain ⟨x1, x2, x3, x4⟩ := hB i' k' hi' hk'
        by_cases ce : fo D i' + k' = fo D i + k
        · obtain ⟨rfl, rfl⟩ := fo_inj hk' hk ce
          simp only [if_pos cs] at x2 x3 ⊢
          exact ⟨x1, x2, x3, fun z => absurd z (by omega)⟩
        · have hlt : (fo D i' + k' < fo D i + k + 1) = (fo D i' + k' < fo D i + k) := propext (by omega)
          simp only [hlt]
          exact ⟨x1, x2, x3, x4⟩
      · rw [hV i' hi']
        by_cases ce : i' = i
        · subst ce
          have h1 := (hS i').2.1 k cs
          have : ¬ t < U i' := fun z => by
            have := aF_gt h (i := i') (by omega) ht z; omega
          rw [if_neg this, if_neg this]
        · have : min (fo D i + k - fo D i') (nbF D i') = min (fo D i + k + 1 - fo D i') (nbF D i') := by
            rcases Nat.lt_or_ge i i' with z | z
            · have := fo_lt D z; omega
            · have := fo_lt D (show i' < i by omega); omega
          rw [this]
    · rw [if_neg cs] at b3
      obtain ⟨s2, q1, q2, q3, q4, q5, q6, q7⟩ := m_hour h hM hi (b := fo D i + k) (by omega) ht b1 b3 (b4 (by omega))
      rw [if_neg cs, if_pos rfl, q1, bo_ok, lt_ok, w32_s (by omega)]
      obtain ⟨s', r1, r2, r3, r4⟩ := m_272 (K := K) (ww := ww) h ht hS m n (fo D i + k + 1) s2 (by omega) (by omega) (hM.fr (q7 _ (by decide) (by decide) (by decide) (by decide)) (q7 _ (by decide) (by decide) (by decide) (by decide)) (q7 _ (by decide) (by decide) (by decide) (by decide)) (q7 _ (by decide) (by decide) (by decide) (by decide))) (fun i' k' hi' hk' => by
        obtain ⟨x1, x2, x3, x4⟩ := hB i' k' hi' hk'
        rw [q7 8 (by decide) (by decide) (by decide) (by decide), q7 12 (by decide) (by decide) (by decide) (by decide)]
        by_cases ce : fo D i' + k' = fo D i + k
        · obtain ⟨rfl, rfl⟩ := fo_inj hk' hk ce
          simp only [if_neg cs, if_pos (show fo D i' + k' < fo D i' + k' + 1 by omega)] at x2 ⊢
          exact ⟨x1, x2, q2, fun _ => q4⟩
        · have hlt : (fo D i' + k' < fo D i + k + 1) = (fo D i' + k' < fo D i + k) := propext (by omega)
          simp only [hlt]
          exact ⟨x1, x2, by rw [q3 _ ce]; exact x3, fun z => (x4 z).fr (q5 _ ce).1 (q5 _ ce).2⟩) (fun i' hi' => by
        rw [q6]
        by_cases ce : i' = i
        · subst ce
          have hv := hV i' hi'
          by_cases cu : t < U i'
          · rw [if_pos cu, fu_same, hv, if_pos cu, if_pos cu, w64_al]
            congr 1
            rw [show min (fo D i' + k - fo D i') (nbF D i') = k by omega, show min (fo D i' + k + 1 - fo D i') (nbF D i') = k + 1 by omega]
            rw [show ((k + 1 : Nat) : Int) = (k : Int) + 1 from rfl, Int.add_mul, Int.one_mul]
            omega
          · rw [if_neg cu, hv, if_neg cu, if_neg cu]
        · have hx : (if t < U i then fu (s 14) i (w64 (s 14 i + D (16 + 5 * i + 2) * alv D i q t)) else s 14) i' = s 14 i' := by
            split
            · rw [fu_ne _ _ ce]
            · rfl
          have : min (fo D i + k - fo D i') (nbF D i') = min (fo D i + k + 1 - fo D i') (nbF D i') := by
            rcases Nat.lt_or_ge i i' with z | z
            · have := fo_lt D z; omega
            · have := fo_lt D (show i' < i by omega); omega
          rw [hx, hV i' hi', this])
      exact ⟨s', r1, r2, r3, fun c h9 h10 h11 h14 => by rw [r4 c h9 h10 h11 h14, q7 c h9 h10 h11 h14]⟩
theorem BoC.cg {S' : Nat → Nat × (Nat → Nat)} {t : Nat} (h : BoC s D nB q U G V S t) (e : ∀ i, i < nB → S' i = S i) : BoC s D nB q U G V S' t := fun i n hi hn => by rw [e i hi]; exact h i n hi hn
theorem inn_cg {S' : Nat → Nat × (Nat → Nat)} {j : Nat} : ∀ m, (∀ i, i < m → S' i = S i) → inn G j S' m = inn G j S m
  | 0, _ => rfl
  | m + 1, e => by rw [inn, inn, inn_cg m (fun i hi => e i (by omega)), e m (by omega)]
theorem m_125 (h : PlOk D nH nB nS q U G V) : ∀ (m n t : Nat) (s : Mem), t + m = 24 → m < n → PrM s D nB U G V → BoC s D nB q U G V (SJ D nB q U G V w t 0) t → InM s G nB nH (SJ D nB q U G V w t 0) → VaM s D nB q U t → ∃ s', fX9_goesBy_125 n q (if w = true then 1 else 0) ((fo D nB : Nat) : Int) t s = fX9_goesBy_315 600 ((fo D nB : Nat) : Int) 0 0 s' ∧ BoC s' D nB q U G V (FF D nB q U G V w) 24 ∧ VaM s' D nB q U 24 ∧ (∀ c, (c < 8 ∨ 14 < c) → s' c = s c)
  | m, 0, _, _, _, hn, _, _, _, _ => absurd hn (by omega)
  | 0, n + 1, t, s, e, _, hM, hB, hI, hV => by
    have e : t = 24 := by omega
    subst e
    exact ⟨s, by rw [fX9_goesBy_125, if_pos (by omega)], hB.cg (fun i _ => rfl), hV, fun _ _ => rfl⟩
  | m + 1, n + 1, t, s, e, hn, hM, hB, hI, hV => by
    have hb4 := h.1.1
    obtain ⟨s2, q1, q2, q3, q4⟩ := m_135 (K1 := fun p1 p2 p3 p4 s => fX9_goesBy_125 n p1 p2 p3 p4 s) h (t := t) (by omega) nH 600 0 s (by omega) (by omega) hM hB hI
    have hM2 : PrM s2 D nB U G V := hM.fr (q4 _ (by decide) (by decide)) (q4 _ (by decide) (by decide)) (q4 _ (by decide) (by decide)) (q4 _ (by decide) (by decide))
    have hfo := fo_le h.1 nB (by omega)
    obtain ⟨s3, r1, r2, r3, r4⟩ := m_272 (K := fun p1 p2 p3 p4 s => fX9_goesBy_125 n p1 p2 p3 p4 s) (ww := if w = true then 1 else 0) h (t := t) (by omega) (SJ_ok t nH) (fo D nB) 600 0 s2 (by omega) (by omega) hM2 (fun i k hi hk => by
      rw [if_neg (show ¬ fo D i + k < 0 by omega)]; exact q2 i k hi hk) (fun i hi => by
      rw [q4 14 (by decide) (by decide), hV i hi]
      congr 1
      rw [show min (0 - fo D i) (nbF D i) = 0 by omega]
      simp)
    have eS : ∀ i, i < nB → SJ D nB q U G V w (t + 1) 0 i = SJ D nB q U G V w t nH i := fun i hi => by
      unfold SJ
      rw [if_neg (by omega), if_pos (h.2.2.1 i (by omega)).2]
    obtain ⟨s', z1, z2, z3, z4⟩ := m_125 h m n (t + 1) s3 (by omega) (by omega) (hM2.fr (r4 _ (by decide) (by decide) (by decide) (by decide)) (r4 _ (by decide) (by decide) (by decide) (by decide)) (r4 _ (by decide) (by decide) (by decide) (by decide)) (r4 _ (by decide) (by decide) (by decide) (by decide))) (r2.cg eS) (fun j hj => by
      rw [r4 13 (by decide) (by decide) (by decide) (by decide), inn_cg nB eS]; exact q3 j hj) r3
    refine ⟨s', ?_, z2, z3, fun c hc => by rw [z4 c hc, r4 c (by omega) (by omega) (by omega) (by omega), q4 c (by omega) (by omega)]⟩
    rw [fX9_goesBy_125, if_neg (by omega)]
    exact q1.trans (r1.trans z1)
theorem m_377 (h : PlOk D nH nB nS q U G V) (hM : SeaM s D) (hV : ∀ i, i < nB → s 14 i = w64 (vS D nB q U G V w i)) : ∀ (m n i : Nat), i + m = nB → m < n → fX9_goesBy_377 n (w64 (sm (2 ^ nB - 1) (vS D nB q U G V w) i)) i s = some (w64 (vM D nB q U G V w (2 ^ nB - 1)), s)
  | m, 0, _, _, hn => absurd hn (by omega)
  | 0, n + 1, i, e, _ => by
    have hb4 := h.1.1
    have e : i = nB := by omega
    subst e
    rw [fX9_goesBy_377]
    simp (disch := omega) only [rd_m_sea, bo_ok, Int.reduceToNat, hM.at]
    rw [if_pos (by omega)]; rfl
  | m + 1, n + 1, i, e, hn => by
    have hb4 := h.1.1
    have ih := m_377 h hM hV m n (i + 1) (by omega) (by omega)
    have hbit : (2 ^ nB - 1).testBit i = true := by rw [Nat.testBit_two_pow_sub_one]; exact decide_eq_true (by omega)
    rw [sm, if_pos hbit] at ih
    rw [fX9_goesBy_377]
    simp (disch := omega) only [rd_m_sea, rd_m_valueOf, bo_ok, lt_ok, Int.reduceToNat, Int.toNat_natCast, hM.at, hV, w32_s]
    rw [if_neg (by omega), w64_al, w64_ar]
    exact ih
theorem m_315 (h : PlOk D nH nB nS q U G V) : ∀ (m n b : Nat) (s : Mem), b + m = fo D nB → m < n → SeaM s D → BoC s D nB q U G V (FF D nB q U G V w) 24 → (∀ i, i < nB → s 14 i = w64 ((nbF D i : Int) * fsh D i q (U i) - D (16 + 5 * i + 3) * dd D i q (FF D nB q U G V w i).2 (min (b - fo D i) (nbF D i)))) → ∃ s', fX9_goesBy_315 n ((fo D nB : Nat) : Int) 0 b s = some (w64 (vM D nB q U G V w (2 ^ nB - 1)), s') ∧ (∀ i, i < nB → s' 14 i = w64 (vS D nB q U G V w i)) ∧ (∀ c, c ≠ 14 → s' c = s c)
  | m, 0, _, _, _, hn, _, _, _ => absurd hn (by omega)
  | 0, n + 1, b, s, e, _, hM, hB, hV => by
    have hb4 := h.1.1
    have e : b = fo D nB := by omega
    subst e
    have hV2 : ∀ i, i < nB → s 14 i = w64 (vS D nB q U G V w i) := fun i hi => by
      have := fo_lt D hi
      rw [hV i hi, show min (fo D nB - fo D i) (nbF D i) = nbF D i by omega]; rfl
    refine ⟨s, ?_, hV2, fun _ _ => rfl⟩
    rw [fX9_goesBy_315, if_pos (by omega)]
    exact m_377 h hM hV2 nB 600 0 (by omega) (by omega)
  | m + 1, n + 1, b, s, e, hn, hM, hB, hV => by
    have hb4 := h.1.1
    have hq := h.2.1
    have hf := fo_le h.1 nB (by omega)
    obtain ⟨i, k, hi, hk, rfl⟩ := fo_ex D (show b < fo D nB by omega)
    obtain ⟨b1, b2, b3, b4⟩ := hB i k hi hk
    have he : (if k < (FF D nB q U G V w i).1 then (FF D nB q U G V w i).2 k else 24) = (FF D nB q U G V w i).2 k := by
      split
      · rfl
      · rw [(FF_ok (D := D) (nB := nB) (q := q) (U := U) (G := G) (V := V) (w := w) i).2.2 k (by omega)]
    rw [he] at b3
    have ra := alv_rg h.1 (i := i) (q := q) (by omega) (by omega) ((FF D nB q U G V w i).2 k)
    have hv := hV i hi
    rw [show min (fo D i + k - fo D i) (nbF D i) = k by omega] at hv
    rw [fX9_goesBy_315, if_neg (by omega)]
    simp (disch := omega) only [nab, na_0, na_1, na_2, na_3, na_4, na_5, na_6, na_8, na_10, na_12, na_16, na_24, na_36, na_52, na_76, na_120, na_172, na_186, nb_0, nb_1, nb_2, nb_3, nb_4, nb_5, nb_6, nb_8, nb_10, nb_12, nb_16, nb_24, nb_36, nb_52, nb_76, nb_120, nb_172, nb_186, nm_2, nm_3, nm_4, nm_5, nm_6, nm_8, nm_10, nm_12, nm_16, nm_24, nm_36, nm_52, nm_76, nm_120, nm_172, nm_186, nn_2, nn_3, nn_4, nn_5, nn_6, nn_8, nn_10, nn_12, nn_16, nn_24, nn_36, nn_52, nn_76, nn_120, nn_172, nn_186, rd_m_boatSort, rd_m_valueOf, wr_m_valueOf, rd_m_sea, rd_m_lives, bo_ok, lt_ok, Int.toNat_natCast, hM.at, b1, b3, hv]
    rw [w32_id (x := 1000000 - _) (by omega) (by omega), w64_sr, w64_sl]
    obtain ⟨s', r1, r2, r3⟩ := m_315 h m n (fo D i + k + 1) (mu s 14 i (w64 ((nbF D i : Int) * fsh D i q (U i) - D (16 + 5 * i + 3) * dd D i q (FF D nB q U G V w i).2 k - D (16 + 5 * i + 3) * (1000000 - alv D i q ((FF D nB q U G V w i).2 k))))) (by omega) (by omega) (hM.fr (mu_ne _ _ _ (by decide))) (fun i' k' hi' hk' => by
      obtain ⟨x1, x2, x3, x4⟩ := hB i' k' hi' hk'
      rw [mu_ne _ _ _ (show 8 ≠ 14 by decide), mu_ne _ _ _ (show 12 ≠ 14 by decide), mu_ne _ _ _ (show 11 ≠ 14 by decide)]
      exact ⟨x1, x2, x3, fun z => (x4 z).fr (by rw [mu_ne _ _ _ (by decide)]) (by rw [mu_ne _ _ _ (by decide)])⟩) (fun i' hi' => by
      rw [mu_same]
      by_cases ce : i' = i
      · subst ce
        rw [fu_same, show min (fo D i' + k + 1 - fo D i') (nbF D i') = k + 1 by omega, dd, Int.mul_add]
        congr 1; omega
      · rw [fu_ne _ _ ce, hV i' hi']
        have : min (fo D i + k - fo D i') (nbF D i') = min (fo D i + k + 1 - fo D i') (nbF D i') := by
          rcases Nat.lt_or_ge i i' with z | z
          · have := fo_lt D z; omega
          · have := fo_lt D (show i' < i by omega); omega
        rw [this])
    exact ⟨s', r1, r2, fun c hc => by rw [r3 c hc, mu_ne _ _ _ hc]⟩
end GO

/-! ===== the reference's boats ===== -/
def fo (D : Nat → Int) : Nat → Nat
  | 0 => 0
  | i + 1 => fo D i + nbF D i
theorem fo_s (D : Nat → Int) (i : Nat) : fo D (i + 1) = fo D i + nbF D i := rfl
theorem fo_lt (D : Nat → Int) : ∀ {i k : Nat}, i < k → fo D i + nbF D i ≤ fo D k
  | i, 0, h => absurd h (by omega)
  | i, k + 1, h => by
    rw [fo_s]
    by_cases c : i = k
    · subst c; omega
    · have := fo_lt D (show i < k by omega); omega
theorem fo_ex (D : Nat → Int) : ∀ {m b : Nat}, b < fo D m → ∃ i n, i < m ∧ n < nbF D i ∧ b = fo D i + n
  | 0, b, h => absurd h (by unfold fo; omega)
  | m + 1, b, h => by
    rw [fo_s] at h
    by_cases c : b < fo D m
    · obtain ⟨i, n, h1, h2, h3⟩ := fo_ex D c
      exact ⟨i, n, by omega, h2, h3⟩
    · exact ⟨m, b - fo D m, by omega, by omega, by omega⟩
theorem fo_inj {D : Nat → Int} {i n i' n' : Nat} (h : n < nbF D i) (h' : n' < nbF D i') (e : fo D i + n = fo D i' + n') : i = i' ∧ n = n' := by
  rcases Nat.lt_trichotomy i i' with c | c | c
  · have := fo_lt D c; omega
  · subst c; omega
  · have := fo_lt D c; omega
theorem fo_le {D : Nat → Int} {nH nB nS : Nat} (h : SeaOk D nH nB nS) : ∀ m, m ≤ 4 → fo D m ≤ 8 * m
  | 0, _ => Nat.le_refl _
  | m + 1, hm => by
    have := fo_le h m (by omega)
    have := (nbF_i h (i := m) (by omega)).2
    rw [fo_s]; omega
theorem fo_nbo {D : Nat → Int} {nH nB nS : Nat} (h : SeaOk D nH nB nS) : ∀ m, m ≤ 4 → nbo D m = ((fo D m : Nat) : Int)
  | 0, _ => rfl
  | m + 1, hm => by
    have := fo_nbo h m (by omega)
    have := (nbF_i h (i := m) (by omega)).1
    rw [fo_s]
    show nbo D m + D (16 + 5 * m) = _
    omega
/-- the PLANS and SPEEDS that the reference sails by -/
def PrM (s : Mem) (D : Nat → Int) (nB : Nat) (U G : Nat → Nat) (V : Nat → Int) : Prop := SeaM s D ∧ ∀ i, i < nB → s 5 i = ((U i : Nat) : Int) ∧ s 6 i = ((G i : Nat) : Int) ∧ s 7 i = V i
/-- a boat outside as HOUR t begins: when it came, what it has made -/
def CmM (s : Mem) (D : Nat → Int) (q : Nat) (U G : Nat → Nat) (V : Nat → Int) (t i b : Nat) : Prop := (aF D q U G V i ≤ t → aF D q U G V i < 24 → s 9 b = ((aF D q U G V i : Nat) : Int)) ∧ (t < aF D q U G V i → s 9 b = 99) ∧ (t ≤ U i → s 10 b = 0) ∧ (U i ≤ t → t < aF D q U G V i → arrG D (V i) (D (36 + 4 * i + G i)) q (24 - t) t (s 10 b) = aF D q U G V i ∧ 0 ≤ s 10 b ∧ s 10 b ≤ 9 * t)
def BoC (s : Mem) (D : Nat → Int) (nB q : Nat) (U G : Nat → Nat) (V : Nat → Int) (S : Nat → Nat × (Nat → Nat)) (t : Nat) : Prop := ∀ i n, i < nB → n < nbF D i → s 8 (fo D i + n) = ((i : Nat) : Int) ∧ s 12 (fo D i + n) = (if n < (S i).1 then 1 else 0) ∧ s 11 (fo D i + n) = alv D i q (if n < (S i).1 then (S i).2 n else t) ∧ ((S i).1 ≤ n → CmM s D q U G V t i (fo D i + n))
/-- a boat outside, as the reference's rows tell it -/
def enc (D : Nat → Int) (S : Nat → Nat × (Nat → Nat)) : Option Nat → Int
  | none => -4
  | some i => ((fo D i + (S i).1 : Nat) : Int)
section BO
variable {D : Nat → Int} {nH nB nS q : Nat} {U G : Nat → Nat} {V : Nat → Int} {w : Bool} {s s' : Mem} {S : Nat → Nat × (Nat → Nat)}
theorem m_weightOf (h : SeaOk D nH nB nS) (hM : SeaM s D) {i b : Nat} (hi : i < 4) (hb : b < 32) (e : s 8 b = ((i : Nat) : Int)) : fX9_weightOf b s = some (D (16 + 5 * i + 3) * D (16 + 5 * i + 4), s) := by
  have hw := wF_rg h hi
  unfold fX9_weightOf
  simp (disch := omega) only [rd_m_boatSort, rd_m_sea, bo_ok, Int.toNat_natCast, e, nab, na_0, na_1, na_2, na_3, na_4, na_5, na_6, na_8, na_10, na_12, na_16, na_24, na_36, na_52, na_76, na_120, na_172, na_186, nb_0, nb_1, nb_2, nb_3, nb_4, nb_5, nb_6, nb_8, nb_10, nb_12, nb_16, nb_24, nb_36, nb_52, nb_76, nb_120, nb_172, nb_186, nm_2, nm_3, nm_4, nm_5, nm_6, nm_8, nm_10, nm_12, nm_16, nm_24, nm_36, nm_52, nm_76, nm_120, nm_172, nm_186, nn_2, nn_3, nn_4, nn_5, nn_6, nn_8, nn_10, nn_12, nn_16, nn_24, nn_36, nn_52, nn_76, nn_120, nn_172, nn_186, hM.at]
  rw [w32_id (by omega) (by omega)]
theorem kF_inj (h : PlOk D nH nB nS q U G V) {i k : Nat} (hi : i < nB) (hk : k < nB) (hne : i ≠ k) : kF D q U G V w i ≠ kF D q U G V w k := by
  have hb4 := h.1.1
  have l1 := aF_le h hi
  have l2 := aF_le h hk
  unfold kF
  generalize wF D w i = x
  generalize wF D w k = y
  omega
theorem m_n79 {K : Int → Int → Int → Int → Int → Int → Mem → Option (Int × Mem)} {j t all ww b0 b t0 x1 x0 : Int} (h0 : b0 ≠ -4) (hw1 : fX9_weightOf b s = some (x1, s)) (hw0 : fX9_weightOf b0 s = some (x0, s)) : fX9_nextIn_79 K j t all ww b0 b t0 s = K j t all ww (if ww ≠ 0 ∧ x1 ≠ x0 then (if x1 ≤ x0 then b0 else b) else (if t0 = 0 then b0 else b)) (w32 (b + 1)) s := by
  unfold fX9_nextIn_79 fX9_nextIn_112 fX9_nextIn_113 fX9_nextIn_150 fX9_nextIn_155 fX9_nextIn_157
  simp only [hw1, hw0, b2_ok, lt_ok, if_true, h0, if_false, Int.reduceEq]
  by_cases c1 : ww = 0 <;> by_cases c2 : x1 = x0 <;> by_cases c3 : x1 ≤ x0 <;> by_cases c4 : t0 = 0 <;> simp [c1, c2, c3, c4]
theorem m_n79e {K : Int → Int → Int → Int → Int → Int → Mem → Option (Int × Mem)} {j t all ww b t0 : Int} : fX9_nextIn_79 K j t all ww (-4) b t0 s = K j t all ww b (w32 (b + 1)) s := by
  unfold fX9_nextIn_79 fX9_nextIn_112 fX9_nextIn_113 fX9_nextIn_150 fX9_nextIn_157
  simp only [lt_ok, if_true]
  split <;> rfl
theorem m_nextIn_7 (h : PlOk D nH nB nS q U G V) (hM : PrM s D nB U G V) {j t : Nat} (ht : t < 24) (hS : ∀ i, (S i).1 ≤ nbF D i) (hB : BoC s D nB q U G V S t) : ∀ (m n b : Nat) (bst : Option Nat), b + m = fo D nB → m < n → (bst = none → ∀ i k, i < nB → k < nbF D i → fo D i + k < b → G i = j → aF D q U G V i ≤ t → (S i).1 ≤ k → False) → (∀ i0, bst = some i0 → (i0 < nB ∧ G i0 = j ∧ aF D q U G V i0 ≤ t ∧ (S i0).1 < nbF D i0 ∧ fo D i0 + (S i0).1 < b) ∧ ∀ i k, i < nB → k < nbF D i → fo D i + k < b → G i = j → aF D q U G V i ≤ t → (S i).1 ≤ k → kF D q U G V w i0 ≤ kF D q U G V w i) → fX9_nextIn_7 n j t ((fo D nB : Nat) : Int) (if w = true then 1 else 0) (enc D S bst) b s = some (enc D S (pk (el (nbF D) G (aF D q U G V) j t S) (kF D q U G V w) nB), s)
  | m, 0, _, _, _, hn, _, _ => absurd hn (by omega)
  | 0, n + 1, b, bst, e, _, h1, h2 => by
    have hb4 := h.1.1
    have e : b = fo D nB := by omega
    subst e
    rw [fX9_nextIn_7, if_pos (by omega)]
    cases bst with
    | none =>
      rw [pk_no (fun i hi => ?_)]
      cases he : el (nbF D) G (aF D q U G V) j t S i with
      | false => rfl
      | true =>
        have h3 := el_iff.mp he
        have := fo_lt D hi
        exact absurd (h1 rfl i (S i).1 hi h3.2.2 (by omega) h3.1 h3.2.1 (Nat.le_refl _)) (fun z => z)
    | some i0 =>
      obtain ⟨⟨a1, a2, a3, a4, a5⟩, a6⟩ := h2 i0 rfl
      rw [pk_is a1 (el_iff.mpr ⟨a2, a3, a4⟩) (fun i hi he hne => ?_)]
      have h3 := el_iff.mp he
      have := fo_lt D hi
      have h5 := a6 i (S i).1 hi h3.2.2 (by omega) h3.1 h3.2.1 (Nat.le_refl _)
      have h6 := kF_inj h (w := w) (i := i0) (k := i) (by omega) (by omega) (fun z => hne z.symm)
      omega
  | m + 1, n + 1, b, bst, e, hn, h1, h2 => by
    have hb4 := h.1.1
    have hf := fo_le h.1 nB (by omega)
    obtain ⟨i, k, hi, hk, rfl⟩ := fo_ex D (show b < fo D nB by omega)
    obtain ⟨b1, b2, b3, b4⟩ := hB i k hi hk
    have hg := hM.2 i hi
    have key : ∀ bst', (bst' = none → ∀ i' k', i' < nB → k' < nbF D i' → fo D i' + k' < fo D i + k + 1 → G i' = j → aF D q U G V i' ≤ t → (S i').1 ≤ k' → False) → (∀ i0, bst' = some i0 → (i0 < nB ∧ G i0 = j ∧ aF D q U G V i0 ≤ t ∧ (S i0).1 < nbF D i0 ∧ fo D i0 + (S i0).1 < fo D i + k + 1) ∧ ∀ i' k', i' < nB → k' < nbF D i' → fo D i' + k' < fo D i + k + 1 → G i' = j → aF D q U G V i' ≤ t → (S i').1 ≤ k' → kF D q U G V w i0 ≤ kF D q U G V w i') → fX9_nextIn_7 n j t ((fo D nB : Nat) : Int) (if w = true then 1 else 0) (enc D S bst') ((fo D i + k + 1 : Nat) : Int) s = some (enc D S (pk (el (nbF D) G (aF D q U G V) j t S) (kF D q U G V w) nB), s) := fun bst' x1 x2 => m_nextIn_7 h hM ht hS hB m n (fo D i + k + 1) bst' (by omega) (by omega) x1 x2
    rw [fX9_nextIn_7, if_neg (by omega)]
    simp (disch := omega) only [rd_m_isSafe, bo_ok, Int.toNat_natCast, b2]
    by_cases cel : G i = j ∧ aF D q U G V i ≤ t ∧ (S i).1 ≤ k
    · have hc := (b4 cel.2.2).1 cel.2.1 (by omega)
      rw [if_neg (show ¬ k < (S i).1 by omega), if_pos rfl]
      simp (disch := omega) only [rd_m_came, rd_m_boatSort, rd_m_goals, bo_ok, Int.toNat_natCast, hc, b1, hg.2.1]
      rw [if_neg (by omega), if_pos (by omega)]
      cases bst with
      | none =>
        have hkk : k = (S i).1 := by
          rcases Nat.lt_or_ge (S i).1 k with z | z
          · exact absurd (h1 rfl i (k - 1) hi (by omega) (by omega) cel.1 cel.2.1 (by omega)) (fun z => z)
          · omega
        have fin : fX9_nextIn_7 n j t ((fo D nB : Nat) : Int) (if w = true then 1 else 0) ((fo D i + k : Nat) : Int) ((fo D i + k + 1 : Nat) : Int) s = some (enc D S (pk (el (nbF D) G (aF D q U G V) j t S) (kF D q U G V w) nB), s) := by
          have := key (some i) (fun z => absurd z (by simp)) (fun i0 z => by
            simp only [Option.some.injEq] at z
            subst z
            refine ⟨⟨hi, cel.1, cel.2.1, by omega, by omega⟩, fun i' k' x1 x2 x3 x4 x5 x6 => ?_⟩
            by_cases cb : fo D i' + k' = fo D i + k
            · rw [(fo_inj x2 hk cb).1]; omega
            · exact absurd (h1 rfl i' k' x1 x2 (by omega) x4 x5 x6) (fun z => z))
          rw [show enc D S (some i) = ((fo D i + k : Nat) : Int) by rw [hkk]; rfl] at this
          exact this
        have een : enc D S none = -4 := rfl
        rw [een, if_pos rfl]
        unfold fX9_nextIn_78
        rw [m_n79e]
        rw [w32_s (by omega)]
        exact fin
      | some i0 =>
        obtain ⟨⟨a1, a2, a3, a4, a5⟩, a6⟩ := h2 i0 rfl
        obtain ⟨d1, d2, d3, d4⟩ := hB i0 (S i0).1 a1 a4
        have hc0 := (d4 (Nat.le_refl _)).1 a3 (by omega)
        have wi := wF_rg h.1 (i := i) (by omega)
        have w0 := wF_rg h.1 (i := i0) (by omega)
        have hw1 := m_weightOf h.1 hM.1 (i := i) (b := fo D i + k) (by omega) (by omega) b1
        have hw0 := m_weightOf h.1 hM.1 (i := i0) (b := fo D i0 + (S i0).1) (by omega) (by omega) d1
        have h24 := aF_le h (i := i) (by omega)
        have h240 := aF_le h (i := i0) (by omega)
        have hle : i0 ≤ i := by
          rcases Nat.lt_or_ge i i0 with z | z
          · have := fo_lt D z; omega
          · exact z
        have new : kF D q U G V w i < kF D q U G V w i0 → fX9_nextIn_7 n j t ((fo D nB : Nat) : Int) (if w = true then 1 else 0) ((fo D i + k : Nat) : Int) ((fo D i + k + 1 : Nat) : Int) s = some (enc D S (pk (el (nbF D) G (aF D q U G V) j t S) (kF D q U G V w) nB), s) := by
          intro hlt
          have hkk : k = (S i).1 := by
            rcases Nat.lt_or_ge (S i).1 k with z | z
            · have := a6 i (k - 1) hi (by omega) (by omega) cel.1 cel.2.1 (by omega); omega
            · omega
          have := key (some i) (fun z => absurd z (by simp)) (fun i1 z => by
            simp only [Option.some.injEq] at z
            subst z
            refine ⟨⟨hi, cel.1, cel.2.1, by omega, by omega⟩, fun i' k' x1 x2 x3 x4 x5 x6 => ?_⟩
            by_cases cb : fo D i' + k' = fo D i + k
            · rw [(fo_inj x2 hk cb).1]; omega
            · have := a6 i' k' x1 x2 (by omega) x4 x5 x6; omega)
          rw [show enc D S (some i) = ((fo D i + k : Nat) : Int) by rw [hkk]; rfl] at this
          exact this
        have old : ¬ kF D q U G V w i < kF D q U G V w i0 → fX9_nextIn_7 n j t ((fo D nB : Nat) : Int) (if w = true then 1 else 0) ((fo D i0 + (S i0).1 : Nat) : Int) ((fo D i + k + 1 : Nat) : Int) s = some (enc D S (pk (el (nbF D) G (aF D q U G V) j t S) (kF D q U G V w) nB), s) := by
          intro hge
          refine key (some i0) (fun z => absurd z (by simp)) (fun i1 z => ?_)
          simp only [Option.some.injEq] at z
          subst z
          refine ⟨⟨a1, a2, a3, a4, by omega⟩, fun i' k' x1 x2 x3 x4 x5 x6 => ?_⟩
          by_cases cb : fo D i' + k' = fo D i + k
          · rw [(fo_inj x2 hk cb).1]; omega
          · exact a6 i' k' x1 x2 (by omega) x4 x5 x6
        have een : enc D S (some i0) = ((fo D i0 + (S i0).1 : Nat) : Int) := rfl
        have ec0 : rdI s 9 ((fo D i0 + (S i0).1 : Nat) : Int) = some ((aF D q U G V i0 : Nat) : Int) := by
          rw [rd_m_came (by omega) (by omega), Int.toNat_natCast, hc0]
        rw [een, if_neg (by omega), ec0, bo_ok]
        unfold fX9_nextIn_78
        rw [m_n79 (by omega) hw1 hw0, m_n79 (by omega) hw1 hw0, w32_s (by omega)]
        unfold kF wF at new old
        cases w with
        | false =>
          simp only [Bool.false_eq_true, if_false, if_true, ne_eq, not_true, false_and] at new old ⊢
          by_cases cA : aF D q U G V i < aF D q U G V i0
          · rw [if_neg (by omega), if_neg (by decide)]; exact new (by omega)
          · rw [if_pos (by omega)]; exact old (by omega)
        | true =>
          simp only [if_true] at new old ⊢
          generalize D (16 + 5 * i + 3) * D (16 + 5 * i + 4) = xi at *
          generalize D (16 + 5 * i0 + 3) * D (16 + 5 * i0 + 4) = x0 at *
          by_cases cw : xi = x0
          · rw [if_neg (show ¬ ((1 : Int) ≠ 0 ∧ xi ≠ x0) from fun z => z.2 cw), if_neg (show ¬ ((1 : Int) ≠ 0 ∧ xi ≠ x0) from fun z => z.2 cw)]
            by_cases cA : aF D q U G V i < aF D q U G V i0
            · rw [if_neg (by omega), if_neg (by decide)]; exact new (by omega)
            · rw [if_pos (by omega)]; exact old (by omega)
          · rw [if_pos (show (1 : Int) ≠ 0 ∧ xi ≠ x0 from ⟨by decide, cw⟩), if_pos (show (1 : Int) ≠ 0 ∧ xi ≠ x0 from ⟨by decide, cw⟩), ite_self]
            by_cases cx : xi ≤ x0
            · rw [if_pos cx]; exact old (by omega)
            · rw [if_neg cx]; exact new (by omega)
    · have skip : fX9_nextIn_7 n j t ((fo D nB : Nat) : Int) (if w = true then 1 else 0) (enc D S bst) ((fo D i + k + 1 : Nat) : Int) s = some (enc D S (pk (el (nbF D) G (aF D q U G V) j t S) (kF D q U G V w) nB), s) := by
        refine key bst (fun z i' k' x1 x2 x3 x4 x5 x6 => ?_) (fun i0 z => ⟨?_, fun i' k' x1 x2 x3 x4 x5 x6 => ?_⟩)
        · by_cases cb : fo D i' + k' = fo D i + k
          · obtain ⟨rfl, rfl⟩ := fo_inj x2 hk cb
            exact cel ⟨x4, x5, x6⟩
          · exact h1 z i' k' x1 x2 (by omega) x4 x5 x6
        · obtain ⟨⟨a1, a2, a3, a4, a5⟩, a6⟩ := h2 i0 z
          exact ⟨a1, a2, a3, a4, by omega⟩
        · by_cases cb : fo D i' + k' = fo D i + k
          · obtain ⟨rfl, rfl⟩ := fo_inj x2 hk cb
            exact absurd ⟨x4, x5, x6⟩ cel
          · exact (h2 i0 z).2 i' k' x1 x2 (by omega) x4 x5 x6
      by_cases cs : k < (S i).1
      · rw [if_pos cs, if_neg (by decide), lt_ok, w32_s (by omega)]; exact skip
      · rw [if_neg cs, if_pos rfl]
        by_cases ca : aF D q U G V i ≤ t
        · have hc := (b4 (by omega)).1 ca (by omega)
          simp (disch := omega) only [rd_m_came, rd_m_boatSort, rd_m_goals, bo_ok, Int.toNat_natCast, hc, b1, hg.2.1]
          rw [if_neg (by omega), if_neg (by omega), lt_ok, w32_s (by omega)]; exact skip
        · have hc := (b4 (by omega)).2.1 (by omega)
          simp (disch := omega) only [rd_m_came, bo_ok, Int.toNat_natCast, hc]
          rw [if_pos (by omega), lt_ok, w32_s (by omega)]; exact skip
theorem m_nextIn (h : PlOk D nH nB nS q U G V) (hM : PrM s D nB U G V) {j t : Nat} (ht : t < 24) (hS : ∀ i, (S i).1 ≤ nbF D i) (hB : BoC s D nB q U G V S t) : fX9_nextIn j t ((fo D nB : Nat) : Int) (if w = true then 1 else 0) s = some (enc D S (pk (el (nbF D) G (aF D q U G V) j t S) (kF D q U G V w) nB), s) := by
  have hb4 := h.1.1
  have hf := fo_le h.1 nB (by omega)
  exact m_nextIn_7 h hM ht hS hB (fo D nB) 600 0 none (by omega) (by omega) (fun _ i k _ _ x => absurd x (by omega)) (fun i0 z => absurd z (by simp))
end BO

/-! ===== the reference lets boats in ===== -/
def InM (s : Mem) (G : Nat → Nat) (nB nH : Nat) (S : Nat → Nat × (Nat → Nat)) : Prop := ∀ j, j < nH → s 13 j = ((inn G j S nB : Nat) : Int)
section MO
variable {D : Nat → Int} {nH nB nS q : Nat} {U G : Nat → Nat} {V : Nat → Int} {w : Bool} {s s' : Mem} {S : Nat → Nat × (Nat → Nat)}
theorem inn_ot {j i t : Nat} {S : Nat → Nat × (Nat → Nat)} (hG : G i ≠ j) : ∀ m, inn G j (pt S i t) m = inn G j S m
  | 0 => rfl
  | m + 1 => by
    rw [inn, inn, inn_ot hG m, pt_c]
    by_cases c : m = i
    · subst c; rw [if_neg hG, if_neg hG]
    · rw [if_neg c]
theorem inn_le (hS : ∀ i, (S i).1 ≤ nbF D i) (j : Nat) : ∀ m, inn G j S m ≤ fo D m
  | 0 => Nat.le_refl _
  | m + 1 => by
    have := inn_le hS j m
    have := hS m
    rw [inn, fo_s]
    split <;> omega
theorem PrM.fr (h : PrM s D nB U G V) (h1 : s' 1 = s 1) (h5 : s' 5 = s 5) (h6 : s' 6 = s 6) (h7 : s' 7 = s 7) : PrM s' D nB U G V := by
  unfold PrM SeaM at *
  rw [h1, h5, h6, h7]; exact h
theorem CmM.fr {t i b : Nat} (h : CmM s D q U G V t i b) (h9 : s' 9 b = s 9 b) (h10 : s' 10 b = s 10 b) : CmM s' D q U G V t i b := by
  unfold CmM at *
  rw [h9, h10]; exact h
theorem BoC.p1 {t : Nat} (hB : BoC s D nB q U G V S t) {i j : Nat} (hi : i < nB) (hc : (S i).1 < nbF D i) (x : Int) : BoC (mu (mu s 12 (fo D i + (S i).1) 1) 13 j x) D nB q U G V (pt S i t) t := by
  intro k n hk hn
  obtain ⟨b1, b2, b3, b4⟩ := hB k n hk hn
  rw [mu_ne _ _ _ (show 8 ≠ 13 by decide), mu_ne _ _ _ (show 8 ≠ 12 by decide), mu_ne _ _ _ (show 12 ≠ 13 by decide), mu_same, mu_ne _ _ _ (show 11 ≠ 13 by decide), mu_ne _ _ _ (show 11 ≠ 12 by decide)]
  by_cases c : k = i ∧ n = (S i).1
  · obtain ⟨rfl, rfl⟩ := c
    have hx : (S k).1 < (pt S k t k).1 := by rw [pt_c, if_pos rfl]; omega
    rw [if_pos hx, if_pos hx, pt_e, if_pos rfl, if_pos rfl, fu_same]
    refine ⟨b1, rfl, ?_, fun z => absurd z (by omega)⟩
    rw [if_neg (by omega)] at b3
    exact b3
  · have hne : fo D k + n ≠ fo D i + (S i).1 := fun z => c (fo_inj hn hc z)
    have hlt : (n < (pt S i t k).1) = (n < (S k).1) := by
      rw [pt_c]
      by_cases ck : k = i
      · subst ck; have hn' : n ≠ (S k).1 := fun z => c ⟨rfl, z⟩
        rw [if_pos rfl]; exact propext (by omega)
      · rw [if_neg ck]
    have hle : ((pt S i t k).1 ≤ n) = ((S k).1 ≤ n) := by
      rw [pt_c]
      by_cases ck : k = i
      · subst ck; have hn' : n ≠ (S k).1 := fun z => c ⟨rfl, z⟩
        rw [if_pos rfl]; exact propext (by omega)
      · rw [if_neg ck]
    have he : n < (S k).1 → (pt S i t k).2 n = (S k).2 n := fun z => by
      rw [pt_e]
      by_cases ck : k = i
      · subst ck; rw [if_pos rfl, if_neg (by omega)]
      · rw [if_neg ck]
    rw [fu_ne _ _ hne]
    simp only [hlt, hle]
    refine ⟨b1, b2, ?_, fun z => (b4 z).fr (by rw [mu_ne _ _ _ (by decide), mu_ne _ _ _ (by decide)]) (by rw [mu_ne _ _ _ (by decide), mu_ne _ _ _ (by decide)])⟩
    rw [b3]
    by_cases cc : n < (S k).1
    · rw [if_pos cc, if_pos cc, he cc]
    · rw [if_neg cc, if_neg cc]
theorem m_180n {K1 : Int → Int → Int → Int → Mem → Option (Int × Mem)} {K2 : Int → Int → Int → Int → Int → Mem → Option (Int × Mem)} (h : PlOk D nH nB nS q U G V) (hM : PrM s D nB U G V) {j n : Nat} {k a1 a2 a3 a4 : Int} (hj : j < nH) : fX9_goesBy_180 K1 K2 (n + 1) a1 a2 a3 a4 j (-4) k s = K2 a1 a2 a3 a4 ((j + 1 : Nat) : Int) s := by
  have hb := h.1.1
  rw [fX9_goesBy_180]
  simp (disch := omega) only [nab, na_0, na_1, na_2, na_3, na_4, na_5, na_6, na_8, na_10, na_12, na_16, na_24, na_36, na_52, na_76, na_120, na_172, na_186, nb_0, nb_1, nb_2, nb_3, nb_4, nb_5, nb_6, nb_8, nb_10, nb_12, nb_16, nb_24, nb_36, nb_52, nb_76, nb_120, nb_172, nb_186, nm_2, nm_3, nm_4, nm_5, nm_6, nm_8, nm_10, nm_12, nm_16, nm_24, nm_36, nm_52, nm_76, nm_120, nm_172, nm_186, nn_2, nn_3, nn_4, nn_5, nn_6, nn_8, nn_10, nn_12, nn_16, nn_24, nn_36, nn_52, nn_76, nn_120, nn_172, nn_186, rd_m_sea, bo_ok, lt_ok, Int.toNat_natCast, if_true]
  split <;> rfl
theorem m_180 {K1 : Int → Int → Int → Int → Mem → Option (Int × Mem)} {K2 : Int → Int → Int → Int → Int → Mem → Option (Int × Mem)} (h : PlOk D nH nB nS q U G V) {j t : Nat} {a1 : Int} (hj : j < nH) (ht : t < 24) : ∀ (m n k : Nat) (s : Mem) (S : Nat → Nat × (Nat → Nat)), k + m = mtF D j → m < n → PrM s D nB U G V → BoC s D nB q U G V S t → InM s G nB nH S → Sok (nbF D) (aF D q U G V) (t + 1) S → ∃ s', fX9_goesBy_180 K1 K2 n a1 (if w = true then 1 else 0) ((fo D nB : Nat) : Int) t j (enc D S (pk (el (nbF D) G (aF D q U G V) j t S) (kF D q U G V w) nB)) k s = K2 a1 (if w = true then 1 else 0) ((fo D nB : Nat) : Int) t ((j + 1 : Nat) : Int) s' ∧ BoC s' D nB q U G V (pks (nbF D) G (aF D q U G V) (kF D q U G V w) nB (rmF D) j t m S) t ∧ InM s' G nB nH (pks (nbF D) G (aF D q U G V) (kF D q U G V w) nB (rmF D) j t m S) ∧ (∀ c, c ≠ 12 → c ≠ 13 → s' c = s c)
  | m, 0, _, _, _, _, hn, _, _, _, _ => absurd hn (by omega)
  | 0, n + 1, k, s, S, e, _, hM, hB, hI, hS => by
    have hb := h.1.1
    have hmt := mtF_i h.1 (j := j) (by omega)
    refine ⟨s, ?_, hB, hI, fun _ _ _ => rfl⟩
    rw [fX9_goesBy_180]
    simp (disch := omega) only [nab, na_0, na_1, na_2, na_3, na_4, na_5, na_6, na_8, na_10, na_12, na_16, na_24, na_36, na_52, na_76, na_120, na_172, na_186, nb_0, nb_1, nb_2, nb_3, nb_4, nb_5, nb_6, nb_8, nb_10, nb_12, nb_16, nb_24, nb_36, nb_52, nb_76, nb_120, nb_172, nb_186, nm_2, nm_3, nm_4, nm_5, nm_6, nm_8, nm_10, nm_12, nm_16, nm_24, nm_36, nm_52, nm_76, nm_120, nm_172, nm_186, nn_2, nn_3, nn_4, nn_5, nn_6, nn_8, nn_10, nn_12, nn_16, nn_24, nn_36, nn_52, nn_76, nn_120, nn_172, nn_186, rd_m_sea, bo_ok, lt_ok, Int.toNat_natCast, hM.1.at]
    rw [if_pos (by omega)]
  | m + 1, n + 1, k, s, S, e, hn, hM, hB, hI, hS => by
    have hb := h.1.1
    have hmt := mtF_i h.1 (j := j) (by omega)
    have hrm := rmF_i h.1 (j := j) (by omega)
    have hfo := fo_le h.1 nB (by omega)
    have hS1 : ∀ i, (S i).1 ≤ nbF D i := fun i => (hS i).1
    have hil := inn_le (G := G) hS1 j nB
    rw [pks]
    cases hp : pk (el (nbF D) G (aF D q U G V) j t S) (kF D q U G V w) nB with
    | none =>
      refine ⟨s, m_180n h hM hj, ?_, ?_, fun _ _ _ => rfl⟩
      · split
        · exact hB
        · exact hB
      · split
        · exact hI
        · exact hI
    | some i =>
      dsimp only
      have h1 := pk_some hp
      have h2 := el_iff.mp h1.2.1
      have hlt := fo_lt D h1.1
      have een : enc D S (some i) = ((fo D i + (S i).1 : Nat) : Int) := rfl
      have hin := hI j hj
      rw [een, fX9_goesBy_180]
      simp (disch := omega) only [nab, na_0, na_1, na_2, na_3, na_4, na_5, na_6, na_8, na_10, na_12, na_16, na_24, na_36, na_52, na_76, na_120, na_172, na_186, nb_0, nb_1, nb_2, nb_3, nb_4, nb_5, nb_6, nb_8, nb_10, nb_12, nb_16, nb_24, nb_36, nb_52, nb_76, nb_120, nb_172, nb_186, nm_2, nm_3, nm_4, nm_5, nm_6, nm_8, nm_10, nm_12, nm_16, nm_24, nm_36, nm_52, nm_76, nm_120, nm_172, nm_186, nn_2, nn_3, nn_4, nn_5, nn_6, nn_8, nn_10, nn_12, nn_16, nn_24, nn_36, nn_52, nn_76, nn_120, nn_172, nn_186, rd_m_sea, rd_m_inside, bo_ok, lt_ok, Int.toNat_natCast, hM.1.at, hin]
      rw [if_neg (by omega), if_neg (by omega)]
      by_cases c : rmF D j ≤ inn G j S nB
      · rw [if_pos (by omega), if_pos c]
        exact ⟨s, rfl, hB, hI, fun _ _ _ => rfl⟩
      · have hin2 : mu s 12 (fo D i + (S i).1) 1 13 j = ((inn G j S nB : Nat) : Int) := by rw [mu_ne _ _ _ (by decide)]; exact hin
        rw [if_neg (by omega), if_neg c, wr_m_isSafe (by omega) (by omega) (Or.inr rfl), bo_ok, Int.toNat_natCast]
        simp (disch := omega) only [rd_m_inside, wr_m_inside, bo_ok, Int.toNat_natCast, hin2, nab, na_0, na_1, na_2, na_3, na_4, na_5, na_6, na_8, na_10, na_12, na_16, na_24, na_36, na_52, na_76, na_120, na_172, na_186, nb_0, nb_1, nb_2, nb_3, nb_4, nb_5, nb_6, nb_8, nb_10, nb_12, nb_16, nb_24, nb_36, nb_52, nb_76, nb_120, nb_172, nb_186, nm_2, nm_3, nm_4, nm_5, nm_6, nm_8, nm_10, nm_12, nm_16, nm_24, nm_36, nm_52, nm_76, nm_120, nm_172, nm_186, nn_2, nn_3, nn_4, nn_5, nn_6, nn_8, nn_10, nn_12, nn_16, nn_24, nn_36, nn_52, nn_76, nn_120, nn_172, nn_186]
        have hB2 := hB.p1 (j := j) h1.1 h2.2.2 (((inn G j S nB + 1 : Nat) : Int))
        have hM2 : PrM (mu (mu s 12 (fo D i + (S i).1) 1) 13 j (((inn G j S nB + 1 : Nat) : Int))) D nB U G V := hM.fr (by rw [mu_ne _ _ _ (by decide), mu_ne _ _ _ (by decide)]) (by rw [mu_ne _ _ _ (by decide), mu_ne _ _ _ (by decide)]) (by rw [mu_ne _ _ _ (by decide), mu_ne _ _ _ (by decide)]) (by rw [mu_ne _ _ _ (by decide), mu_ne _ _ _ (by decide)])
        have hI2 : InM (mu (mu s 12 (fo D i + (S i).1) 1) 13 j (((inn G j S nB + 1 : Nat) : Int))) G nB nH (pt S i t) := by
          intro j' hj'
          rw [mu_same]
          by_cases cj : j' = j
          · subst cj; rw [fu_same, inn_pt h2.1, if_pos h1.1]
          · rw [fu_ne _ _ cj, mu_ne _ _ _ (by decide), inn_ot (fun z => cj (by omega))]; exact hI j' hj'
        have hS2 := hS.p1 (i := i) h2.2.2 h2.2.1
        rw [m_nextIn h hM2 ht (fun i => (hS2 i).1) hB2, b2_ok]
        obtain ⟨s', q1, q2, q3, q4⟩ := m_180 (K1 := K1) (K2 := K2) (a1 := a1) h hj ht m n (k + 1) _ (pt S i t) (by omega) (by omega) hM2 hB2 hI2 hS2
        exact ⟨s', q1, q2, q3, fun c h12 h13 => by rw [q4 c h12 h13, mu_ne _ _ _ h13, mu_ne _ _ _ h12]⟩
/-- who is in as the reference comes to j at HOUR t -/
def SJ (D : Nat → Int) (nB q : Nat) (U G : Nat → Nat) (V : Nat → Int) (w : Bool) (t j : Nat) : Nat → Nat × (Nat → Nat) := fun i => if G i < j then RF D nB q U G V w (G i) (t + 1) i else RF D nB q U G V w (G i) t i
theorem RF_ok (t i k : Nat) : (RF D nB q U G V w k t i).1 ≤ nbF D i ∧ (∀ n, n < (RF D nB q U G V w k t i).1 → (RF D nB q U G V w k t i).2 n < t ∧ aF D q U G V i ≤ (RF D nB q U G V w k t i).2 n) ∧ (∀ n, (RF D nB q U G V w k t i).1 ≤ n → (RF D nB q U G V w k t i).2 n = 24) := Sok.rr (nb := nbF D) (G := G) (A := aF D q U G V) (key := kF D q U G V w) (nB := nB) (room := rmF D) (mouth := mtF D) (op := opF D q) k t i
theorem SJ_ok (t j : Nat) : Sok (nbF D) (aF D q U G V) (t + 1) (SJ D nB q U G V w t j) := by
  intro i
  unfold SJ
  by_cases c : G i < j
  · rw [if_pos c]; exact RF_ok (t + 1) i (G i)
  · rw [if_neg c]
    have := RF_ok (D := D) (nB := nB) (q := q) (U := U) (G := G) (V := V) (w := w) t i (G i)
    exact ⟨this.1, fun n hn => ⟨by have := (this.2.1 n hn).1; omega, (this.2.1 n hn).2⟩, this.2.2⟩
theorem SJ_s (t j : Nat) : SJ D nB q U G V w t (j + 1) = if opn D j q t = true then pks (nbF D) G (aF D q U G V) (kF D q U G V w) nB (rmF D) j t (mtF D j) (SJ D nB q U G V w t j) else SJ D nB q U G V w t j := by
  have e0 : SJ D nB q U G V w t j = mix G j (RF D nB q U G V w j t) (SJ D nB q U G V w t j) := by
    funext i
    unfold mix SJ
    by_cases c : G i = j
    · rw [if_neg (by omega), if_pos c, c]
    · rw [if_neg c]
  have e1 : SJ D nB q U G V w t (j + 1) = mix G j (RF D nB q U G V w j (t + 1)) (SJ D nB q U G V w t j) := by
    funext i
    unfold mix SJ
    by_cases c : G i = j
    · rw [if_pos (by omega), if_pos c, c]
    · rw [if_neg c]
      by_cases c2 : G i < j
      · rw [if_pos c2, if_pos (by omega)]
      · rw [if_neg c2, if_neg (by omega)]
  have e2 : RF D nB q U G V w j (t + 1) = if opn D j q t = true then pks (nbF D) G (aF D q U G V) (kF D q U G V w) nB (rmF D) j t (mtF D j) (RF D nB q U G V w j t) else RF D nB q U G V w j t := rfl
  rw [e1, e2]
  by_cases c : opn D j q t = true
  · rw [if_pos c, if_pos c]
    conv => rhs; rw [e0]
    rw [pks_mix]
  · rw [if_neg c, if_neg c, ← e0]
theorem m_135 {K1 : Int → Int → Int → Int → Mem → Option (Int × Mem)} (h : PlOk D nH nB nS q U G V) {t : Nat} (ht : t < 24) : ∀ (m n j : Nat) (s : Mem), j + m = nH → m < n → PrM s D nB U G V → BoC s D nB q U G V (SJ D nB q U G V w t j) t → InM s G nB nH (SJ D nB q U G V w t j) → ∃ s', fX9_goesBy_135 K1 n q (if w = true then 1 else 0) ((fo D nB : Nat) : Int) t j s = fX9_goesBy_272 K1 600 q (if w = true then 1 else 0) ((fo D nB : Nat) : Int) t 0 s' ∧ BoC s' D nB q U G V (SJ D nB q U G V w t nH) t ∧ InM s' G nB nH (SJ D nB q U G V w t nH) ∧ (∀ c, c ≠ 12 → c ≠ 13 → s' c = s c)
  | m, 0, _, _, _, hn, _, _, _ => absurd hn (by omega)
  | 0, n + 1, j, s, e, _, hM, hB, hI => by
    have hb := h.1.1
    have e : j = nH := by omega
    subst e
    refine ⟨s, ?_, hB, hI, fun _ _ _ => rfl⟩
    rw [fX9_goesBy_135]
    simp (disch := omega) only [rd_m_sea, bo_ok, Int.reduceToNat, hM.1.at]
    rw [if_pos (by omega)]
  | m + 1, n + 1, j, s, e, hn, hM, hB, hI => by
    have hb := h.1.1
    have hq := h.2.1
    have hmt := mtF_i h.1 (j := j) (by omega)
    have hs := SJ_s (D := D) (nB := nB) (q := q) (U := U) (G := G) (V := V) (w := w) t j
    rw [fX9_goesBy_135]
    simp (disch := omega) only [rd_m_sea, bo_ok, Int.reduceToNat, hM.1.at]
    rw [if_neg (by omega), m_isOpen hM.1 h.1 (by omega) (by omega) ht, b2_ok]
    unfold fX9_goesBy_175
    by_cases co : opn D j q t = true
    · rw [if_pos co] at hs
      rw [if_pos co, if_neg (by decide), m_nextIn h hM ht (fun i => (SJ_ok t j i).1) hB, b2_ok]
      obtain ⟨s2, q1, q2, q3, q4⟩ := m_180 (K1 := K1) (K2 := fun p1 p2 p3 p4 p5 s => fX9_goesBy_135 K1 n p1 p2 p3 p4 p5 s) (a1 := q) h (j := j) (by omega) ht (mtF D j) 600 0 s (SJ D nB q U G V w t j) (by omega) (by omega) hM hB hI (SJ_ok t j)
      rw [← hs] at q2 q3
      obtain ⟨s', r1, r2, r3, r4⟩ := m_135 (K1 := K1) h ht m n (j + 1) s2 (by omega) (by omega) (hM.fr (q4 _ (by decide) (by decide)) (q4 _ (by decide) (by decide)) (q4 _ (by decide) (by decide)) (q4 _ (by decide) (by decide))) q2 q3
      exact ⟨s', q1.trans r1, r2, r3, fun c a b => by rw [r4 c a b, q4 c a b]⟩
    · rw [if_neg co] at hs
      rw [if_neg co, if_pos rfl]
      obtain ⟨s', r1, r2, r3, r4⟩ := m_135 (K1 := K1) h ht m n (j + 1) s (by omega) (by omega) hM (by rw [hs]; exact hB) (by rw [hs]; exact hI)
      exact ⟨s', (m_180n (n := 599) h hM (by omega)).trans r1, r2, r3, r4⟩
end MO

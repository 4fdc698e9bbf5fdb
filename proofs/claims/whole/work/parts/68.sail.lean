section HR
variable {nb G A : Nat → Nat} {key : Nat → Int} {nB : Nat} {room mouth : Nat → Nat} {op : Nat → Nat → Bool}
theorem Sok.c0 {S : Nat → Nat × (Nat → Nat)} {t : Nat} (h : Sok nb A t S) (ht : t ≤ 24) (i : Nat) (hA : 24 ≤ A i) : (S i).1 = 0 := by
  rcases Nat.eq_zero_or_pos (S i).1 with z | z
  · exact z
  · have := (h i).2.1 0 z; omega
theorem hr_pq {j t : Nat} {S : Nat → Nat × (Nat → Nat)} (ht : t < 24) : hr nb G A key nB room mouth op j t S = if op j t = true then pq nb G A key nB j t (min (min (mouth j) (room j - inn G j S nB)) (av nb G A j S nB)) S else S := by
  unfold hr
  by_cases c : op j t = true
  · rw [if_pos c, if_pos c, pks_pq (mouth j) _ rfl, pq_av ht _ _ rfl]
  · rw [if_neg c, if_neg c]
theorem hr_stop {j t : Nat} {S : Nat → Nat × (Nat → Nat)} (ht : t < 24) (hS : Sok nb A t S) (h : min (out nb G A j nB) (room j) ≤ inn G j S nB) : hr nb G A key nB room mouth op j t S = S := by
  rw [hr_pq ht]
  by_cases c : op j t = true
  · rw [if_pos c]
    have := out_av (G := G) (j := j) (fun i => (hS i).1) (hS.c0 (by omega)) nB
    rw [show min (min (mouth j) (room j - inn G j S nB)) (av nb G A j S nB) = 0 by omega]
    rfl
  · rw [if_neg c]
theorem Rr_stop {j t : Nat} (h : min (out nb G A j nB) (room j) ≤ inn G j (Rr nb G A key nB room mouth op j t) nB) : ∀ d, t + d ≤ 24 → Rr nb G A key nB room mouth op j (t + d) = Rr nb G A key nB room mouth op j t
  | 0, _ => rfl
  | d + 1, hd => by
    have ih := Rr_stop h d (by omega)
    rw [← Nat.add_assoc, Rr, ih]
    exact hr_stop (by omega) (fun i => by have := Sok.rr (nb := nb) (G := G) (A := A) (key := key) (nB := nB) (room := room) (mouth := mouth) (op := op) j (t + d) i; rw [ih] at this; exact this) h
/-- the HOUR of the first arrival at j -/
def frF (G A : Nat → Nat) (j : Nat) : Nat → Nat
  | 0 => 24
  | m + 1 => if G m = j ∧ A m < 24 then min (frF G A j m) (A m) else frF G A j m
theorem frF_le (G A : Nat → Nat) (j : Nat) : ∀ m, frF G A j m ≤ 24
  | 0 => Nat.le_refl _
  | m + 1 => by
    have := frF_le G A j m
    unfold frF
    split <;> omega
theorem frF_lb {j : Nat} : ∀ m i, i < m → G i = j → A i < 24 → frF G A j m ≤ A i
  | 0, i, hi, _, _ => absurd hi (by omega)
  | m + 1, i, hi, hG, hA => by
    unfold frF
    by_cases c : i = m
    · subst c; rw [if_pos ⟨hG, hA⟩]; omega
    · have := frF_lb m i (by omega) hG hA
      split <;> omega
theorem Rr_none {j : Nat} : ∀ t, t ≤ frF G A j nB → Rr nb G A key nB room mouth op j t = S0
  | 0, _ => rfl
  | t + 1, h => by
    have hl := frF_le G A j nB
    rw [Rr, Rr_none t (by omega), hr_pq (by omega)]
    have hp : pk (el nb G A j t S0) key nB = none := pk_no (fun b hb => by
      cases he : el nb G A j t S0 b with
      | false => rfl
      | true =>
        have h1 := el_iff.mp he
        have := frF_lb (G := G) (A := A) (j := j) nB b hb h1.1 (by omega)
        omega)
    by_cases c : op j t = true
    · rw [if_pos c]
      cases min (min (mouth j) (room j - inn G j S0 nB)) (av nb G A j S0 nB) with
      | zero => rfl
      | succ m => rw [pq, hp]
    · rw [if_neg c]
end HR
def RF (D : Nat → Int) (nB q : Nat) (U G : Nat → Nat) (V : Nat → Int) (w : Bool) (j t : Nat) : Nat → Nat × (Nat → Nat) := Rr (nbF D) G (aF D q U G V) (kF D q U G V w) nB (rmF D) (mtF D) (opF D q) j t
/-- who is in at last -/
def FF (D : Nat → Int) (nB q : Nat) (U G : Nat → Nat) (V : Nat → Int) (w : Bool) : Nat → Nat × (Nat → Nat) := fun i => RF D nB q U G V w (G i) 24 i
section SA
variable {D : Nat → Int} {nH nB nS q P hc gc : Nat} {U G o : Nat → Nat} {V : Nat → Int} {w : Bool} {s s' : Mem} {S : Nat → Nat × (Nat → Nat)}
theorem SlC.frP (h : SlC s D nH nB nS hc gc U G V w) (hb : nH ≤ 4 ∧ nB ≤ 4 ∧ nS ≤ 4) (hP : PlC P hc gc) (hf : FrP s s') : SlC s' D nH nB nS hc gc U G V w := h.scr hb hP (fun k hk => hf k (by omega) (by omega))
theorem nbF_i (h : SeaOk D nH nB nS) {i : Nat} (hi : i < 4) : ((nbF D i : Nat) : Int) = D (16 + 5 * i) ∧ nbF D i ≤ 8 := by
  have := h.2.2.1 i hi
  unfold nbF
  omega
theorem rmF_i (h : SeaOk D nH nB nS) {j : Nat} (hj : j < 4) : ((rmF D j : Nat) : Int) = D (0 + 4 * j) ∧ rmF D j ≤ 99 := by
  have := h.2.1 j hj
  unfold rmF
  omega
theorem mtF_i (h : SeaOk D nH nB nS) {j : Nat} (hj : j < 4) : ((mtF D j : Nat) : Int) = D (0 + 4 * j + 1) ∧ mtF D j ≤ 9 := by
  have := h.2.1 j hj
  unfold mtF
  omega
theorem c_letIn_104 (h : PlOk D nH nB nS q U G V) (hP : PlC P hc gc) (hK : LtK nB gc P (nbF D) o (kF D q U G V w)) {j : Nat} (hj : j < nH) (Sx : Nat → Nat × (Nat → Nat)) : ∀ (m n t L : Nat) (s : Mem), t + m = 24 → m < n → SlC s D nH nB nS hc gc U G V w → LtC s nB gc G (nbF D) (aF D q U G V) o → PsC s nB (nbF D) (mix G j (RF D nB q U G V w j t) Sx) → L + inn G j (RF D nB q U G V w j t) nB = min (out (nbF D) G (aF D q U G V) j nB) (rmF D j) → ∃ s', fX2_letIn_104 n j q P L t s = some s' ∧ FrP s s' ∧ PsC s' nB (nbF D) (mix G j (RF D nB q U G V w j 24) Sx)
  | m, 0, _, _, _, _, hn, _, _, _, _ => absurd hn (by omega)
  | 0, n + 1, t, L, s, e, _, hS, hL, hX, hI => by
    have e : t = 24 := by omega
    subst e
    exact ⟨s, by rw [fX2_letIn_104, if_pos (by omega)], FrP.rf, hX⟩
  | m + 1, n + 1, t, L, s, e, hn, hS, hL, hX, hI => by
    have hb := h.1.1
    have hm := mtF_i h.1 (j := j) (by omega)
    have hr := rmF_i h.1 (j := j) (by omega)
    have e1 := hS.1.h1 hj
    rw [fX2_letIn_104, if_neg (by omega)]
    by_cases c : L = 0
    · have := Rr_stop (nb := nbF D) (G := G) (A := aF D q U G V) (key := kF D q U G V w) (nB := nB) (room := rmF D) (mouth := mtF D) (op := opF D q) (j := j) (t := t) (by unfold RF at hI; omega) (m + 1) (by omega)
      rw [e] at this
      rw [if_pos (by omega)]
      refine ⟨s, rfl, FrP.rf, ?_⟩
      unfold RF at hX ⊢
      rw [this]; exact hX
    · rw [if_neg (by omega), c_isOpen hS.2.1 h.1 hj h.2.1 (by omega), b2_ok]
      have hSok := Sok.rr (nb := nbF D) (G := G) (A := aF D q U G V) (key := kF D q U G V w) (nB := nB) (room := rmF D) (mouth := mtF D) (op := opF D q) j t
      have hstep : RF D nB q U G V w j (t + 1) = if opn D j q t = true then pq (nbF D) G (aF D q U G V) (kF D q U G V w) nB j t (min L (mtF D j)) (RF D nB q U G V w j t) else RF D nB q U G V w j t := by
        have hav := out_av (G := G) (j := j) (fun i => (hSok i).1) (hSok.c0 (by omega)) nB
        unfold RF at hI ⊢
        rw [Rr, hr_pq (by omega)]
        rw [show min (min (mtF D j) (rmF D j - inn G j (Rr (nbF D) G (aF D q U G V) (kF D q U G V w) nB (rmF D) (mtF D) (opF D q) j t) nB)) (av (nbF D) G (aF D q U G V) j (Rr (nbF D) G (aF D q U G V) (kF D q U G V w) nB (rmF D) (mtF D) (opF D q) j t) nB) = min L (mtF D j) by omega]
        rfl
      by_cases co : opn D j q t = true
      · rw [if_pos co] at hstep
        rw [if_pos co, if_neg (by decide)]
        have em : imin (L : Int) (D (0 + 4 * j + 1)) = ((min L (mtF D j) : Nat) : Int) := by
          rw [← hm.1]; unfold imin; split <;> omega
        simp (disch := omega) only [rdG_sea_harbours, rd_sea_harbours, bo_ok, Int.toNat_natCast, Int.reduceToNat, e1, em]
        obtain ⟨g', s2, q1, q2, q3, q4, q5⟩ := c_letInAt hK (G := G) (A := aF D q U G V) (j := j) (t := t) (m := min L (mtF D j)) (by omega) (by omega) hL hX
        rw [pq_mix, ← hstep] at q3 q4
        rw [inn_mix, inn_mix] at q4
        rw [q1, b2_ok, lt_ok, lt_ok, w32_s (by omega), w32_id (x := (L : Int) - (g' : Int)) (by omega) (by omega), show (L : Int) - (g' : Int) = ((L - g' : Nat) : Int) by omega]
        obtain ⟨s', r1, r2, r3⟩ := c_letIn_104 h hP hK hj Sx m n (t + 1) (L - g') s2 (by omega) (by omega) (hS.frP h.1.b hP q2) (hL.fr hK q2) q3 (by omega)
        exact ⟨s', r1, q2.trans r2, r3⟩
      · rw [if_neg co] at hstep
        rw [if_neg co, if_pos rfl, lt_ok, w32_s (by omega)]
        exact c_letIn_104 h hP hK hj Sx m n (t + 1) L s (by omega) (by omega) hS hL (by rw [hstep]; exact hX) (by rw [hstep]; exact hI)
theorem out_le (h : SeaOk D nH nB nS) {A : Nat → Nat} {j : Nat} : ∀ m, m ≤ 4 → out (nbF D) G A j m ≤ 8 * m
  | 0, _ => Nat.le_refl _
  | m + 1, hm => by
    have := out_le h (A := A) (j := j) m (by omega)
    have := (nbF_i h (i := m) (by omega)).2
    unfold out
    split <;> omega
theorem c_letIn_10 (h : PlOk D nH nB nS q U G V) (hP : PlC P hc gc) (hK : LtK nB gc P (nbF D) o (kF D q U G V w)) {j : Nat} (hj : j < nH) (hS : SlC s D nH nB nS hc gc U G V w) (hL : LtC s nB gc G (nbF D) (aF D q U G V) o) : ∀ (m n i : Nat), i + m = nB → m < n → fX2_letIn_10 n j q P ((frF G (aF D q U G V) j i : Nat) : Int) ((out (nbF D) G (aF D q U G V) j i : Nat) : Int) i s = fX2_letIn_104 600 j q P ((min (out (nbF D) G (aF D q U G V) j nB) (rmF D j) : Nat) : Int) ((frF G (aF D q U G V) j nB : Nat) : Int) s
  | m, 0, _, _, hn => absurd hn (by omega)
  | 0, n + 1, i, e, _ => by
    have hb := h.1.1
    have hr := rmF_i h.1 (j := j) (by omega)
    have e0 := hS.1.h0 hj
    have e : i = nB := by omega
    subst e
    have em : imin ((out (nbF D) G (aF D q U G V) j i : Nat) : Int) (D (0 + 4 * j)) = ((min (out (nbF D) G (aF D q U G V) j i) (rmF D j) : Nat) : Int) := by
      rw [← hr.1]; unfold imin; split <;> omega
    rw [fX2_letIn_10, hL.1, if_pos (by omega)]
    simp (disch := omega) only [rdG_sea_harbours, rd_sea_harbours, bo_ok, lt_ok, Int.toNat_natCast, Int.reduceToNat, e0, em]
  | m + 1, n + 1, i, e, hn => by
    have hb := h.1.1
    have hn8 := (nbF_i h.1 (i := i) (by omega)).2
    have ho := out_le h.1 (G := G) (A := aF D q U G V) (j := j) i (by omega)
    obtain ⟨e1, e2, e3⟩ := hL.2.1 i (by omega)
    have ih := c_letIn_10 h hP hK hj hS hL m n (i + 1) (by omega) (by omega)
    rw [fX2_letIn_10, hL.1, if_neg (by omega), hK.2.1.1, rdI_of hK.2.1.2.1 (by omega) (by omega), bo_ok, Int.toNat_natCast, e1]
    rw [frF, out] at ih
    by_cases cG : G i = j
    · rw [if_pos (by omega)]
      simp (disch := omega) only [rd_passage_arrival, rdG_sea_sorts, rd_sea_sorts, bo_ok, lt_ok, Int.toNat_natCast, Int.reduceToNat, e2, e3, w32_s]
      by_cases cA : aF D q U G V i < 24
      · rw [if_pos ⟨cG, cA⟩, if_pos ⟨cG, cA⟩] at ih
        rw [if_neg (by omega), w32_id (by omega) (by omega)]
        have em : imin ((frF G (aF D q U G V) j i : Nat) : Int) ((aF D q U G V i : Nat) : Int) = ((min (frF G (aF D q U G V) j i) (aF D q U G V i) : Nat) : Int) := by
          unfold imin; split <;> omega
        rw [em, show ((out (nbF D) G (aF D q U G V) j i : Nat) : Int) + ((nbF D i : Nat) : Int) = ((out (nbF D) G (aF D q U G V) j i + nbF D i : Nat) : Int) by omega]
        exact ih
      · rw [if_neg (fun z => cA z.2), if_neg (fun z => cA z.2), Nat.add_zero] at ih
        rw [if_pos (by omega)]
        exact ih
    · rw [if_neg (fun z => cG z.1), if_neg (fun z => cG z.1), Nat.add_zero] at ih
      rw [if_neg (by omega), lt_ok, w32_s (by omega)]
      exact ih
theorem inn_0 {j : Nat} : ∀ m, inn G j S0 m = 0
  | 0 => rfl
  | m + 1 => by
    rw [inn, inn_0 m]
    split <;> rfl
theorem c_letIn (h : PlOk D nH nB nS q U G V) (hP : PlC P hc gc) (hK : LtK nB gc P (nbF D) o (kF D q U G V w)) {j : Nat} (hj : j < nH) (Sx : Nat → Nat × (Nat → Nat)) (h0 : ∀ i, G i = j → Sx i = S0 i) (hS : SlC s D nH nB nS hc gc U G V w) (hL : LtC s nB gc G (nbF D) (aF D q U G V) o) (hX : PsC s nB (nbF D) Sx) : ∃ s', fX2_letIn j q P s = some s' ∧ FrP s s' ∧ PsC s' nB (nbF D) (mix G j (RF D nB q U G V w j 24) Sx) := by
  have hb := h.1.1
  have hl := frF_le G (aF D q U G V) j nB
  have er : RF D nB q U G V w j (frF G (aF D q U G V) j nB) = S0 := Rr_none _ (Nat.le_refl _)
  have em : mix G j S0 Sx = Sx := by
    funext i
    unfold mix
    by_cases c : G i = j
    · rw [if_pos c, h0 i c]
    · rw [if_neg c]
  have key := c_letIn_10 h hP hK hj hS hL nB 600 0 (by omega) (by omega)
  obtain ⟨s', q1, q2, q3⟩ := c_letIn_104 h hP hK hj Sx (24 - frF G (aF D q U G V) j nB) 600 (frF G (aF D q U G V) j nB) (min (out (nbF D) G (aF D q U G V) j nB) (rmF D j)) s (by omega) (by omega) hS hL (by rw [er, em]; exact hX) (by rw [er, inn_0]; omega)
  exact ⟨s', key.trans q1, q2, q3⟩
theorem c_sail_81 (h : PlOk D nH nB nS q U G V) (hP : PlC P hc gc) (hK : LtK nB gc P (nbF D) o (kF D q U G V w)) : ∀ (m n j : Nat) (s : Mem), j + m = nH → m < n → SlC s D nH nB nS hc gc U G V w → LtC s nB gc G (nbF D) (aF D q U G V) o → PsC s nB (nbF D) (fun i => if G i < j then FF D nB q U G V w i else S0 i) → ∃ s', fX2_sail_81 n q P j s = some s' ∧ FrP s s' ∧ PsC s' nB (nbF D) (FF D nB q U G V w)
  | m, 0, _, _, _, hn, _, _, _ => absurd hn (by omega)
  | 0, n + 1, j, s, e, _, hS, hL, hX => by
    have hb := h.1.1
    have e : j = nH := by omega
    subst e
    refine ⟨s, by rw [fX2_sail_81, hS.1.1, if_pos (by omega)], FrP.rf, fun i hi => ?_⟩
    have := hX i hi
    dsimp only at this
    rw [if_pos (h.2.2.1 i (by omega)).2] at this
    exact this
  | m + 1, n + 1, j, s, e, hn, hS, hL, hX => by
    have hb := h.1.1
    obtain ⟨s2, q1, q2, q3⟩ := c_letIn h hP hK (j := j) (by omega) (fun i => if G i < j then FF D nB q U G V w i else S0 i) (fun i hi => if_neg (by omega)) hS hL hX
    obtain ⟨s', r1, r2, r3⟩ := c_sail_81 h hP hK m n (j + 1) s2 (by omega) (by omega) (hS.frP h.1.b hP q2) (hL.fr hK q2) (by
      have em : mix G j (RF D nB q U G V w j 24) (fun i => if G i < j then FF D nB q U G V w i else S0 i) = fun i => if G i < j + 1 then FF D nB q U G V w i else S0 i := by
        funext i
        unfold mix
        by_cases c : G i = j
        · rw [if_pos c, if_pos (by omega)]; unfold FF; rw [c]
        · rw [if_neg c]
          dsimp only
          by_cases c2 : G i < j
          · rw [if_pos c2, if_pos (by omega)]
          · rw [if_neg c2, if_neg (by omega)]
      rw [← em]; exact q3)
    refine ⟨s', ?_, q2.trans r2, r3⟩
    rw [fX2_sail_81, hS.1.1, if_neg (by omega), q1, bo_ok, lt_ok, w32_s (by omega)]
    exact r1
/-- cells of a sailing have changed alone -/
def FrS (s s' : Mem) : Prop := ∀ c, (c ≤ 122 ∨ 130 < c) → s' c = s c
theorem FrS.rf : FrS s s := fun _ _ => rfl
theorem FrS.trans {s1 s2 s3 : Mem} (h : FrS s1 s2) (h2 : FrS s2 s3) : FrS s1 s3 := fun c a => (h2 c a).trans (h c a)
theorem FrP.sl (h : FrP s s') : FrS s s' := fun c hc => h c (by omega) (by omega)
theorem SlC.frS (h : SlC s D nH nB nS hc gc U G V w) (hb : nH ≤ 4 ∧ nB ≤ 4 ∧ nS ≤ 4) (hP : PlC P hc gc) (hf : FrS s s') : SlC s' D nH nB nS hc gc U G V w := h.scr hb hP (fun k hk => hf k (by omega))
theorem c_sail_36 (h : PlOk D nH nB nS q U G V) {i : Nat} (hi : i < nB) (K : Int → Nat → Int → Mem → Option Mem) : ∀ (m n k : Nat) (s : Mem), k + m = nbF D i → m < n → s (28 + i) 0 = D (16 + 5 * i) → (∀ a, a < k → s (127 + i) a = 24) → ∃ s', fX2_sail_36 K n q P i k s = K q P ((i + 1 : Nat) : Int) s' ∧ (∀ a, a < nbF D i → s' (127 + i) a = 24) ∧ (∀ c, c ≠ 127 + i → s' c = s c)
  | m, 0, _, _, _, hn, _, _ => absurd hn (by omega)
  | 0, n + 1, k, s, e, _, h1, h2 => by
    have hb := h.1.1
    have hn := nbF_i h.1 (i := i) (by omega)
    refine ⟨s, ?_, fun a ha => h2 a (by omega), fun _ _ => rfl⟩
    rw [fX2_sail_36]
    simp (disch := omega) only [rdG_sea_sorts, rd_sea_sorts, bo_ok, lt_ok, Int.toNat_natCast, Int.reduceToNat, h1, w32_s]
    rw [if_pos (by omega)]
  | m + 1, n + 1, k, s, e, hn, h1, h2 => by
    have hb := h.1.1
    have hn8 := nbF_i h.1 (i := i) (by omega)
    obtain ⟨s', q1, q2, q3⟩ := c_sail_36 h hi K m n (k + 1) (mu s (127 + i) k 24) (by omega) (by omega) (by rw [mu_ne _ _ _ (by omega)]; exact h1) (fun a ha => by
      rw [mu_same]
      by_cases c : a = k
      · subst c; rw [fu_same]
      · rw [fu_ne _ _ c]; exact h2 a (by omega))
    refine ⟨s', ?_, q2, fun c hc => by rw [q3 c hc, mu_ne _ _ _ hc]⟩
    rw [fX2_sail_36]
    simp (disch := omega) only [rdG_sea_sorts, rd_sea_sorts, rdG_passage_entry, wr_passage_entry, bo_ok, lt_ok, Int.toNat_natCast, Int.reduceToNat, h1, w32_s]
    rw [if_neg (by omega)]
    exact q1
theorem c_sail_2 (h : PlOk D nH nB nS q U G V) (hP : PlC P hc gc) : ∀ (m n i : Nat) (s : Mem), i + m = nB → m < n → SlC s D nH nB nS hc gc U G V w → (∀ a, a < i → s 123 a = ((aF D q U G V a : Nat) : Int)) → PsC s i (nbF D) S0 → ∃ s', fX2_sail_2 n q P i s = some s' ∧ FrS s s' ∧ PsC s' nB (nbF D) (FF D nB q U G V w)
  | m, 0, _, _, _, hn, _, _, _ => absurd hn (by omega)
  | 0, n + 1, i, s, e, _, hS, hA, hX => by
    have hb := h.1.1
    have e : i = nB := by omega
    subst e
    have hn := hP.ne
    obtain ⟨s2, o, q1, q2, q3⟩ := c_putInOrder h hP hS hA
    have hK : LtK i gc P (nbF D) o (kF D q U G V w) := ⟨⟨by omega, fun k hk => (nbF_i h.1 (i := k) (by omega)).2⟩, ⟨hP.1.2, hP.lh.2, by omega⟩, fun k hk => (q2.1 k hk).2, q2.2.1, q2.2.2⟩
    have f2 : FrS s s2 := fun c hc => q3 c (by omega)
    have hS2 := hS.frS h.1.b hP f2
    have hL : LtC s2 i gc G (nbF D) (aF D q U G V) o := ⟨hS2.1.2.1, fun k hk => ⟨(hS2.2.2.1 k (by omega)).2, by rw [q3 _ (by decide)]; exact hA k hk, by rw [(nbF_i h.1 (i := k) (by omega)).1]; exact hS2.1.b0 hk⟩, fun k hk => (q2.1 k hk).1⟩
    obtain ⟨s', r1, r2, r3⟩ := c_sail_81 h hP hK nH 600 0 s2 (by omega) (by omega) hS2 hL (fun k hk => by
      dsimp only
      rw [if_neg (by omega), q3 _ (by decide), q3 _ (by omega)]
      exact hX k hk)
    refine ⟨s', ?_, f2.trans r2.sl, r3⟩
    rw [fX2_sail_2, hS.1.2.1, if_pos (by omega), q1, bo_ok]
    exact r1
  | m + 1, n + 1, i, s, e, hn, hS, hA, hX => by
    have hb := h.1.1
    have hn8 := nbF_i h.1 (i := i) (by omega)
    have hne := hP.ne
    obtain ⟨s2, q1, q2, q3⟩ := c_sail_36 (P := P) h (i := i) (by omega) (fun p1 p2 p3 s => fX2_sail_2 n p1 p2 p3 s) (nbF D i) 600 0 (mu (mu s 123 i ((aF D q U G V i : Nat) : Int)) 125 i 0) (by omega) (by omega) (by rw [mu_ne _ _ _ (by omega), mu_ne _ _ _ (by omega)]; exact hS.1.b0 (by omega)) (fun a ha => absurd ha (by omega))
    have f2 : FrS s s2 := fun c hc => by rw [q3 c (by omega), mu_ne _ _ _ (by omega), mu_ne _ _ _ (by omega)]
    obtain ⟨s', r1, r2, r3⟩ := c_sail_2 h hP m n (i + 1) s2 (by omega) (by omega) (hS.frS h.1.b hP f2) (fun a ha => by
      rw [q3 _ (by omega), mu_ne _ _ _ (by decide), mu_same]
      by_cases c : a = i
      · subst c; rw [fu_same]
      · rw [fu_ne _ _ c]; exact hA a (by omega)) (fun a ha => by
      by_cases c : a = i
      · subst c
        refine ⟨by rw [q3 _ (by omega), mu_same, fu_same]; rfl, fun k hk => ?_⟩
        rw [q2 k hk]; rfl
      · refine ⟨by rw [q3 _ (by omega), mu_same, fu_ne _ _ c, mu_ne _ _ _ (by decide)]; exact (hX a (by omega)).1, fun k hk => ?_⟩
        rw [q3 _ (by omega), mu_ne _ _ _ (by omega), mu_ne _ _ _ (by omega)]; exact (hX a (by omega)).2 k hk)
    refine ⟨s', ?_, f2.trans r2, r3⟩
    rw [fX2_sail_2, hS.1.2.1, if_neg (by omega), c_arrivalOf h hP hS (by omega), b2_ok]
    simp (disch := omega) only [wr_passage_arrival, wr_passage_inside, bo_ok, Int.toNat_natCast]
    exact q1.trans r1
theorem c_sail (h : PlOk D nH nB nS q U G V) (hP : PlC P hc gc) (hS : SlC s D nH nB nS hc gc U G V w) : ∃ s', fX2_sail q P s = some s' ∧ FrS s s' ∧ PsC s' nB (nbF D) (FF D nB q U G V w) := by
  have hb := h.1.1
  exact c_sail_2 h hP nB 600 0 s (by omega) (by omega) hS (fun a ha => absurd ha (by omega)) (fun a ha => absurd ha (by omega))
end SA

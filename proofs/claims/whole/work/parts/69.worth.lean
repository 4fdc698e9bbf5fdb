/-! ===== what a sailing is worth ===== -/
theorem w64_ex (x : Int) : ∃ k : Int, w64 x = x + 18446744073709551616 * k := ⟨-((x + 9223372036854775808) / 18446744073709551616), by unfold w64; omega⟩
theorem w64_cg {a b k : Int} (h : a = b + 18446744073709551616 * k) : w64 a = w64 b := by unfold w64; omega
theorem w64_al (a b : Int) : w64 (w64 a + b) = w64 (a + b) := by
  obtain ⟨k, e⟩ := w64_ex a
  rw [e]; exact w64_cg (k := k) (by omega)
theorem w64_ar (a b : Int) : w64 (a + w64 b) = w64 (a + b) := by
  obtain ⟨k, e⟩ := w64_ex b
  rw [e]; exact w64_cg (k := k) (by omega)
theorem w64_sl (a b : Int) : w64 (w64 a - b) = w64 (a - b) := by
  obtain ⟨k, e⟩ := w64_ex a
  rw [e]; exact w64_cg (k := k) (by omega)
theorem w64_sr (a b : Int) : w64 (a - w64 b) = w64 (a - b) := by
  obtain ⟨k, e⟩ := w64_ex b
  rw [e]; exact w64_cg (k := -k) (by omega)
theorem w64_mr (a b : Int) : w64 (a * w64 b) = w64 (a * b) := by
  obtain ⟨k, e⟩ := w64_ex b
  rw [e]
  refine w64_cg (k := a * k) ?_
  rw [Int.mul_add, Int.mul_left_comm]
theorem w64_w (a : Int) : w64 (w64 a) = w64 a := by
  have h := w64_al a 0
  rw [Int.add_zero, Int.add_zero] at h; exact h
def dd (D : Nat → Int) (i q : Nat) (e : Nat → Nat) : Nat → Int
  | 0 => 0
  | n + 1 => dd D i q e n + (1000000 - alv D i q (e n))
def vS (D : Nat → Int) (nB q : Nat) (U G : Nat → Nat) (V : Nat → Int) (w : Bool) (i : Nat) : Int := (nbF D i : Int) * fsh D i q (U i) - D (16 + 5 * i + 3) * dd D i q (FF D nB q U G V w i).2 (nbF D i)
/-- the sum over those of the first m that a set tells -/
def sm (msk : Nat) (f : Nat → Int) : Nat → Int
  | 0 => 0
  | m + 1 => if msk.testBit m = true then sm msk f m + f m else sm msk f m
def vM (D : Nat → Int) (nB q : Nat) (U G : Nat → Nat) (V : Nat → Int) (w : Bool) (msk : Nat) : Int := sm msk (vS D nB q U G V w) nB
def mn (D : Nat → Int) (nB nS : Nat) (U G : Nat → Nat) (V : Nat → Int) (w : Bool) (msk th : Nat) : Int := sm th (fun q => D (52 + 6 * q) * vM D nB q U G V w msk) nS
section WO
variable {D : Nat → Int} {nH nB nS q P hc gc : Nat} {U G o : Nat → Nat} {V : Nat → Int} {w : Bool} {s s' : Mem}
theorem FF_ok (i : Nat) : (FF D nB q U G V w i).1 ≤ nbF D i ∧ (∀ n, n < (FF D nB q U G V w i).1 → (FF D nB q U G V w i).2 n < 24 ∧ aF D q U G V i ≤ (FF D nB q U G V w i).2 n) ∧ (∀ n, (FF D nB q U G V w i).1 ≤ n → (FF D nB q U G V w i).2 n = 24) := Sok.rr (nb := nbF D) (G := G) (A := aF D q U G V) (key := kF D q U G V w) (nB := nB) (room := rmF D) (mouth := mtF D) (op := opF D q) (G i) 24 i
theorem FF_e (i n : Nat) : (FF D nB q U G V w i).2 n ≤ 24 := by
  have h := FF_ok (D := D) (nB := nB) (q := q) (U := U) (G := G) (V := V) (w := w) i
  rcases Nat.lt_or_ge n (FF D nB q U G V w i).1 with c | c
  · have := h.2.1 n c; omega
  · have := h.2.2 n c; omega
theorem dd_rg (h : SeaOk D nH nB nS) {i q : Nat} (hi : i < 4) (hq : q < 4) (e : Nat → Nat) : ∀ n, 0 ≤ dd D i q e n ∧ dd D i q e n ≤ 1000000 * n
  | 0 => by unfold dd; omega
  | n + 1 => by
    have ih := dd_rg h hi hq e n
    have := alv_rg h hi hq (e n)
    unfold dd
    omega
theorem c_worth_19 (h : PlOk D nH nB nS q U G V) (hP : PlC P hc gc) {i : Nat} (hi : i < nB) (hS : SlC s D nH nB nS hc gc U G V w) (hX : PsC s nB (nbF D) (FF D nB q U G V w)) : ∀ (m n k : Nat), k + m = nbF D i → m < n → fX2_worthOfSort_19 n q i P ((nbF D i : Nat) : Int) (dd D i q (FF D nB q U G V w i).2 k) k s = some (w64 (vS D nB q U G V w i), s)
  | m, 0, _, _, hn => absurd hn (by omega)
  | 0, n + 1, k, e, _ => by
    have hb := h.1.1
    have hl := hP.lh
    have hu := h.2.2.1 i (by omega)
    have e1 := (hS.2.2.1 i (by omega)).1
    have e : k = nbF D i := by omega
    subst e
    rw [fX2_worthOfSort_19, if_pos (by omega), hP.1.1, rdI_of hl.1 (by omega) (by omega), bo_ok, Int.toNat_natCast, e1, c_fishedTill hS.2.1 h.1 hi h.2.1 (by omega), b2_ok]
    simp (disch := omega) only [rdG_sea_sorts, rd_sea_sorts, bo_ok, Int.toNat_natCast, Int.reduceToNat, hS.1.b3]
    rw [w64_sl, w64_sr]
    rfl
  | m + 1, n + 1, k, e, hn => by
    have hb := h.1.1
    have hn8 := (nbF_i h.1 (i := i) (by omega)).2
    have e2 := (hX i hi).2 k (by omega)
    have he := FF_e (D := D) (nB := nB) (q := q) (U := U) (G := G) (V := V) (w := w) i k
    have hr := dd_rg h.1 (i := i) (q := q) (by omega) (by have := h.2.1; omega) (FF D nB q U G V w i).2 k
    have ha := alv_rg h.1 (i := i) (q := q) (by omega) (by have := h.2.1; omega) ((FF D nB q U G V w i).2 k)
    rw [fX2_worthOfSort_19, if_neg (by omega)]
    simp (disch := omega) only [rdG_passage_entry, rd_passage_entry, bo_ok, Int.toNat_natCast, e2]
    rw [c_aliveAt hS.2.1 h.1 hi h.2.1 (by omega), b2_ok, lt_ok, lt_ok, w32_s (by omega), w32_id (by omega) (by omega), w64_id (by omega) (by omega)]
    exact c_worth_19 h hP hi hS hX m n (k + 1) (by omega) (by omega)
theorem c_worth (h : PlOk D nH nB nS q U G V) (hP : PlC P hc gc) {i : Nat} (hi : i < nB) (hS : SlC s D nH nB nS hc gc U G V w) (hX : PsC s nB (nbF D) (FF D nB q U G V w)) : fX2_worthOfSort q i P s = some (w64 (vS D nB q U G V w i), s) := by
  have hb := h.1.1
  have hn8 := nbF_i h.1 (i := i) (by omega)
  have := c_worth_19 h hP hi hS hX (nbF D i) 600 0 (by omega) (by omega)
  unfold fX2_worthOfSort
  simp (disch := omega) only [rdG_sea_sorts, rd_sea_sorts, bo_ok, Int.toNat_natCast, Int.reduceToNat, hS.1.b0]
  rw [← hn8.1]
  exact this
theorem c_worthOf_12 (h : PlOk D nH nB nS q U G V) (hP : PlC P hc gc) {msk : Nat} (hm : msk < 16) (hS : SlC s D nH nB nS hc gc U G V w) (hX : PsC s nB (nbF D) (FF D nB q U G V w)) : ∀ (m n i : Nat), i + m = nB → m < n → fX2_worthOf_12 n q P msk (w64 (sm msk (vS D nB q U G V w) i)) i s = some (w64 (vM D nB q U G V w msk), s)
  | m, 0, _, _, hn => absurd hn (by omega)
  | 0, n + 1, i, e, _ => by
    have e : i = nB := by omega
    subst e
    rw [fX2_worthOf_12, hS.1.2.1, if_pos (by omega)]; rfl
  | m + 1, n + 1, i, e, hn => by
    have hb := h.1.1
    have ih := c_worthOf_12 h hP hm hS hX m n (i + 1) (by omega) (by omega)
    rw [sm] at ih
    rw [fX2_worthOf_12, hS.1.2.1, if_neg (by omega)]
    by_cases c : msk.testBit i = true
    · rw [if_pos c] at ih
      rw [if_neg (fun z => by rw [(bit_0 (by omega) (by omega)).mp z] at c; exact absurd c (by simp)), c_worth h hP (by omega) hS hX, b2_ok, lt_ok, lt_ok, w64_al, w64_ar, w32_s (by omega)]
      exact ih
    · rw [if_neg c] at ih
      rw [if_pos ((bit_0 (by omega) (by omega)).mpr (eq_false_of_ne_true c)), lt_ok, w32_s (by omega)]
      exact ih
theorem c_worthOf (h : PlOk D nH nB nS q U G V) (hP : PlC P hc gc) {msk : Nat} (hm : msk < 16) (hS : SlC s D nH nB nS hc gc U G V w) : ∃ s', fX2_worthOf q P msk s = some (w64 (vM D nB q U G V w msk), s') ∧ FrS s s' := by
  have hb := h.1.1
  obtain ⟨s', q1, q2, q3⟩ := c_sail h hP hS
  refine ⟨s', ?_, q2⟩
  unfold fX2_worthOf
  rw [q1, bo_ok]
  exact c_worthOf_12 h hP hm (hS.frS h.1.b hP q2) q3 nB 600 0 (by omega) (by omega)
/-- PLANS and SPEEDS that can be sailed in each STORM -/
def PlOk' (D : Nat → Int) (nH nB nS : Nat) (U G : Nat → Nat) (V : Nat → Int) : Prop := SeaOk D nH nB nS ∧ (∀ i, i < nB → U i ≤ 24 ∧ G i < nH) ∧ (∀ i, i < nB → 0 ≤ V i ∧ V i ≤ 9)
theorem PlOk'.at (h : PlOk' D nH nB nS U G V) {q : Nat} (hq : q < nS) : PlOk D nH nB nS q U G V := ⟨h.1, hq, h.2.1, h.2.2⟩
theorem c_meanOf_6 (h : PlOk' D nH nB nS U G V) (hP : PlC P hc gc) {msk th : Nat} (hm : msk < 16) (hth : th < 16) : ∀ (m n q : Nat) (s : Mem), q + m = nS → m < n → SlC s D nH nB nS hc gc U G V w → ∃ s', fX2_meanOf_6 n P th msk (w64 (sm th (fun q => D (52 + 6 * q) * vM D nB q U G V w msk) q)) q s = some (w64 (mn D nB nS U G V w msk th), s') ∧ FrS s s'
  | m, 0, _, _, _, hn, _ => absurd hn (by omega)
  | 0, n + 1, q, s, e, _, hS => by
    have e : q = nS := by omega
    subst e
    exact ⟨s, by rw [fX2_meanOf_6, hS.1.2.2.1, if_pos (by omega)]; rfl, FrS.rf⟩
  | m + 1, n + 1, q, s, e, hn, hS => by
    have hb := h.1.1
    have ht := h.1.2.2.2.2.1 q (by omega)
    have ih := fun (s : Mem) (hS : SlC s D nH nB nS hc gc U G V w) => c_meanOf_6 h hP hm hth m n (q + 1) s (by omega) (by omega) hS
    rw [sm] at ih
    rw [fX2_meanOf_6, hS.1.2.2.1, if_neg (by omega)]
    by_cases c : th.testBit q = true
    · rw [if_pos c] at ih
      rw [if_neg (fun z => by rw [(bit_0 (by omega) (by omega)).mp z] at c; exact absurd c (by simp))]
      simp (disch := omega) only [rdG_sea_storms, rd_sea_storms, bo_ok, Int.toNat_natCast, Int.reduceToNat, hS.1.q0]
      by_cases c0 : D (52 + 6 * q) ≤ 0
      · have : D (52 + 6 * q) = 0 := by omega
        rw [if_pos c0, lt_ok, w32_s (by omega)]
        rw [this, Int.zero_mul, Int.add_zero] at ih
        exact ih s hS
      · rw [if_neg c0]
        obtain ⟨s2, q1, q2⟩ := c_worthOf (h.at (q := q) (by omega)) hP hm hS
        rw [q1, b2_ok, lt_ok, lt_ok, w64_mr, w64_ar, w64_al, w32_s (by omega)]
        obtain ⟨s', r1, r2⟩ := ih s2 (hS.frS h.1.b hP q2)
        exact ⟨s', r1, q2.trans r2⟩
    · rw [if_neg c] at ih
      rw [if_pos ((bit_0 (by omega) (by omega)).mpr (eq_false_of_ne_true c)), lt_ok, w32_s (by omega)]
      exact ih s hS
theorem c_meanOf (h : PlOk' D nH nB nS U G V) (hP : PlC P hc gc) {msk th : Nat} (hm : msk < 16) (hth : th < 16) (hS : SlC s D nH nB nS hc gc U G V w) : ∃ s', fX2_meanOf P th msk s = some (w64 (mn D nB nS U G V w msk th), s') ∧ FrS s s' := by
  have hb := h.1.1
  exact c_meanOf_6 h hP hm hth nS 600 0 s (by omega) (by omega) hS
end WO

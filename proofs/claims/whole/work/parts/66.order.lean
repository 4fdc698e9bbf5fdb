/-! ===== a sailing: what hangs on the sea, the STORM, the PLANS ===== -/
def nbF (D : Nat → Int) (i : Nat) : Nat := (D (16 + 5 * i)).toNat
def aF (D : Nat → Int) (q : Nat) (U G : Nat → Nat) (V : Nat → Int) (i : Nat) : Nat := arr D (V i) (D (36 + 4 * i + G i)) q (U i)
def wF (D : Nat → Int) (w : Bool) (i : Nat) : Int := if w = true then D (16 + 5 * i + 3) * D (16 + 5 * i + 4) else 0
def kF (D : Nat → Int) (q : Nat) (U G : Nat → Nat) (V : Nat → Int) (w : Bool) (i : Nat) : Int := -100 * wF D w i + 4 * (aF D q U G V i : Int) + (i : Int)
def rmF (D : Nat → Int) (j : Nat) : Nat := (D (0 + 4 * j)).toNat
def mtF (D : Nat → Int) (j : Nat) : Nat := (D (0 + 4 * j + 1)).toNat
def opF (D : Nat → Int) (q j t : Nat) : Bool := opn D j q t
/-- PLANS and SPEEDS that can be sailed -/
def PlOk (D : Nat → Int) (nH nB nS q : Nat) (U G : Nat → Nat) (V : Nat → Int) : Prop := SeaOk D nH nB nS ∧ q < nS ∧ (∀ i, i < nB → U i ≤ 24 ∧ G i < nH) ∧ (∀ i, i < nB → 0 ≤ V i ∧ V i ≤ 9)
/-- the class's Plans object at P, its rows at hc, gc -/
def PlC (P hc gc : Nat) : Prop := (ab_pt P 0 = hc ∧ ab_pt P 1 = gc) ∧ ((hc = 111 ∧ gc = 112) ∨ (hc = 135 ∧ gc = 136))
def SlC (s : Mem) (D : Nat → Int) (nH nB nS hc gc : Nat) (U G : Nat → Nat) (V : Nat → Int) (w : Bool) : Prop := SeaC s D nH nB nS ∧ TabC s D nH nB nS ∧ (∀ i, i < nB → s hc i = U i ∧ s gc i = G i) ∧ s 122 3 = (if w = true then 1 else 0) ∧ ∃ sl : Nat, s 122 1 = sl ∧ sl < 16 ∧ ∀ i, i < nB → V i = if sl.testBit i = true then s 122 2 else D (16 + 5 * i + 1)
section OR
variable {D : Nat → Int} {nH nB nS q P hc gc : Nat} {U G : Nat → Nat} {V : Nat → Int} {w : Bool} {s s' : Mem}
theorem PlC.lh (h : PlC P hc gc) : lenI hc = 4 ∧ lenI gc = 4 := by
  rcases h.2 with ⟨rfl, rfl⟩ | ⟨rfl, rfl⟩ <;> decide +kernel
theorem PlC.ne (h : PlC P hc gc) : (109 < hc ∧ 109 < gc) ∧ (hc < 122 ∨ 134 < hc) ∧ (gc < 122 ∨ 134 < gc) ∧ hc ≠ gc ∧ (hc < 122 → hc < 113) ∧ (gc < 122 → gc < 113) := by
  rcases h.2 with ⟨rfl, rfl⟩ | ⟨rfl, rfl⟩ <;> omega
theorem SlC.of (h : SlC s D nH nB nS hc gc U G V w) (hb : nH ≤ 4 ∧ nB ≤ 4 ∧ nS ≤ 4) (hP : PlC P hc gc) (hf : ∀ k, (21 ≤ k → k < 109 → s' k = s k)) (hh : s' hc = s hc) (hg : s' gc = s gc) (hp : s' 122 = s 122) : SlC s' D nH nB nS hc gc U G V w := by
  obtain ⟨h1, h2, h3, h4, h5⟩ := h
  refine ⟨h1.of hb hf, h2.of hb hf, ?_, ?_, ?_⟩
  · rw [hh, hg]; exact h3
  · rw [hp]; exact h4
  · rw [hp]; exact h5
theorem SlC.scr (h : SlC s D nH nB nS hc gc U G V w) (hb : nH ≤ 4 ∧ nB ≤ 4 ∧ nS ≤ 4) (hP : PlC P hc gc) (hf : ∀ k, (k ≤ 122 ∨ 134 ≤ k) → s' k = s k) : SlC s' D nH nB nS hc gc U G V w := by
  have hn := hP.ne
  exact h.of hb hP (fun k a b => hf k (by omega)) (hf _ (by omega)) (hf _ (by omega)) (hf _ (by omega))
theorem aF_le (h : PlOk D nH nB nS q U G V) {i : Nat} (hi : i < nB) : aF D q U G V i ≤ 24 := arr_le D _ _ q (h.2.2.1 i hi).1
theorem c_arrivalOf (h : PlOk D nH nB nS q U G V) (hP : PlC P hc gc) (hS : SlC s D nH nB nS hc gc U G V w) {i : Nat} (hi : i < nB) : fX2_arrivalOf i q P s = some (((aF D q U G V i : Nat) : Int), s) := by
  have hb := h.1.1
  have hl := hP.lh
  obtain ⟨h1, h2, h3, h4, sl, h5, h6, h7⟩ := hS
  have hu := h.2.2.1 i (by omega)
  have hv := h.2.2.2 i hi
  have e := h3 i (by omega)
  have rm := h.1.2.2.2.1 i (G i) (by omega) (by omega)
  unfold fX2_arrivalOf
  rw [hP.1.1, hP.1.2, rdI_of hl.1 (by omega) (by omega), bo_ok, rdI_of hl.2 (by omega) (by omega), bo_ok, Int.toNat_natCast, e.1, e.2, h5]
  unfold aF
  by_cases c : sl.testBit i = true
  · have e7 := h7 i hi
    rw [if_pos c] at e7
    rw [if_neg (fun z => by rw [(bit_0 (by omega) (by omega)).mp z] at c; exact absurd c (by simp))]
    simp (disch := omega) only [rdG_sea_miles, rd_sea_miles, bo_ok, Int.toNat_natCast, h1.m]
    rw [← e7, c_arrivalAt h1 h.1 h.2.1 hv (by omega) (fun t ht => h2.1 q t h.2.1 ht) hu.1, b2_ok]
  · have c := eq_false_of_ne_true c
    have e7 := h7 i hi
    rw [if_neg (by rw [c]; decide)] at e7
    rw [if_pos ((bit_0 (by omega) (by omega)).mpr c), c_arrival h2 h.1 hi hu.2 h.2.1 hu.1, b2_ok, e7]
theorem wF_rg (h : SeaOk D nH nB nS) {i : Nat} (hi : i < 4) : (0 ≤ D (16 + 5 * i + 3) * D (16 + 5 * i + 4) ∧ D (16 + 5 * i + 3) * D (16 + 5 * i + 4) ≤ 8991) := by
  have h1 := h.2.2.1 i hi
  refine ⟨Int.mul_nonneg (by omega) (by omega), ?_⟩
  have := Int.mul_le_mul (show D (16 + 5 * i + 3) ≤ 999 by omega) (show D (16 + 5 * i + 4) ≤ 9 by omega) (by omega) (by omega)
  omega
theorem c_goesAhead (h : PlOk D nH nB nS q U G V) (hS : SlC s D nH nB nS hc gc U G V w) (hA : ∀ i, i < nB → s 123 i = ((aF D q U G V i : Nat) : Int)) {a b : Nat} (ha : a < nB) (hb : b < a) : fX2_goesAhead a b s = some (if kF D q U G V w a < kF D q U G V w b then 1 else 0, s) := by
  have hn := h.1.1
  have la := aF_le h (i := a) (by omega)
  have lb := aF_le h (i := b) (by omega)
  have wa := wF_rg h.1 (i := a) (by omega)
  have wb := wF_rg h.1 (i := b) (by omega)
  have e74 : fX2_goesAhead_74 a b s = some (if aF D q U G V a < aF D q U G V b then 1 else 0, s) := by
    unfold fX2_goesAhead_74
    simp (disch := omega) only [rd_passage_arrival, bo_ok, Int.toNat_natCast, hA]
    by_cases c : aF D q U G V a < aF D q U G V b
    · rw [if_neg (by omega), if_pos c]
    · rw [if_pos (by omega), if_neg c]
  unfold fX2_goesAhead
  rw [hS.2.2.2.1, e74]
  unfold kF wF
  cases w with
  | false =>
    simp only [Bool.false_eq_true, if_false, if_true]
    by_cases c : aF D q U G V a < aF D q U G V b
    · rw [if_pos c, if_pos (by omega)]
    · rw [if_neg c, if_neg (by omega)]
  | true =>
    simp only [if_true]
    rw [if_neg (by decide)]
    simp (disch := omega) only [rdG_sea_sorts, rd_sea_sorts, bo_ok, lt_ok, Int.toNat_natCast, Int.reduceToNat, hS.1.b3, hS.1.b4, w32_id]
    generalize D (16 + 5 * a + 3) * D (16 + 5 * a + 4) = xa at *
    generalize D (16 + 5 * b + 3) * D (16 + 5 * b + 4) = xb at *
    by_cases c : xa = xb
    · rw [if_pos c]
      by_cases c2 : aF D q U G V a < aF D q U G V b
      · rw [if_pos c2, if_pos (by omega)]
      · rw [if_neg c2, if_neg (by omega)]
    · rw [if_neg c]
      by_cases c2 : xa ≤ xb
      · rw [if_pos c2, if_neg (by omega)]
      · rw [if_neg c2, if_pos (by omega)]
/-- the first k SORTS stand in the order of their keys -/
def OrdC (key : Nat → Int) (s : Mem) (k : Nat) (o : Nat → Nat) : Prop := (∀ a, a < k → s 124 a = ((o a : Nat) : Int) ∧ o a < k) ∧ (∀ a b, a < b → b < k → key (o a) < key (o b)) ∧ (∀ i, i < k → ∃ a, a < k ∧ o a = i)
theorem c_order_15 (h : PlOk D nH nB nS q U G V) (hP : PlC P hc gc) {k : Nat} (hk : k < nB) (o : Nat → Nat) (ho : ∀ a, a < k → o a < k) (hs : ∀ a b, a < b → b < k → kF D q U G V w (o a) < kF D q U G V w (o b)) (hj : ∀ i, i < k → ∃ a, a < k ∧ o a = i) (K : Int → Mem → Option Mem) : ∀ (p n : Nat) (s : Mem), p ≤ k → p < n → SlC s D nH nB nS hc gc U G V w → (∀ i, i < nB → s 123 i = ((aF D q U G V i : Nat) : Int)) → (∀ a, a < p → s 124 a = ((o a : Nat) : Int)) → (∀ a, p < a → a ≤ k → s 124 a = ((o (a - 1) : Nat) : Int)) → (∀ a, p ≤ a → a < k → kF D q U G V w k < kF D q U G V w (o a)) → ∃ s' o', fX2_putInOrder_15 K n k p s = K ((k + 1 : Nat) : Int) s' ∧ OrdC (kF D q U G V w) s' (k + 1) o' ∧ (∀ c, c ≠ 124 → s' c = s c) := by
  intro p
  have hn4 := h.1.1
  have fin : ∀ (p n : Nat) (s : Mem), p ≤ k → (∀ a, a < p → s 124 a = ((o a : Nat) : Int)) → (∀ a, p < a → a ≤ k → s 124 a = ((o (a - 1) : Nat) : Int)) → (∀ a, p ≤ a → a < k → kF D q U G V w k < kF D q U G V w (o a)) → (∀ a, a < p → kF D q U G V w (o a) < kF D q U G V w k) → ∃ s' o', fX2_putInOrder_55 K k p s = K ((k + 1 : Nat) : Int) s' ∧ OrdC (kF D q U G V w) s' (k + 1) o' ∧ (∀ c, c ≠ 124 → s' c = s c) := by
    intro p n s hp h1 h2 h3 h4
    refine ⟨mu s 124 p k, fun a => if a < p then o a else if a = p then k else o (a - 1), ?_, ⟨fun a ha => ?_, fun a b hab hb => ?_, fun i hi => ?_⟩, fun c hc => mu_ne _ _ _ hc⟩
    · unfold fX2_putInOrder_55
      simp (disch := omega) only [wr_passage_order, bo_ok, lt_ok, Int.toNat_natCast, w32_s]
    · rw [mu_same]
      dsimp only
      by_cases c : a < p
      · rw [if_pos c, fu_ne _ _ (by omega)]
        exact ⟨h1 a c, by have := ho a (by omega); omega⟩
      · rw [if_neg c]
        by_cases c2 : a = p
        · subst c2; rw [if_pos rfl, fu_same]; exact ⟨rfl, by omega⟩
        · rw [if_neg c2, fu_ne _ _ c2]
          exact ⟨h2 a (by omega) (by omega), by have := ho (a - 1) (by omega); omega⟩
    · dsimp only
      by_cases c : a < p
      · rw [if_pos c]
        by_cases d : b < p
        · rw [if_pos d]; exact hs a b hab (by omega)
        · rw [if_neg d]
          by_cases d2 : b = p
          · rw [if_pos d2]; exact h4 a c
          · rw [if_neg d2]; exact hs a (b - 1) (by omega) (by omega)
      · rw [if_neg c, if_neg (show ¬ b < p by omega), if_neg (show ¬ b = p by omega)]
        by_cases c2 : a = p
        · rw [if_pos c2]; exact h3 (b - 1) (by omega) (by omega)
        · rw [if_neg c2]; exact hs (a - 1) (b - 1) (by omega) (by omega)
    · by_cases c : i = k
      · exact ⟨p, by omega, by dsimp only; rw [if_neg (by omega), if_pos rfl, c]⟩
      · obtain ⟨a, ha, he⟩ := hj i (by omega)
        by_cases d : a < p
        · exact ⟨a, by omega, by dsimp only; rw [if_pos d, he]⟩
        · exact ⟨a + 1, by omega, by dsimp only; rw [if_neg (by omega), if_neg (by omega), Nat.add_sub_cancel, he]⟩
  induction p with
  | zero =>
    intro n s hp hn hS hA h1 h2 h3
    cases n with
    | zero => omega
    | succ n =>
      rw [fX2_putInOrder_15, if_pos (by omega)]
      exact fin 0 n s (by omega) h1 h2 h3 (fun a ha => absurd ha (by omega))
  | succ p ih =>
    intro n s hp hn hS hA h1 h2 h3
    cases n with
    | zero => omega
    | succ n =>
      have ew : w32 (((p + 1 : Nat) : Int) - 1) = (p : Int) := by rw [w32_id (by omega) (by omega)]; omega
      have ew2 : w32 (((p + 1 : Nat) : Int) + (-1)) = (p : Int) := by rw [w32_id (by omega) (by omega)]; omega
      have hop := ho p (by omega)
      have e1 := h1 p (by omega)
      rw [fX2_putInOrder_15, if_neg (by omega), ew, ew2]
      simp (disch := omega) only [rd_passage_order, bo_ok, Int.toNat_natCast, e1]
      rw [c_goesAhead h hS hA hk (by omega), b2_ok]
      by_cases c : kF D q U G V w k < kF D q U G V w (o p)
      · rw [if_pos c, if_neg (by decide)]
        simp (disch := omega) only [wr_passage_order, bo_ok, Int.toNat_natCast, lt_ok]
        obtain ⟨s', o', q1, q2, q3⟩ := ih n (mu s 124 (p + 1) ((o p : Nat) : Int)) (by omega) (by omega) (hS.scr h.1.b hP (fun c hc => mu_ne _ _ _ (by omega))) (fun i hi => by rw [mu_ne _ _ _ (by decide)]; exact hA i hi) (fun a ha => by rw [mu_same, fu_ne _ _ (by omega)]; exact h1 a (by omega)) (fun a ha hb => by
          rw [mu_same]
          by_cases d : a = p + 1
          · subst d; rw [fu_same]; rfl
          · rw [fu_ne _ _ d]; exact h2 a (by omega) hb) (fun a ha hb => by
          by_cases d : a = p
          · subst d; exact c
          · exact h3 a (by omega) hb)
        exact ⟨s', o', by rw [e1]; exact q1, q2, fun c hc => by rw [q3 c hc, mu_ne _ _ _ hc]⟩
      · rw [if_neg c, if_pos rfl]
        refine fin (p + 1) n s hp h1 h2 h3 (fun a ha => ?_)
        have hne : kF D q U G V w (o p) ≠ kF D q U G V w k := by
          have l1 := aF_le h (i := o p) (by omega)
          have l2 := aF_le h (i := k) (by omega)
          unfold kF
          generalize wF D w (o p) = x
          generalize wF D w k = y
          omega
        by_cases d : a = p
        · subst d; omega
        · have := hs a p (by omega) (by omega); omega
theorem c_order_2 (h : PlOk D nH nB nS q U G V) (hP : PlC P hc gc) : ∀ (m n k : Nat) (s : Mem) (o : Nat → Nat), k + m = nB → m < n → SlC s D nH nB nS hc gc U G V w → (∀ i, i < nB → s 123 i = ((aF D q U G V i : Nat) : Int)) → OrdC (kF D q U G V w) s k o → ∃ s' o', fX2_putInOrder_2 n k s = some s' ∧ OrdC (kF D q U G V w) s' nB o' ∧ (∀ c, c ≠ 124 → s' c = s c)
  | 0, n + 1, k, s, o, e, _, hS, hA, hO => by
    have e : k = nB := by omega
    subst e
    exact ⟨s, o, by rw [fX2_putInOrder_2, hS.1.2.1, if_pos (by omega)], hO, fun _ _ => rfl⟩
  | m + 1, n + 1, k, s, o, e, hn, hS, hA, hO => by
    have hb := h.1.1
    obtain ⟨s2, o2, q1, q2, q3⟩ := c_order_15 h hP (k := k) (by omega) o (fun a ha => (hO.1 a ha).2) hO.2.1 hO.2.2 (fun p1 s => fX2_putInOrder_2 n p1 s) k 600 s (by omega) (by omega) hS hA (fun a ha => (hO.1 a ha).1) (fun a ha hb => absurd ha (by omega)) (fun a ha hb => absurd ha (by omega))
    obtain ⟨s', o', r1, r2, r3⟩ := c_order_2 h hP m n (k + 1) s2 o2 (by omega) (by omega) (hS.scr h.1.b hP (fun c hc => q3 c (by omega))) (fun i hi => by rw [q3 _ (by decide)]; exact hA i hi) q2
    refine ⟨s', o', ?_, r2, fun c hc => by rw [r3 c hc, q3 c hc]⟩
    rw [fX2_putInOrder_2, hS.1.2.1, if_neg (by omega)]
    exact q1.trans r1
  | _, 0, _, _, _, _, hn, _, _, _ => absurd hn (by omega)
theorem c_putInOrder (h : PlOk D nH nB nS q U G V) (hP : PlC P hc gc) (hS : SlC s D nH nB nS hc gc U G V w) (hA : ∀ i, i < nB → s 123 i = ((aF D q U G V i : Nat) : Int)) : ∃ s' o', fX2_putInOrder s = some s' ∧ OrdC (kF D q U G V w) s' nB o' ∧ (∀ c, c ≠ 124 → s' c = s c) := by
  have hb := h.1.1
  exact c_order_2 h hP nB 600 0 s (fun _ => 0) (by omega) (by omega) hS hA ⟨fun a ha => absurd ha (by omega), fun a b _ hb => absurd hb (by omega), fun i hi => absurd hi (by omega)⟩
end OR

/-! ===== the document's words, over the flat sea D of the reference (its indices) ===== -/
def str (D : Nat → Int) (q t : Nat) : Int :=
  if (t : Int) < D (52 + 6 * q + 1) ∨ D (52 + 6 * q + 1) + D (52 + 6 * q + 4) ≤ (t : Int) then 0
  else imin (D (52 + 6 * q + 3)) (D (52 + 6 * q + 2) * ((t : Int) - D (52 + 6 * q + 1) + 1))
def sheltered (D : Nat → Int) (j q : Nat) : Prop := (D (0 + 4 * j + 3) / 2 ^ (D (52 + 6 * q + 5)).toNat) % 2 = 0
def opn (D : Nat → Int) (j q t : Nat) : Bool := decide (str D q t < D (0 + 4 * j + 2)) || decide ((D (0 + 4 * j + 3)).toNat.testBit (D (52 + 6 * q + 5)).toNat = false)
def rsk (D : Nat → Int) (i q t : Nat) : Int := imin 999 (D (172 + (str D q t).toNat) * D (16 + 5 * i + 4))
def spd (D : Nat → Int) (v : Int) (q t : Nat) : Int := imax 1 (v - str D q t / D 182)
def alv (D : Nat → Int) (i q : Nat) : Nat → Int
  | 0 => 1000000
  | t + 1 => alv D i q t * (1000 - rsk D i q t) / 1000
def fsh (D : Nat → Int) (i q : Nat) : Nat → Int
  | 0 => 0
  | t + 1 => fsh D i q t + D (16 + 5 * i + 2) * alv D i q t
/-- the HOUR from which on a boat is at the MOUTH: m hours are left from t on, so much is made -/
def arrG (D : Nat → Int) (v off : Int) (q : Nat) : Nat → Nat → Int → Nat
  | 0, _, _ => 24
  | m + 1, t, made => if made + spd D v q t < off then arrG D v off q m (t + 1) (made + spd D v q t) else t + 1
def arr (D : Nat → Int) (v off : Int) (q u : Nat) : Nat := arrG D v off q (24 - u) u 0
/-- what a sea that is LAID keeps to -/
def SeaOk (D : Nat → Int) (nH nB nS : Nat) : Prop :=
  (D 183 = nH ∧ D 184 = nB ∧ D 185 = nS ∧ 1 ≤ nH ∧ nH ≤ 4 ∧ 1 ≤ nB ∧ nB ≤ 4 ∧ 1 ≤ nS ∧ nS ≤ 4) ∧
  (∀ j, j < 4 → 0 ≤ D (0 + 4 * j) ∧ D (0 + 4 * j) ≤ 99 ∧ 0 ≤ D (0 + 4 * j + 1) ∧ D (0 + 4 * j + 1) ≤ 9 ∧ 0 ≤ D (0 + 4 * j + 2) ∧ D (0 + 4 * j + 2) ≤ 10 ∧ 0 ≤ D (0 + 4 * j + 3) ∧ D (0 + 4 * j + 3) ≤ 15) ∧
  (∀ i, i < 4 → 0 ≤ D (16 + 5 * i) ∧ D (16 + 5 * i) ≤ 8 ∧ 0 ≤ D (16 + 5 * i + 1) ∧ D (16 + 5 * i + 1) ≤ 9 ∧ 0 ≤ D (16 + 5 * i + 2) ∧ D (16 + 5 * i + 2) ≤ 99 ∧ 0 ≤ D (16 + 5 * i + 3) ∧ D (16 + 5 * i + 3) ≤ 999 ∧ 0 ≤ D (16 + 5 * i + 4) ∧ D (16 + 5 * i + 4) ≤ 9) ∧
  (∀ i j, i < 4 → j < 4 → 1 ≤ D (36 + 4 * i + j) ∧ D (36 + 4 * i + j) ≤ 99) ∧
  (∀ q, q < 4 → 0 ≤ D (52 + 6 * q) ∧ D (52 + 6 * q) ≤ 10 ∧ 0 ≤ D (52 + 6 * q + 1) ∧ D (52 + 6 * q + 1) ≤ 23 ∧ 0 ≤ D (52 + 6 * q + 2) ∧ D (52 + 6 * q + 2) ≤ 9 ∧ 0 ≤ D (52 + 6 * q + 3) ∧ D (52 + 6 * q + 3) ≤ 9 ∧ 0 ≤ D (52 + 6 * q + 4) ∧ D (52 + 6 * q + 4) ≤ 24 ∧ 0 ≤ D (52 + 6 * q + 5) ∧ D (52 + 6 * q + 5) ≤ 3) ∧
  (∀ q t, q < 4 → t < 24 → 0 ≤ D (76 + 24 * q + t) ∧ D (76 + 24 * q + t) ≤ 9) ∧
  (∀ x, x < 10 → 0 ≤ D (172 + x) ∧ D (172 + x) ≤ 200) ∧
  (1 ≤ D 182 ∧ D 182 ≤ 9) ∧
  (itr (fun q a => a + D (52 + 6 * q)) nS 0 0 = 10) ∧
  (∀ j, j < nH → 1 ≤ D (0 + 4 * j) ∧ 1 ≤ D (0 + 4 * j + 1) ∧ 1 ≤ D (0 + 4 * j + 2)) ∧
  (∀ i, i < nB → 1 ≤ D (16 + 5 * i) ∧ 1 ≤ D (16 + 5 * i + 1))
section SP
variable {D : Nat → Int} {nH nB nS : Nat}
theorem str_rg (h : SeaOk D nH nB nS) {q t : Nat} (hq : q < 4) : 0 ≤ str D q t ∧ str D q t ≤ 9 := by
  have h1 := h.2.2.2.2.1 q hq
  unfold str imin
  split
  · omega
  · split
    · rename_i h2 h3
      refine ⟨?_, by omega⟩
      exact Int.mul_nonneg (by omega) (by omega)
    · omega
theorem rsk_rg (h : SeaOk D nH nB nS) {i q t : Nat} (hi : i < 4) (hq : q < 4) : 0 ≤ rsk D i q t ∧ rsk D i q t ≤ 999 := by
  have h1 := str_rg h (t := t) hq
  have h2 := h.2.2.2.2.2.2.1 (str D q t).toNat (by omega)
  have h3 := h.2.2.1 i hi
  unfold rsk imin
  split
  · refine ⟨?_, by omega⟩
    exact Int.mul_nonneg (by omega) (by omega)
  · omega
theorem rsk_pr (h : SeaOk D nH nB nS) {i q t : Nat} (hi : i < 4) (hq : q < 4) : 0 ≤ D (172 + (str D q t).toNat) * D (16 + 5 * i + 4) ∧ D (172 + (str D q t).toNat) * D (16 + 5 * i + 4) ≤ 1800 := by
  have h1 := str_rg h (t := t) hq
  have h2 := h.2.2.2.2.2.2.1 (str D q t).toNat (by omega)
  have h3 := h.2.2.1 i hi
  refine ⟨Int.mul_nonneg (by omega) (by omega), ?_⟩
  have := Int.mul_le_mul h2.2 (show D (16 + 5 * i + 4) ≤ 9 by omega) (by omega) (by omega)
  omega
theorem spd_rg (h : SeaOk D nH nB nS) {v : Int} (hv : v ≤ 9) {q t : Nat} (hq : q < 4) : 1 ≤ spd D v q t ∧ spd D v q t ≤ 9 := by
  have h1 := str_rg h (t := t) hq
  have h2 := h.2.2.2.2.2.2.2.1
  have h3 : 0 ≤ str D q t / D 182 := Int.ediv_nonneg h1.1 (by omega)
  unfold spd imax
  split <;> omega
theorem alv_rg (h : SeaOk D nH nB nS) {i q : Nat} (hi : i < 4) (hq : q < 4) : ∀ t : Nat, 0 ≤ alv D i q t ∧ alv D i q t ≤ 1000000
  | 0 => by unfold alv; omega
  | t + 1 => by
    have ih := alv_rg h hi hq t
    have h1 := rsk_rg h (t := t) hi hq
    unfold alv
    have h2 : 0 ≤ alv D i q t * (1000 - rsk D i q t) := Int.mul_nonneg ih.1 (by omega)
    have h3 : alv D i q t * (1000 - rsk D i q t) ≤ 1000000 * 1000 := Int.mul_le_mul ih.2 (by omega) (by omega) (by omega)
    omega
theorem alv_pr (h : SeaOk D nH nB nS) {i q : Nat} (hi : i < 4) (hq : q < 4) (t : Nat) : 0 ≤ alv D i q t * (1000 - rsk D i q t) ∧ alv D i q t * (1000 - rsk D i q t) ≤ 1000000000 := by
  have ih := alv_rg h hi hq t
  have h1 := rsk_rg h (t := t) hi hq
  have h2 : 0 ≤ alv D i q t * (1000 - rsk D i q t) := Int.mul_nonneg ih.1 (by omega)
  have h3 : alv D i q t * (1000 - rsk D i q t) ≤ 1000000 * 1000 := Int.mul_le_mul ih.2 (by omega) (by omega) (by omega)
  omega
theorem fsh_pr (h : SeaOk D nH nB nS) {i q : Nat} (hi : i < 4) (hq : q < 4) (t : Nat) : 0 ≤ D (16 + 5 * i + 2) * alv D i q t ∧ D (16 + 5 * i + 2) * alv D i q t ≤ 99000000 := by
  have ih := alv_rg h hi hq t
  have h3 := h.2.2.1 i hi
  have h2 : 0 ≤ D (16 + 5 * i + 2) * alv D i q t := Int.mul_nonneg (by omega) ih.1
  have h4 : D (16 + 5 * i + 2) * alv D i q t ≤ 99 * 1000000 := Int.mul_le_mul (by omega) ih.2 (by omega) (by omega)
  omega
theorem fsh_rg (h : SeaOk D nH nB nS) {i q : Nat} (hi : i < 4) (hq : q < 4) : ∀ t : Nat, 0 ≤ fsh D i q t ∧ fsh D i q t ≤ 99000000 * t
  | 0 => by unfold fsh; omega
  | t + 1 => by
    have ih := fsh_rg h hi hq t
    have h1 := fsh_pr h hi hq t
    unfold fsh
    omega
theorem arrG_le (D : Nat → Int) (v off : Int) (q : Nat) : ∀ (m t : Nat) (made : Int), t + m = 24 → arrG D v off q m t made ≤ 24
  | 0, _, _, _ => by unfold arrG; omega
  | m + 1, t, made, h => by
    unfold arrG
    split
    · exact arrG_le D v off q m (t + 1) _ (by omega)
    · omega
theorem arr_le (D : Nat → Int) (v off : Int) (q : Nat) {u : Nat} (h : u ≤ 24) : arr D v off q u ≤ 24 := arrG_le D v off q _ _ _ (by omega)
end SP

/-! ===== abstract numbers: an int and a long as an Int within its range ===== -/
def w32 (x : Int) : Int := (x + 2147483648) % 4294967296 - 2147483648
def w64 (x : Int) : Int := (x + 9223372036854775808) % 18446744073709551616 - 9223372036854775808
def w8 (x : Int) : Int := (x + 128) % 256 - 128
def r32 (x : Int) : Prop := -2147483648 ≤ x ∧ x < 2147483648
def r64 (x : Int) : Prop := -9223372036854775808 ≤ x ∧ x < 9223372036854775808
theorem r32_w (x : Int) : r32 (w32 x) := by unfold r32 w32; omega
theorem r64_w (x : Int) : r64 (w64 x) := by unfold r64 w64; omega
theorem w32_id {x : Int} (h1 : -2147483648 ≤ x) (h2 : x < 2147483648) : w32 x = x := by unfold w32; omega
theorem w64_id {x : Int} (h1 : -9223372036854775808 ≤ x) (h2 : x < 9223372036854775808) : w64 x = x := by unfold w64; omega
theorem w32_r {x : Int} (h : r32 x) : w32 x = x := w32_id h.1 h.2
theorem w64_r {x : Int} (h : r64 x) : w64 x = x := w64_id h.1 h.2
theorem r64_of {x : Int} (h : r32 x) : r64 x := by unfold r32 r64 at *; omega
theorem bm32 (x : Int) : x.bmod (2 ^ 32) = w32 x := by
  rw [show (2 ^ 32 : Nat) = 4294967296 by decide]
  unfold w32 Int.bmod; dsimp only; split <;> omega
theorem bm64 (x : Int) : x.bmod (2 ^ 64) = w64 x := by
  rw [show (2 ^ 64 : Nat) = 18446744073709551616 by decide]
  unfold w64 Int.bmod; dsimp only; split <;> omega
theorem bm8 (x : Int) : x.bmod (2 ^ 8) = w8 x := by
  rw [show (2 ^ 8 : Nat) = 256 by decide]
  unfold w8 Int.bmod; dsimp only; split <;> omega
theorem oi_t (x : Int) : (Int32.ofInt x).toInt = w32 x := by rw [Int32.toInt_ofInt]; exact bm32 x
theorem ol_t (x : Int) : (Int64.ofInt x).toInt = w64 x := by rw [Int64.toInt_ofInt]; exact bm64 x
theorem oi_tr {x : Int} (h : r32 x) : (Int32.ofInt x).toInt = x := (oi_t x).trans (w32_r h)
theorem ol_tr {x : Int} (h : r64 x) : (Int64.ofInt x).toInt = x := (ol_t x).trans (w64_r h)
theorem oi_rt (x : Int32) : r32 x.toInt := by
  have h := oi_t x.toInt
  rw [Int32.ofInt_toInt] at h
  rw [h]; exact r32_w _
theorem ol_rt (x : Int64) : r64 x.toInt := by
  have h := ol_t x.toInt
  rw [Int64.ofInt_toInt] at h
  rw [h]; exact r64_w _
theorem oi_w (x : Int) : Int32.ofInt (w32 x) = Int32.ofInt x := by
  rw [← Int32.toInt_inj, oi_tr (r32_w x), oi_t]
theorem ol_w (x : Int) : Int64.ofInt (w64 x) = Int64.ofInt x := by
  rw [← Int64.toInt_inj, ol_tr (r64_w x), ol_t]
theorem oi_of (x : Int32) {y : Int} (h : x.toInt = y) : x = Int32.ofInt y := by rw [← h, Int32.ofInt_toInt]
theorem ol_of (x : Int64) {y : Int} (h : x.toInt = y) : x = Int64.ofInt y := by rw [← h, Int64.ofInt_toInt]
theorem oi_add (x y : Int) : Int32.ofInt x + Int32.ofInt y = Int32.ofInt (w32 (x + y)) := by rw [oi_w, Int32.ofInt_add]
theorem oi_sub (x y : Int) : Int32.ofInt x - Int32.ofInt y = Int32.ofInt (w32 (x - y)) := by rw [oi_w, Int32.ofInt_sub]
theorem oi_mul (x y : Int) : Int32.ofInt x * Int32.ofInt y = Int32.ofInt (w32 (x * y)) := by rw [oi_w, Int32.ofInt_mul]
theorem ol_add (x y : Int) : Int64.ofInt x + Int64.ofInt y = Int64.ofInt (w64 (x + y)) := by rw [ol_w, Int64.ofInt_add]
theorem ol_sub (x y : Int) : Int64.ofInt x - Int64.ofInt y = Int64.ofInt (w64 (x - y)) := by rw [ol_w, Int64.ofInt_sub]
theorem ol_mul (x y : Int) : Int64.ofInt x * Int64.ofInt y = Int64.ofInt (w64 (x * y)) := by rw [ol_w, Int64.ofInt_mul]
theorem oi_lt {x y : Int} (hx : r32 x) (hy : r32 y) : Int32.ofInt x < Int32.ofInt y ↔ x < y := by rw [Int32.lt_iff_toInt_lt, oi_tr hx, oi_tr hy]
theorem oi_le {x y : Int} (hx : r32 x) (hy : r32 y) : Int32.ofInt x ≤ Int32.ofInt y ↔ x ≤ y := by rw [Int32.le_iff_toInt_le, oi_tr hx, oi_tr hy]
theorem oi_eq {x y : Int} (hx : r32 x) (hy : r32 y) : Int32.ofInt x = Int32.ofInt y ↔ x = y := by rw [← Int32.toInt_inj, oi_tr hx, oi_tr hy]
theorem ol_lt {x y : Int} (hx : r64 x) (hy : r64 y) : Int64.ofInt x < Int64.ofInt y ↔ x < y := by rw [Int64.lt_iff_toInt_lt, ol_tr hx, ol_tr hy]
theorem ol_le {x y : Int} (hx : r64 x) (hy : r64 y) : Int64.ofInt x ≤ Int64.ofInt y ↔ x ≤ y := by rw [Int64.le_iff_toInt_le, ol_tr hx, ol_tr hy]
theorem ol_eq {x y : Int} (hx : r64 x) (hy : r64 y) : Int64.ofInt x = Int64.ofInt y ↔ x = y := by rw [← Int64.toInt_inj, ol_tr hx, ol_tr hy]
theorem oi_0 : (0 : Int32) = Int32.ofInt 0 := by decide
theorem oi_div {x y : Int} (hx : r32 x) (hy : r32 y) : Int32.ofInt x / Int32.ofInt y = Int32.ofInt (w32 (x.tdiv y)) := oi_of _ (by rw [Int32.toInt_div, oi_tr hx, oi_tr hy]; exact bm32 _)
theorem ol_div {x y : Int} (hx : r64 x) (hy : r64 y) : Int64.ofInt x / Int64.ofInt y = Int64.ofInt (w64 (x.tdiv y)) := ol_of _ (by rw [Int64.toInt_div, ol_tr hx, ol_tr hy]; exact bm64 _)
theorem ol_rem {x y : Int} (hx : r64 x) (hy : r64 y) : Int64.ofInt x - Int64.ofInt x / Int64.ofInt y * Int64.ofInt y = Int64.ofInt (w64 (x - w64 (w64 (x.tdiv y) * y))) := by
  rw [ol_div hx hy, ol_mul, ol_sub]
def andI (x y : Int) : Int := (Int32.ofInt x &&& Int32.ofInt y).toInt
def orI (x y : Int) : Int := (Int32.ofInt x ||| Int32.ofInt y).toInt
def shlI (x y : Int) : Int := (Int32.ofInt x <<< (Int32.ofInt y &&& 31)).toInt
def shrI (x y : Int) : Int := (Int32.ofInt x >>> (Int32.ofInt y &&& 31)).toInt
def andL (x y : Int) : Int := (Int64.ofInt x &&& Int64.ofInt y).toInt
def orL (x y : Int) : Int := (Int64.ofInt x ||| Int64.ofInt y).toInt
def shlL (x y : Int) : Int := (Int64.ofInt x <<< ((Int32.ofInt y).toInt64 &&& 63)).toInt
def shrL (x y : Int) : Int := (Int64.ofInt x >>> ((Int32.ofInt y).toInt64 &&& 63)).toInt
def ushrL (x y : Int) : Int := ((Int64.ofInt x).toUInt64 >>> ((Int32.ofInt y).toInt64.toUInt64 &&& Int64.toUInt64 63)).toInt64.toInt
theorem oi_i2l {x : Int} (hx : r32 x) : (Int32.ofInt x).toInt64 = Int64.ofInt x := ol_of _ (by rw [Int32.toInt_toInt64, oi_tr hx])
theorem ol_l2i (x : Int) : (Int64.ofInt x).toInt32 = Int32.ofInt (w32 x) := oi_of _ (by rw [Int64.toInt_toInt32, bm32, ol_t]; unfold w32 w64; omega)
theorem oi_i2b (x : Int) : (Int32.ofInt x).toInt8.toInt32 = Int32.ofInt (w8 x) := oi_of _ (by rw [Int8.toInt_toInt32, Int32.toInt_toInt8, bm8, oi_t]; unfold w8 w32; omega)
theorem oi_clamp {x : Int} (hx : r32 x) (h0 : 0 ≤ x) : (Int32.ofInt x).toNatClampNeg = x.toNat := by
  show (Int32.ofInt x).toInt.toNat = _
  rw [oi_tr hx]
theorem oi_in {x : Int} {n : Nat} (hx : r32 x) (h0 : 0 ≤ x) (h1 : x < n) : vp_in (Int32.ofInt x) n := by
  rw [vp_in_iff, oi_tr hx]; exact ⟨h0, h1⟩
/-! ===== memory ===== -/
abbrev AV : Type := Int ⊕ (Int ⊕ Nat)
abbrev vI (x : Int) : AV := Sum.inl x
abbrev vL (x : Int) : AV := Sum.inr (Sum.inl x)
abbrev vR (k : Nat) : AV := Sum.inr (Sum.inr k)
abbrev Mem : Type := Nat → Nat → Int
def fu (f : Nat → Int) (j : Nat) (x : Int) : Nat → Int := fun b => if b = j then x else f b
def mu (s : Mem) (k j : Nat) (x : Int) : Mem := fun a => if a = k then fu (s k) j x else s a
theorem fu_same (f : Nat → Int) (j : Nat) (x : Int) : fu f j x j = x := if_pos rfl
theorem fu_ne (f : Nat → Int) {j b : Nat} (x : Int) (h : b ≠ j) : fu f j x b = f b := if_neg h
theorem mu_same (s : Mem) (k j : Nat) (x : Int) : mu s k j x k = fu (s k) j x := if_pos rfl
theorem mu_ne (s : Mem) {k a : Nat} (j : Nat) (x : Int) (h : a ≠ k) : mu s k j x a = s a := if_neg h

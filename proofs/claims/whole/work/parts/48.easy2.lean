/-! ===== bytes of a long ===== -/
theorem nat64 (y : Int64) : ((y.toBitVec.toNat : Nat) : Int) = y.toInt % 18446744073709551616 := by
  have h : y.toInt = y.toBitVec.toInt := rfl
  rw [h, BitVec.toInt_eq_toNat_bmod, bm64]
  have := y.toBitVec.isLt
  unfold w64
  omega
theorem shr64 (x : Int) (hx : r64 x) (n : Nat) (m : Int64) (hm : m.toBitVec.smod 64 = BitVec.ofNat 64 n) (hn : n < 64) : (Int64.ofInt x >>> m).toInt = x / 2 ^ n := by
  have e : (Int64.ofInt x >>> m).toBitVec = (Int64.ofInt x).toBitVec.sshiftRight n := by
    rw [Int64.toBitVec_shiftRight]
    show (Int64.ofInt x).toBitVec.sshiftRight (m.toBitVec.smod 64).toNat = _
    rw [hm, BitVec.toNat_ofNat, Nat.mod_eq_of_lt (by omega)]
  show (Int64.ofInt x >>> m).toBitVec.toInt = _
  rw [e, BitVec.toInt_sshiftRight, Int.shiftRight_eq_div_pow]
  have h2 : (Int64.ofInt x).toBitVec.toInt = x := ol_tr hx
  rw [h2]
  norm_cast
theorem ushr64 (x : Int) (n : Nat) (m : UInt64) (hm : m.toBitVec % 64 = BitVec.ofNat 64 n) (hn : n < 64) : (((Int64.ofInt x).toUInt64 >>> m).toInt64.toBitVec.toNat) = (Int64.ofInt x).toBitVec.toNat / 2 ^ n := by
  show ((Int64.ofInt x).toUInt64 >>> m).toBitVec.toNat = _
  rw [UInt64.toBitVec_shiftRight]
  show ((Int64.ofInt x).toBitVec >>> (m.toBitVec % 64)).toNat = _
  rw [hm, BitVec.ushiftRight_eq', BitVec.toNat_ushiftRight, Nat.shiftRight_eq_div_pow, BitVec.toNat_ofNat, Nat.mod_eq_of_lt (by omega)]
theorem and255 (y : Int64) : (y &&& Int64.ofInt 255).toInt = y.toInt % 256 := by
  have h1 := nat64 (y &&& Int64.ofInt 255)
  have h2 := nat64 y
  have e : (y &&& Int64.ofInt 255).toBitVec.toNat = y.toBitVec.toNat % 256 := by
    rw [Int64.toBitVec_and, BitVec.toNat_and]
    exact Nat.and_two_pow_sub_one_eq_mod (n := 8) y.toBitVec.toNat
  have h3 := ol_rt (y &&& Int64.ofInt 255)
  unfold r64 at h3
  omega
theorem byte_eq {v : Int} (hv : r64 v) : ∀ k : Nat, k < 8 → w8 (w32 (ushrL v (w32 (8 * (k : Int))))) = w8 (w32 (andL (shrL v (w32 (8 * (k : Int)))) 255)) ∧ 0 ≤ w32 (andL (shrL v (w32 (8 * (k : Int)))) 255) ∧ w32 (andL (shrL v (w32 (8 * (k : Int)))) 255) ≤ 255 := by
  intro k hk
  have key : ∀ (n : Nat) (a : Int), n < 64 → (n = 0 ∨ n = 8 ∨ n = 16 ∨ n = 24 ∨ n = 32 ∨ n = 40 ∨ n = 48 ∨ n = 56) → ((Int32.ofInt a).toInt64 &&& 63).toBitVec.smod 64 = BitVec.ofNat 64 n → ((Int32.ofInt a).toInt64.toUInt64 &&& Int64.toUInt64 63).toBitVec % 64 = BitVec.ofNat 64 n → w8 (w32 (ushrL v a)) = w8 (w32 (andL (shrL v a) 255)) ∧ 0 ≤ w32 (andL (shrL v a) 255) ∧ w32 (andL (shrL v a) 255) ≤ 255 := by
    intro n a hn hn8 h1 h2
    have e1 : shrL v a = v / 2 ^ n := shr64 v hv n _ h1 hn
    have e2 : andL (shrL v a) 255 = (v / 2 ^ n) % 256 := by
      unfold andL
      rw [and255, e1, ol_t]
      unfold w64
      omega
    have e3 := nat64 (((Int64.ofInt v).toUInt64 >>> ((Int32.ofInt a).toInt64.toUInt64 &&& Int64.toUInt64 63)).toInt64)
    rw [ushr64 v n _ h2 hn] at e3
    have e4 := nat64 (Int64.ofInt v)
    rw [ol_tr hv] at e4
    have e5 : ushrL v a % 18446744073709551616 = ((Int64.ofInt v).toBitVec.toNat : Int) / 2 ^ n := by
      show (((Int64.ofInt v).toUInt64 >>> ((Int32.ofInt a).toInt64.toUInt64 &&& Int64.toUInt64 63)).toInt64).toInt % _ = _
      rw [← e3]
      norm_cast
    rw [e4] at e5
    rw [e2]
    unfold r64 at hv
    unfold w8 w32
    rcases hn8 with rfl | rfl | rfl | rfl | rfl | rfl | rfl | rfl <;> simp only [Int.reducePow] at e5 ⊢ <;> omega
  rcases (show k = 0 ∨ k = 1 ∨ k = 2 ∨ k = 3 ∨ k = 4 ∨ k = 5 ∨ k = 6 ∨ k = 7 by omega) with rfl | rfl | rfl | rfl | rfl | rfl | rfl | rfl
  · exact key 0 _ (by decide) (by decide) (by decide +kernel) (by decide +kernel)
  · exact key 8 _ (by decide) (by decide) (by decide +kernel) (by decide +kernel)
  · exact key 16 _ (by decide) (by decide) (by decide +kernel) (by decide +kernel)
  · exact key 24 _ (by decide) (by decide) (by decide +kernel) (by decide +kernel)
  · exact key 32 _ (by decide) (by decide) (by decide +kernel) (by decide +kernel)
  · exact key 40 _ (by decide) (by decide) (by decide +kernel) (by decide +kernel)
  · exact key 48 _ (by decide) (by decide) (by decide +kernel) (by decide +kernel)
  · exact key 56 _ (by decide) (by decide) (by decide +kernel) (by decide +kernel)

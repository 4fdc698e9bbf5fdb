/-! ===== pure tools ===== -/
theorem b2_ok {α β : Type} (r : α) (s : Mem) (g : α → Mem → Option β) : b2 (some (r, s)) g = g r s := by
  have h : b2 (some (r, s)) g = g r s := rfl
  exact h.trans (Eq.refl _)
theorem bo_ok {α β : Type} (a : α) (g : α → Option β) : (some a).bind g = g a := by
  have h : (some a).bind g = g a := rfl
  exact h.trans (Eq.refl _)
theorem lt_ok {α β : Type} (a : α) (g : α → Option β) : lt' a g = g a := by
  have h : lt' a g = g a := rfl
  exact h.trans (Eq.refl _)
theorem ck_ok {β : Type} {c : Prop} [Decidable c] (h : c) (g : Option β) : ck c g = g := if_pos h
/-- step j for j = i, i + 1, .. (m times) -/
def itr {α : Type} (f : Nat → α → α) : Nat → Nat → α → α
  | 0, _, a => a
  | m + 1, i, a => itr f m (i + 1) (f i a)
theorem itr_succ {α : Type} (f : Nat → α → α) (m i : Nat) (a : α) : itr f (m + 1) i a = itr f m (i + 1) (f i a) := rfl
theorem itr_last {α : Type} (f : Nat → α → α) : ∀ (m i : Nat) (a : α), itr f (m + 1) i a = f (i + m) (itr f m i a)
  | 0, _, _ => rfl
  | m + 1, i, a => by
    rw [itr_succ, itr_last f m (i + 1) (f i a), itr_succ]
    congr 1; omega
theorem itr_congr {α : Type} {f g : Nat → α → α} : ∀ {m i : Nat} {a : α}, (∀ j b, i ≤ j → j < i + m → f j b = g j b) → itr f m i a = itr g m i a
  | 0, _, _, _ => rfl
  | m + 1, i, a, h => by
    rw [itr_succ, itr_succ, h i a (Nat.le_refl _) (by omega)]
    exact itr_congr (fun j b h1 h2 => h j b (by omega) (by omega))
/-- what holds at first and is kept by each step holds behind them -/
theorem itr_inv {α : Type} {f : Nat → α → α} (I : Nat → α → Prop) : ∀ {m i : Nat} {a : α}, I i a → (∀ j b, i ≤ j → j < i + m → I j b → I (j + 1) (f j b)) → I (i + m) (itr f m i a)
  | 0, _, _, h, _ => h
  | m + 1, i, a, h, hs => by
    rw [itr_succ, show i + (m + 1) = i + 1 + m by omega]
    exact itr_inv I (hs i a (Nat.le_refl _) (by omega) h) (fun j b h1 h2 => hs j b (by omega) (by omega))
/-- a loop that counts up to hi: L (fuel) (counter) (state) -/
theorem loop_up {α β : Type} (L : Nat → Int → α → Option β) (fin : α → Option β) (step : Nat → α → α) (I : Nat → α → Prop) (hi : Nat)
    (hx : ∀ n a, I hi a → L (n + 1) hi a = fin a)
    (hs : ∀ n j a, j < hi → I j a → L (n + 1) j a = L n ((j + 1 : Nat) : Int) (step j a) ∧ I (j + 1) (step j a)) :
    ∀ (m n j : Nat) (a : α), I j a → j + m = hi → m < n → L n j a = fin (itr step m j a) ∧ I hi (itr step m j a)
  | 0, n + 1, j, a, h, e, _ => by
    have e : j = hi := by omega
    subst e
    exact ⟨hx n a h, h⟩
  | m + 1, n + 1, j, a, h, e, hn => by
    obtain ⟨h1, h2⟩ := hs n j a (by omega) h
    rw [h1, itr_succ]
    exact loop_up L fin step I hi hx hs m n (j + 1) (step j a) h2 (by omega) (by omega)
  | _, 0, _, _, _, _, hn => absurd hn (by omega)
theorem w32_s {j : Nat} (h : j < 1000000) : w32 ((j : Int) + 1) = ((j + 1 : Nat) : Int) := by rw [w32_id (by omega) (by omega)]; omega
theorem w32_n {j : Nat} (h : j < 1000000) : w32 (j : Int) = (j : Int) := w32_id (by omega) (by omega)
theorem nat_of {x : Int} (h : 0 ≤ x) : ∃ n : Nat, x = n := Int.eq_ofNat_of_zero_le h
/-! bits -/
theorem oi_nat (n : Nat) : Int32.ofInt (n : Int) = nI n := rfl
theorem nI_t {n : Nat} (h : n < 2147483648) : (nI n).toInt = (n : Int) := nI_toInt (by omega)
theorem sh31 : ∀ n, n < 32 → ((nI n &&& 31).toBitVec.smod 32).toNat = n := by decide +kernel
theorem shr_n {a k : Nat} (ha : a < 2147483648) (hk : k < 32) : shrI (a : Int) (k : Int) = ((a / 2 ^ k : Nat) : Int) := by
  unfold shrI
  rw [oi_nat, oi_nat, pk_shrN (by omega) _ k (sh31 k hk), nI_t (Nat.lt_of_le_of_lt (Nat.div_le_self _ _) ha)]
theorem shl_n {a k : Nat} (hk : k < 32) (h : a * 2 ^ k < 2147483648) : shlI (a : Int) (k : Int) = ((a * 2 ^ k : Nat) : Int) := by
  unfold shlI
  rw [oi_nat, oi_nat, pk_shlN _ k (sh31 k hk) (by omega), nI_t h]
theorem and_n {a b : Nat} (ha : a < 2147483648) : andI (a : Int) (b : Int) = ((a &&& b : Nat) : Int) := by
  unfold andI
  have h : nI a &&& nI b = nI (a &&& b) := by
    apply Int32.toBitVec_inj.mp
    rw [Int32.toBitVec_and]
    show BitVec.ofNat 32 a &&& BitVec.ofNat 32 b = BitVec.ofNat 32 (a &&& b)
    exact (BitVec.ofNat_and).symm
  rw [oi_nat, oi_nat, h, nI_t (Nat.lt_of_le_of_lt Nat.and_le_left ha)]
theorem or_n {a b : Nat} (ha : a < 2147483648) (hb : b < 2147483648) : orI (a : Int) (b : Int) = ((a ||| b : Nat) : Int) := by
  unfold orI
  have h : nI a ||| nI b = nI (a ||| b) := by
    apply Int32.toBitVec_inj.mp
    rw [Int32.toBitVec_or]
    show BitVec.ofNat 32 a ||| BitVec.ofNat 32 b = BitVec.ofNat 32 (a ||| b)
    exact (BitVec.ofNat_or).symm
  have h2 : a ||| b < 2 ^ 31 := Nat.or_lt_two_pow (by omega) (by omega)
  rw [oi_nat, oi_nat, h, nI_t (by omega)]
/-- bit k of a set -/
theorem bit_n {a k : Nat} (ha : a < 2147483648) (hk : k < 32) : andI (shrI (a : Int) (k : Int)) 1 = if a.testBit k then 1 else 0 := by
  rw [shr_n ha hk, show (1 : Int) = ((1 : Nat) : Int) from rfl, and_n (Nat.lt_of_le_of_lt (Nat.div_le_self _ _) ha), Nat.and_one_is_mod]
  rw [Nat.testBit, Nat.shiftRight_eq_div_pow, Nat.and_comm, Nat.and_one_is_mod]
  rcases Nat.mod_two_eq_zero_or_one (a / 2 ^ k) with h | h <;> rw [h] <;> rfl
theorem bit_0 {a k : Nat} (ha : a < 2147483648) (hk : k < 32) : (andI (shrI (a : Int) (k : Int)) 1 = 0) ↔ a.testBit k = false := by
  rw [bit_n ha hk]; cases a.testBit k <;> simp
theorem bit_1 {a k : Nat} (ha : a < 2147483648) (hk : k < 32) : (andI (shrI (a : Int) (k : Int)) 1 = 1) ↔ a.testBit k = true := by
  rw [bit_n ha hk]; cases a.testBit k <;> simp

/-! ===== where a SORT is sent that never runs makes no difference ===== -/
section CG
variable {nb G G' A : Nat → Nat} {key : Nat → Int} {nB : Nat} {room mouth : Nat → Nat} {op : Nat → Nat → Bool}
theorem el_gc (h : ∀ i, G i ≠ G' i → 24 ≤ A i) {j t : Nat} (ht : t < 24) {S : Nat → Nat × (Nat → Nat)} : el nb G A j t S = el nb G' A j t S := by
  funext i
  by_cases c : G i = G' i
  · unfold el; rw [c]
  · have h1 := h i c
    have h2 : decide (A i ≤ t) = false := decide_eq_false (by omega)
    unfold el
    rw [h2]; simp
theorem inn_gc (h : ∀ i, G i ≠ G' i → 24 ≤ A i) {j : Nat} {S : Nat → Nat × (Nat → Nat)} (hS : ∀ i, 24 ≤ A i → (S i).1 = 0) : ∀ m, inn G j S m = inn G' j S m
  | 0 => rfl
  | m + 1 => by
    rw [inn, inn, inn_gc h hS m]
    by_cases c : G m = G' m
    · rw [c]
    · rw [hS m (h m c)]; simp
theorem pks_gc (h : ∀ i, G i ≠ G' i → 24 ≤ A i) {j t : Nat} (ht : t < 24) : ∀ (m : Nat) {S : Nat → Nat × (Nat → Nat)}, Sok nb A (t + 1) S → pks nb G A key nB room j t m S = pks nb G' A key nB room j t m S
  | 0, _, _ => rfl
  | m + 1, S, hS => by
    rw [pks, pks, el_gc h ht, inn_gc h (hS.c0 (by omega))]
    by_cases c : room j ≤ inn G' j S nB
    · rw [if_pos c, if_pos c]
    · rw [if_neg c, if_neg c]
      cases hp : pk (el nb G' A j t S) key nB with
      | none => rfl
      | some i =>
        dsimp only
        have h1 := el_iff.mp (pk_some hp).2.1
        exact pks_gc h ht m (hS.p1 h1.2.2 h1.2.1)
theorem Rr_gc (h : ∀ i, G i ≠ G' i → 24 ≤ A i) {j : Nat} : ∀ t, t ≤ 24 → Rr nb G A key nB room mouth op j t = Rr nb G' A key nB room mouth op j t
  | 0, _ => rfl
  | t + 1, ht => by
    rw [Rr, Rr, ← Rr_gc h t (by omega)]
    unfold hr
    by_cases c : op j t = true
    · rw [if_pos c, if_pos c]
      exact pks_gc h (by omega) _ (Sok.rr j t).up
    · rw [if_neg c, if_neg c]
end CG
section CH
variable {D : Nat → Int} {nH nB nS q : Nat} {U G G' : Nat → Nat} {V : Nat → Int} {w : Bool}
theorem FF_no {i : Nat} (h : 24 ≤ aF D q U G V i) : FF D nB q U G V w i = (0, fun _ => 24) := by
  obtain ⟨h1, h2, h3⟩ := FF_ok (D := D) (nB := nB) (q := q) (U := U) (G := G) (V := V) (w := w) i
  have h0 : (FF D nB q U G V w i).1 = 0 := by
    rcases Nat.eq_zero_or_pos (FF D nB q U G V w i).1 with z | z
    · exact z
    · have := h2 0 z; omega
  exact Prod.ext h0 (funext fun n => h3 n (by omega))
theorem FF_gc (hU : ∀ i, U i ≤ 24) (hG : ∀ i, U i < 24 → G i = G' i) : FF D nB q U G V w = FF D nB q U G' V w := by
  have eA : aF D q U G V = aF D q U G' V := by
    funext i
    by_cases c : U i < 24
    · unfold aF; rw [hG i c]
    · have := hU i
      unfold aF
      rw [show U i = 24 by omega, arr_24, arr_24]
  have ek : kF D q U G V w = kF D q U G' V w := by
    funext i; unfold kF; rw [eA]
  have hk : ∀ i, G i ≠ G' i → 24 ≤ aF D q U G V i := fun i hi => by
    have h1 := hU i
    have : ¬ U i < 24 := fun z => hi (hG i z)
    unfold aF
    rw [show U i = 24 by omega, arr_24]; exact Nat.le_refl _
  funext i
  by_cases c : G i = G' i
  · unfold FF RF
    rw [← eA, ← ek, ← c]
    exact congrFun (Rr_gc hk 24 (Nat.le_refl _)) i
  · rw [FF_no (hk i c), FF_no (by rw [← eA]; exact hk i c)]
theorem vM_gc (hU : ∀ i, U i ≤ 24) (hG : ∀ i, U i < 24 → G i = G' i) (msk : Nat) : vM D nB q U G V w msk = vM D nB q U G' V w msk := by
  have e : vS D nB q U G V w = vS D nB q U G' V w := by
    funext i; unfold vS; rw [FF_gc hU hG]
  unfold vM; rw [e]
end CH

/-! ===== the class lets boats in ===== -/
/-- what stands while boats are let in -/
def LtC (s : Mem) (nB gc : Nat) (G nb A o : Nat → Nat) : Prop := s 21 1 = nB ∧ (∀ i, i < nB → s gc i = ((G i : Nat) : Int) ∧ s 123 i = ((A i : Nat) : Int) ∧ s (28 + i) 0 = ((nb i : Nat) : Int)) ∧ (∀ k, k < nB → s 124 k = ((o k : Nat) : Int))
/-- who is in, and since when -/
def PsC (s : Mem) (nB : Nat) (nb : Nat → Nat) (S : Nat → Nat × (Nat → Nat)) : Prop := ∀ i, i < nB → s 125 i = (((S i).1 : Nat) : Int) ∧ ∀ n, n < nb i → s (127 + i) n = (((S i).2 n : Nat) : Int)
/-- what does not change then -/
def LtK (nB gc : Nat) (P : Nat) (nb o : Nat → Nat) (key : Nat → Int) : Prop := (nB ≤ 4 ∧ (∀ i, i < nB → nb i ≤ 8)) ∧ (ab_pt P 1 = gc ∧ lenI gc = 4 ∧ (gc < 122 ∨ 134 < gc)) ∧ (∀ k, k < nB → o k < nB) ∧ (∀ a b, a < b → b < nB → key (o a) < key (o b)) ∧ (∀ i, i < nB → ∃ a, a < nB ∧ o a = i)
/-- cells of who is in have changed alone -/
def FrP (s s' : Mem) : Prop := ∀ c, c ≠ 125 → (c < 127 ∨ 130 < c) → s' c = s c
section LI
variable {nB gc P : Nat} {G nb A o : Nat → Nat} {key : Nat → Int} {s s' : Mem} {S : Nat → Nat × (Nat → Nat)}
theorem FrP.rf : FrP s s := fun _ _ _ => rfl
theorem FrP.trans {s1 s2 s3 : Mem} (h : FrP s1 s2) (h2 : FrP s2 s3) : FrP s1 s3 := fun c a b => (h2 c a b).trans (h c a b)
theorem LtC.fr (hK : LtK nB gc P nb o key) (h : LtC s nB gc G nb A o) (hf : FrP s s') : LtC s' nB gc G nb A o := by
  have hk := hK.2.1.2.2
  have h4 := hK.1.1
  refine ⟨by rw [hf _ (by omega) (by omega)]; exact h.1, fun i hi => ?_, fun k hk => by rw [hf _ (by omega) (by omega)]; exact h.2.2 k hk⟩
  rw [hf gc (by omega) (by omega), hf _ (by omega) (by omega), hf _ (by omega) (by omega)]
  exact h.2.1 i hi
theorem pt_e {S : Nat → Nat × (Nat → Nat)} {i t k n : Nat} : (pt S i t k).2 n = if k = i then (if n = (S i).1 then t else (S i).2 n) else (S k).2 n := by
  unfold pt; split <;> rfl
theorem PsC.p1 (hK : LtK nB gc P nb o key) (h : PsC s nB nb S) {i t : Nat} (hi : i < nB) (hc : (S i).1 < nb i) : PsC (mu (mu s (127 + i) (S i).1 (t : Int)) 125 i (((S i).1 + 1 : Nat) : Int)) nB nb (pt S i t) ∧ FrP s (mu (mu s (127 + i) (S i).1 (t : Int)) 125 i (((S i).1 + 1 : Nat) : Int)) := by
  have h4 := hK.1.1
  refine ⟨fun k hk => ⟨?_, fun n hn => ?_⟩, fun c a b => ?_⟩
  · rw [mu_same, pt_c]
    by_cases c : k = i
    · subst c; rw [fu_same, if_pos rfl]
    · rw [fu_ne _ _ c, if_neg c, mu_ne _ _ _ (by omega)]; exact (h k hk).1
  · rw [mu_ne _ _ _ (by omega), pt_e]
    by_cases c : k = i
    · subst c
      rw [mu_same, if_pos rfl]
      by_cases c2 : n = (S k).1
      · subst c2; rw [fu_same, if_pos rfl]
      · rw [fu_ne _ _ c2, if_neg c2]; exact (h k hk).2 n hn
    · rw [mu_ne _ _ _ (by omega), if_neg c]; exact (h k hk).2 n hn
  · rw [mu_ne _ _ _ a, mu_ne _ _ _ (by omega)]
theorem c_letIn_70 (hK : LtK nB gc P nb o key) {j t k : Nat} (hk : k < nB) (hG : G (o k) = j) (hA : A (o k) ≤ t) (ht : t < 24) (K : Int → Int → Int → Nat → Int → Int → Mem → Option (Int × Mem)) : ∀ (m n g : Nat) (s : Mem) (S : Nat → Nat × (Nat → Nat)), g + m < 1000 → m < n → LtC s nB gc G nb A o → PsC s nB nb S → (∀ a, a < k → el nb G A j t S (o a) = false) → ∃ m' g' s' S', fX2_letInAt_70 K n j t ((g + m : Nat) : Int) P g k ((o k : Nat) : Int) ((nb (o k) : Nat) : Int) s = K j t ((g + m : Nat) : Int) P ((g' : Nat) : Int) ((k + 1 : Nat) : Int) s' ∧ FrP s s' ∧ PsC s' nB nb S' ∧ pq nb G A key nB j t m S = pq nb G A key nB j t m' S' ∧ g' + m' = g + m ∧ inn G j S' nB + g = inn G j S nB + g' ∧ ((∀ a, a < k + 1 → el nb G A j t S' (o a) = false) ∨ m' = 0)
  | m, 0, g, s, S, _, hn, _, _, _ => absurd hn (by omega)
  | m, n + 1, g, s, S, hgm, hn, hL, hS, hE => by
    have h4 := hK.1.1
    have h8 := hK.1.2 (o k) (hK.2.2.1 k hk)
    have hok := hK.2.2.1 k hk
    obtain ⟨e1, e2⟩ := hS (o k) hok
    rw [fX2_letInAt_70]
    simp (disch := omega) only [rd_passage_inside, bo_ok, lt_ok, Int.toNat_natCast, e1]
    by_cases c : nb (o k) ≤ (S (o k)).1
    · rw [if_pos (by omega), w32_s (by omega)]
      refine ⟨m, g, s, S, rfl, FrP.rf, hS, rfl, rfl, by omega, Or.inl (fun a ha => ?_)⟩
      by_cases d : a = k
      · subst d
        cases he : el nb G A j t S (o a) with
        | false => rfl
        | true => have := el_iff.mp he; omega
      · exact hE a (by omega)
    · rw [if_neg (by omega)]
      cases m with
      | zero =>
        rw [if_pos (by omega), w32_s (by omega)]
        exact ⟨0, g, s, S, rfl, FrP.rf, hS, rfl, rfl, by omega, Or.inr rfl⟩
      | succ m =>
        rw [if_neg (by omega)]
        have e3 : mu s (127 + o k) (S (o k)).1 (t : Int) 125 (o k) = (((S (o k)).1 : Nat) : Int) := by rw [mu_ne _ _ _ (by omega)]; exact e1
        simp (disch := omega) only [rdG_passage_entry, bo_ok, Int.toNat_natCast, wr_passage_entry, wr_passage_inside, e3, w32_s]
        obtain ⟨p1, p2⟩ := hS.p1 hK (t := t) hok (show (S (o k)).1 < nb (o k) by omega)
        have hpk : pk (el nb G A j t S) key nB = some (o k) := by
          refine pk_is hok (el_iff.mpr ⟨hG, hA, by omega⟩) (fun b hb he hne => ?_)
          obtain ⟨a, ha, rfl⟩ := hK.2.2.2.2 b hb
          by_cases d : a < k
          · rw [hE a d] at he; exact absurd he (by simp)
          · exact hK.2.2.2.1 k a (by
              rcases Nat.lt_or_ge k a with z | z
              · exact z
              · exact absurd (show o a = o k by rw [show a = k by omega]) hne) ha
        have hi := inn_pt (t := t) (S := S) hG nB
        rw [if_pos hok] at hi
        obtain ⟨m', g', s', S', q1, q2, q3, q4, q5, q6, q7⟩ := c_letIn_70 hK hk hG hA ht K m n (g + 1) _ (pt S (o k) t) (by omega) (by omega) (hL.fr hK p2) p1 (fun a ha => by
          have hne : o a ≠ o k := fun z => by
            have := hK.2.2.2.1 a k ha hk
            rw [z] at this; omega
          have := hE a ha
          unfold el at this ⊢
          rw [pt_c, if_neg hne]; exact this)
        refine ⟨m', g', s', S', ?_, p2.trans q2, q3, ?_, by omega, by omega, q7⟩
        · rw [show g + (m + 1) = g + 1 + m by omega]; exact q1
        · rw [pq, hpk]; exact q4
theorem c_letIn_6 (hK : LtK nB gc P nb o key) {j t : Nat} (ht : t < 24) : ∀ (r n k m g : Nat) (s : Mem) (S : Nat → Nat × (Nat → Nat)), k + r = nB → r < n → g + m < 500 → LtC s nB gc G nb A o → PsC s nB nb S → ((∀ a, a < k → el nb G A j t S (o a) = false) ∨ m = 0) → ∃ g' s', fX2_letInAt_6 n j t ((g + m : Nat) : Int) P g k s = some (((g' : Nat) : Int), s') ∧ FrP s s' ∧ PsC s' nB nb (pq nb G A key nB j t m S) ∧ inn G j (pq nb G A key nB j t m S) nB + g = inn G j S nB + g' ∧ g' ≤ g + m
  | r, 0, _, _, _, _, _, _, hn, _, _, _, _ => absurd hn (by omega)
  | 0, n + 1, k, m, g, s, S, e, _, hgm, hL, hS, hE => by
    have e : k = nB := by omega
    subst e
    have hp : pq nb G A key k j t m S = S := by
      rcases hE with hE | rfl
      · cases m with
        | zero => rfl
        | succ m =>
          rw [pq, pk_no (fun b hb => ?_)]
          obtain ⟨a, ha, rfl⟩ := hK.2.2.2.2 b hb
          exact hE a ha
      · rfl
    rw [hp]
    exact ⟨g, s, by rw [fX2_letInAt_6, hL.1, if_pos (by omega)], FrP.rf, hS, rfl, by omega⟩
  | r + 1, n + 1, k, m, g, s, S, e, hn, hgm, hL, hS, hE => by
    have h4 := hK.1.1
    have hok := hK.2.2.1 k (by omega)
    obtain ⟨e1, e2, e3⟩ := hL.2.1 (o k) hok
    have e0 := hL.2.2 k (by omega)
    rw [fX2_letInAt_6, hL.1, if_neg (by omega)]
    cases m with
    | zero =>
      rw [if_pos (by omega)]
      exact ⟨g, s, rfl, FrP.rf, hS, rfl, by omega⟩
    | succ m =>
      have hE : ∀ a, a < k → el nb G A j t S (o a) = false := by
        rcases hE with z | z
        · exact z
        · omega
      rw [if_neg (by omega), rd_passage_order (by omega) (by omega), bo_ok, Int.toNat_natCast, e0, hK.2.1.1, rdI_of hK.2.1.2.1 (by omega) (by omega), bo_ok, Int.toNat_natCast, e1]
      by_cases cG : G (o k) = j
      · rw [if_pos (by omega)]
        simp (disch := omega) only [rd_passage_arrival, rdG_sea_sorts, rd_sea_sorts, bo_ok, lt_ok, Int.toNat_natCast, Int.reduceToNat, e2, e3]
        by_cases cA : A (o k) ≤ t
        · rw [if_neg (by omega)]
          obtain ⟨m', g', s', S', q1, q2, q3, q4, q5, q6, q7⟩ := c_letIn_70 hK (k := k) (by omega) cG cA ht (fun p1 p2 p3 p4 p5 p6 s => fX2_letInAt_6 n p1 p2 p3 p4 p5 p6 s) (m + 1) 600 g s S (by omega) (by omega) hL hS hE
          obtain ⟨g2, s2, r1, r2, r3, r4, r5⟩ := c_letIn_6 hK ht r n (k + 1) m' g' s' S' (by omega) (by omega) (by omega) (hL.fr hK q2) q3 q7
          refine ⟨g2, s2, ?_, q2.trans r2, ?_, ?_, by omega⟩
          · rw [q1, ← q5]; exact r1
          · rw [q4]; exact r3
          · rw [q4]; omega
        · rw [if_pos (by omega), w32_s (by omega)]
          refine c_letIn_6 hK ht r n (k + 1) (m + 1) g s S (by omega) (by omega) hgm hL hS (Or.inl (fun a ha => ?_))
          by_cases d : a = k
          · subst d
            cases he : el nb G A j t S (o a) with
            | false => rfl
            | true => have := el_iff.mp he; omega
          · exact hE a (by omega)
      · rw [if_neg (by omega), lt_ok, w32_s (by omega)]
        refine c_letIn_6 hK ht r n (k + 1) (m + 1) g s S (by omega) (by omega) hgm hL hS (Or.inl (fun a ha => ?_))
        by_cases d : a = k
        · subst d
          cases he : el nb G A j t S (o a) with
          | false => rfl
          | true => have := el_iff.mp he; omega
        · exact hE a (by omega)
theorem c_letInAt (hK : LtK nB gc P nb o key) {j t m : Nat} (ht : t < 24) (hm : m < 500) (hL : LtC s nB gc G nb A o) (hS : PsC s nB nb S) : ∃ g' s', fX2_letInAt j t m P s = some (((g' : Nat) : Int), s') ∧ FrP s s' ∧ PsC s' nB nb (pq nb G A key nB j t m S) ∧ inn G j (pq nb G A key nB j t m S) nB = inn G j S nB + g' ∧ g' ≤ m := by
  have h4 := hK.1.1
  obtain ⟨g', s', q1, q2, q3, q4, q5⟩ := c_letIn_6 (G := G) (A := A) hK ht nB 600 0 m 0 s S (by omega) (by omega) (by omega) hL hS (Or.inl (fun a ha => absurd ha (by omega)))
  rw [Nat.zero_add] at q1 q5
  exact ⟨g', s', q1, q2, q3, by omega, q5⟩
end LI

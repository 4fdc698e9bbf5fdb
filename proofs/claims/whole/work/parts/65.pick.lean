/-! ===== how MOUTHS let boats in: who is next ===== -/
/-- of those below m that e tells, the one of the least key -/
def pk (e : Nat → Bool) (key : Nat → Int) : Nat → Option Nat
  | 0 => none
  | m + 1 => match pk e key m with
    | none => if e m = true then some m else none
    | some b => if e m = true ∧ key m < key b then some m else some b
theorem pk_none {e : Nat → Bool} {key : Nat → Int} : ∀ {m : Nat}, pk e key m = none → ∀ b, b < m → e b = false
  | 0, _, b, hb => absurd hb (by omega)
  | m + 1, h, b, hb => by
    unfold pk at h
    cases hp : pk e key m with
    | none =>
      rw [hp] at h
      dsimp only at h
      by_cases c : e m = true
      · rw [if_pos c] at h; exact absurd h (by simp)
      · by_cases cb : b = m
        · subst cb; exact eq_false_of_ne_true c
        · exact pk_none hp b (by omega)
    | some x =>
      rw [hp] at h
      dsimp only at h
      split at h <;> exact absurd h (by simp)
theorem pk_some {e : Nat → Bool} {key : Nat → Int} : ∀ {m i : Nat}, pk e key m = some i → i < m ∧ e i = true ∧ ∀ b, b < m → e b = true → key i ≤ key b
  | 0, i, h => absurd h (by simp [pk])
  | m + 1, i, h => by
    unfold pk at h
    cases hp : pk e key m with
    | none =>
      rw [hp] at h
      dsimp only at h
      by_cases c : e m = true
      · rw [if_pos c] at h
        simp only [Option.some.injEq] at h
        subst h
        refine ⟨by omega, c, fun b hb he => ?_⟩
        by_cases cb : b = m
        · subst cb; omega
        · have := pk_none hp b (by omega); rw [this] at he; exact absurd he (by simp)
      · rw [if_neg c] at h; exact absurd h (by simp)
    | some x =>
      rw [hp] at h
      dsimp only at h
      obtain ⟨h1, h2, h3⟩ := pk_some hp
      by_cases c : e m = true ∧ key m < key x
      · rw [if_pos c] at h
        simp only [Option.some.injEq] at h
        subst h
        refine ⟨by omega, c.1, fun b hb he => ?_⟩
        by_cases cb : b = m
        · subst cb; omega
        · have := h3 b (by omega) he; omega
      · rw [if_neg c] at h
        simp only [Option.some.injEq] at h
        subst h
        refine ⟨by omega, h2, fun b hb he => ?_⟩
        by_cases cb : b = m
        · subst cb
          by_cases ck : key b < key x
          · exact absurd ⟨he, ck⟩ c
          · omega
        · exact h3 b (by omega) he
theorem pk_is {e : Nat → Bool} {key : Nat → Int} {m i : Nat} (hi : i < m) (he : e i = true) (hk : ∀ b, b < m → e b = true → b ≠ i → key i < key b) : pk e key m = some i := by
  cases hp : pk e key m with
  | none => have := pk_none hp i hi; rw [this] at he; exact absurd he (by simp)
  | some x =>
    obtain ⟨h1, h2, h3⟩ := pk_some hp
    by_cases c : x = i
    · rw [c]
    · have := hk x h1 h2 c
      have := h3 i hi he
      omega
theorem pk_no {e : Nat → Bool} {key : Nat → Int} {m : Nat} (h : ∀ b, b < m → e b = false) : pk e key m = none := by
  cases hp : pk e key m with
  | none => rfl
  | some x =>
    obtain ⟨h1, h2, _⟩ := pk_some hp
    rw [h x h1] at h2; exact absurd h2 (by simp)
theorem pk_congr {e e' : Nat → Bool} {key : Nat → Int} : ∀ {m : Nat}, (∀ b, b < m → e b = e' b) → pk e key m = pk e' key m
  | 0, _ => rfl
  | m + 1, h => by rw [pk, pk, pk_congr (fun b hb => h b (by omega)), h m (by omega)]
section PK
variable (nb G A : Nat → Nat) (key : Nat → Int) (nB : Nat) (room mouth : Nat → Nat) (op : Nat → Nat → Bool)
/-- a SORT that may go in at j at HOUR t: S tells how many of it are in, and the HOURS they went in at -/
def el (j t : Nat) (S : Nat → Nat × (Nat → Nat)) (i : Nat) : Bool := decide (G i = j) && (decide (A i ≤ t) && decide ((S i).1 < nb i))
/-- the next boat of SORT i goes in at t -/
def pt (S : Nat → Nat × (Nat → Nat)) (i t : Nat) : Nat → Nat × (Nat → Nat) := fun k => if k = i then ((S i).1 + 1, fun n => if n = (S i).1 then t else (S i).2 n) else S k
/-- m boats at most go in -/
def pq (j t : Nat) : Nat → (Nat → Nat × (Nat → Nat)) → (Nat → Nat × (Nat → Nat))
  | 0, S => S
  | m + 1, S => match pk (el nb G A j t S) key nB with
    | none => S
    | some i => pq j t m (pt S i t)
/-- how many are in at j -/
def inn (j : Nat) (S : Nat → Nat × (Nat → Nat)) : Nat → Nat
  | 0 => 0
  | m + 1 => inn j S m + if G m = j then (S m).1 else 0
/-- how many more could ever go in at j -/
def av (j : Nat) (S : Nat → Nat × (Nat → Nat)) : Nat → Nat
  | 0 => 0
  | m + 1 => av j S m + if G m = j ∧ A m < 24 then nb m - (S m).1 else 0
/-- how many boats have j for their goal and come there -/
def out (j : Nat) : Nat → Nat
  | 0 => 0
  | m + 1 => out j m + if G m = j ∧ A m < 24 then nb m else 0
def pks (j t : Nat) : Nat → (Nat → Nat × (Nat → Nat)) → (Nat → Nat × (Nat → Nat))
  | 0, S => S
  | m + 1, S => if room j ≤ inn G j S nB then S else match pk (el nb G A j t S) key nB with
    | none => S
    | some i => pks j t m (pt S i t)
def hr (j t : Nat) (S : Nat → Nat × (Nat → Nat)) : Nat → Nat × (Nat → Nat) := if op j t = true then pks nb G A key nB room j t (mouth j) S else S
def S0 : Nat → Nat × (Nat → Nat) := fun _ => (0, fun _ => 24)
def Rr (j : Nat) : Nat → (Nat → Nat × (Nat → Nat))
  | 0 => S0
  | t + 1 => hr nb G A key nB room mouth op j t (Rr j t)
def mix (j : Nat) (X S : Nat → Nat × (Nat → Nat)) : Nat → Nat × (Nat → Nat) := fun i => if G i = j then X i else S i
variable {nb G A : Nat → Nat} {key : Nat → Int} {nB : Nat} {room mouth : Nat → Nat} {op : Nat → Nat → Bool}
theorem el_iff {j t i : Nat} {S : Nat → Nat × (Nat → Nat)} : el nb G A j t S i = true ↔ G i = j ∧ A i ≤ t ∧ (S i).1 < nb i := by
  unfold el; simp
theorem el_mix {j t : Nat} {X S : Nat → Nat × (Nat → Nat)} : el nb G A j t (mix G j X S) = el nb G A j t X := by
  funext i
  unfold el mix
  by_cases c : G i = j
  · simp [c]
  · simp [c]
theorem pt_mix {j t i : Nat} {X S : Nat → Nat × (Nat → Nat)} (h : G i = j) : pt (mix G j X S) i t = mix G j (pt X i t) S := by
  funext k
  unfold pt mix
  by_cases c : k = i
  · subst c; simp [h]
  · simp [c]
theorem inn_mix {j : Nat} {X S : Nat → Nat × (Nat → Nat)} : ∀ m, inn G j (mix G j X S) m = inn G j X m
  | 0 => rfl
  | m + 1 => by
    rw [inn, inn, inn_mix m]
    by_cases c : G m = j
    · rw [if_pos c, if_pos c]; unfold mix; rw [if_pos c]
    · rw [if_neg c, if_neg c]
theorem pq_mix {j t : Nat} : ∀ (m : Nat) {X S : Nat → Nat × (Nat → Nat)}, pq nb G A key nB j t m (mix G j X S) = mix G j (pq nb G A key nB j t m X) S
  | 0, _, _ => rfl
  | m + 1, X, S => by
    rw [pq, pq, el_mix]
    cases hp : pk (el nb G A j t X) key nB with
    | none => rfl
    | some i =>
      dsimp only
      have h := el_iff.mp (pk_some hp).2.1
      rw [pt_mix h.1, pq_mix m]
theorem pks_mix {j t : Nat} : ∀ (m : Nat) {X S : Nat → Nat × (Nat → Nat)}, pks nb G A key nB room j t m (mix G j X S) = mix G j (pks nb G A key nB room j t m X) S
  | 0, _, _ => rfl
  | m + 1, X, S => by
    rw [pks, pks, el_mix, inn_mix]
    by_cases c : room j ≤ inn G j X nB
    · rw [if_pos c, if_pos c]
    · rw [if_neg c, if_neg c]
      cases hp : pk (el nb G A j t X) key nB with
      | none => rfl
      | some i =>
        dsimp only
        have h := el_iff.mp (pk_some hp).2.1
        rw [pt_mix h.1, pks_mix m]
theorem pt_c {S : Nat → Nat × (Nat → Nat)} {i t k : Nat} : (pt S i t k).1 = if k = i then (S i).1 + 1 else (S k).1 := by
  unfold pt; split <;> rfl
theorem inn_pt {j i t : Nat} {S : Nat → Nat × (Nat → Nat)} (hG : G i = j) : ∀ m, inn G j (pt S i t) m = inn G j S m + if i < m then 1 else 0
  | 0 => rfl
  | m + 1 => by
    rw [inn, inn, inn_pt hG m, pt_c]
    grind
theorem av_pt {j i t : Nat} {S : Nat → Nat × (Nat → Nat)} (hG : G i = j) (hA : A i < 24) (hc : (S i).1 < nb i) : ∀ m, av nb G A j (pt S i t) m + (if i < m then 1 else 0) = av nb G A j S m
  | 0 => rfl
  | m + 1 => by
    have ih := av_pt (t := t) hG hA hc m
    rw [av, av, pt_c]
    grind
theorem av_0 {j t : Nat} (ht : t < 24) {S : Nat → Nat × (Nat → Nat)} : ∀ m, av nb G A j S m = 0 → ∀ b, b < m → el nb G A j t S b = false
  | 0, _, b, hb => absurd hb (by omega)
  | m + 1, h, b, hb => by
    rw [av] at h
    by_cases c : b = m
    · subst c
      cases he : el nb G A j t S b with
      | false => rfl
      | true =>
        have := el_iff.mp he
        rw [if_pos ⟨this.1, by omega⟩] at h
        omega
    · exact av_0 ht m (by omega) b (by omega)
theorem pq_av {j t : Nat} (ht : t < 24) : ∀ (m a : Nat) {S : Nat → Nat × (Nat → Nat)}, av nb G A j S nB = a → pq nb G A key nB j t m S = pq nb G A key nB j t (min m a) S
  | 0, a, S, _ => by rw [Nat.zero_min]
  | m + 1, 0, S, h => by
    rw [Nat.min_zero, pq, pq, pk_no (av_0 ht nB h)]
  | m + 1, a + 1, S, h => by
    rw [Nat.succ_min_succ, pq, pq]
    cases hp : pk (el nb G A j t S) key nB with
    | none => rfl
    | some i =>
      dsimp only
      have h1 := pk_some hp
      have h2 := el_iff.mp h1.2.1
      have h3 := av_pt (A := A) (t := t) h2.1 (by omega) h2.2.2 nB
      rw [if_pos h1.1] at h3
      exact pq_av ht m a (by omega)
theorem pks_pq {j t : Nat} : ∀ (m r : Nat) {S : Nat → Nat × (Nat → Nat)}, room j - inn G j S nB = r → pks nb G A key nB room j t m S = pq nb G A key nB j t (min m r) S
  | 0, r, S, _ => by rw [Nat.zero_min]; rfl
  | m + 1, 0, S, h => by
    rw [Nat.min_zero, pks, pq, if_pos (by omega)]
  | m + 1, r + 1, S, h => by
    rw [Nat.succ_min_succ, pks, pq, if_neg (by omega)]
    cases hp : pk (el nb G A j t S) key nB with
    | none => rfl
    | some i =>
      dsimp only
      have h1 := pk_some hp
      have h2 := el_iff.mp h1.2.1
      have h3 := inn_pt (t := t) (S := S) h2.1 nB
      rw [if_pos h1.1] at h3
      exact pks_pq m r (by omega)
theorem out_av {j : Nat} {S : Nat → Nat × (Nat → Nat)} (hc : ∀ i, (S i).1 ≤ nb i) (h0 : ∀ i, 24 ≤ A i → (S i).1 = 0) : ∀ m, out nb G A j m = av nb G A j S m + inn G j S m
  | 0 => rfl
  | m + 1 => by
    rw [out, av, inn, out_av hc h0 m]
    have := hc m
    have := h0 m
    by_cases c : G m = j
    · by_cases c2 : A m < 24
      · rw [if_pos ⟨c, c2⟩, if_pos ⟨c, c2⟩, if_pos c]; omega
      · rw [if_neg (fun z => c2 z.2), if_neg (fun z => c2 z.2), if_pos c]; omega
    · rw [if_neg (fun z => c z.1), if_neg (fun z => c z.1), if_neg c]; omega
/-- what the HOURS below t leave: counts within bounds, entries at HOURS not ahead of the arrival -/
def Sok (nb A : Nat → Nat) (t : Nat) (S : Nat → Nat × (Nat → Nat)) : Prop := ∀ i, (S i).1 ≤ nb i ∧ (∀ n, n < (S i).1 → (S i).2 n < t ∧ A i ≤ (S i).2 n) ∧ (∀ n, (S i).1 ≤ n → (S i).2 n = 24)
theorem Sok.z (nb A : Nat → Nat) : Sok nb A 0 S0 := fun i => ⟨Nat.zero_le _, fun n hn => absurd hn (Nat.not_lt_zero _), fun n _ => rfl⟩
theorem Sok.p1 {S : Nat → Nat × (Nat → Nat)} {t i : Nat} (h : Sok nb A (t + 1) S) (hc : (S i).1 < nb i) (hA : A i ≤ t) : Sok nb A (t + 1) (pt S i t) := by
  intro k
  unfold pt
  by_cases c : k = i
  · subst c
    obtain ⟨h1, h2, h3⟩ := h k
    rw [if_pos rfl]
    refine ⟨by dsimp only; omega, fun n hn => ?_, fun n hn => ?_⟩
    · dsimp only at hn ⊢
      by_cases cn : n = (S k).1
      · rw [if_pos cn]; omega
      · rw [if_neg cn]; exact h2 n (by omega)
    · dsimp only at hn ⊢
      rw [if_neg (by omega)]; exact h3 n (by omega)
  · rw [if_neg c]; exact h k
theorem Sok.up {S : Nat → Nat × (Nat → Nat)} {t : Nat} (h : Sok nb A t S) : Sok nb A (t + 1) S := fun i => ⟨(h i).1, fun n hn => ⟨by have := ((h i).2.1 n hn).1; omega, ((h i).2.1 n hn).2⟩, (h i).2.2⟩
theorem Sok.pm {j t : Nat} : ∀ (m : Nat) {S : Nat → Nat × (Nat → Nat)}, Sok nb A (t + 1) S → Sok nb A (t + 1) (pks nb G A key nB room j t m S)
  | 0, S, h => h
  | m + 1, S, h => by
    rw [pks]
    by_cases c : room j ≤ inn G j S nB
    · rw [if_pos c]; exact h
    · rw [if_neg c]
      cases hp : pk (el nb G A j t S) key nB with
      | none => exact h
      | some i =>
        dsimp only
        have h2 := el_iff.mp (pk_some hp).2.1
        exact Sok.pm m (h.p1 h2.2.2 h2.2.1)
theorem Sok.rr (j : Nat) : ∀ t, Sok nb A t (Rr nb G A key nB room mouth op j t)
  | 0 => Sok.z nb A
  | t + 1 => by
    have ih := Sok.rr j t
    rw [Rr, hr]
    by_cases c : op j t = true
    · rw [if_pos c]; exact Sok.pm _ ih.up
    · rw [if_neg c]; exact ih.up
end PK

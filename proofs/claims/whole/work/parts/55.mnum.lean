/-! ===== the reference's numbers ===== -/
/-- the place behind a number and the sign at its end -/
def ep (T : Nat → Int) (tl p : Nat) : Nat := p + runF T tl 4 p + 1
def nn (T : Nat → Int) (tl p : Nat) : Int := nv T p (runF T tl 4 p)
def syn (T : Nat → Int) (tl p : Nat) (e : Int) : Bool := decide (1 ≤ runF T tl 4 p ∧ runF T tl 4 p ≤ 3 ∧ p + runF T tl 4 p < tl ∧ T (p + runF T tl 4 p) = e)
def okn (T : Nat → Int) (tl p : Nat) (lo hi e : Int) : Bool := syn T tl p e && (decide (lo ≤ nn T tl p) && decide (nn T tl p ≤ hi))
/-- the reference while it reads: its place, whether all was well so far -/
def mp (s : Mem) (w : Bool) (p : Nat) : Mem := mu (mu s 0 8 (if w then 1 else 0)) 0 7 (p : Int)
section NM
variable {T : Nat → Int} {tl : Nat} {s s' : Mem}
theorem mp_7 (s : Mem) (w : Bool) (p : Nat) : mp s w p 0 7 = p := by unfold mp; rw [mu_same, fu_same]
theorem mp_8 (s : Mem) (w : Bool) (p : Nat) : mp s w p 0 8 = if w then 1 else 0 := by unfold mp; rw [mu_same, fu_ne _ _ (by decide), mu_same, fu_same]
theorem mp_f (s : Mem) (w : Bool) (p : Nat) {f : Nat} (h7 : f ≠ 7) (h8 : f ≠ 8) : mp s w p 0 f = s 0 f := by unfold mp; rw [mu_same, fu_ne _ _ h7, mu_same, fu_ne _ _ h8]
theorem mp_c (s : Mem) (w : Bool) (p : Nat) {k : Nat} (h : k ≠ 0) : mp s w p k = s k := by unfold mp; rw [mu_ne _ _ _ h, mu_ne _ _ _ h]
theorem mp_at (s : Mem) (w : Bool) (p x : Nat) : mu (mp s w p) 0 7 (x : Int) = mp s w x := by unfold mp; rw [mu_mu]
theorem mu_swap (s : Mem) {k j k' j' : Nat} (x y : Int) (h : k ≠ k' ∨ j ≠ j') : mu (mu s k j x) k' j' y = mu (mu s k' j' y) k j x := by
  funext a b
  unfold mu fu
  by_cases h1 : a = k <;> by_cases h2 : a = k' <;> by_cases h3 : b = j <;> by_cases h4 : b = j' <;> simp [h1, h2, h3, h4] <;> (try omega)
  all_goals (subst_vars; simp_all)
theorem mp_well (s : Mem) (w w' : Bool) (p : Nat) : mu (mp s w p) 0 8 (if w' then 1 else 0) = mp s w' p := by
  unfold mp
  rw [mu_swap _ _ _ (by omega), mu_mu]
theorem mp_sea (s : Mem) (w : Bool) (p : Nat) {k : Nat} (x : Int) : mu (mp s w p) 1 k x = mp (mu s 1 k x) w p := by
  unfold mp
  rw [mu_swap _ _ _ (by omega), mu_swap s _ _ (by omega)]
theorem m_byteAt (h : TxtM s T tl) (htl : tl ≤ 500) {p : Nat} (w : Bool) (x : Nat) : fX9_byteAt (p : Int) (mp s w x) = some (if p < tl then T p else -1, mp s w x) := by
  unfold fX9_byteAt
  rw [mp_f s w x (by decide) (by decide), h.1]
  by_cases c : p < tl
  · rw [if_neg (by omega), if_pos c, rd_m_text (by omega) (by omega), mp_c s w x (by decide), bo_ok]
    rw [Int.toNat_natCast, h.2 p c]
  · rw [if_pos (by omega), if_neg c]
theorem dg_in (T : Nat → Int) (tl p : Nat) : (48 ≤ (if p < tl then T p else -1) ∧ (if p < tl then T p else -1) ≤ 57) ↔ dg T tl p = true := by
  rw [dg_iff]
  by_cases c : p < tl
  · rw [if_pos c]; omega
  · rw [if_neg c]; omega
theorem m_number_110 {w w' : Bool} {p : Nat} {lo v : Int} (hp : p < 100000) : fX9_number_110 lo v (if w' then 1 else 0) (mp s w p) = some (if w' then v else lo, mp s w' (p + 1)) := by
  unfold fX9_number_110
  rw [ck_ok (by cases w' <;> simp), lt_ok, mp_well, lt_ok, mp_7, w32_s (by omega), mp_at, mp_8]
  cases w' <;> simp
theorem m_number_65 (h : TxtM s T tl) (htl : tl ≤ 500) {w : Bool} {p f : Nat} {lo hi e v : Int} (hp : p < 100000) (he : 0 ≤ e) : fX9_number_65 lo hi e v f (mp s w p) = some (if w && decide (1 ≤ f ∧ f ≤ 3 ∧ lo ≤ v ∧ v ≤ hi ∧ p < tl ∧ T p = e) then v else lo, mp s (w && decide (1 ≤ f ∧ f ≤ 3 ∧ lo ≤ v ∧ v ≤ hi ∧ p < tl ∧ T p = e)) (p + 1)) := by
  have n1 := m_number_110 (s := s) (w := w) (w' := false) (p := p) (lo := lo) (v := v) hp
  have y1 := m_number_110 (s := s) (w := w) (w' := true) (p := p) (lo := lo) (v := v) hp
  simp only [if_true, Bool.false_eq_true, if_false] at n1 y1
  unfold fX9_number_65 fX9_number_109
  rw [mp_8]
  cases w with
  | false => simp only [Bool.false_eq_true, if_false, if_true, Bool.false_and]; exact n1
  | true =>
    simp only [if_true, Bool.true_and]
    rw [if_neg (by decide)]
    simp only [m_isIn, b2_ok, if01_0, mp_7, m_byteAt h htl]
    by_cases c : 1 ≤ f ∧ f ≤ 3 ∧ lo ≤ v ∧ v ≤ hi ∧ p < tl ∧ T p = e
    · rw [if_neg (by omega), if_neg (by omega), if_pos (by rw [if_pos c.2.2.2.2.1]; exact c.2.2.2.2.2), y1]
      rw [decide_eq_true c]; simp
    · have hd : decide (1 ≤ f ∧ f ≤ 3 ∧ lo ≤ v ∧ v ≤ hi ∧ p < tl ∧ T p = e) = false := decide_eq_false c
      rw [hd]
      simp only [Bool.false_eq_true, if_false]
      by_cases c1 : ¬ (1 ≤ (f : Int) ∧ (f : Int) ≤ 3)
      · rw [if_pos c1]; exact n1
      · rw [if_neg c1]
        by_cases c2 : ¬ (lo ≤ v ∧ v ≤ hi)
        · rw [if_pos c2]; exact n1
        · rw [if_neg c2]
          by_cases c3 : p < tl
          · rw [if_pos c3, if_neg (fun z => c ⟨by omega, by omega, by omega, by omega, c3, z⟩)]; exact n1
          · rw [if_neg c3, if_neg (by omega)]; exact n1
theorem m_number_6 (h : TxtM s T tl) (htl : tl ≤ 500) (hT : ∀ k, 0 ≤ T k ∧ T k ≤ 255) {w : Bool} {p : Nat} {lo hi e : Int} (hp : p < 1000) (he : 0 ≤ e) : ∀ (m n f : Nat), f + m = 4 → m < n → (∀ j, j < f → dg T tl (p + j) = true) → fX9_number_6 n lo hi e (nv T p f) f (mp s w (p + f)) = fX9_number_65 lo hi e (nv T p (f + runF T tl m (p + f))) ((f + runF T tl m (p + f) : Nat) : Int) (mp s w (p + (f + runF T tl m (p + f))))
  | 0, n + 1, f, e1, _, hd => by
    have e2 : f + runF T tl 0 (p + f) = f := rfl
    rw [e2, fX9_number_6, mp_7, m_byteAt h htl, b2_ok, m_isIn, b2_ok]
    by_cases c : (if 48 ≤ (if p + f < tl then T (p + f) else -1) ∧ (if p + f < tl then T (p + f) else -1) ≤ 57 then (1 : Int) else 0) = 0
    · rw [if_pos c]
    · rw [if_neg c, if_pos (by omega)]
  | m + 1, n + 1, f, e1, hn, hd => by
    rw [fX9_number_6, mp_7, m_byteAt h htl, b2_ok, m_isIn, b2_ok]
    by_cases c : dg T tl (p + f) = true
    · have c' := dg_iff.mp c
      have hv := nv_rg (T := T) (tl := tl) (p := p) f hd
      have hv2 : nv T p f < 10000 := by
        have : (10 : Int) ^ f ≤ 10 ^ 4 := by
          rcases (show f = 0 ∨ f = 1 ∨ f = 2 ∨ f = 3 by omega) with rfl | rfl | rfl | rfl <;> decide
        omega
      rw [if_neg (by rw [if_pos ((dg_in T tl (p + f)).mpr c)]; decide), if_neg (by omega), mp_7, m_byteAt h htl, b2_ok, if_pos c'.1, lt_ok, lt_ok, lt_ok, mp_7]
      rw [w32_id (x := 10 * nv T p f) (by omega) (by omega), w32_id (x := 10 * nv T p f + _) (by omega) (by omega), w32_id (x := 10 * nv T p f + _ - 48) (by omega) (by omega), w32_s (by omega), w32_s (by omega), mp_at]
      have env : 10 * nv T p f + T (p + f) - 48 = nv T p (f + 1) := by rw [nv]; omega
      have er : runF T tl (m + 1) (p + f) = runF T tl m (p + (f + 1)) + 1 := by rw [runF, if_pos c]; rfl
      rw [env, er, show f + (runF T tl m (p + (f + 1)) + 1) = f + 1 + runF T tl m (p + (f + 1)) by omega]
      exact m_number_6 h htl hT hp he m n (f + 1) (by omega) (by omega) (fun j hj => by
        by_cases cj : j = f
        · subst cj; exact c
        · exact hd j (by omega))
    · have er : runF T tl (m + 1) (p + f) = 0 := by rw [runF, if_neg c]
      rw [er, Nat.add_zero, if_pos (by rw [if_neg (fun z => c ((dg_in T tl (p + f)).mp z))])]
  | _, 0, _, _, hn, _ => absurd hn (by omega)
theorem m_number (h : TxtM s T tl) (htl : tl ≤ 500) (hT : ∀ k, 0 ≤ T k ∧ T k ≤ 255) {w : Bool} {p : Nat} {lo hi e : Int} (hp : p < 1000) (he : 0 ≤ e) : fX9_number lo hi e (mp s w p) = some (if w && okn T tl p lo hi e then nn T tl p else lo, mp s (w && okn T tl p lo hi e) (ep T tl p)) := by
  have e0 : fX9_number lo hi e (mp s w p) = fX9_number_6 600 lo hi e (nv T p 0) ((0 : Nat) : Int) (mp s w (p + 0)) := rfl
  have r4 := runF_le T tl 4 p
  rw [e0, m_number_6 h htl hT hp he 4 600 0 (by omega) (by omega) (fun j hj => absurd hj (by omega))]
  simp only [Nat.zero_add, Nat.add_zero]
  rw [m_number_65 h htl (by omega) he]
  have e1 : decide (1 ≤ runF T tl 4 p ∧ runF T tl 4 p ≤ 3 ∧ lo ≤ nv T p (runF T tl 4 p) ∧ nv T p (runF T tl 4 p) ≤ hi ∧ p + runF T tl 4 p < tl ∧ T (p + runF T tl 4 p) = e) = okn T tl p lo hi e := by
    unfold okn syn nn
    rw [Bool.eq_iff_iff]
    simp only [decide_eq_true_eq, Bool.and_eq_true]
    constructor
    · rintro ⟨a, b, c, d, f, g⟩; exact ⟨⟨a, b, f, g⟩, c, d⟩
    · rintro ⟨⟨a, b, f, g⟩, c, d⟩; exact ⟨a, b, c, d, f, g⟩
  rw [e1]; rfl
theorem ep_le (T : Nat → Int) (tl p : Nat) : ep T tl p ≤ p + 5 := by unfold ep; have := runF_le T tl 4 p; omega
theorem nn_rg {T : Nat → Int} {tl p : Nat} {e : Int} (h : syn T tl p e = true) : 0 ≤ nn T tl p ∧ nn T tl p ≤ 999 := by
  have h1 := nv_rg (tl := tl) _ (fun j hj => runF_dg T tl 4 p j hj)
  have h2 : (10 : Int) ^ runF T tl 4 p ≤ 10 ^ 3 := by
    have := (of_decide_eq_true h).2.1
    rcases (show runF T tl 4 p = 0 ∨ runF T tl 4 p = 1 ∨ runF T tl 4 p = 2 ∨ runF T tl 4 p = 3 by omega) with q | q | q | q <;> rw [q] <;> decide
  unfold nn
  omega
end NM

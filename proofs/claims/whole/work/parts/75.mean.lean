/-! ===== PLANS as told; means ===== -/
def uN (N : Nat → Int) (i : Nat) : Nat := (N (2 * i)).toNat
def gN (N : Nat → Int) (i : Nat) : Nat := (N (2 * i + 1)).toNat
def vD (D : Nat → Int) (i : Nat) : Int := D (16 + 5 * i + 1)
section ME
variable {D : Nat → Int} {nH nB nS q : Nat} {N K : Nat → Int} {kc : Nat} {T : Nat → Int} {tl : Nat} {U G : Nat → Nat} {V : Nat → Int} {w : Bool} {s s' : Mem}
theorem uN_i (h : NowOk N nH nS) {i : Nat} (hi : i < 4) : ((uN N i : Nat) : Int) = N (2 * i) ∧ uN N i ≤ 24 ∧ ((gN N i : Nat) : Int) = N (2 * i + 1) ∧ gN N i < nH := by
  have := h.1 i hi
  unfold uN gN
  omega
theorem vD_rg (h : SeaOk D nH nB nS) {i : Nat} (hi : i < 4) : 0 ≤ vD D i ∧ vD D i ≤ 9 := by
  have := h.2.2.1 i hi
  unfold vD; omega
theorem PlOk'.now (h : SeaOk D nH nB nS) (hN : NowOk N nH nS) : PlOk' D nH nB nS (uN N) (gN N) (vD D) := ⟨h, fun i hi => ⟨(uN_i hN (by have := h.1; omega)).2.1, (uN_i hN (by have := h.1; omega)).2.2.2⟩, fun i hi => vD_rg h (by have := h.1; omega)⟩
theorem m_plan_2 (hM : SeaM s' D) (hN : NowM s' N) : ∀ (m n i : Nat) (s : Mem), i + m = 4 → m < n → (∀ c, c ≠ 5 → c ≠ 6 → c ≠ 7 → s c = s' c) → (∀ a, a < i → s 5 a = N (2 * a) ∧ s 6 a = N (2 * a + 1) ∧ s 7 a = D (16 + 5 * a + 1)) → ∃ s2, fX9_asPlanned_2 n i s = some s2 ∧ (∀ a, a < 4 → s2 5 a = N (2 * a) ∧ s2 6 a = N (2 * a + 1) ∧ s2 7 a = D (16 + 5 * a + 1)) ∧ (∀ c, c ≠ 5 → c ≠ 6 → c ≠ 7 → s2 c = s' c)
  | m, 0, _, _, _, hn, _, _ => absurd hn (by omega)
  | 0, n + 1, i, s, e, _, hf, h => ⟨s, by rw [fX9_asPlanned_2, if_pos (by omega)], fun a ha => h a (by omega), hf⟩
  | m + 1, n + 1, i, s, e, hn, hf, h => by
    have e2 : ∀ x k, mu s 5 i x 2 k = s' 2 k := fun x k => by rw [mu_ne _ _ _ (by decide), hf 2 (by decide) (by decide) (by decide)]
    have e1 : ∀ x y k, mu (mu s 5 i x) 6 i y 1 k = s' 1 k := fun x y k => by rw [mu_ne _ _ _ (by decide), mu_ne _ _ _ (by decide), hf 1 (by decide) (by decide) (by decide)]
    have e0 : ∀ k, s 2 k = s' 2 k := fun k => by rw [hf 2 (by decide) (by decide) (by decide)]
    have key : fX9_asPlanned_2 (n + 1) i s = fX9_asPlanned_2 n ((i + 1 : Nat) : Int) (mu (mu (mu s 5 i (N (2 * i))) 6 i (N (2 * i + 1))) 7 i (D (16 + 5 * i + 1))) := by
      rw [fX9_asPlanned_2, if_neg (by omega)]
      simp (disch := omega) only [nab, na_0, na_1, na_2, na_3, na_4, na_5, na_6, na_8, na_10, na_12, na_16, na_24, na_36, na_52, na_76, na_120, na_172, na_186, nb_0, nb_1, nb_2, nb_3, nb_4, nb_5, nb_6, nb_8, nb_10, nb_12, nb_16, nb_24, nb_36, nb_52, nb_76, nb_120, nb_172, nb_186, nm_2, nm_3, nm_4, nm_5, nm_6, nm_8, nm_10, nm_12, nm_16, nm_24, nm_36, nm_52, nm_76, nm_120, nm_172, nm_186, nn_2, nn_3, nn_4, nn_5, nn_6, nn_8, nn_10, nn_12, nn_16, nn_24, nn_36, nn_52, nn_76, nn_120, nn_172, nn_186, rd_m_now, wr_m_hours, wr_m_goals, wr_m_speeds, rd_m_sea, bo_ok, lt_ok, Int.toNat_natCast, e0, e1, e2, hN.at, hM.at]
      simp only [Nat.zero_add]
    obtain ⟨s2, q1, q2, q3⟩ := m_plan_2 hM hN m n (i + 1) (mu (mu (mu s 5 i (N (2 * i))) 6 i (N (2 * i + 1))) 7 i (D (16 + 5 * i + 1))) (by omega) (by omega) (fun c h5 h6 h7 => by rw [mu_ne _ _ _ h7, mu_ne _ _ _ h6, mu_ne _ _ _ h5]; exact hf c h5 h6 h7) (fun a ha => by
      simp (disch := decide) only [mu_ne, mu_same]
      by_cases c : a = i
      · subst c; simp only [fu_same, and_self]
      · simp only [fu_ne _ _ c]; exact h a (by omega))
    exact ⟨s2, key.trans q1, q2, q3⟩
theorem m_asPlanned (h : SeaOk D nH nB nS) (hO : NowOk N nH nS) (hM : SeaM s D) (hN : NowM s N) : ∃ s2, fX9_asPlanned s = some s2 ∧ PrM s2 D nB (uN N) (gN N) (vD D) ∧ (∀ c, c ≠ 5 → c ≠ 6 → c ≠ 7 → s2 c = s c) ∧ (∀ i, i < 4 → s2 5 i = N (2 * i) ∧ s2 6 i = N (2 * i + 1) ∧ s2 7 i = D (16 + 5 * i + 1)) := by
  have hb := h.1
  obtain ⟨s2, q1, q2, q3⟩ := m_plan_2 hM hN 4 600 0 s (by omega) (by omega) (fun _ _ _ _ => rfl) (fun a ha => absurd ha (by omega))
  refine ⟨s2, q1, ⟨hM.fr (q3 _ (by decide) (by decide) (by decide)), fun i hi => ?_⟩, q3, q2⟩
  have := uN_i hO (i := i) (by omega)
  rw [this.1, this.2.2.1]
  exact q2 i (by omega)
theorem sm_one {i : Nat} (f : Nat → Int) : ∀ m, sm (2 ^ i) f m = if i < m then f i else 0
  | 0 => rfl
  | m + 1 => by
    rw [sm, sm_one f m, Nat.testBit_two_pow]
    by_cases c : i = m
    · subst c; simp
    · simp only [c, decide_false, Bool.false_eq_true, if_false]
      by_cases c2 : i < m
      · rw [if_pos c2, if_pos (by omega)]
      · rw [if_neg c2, if_neg (by omega)]
/-- the boats of whom a mean tells: all, or one SORT's -/
def mskO (nB : Nat) (own : Int) : Nat := if 0 ≤ own then 2 ^ own.toNat else 2 ^ nB - 1
theorem m_meanOf_5 (h : PlOk' D nH nB nS U G V) {th : Nat} (e11 : N 11 = th) (hth : th < 16) {own : Int} (hown : own < nB) : ∀ (m n q : Nat) (s : Mem), q + m = nS → m < n → PrM s D nB U G V → NowM s N → ∃ s', fX9_meanOf_5 n (if w = true then 1 else 0) own (w64 (sm th (fun q => D (52 + 6 * q) * vM D nB q U G V w (mskO nB own)) q)) q s = some (w64 (mn D nB nS U G V w (mskO nB own) th), s') ∧ (∀ c, (c < 8 ∨ 14 < c) → s' c = s c)
  | m, 0, _, _, _, hn, _, _ => absurd hn (by omega)
  | 0, n + 1, q, s, e, _, hM, hN => by
    have hb := h.1.1
    have e : q = nS := by omega
    subst e
    refine ⟨s, ?_, fun _ _ => rfl⟩
    rw [fX9_meanOf_5]
    simp (disch := omega) only [rd_m_sea, bo_ok, Int.reduceToNat, hM.1.at]
    rw [if_pos (by omega)]; rfl
  | m + 1, n + 1, q, s, e, hn, hM, hN => by
    have hb := h.1.1
    have ih := fun (s : Mem) (hM : PrM s D nB U G V) (hN : NowM s N) => m_meanOf_5 h e11 hth hown m n (q + 1) s (by omega) (by omega) hM hN
    rw [sm] at ih
    rw [fX9_meanOf_5]
    simp (disch := omega) only [rd_m_sea, bo_ok, Int.reduceToNat, hM.1.at]
    rw [if_neg (by omega), m_isThought hN e11 hth (by omega), b2_ok]
    by_cases c : th.testBit q = true
    · rw [if_pos c] at ih
      rw [if_pos c, if_neg (by decide)]
      obtain ⟨s2, q1, q2, q3, q4⟩ := m_goesBy (w := w) (h.at (q := q) (by omega)) hM
      have hM2 : PrM s2 D nB U G V := hM.fr (q4 _ (by omega)) (q4 _ (by omega)) (q4 _ (by omega)) (q4 _ (by omega))
      have hN2 : NowM s2 N := fun k hk => by rw [q4 2 (by omega)]; exact hN k hk
      obtain ⟨s', r1, r2⟩ := ih s2 hM2 hN2
      rw [q1, b2_ok, m_tenths hM2.1 (by omega), b2_ok]
      unfold fX9_meanOf_59
      by_cases co : 0 ≤ own
      · obtain ⟨a, rfl⟩ := nat_of co
        have em : mskO nB (a : Int) = 2 ^ a := by unfold mskO; rw [if_pos co, Int.toNat_natCast]
        have ev : vM D nB q U G V w (mskO nB (a : Int)) = vS D nB q U G V w a := by
          rw [em]; unfold vM; rw [sm_one, if_pos (by omega)]
        rw [ev] at r1
        rw [if_pos co, rd_m_valueOf (by omega) (by omega), bo_ok, Int.toNat_natCast, q2 a (by omega), lt_ok, lt_ok, w64_mr, w64_ar, w64_al, w32_s (by omega)]
        exact ⟨s', r1, fun c hc => by rw [r2 c hc, q4 c hc]⟩
      · have em : mskO nB own = 2 ^ nB - 1 := by unfold mskO; rw [if_neg co]
        rw [em] at r1 ⊢
        rw [if_neg co, lt_ok, lt_ok, w64_mr, w64_ar, w64_al, w32_s (by omega)]
        exact ⟨s', r1, fun c hc => by rw [r2 c hc, q4 c hc]⟩
    · rw [if_neg c] at ih
      rw [if_neg c, if_pos rfl, lt_ok, w32_s (by omega)]
      exact ih s hM hN
theorem m_meanOf (h : PlOk' D nH nB nS U G V) {th : Nat} (e11 : N 11 = th) (hth : th < 16) {own : Int} (hown : own < nB) (hM : PrM s D nB U G V) (hN : NowM s N) : ∃ s', fX9_meanOf (if w = true then 1 else 0) own s = some (w64 (mn D nB nS U G V w (mskO nB own) th), s') ∧ (∀ c, (c < 8 ∨ 14 < c) → s' c = s c) := by
  have hb := h.1.1
  exact m_meanOf_5 h e11 hth hown nS 600 0 s (by omega) (by omega) hM hN
theorem c_usual (hC : InvC s D nH nB nS N K kc T tl) (hV : SeaOk D nH nB nS) (hN : NowOk N nH nS) : fX2_asUsual s = some (mu (mu s 122 1 0) 122 3 0) ∧ SlC (mu (mu s 122 1 0) 122 3 0) D nH nB nS 111 112 (uN N) (gN N) (vD D) false ∧ FrC s (mu (mu s 122 1 0) 122 3 0) ∧ (∀ k, k ≠ 122 → (mu (mu s 122 1 0) 122 3 0) k = s k) := by
  have fr : ∀ k, k ≠ 122 → (mu (mu s 122 1 0) 122 3 0) k = s k := fun k hk => by rw [mu_ne _ _ _ hk, mu_ne _ _ _ hk]
  refine ⟨by unfold fX2_asUsual; rw [lt_ok, lt_ok], ⟨hC.1.of hV.b (fun k a b => fr k (by omega)), hC.2.1.of hV.b (fun k a b => fr k (by omega)), fun i hi => ?_, by rw [mu_same, fu_same]; rfl, 0, ?_, by decide, fun i hi => ?_⟩, fun k hk => fr k (by omega), fr⟩
  · have h4 : i < 4 := by have := hV.1; omega
    rw [fr _ (by decide), fr _ (by decide), (uN_i hN h4).1, (uN_i hN h4).2.2.1]
    exact hC.2.2.1.2.2.2.2 i h4
  · rw [mu_same, fu_ne _ _ (by decide), mu_same, fu_same]; rfl
  · rw [Nat.zero_testBit, if_neg (by decide)]; rfl
theorem plc_w : PlC 110 111 112 := ⟨⟨pt_watch_plans_0, pt_watch_plans_1⟩, Or.inl ⟨rfl, rfl⟩⟩
theorem c_allSorts (hS : SeaC s D nH nB nS) (h : nB ≤ 4) : fX5_allSorts s = some (((2 ^ nB - 1 : Nat) : Int), s) := by
  unfold fX5_allSorts
  rw [hS.2.1, allst h]
theorem all_16 (h : nB ≤ 4) : 2 ^ nB - 1 < 16 := by
  have : 2 ^ nB ≤ 2 ^ 4 := Nat.pow_le_pow_right (by decide) h
  omega
end ME

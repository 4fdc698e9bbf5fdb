section IT2
variable {T : Nat → Int} {tl : Nat} {s s' : Mem} {D : Nat → Int} {cH cB cS : Nat}
/-- the counts of a draft -/
def CtD (D : Nat → Int) (cH cB cS : Nat) : Prop := (D 183 = cH ∧ D 184 = cB ∧ D 185 = cS) ∧ cH ≤ 4 ∧ cB ≤ 4 ∧ cS ≤ 4
theorem m_readsItem (h : TxtM s T tl) (htl : tl ≤ 500) (hT : ∀ k, 0 ≤ T k ∧ T k ≤ 255) (hD : DrM s D) (hc : CtD D cH cB cS) {p : Nat} (hp : p < 900) (L : Int) : ∃ s', fX9_readsItem L (mp s true p) = some s' ∧ RdI s s' (gdI T tl cH cB cS L p) (efI T tl D cH cB cS L p) (epi T tl (wnt L) p) := by
  have hd3 : ∀ (w : Bool) (x : Nat), fX9_draft 183 (mp s w x) = some ((cH : Int), mp s w x) := fun w x => by rw [← hc.1.1]; exact m_draft hD (k := 183) (by decide) w x
  have hd4 : ∀ (w : Bool) (x : Nat), fX9_draft 184 (mp s w x) = some ((cB : Int), mp s w x) := fun w x => by rw [← hc.1.2.1]; exact m_draft hD (k := 184) (by decide) w x
  have hd5 : ∀ (w : Bool) (x : Nat), fX9_draft 185 (mp s w x) = some ((cS : Int), mp s w x) := fun w x => by rw [← hc.1.2.2]; exact m_draft hD (k := 185) (by decide) w x
  have hb := hc.2
  have e0 := epi_le T tl p 0
  have e1 := epi_le T tl p 1
  have e2 := epi_le T tl p 2
  unfold fX9_readsItem gdI efI wnt
  by_cases c1 : L = 104
  · obtain ⟨s1, h1, h2⟩ := m_readsHarbour h htl hT hD hp hc.1.1 hb.1
    simp only [if_pos c1]
    rw [h1, bo_ok]
    exact ⟨s1, rfl, h2⟩
  · simp only [if_neg c1]
    by_cases c2 : L = 98
    · obtain ⟨s1, h1, h2⟩ := m_readsSort h htl hT hD hp hc.1.2.1 hb.2.1
      simp only [if_pos c2]
      rw [h1, bo_ok]
      exact ⟨s1, rfl, h2⟩
    · simp only [if_neg c2]
      by_cases c3 : L = 115
      · obtain ⟨s1, h1, h2⟩ := m_readsStorm h htl hT hD hp hc.1.2.2 hb.2.2
        simp only [if_pos c3]
        rw [h1, bo_ok]
        exact ⟨s1, rfl, h2⟩
      · simp only [if_neg c3]
        by_cases c4 : L = 100
        · simp only [if_pos c4]
          rw [show mp s true p = mp s true (epi T tl 0 p) from rfl]
          simp (disch := omega) only [hd3, hd4, b2_ok, m_number h htl hT, epi_s, mp_8, Nat.reduceAdd, Bool.true_and, w32_id]
          by_cases c : (okn T tl (epi T tl 0 p) 0 ((cB : Int) - 1) 44 && okn T tl (epi T tl 1 p) 0 ((cH : Int) - 1) 44 && okn T tl (epi T tl 2 p) 1 99 59) = true
          · have c' := c
            simp only [Bool.and_eq_true] at c'
            obtain ⟨⟨k0, k1⟩, k2⟩ := c'
            obtain ⟨a, ea⟩ := okn_nat k0
            obtain ⟨b, eb⟩ := okn_nat k1
            have ra := okn_rg k0
            have rb := okn_rg k1
            simp only [k0, k1, k2, Bool.and_self, if_true]
            unfold fX9_readsItem_109
            rw [if_neg (by decide)]
            simp only [ea, eb] at ra rb ⊢
            simp (disch := omega) only [nab, na_0, na_1, na_2, na_3, na_4, na_5, na_6, na_8, na_10, na_12, na_16, na_24, na_36, na_52, na_76, na_120, na_172, na_186, nb_0, nb_1, nb_2, nb_3, nb_4, nb_5, nb_6, nb_8, nb_10, nb_12, nb_16, nb_24, nb_36, nb_52, nb_76, nb_120, nb_172, nb_186, nm_2, nm_3, nm_4, nm_5, nm_6, nm_8, nm_10, nm_12, nm_16, nm_24, nm_36, nm_52, nm_76, nm_120, nm_172, nm_186, nn_2, nn_3, nn_4, nn_5, nn_6, nn_8, nn_10, nn_12, nn_16, nn_24, nn_36, nn_52, nn_76, nn_120, nn_172, nn_186, m_puts_t, bo_ok, Int.toNat_natCast]
            exact ⟨_, rfl, RdI.t hD.put FrI.sea⟩
          · have k := eq_false_of_ne_true c
            simp only [k, Bool.false_eq_true, if_false, if_true]
            unfold fX9_readsItem_109
            simp only [m_puts_f, bo_ok]
            exact ⟨_, rfl, RdI.f FrI.rf⟩
        · simp only [if_neg c4]
          by_cases c5 : L = 103
          · simp only [if_pos c5]
            rw [show mp s true p = mp s true (epi T tl 0 p) from rfl]
            simp (disch := omega) only [hd5, b2_ok, m_number h htl hT, epi_s, mp_8, Nat.reduceAdd, Bool.true_and, w32_id]
            by_cases c : (okn T tl (epi T tl 0 p) 0 ((cS : Int) - 1) 44 && okn T tl (epi T tl 1 p) 0 23 44 && okn T tl (epi T tl 2 p) 0 9 59) = true
            · have c' := c
              simp only [Bool.and_eq_true] at c'
              obtain ⟨⟨k0, k1⟩, k2⟩ := c'
              obtain ⟨a, ea⟩ := okn_nat k0
              obtain ⟨b, eb⟩ := okn_nat k1
              have ra := okn_rg k0
              have rb := okn_rg k1
              simp only [k0, k1, k2, Bool.and_self, if_true]
              unfold fX9_readsItem_182
              rw [if_neg (by decide)]
              simp only [ea, eb] at ra rb ⊢
              simp (disch := omega) only [nab, na_0, na_1, na_2, na_3, na_4, na_5, na_6, na_8, na_10, na_12, na_16, na_24, na_36, na_52, na_76, na_120, na_172, na_186, nb_0, nb_1, nb_2, nb_3, nb_4, nb_5, nb_6, nb_8, nb_10, nb_12, nb_16, nb_24, nb_36, nb_52, nb_76, nb_120, nb_172, nb_186, nm_2, nm_3, nm_4, nm_5, nm_6, nm_8, nm_10, nm_12, nm_16, nm_24, nm_36, nm_52, nm_76, nm_120, nm_172, nm_186, nn_2, nn_3, nn_4, nn_5, nn_6, nn_8, nn_10, nn_12, nn_16, nn_24, nn_36, nn_52, nn_76, nn_120, nn_172, nn_186, m_puts_t, bo_ok, Int.toNat_natCast]
              exact ⟨_, rfl, RdI.t hD.put FrI.sea⟩
            · have k := eq_false_of_ne_true c
              simp only [k, Bool.false_eq_true, if_false, if_true]
              unfold fX9_readsItem_182
              simp only [m_puts_f, bo_ok]
              exact ⟨_, rfl, RdI.f FrI.rf⟩
          · simp only [if_neg c5]
            by_cases c6 : L = 114
            · simp only [if_pos c6]
              rw [show mp s true p = mp s true (epi T tl 0 p) from rfl]
              simp (disch := omega) only [b2_ok, m_number h htl hT, epi_s, Nat.reduceAdd, Bool.true_and]
              by_cases c : (okn T tl (epi T tl 0 p) 1 9 44 && okn T tl (epi T tl 1 p) 0 200 59) = true
              · have c' := c
                simp only [Bool.and_eq_true] at c'
                obtain ⟨k0, k1⟩ := c'
                obtain ⟨a, ea⟩ := okn_nat k0
                have ra := okn_rg k0
                simp only [k0, k1, Bool.and_self, if_true]
                simp only [ea] at ra ⊢
                simp (disch := omega) only [nab, na_0, na_1, na_2, na_3, na_4, na_5, na_6, na_8, na_10, na_12, na_16, na_24, na_36, na_52, na_76, na_120, na_172, na_186, nb_0, nb_1, nb_2, nb_3, nb_4, nb_5, nb_6, nb_8, nb_10, nb_12, nb_16, nb_24, nb_36, nb_52, nb_76, nb_120, nb_172, nb_186, nm_2, nm_3, nm_4, nm_5, nm_6, nm_8, nm_10, nm_12, nm_16, nm_24, nm_36, nm_52, nm_76, nm_120, nm_172, nm_186, nn_2, nn_3, nn_4, nn_5, nn_6, nn_8, nn_10, nn_12, nn_16, nn_24, nn_36, nn_52, nn_76, nn_120, nn_172, nn_186, m_puts_t, bo_ok, Int.toNat_natCast]
                exact ⟨_, rfl, RdI.t hD.put FrI.sea⟩
              · have k := eq_false_of_ne_true c
                simp only [k, Bool.false_eq_true, if_false]
                simp only [m_puts_f, bo_ok]
                exact ⟨_, rfl, RdI.f FrI.rf⟩
            · simp only [if_neg c6]
              by_cases c7 : L = 119
              · simp only [if_pos c7]
                rw [show mp s true p = mp s true (epi T tl 0 p) from rfl]
                simp (disch := omega) only [b2_ok, m_number h htl hT, epi_s, Nat.reduceAdd, Bool.true_and]
                by_cases c : okn T tl (epi T tl 0 p) 1 9 59 = true
                · simp only [c, if_true]
                  rw [show (182 : Int) = ((182 : Nat) : Int) from rfl, m_puts_t (by decide), bo_ok]
                  exact ⟨_, rfl, RdI.t hD.put FrI.sea⟩
                · have k := eq_false_of_ne_true c
                  simp only [k, Bool.false_eq_true, if_false]
                  simp only [m_puts_f, bo_ok]
                  exact ⟨_, rfl, RdI.f FrI.rf⟩
              · simp only [if_neg c7]
                rw [lt_ok, mp_w0]
                exact ⟨_, rfl, RdI.f FrI.rf⟩
end IT2

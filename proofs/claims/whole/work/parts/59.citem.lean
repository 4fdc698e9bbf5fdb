/-! ===== the class's reading of an ITEM ===== -/
def lmc (L : Int) : Nat := if L = 104 then 137 else if L = 98 then 138 else if L = 115 then 140 else if L = 100 then 139 else if L = 103 then 141 else if L = 114 then 142 else if L = 119 then 143 else 144
def lml (L : Int) : List (Int × Int) := if L = 104 then [(1, 99), (1, 9), (1, 10), (0, 15)] else if L = 98 then [(1, 8), (1, 9), (0, 99), (0, 999), (0, 9)] else if L = 115 then [(0, 10), (0, 23), (1, 9), (0, 9), (0, 24), (0, 3)] else if L = 100 then [(0, 3), (0, 3), (1, 99)] else if L = 103 then [(0, 3), (0, 23), (0, 9)] else if L = 114 then [(1, 9), (0, 200)] else if L = 119 then [(1, 9)] else []
def slo (L : Int) (k : Nat) : Int := ((lml L).getD k (0, 0)).1
def shi (L : Int) (k : Nat) : Int := ((lml L).getD k (0, 0)).2
def snB (T : Nat → Int) (tl p : Nat) : Nat → Nat → Bool
  | 0, _ => true
  | m + 1, k => syn T tl (epi T tl k p) (if m = 0 then 59 else 44) && snB T tl p m (k + 1)
def lmB (L : Int) (V : Nat → Int) : Nat → Nat → Bool
  | 0, _ => true
  | m + 1, k => (decide (slo L k ≤ V k) && decide (V k ≤ shi L k)) && lmB L V m (k + 1)
def dyB (L : Int) (V : Nat → Int) (cH cB cS : Nat) : Bool := if L = 98 then decide (cB < 4) else if L = 100 then decide (V 0 < cB) && decide (V 1 < cH) else if L = 103 then decide (V 0 < cS) else if L = 104 then decide (cH < 4) else if L = 115 then decide (cS < 4) else true
section CI
variable {T : Nat → Int} {tl : Nat} {s s' : Mem} {cH cB cS : Nat}
theorem gd_iff {p : Nat} (h : cH ≤ 4 ∧ cB ≤ 4 ∧ cS ≤ 4) (L : Int) : gdI T tl cH cB cS L p = (((decide (0 < wnt L) && snB T tl p (wnt L) 0) && lmB L (fun k => nn T tl (epi T tl k p)) (wnt L) 0) && dyB L (fun k => nn T tl (epi T tl k p)) cH cB cS) := by
  unfold gdI wnt dyB
  by_cases c104 : L = 104
  · subst c104
    rw [Bool.eq_iff_iff]
    simp [snB, lmB, slo, shi, lml, okn]
    try grind
  · simp only [if_neg c104]
    by_cases c98 : L = 98
    · subst c98
      rw [Bool.eq_iff_iff]
      simp [snB, lmB, slo, shi, lml, okn]
      try grind
    · simp only [if_neg c98]
      by_cases c115 : L = 115
      · subst c115
        rw [Bool.eq_iff_iff]
        simp [snB, lmB, slo, shi, lml, okn]
        try grind
      · simp only [if_neg c115]
        by_cases c100 : L = 100
        · subst c100
          rw [Bool.eq_iff_iff]
          simp [snB, lmB, slo, shi, lml, okn]
          try grind
        · simp only [if_neg c100]
          by_cases c103 : L = 103
          · subst c103
            rw [Bool.eq_iff_iff]
            simp [snB, lmB, slo, shi, lml, okn]
            try grind
          · simp only [if_neg c103]
            by_cases c114 : L = 114
            · subst c114
              rw [Bool.eq_iff_iff]
              simp [snB, lmB, slo, shi, lml, okn]
              try grind
            · simp only [if_neg c114]
              by_cases c119 : L = 119
              · subst c119
                rw [Bool.eq_iff_iff]
                simp [snB, lmB, slo, shi, lml, okn]
                try grind
              · simp only [if_neg c119]
                simp
theorem c_rdn (hT : ∀ k, 0 ≤ T k ∧ T k ≤ 255) (htl : tl ≤ 500) {k p : Nat} {e : Int} (hk : k < 6) (he : e = 44 ∨ e = 59) (h : AtC s T tl p) : (syn T tl p e = true ∧ fX6_readNumber k e s = some (1, mu (mu s 18 2 ((ep T tl p : Nat) : Int)) 20 k (nn T tl p))) ∨ (syn T tl p e = false ∧ ∃ x : Nat, fX6_readNumber k e s = some (0, mu s 18 2 (x : Int))) := by
  rcases c_readNumber hT htl hk he h with ⟨x, _, h1, h2⟩ | ⟨v, p', h1, _, _, _, _, h2⟩
  · refine Or.inr ⟨?_, x, h2⟩
    unfold pn at h1
    split at h1
    · exact absurd h1 (by simp)
    · rename_i c; exact decide_eq_false c
  · refine Or.inl ⟨?_, ?_⟩
    · unfold pn at h1
      split at h1
      · rename_i c; exact decide_eq_true c
      · exact absurd h1 (by simp)
    · unfold pn at h1
      split at h1
      · rename_i c
        simp only [Option.some.injEq, Prod.mk.injEq] at h1
        rw [h2, ← h1.1, ← h1.2]; rfl
      · exact absurd h1 (by simp)
/-- the class's reading has changed its place and its numbers alone -/
def FrN (s s' : Mem) : Prop := (∀ c, c ≠ 18 → c ≠ 20 → s' c = s c) ∧ (∀ f, f ≠ 2 → s' 18 f = s 18 f)
def FrT (s s' : Mem) : Prop := (∀ c, c ≠ 18 → c ≠ 20 → s' c = s c) ∧ (∀ f, f ≠ 2 → f ≠ 3 → s' 18 f = s 18 f)
theorem FrN.rf : FrN s s := ⟨fun _ _ _ => rfl, fun _ _ => rfl⟩
theorem FrN.trans {s1 s2 s3 : Mem} (h : FrN s1 s2) (h2 : FrN s2 s3) : FrN s1 s3 := ⟨fun c a b => (h2.1 c a b).trans (h.1 c a b), fun f a => (h2.2 f a).trans (h.2 f a)⟩
theorem FrN.at {x : Int} : FrN s (mu s 18 2 x) := ⟨fun c a _ => mu_ne _ _ _ a, fun f a => by rw [mu_same, fu_ne _ _ a]⟩
theorem FrN.num {k : Nat} {x : Int} : FrN s (mu s 20 k x) := ⟨fun c _ a => mu_ne _ _ _ a, fun f _ => by rw [mu_ne _ _ _ (by decide)]⟩
theorem AtC.num {p k : Nat} {x : Int} (h : AtC s T tl p) : AtC (mu s 20 k x) T tl p := by
  refine ⟨⟨?_, fun j hj => ?_⟩, ?_⟩
  · rw [mu_ne _ _ _ (by decide)]; exact h.1.1
  · rw [mu_ne _ _ _ (by decide)]; exact h.1.2 j hj
  · rw [mu_ne _ _ _ (by decide)]; exact h.2
theorem c_readItem_49 (hT : ∀ k, 0 ≤ T k ∧ T k ≤ 255) (htl : tl ≤ 500) {w p : Nat} (hw : w ≤ 6) : ∀ (m n k : Nat) (s : Mem), k + m = w → m < n → AtC s T tl (epi T tl k p) → (∀ j, j < k → s 20 j = nn T tl (epi T tl j p)) → ∃ s', fX6_readItem_49 n w k s = some (if decide (0 < w) && snB T tl p m k then 1 else 0, s') ∧ FrN s s' ∧ ((decide (0 < w) && snB T tl p m k) = true → AtC s' T tl (epi T tl w p) ∧ ∀ j, j < w → s' 20 j = nn T tl (epi T tl j p))
  | 0, n + 1, k, s, e, _, h, hn => by
    have e : k = w := by omega
    subst e
    refine ⟨s, ?_, FrN.rf, fun _ => ⟨h, hn⟩⟩
    rw [fX6_readItem_49, if_pos (by omega)]
    by_cases c : 0 < k
    · rw [if_neg (by omega), if_pos (by simp [c, snB])]
    · rw [if_pos (by omega), if_neg (by simp [c])]
  | m + 1, n + 1, k, s, e, hm, h, hn => by
    have hw0 : 0 < w := by omega
    have key : fX6_readItem_49 (n + 1) w k s = fX6_readItem_70 (fun p1 p2 s => fX6_readItem_49 n p1 p2 s) w k k (if m = 0 then 59 else 44) s := by
      rw [fX6_readItem_49, if_neg (by omega), w32_s (by omega)]
      by_cases c : m = 0
      · rw [if_pos (by omega), if_pos c]
      · rw [if_neg (by omega), if_neg c]
    rw [key, fX6_readItem_70]
    rcases c_rdn hT htl (k := k) (e := if m = 0 then 59 else 44) (by omega) (by split <;> simp) h with ⟨h1, h2⟩ | ⟨h1, x, h2⟩
    · obtain ⟨s', g1, g2, g3⟩ := c_readItem_49 hT htl hw m n (k + 1) (mu (mu s 18 2 ((ep T tl (epi T tl k p) : Nat) : Int)) 20 k (nn T tl (epi T tl k p))) (by omega) (by omega) (h.step _).num (fun j hj => by
        rw [mu_same]
        by_cases c : j = k
        · subst c; rw [fu_same]
        · rw [fu_ne _ _ c, mu_ne _ _ _ (by decide)]; exact hn j (by omega))
      refine ⟨s', ?_, (FrN.at.trans FrN.num).trans g2, ?_⟩
      · rw [h2, b2_ok, if_neg (by decide), lt_ok, w32_s (by omega), g1, snB, h1, Bool.true_and]
      · rw [snB, h1, Bool.true_and]; exact g3
    · refine ⟨mu s 18 2 (x : Int), ?_, FrN.at, ?_⟩
      · rw [h2, b2_ok, if_pos rfl, snB, h1]; simp
      · rw [snB, h1]; simp
  | _, 0, _, _, _, hn, _, _ => absurd hn (by omega)
theorem c_limitsOf {x : Int} (h0 : 0 ≤ x) (h1 : x ≤ 255) (s : Mem) : fX6_limitsOf (w8 x) s = some (lmc x, s) := by
  unfold fX6_limitsOf lmc
  simp only [w8_eq h0 h1 (show (0 : Int) ≤ 98 by decide) (by decide), w8_eq h0 h1 (show (0 : Int) ≤ 100 by decide) (by decide), w8_eq h0 h1 (show (0 : Int) ≤ 103 by decide) (by decide), w8_eq h0 h1 (show (0 : Int) ≤ 104 by decide) (by decide), w8_eq h0 h1 (show (0 : Int) ≤ 114 by decide) (by decide), w8_eq h0 h1 (show (0 : Int) ≤ 115 by decide) (by decide), w8_eq h0 h1 (show (0 : Int) ≤ 119 by decide) (by decide)]
  repeat' split
  all_goals first | rfl | (exfalso; omega)
theorem lmc_w (L : Int) : (137 ≤ lmc L ∧ lmc L < 145) ∧ w32 (Int.tdiv ((st_l (lmc L) : Nat) : Int) 2) = (wnt L : Int) ∧ wnt L ≤ 6 := by
  unfold lmc wnt
  by_cases c1 : L = 104
  · simp only [if_pos c1]; decide +kernel
  · simp only [if_neg c1]
    by_cases c2 : L = 98
    · simp only [if_pos c2]; decide +kernel
    · simp only [if_neg c2]
      by_cases c3 : L = 115
      · simp only [if_pos c3]; decide +kernel
      · simp only [if_neg c3]
        by_cases c4 : L = 100
        · simp only [if_pos c4]; decide +kernel
        · simp only [if_neg c4]
          by_cases c5 : L = 103
          · simp only [if_pos c5]; decide +kernel
          · simp only [if_neg c5]
            by_cases c6 : L = 114
            · simp only [if_pos c6]; decide +kernel
            · simp only [if_neg c6]
              by_cases c7 : L = 119
              · simp only [if_pos c7]; decide +kernel
              · simp only [if_neg c7]; decide +kernel
theorem lmc_r {L : Int} {k : Nat} (hk : k < wnt L) : rdS (lmc L) ((2 * k : Nat) : Int) = some (slo L k) ∧ rdS (lmc L) ((2 * k + 1 : Nat) : Int) = some (shi L k) := by
  revert hk
  unfold lmc wnt slo shi lml
  have z1 : ∀ k, k < 4 → rdS 137 ((2 * k : Nat) : Int) = some (([(1, 99), (1, 9), (1, 10), (0, 15)] : List (Int × Int)).getD k (0, 0)).1 ∧ rdS 137 ((2 * k + 1 : Nat) : Int) = some (([(1, 99), (1, 9), (1, 10), (0, 15)] : List (Int × Int)).getD k (0, 0)).2 := by decide +kernel
  have z2 : ∀ k, k < 5 → rdS 138 ((2 * k : Nat) : Int) = some (([(1, 8), (1, 9), (0, 99), (0, 999), (0, 9)] : List (Int × Int)).getD k (0, 0)).1 ∧ rdS 138 ((2 * k + 1 : Nat) : Int) = some (([(1, 8), (1, 9), (0, 99), (0, 999), (0, 9)] : List (Int × Int)).getD k (0, 0)).2 := by decide +kernel
  have z3 : ∀ k, k < 6 → rdS 140 ((2 * k : Nat) : Int) = some (([(0, 10), (0, 23), (1, 9), (0, 9), (0, 24), (0, 3)] : List (Int × Int)).getD k (0, 0)).1 ∧ rdS 140 ((2 * k + 1 : Nat) : Int) = some (([(0, 10), (0, 23), (1, 9), (0, 9), (0, 24), (0, 3)] : List (Int × Int)).getD k (0, 0)).2 := by decide +kernel
  have z4 : ∀ k, k < 3 → rdS 139 ((2 * k : Nat) : Int) = some (([(0, 3), (0, 3), (1, 99)] : List (Int × Int)).getD k (0, 0)).1 ∧ rdS 139 ((2 * k + 1 : Nat) : Int) = some (([(0, 3), (0, 3), (1, 99)] : List (Int × Int)).getD k (0, 0)).2 := by decide +kernel
  have z5 : ∀ k, k < 3 → rdS 141 ((2 * k : Nat) : Int) = some (([(0, 3), (0, 23), (0, 9)] : List (Int × Int)).getD k (0, 0)).1 ∧ rdS 141 ((2 * k + 1 : Nat) : Int) = some (([(0, 3), (0, 23), (0, 9)] : List (Int × Int)).getD k (0, 0)).2 := by decide +kernel
  have z6 : ∀ k, k < 2 → rdS 142 ((2 * k : Nat) : Int) = some (([(1, 9), (0, 200)] : List (Int × Int)).getD k (0, 0)).1 ∧ rdS 142 ((2 * k + 1 : Nat) : Int) = some (([(1, 9), (0, 200)] : List (Int × Int)).getD k (0, 0)).2 := by decide +kernel
  have z7 : ∀ k, k < 1 → rdS 143 ((2 * k : Nat) : Int) = some (([(1, 9)] : List (Int × Int)).getD k (0, 0)).1 ∧ rdS 143 ((2 * k + 1 : Nat) : Int) = some (([(1, 9)] : List (Int × Int)).getD k (0, 0)).2 := by decide +kernel
  by_cases c1 : L = 104
  · simp only [if_pos c1]; exact z1 k
  · simp only [if_neg c1]
    by_cases c2 : L = 98
    · simp only [if_pos c2]; exact z2 k
    · simp only [if_neg c2]
      by_cases c3 : L = 115
      · simp only [if_pos c3]; exact z3 k
      · simp only [if_neg c3]
        by_cases c4 : L = 100
        · simp only [if_pos c4]; exact z4 k
        · simp only [if_neg c4]
          by_cases c5 : L = 103
          · simp only [if_pos c5]; exact z5 k
          · simp only [if_neg c5]
            by_cases c6 : L = 114
            · simp only [if_pos c6]; exact z6 k
            · simp only [if_neg c6]
              by_cases c7 : L = 119
              · simp only [if_pos c7]; exact z7 k
              · simp only [if_neg c7]; intro z; exact absurd z (by omega)
/-- the class at p, with so many HARBOURS, SORTS, STORMS counted, and so many tenths -/
def CnC (s : Mem) (cH cB cS : Nat) (tn : Int) : Prop := s 18 5 = cH ∧ s 18 6 = cB ∧ s 18 7 = cS ∧ s 18 8 = tn
theorem c_isSound_10 {L : Int} (h0 : 0 ≤ L) (h1 : L ≤ 255) {tn : Int} (hC : CnC s cH cB cS tn) (hL : s 18 3 = w8 L) : ∀ (m n k : Nat), k + m = wnt L → m < n → fX6_isSound_10 n (lmc L) k s = some (if lmB L (s 20) m k && dyB L (s 20) cH cB cS then 1 else 0, s)
  | 0, n + 1, k, e, _ => by
    have hl := lmc_w L
    rw [fX6_isSound_10, ck_ok hl.1, hl.2.1, if_pos (by omega), lt_ok, hL]
    simp only [w8_eq h0 h1 (show (0 : Int) ≤ 98 by decide) (by decide), w8_eq h0 h1 (show (0 : Int) ≤ 100 by decide) (by decide), w8_eq h0 h1 (show (0 : Int) ≤ 103 by decide) (by decide), w8_eq h0 h1 (show (0 : Int) ≤ 104 by decide) (by decide), w8_eq h0 h1 (show (0 : Int) ≤ 115 by decide) (by decide)]
    rw [hC.1, hC.2.1, hC.2.2.1]
    simp (disch := omega) only [rd_text_numbers, bo_ok, Int.reduceToNat]
    rw [lmB, Bool.true_and]
    unfold dyB
    by_cases c1 : L = 98
    · simp only [if_pos c1]; by_cases c : cB < 4
      · rw [if_neg (by omega), if_pos (by simpa using c)]
      · rw [if_pos (by omega), if_neg (by simpa using c)]
    · simp only [if_neg c1]
      by_cases c2 : L = 100
      · simp only [if_pos c2]
        by_cases c : s 20 0 < cB
        · rw [if_neg (by omega)]
          by_cases c' : s 20 1 < cH
          · rw [if_neg (by omega), if_pos (by simp [c, c'])]
          · rw [if_pos (by omega), if_neg (by simp [c'])]
        · rw [if_pos (by omega), if_neg (by simp [c])]
      · simp only [if_neg c2]
        by_cases c3 : L = 103
        · simp only [if_pos c3]; by_cases c : s 20 0 < cS
          · rw [if_neg (by omega), if_pos (by simp [c])]
          · rw [if_pos (by omega), if_neg (by simp [c])]
        · simp only [if_neg c3]
          by_cases c4 : L = 104
          · simp only [if_pos c4]; by_cases c : cH < 4
            · rw [if_neg (by omega), if_pos (by simpa using c)]
            · rw [if_pos (by omega), if_neg (by simpa using c)]
          · simp only [if_neg c4]
            by_cases c5 : L = 115
            · simp only [if_pos c5]; by_cases c : cS < 4
              · rw [if_neg (by omega), if_pos (by simpa using c)]
              · rw [if_pos (by omega), if_neg (by simpa using c)]
            · simp only [if_neg c5]; simp
  | m + 1, n + 1, k, e, hn => by
    have hl := lmc_w L
    have hr := lmc_r (L := L) (k := k) (by omega)
    rw [fX6_isSound_10, ck_ok hl.1, hl.2.1, if_neg (by omega)]
    simp (disch := omega) only [nab, na_0, na_1, na_2, na_3, na_4, na_5, na_6, na_8, na_10, na_12, na_16, na_24, na_36, na_52, na_76, na_120, na_172, na_186, nb_0, nb_1, nb_2, nb_3, nb_4, nb_5, nb_6, nb_8, nb_10, nb_12, nb_16, nb_24, nb_36, nb_52, nb_76, nb_120, nb_172, nb_186, nm_2, nm_3, nm_4, nm_5, nm_6, nm_8, nm_10, nm_12, nm_16, nm_24, nm_36, nm_52, nm_76, nm_120, nm_172, nm_186, nn_2, nn_3, nn_4, nn_5, nn_6, nn_8, nn_10, nn_12, nn_16, nn_24, nn_36, nn_52, nn_76, nn_120, nn_172, nn_186, rd_text_numbers, bo_ok, Int.toNat_natCast, hr.1, hr.2, lt_ok]
    rw [lmB]
    by_cases c : s 20 k < slo L k
    · rw [if_pos c, if_neg (by simp; intro z; omega)]
    · rw [if_neg c]
      by_cases c2 : s 20 k ≤ shi L k
      · rw [if_pos c2, c_isSound_10 h0 h1 hC hL m n (k + 1) (by omega) (by omega)]
        rw [decide_eq_true c2, decide_eq_true (show slo L k ≤ s 20 k by omega)]; simp
      · rw [if_neg c2, if_neg (by simp [c2])]
  | _, 0, _, _, hn => absurd hn (by omega)
theorem lmB_congr {L : Int} {V V' : Nat → Int} : ∀ (m k : Nat), (∀ j, j < k + m → V j = V' j) → lmB L V m k = lmB L V' m k
  | 0, _, _ => rfl
  | m + 1, k, h => by rw [lmB, lmB, h k (by omega), lmB_congr m (k + 1) (fun j hj => h j (by omega))]
theorem dyB_congr {L : Int} {V V' : Nat → Int} (h : ∀ j, j < wnt L → V j = V' j) : dyB L V cH cB cS = dyB L V' cH cB cS := by
  revert h
  unfold dyB wnt
  by_cases c1 : L = 100
  · subst c1; intro h; simp at h ⊢; rw [h 0 (by omega), h 1 (by omega)]
  · by_cases c2 : L = 103
    · subst c2; intro h; simp at h ⊢; rw [h 0 (by omega)]
    · intro _; simp only [if_neg c1, if_neg c2]
/-- readItem and isSound: an ITEM that is so, or none -/
theorem c_item (hT : ∀ k, 0 ≤ T k ∧ T k ≤ 255) (htl : tl ≤ 500) {p : Nat} (hp : p < tl) (h : AtC s T tl p) {tn : Int} (hC : CnC s cH cB cS tn) (h4 : cH ≤ 4 ∧ cB ≤ 4 ∧ cS ≤ 4) : ∃ r s5, fX6_readItem s = some (r, s5) ∧ FrT s s5 ∧ ((r = 0 ∧ gdI T tl cH cB cS (T p) (p + 1) = false) ∨ (r = 1 ∧ ∃ r2, fX6_isSound s5 = some (r2, s5) ∧ ((r2 = 0 ∧ gdI T tl cH cB cS (T p) (p + 1) = false) ∨ (r2 = 1 ∧ gdI T tl cH cB cS (T p) (p + 1) = true ∧ AtC s5 T tl (epi T tl (wnt (T p)) (p + 1)) ∧ s5 18 3 = w8 (T p) ∧ ∀ j, j < wnt (T p) → s5 20 j = nn T tl (epi T tl j (p + 1)))))) := by
  have hTp := hT p
  have hl := lmc_w (T p)
  let s4 := mu (mu s 18 3 (w8 (T p))) 18 2 ((p + 1 : Nat) : Int)
  have a4 : AtC s4 T tl (epi T tl 0 (p + 1)) := by
    refine AtC.step (p := p) ⟨⟨?_, fun j hj => ?_⟩, ?_⟩ (p + 1)
    · rw [mu_same, fu_ne _ _ (by decide)]; exact h.1.1
    · rw [mu_ne _ _ _ (by decide)]; exact h.1.2 j hj
    · rw [mu_same, fu_ne _ _ (by decide)]; exact h.2
  have f4 : FrT s s4 := ⟨fun c a _ => by show mu (mu s _ _ _) _ _ _ c = _; rw [mu_ne _ _ _ a, mu_ne _ _ _ a], fun f a b => by show mu (mu s _ _ _) _ _ _ _ f = _; rw [mu_same, fu_ne _ _ a, mu_same, fu_ne _ _ b]⟩
  have l4 : s4 18 3 = w8 (T p) := by show mu (mu s _ _ _) _ _ _ _ 3 = _; rw [mu_same, fu_ne _ _ (by decide), mu_same, fu_same]
  obtain ⟨s5, g1, g2, g3⟩ := c_readItem_49 hT htl hl.2.2 (wnt (T p)) 600 0 s4 (by omega) (by omega) a4 (fun j hj => absurd hj (by omega))
  have f5 : FrT s s5 := ⟨fun c a b => (g2.1 c a b).trans (f4.1 c a b), fun f a b => (g2.2 f a).trans (f4.2 f a b)⟩
  have e1 : fX6_readItem s = some (if decide (0 < wnt (T p)) && snB T tl (p + 1) (wnt (T p)) 0 then 1 else 0, s5) := by
    rw [← g1]
    unfold fX6_readItem
    rw [h.2, h.1.1, if_pos (by omega)]
    simp (disch := omega) only [rd_text_bytes, bo_ok, lt_ok, Int.toNat_natCast, h.1.2 p hp]
    have e2 : (mu s 18 3 (w8 (T p))) 18 2 = (p : Int) := by rw [mu_same, fu_ne _ _ (by decide)]; exact h.2
    rw [e2, w32_s (by omega)]
    show b2 (fX6_limitsOf (s4 18 3) s4) _ = _
    rw [l4, c_limitsOf hTp.1 hTp.2, b2_ok, ck_ok hl.1, hl.2.1]
    rfl
  have l5 : s5 18 3 = w8 (T p) := by rw [g2.2 3 (by decide)]; exact l4
  refine ⟨_, s5, e1, f5, ?_⟩
  rw [gd_iff h4]
  by_cases c : (decide (0 < wnt (T p)) && snB T tl (p + 1) (wnt (T p)) 0) = true
  · obtain ⟨h5, n5⟩ := g3 c
    refine Or.inr ⟨if_pos c, ?_⟩
    have hC5 : CnC s5 cH cB cS tn := ⟨(f5.2 5 (by decide) (by decide)).trans hC.1, (f5.2 6 (by decide) (by decide)).trans hC.2.1, (f5.2 7 (by decide) (by decide)).trans hC.2.2.1, (f5.2 8 (by decide) (by decide)).trans hC.2.2.2⟩
    have es := c_isSound_10 hTp.1 hTp.2 hC5 l5 (wnt (T p)) 600 0 (by omega) (by omega)
    rw [lmB_congr (V' := fun k => nn T tl (epi T tl k (p + 1))) (wnt (T p)) 0 (fun j hj => n5 j (by omega)), dyB_congr (V' := fun k => nn T tl (epi T tl k (p + 1))) n5] at es
    have es2 : fX6_isSound s5 = fX6_isSound_10 600 (lmc (T p)) ((0 : Nat) : Int) s5 := by
      unfold fX6_isSound
      rw [l5, c_limitsOf hTp.1 hTp.2, b2_ok]
      rfl
    rw [es2]
    refine ⟨_, es, ?_⟩
    · rw [c, Bool.true_and]
      by_cases c2 : (lmB (T p) (fun k => nn T tl (epi T tl k (p + 1))) (wnt (T p)) 0 && dyB (T p) (fun k => nn T tl (epi T tl k (p + 1))) cH cB cS) = true
      · rw [if_pos c2]
        exact Or.inr ⟨rfl, c2, h5, l5, n5⟩
      · rw [if_neg c2]
        exact Or.inl ⟨rfl, eq_false_of_ne_true c2⟩
  · rw [if_neg c, eq_false_of_ne_true c]
    exact Or.inl ⟨rfl, rfl⟩
end CI

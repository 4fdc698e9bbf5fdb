section RM
variable {D : Nat → Int} {nH nB nS q th : Nat} {N K : Nat → Int} {kc : Nat} {T : Nat → Int} {tl : Nat} {rule : Int} {s s1 s2 s' : Mem} {a : (Nat → Nat) × (Nat → Nat)}
def RfM (s : Mem) (D N : Nat → Int) (nB : Nat) (a : (Nat → Nat) × (Nat → Nat)) : Prop := ∀ i, i < nB → s 5 i = ((a.1 i : Nat) : Int) ∧ s 6 i = (((if a.1 i < 24 then a.2 i else gN N i) : Nat) : Int) ∧ s 7 i = vD D i
theorem gone_cg {U U' : Nat → Nat} {t : Nat} : ∀ m, (∀ i, i < m → (U' i < t ↔ U i < t)) → gone D U' t m = gone D U t m
  | 0, _ => rfl
  | m + 1, h => by
    rw [gone, gone, gone_cg m (fun i hi => h i (by omega))]
    by_cases c : U m < t
    · rw [if_pos c, if_pos ((h m (by omega)).mpr c)]
    · rw [if_neg c, if_neg (fun z => c ((h m (by omega)).mp z))]
theorem gone_put {U : Nat → Nat} {t i : Nat} (hi : U i = 24) (ht : t < 24) : ∀ m, gone D (fun k => if k = i then t else U k) (t + 1) m = gone D U (t + 1) m + if i < m then nbF D i else 0
  | 0 => rfl
  | m + 1 => by
    have ih := gone_put hi ht m
    rw [gone, gone, ih]
    by_cases c : m = i
    · subst c
      rw [if_pos rfl, if_pos (show t < t + 1 by omega), if_neg (show ¬ m < m by omega), if_neg (show ¬ U m < t + 1 by omega), if_pos (show m < m + 1 by omega)]
    · rw [if_neg c]
      have e : (i < m + 1) = (i < m) := propext (by omega)
      simp only [e]; omega
theorem gone_nx {U : Nat → Nat} {t : Nat} (h : ∀ i, U i < t ∨ U i = 24) (ht : t < 24) : ∀ m, gone D U t m + 0 = gone D U (t + 1) m
  | 0 => rfl
  | m + 1 => by
    have := gone_nx h ht m
    have hm := h m
    rw [gone, gone]
    by_cases c : U m < t
    · rw [if_pos c, if_pos (by omega)]; omega
    · rw [if_neg c, if_neg (by omega)]; omega
theorem m_goes (h : SeaOk D nH nB nS) (hM : SeaM s D) (hN : NowM s N) (hq : q < nS) {t i : Nat} (ht : t < 24) (hi : i < nB) {K : Int → Int → Int → Int → Mem → Option Mem} {n : Nat} {p5 : Int} : fX9_ruled_53 K (n + 1) rule q ((gone D a.1 t nB : Nat) : Int) t p5 i s = fX9_ruled_117 K (fun p1 p2 p3 p4 p5 p6 s => fX9_ruled_53 K n p1 p2 p3 p4 p5 p6 s) rule q ((gone D a.1 t nB : Nat) : Int) t p5 i (if rgo D N nB rule q t i a.1 = true then 1 else 0) s := by
  have hb := h.1
  have h95 : ∀ (K2 : Int → Int → Int → Int → Int → Int → Mem → Option Mem), fX9_ruled_95 K K2 rule q ((gone D a.1 t nB : Nat) : Int) t p5 i s = fX9_ruled_117 K K2 rule q ((gone D a.1 t nB : Nat) : Int) t p5 i (if N 8 ≤ D (76 + 24 * q + t) then 1 else 0) s := fun K2 => by
    unfold fX9_ruled_95
    rw [m_glass hM (by omega) ht, b2_ok, rd_m_now (by omega) (by omega), bo_ok, show Int.toNat 8 = 8 from rfl, hN.at (by decide)]
    by_cases c : N 8 ≤ D (76 + 24 * q + t)
    · rw [if_neg (by omega), if_pos c]
    · rw [if_pos (by omega), if_neg c]
  rw [fX9_ruled_53]
  simp (disch := omega) only [rd_m_sea, bo_ok, Int.reduceToNat, hM.at]
  rw [if_neg (by omega), h95]
  by_cases c2 : rule = 2
  · rw [if_pos c2]
    by_cases ci : 0 < i
    · have er : rgo D N nB rule q t i a.1 = decide (N 9 ≤ ((gone D a.1 t nB : Nat) : Int)) := if_pos ⟨c2, ci⟩
      rw [er, if_neg (by omega), rd_m_now (by omega) (by omega), bo_ok, show Int.toNat 9 = 9 from rfl, hN.at (by decide)]
      simp only [decide_eq_true_eq]
      by_cases c : N 9 ≤ ((gone D a.1 t nB : Nat) : Int)
      · rw [if_neg (by omega), if_pos c]
      · rw [if_pos (by omega), if_neg c]
    · have er : rgo D N nB rule q t i a.1 = decide (N 8 ≤ D (76 + 24 * q + t)) := if_neg (fun z => ci z.2)
      rw [er, if_pos (by omega)]
      simp only [decide_eq_true_eq]
  · have er : rgo D N nB rule q t i a.1 = decide (N 8 ≤ D (76 + 24 * q + t)) := if_neg (fun z => c2 z.1)
    rw [er, if_neg c2]
    simp only [decide_eq_true_eq]
theorem RfM.put (h : RfM s D N nB a) {i u j : Nat} (hu : u < 24) : RfM (mu (mu s 5 i ((u : Nat) : Int)) 6 i ((j : Nat) : Int)) D N nB (fun k => if k = i then u else a.1 k, fun k => if k = i then j else a.2 k) := fun k hk => by
  dsimp only
  rw [mu_ne _ _ _ (by decide), mu_same, mu_same, mu_ne _ _ _ (by decide)]
  by_cases c : k = i
  · subst c
    rw [fu_same, fu_same, mu_ne _ _ _ (by decide)]
    simp only [if_true, if_pos hu]
    exact ⟨trivial, trivial, (h k hk).2.2⟩
  · rw [fu_ne _ _ c, fu_ne _ _ c, mu_ne _ _ _ (by decide), mu_ne _ _ _ (by decide)]
    simp only [if_neg c]
    exact h k hk
theorem m_ruled_53 (h : SeaOk D nH nB nS) (e11 : N 11 = th) (hth : th < 16) (hq : q < nS) {t : Nat} (ht : t < 24) (K : Int → Int → Int → Int → Mem → Option Mem) : ∀ (m n i : Nat) (s : Mem) (a : (Nat → Nat) × (Nat → Nat)) (ran p5 : Nat), i + m = nB → m < n → SeaM s D → NowM s N → RfM s D N nB a → ran = gone D a.1 t nB → ran + p5 = gone D a.1 (t + 1) nB → ∃ s', fX9_ruled_53 K n rule q ((ran : Nat) : Int) t ((p5 : Nat) : Int) i s = K rule q ((gone D (itr (rst D N nH nB nS th rule q t) m i a).1 (t + 1) nB : Nat) : Int) ((t + 1 : Nat) : Int) s' ∧ RfM s' D N nB (itr (rst D N nH nB nS th rule q t) m i a) ∧ (∀ c, c ≠ 5 → c ≠ 6 → s' c = s c)
  | m, 0, _, _, _, _, _, _, hn, _, _, _, _, _ => absurd hn (by omega)
  | 0, n + 1, i, s, a, ran, p5, e, _, hM, hN, hR, h1, h2 => by
    have hb := h.1
    have hg := gone_le h (U := a.1) (t := t + 1) nB (by omega)
    refine ⟨s, ?_, hR, fun _ _ _ => rfl⟩
    rw [fX9_ruled_53]
    simp (disch := omega) only [rd_m_sea, bo_ok, Int.reduceToNat, hM.at]
    rw [if_pos (by omega), lt_ok, lt_ok, nab (by omega), w32_s (by omega), h2]; rfl
  | m + 1, n + 1, i, s, a, ran, p5, e, hn, hM, hN, hR, h1, h2 => by
    have hb := h.1
    have hg := gone_le h (U := a.1) (t := t + 1) nB (by omega)
    have hn8 := nbF_i h (i := i) (by omega)
    have ih := m_ruled_53 h e11 hth hq ht K m n (i + 1)
    subst h1
    rw [itr_succ, m_goes h hM hN hq ht (by omega)]
    unfold fX9_ruled_117
    by_cases cr : rgo D N nB rule q t i a.1 = true
    · rw [if_neg (by rw [if_pos cr]; decide), rd_m_hours (by omega) (by omega), bo_ok, Int.toNat_natCast, (hR i (by omega)).1]
      by_cases c : a.1 i = 24
      · have er : rst D N nH nB nS th rule q t i a = (fun k => if k = i then t else a.1 k, fun k => if k = i then dst D nH nS th rule i t else a.2 k) := if_pos ⟨c, cr⟩
        have hM1 : SeaM (mu s 5 i ((t : Nat) : Int)) D := hM.fr (mu_ne _ _ _ (by decide))
        have hN1 : NowM (mu s 5 i ((t : Nat) : Int)) N := fun k hk => by rw [mu_ne _ _ _ (by decide)]; exact hN k hk
        have fr : ∀ c, c ≠ 5 → c ≠ 6 → mu (mu s 5 i ((t : Nat) : Int)) 6 i ((dst D nH nS th rule i t : Nat) : Int) c = s c := fun c h5 h6 => by rw [mu_ne _ _ _ h6, mu_ne _ _ _ h5]
        have hM2 : SeaM (mu (mu s 5 i ((t : Nat) : Int)) 6 i ((dst D nH nS th rule i t : Nat) : Int)) D := hM.fr (fr 1 (by decide) (by decide))
        have hgp := gone_put (D := D) (U := a.1) c ht nB
        rw [if_pos (show i < nB by omega)] at hgp
        obtain ⟨s', q1, q2, q3⟩ := ih (mu (mu s 5 i ((t : Nat) : Int)) 6 i ((dst D nH nS th rule i t : Nat) : Int)) _ (gone D a.1 t nB) (p5 + nbF D i) (by omega) (by omega) hM2 (fun k hk => by rw [fr 2 (by decide) (by decide)]; exact hN k hk) (hR.put (i := i) (u := t) (j := dst D nH nS th rule i t) ht) (by
          dsimp only
          refine (gone_cg nB (fun k hk => ?_)).symm
          by_cases ck : k = i
          · subst ck; rw [if_pos rfl]; omega
          · rw [if_neg ck]) (by
          dsimp only
          rw [hgp]; omega)
        rw [er]
        refine ⟨s', ?_, q2, fun c h5 h6 => by rw [q3 c h5 h6, fr c h5 h6]⟩
        rw [if_pos (by omega), wr_m_hours (by omega) (by omega), bo_ok, Int.toNat_natCast, m_openest h hM1 hN1 e11 hth (by omega) (by omega), b2_ok, m_nearest h hM1 (by omega), b2_ok]
        have k173 : ∀ (r : Nat), r = dst D nH nS th rule i t → fX9_ruled_173 K (fun p1 p2 p3 p4 p5 p6 s => fX9_ruled_53 K n p1 p2 p3 p4 p5 p6 s) rule q ((gone D a.1 t nB : Nat) : Int) t ((p5 : Nat) : Int) i i ((r : Nat) : Int) (mu s 5 i ((t : Nat) : Int)) = fX9_ruled_53 K n rule q ((gone D a.1 t nB : Nat) : Int) t ((p5 + nbF D i : Nat) : Int) ((i + 1 : Nat) : Int) (mu (mu s 5 i ((t : Nat) : Int)) 6 i ((dst D nH nS th rule i t : Nat) : Int)) := fun r er => by
          subst er
          unfold fX9_ruled_173
          rw [wr_m_goals (by omega) (by omega), bo_ok, Int.toNat_natCast]
          simp (disch := omega) only [nab, na_0, na_1, na_2, na_3, na_4, na_5, na_6, na_8, na_10, na_12, na_16, na_24, na_36, na_52, na_76, na_120, na_172, na_186, nb_0, nb_1, nb_2, nb_3, nb_4, nb_5, nb_6, nb_8, nb_10, nb_12, nb_16, nb_24, nb_36, nb_52, nb_76, nb_120, nb_172, nb_186, nm_2, nm_3, nm_4, nm_5, nm_6, nm_8, nm_10, nm_12, nm_16, nm_24, nm_36, nm_52, nm_76, nm_120, nm_172, nm_186, nn_2, nn_3, nn_4, nn_5, nn_6, nn_8, nn_10, nn_12, nn_16, nn_24, nn_36, nn_52, nn_76, nn_120, nn_172, nn_186, rd_m_sea, bo_ok, lt_ok, Int.toNat_natCast, hM2.at]
          rw [← hn8.1, nab (by omega)]
        by_cases c3 : rule = 3
        · rw [if_pos c3]
          exact (k173 _ (by unfold dst; rw [if_pos c3])).trans q1
        · rw [if_neg c3]
          exact (k173 _ (by unfold dst; rw [if_neg c3])).trans q1
      · have er : rst D N nH nB nS th rule q t i a = a := if_neg (fun z => c z.1)
        rw [er, if_neg (by omega), lt_ok, w32_s (by omega)]
        exact ih s a _ p5 (by omega) (by omega) hM hN hR rfl h2
    · have er : rst D N nH nB nS th rule q t i a = a := if_neg (fun z => cr z.2)
      rw [er, if_pos (by rw [if_neg cr]), lt_ok, w32_s (by omega)]
      exact ih s a _ p5 (by omega) (by omega) hM hN hR rfl h2
theorem rhr_lt {t : Nat} (ha : ∀ i, a.1 i < t ∨ a.1 i = 24) : ∀ i, (rhr D N nH nB nS th rule q t a).1 i < t + 1 ∨ (rhr D N nH nB nS th rule q t a).1 i = 24 := by
  unfold rhr
  refine itr_inv (fun _ (b : (Nat → Nat) × (Nat → Nat)) => ∀ i, b.1 i < t + 1 ∨ b.1 i = 24) (fun i => by have := ha i; omega) (fun j b _ _ hb i => ?_)
  unfold rst
  split
  · dsimp only
    by_cases c : i = j
    · rw [if_pos c]; omega
    · rw [if_neg c]; exact hb i
  · exact hb i
theorem m_ruled_35 (h : SeaOk D nH nB nS) (e11 : N 11 = th) (hth : th < 16) (hq : q < nS) (hr : rule < 4) : ∀ (m n t : Nat) (s : Mem) (a : (Nat → Nat) × (Nat → Nat)), t + m = 24 → m < n → SeaM s D → NowM s N → RfM s D N nB a → (∀ i, a.1 i < t ∨ a.1 i = 24) → ∃ s', fX9_ruled_35 n rule q ((gone D a.1 t nB : Nat) : Int) t s = some s' ∧ RfM s' D N nB (itr (rhr D N nH nB nS th rule q) m t a) ∧ (∀ c, c ≠ 5 → c ≠ 6 → s' c = s c)
  | m, 0, _, _, _, _, hn, _, _, _, _ => absurd hn (by omega)
  | 0, n + 1, t, s, a, e, _, hM, hN, hR, ha => ⟨s, by rw [fX9_ruled_35, if_pos (by omega)], hR, fun _ _ _ => rfl⟩
  | m + 1, n + 1, t, s, a, e, hn, hM, hN, hR, ha => by
    have hb := h.1
    obtain ⟨s1, p1, p2, p3⟩ := m_ruled_53 (rule := rule) h e11 hth hq (show t < 24 by omega) (fun p1 p2 p3 p4 s => fX9_ruled_35 n p1 p2 p3 p4 s) nB 600 0 s a (gone D a.1 t nB) 0 (by omega) (by omega) hM hN hR rfl (gone_nx ha (by omega) nB)
    obtain ⟨s', q1, q2, q3⟩ := m_ruled_35 h e11 hth hq hr m n (t + 1) s1 (rhr D N nH nB nS th rule q t a) (by omega) (by omega) (hM.fr (p3 _ (by decide) (by decide))) (fun k hk => by rw [p3 2 (by decide) (by decide)]; exact hN k hk) p2 (rhr_lt ha)
    rw [itr_succ]
    refine ⟨s', ?_, q2, fun c h5 h6 => by rw [q3 c h5 h6, p3 c h5 h6]⟩
    rw [fX9_ruled_35, if_neg (by omega), if_neg (by omega)]
    exact p1.trans q1
end RM

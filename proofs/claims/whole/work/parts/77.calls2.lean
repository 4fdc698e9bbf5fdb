/-! ===== who is in, what lives, who is shut out ===== -/
section C2
variable {D : Nat → Int} {nH nB nS q : Nat} {N K : Nat → Int} {kc : Nat} {T : Nat → Int} {tl : Nat} {U G : Nat → Nat} {V : Nat → Int} {w : Bool} {s s1 s2 s' : Mem}
/-- both sail by the told PLANS -/
theorem both_sail (hV : VOk D nH nB nS N K kc T tl) (hM : InvM s D N K kc T tl) (hC : InvC s D nH nB nS N K kc T tl) (hq : q < nS) : ∃ s0 s1 s3 s4 v, fX2_asUsual s = some s0 ∧ fX2_sail q 110 s0 = some s1 ∧ SlC s1 D nH nB nS 111 112 (uN N) (gN N) (vD D) false ∧ PsC s1 nB (nbF D) (FF D nB q (uN N) (gN N) (vD D) false) ∧ SeaM (mu s1 0 0 0) D ∧ fX9_asPlanned (mu s1 0 0 0) = some s3 ∧ fX9_goesBy q 0 s3 = some (v, s4) ∧ SeaM s4 D ∧ BoC s4 D nB q (uN N) (gN N) (vD D) (FF D nB q (uN N) (gN N) (vD D) false) 24 ∧ (∀ i, i < 4 → s4 5 i = ((uN N i : Nat) : Int)) ∧ Inv s4 := by
  obtain ⟨u1, u2, u3, u4⟩ := c_usual hC hV.1 hV.2.1
  have hP := PlOk'.now hV.1 hV.2.1
  obtain ⟨s1, p1, p2, p3⟩ := c_sail (hP.at hq) plc_w u2
  have f1 : ∀ k, k < 122 → s1 k = s k := fun k hk => by rw [p2 k (by omega), u4 k (by omega)]
  have hM1 : InvM s1 D N K kc T tl := hM.fr (fun k hk => f1 k (by omega))
  obtain ⟨s3, z1, z2, z3, z4, z5, z6⟩ := m_begin hV hM1
  obtain ⟨s4, g1, g2, g3, g4⟩ := m_goesBy (w := false) (hP.at hq) z2
  refine ⟨_, s1, s3, s4, w64 (vM D nB q (uN N) (gN N) (vD D) false (2 ^ nB - 1)), u1, p1, u2.frS hV.1.b plc_w p2, p3, hM1.thrown.1, z1, g1, z2.1.fr (g4 _ (by omega)), g3, fun i hi => ?_, fin_inv hV hM hC f1 (fun c h1 h2 => by rw [g4 c (by omega), z4 c h1 (by omega)]) (fun f hf => by rw [g4 0 (by omega), z5 f hf])⟩
  rw [g4 5 (by omega), (z6 i hi).1, (uN_i hV.2.1 hi).1]
theorem m_in_39 (h : SeaOk D nH nB nS) (hM : SeaM s D) {S : Nat → Nat × (Nat → Nat)} (hS : ∀ i, (S i).1 ≤ nbF D i) (hB : BoC s D nB q U G V S 24) {i : Nat} (hi : i < nB) : ∀ (m n b : Nat), b + m = fo D nB → m < n → fX9_in_39 n i ((min (b - fo D i) (S i).1 : Nat) : Int) b s = some ((((S i).1 : Nat) : Int), s)
  | m, 0, _, _, hn => absurd hn (by omega)
  | 0, n + 1, b, e, _ => by
    have hb := h.1
    have hlt := fo_lt D hi
    have hs := hS i
    rw [fX9_in_39, m_boats hM h, b2_ok, fo_nbo h nB (by omega), if_pos (by omega), show min (b - fo D i) (S i).1 = (S i).1 by omega]
  | m + 1, n + 1, b, e, hn => by
    have hb := h.1
    have hf := fo_le h nB (by omega)
    have hlt := fo_lt D hi
    have hs := hS i
    have ih := m_in_39 h hM hS hB hi m n (b + 1) (by omega) (by omega)
    obtain ⟨i', k, hi', hk, rfl⟩ := fo_ex D (show b < fo D nB by omega)
    obtain ⟨b1, b2, b3, b4⟩ := hB i' k hi' hk
    rw [fX9_in_39, m_boats hM h, b2_ok, fo_nbo h nB (by omega), if_neg (by omega)]
    simp (disch := omega) only [rd_m_boatSort, rd_m_isSafe, bo_ok, Int.toNat_natCast, b1, b2]
    by_cases ce : i' = i
    · subst ce
      rw [if_pos rfl]
      by_cases cs : k < (S i').1
      · rw [if_pos cs, if_neg (by decide)]
        unfold fX9_in_75
        rw [lt_ok, lt_ok, w32_s (by omega), w32_s (by omega), show min (fo D i' + k - fo D i') (S i').1 + 1 = min (fo D i' + k + 1 - fo D i') (S i').1 by omega]
        exact ih
      · rw [if_neg cs, if_pos rfl]
        unfold fX9_in_74 fX9_in_75
        rw [lt_ok, lt_ok, Int.add_zero, w32_n (by omega), w32_s (by omega), show min (fo D i' + k - fo D i') (S i').1 = min (fo D i' + k + 1 - fo D i') (S i').1 by omega]
        exact ih
    · rw [if_neg (by omega)]
      unfold fX9_in_74 fX9_in_75
      have e2 : min (fo D i' + k - fo D i) (S i).1 = min (fo D i' + k + 1 - fo D i) (S i).1 := by
        rcases Nat.lt_or_ge i i' with z | z
        · have := fo_lt D z; omega
        · have := fo_lt D (show i' < i by omega); omega
      rw [lt_ok, lt_ok, Int.add_zero, w32_n (by omega), w32_s (by omega), e2]
      exact ih
theorem call_in (hI : Inv s) (a b : Int) : ∃ r s1 s2, fX8_in a b s = some (r, s1) ∧ fX9_in a b s1 = some (r, s2) ∧ Inv s2 := by
  have hI2 := hI.read
  obtain ⟨D, nH, nB, nS, N, K, kc, T, tl, hV, hM, hC⟩ := hI
  have hb := hV.1.1
  by_cases ha : 0 ≤ a ∧ a < nS
  · by_cases hbb : 0 ≤ b ∧ b < nB
    · obtain ⟨q, rfl⟩ := nat_of ha.1
      obtain ⟨i, rfl⟩ := nat_of hbb.1
      obtain ⟨s0, s1, s3, s4, v, x1, x2, x3, x4, x5, x6, x7, x8, x9, x10, x11⟩ := both_sail hV hM hC (q := q) (by omega)
      have hi : i < nB := by omega
      refine ⟨(((FF D nB q (uN N) (gN N) (vD D) false i).1 : Nat) : Int), s1, s4, ?_, ?_, x11⟩
      · unfold fX8_in
        rw [c_isStorm hC.1, b2_ok, if_neg (by rw [if_pos ha]; decide), c_isSort hC.1, b2_ok, if_neg (by rw [if_pos hbb]; decide), x1, bo_ok, x2, bo_ok, rd_passage_inside (by omega) (by omega), bo_ok, Int.toNat_natCast, (x4 i hi).1]
      · have key := m_in_39 hV.1 x8 (fun i => (FF_ok (D := D) (nB := nB) (q := q) (U := uN N) (G := gN N) (V := vD D) (w := false) i).1) x9 hi (fo D nB) 600 0 (by omega) (by have := fo_le hV.1 nB (by omega); omega)
        rw [show min (0 - fo D i) (FF D nB q (uN N) (gN N) (vD D) false i).1 = 0 by omega] at key
        unfold fX9_in
        rw [lt_ok, m_isStorm x5 hV.1, b2_ok, if_neg (by rw [if_pos ha]; decide), m_isSort x5 hV.1, b2_ok, if_neg (by rw [if_pos hbb]; decide), x6, bo_ok, x7, b2_ok]
        exact key
    · refine ⟨-1, s, mu s 0 0 0, ?_, ?_, hI2⟩
      · unfold fX8_in
        rw [c_isStorm hC.1, b2_ok, if_neg (by rw [if_pos ha]; decide), c_isSort hC.1, b2_ok, if_pos (by rw [if_neg hbb])]
      · unfold fX9_in
        rw [lt_ok, m_isStorm hM.thrown.1 hV.1, b2_ok, if_neg (by rw [if_pos ha]; decide), m_isSort hM.thrown.1 hV.1, b2_ok, if_pos (by rw [if_neg hbb])]
  · refine ⟨-1, s, mu s 0 0 0, ?_, ?_, hI2⟩
    · unfold fX8_in
      rw [c_isStorm hC.1, b2_ok, if_pos (by rw [if_neg ha])]
    · unfold fX9_in
      rw [lt_ok, m_isStorm hM.thrown.1 hV.1, b2_ok, if_pos (by rw [if_neg ha])]
theorem m_firstOf_4 (h : SeaOk D nH nB nS) (hM : SeaM s D) {i : Nat} (hi : i ≤ 4) : ∀ (m n k : Nat), k + m = i → m < n → fX9_firstOf_4 n i ((fo D k : Nat) : Int) k s = some (((fo D i : Nat) : Int), s)
  | m, 0, _, _, hn => absurd hn (by omega)
  | 0, n + 1, k, e, _ => by
    have e : k = i := by omega
    subst e
    rw [fX9_firstOf_4, if_pos (by omega)]
  | m + 1, n + 1, k, e, hn => by
    have ih := m_firstOf_4 h hM hi m n (k + 1) (by omega) (by omega)
    have hf := fo_le h k (by omega)
    have hn8 := nbF_i h (i := k) (by omega)
    rw [fX9_firstOf_4, if_neg (by omega)]
    simp (disch := omega) only [nab, na_0, na_1, na_2, na_3, na_4, na_5, na_6, na_8, na_10, na_12, na_16, na_24, na_36, na_52, na_76, na_120, na_172, na_186, nb_0, nb_1, nb_2, nb_3, nb_4, nb_5, nb_6, nb_8, nb_10, nb_12, nb_16, nb_24, nb_36, nb_52, nb_76, nb_120, nb_172, nb_186, nm_2, nm_3, nm_4, nm_5, nm_6, nm_8, nm_10, nm_12, nm_16, nm_24, nm_36, nm_52, nm_76, nm_120, nm_172, nm_186, nn_2, nn_3, nn_4, nn_5, nn_6, nn_8, nn_10, nn_12, nn_16, nn_24, nn_36, nn_52, nn_76, nn_120, nn_172, nn_186, rd_m_sea, bo_ok, lt_ok, Int.toNat_natCast, hM.at]
    rw [← hn8.1, w32_id (by omega) (by omega), show ((fo D k : Nat) : Int) + ((nbF D k : Nat) : Int) = ((fo D k + nbF D k : Nat) : Int) by omega]
    exact ih
theorem m_firstOf (h : SeaOk D nH nB nS) (hM : SeaM s D) {i : Nat} (hi : i ≤ 4) : fX9_firstOf i s = some (((fo D i : Nat) : Int), s) := m_firstOf_4 h hM hi i 600 0 (by omega) (by omega)
theorem call_lives (hI : Inv s) (a b c : Int) : ∃ r s1 s2, fX8_lives a b c s = some (r, s1) ∧ fX9_lives a b c s1 = some (r, s2) ∧ Inv s2 := by
  have hI2 := hI.read
  obtain ⟨D, nH, nB, nS, N, K, kc, T, tl, hV, hM, hC⟩ := hI
  have hb := hV.1.1
  by_cases ha : 0 ≤ a ∧ a < nS
  · by_cases hbb : 0 ≤ b ∧ b < nB
    · obtain ⟨q, rfl⟩ := nat_of ha.1
      obtain ⟨i, rfl⟩ := nat_of hbb.1
      have hi : i < nB := by omega
      have hn8 := nbF_i hV.1 (i := i) (by omega)
      by_cases hc : 0 ≤ c ∧ c < nbF D i
      · obtain ⟨n, rfl⟩ := nat_of hc.1
        have hn : n < nbF D i := by omega
        obtain ⟨s0, s1, s3, s4, v, x1, x2, x3, x4, x5, x6, x7, x8, x9, x10, x11⟩ := both_sail hV hM hC (q := q) (by omega)
        have he := FF_e (D := D) (nB := nB) (q := q) (U := uN N) (G := gN N) (V := vD D) (w := false) i n
        have ho := FF_ok (D := D) (nB := nB) (q := q) (U := uN N) (G := gN N) (V := vD D) (w := false) i
        have hlt := fo_lt D hi
        have hfo := fo_le hV.1 nB (by omega)
        refine ⟨alv D i q ((FF D nB q (uN N) (gN N) (vD D) false i).2 n), s1, s4, ?_, ?_, x11⟩
        · unfold fX8_lives
          rw [c_isStorm hC.1, b2_ok, if_neg (by rw [if_pos ha]; decide), c_isSort hC.1, b2_ok, if_neg (by rw [if_pos hbb]; decide), if_neg (by omega)]
          simp (disch := omega) only [rdG_sea_sorts, rd_sea_sorts, bo_ok, Int.toNat_natCast, Int.reduceToNat, hC.1.b0 hi]
          rw [if_pos (by omega), x1, bo_ok, x2, bo_ok]
          simp (disch := omega) only [rdG_passage_entry, rd_passage_entry, bo_ok, Int.toNat_natCast, (x4 i hi).2 n hn]
          rw [c_aliveAt x3.2.1 hV.1 hi (by omega) (by omega), b2_ok]
        · unfold fX9_lives
          rw [lt_ok, m_isStorm x5 hV.1, b2_ok, if_neg (by rw [if_pos ha]; decide), m_isSort x5 hV.1, b2_ok, if_neg (by rw [if_pos hbb]; decide)]
          simp (disch := omega) only [nab, na_0, na_1, na_2, na_3, na_4, na_5, na_6, na_8, na_10, na_12, na_16, na_24, na_36, na_52, na_76, na_120, na_172, na_186, nb_0, nb_1, nb_2, nb_3, nb_4, nb_5, nb_6, nb_8, nb_10, nb_12, nb_16, nb_24, nb_36, nb_52, nb_76, nb_120, nb_172, nb_186, nm_2, nm_3, nm_4, nm_5, nm_6, nm_8, nm_10, nm_12, nm_16, nm_24, nm_36, nm_52, nm_76, nm_120, nm_172, nm_186, nn_2, nn_3, nn_4, nn_5, nn_6, nn_8, nn_10, nn_12, nn_16, nn_24, nn_36, nn_52, nn_76, nn_120, nn_172, nn_186, rd_m_sea, bo_ok, Int.toNat_natCast, x5.at]
          rw [← hn8.1, w32_id (by omega) (by omega), m_isIn, b2_ok, if_neg (by rw [if_pos (by omega)]; decide), x6, bo_ok, x7, b2_ok, m_firstOf hV.1 x8 (by omega), b2_ok, nab (by omega), rd_m_lives (by omega) (by omega), bo_ok, Int.toNat_natCast, (x9 i n hi hn).2.2.1]
          by_cases cn : n < (FF D nB q (uN N) (gN N) (vD D) false i).1
          · rw [if_pos cn]
          · rw [if_neg cn, ho.2.2 n (by omega)]
      · refine ⟨-1, s, mu s 0 0 0, ?_, ?_, hI2⟩
        · unfold fX8_lives
          rw [c_isStorm hC.1, b2_ok, if_neg (by rw [if_pos ha]; decide), c_isSort hC.1, b2_ok, if_neg (by rw [if_pos hbb]; decide)]
          by_cases c0 : c < 0
          · rw [if_pos c0]
          · rw [if_neg c0]
            simp (disch := omega) only [rdG_sea_sorts, rd_sea_sorts, bo_ok, Int.toNat_natCast, Int.reduceToNat, hC.1.b0 hi]
            rw [if_neg (by omega)]
        · have x5 := hM.thrown.1
          unfold fX9_lives
          rw [lt_ok, m_isStorm x5 hV.1, b2_ok, if_neg (by rw [if_pos ha]; decide), m_isSort x5 hV.1, b2_ok, if_neg (by rw [if_pos hbb]; decide)]
          simp (disch := omega) only [nab, na_0, na_1, na_2, na_3, na_4, na_5, na_6, na_8, na_10, na_12, na_16, na_24, na_36, na_52, na_76, na_120, na_172, na_186, nb_0, nb_1, nb_2, nb_3, nb_4, nb_5, nb_6, nb_8, nb_10, nb_12, nb_16, nb_24, nb_36, nb_52, nb_76, nb_120, nb_172, nb_186, nm_2, nm_3, nm_4, nm_5, nm_6, nm_8, nm_10, nm_12, nm_16, nm_24, nm_36, nm_52, nm_76, nm_120, nm_172, nm_186, nn_2, nn_3, nn_4, nn_5, nn_6, nn_8, nn_10, nn_12, nn_16, nn_24, nn_36, nn_52, nn_76, nn_120, nn_172, nn_186, rd_m_sea, bo_ok, Int.toNat_natCast, x5.at]
          rw [← hn8.1, w32_id (by omega) (by omega), m_isIn, b2_ok, if_pos (by rw [if_neg (by omega)])]
    · refine ⟨-1, s, mu s 0 0 0, ?_, ?_, hI2⟩
      · unfold fX8_lives
        rw [c_isStorm hC.1, b2_ok, if_neg (by rw [if_pos ha]; decide), c_isSort hC.1, b2_ok, if_pos (by rw [if_neg hbb])]
      · unfold fX9_lives
        rw [lt_ok, m_isStorm hM.thrown.1 hV.1, b2_ok, if_neg (by rw [if_pos ha]; decide), m_isSort hM.thrown.1 hV.1, b2_ok, if_pos (by rw [if_neg hbb])]
  · refine ⟨-1, s, mu s 0 0 0, ?_, ?_, hI2⟩
    · unfold fX8_lives
      rw [c_isStorm hC.1, b2_ok, if_pos (by rw [if_neg ha])]
    · unfold fX9_lives
      rw [lt_ok, m_isStorm hM.thrown.1 hV.1, b2_ok, if_pos (by rw [if_neg ha])]
/-- the first boat that is shut out, from SORT i on -/
def shS (D : Nat → Int) (U : Nat → Nat) (S : Nat → Nat × (Nat → Nat)) : Nat → Nat → Int
  | 0, _ => -4
  | m + 1, i => if U i < 24 ∧ (S i).1 < nbF D i then ((10 * i + (S i).1 : Nat) : Int) else shS D U S m (i + 1)
theorem c_shut_37 (h : SeaOk D nH nB nS) {S : Nat → Nat × (Nat → Nat)} (hS : SlC s D nH nB nS 111 112 U G V w) (hX : PsC s nB (nbF D) S) (hs : ∀ i, (S i).1 ≤ nbF D i) : ∀ (m n i : Nat), i + m = nB → m < n → fX8_shut_37 n i s = some (shS D U S m i, s)
  | m, 0, _, _, hn => absurd hn (by omega)
  | 0, n + 1, i, e, _ => by
    rw [fX8_shut_37, hS.1.2.1, if_pos (by omega), shS]
  | m + 1, n + 1, i, e, hn => by
    have hb := h.1
    have hn8 := nbF_i h (i := i) (by omega)
    have hsi := hs i
    have ih := c_shut_37 h hS hX hs m n (i + 1) (by omega) (by omega)
    rw [fX8_shut_37, hS.1.2.1, if_neg (by omega), shS]
    simp (disch := omega) only [rd_watch_plans_hour, rd_passage_inside, rdG_sea_sorts, rd_sea_sorts, bo_ok, lt_ok, Int.toNat_natCast, Int.reduceToNat, (hS.2.2.1 i (by omega)).1, (hX i (by omega)).1, hS.1.b0, w32_s, ← hn8.1]
    by_cases cu : U i < 24
    · rw [if_neg (by omega)]
      by_cases cs : (S i).1 < nbF D i
      · rw [if_neg (by omega), if_pos ⟨cu, cs⟩, nm_10 (by omega), nab (by omega)]
      · rw [if_pos (by omega), if_neg (fun z => cs z.2)]; exact ih
    · rw [if_pos (by omega), if_neg (fun z => cu z.1)]; exact ih
theorem m_shut_28 (h : SeaOk D nH nB nS) (hM : SeaM s D) {S : Nat → Nat × (Nat → Nat)} (hB : BoC s D nB q U G V S 24) (h5 : ∀ i, i < 4 → s 5 i = ((U i : Nat) : Int)) (hs : ∀ i, (S i).1 ≤ nbF D i) : ∀ (m n i k : Nat), fo D i + k + m = fo D nB → m < n → i < nB → k < nbF D i → (U i < 24 → k ≤ (S i).1) → fX9_shut_28 n ((fo D i + k : Nat) : Int) s = some (shS D U S (nB - i) i, s)
  | m, 0, _, _, _, hn, _, _, _ => absurd hn (by omega)
  | 0, n + 1, i, k, e, _, hi, hk, hu => by
    have := fo_lt D hi; omega
  | m + 1, n + 1, i, k, e, hn, hi, hk, hu => by
    have hb := h.1
    have hf := fo_le h nB (by omega)
    have hlt := fo_lt D hi
    have hn8 := nbF_i h (i := i) (by omega)
    have hsi := hs i
    obtain ⟨b1, b2, b3, b4⟩ := hB i k hi hk
    have hgo : ¬ (U i < 24 ∧ (S i).1 ≤ k) → fX9_shut_28 n ((fo D i + k + 1 : Nat) : Int) s = some (shS D U S (nB - i) i, s) := by
      intro hno
      by_cases ck : k + 1 < nbF D i
      · exact m_shut_28 h hM hB h5 hs m n i (k + 1) (by omega) (by omega) hi ck (fun z => by omega)
      · have e1 : fo D i + k + 1 = fo D (i + 1) := by rw [fo_s]; omega
        rw [show nB - i = (nB - (i + 1)) + 1 by omega, shS, if_neg (by omega)]
        by_cases ci : i + 1 < nB
        · have hp := (h.2.2.2.2.2.2.2.2.2.2 (i + 1) ci).1
          have hn9 := nbF_i h (i := i + 1) (by omega)
          have := m_shut_28 h hM hB h5 hs m n (i + 1) 0 (by omega) (by omega) ci (by omega) (fun _ => by omega)
          rw [Nat.add_zero] at this
          rw [e1]; exact this
        · have e2 : i + 1 = nB := by omega
          cases n with
          | zero => omega
          | succ n =>
            rw [e1, e2, Nat.sub_self, shS, fX9_shut_28, m_boats hM h, b2_ok, fo_nbo h nB (by omega), if_pos (by omega)]
    rw [fX9_shut_28, m_boats hM h, b2_ok, fo_nbo h nB (by omega), if_neg (by omega)]
    simp (disch := omega) only [rd_m_boatSort, rd_m_hours, rd_m_isSafe, bo_ok, lt_ok, Int.toNat_natCast, b1, b2, h5 i (by omega), w32_s]
    by_cases cu : U i < 24
    · rw [if_neg (by omega)]
      have hkk := hu cu
      by_cases cs : k < (S i).1
      · rw [if_pos cs, if_neg (by decide)]
        exact hgo (by omega)
      · rw [if_neg cs, if_pos rfl, m_firstOf h hM (by omega), b2_ok, show nB - i = (nB - (i + 1)) + 1 by omega, shS, if_pos ⟨cu, by omega⟩, nm_10 (by omega), nab (by omega), w32_id (by omega) (by omega), show ((10 * i + (fo D i + k) : Nat) : Int) - ((fo D i : Nat) : Int) = ((10 * i + (S i).1 : Nat) : Int) by omega]
    · rw [if_pos (by omega)]
      exact hgo (fun z => cu z.1)
theorem call_shut (hI : Inv s) (a : Int) : ∃ r s1 s2, fX8_shut a s = some (r, s1) ∧ fX9_shut a s1 = some (r, s2) ∧ Inv s2 := by
  have hI2 := hI.read
  obtain ⟨D, nH, nB, nS, N, K, kc, T, tl, hV, hM, hC⟩ := hI
  have hb := hV.1.1
  by_cases ha : 0 ≤ a ∧ a < nS
  · obtain ⟨q, rfl⟩ := nat_of ha.1
    obtain ⟨s0, s1, s3, s4, v, x1, x2, x3, x4, x5, x6, x7, x8, x9, x10, x11⟩ := both_sail hV hM hC (q := q) (by omega)
    have ho := fun i => (FF_ok (D := D) (nB := nB) (q := q) (U := uN N) (G := gN N) (V := vD D) (w := false) i).1
    have hfo := fo_le hV.1 nB (by omega)
    have hp := (hV.1.2.2.2.2.2.2.2.2.2.2 0 (by omega)).1
    have hn9 := nbF_i hV.1 (i := 0) (by omega)
    refine ⟨shS D (uN N) (FF D nB q (uN N) (gN N) (vD D) false) nB 0, s1, s4, ?_, ?_, x11⟩
    · unfold fX8_shut
      rw [c_isStorm hC.1, b2_ok, if_neg (by rw [if_pos ha]; decide), x1, bo_ok, x2, bo_ok]
      exact c_shut_37 hV.1 x3 x4 ho nB 600 0 (by omega) (by omega)
    · have key := m_shut_28 hV.1 x8 x9 x10 ho (fo D nB) 600 0 0 (by rw [fo]; omega) (by omega) (by omega) (by omega) (fun _ => by omega)
      unfold fX9_shut
      rw [lt_ok, m_isStorm x5 hV.1, b2_ok, if_neg (by rw [if_pos ha]; decide), x6, bo_ok, x7, b2_ok]
      exact key
  · refine ⟨-1, s, mu s 0 0 0, ?_, ?_, hI2⟩
    · unfold fX8_shut
      rw [c_isStorm hC.1, b2_ok, if_pos (by rw [if_neg ha])]
    · unfold fX9_shut
      rw [lt_ok, m_isStorm hM.thrown.1 hV.1, b2_ok, if_pos (by rw [if_neg ha])]
theorem call_first (hI : Inv s) : ∃ r s1 s2, fX8_first s = some (r, s1) ∧ fX9_first s1 = some (r, s2) ∧ Inv s2 := by
  obtain ⟨D, nH, nB, nS, N, K, kc, T, tl, hV, hM, hC⟩ := hI
  have hb := hV.1.1
  obtain ⟨th, e11, hth⟩ := hV.2.1.2.2.2.2.2.2.2
  have h16 := th_16 hth (by omega)
  have hP := PlOk'.now hV.1 hV.2.1
  have u4 : ∀ k, k ≠ 122 → (mu (mu s 122 1 0) 122 3 1) k = s k := fun k hk => by rw [mu_ne _ _ _ hk, mu_ne _ _ _ hk]
  have u2 : SlC (mu (mu s 122 1 0) 122 3 1) D nH nB nS 111 112 (uN N) (gN N) (vD D) true := by
    refine ⟨hC.1.of hV.1.b (fun k a b => u4 k (by omega)), hC.2.1.of hV.1.b (fun k a b => u4 k (by omega)), fun i hi => ?_, by rw [mu_same, fu_same]; rfl, 0, ?_, by decide, fun i hi => ?_⟩
    · have h4 : i < 4 := by omega
      rw [u4 _ (by decide), u4 _ (by decide), (uN_i hV.2.1 h4).1, (uN_i hV.2.1 h4).2.2.1]
      exact hC.2.2.1.2.2.2.2 i h4
    · rw [mu_same, fu_ne _ _ (by decide), mu_same, fu_same]; rfl
    · rw [Nat.zero_testBit, if_neg (by decide)]; rfl
  obtain ⟨s1, p1, p2⟩ := c_meanOf hP plc_w (all_16 (nB := nB) (by omega)) h16 u2
  have f1 : ∀ k, k < 122 → s1 k = s k := fun k hk => by rw [p2 k (by omega), u4 k (by omega)]
  have hM1 : InvM s1 D N K kc T tl := hM.fr (fun k hk => f1 k (by omega))
  obtain ⟨s3, z1, z2, z3, z4, z5, z6⟩ := m_begin hV hM1
  obtain ⟨s4, g1, g4⟩ := m_meanOf (w := true) (own := -1) hP e11 h16 (by omega) z2 z3
  refine ⟨w64 (mn D nB nS (uN N) (gN N) (vD D) true (2 ^ nB - 1) th), s1, s4, ?_, ?_, fin_inv hV hM hC f1 (fun c h1 h2 => by rw [g4 c (by omega), z4 c h1 (by omega)]) (fun f hf => by rw [g4 0 (by omega), z5 f hf])⟩
  · unfold fX8_first fX2_dearestFirst
    rw [lt_ok, lt_ok, bo_ok, c_allSorts u2.1 (by omega), b2_ok, u4 _ (by decide), hC.2.2.1.2.2.2.1, e11, p1, b2_ok]
  · unfold fX9_first
    rw [lt_ok, z1, bo_ok]
    have g1' : fX9_meanOf 1 (-1) s3 = some (w64 (mn D nB nS (uN N) (gN N) (vD D) true (2 ^ nB - 1) th), s4) := g1
    rw [g1', b2_ok]
end C2

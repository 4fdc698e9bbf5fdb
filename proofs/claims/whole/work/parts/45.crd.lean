/-! ===== the class's reads of its sea ===== -/
def SeaC (s : Mem) (D : Nat → Int) (nH nB nS : Nat) : Prop :=
  s 21 0 = nH ∧ s 21 1 = nB ∧ s 21 2 = nS ∧ s 21 9 = D 182 ∧
  (∀ j f, j < nH → f < 4 → s (23 + j) f = D (0 + 4 * j + f)) ∧
  (∀ i f, i < nB → f < 5 → s (28 + i) f = D (16 + 5 * i + f)) ∧
  (∀ q f, q < nS → f < 6 → s (33 + q) f = D (52 + 6 * q + f)) ∧
  (∀ i j, i < 4 → j < 4 → s (38 + i) j = D (36 + 4 * i + j)) ∧
  (∀ q t, q < 4 → t < 24 → s (43 + q) t = D (76 + 24 * q + t)) ∧
  (∀ x, x < 10 → s 47 x = D (172 + x))
def opB (D : Nat → Int) (j q : Nat) : Nat → Nat
  | 0 => 0
  | t + 1 => if opn D j q t then opB D j q t ||| 2 ^ t else opB D j q t
theorem opB_lt (D : Nat → Int) (j q : Nat) : ∀ m, opB D j q m < 2 ^ m
  | 0 => by unfold opB; decide
  | m + 1 => by
    have h := opB_lt D j q m
    have h2 : 2 ^ m < 2 ^ (m + 1) := Nat.pow_lt_pow_right (by decide) (Nat.lt_succ_self m)
    unfold opB
    split
    · exact Nat.or_lt_two_pow (by omega) h2
    · omega
theorem opB_bit (D : Nat → Int) (j q t : Nat) : ∀ m, (opB D j q m).testBit t = (decide (t < m) && opn D j q t)
  | 0 => by unfold opB; simp
  | m + 1 => by
    have h := opB_bit D j q t m
    unfold opB
    split
    · rename_i ho
      rw [Nat.testBit_or, h, Nat.testBit_two_pow]
      by_cases e : m = t
      · subst e; simp [ho]
      · by_cases l : t < m
        · simp [l, e, show t < m + 1 by omega]
        · simp [l, e, show ¬ t < m + 1 by omega]
    · rename_i ho
      rw [h]
      by_cases e : m = t
      · subst e; simp [ho]
      · by_cases l : t < m
        · simp [l, show t < m + 1 by omega]
        · simp [l, show ¬ t < m + 1 by omega]
theorem opB_24 (D : Nat → Int) (j q : Nat) : opB D j q 24 < 16777216 := opB_lt D j q 24
def TabC (s : Mem) (D : Nat → Int) (nH nB nS : Nat) : Prop :=
  (∀ q t, q < nS → t < 24 → s (49 + q) t = str D q t) ∧
  (∀ j q, j < nH → q < nS → s (54 + j) q = ((opB D j q 24 : Nat) : Int)) ∧
  (∀ q i t, q < nS → i < nB → t < 25 → s (59 + (q * 4 + i)) t = alv D i q t) ∧
  (∀ q i t, q < nS → i < nB → t < 25 → s (76 + (q * 4 + i)) t = fsh D i q t) ∧
  (∀ q i j u, q < nS → i < nB → j < nH → u < 24 → s (93 + (q * 4 + i)) (j * 24 + u) = ((arr D (D (16 + 5 * i + 1)) (D (36 + 4 * i + j)) q u : Nat) : Int))
section CR
variable {D : Nat → Int} {nH nB nS : Nat} {s : Mem}
theorem SeaC.h (h : SeaC s D nH nB nS) {j : Nat} (f : Nat) (hj : j < nH) (hf : f < 4) : s (23 + j) f = D (0 + 4 * j + f) := h.2.2.2.2.1 j f hj hf
theorem SeaC.b (h : SeaC s D nH nB nS) {i : Nat} (f : Nat) (hi : i < nB) (hf : f < 5) : s (28 + i) f = D (16 + 5 * i + f) := h.2.2.2.2.2.1 i f hi hf
theorem SeaC.q (h : SeaC s D nH nB nS) {q : Nat} (f : Nat) (hq : q < nS) (hf : f < 6) : s (33 + q) f = D (52 + 6 * q + f) := h.2.2.2.2.2.2.1 q f hq hf
theorem SeaC.h0 (h : SeaC s D nH nB nS) {j : Nat} (hj : j < nH) : s (23 + j) 0 = D (0 + 4 * j) := h.h 0 hj (by decide)
theorem SeaC.h1 (h : SeaC s D nH nB nS) {j : Nat} (hj : j < nH) : s (23 + j) 1 = D (0 + 4 * j + 1) := h.h 1 hj (by decide)
theorem SeaC.h2 (h : SeaC s D nH nB nS) {j : Nat} (hj : j < nH) : s (23 + j) 2 = D (0 + 4 * j + 2) := h.h 2 hj (by decide)
theorem SeaC.h3 (h : SeaC s D nH nB nS) {j : Nat} (hj : j < nH) : s (23 + j) 3 = D (0 + 4 * j + 3) := h.h 3 hj (by decide)
theorem SeaC.b0 (h : SeaC s D nH nB nS) {i : Nat} (hi : i < nB) : s (28 + i) 0 = D (16 + 5 * i) := h.b 0 hi (by decide)
theorem SeaC.b1 (h : SeaC s D nH nB nS) {i : Nat} (hi : i < nB) : s (28 + i) 1 = D (16 + 5 * i + 1) := h.b 1 hi (by decide)
theorem SeaC.b2 (h : SeaC s D nH nB nS) {i : Nat} (hi : i < nB) : s (28 + i) 2 = D (16 + 5 * i + 2) := h.b 2 hi (by decide)
theorem SeaC.b3 (h : SeaC s D nH nB nS) {i : Nat} (hi : i < nB) : s (28 + i) 3 = D (16 + 5 * i + 3) := h.b 3 hi (by decide)
theorem SeaC.b4 (h : SeaC s D nH nB nS) {i : Nat} (hi : i < nB) : s (28 + i) 4 = D (16 + 5 * i + 4) := h.b 4 hi (by decide)
theorem SeaC.q0 (h : SeaC s D nH nB nS) {q : Nat} (hq : q < nS) : s (33 + q) 0 = D (52 + 6 * q) := h.q 0 hq (by decide)
theorem SeaC.m (h : SeaC s D nH nB nS) {i j : Nat} (hi : i < 4) (hj : j < 4) : s (38 + i) j = D (36 + 4 * i + j) := h.2.2.2.2.2.2.2.1 i j hi hj
theorem SeaC.g (h : SeaC s D nH nB nS) {q t : Nat} (hq : q < 4) (ht : t < 24) : s (43 + q) t = D (76 + 24 * q + t) := h.2.2.2.2.2.2.2.2.1 q t hq ht
theorem SeaC.l (h : SeaC s D nH nB nS) {x : Nat} (hx : x < 10) : s 47 x = D (172 + x) := h.2.2.2.2.2.2.2.2.2 x hx
theorem c_isStorm (h : SeaC s D nH nB nS) (a : Int) : fX5_isStorm a s = some (if 0 ≤ a ∧ a < nS then 1 else 0, s) := by
  unfold fX5_isStorm
  rw [h.2.2.1]
  repeat' split
  all_goals first | rfl | (exfalso; omega)
theorem c_isSort (h : SeaC s D nH nB nS) (a : Int) : fX5_isSort a s = some (if 0 ≤ a ∧ a < nB then 1 else 0, s) := by
  unfold fX5_isSort
  rw [h.2.1]
  repeat' split
  all_goals first | rfl | (exfalso; omega)
theorem c_isHarbour (h : SeaC s D nH nB nS) (a : Int) : fX5_isHarbour a s = some (if 0 ≤ a ∧ a < nH then 1 else 0, s) := by
  unfold fX5_isHarbour
  rw [h.1]
  repeat' split
  all_goals first | rfl | (exfalso; omega)
theorem c_isHour (a : Int) (s : Mem) : fX8_isHour a s = some (if 0 ≤ a ∧ a ≤ 23 then 1 else 0, s) := by
  unfold fX8_isHour
  repeat' split
  all_goals first | rfl | (exfalso; omega)
theorem c_isHourOrNever (a : Int) (s : Mem) : fX8_isHourOrNever a s = some (if 0 ≤ a ∧ a ≤ 24 then 1 else 0, s) := by
  unfold fX8_isHourOrNever
  repeat' split
  all_goals first | rfl | (exfalso; omega)
theorem c_isRule (a : Int) (s : Mem) : fX8_isRule a s = some (if 0 ≤ a ∧ a ≤ 4 then 1 else 0, s) := by
  unfold fX8_isRule
  repeat' split
  all_goals first | rfl | (exfalso; omega)
theorem c_riskOf (hC : SeaC s D nH nB nS) (h : SeaOk D nH nB nS) {i q t : Nat} (hi : i < nB) (hq : q < nS) (ht : t < 24) (hs : s (49 + q) t = str D q t) : fX5_riskOf i q t s = some (rsk D i q t, s) := by
  have hb := h.1
  have h1 := str_rg h (t := t) (show q < 4 by omega)
  have h2 := rsk_pr h (t := t) (show i < 4 by omega) (show q < 4 by omega)
  obtain ⟨x, hx⟩ := nat_of h1.1
  have hx2 : (str D q t).toNat = x := by omega
  rw [hx2] at h2
  simp (disch := omega) only [fX5_riskOf, rdG_sea_strength, rd_sea_strength, rdG_sea_sorts, rd_sea_sorts, rd_sea_loss, bo_ok, Int.toNat_natCast, Int.reduceToNat, hs, hx, hC.l, hC.b4, w32_id]
  unfold rsk
  rw [hx2]
theorem c_isOpen (hT : TabC s D nH nB nS) (h : SeaOk D nH nB nS) {j q t : Nat} (hj : j < nH) (hq : q < nS) (ht : t < 24) : fX5_isOpen j q t s = some (if opn D j q t then 1 else 0, s) := by
  have hb := h.1
  have h2 := opB_24 D j q
  simp (disch := omega) only [fX5_isOpen, rdG_sea_openHours, rd_sea_openHours, bo_ok, Int.toNat_natCast, hT.2.1 j q hj hq, bit_0, opB_bit]
  rw [decide_eq_true (show t < 24 from ht), Bool.true_and]
  cases opn D j q t <;> rfl
theorem c_aliveAt (hT : TabC s D nH nB nS) (h : SeaOk D nH nB nS) {i q t : Nat} (hi : i < nB) (hq : q < nS) (ht : t < 25) : fX5_aliveAt q i t s = some (alv D i q t, s) := by
  have hb := h.1
  simp (disch := omega) only [fX5_aliveAt, nab, na_0, na_1, na_2, na_3, na_4, na_5, na_6, na_8, na_10, na_12, na_16, na_24, na_36, na_52, na_76, na_120, na_172, na_186, nb_0, nb_1, nb_2, nb_3, nb_4, nb_5, nb_6, nb_8, nb_10, nb_12, nb_16, nb_24, nb_36, nb_52, nb_76, nb_120, nb_172, nb_186, nm_2, nm_3, nm_4, nm_5, nm_6, nm_8, nm_10, nm_12, nm_16, nm_24, nm_36, nm_52, nm_76, nm_120, nm_172, nm_186, nn_2, nn_3, nn_4, nn_5, nn_6, nn_8, nn_10, nn_12, nn_16, nn_24, nn_36, nn_52, nn_76, nn_120, nn_172, nn_186, rdG_sea_alive, rd_sea_alive, bo_ok, Int.toNat_natCast, hT.2.2.1 q i t hq hi ht]
theorem c_fishedTill (hT : TabC s D nH nB nS) (h : SeaOk D nH nB nS) {i q t : Nat} (hi : i < nB) (hq : q < nS) (ht : t < 25) : fX5_fishedTill q i t s = some (fsh D i q t, s) := by
  have hb := h.1
  simp (disch := omega) only [fX5_fishedTill, nab, na_0, na_1, na_2, na_3, na_4, na_5, na_6, na_8, na_10, na_12, na_16, na_24, na_36, na_52, na_76, na_120, na_172, na_186, nb_0, nb_1, nb_2, nb_3, nb_4, nb_5, nb_6, nb_8, nb_10, nb_12, nb_16, nb_24, nb_36, nb_52, nb_76, nb_120, nb_172, nb_186, nm_2, nm_3, nm_4, nm_5, nm_6, nm_8, nm_10, nm_12, nm_16, nm_24, nm_36, nm_52, nm_76, nm_120, nm_172, nm_186, nn_2, nn_3, nn_4, nn_5, nn_6, nn_8, nn_10, nn_12, nn_16, nn_24, nn_36, nn_52, nn_76, nn_120, nn_172, nn_186, rdG_sea_fished, rd_sea_fished, bo_ok, Int.toNat_natCast, hT.2.2.2.1 q i t hq hi ht]
theorem c_arrivalAt_7 (hC : SeaC s D nH nB nS) (h : SeaOk D nH nB nS) {v off : Int} {q : Nat} (hq : q < nS) (hv : 0 ≤ v ∧ v ≤ 9) (ho : off ≤ 99) (hs : ∀ t, t < 24 → s (49 + q) t = str D q t) : ∀ (m n t : Nat) (made : Int), t + m = 24 → m < n → 0 ≤ made → made ≤ 9 * t → fX5_arrivalAt_7 n v off q made t s = some (((arrG D v off q m t made : Nat) : Int), s)
  | 0, n + 1, t, made, e, _, _, _ => by
    rw [fX5_arrivalAt_7, if_pos (by omega)]; rfl
  | m + 1, n + 1, t, made, e, hn, h0, h1 => by
    have hb := h.1
    have hsl := h.2.2.2.2.2.2.2.1
    have hst := str_rg h (t := t) (show q < 4 by omega)
    have hd := div_rg hst.1 hst.2 hsl.1
    have hsp := spd_rg h hv.2 (q := q) (t := t) (by omega)
    have e9 : s 21 9 = D 182 := hC.2.2.2.1
    rw [fX5_arrivalAt_7, if_neg (by omega), if_neg (by omega)]
    have hspd : imax 1 (v - str D q t / D 182) = spd D v q t := rfl
    simp (disch := omega) only [fX5_arrivalAt_39, rdG_sea_strength, rd_sea_strength, bo_ok, lt_ok, Int.toNat_natCast, hs t (by omega), e9, ck_ok, tdiv_nn, w32_id, hspd, w32_s]
    rw [arrG]
    by_cases c : made + spd D v q t < off
    · rw [if_pos c, if_pos c, show (t : Int) + 1 = ((t + 1 : Nat) : Int) from rfl]
      exact c_arrivalAt_7 hC h hq hv ho hs m n (t + 1) _ (by omega) (by omega) (by omega) (by omega)
    · rw [if_neg c, if_neg c]; rfl
  | _, 0, _, _, _, hn, _, _ => absurd hn (by omega)
theorem c_arrivalAt (hC : SeaC s D nH nB nS) (h : SeaOk D nH nB nS) {v off : Int} {q u : Nat} (hq : q < nS) (hv : 0 ≤ v ∧ v ≤ 9) (ho : off ≤ 99) (hs : ∀ t, t < 24 → s (49 + q) t = str D q t) (hu : u ≤ 24) : fX5_arrivalAt v off q u s = some (((arr D v off q u : Nat) : Int), s) := by
  unfold fX5_arrivalAt
  exact c_arrivalAt_7 hC h hq hv ho hs (24 - u) 600 u 0 (by omega) (by omega) (by omega) (by omega)
theorem arr_24 (D : Nat → Int) (v off : Int) (q : Nat) : arr D v off q 24 = 24 := rfl
theorem c_arrival (hT : TabC s D nH nB nS) (h : SeaOk D nH nB nS) {i j q u : Nat} (hi : i < nB) (hj : j < nH) (hq : q < nS) (hu : u ≤ 24) : fX5_arrival i j q u s = some (((arr D (D (16 + 5 * i + 1)) (D (36 + 4 * i + j)) q u : Nat) : Int), s) := by
  have hb := h.1
  unfold fX5_arrival
  by_cases c : u = 24
  · subst c; rw [if_pos (by omega), arr_24]; rfl
  · rw [if_neg (by omega)]
    simp (disch := omega) only [nab, na_0, na_1, na_2, na_3, na_4, na_5, na_6, na_8, na_10, na_12, na_16, na_24, na_36, na_52, na_76, na_120, na_172, na_186, nb_0, nb_1, nb_2, nb_3, nb_4, nb_5, nb_6, nb_8, nb_10, nb_12, nb_16, nb_24, nb_36, nb_52, nb_76, nb_120, nb_172, nb_186, nm_2, nm_3, nm_4, nm_5, nm_6, nm_8, nm_10, nm_12, nm_16, nm_24, nm_36, nm_52, nm_76, nm_120, nm_172, nm_186, nn_2, nn_3, nn_4, nn_5, nn_6, nn_8, nn_10, nn_12, nn_16, nn_24, nn_36, nn_52, nn_76, nn_120, nn_172, nn_186, rdG_sea_arrivals, rd_sea_arrivals, bo_ok, Int.toNat_natCast, hT.2.2.2.2 q i j u hq hi hj (by omega)]
/-- the first HOUR from t on at which it is OPEN -/
def entG (D : Nat → Int) (j q : Nat) : Nat → Nat → Nat
  | 0, _ => 24
  | m + 1, t => if opn D j q t then t else entG D j q m (t + 1)
def entA (D : Nat → Int) (i j q u : Nat) : Nat := entG D j q (24 - arr D (D (16 + 5 * i + 1)) (D (36 + 4 * i + j)) q u) (arr D (D (16 + 5 * i + 1)) (D (36 + 4 * i + j)) q u)
theorem entG_le (D : Nat → Int) (j q : Nat) : ∀ m t, t + m = 24 → entG D j q m t ≤ 24
  | 0, _, _ => by unfold entG; omega
  | m + 1, t, e => by
    unfold entG
    split
    · omega
    · exact entG_le D j q m (t + 1) (by omega)
theorem entA_le (D : Nat → Int) (i j q : Nat) {u : Nat} (hu : u ≤ 24) : entA D i j q u ≤ 24 := entG_le D j q _ _ (by have := arr_le D (D (16 + 5 * i + 1)) (D (36 + 4 * i + j)) q hu; omega)
theorem c_entryAlone_11 (hT : TabC s D nH nB nS) (h : SeaOk D nH nB nS) {j q : Nat} (hj : j < nH) (hq : q < nS) : ∀ (m n t : Nat), t + m = 24 → m < n → fX5_entryAlone_11 n j q t s = some (((entG D j q m t : Nat) : Int), s)
  | 0, n + 1, t, e, _ => by
    rw [fX5_entryAlone_11, if_pos (by omega)]; rfl
  | m + 1, n + 1, t, e, hn => by
    rw [fX5_entryAlone_11, if_neg (by omega), c_isOpen hT h hj hq (show t < 24 by omega), b2_ok, entG]
    cases ho : opn D j q t
    · rw [if_pos (show (if false = true then (1 : Int) else 0) = 0 by decide), lt_ok, w32_s (by omega), if_neg (by decide)]
      exact c_entryAlone_11 hT h hj hq m n (t + 1) (by omega) (by omega)
    · rw [if_neg (show ¬ (if true = true then (1 : Int) else 0) = 0 by decide), if_pos rfl]
  | _, 0, _, _, hn => absurd hn (by omega)
theorem c_entryAlone (hT : TabC s D nH nB nS) (h : SeaOk D nH nB nS) {i j q u : Nat} (hi : i < nB) (hj : j < nH) (hq : q < nS) (hu : u ≤ 24) : fX5_entryAlone i j q u s = some (((entA D i j q u : Nat) : Int), s) := by
  have ha := arr_le D (D (16 + 5 * i + 1)) (D (36 + 4 * i + j)) q hu
  unfold fX5_entryAlone
  rw [c_arrival hT h hi hj hq hu, b2_ok]
  exact c_entryAlone_11 hT h hj hq _ 600 _ (by omega) (by omega)
end CR

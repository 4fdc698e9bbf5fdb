/-! ===== the HARBOUR that is likeliest got into ===== -/
def gts (D : Nat → Int) (th i j u : Nat) : Nat → Int
  | 0 => 0
  | m + 1 => if th.testBit m = true ∧ entA D i j m u < 24 then gts D th i j u m + D (52 + 6 * m) else gts D th i j u m
def lkG (D : Nat → Int) (nS th i u : Nat) : Nat → Nat → Nat → Nat
  | 0, b, _ => b
  | m + 1, b, j => if gts D th i b u nS < gts D th i j u nS ∨ (gts D th i j u nS = gts D th i b u nS ∧ D (36 + 4 * i + j) < D (36 + 4 * i + b)) then lkG D nS th i u m j (j + 1) else lkG D nS th i u m b (j + 1)
def lk (D : Nat → Int) (nH nS th i u : Nat) : Nat := lkG D nS th i u (nH - 1) 0 1
section LK
variable {D : Nat → Int} {nH nB nS q : Nat} {N K : Nat → Int} {s s1 s2 s' : Mem}
theorem gts_rg (h : SeaOk D nH nB nS) {th i j u : Nat} : ∀ m, m ≤ 4 → 0 ≤ gts D th i j u m ∧ gts D th i j u m ≤ 10 * m
  | 0, _ => by unfold gts; omega
  | m + 1, hm => by
    have ih := gts_rg h (th := th) (i := i) (j := j) (u := u) m (by omega)
    have := h.2.2.2.2.1 m (by omega)
    unfold gts
    split <;> omega
theorem lkG_lt {th i u : Nat} : ∀ (m b j : Nat), j + m = nH → b < nH → lkG D nS th i u m b j < nH
  | 0, b, j, _, hb => by unfold lkG; exact hb
  | m + 1, b, j, e, hb => by
    unfold lkG
    split
    · exact lkG_lt m j (j + 1) (by omega) (by omega)
    · exact lkG_lt m b (j + 1) (by omega) hb
theorem lk_lt (h : SeaOk D nH nB nS) {th i u : Nat} : lk D nH nS th i u < nH := lkG_lt _ _ _ (by have := h.1; omega) (by have := h.1; omega)
theorem c_lk_26 (h : SeaOk D nH nB nS) (hC : SeaC s D nH nB nS) (hT : TabC s D nH nB nS) {th i j u b : Nat} {x : Int} (h4 : s 109 4 = th) (hth : th < 16) (hi : i < nB) (hj : j < nH) (hb : b < nH) (hu : u ≤ 24) (K : Int → Int → Int → Int → Int → Mem → Option (Int × Mem)) : ∀ (m n q : Nat), q + m = nS → m < n → fX4_likeliest_26 K n i u b x j (gts D th i j u q) q s = if x < gts D th i j u nS ∨ (gts D th i j u nS = x ∧ D (36 + 4 * i + j) < D (36 + 4 * i + b)) then K i u j (gts D th i j u nS) ((j + 1 : Nat) : Int) s else K i u b x ((j + 1 : Nat) : Int) s
  | m, 0, _, _, hn => absurd hn (by omega)
  | 0, n + 1, q, e, _ => by
    have h1 := h.1
    have e : q = nS := by omega
    subst e
    rw [fX4_likeliest_26, hC.2.2.1, if_pos (by omega)]
    unfold fX4_likeliest_134
    simp (disch := omega) only [rdG_sea_miles, rd_sea_miles, bo_ok, lt_ok, Int.toNat_natCast, hC.m, w32_s]
    by_cases c1 : x < gts D th i j u q
    · rw [if_pos c1, if_pos (Or.inl c1)]
    · rw [if_neg c1]
      by_cases c2 : gts D th i j u q = x
      · rw [if_pos c2]
        by_cases c3 : D (36 + 4 * i + b) ≤ D (36 + 4 * i + j)
        · rw [if_pos c3, if_neg (by omega)]
        · rw [if_neg c3, if_pos (Or.inr ⟨c2, by omega⟩)]
      · rw [if_neg c2, if_neg (by omega)]
  | m + 1, n + 1, q, e, hn => by
    have h1 := h.1
    have hr := gts_rg h (th := th) (i := i) (j := j) (u := u) q (by omega)
    have hq := h.2.2.2.2.1 q (by omega)
    have ih := c_lk_26 h hC hT h4 hth hi hj hb hu K m n (q + 1) (by omega) (by omega) (x := x)
    rw [gts] at ih
    rw [fX4_likeliest_26, hC.2.2.1, if_neg (by omega), h4]
    by_cases c : th.testBit q = true
    · rw [if_neg (fun z => by rw [(bit_0 (by omega) (by omega)).mp z] at c; exact absurd c (by simp)), c_entryAlone hT h hi hj (by omega) hu, b2_ok]
      by_cases c2 : entA D i j q u < 24
      · rw [if_pos ⟨c, c2⟩] at ih
        rw [if_neg (by omega)]
        simp (disch := omega) only [rdG_sea_storms, rd_sea_storms, bo_ok, lt_ok, Int.toNat_natCast, Int.reduceToNat, hC.q0, w32_s]
        rw [w32_id (by omega) (by omega)]
        exact ih
      · rw [if_neg (fun z => c2 z.2)] at ih
        rw [if_pos (by omega), lt_ok, w32_s (by omega)]
        exact ih
    · rw [if_neg (fun z => c z.1)] at ih
      rw [if_pos ((bit_0 (by omega) (by omega)).mpr (eq_false_of_ne_true c)), lt_ok, w32_s (by omega)]
      exact ih
theorem c_lk_8 (h : SeaOk D nH nB nS) (hC : SeaC s D nH nB nS) (hT : TabC s D nH nB nS) {th i u : Nat} (h4 : s 109 4 = th) (hth : th < 16) (hi : i < nB) (hu : u ≤ 24) : ∀ (m n b j : Nat), j + m = nH → m < n → b < nH → fX4_likeliest_8 n i u b (gts D th i b u nS) j s = some (((lkG D nS th i u m b j : Nat) : Int), s)
  | m, 0, _, _, _, hn, _ => absurd hn (by omega)
  | 0, n + 1, b, j, e, _, hb => by
    rw [fX4_likeliest_8, hC.1, if_pos (by omega), lkG]
  | m + 1, n + 1, b, j, e, hn, hb => by
    have h1 := h.1
    have key := c_lk_26 h hC hT h4 hth hi (show j < nH by omega) hb hu (fun p1 p2 p3 p4 p5 s => fX4_likeliest_8 n p1 p2 p3 p4 p5 s) (x := gts D th i b u nS) nS 600 0 (by omega) (by omega)
    rw [fX4_likeliest_8, hC.1, if_neg (by omega), lkG]
    refine (Eq.trans ?_ key).trans ?_
    · rfl
    · by_cases c : gts D th i b u nS < gts D th i j u nS ∨ (gts D th i j u nS = gts D th i b u nS ∧ D (36 + 4 * i + j) < D (36 + 4 * i + b))
      · rw [if_pos c, if_pos c]
        exact c_lk_8 h hC hT h4 hth hi hu m n j (j + 1) (by omega) (by omega) (by omega)
      · rw [if_neg c, if_neg c]
        exact c_lk_8 h hC hT h4 hth hi hu m n b (j + 1) (by omega) (by omega) hb
theorem c_likeliest (h : SeaOk D nH nB nS) (hC : SeaC s D nH nB nS) (hT : TabC s D nH nB nS) {th i u : Nat} (h4 : s 109 4 = th) (hth : th < 16) (hi : i < nB) (hu : u ≤ 24) : fX4_likeliest i u s = some (((lk D nH nS th i u : Nat) : Int), s) := by
  have h1 := h.1
  have hg := gts_rg h (th := th) (i := i) (j := 0) (u := u) nS (by omega)
  have key := c_lk_26 h hC hT h4 hth hi (show 0 < nH by omega) (show 0 < nH by omega) hu (fun p1 p2 p3 p4 p5 s => fX4_likeliest_8 599 p1 p2 p3 p4 p5 s) (x := -1) nS 600 0 (by omega) (by omega)
  rw [if_pos (Or.inl (by omega))] at key
  unfold fX4_likeliest
  rw [fX4_likeliest_8, hC.1, if_neg (by omega)]
  refine (Eq.trans ?_ key).trans (c_lk_8 h hC hT h4 hth hi hu (nH - 1) 599 0 1 (by omega) (by omega) (by omega))
  rfl
theorem or_b (a b : Bool) : orI (if a = true then 1 else 0) (if b = true then 1 else 0) = if (a || b) = true then 1 else 0 := by
  cases a <;> cases b <;> decide
theorem m_g33_end (hM : SeaM s D) (hN : NowM s N) {th : Nat} (e11 : N 11 = th) (hth : th < 16) (hq : q < 4) {K : Int → Int → Int → Int → Int → Mem → Option (Int × Mem)} {n : Nat} {i j u c t : Int} {is : Bool} (ht : 24 ≤ t) : fX9_getsIn_33 K (n + 1) i j u c q (if is = true then 1 else 0) t s = fX9_getsIn_86 K i j u q c (if th.testBit q = true ∧ is = true then D (52 + 6 * q) else 0) s := by
  rw [fX9_getsIn_33, if_pos ht]
  unfold fX9_getsIn_85
  cases is with
  | false => rw [if_pos (by decide), if_neg (fun z => by simp at z)]
  | true =>
    rw [if_neg (by decide), m_isThought hN e11 hth hq, b2_ok]
    by_cases cb : th.testBit q = true
    · rw [if_neg (by rw [if_pos cb]; decide), m_tenths hM hq, b2_ok, if_pos ⟨cb, rfl⟩]
    · rw [if_pos (by rw [if_neg cb]), if_neg (fun z => cb z.1)]
theorem m_g33 (h : SeaOk D nH nB nS) (hM : SeaM s D) (hN : NowM s N) {th j : Nat} (e11 : N 11 = th) (hth : th < 16) (hq : q < 4) (hj : j < 4) {K : Int → Int → Int → Int → Int → Mem → Option (Int × Mem)} {i u c : Int} : ∀ (m n t : Nat) (is : Bool), t + m = 24 → m < n → fX9_getsIn_33 K n i j u c q (if is = true then 1 else 0) t s = fX9_getsIn_86 K i j u q c (if th.testBit q = true ∧ (is || decide (entG D j q m t < 24)) = true then D (52 + 6 * q) else 0) s
  | m, 0, _, _, _, hn => absurd hn (by omega)
  | 0, n + 1, t, is, e, _ => by
    rw [m_g33_end hM hN e11 hth hq (by omega), entG]
    cases is <;> simp
  | m + 1, n + 1, t, is, e, hn => by
    have hle := entG_le D j q m (t + 1) (by omega)
    rw [fX9_getsIn_33, if_neg (by omega), m_isOpen hM h hj hq (by omega), b2_ok, or_b, lt_ok, lt_ok, w32_s (by omega), m_g33 h hM hN e11 hth hq hj m n (t + 1) _ (by omega) (by omega), entG]
    cases ho : opn D j q t
    · simp
    · have : decide (t < 24) = true := decide_eq_true (by omega)
      simp [this]
theorem m_gets_6 (h : SeaOk D nH nB nS) (hM : SeaM s D) (hN : NowM s N) {th i j u : Nat} (e11 : N 11 = th) (hth : th < 16) (hi : i < nB) (hj : j < nH) (hu : u ≤ 24) : ∀ (m n q : Nat), q + m = nS → m < n → fX9_getsIn_6 n i j u (gts D th i j u q) q s = some (gts D th i j u nS, s)
  | m, 0, _, _, hn => absurd hn (by omega)
  | 0, n + 1, q, e, _ => by
    have h1 := h.1
    have e : q = nS := by omega
    subst e
    rw [fX9_getsIn_6]
    simp (disch := omega) only [rd_m_sea, bo_ok, Int.reduceToNat, hM.at]
    rw [if_pos (by omega)]
  | m + 1, n + 1, q, e, hn => by
    have h1 := h.1
    have hr := gts_rg h (th := th) (i := i) (j := j) (u := u) q (by omega)
    have hq := h.2.2.2.2.1 q (by omega)
    have ih := m_gets_6 h hM hN e11 hth hi hj hu m n (q + 1) (by omega) (by omega)
    rw [gts] at ih
    obtain ⟨r, r1, r2⟩ := m_reachOf hM h hi hj (show q < nS by omega) hu
    rw [fX9_getsIn_6]
    simp (disch := omega) only [rd_m_sea, bo_ok, Int.reduceToNat, hM.at]
    rw [if_neg (by omega), r1, b2_ok]
    have key : fX9_getsIn_33 (fun p1 p2 p3 p4 p5 s => fX9_getsIn_6 n p1 p2 p3 p4 p5 s) 600 i j u (gts D th i j u q) q 0 r s = fX9_getsIn_86 (fun p1 p2 p3 p4 p5 s => fX9_getsIn_6 n p1 p2 p3 p4 p5 s) i j u q (gts D th i j u q) (if th.testBit q = true ∧ entA D i j q u < 24 then D (52 + 6 * q) else 0) s := by
      rcases r2 with ⟨r2, r3⟩ | ⟨r2, r3⟩
      · have := m_g33 h hM hN e11 hth (show q < 4 by omega) (show j < 4 by omega) (K := fun p1 p2 p3 p4 p5 s => fX9_getsIn_6 n p1 p2 p3 p4 p5 s) (i := i) (u := u) (c := gts D th i j u q) (24 - arr D (D (16 + 5 * i + 1)) (D (36 + 4 * i + j)) q u) 600 (arr D (D (16 + 5 * i + 1)) (D (36 + 4 * i + j)) q u) false (by omega) (by omega)
        rw [r2]
        refine this.trans ?_
        simp only [Bool.false_or, decide_eq_true_eq]
        rfl
      · have := m_g33_end hM hN e11 hth (show q < 4 by omega) (K := fun p1 p2 p3 p4 p5 s => fX9_getsIn_6 n p1 p2 p3 p4 p5 s) (n := 599) (i := i) (j := j) (u := u) (c := gts D th i j u q) (is := false) (show 24 ≤ r by omega)
        refine this.trans ?_
        have ee : entA D i j q u = 24 := by unfold entA; rw [r3]; rfl
        rw [ee, if_neg (fun z => by simp at z), if_neg (fun z => by simp at z)]
    rw [key]
    unfold fX9_getsIn_86
    rw [lt_ok, lt_ok, w32_s (by omega)]
    by_cases c : th.testBit q = true ∧ entA D i j q u < 24
    · rw [if_pos c] at ih
      rw [if_pos c, w32_id (by omega) (by omega)]; exact ih
    · rw [if_neg c] at ih
      rw [if_neg c, Int.add_zero, w32_id (by omega) (by omega)]; exact ih
theorem m_getsIn (h : SeaOk D nH nB nS) (hM : SeaM s D) (hN : NowM s N) {th i j u : Nat} (e11 : N 11 = th) (hth : th < 16) (hi : i < nB) (hj : j < nH) (hu : u ≤ 24) : fX9_getsIn i j u s = some (gts D th i j u nS, s) := m_gets_6 h hM hN e11 hth hi hj hu nS 600 0 (by omega) (by have := h.1; omega)
theorem m_open_5 (h : SeaOk D nH nB nS) (hM : SeaM s D) (hN : NowM s N) {th i u : Nat} (e11 : N 11 = th) (hth : th < 16) (hi : i < nB) (hu : u ≤ 24) : ∀ (m n b j : Nat), j + m = nH → m < n → b < nH → fX9_openest_5 n i u b j s = some (((lkG D nS th i u m b j : Nat) : Int), s)
  | m, 0, _, _, _, hn, _ => absurd hn (by omega)
  | 0, n + 1, b, j, e, _, hb => by
    have h1 := h.1
    rw [fX9_openest_5, lkG]
    simp (disch := omega) only [rd_m_sea, bo_ok, Int.reduceToNat, hM.at]
    rw [if_pos (by omega)]
  | m + 1, n + 1, b, j, e, hn, hb => by
    have h1 := h.1
    have hg1 := gts_rg h (th := th) (i := i) (j := j) (u := u) nS (by omega)
    have hg2 := gts_rg h (th := th) (i := i) (j := b) (u := u) nS (by omega)
    rw [fX9_openest_5, lkG]
    simp (disch := omega) only [rd_m_sea, bo_ok, Int.reduceToNat, hM.at]
    rw [if_neg (by omega), m_getsIn h hM hN e11 hth hi (show j < nH by omega) hu, b2_ok, m_getsIn h hM hN e11 hth hi hb hu, b2_ok, lt_ok, w32_id (by omega) (by omega), m_away hM (by omega) (by omega), b2_ok, m_away hM (by omega) (by omega), b2_ok]
    unfold fX9_openest_62 fX9_openest_67 fX9_openest_68
    rw [lt_ok, lt_ok, w32_s (by omega)]
    have i1 := m_open_5 h hM hN e11 hth hi hu m n j (j + 1) (by omega) (by omega) (by omega)
    have i2 := m_open_5 h hM hN e11 hth hi hu m n b (j + 1) (by omega) (by omega) hb
    by_cases c1 : gts D th i b u nS < gts D th i j u nS
    · rw [if_pos (by omega), if_pos (Or.inl c1)]; exact i1
    · rw [if_neg (by omega)]
      by_cases c2 : gts D th i j u nS = gts D th i b u nS
      · rw [if_pos (by omega)]
        by_cases c3 : D (36 + 4 * i + b) ≤ D (36 + 4 * i + j)
        · rw [if_pos c3, if_neg (by omega)]; exact i2
        · rw [if_neg c3, if_pos (Or.inr ⟨c2, by omega⟩)]; exact i1
      · rw [if_neg (by omega), if_neg (by omega)]; exact i2
theorem m_openest (h : SeaOk D nH nB nS) (hM : SeaM s D) (hN : NowM s N) {th i u : Nat} (e11 : N 11 = th) (hth : th < 16) (hi : i < nB) (hu : u ≤ 24) : fX9_openest i u s = some (((lk D nH nS th i u : Nat) : Int), s) := m_open_5 h hM hN e11 hth hi hu (nH - 1) 600 0 1 (by have := h.1; omega) (by have := h.1; omega) (by have := h.1; omega)
end LK

/-! ===== one boat ALONE ===== -/
def wy (D : Nat → Int) (i q u j : Nat) : Int := fsh D i q u - D (16 + 5 * i + 3) * (1000000 - alv D i q (entA D i j q u))
def rn (D : Nat → Int) (nS i set u j : Nat) : Int := w64 (sm set (fun q => D (52 + 6 * q) * wy D i q u j) nS)
/-- the sum over what the GLASS may tell, below v -/
def sS (f : Nat → Int) (D : Nat → Int) (nS set t : Nat) : Nat → Int
  | 0 => 0
  | v + 1 => if tel D set t (v : Int) nS = 0 then sS f D nS set t v else w64 (sS f D nS set t v + f (tel D set t (v : Int) nS))
def mxJ (x : Int) (g : Nat → Int) : Nat → Int
  | 0 => x
  | j + 1 => lmax (mxJ x g j) (g j)
/-- the greatest sum with m HOURS left -/
def bF (D : Nat → Int) (nH nS i : Nat) : Nat → Nat → Int
  | 0 => fun _ => 0
  | m + 1 => fun set => mxJ (if m = 0 then rn D nS i set 24 0 else sS (bF D nH nS i m) D nS set (24 - m) 10) (fun j => rn D nS i set (23 - m) j) nH
def stF (D : Nat → Int) (nH nS i m set : Nat) : Int := if m = 0 then rn D nS i set 24 0 else sS (bF D nH nS i m) D nS set (24 - m) 10
/-- what it does -/
def chJ (g : Nat → Int) : Nat → Nat → Nat → Int → Nat
  | 0, _, b, _ => b
  | m + 1, j, b, x => if g j ≤ x then chJ g m (j + 1) b x else chJ g m (j + 1) (1 + j) (g j)
section AL
variable {D : Nat → Int} {nH nB nS q th : Nat} {N K : Nat → Int} {kc : Nat} {T : Nat → Int} {tl : Nat} {s s1 s2 s' : Mem}
theorem bF_s (i m set : Nat) : bF D nH nS i (m + 1) set = mxJ (stF D nH nS i m set) (fun j => rn D nS i set (23 - m) j) nH := rfl
theorem c_run_6 (h : SeaOk D nH nB nS) (hC : SeaC s D nH nB nS) (hT : TabC s D nH nB nS) {i u j set : Nat} (hi : i < nB) (hj : j < nH) (hu : u ≤ 24) (hs : set < 16) : ∀ (m n q : Nat), q + m = nS → m < n → fX1_sumOfRunning_6 n i u j set (w64 (sm set (fun q => D (52 + 6 * q) * wy D i q u j) q)) q s = some (rn D nS i set u j, s)
  | m, 0, _, _, hn => absurd hn (by omega)
  | 0, n + 1, q, e, _ => by
    have e : q = nS := by omega
    subst e
    rw [fX1_sumOfRunning_6, hC.2.2.1, if_pos (by omega)]; rfl
  | m + 1, n + 1, q, e, hn => by
    have hb := h.1
    have ih := c_run_6 h hC hT hi hj hu hs m n (q + 1) (by omega) (by omega)
    have he := entA_le D i j q hu
    have ha := alv_rg h (i := i) (q := q) (by omega) (by omega) (entA D i j q u)
    rw [sm] at ih
    rw [fX1_sumOfRunning_6, hC.2.2.1, if_neg (by omega)]
    by_cases c : set.testBit q = true
    · rw [if_pos c] at ih
      rw [if_neg (fun z => by rw [(bit_0 (by omega) (by omega)).mp z] at c; exact absurd c (by simp)), c_entryAlone hT h hi hj (by omega) hu, b2_ok, c_aliveAt hT h hi (by omega) (by omega), b2_ok, lt_ok, c_fishedTill hT h hi (by omega) (by omega), b2_ok]
      simp (disch := omega) only [rdG_sea_sorts, rd_sea_sorts, rdG_sea_storms, rd_sea_storms, bo_ok, lt_ok, Int.toNat_natCast, Int.reduceToNat, hC.b3, hC.q0, w32_s]
      rw [w32_id (by omega) (by omega), w64_sr, w64_mr, w64_ar, w64_al]
      exact ih
    · rw [if_neg c] at ih
      rw [if_pos ((bit_0 (by omega) (by omega)).mpr (eq_false_of_ne_true c)), lt_ok, w32_s (by omega)]
      exact ih
theorem c_running (h : SeaOk D nH nB nS) (hC : SeaC s D nH nB nS) (hT : TabC s D nH nB nS) {i u j set : Nat} (hi : i < nB) (hj : j < nH) (hu : u ≤ 24) (hs : set < 16) : fX1_sumOfRunning i u j set s = some (rn D nS i set u j, s) := c_run_6 h hC hT hi hj hu hs nS 600 0 (by omega) (by have := h.1; omega)
theorem c_best_12 (h : SeaOk D nH nB nS) (hC : SeaC s D nH nB nS) (hT : TabC s D nH nB nS) {g : Int → Int → Int → Mem → Option (Int × Mem)} {i u set : Nat} {x : Int} (hi : i < nB) (hu : u ≤ 24) (hs : set < 16) : ∀ (m n j : Nat), j + m = nH → m < n → fX1_bestFrom_12 g n i u set (mxJ x (fun j => rn D nS i set u j) j) j s = some (mxJ x (fun j => rn D nS i set u j) nH, s)
  | m, 0, _, _, hn => absurd hn (by omega)
  | 0, n + 1, j, e, _ => by
    have e : j = nH := by omega
    subst e
    rw [fX1_bestFrom_12, hC.1, if_pos (by omega)]
  | m + 1, n + 1, j, e, hn => by
    have hb := h.1
    have ih := c_best_12 h hC hT (g := g) (x := x) hi hu hs m n (j + 1) (by omega) (by omega)
    rw [mxJ] at ih
    rw [fX1_bestFrom_12, hC.1, if_neg (by omega), c_running h hC hT hi (by omega) hu hs, b2_ok, lt_ok, lt_ok, w32_s (by omega)]
    exact ih
theorem c_stay (h : SeaOk D nH nB nS) (hC : SeaC s D nH nB nS) (hT : TabC s D nH nB nS) {g : Int → Int → Int → Mem → Option (Int × Mem)} {i m set : Nat} (hi : i < nB) (hm : m ≤ 23) (hs : set < 16) (hg : 0 < m → g i ((24 - m : Nat) : Int) set s = some (sS (bF D nH nS i m) D nS set (24 - m) 10, s)) : fX1_sumOfStaying g i ((23 - m : Nat) : Int) set s = some (stF D nH nS i m set, s) := by
  have hb := h.1
  unfold fX1_sumOfStaying stF
  rw [w32_s (by omega)]
  by_cases c : m = 0
  · have e : fX1_sumOfRunning i 24 0 set s = some (rn D nS i set 24 0, s) := c_running h hC hT hi (u := 24) (j := 0) (by omega) (by omega) hs
    rw [if_pos (by omega), e, b2_ok, if_pos c]
  · rw [if_neg (by omega), show 23 - m + 1 = 24 - m by omega, hg (by omega), b2_ok, if_neg c]
theorem c_bog_6 (h : SeaOk D nH nB nS) (hC : SeaC s D nH nB nS) (hT : TabC s D nH nB nS) {g : Int → Int → Int → Mem → Option (Int × Mem)} {i m0 set : Nat} (hi : i < nB) (hm0 : m0 ≤ 23) (hs : set < 16) (hg : ∀ set' : Nat, set' < 16 → 0 < m0 → g i ((24 - m0 : Nat) : Int) set' s = some (sS (bF D nH nS i m0) D nS set' (24 - m0) 10, s)) : ∀ (m n v : Nat), v + m = 10 → m < n → fX1_bestOfGroups_6 g n i ((23 - m0 : Nat) : Int) set (sS (bF D nH nS i (m0 + 1)) D nS set (23 - m0) v) v s = some (sS (bF D nH nS i (m0 + 1)) D nS set (23 - m0) 10, s)
  | m, 0, _, _, hn => absurd hn (by omega)
  | 0, n + 1, v, e, _ => by
    have e : v = 10 := by omega
    subst e
    rw [fX1_bestOfGroups_6, if_pos (by omega)]
  | m + 1, n + 1, v, e, hn => by
    have hb := h.1
    have ih := c_bog_6 h hC hT hi hm0 hs hg m n (v + 1) (by omega) (by omega)
    have ht := tel_16 D set (23 - m0) (v : Int) (m := nS) (by omega)
    rw [sS] at ih
    rw [fX1_bestOfGroups_6, if_neg (by omega), c_telling hC h hs (by omega), b2_ok]
    by_cases c : tel D set (23 - m0) (v : Int) nS = 0
    · rw [if_pos c] at ih
      rw [if_pos (by omega), lt_ok, w32_s (by omega)]
      exact ih
    · rw [if_neg c] at ih
      have kb : fX1_bestFrom g i ((23 - m0 : Nat) : Int) ((tel D set (23 - m0) (v : Int) nS : Nat) : Int) s = some (bF D nH nS i (m0 + 1) (tel D set (23 - m0) (v : Int) nS), s) := by
        unfold fX1_bestFrom
        rw [c_stay h hC hT hi hm0 ht (hg _ ht), b2_ok, bF_s]
        exact c_best_12 h hC hT (x := stF D nH nS i m0 (tel D set (23 - m0) (v : Int) nS)) hi (show 23 - m0 ≤ 24 by omega) ht nH 600 0 (by omega) (by omega)
      rw [if_neg (by omega), kb, b2_ok, lt_ok, lt_ok, w32_s (by omega)]
      exact ih
theorem c_bog (h : SeaOk D nH nB nS) (hC : SeaC s D nH nB nS) (hT : TabC s D nH nB nS) {i : Nat} (hi : i < nB) : ∀ (m n : Nat), m ≤ 23 → m < n → ∀ set : Nat, set < 16 → fBOG n i ((23 - m : Nat) : Int) set s = some (sS (bF D nH nS i (m + 1)) D nS set (23 - m) 10, s)
  | m, 0, _, hn, _, _ => absurd hn (by omega)
  | 0, n + 1, hm, hn, set, hs => by
    rw [fBOG]
    exact c_bog_6 h hC hT hi hm hs (fun _ _ z => absurd z (by omega)) 10 600 0 (by omega) (by omega)
  | m + 1, n + 1, hm, hn, set, hs => by
    rw [fBOG]
    refine c_bog_6 h hC hT hi hm hs (fun set' hs' _ => ?_) 10 600 0 (by omega) (by omega)
    have := c_bog h hC hT hi m n (by omega) (by omega) set' hs'
    rw [show 24 - (m + 1) = 23 - m by omega]
    exact this
theorem c_choice_15 (h : SeaOk D nH nB nS) (hC : SeaC s D nH nB nS) (hT : TabC s D nH nB nS) {i u set : Nat} (hi : i < nB) (hu : u ≤ 24) (hs : set < 16) : ∀ (m n j b : Nat) (x : Int), j + m = nH → m < n → fX1_choice_15 n i u set b x j s = some (((chJ (fun j => rn D nS i set u j) m j b x : Nat) : Int), s)
  | m, 0, _, _, _, _, hn => absurd hn (by omega)
  | 0, n + 1, j, b, x, e, _ => by
    rw [fX1_choice_15, hC.1, if_pos (by omega), chJ]
  | m + 1, n + 1, j, b, x, e, hn => by
    have hb := h.1
    rw [fX1_choice_15, hC.1, if_neg (by omega), c_running h hC hT hi (by omega) hu hs, b2_ok, lt_ok, lt_ok, lt_ok, w32_s (by omega), na_1 (by omega), chJ]
    by_cases c : rn D nS i set u j ≤ x
    · rw [if_pos c, if_pos c]
      exact c_choice_15 h hC hT hi hu hs m n (j + 1) b x (by omega) (by omega)
    · rw [if_neg c, if_neg c]
      exact c_choice_15 h hC hT hi hu hs m n (j + 1) (1 + j) (rn D nS i set u j) (by omega) (by omega)
theorem c_choice (h : SeaOk D nH nB nS) (hC : SeaC s D nH nB nS) (hT : TabC s D nH nB nS) {i m set : Nat} (hi : i < nB) (hm : m ≤ 23) (hs : set < 16) : fX1_choice i ((23 - m : Nat) : Int) set s = some (((chJ (fun j => rn D nS i set (23 - m) j) nH 0 0 (stF D nH nS i m set) : Nat) : Int), s) := by
  have hb := h.1
  unfold fX1_choice
  rw [c_stay h hC hT (g := fun i t q s => fBOG 30 i t q s) hi hm hs (fun hp => by
    have := c_bog h hC hT hi (m - 1) 30 (by omega) (by omega) set hs
    rw [show 23 - (m - 1) = 24 - m by omega, show m - 1 + 1 = m by omega] at this
    exact this), b2_ok]
  exact c_choice_15 h hC hT hi (by omega) hs nH 600 0 0 _ (by omega) (by omega)
end AL

/-! ===== NIGHT ===== -/
def tsm (D : Nat → Int) (m : Nat) : Int := itr (fun q a => a + D (52 + 6 * q)) m 0 0
def ndG (D : Nat → Int) (d : Int) : Nat → Nat → Nat
  | 0, _ => 0
  | m + 1, q => if tsm D (q + 1) ≤ d then ndG D d m (q + 1) else q
section NI
variable {D : Nat → Int} {nH nB nS q th : Nat} {N K : Nat → Int} {kc : Nat} {T : Nat → Int} {tl : Nat} {rule : Int} {s s1 s2 s' : Mem}
theorem tsm_s (m : Nat) : tsm D (m + 1) = tsm D m + D (52 + 6 * m) := by
  unfold tsm
  rw [itr_last, Nat.zero_add]
theorem tsm_rg (h : SeaOk D nH nB nS) : ∀ m, m ≤ 4 → 0 ≤ tsm D m ∧ tsm D m ≤ 10 * m
  | 0, _ => ⟨Int.le_refl _, Int.le_refl _⟩
  | m + 1, hm => by
    have := tsm_rg h m (by omega)
    have := h.2.2.2.2.1 m (by omega)
    rw [tsm_s]; omega
theorem ndG_lt {d : Int} (h : d < tsm D nS) : ∀ m q, q + m = nS → 0 < m → ndG D d m q < nS
  | 0, _, _, h0 => absurd h0 (by omega)
  | m + 1, q, e, _ => by
    unfold ndG
    split
    · rename_i c
      rcases Nat.eq_zero_or_pos m with z | z
      · subst z
        rw [show q + 1 = nS by omega] at c; omega
      · exact ndG_lt h m (q + 1) (by omega) z
    · omega
theorem rem_l {x c : Int} (h0 : 0 ≤ x) (h1 : x ≤ 10000000000000000) (hc : c = 65521 ∨ c = 10) : w64 (x - w64 (w64 (Int.tdiv x c) * c)) = x % c := by
  rcases hc with rfl | rfl
  · rw [tdiv_nn h0, w64_id (x := x / 65521) (by omega) (by omega), w64_id (x := x / 65521 * 65521) (by omega) (by omega), w64_id (by omega) (by omega)]; omega
  · rw [tdiv_nn h0, w64_id (x := x / 10) (by omega) (by omega), w64_id (x := x / 10 * 10) (by omega) (by omega), w64_id (by omega) (by omega)]; omega
def drw (z : Int) : Int := (7919 * z + 1) * (7919 * z + 1) % 65521 % 10
theorem drw_rg (z : Int) : 0 ≤ drw z ∧ drw z < 10 := by
  unfold drw; omega
theorem drw_e {z : Int} (h0 : 0 ≤ z) (h1 : z ≤ 9999) : w64 (w64 (7919 * z) + 1) = 7919 * z + 1 ∧ w64 ((w64 ((w64 ((7919 * z + 1) * (7919 * z + 1))) - w64 (w64 (Int.tdiv (w64 ((7919 * z + 1) * (7919 * z + 1))) 65521) * 65521))) - w64 (w64 (Int.tdiv (w64 ((w64 ((7919 * z + 1) * (7919 * z + 1))) - w64 (w64 (Int.tdiv (w64 ((7919 * z + 1) * (7919 * z + 1))) 65521) * 65521))) 10) * 10)) = drw z := by
  have a0 : 0 ≤ (7919 * z + 1) * (7919 * z + 1) := Int.mul_nonneg (by omega) (by omega)
  have a1 : (7919 * z + 1) * (7919 * z + 1) ≤ 79182082 * 79182082 := Int.mul_le_mul (by omega) (by omega) (by omega) (by omega)
  refine ⟨by rw [w64_id (x := 7919 * z) (by omega) (by omega), w64_id (by omega) (by omega)], ?_⟩
  unfold drw
  generalize (7919 * z + 1) * (7919 * z + 1) = x at a0 a1
  rw [w64_id (x := x) (by omega) (by omega), rem_l a0 (by omega) (Or.inl rfl), rem_l (by omega) (by omega) (Or.inr rfl)]
theorem c_drawn_28 (h : SeaOk D nH nB nS) (hC : SeaC s D nH nB nS) {d : Int} : ∀ (m n q : Nat), q + m = nS → m < n → fX5_drawnBy_28 n d (tsm D q) q s = some (((ndG D d m q : Nat) : Int), s)
  | m, 0, _, _, hn => absurd hn (by omega)
  | 0, n + 1, q, e, _ => by
    rw [fX5_drawnBy_28, hC.2.2.1, if_pos (by omega), ndG]; rfl
  | m + 1, n + 1, q, e, hn => by
    have hb := h.1
    have ht := tsm_rg h (q + 1) (by omega)
    have ih := c_drawn_28 h hC (d := d) m n (q + 1) (by omega) (by omega)
    rw [fX5_drawnBy_28, hC.2.2.1, if_neg (by omega), ndG]
    simp (disch := omega) only [rdG_sea_storms, rd_sea_storms, bo_ok, lt_ok, Int.toNat_natCast, Int.reduceToNat, hC.q0, w32_s]
    rw [← tsm_s, w32_id (by omega) (by omega)]
    by_cases c : tsm D (q + 1) ≤ d
    · rw [if_pos c, if_pos c]; exact ih
    · rw [if_neg c, if_neg c]
theorem c_drawnBy (h : SeaOk D nH nB nS) (hC : SeaC s D nH nB nS) {z : Int} (h0 : 0 ≤ z) (h1 : z ≤ 9999) : fX5_drawnBy z s = some (((ndG D (drw z) nS 0 : Nat) : Int), s) := by
  have hb := h.1
  have hd := drw_e h0 h1
  unfold fX5_drawnBy
  rw [hd.1, lt_ok, hd.2, lt_ok]
  exact c_drawn_28 h hC nS 600 0 (by omega) (by omega)
theorem m_night_72 (h : SeaOk D nH nB nS) (hM : SeaM s D) {d : Int} (hd : d < 10) {what : Int} : ∀ (m n q : Nat), q + (m + 1) = nS → m + 1 < n → fX9_night_72 n rule what d q (tsm D (q + 1)) s = if what = 0 then some (((ndG D d (m + 1) q : Nat) : Int), s) else (fX9_ruled rule ((ndG D d (m + 1) q : Nat) : Int) s).bind fun s4 => b2 (fX9_goesBy ((ndG D d (m + 1) q : Nat) : Int) 0 s4) fun r5 s6 => some (r5, s6)
  | m, 0, _, _, hn => absurd hn (by omega)
  | m, n + 1, q, e, hn => by
    have hb := h.1
    have h10 : tsm D nS = 10 := h.2.2.2.2.2.2.2.2.1
    rw [fX9_night_72, ndG]
    by_cases c : tsm D (q + 1) ≤ d
    · rw [if_neg (by omega), if_pos c]
      cases m with
      | zero =>
        rw [show q + 1 = nS by omega] at c; omega
      | succ m =>
        have ht := tsm_rg h (q + 1 + 1) (by omega)
        have ih := m_night_72 h hM hd (what := what) m n (q + 1) (by omega) (by omega)
        rw [lt_ok, w32_s (by omega), m_tenths hM (by omega), b2_ok, lt_ok, ← tsm_s, w32_id (by omega) (by omega)]
        exact ih
    · rw [if_pos (by omega), if_neg c]
theorem call_night (hI : Inv s) (a b c : Int) : ∃ r s1 s2, fX8_night a b c s = some (r, s1) ∧ fX9_night a b c s1 = some (r, s2) ∧ Inv s2 := by
  have hI2 := hI.read
  obtain ⟨D, nH, nB, nS, N, K, kc, T, tl, hV, hM, hC⟩ := hI
  have hb := hV.1.1
  obtain ⟨th, e11, hth⟩ := hV.2.1.2.2.2.2.2.2.2
  have h16 := th_16 hth (by omega)
  have h10 : tsm D nS = 10 := hV.1.2.2.2.2.2.2.2.2.1
  by_cases hh : (0 ≤ a ∧ a ≤ 9999) ∧ (0 ≤ b ∧ b ≤ 4) ∧ (0 ≤ c ∧ c ≤ 1)
  · obtain ⟨ha, hbb, hc⟩ := hh
    have hd := drw_rg a
    have he := drw_e ha.1 ha.2
    have hlt : ndG D (drw a) nS 0 < nS := ndG_lt (by omega) nS 0 (by omega) (by omega)
    have mk : ∀ s1, InvM s1 D N K kc T tl → fX9_night a b c s1 = if c = 0 then some (((ndG D (drw a) nS 0 : Nat) : Int), mu s1 0 0 0) else (fX9_ruled b ((ndG D (drw a) nS 0 : Nat) : Int) (mu s1 0 0 0)).bind fun s4 => b2 (fX9_goesBy ((ndG D (drw a) nS 0 : Nat) : Int) 0 s4) fun r5 s6 => some (r5, s6) := fun s1 hM1 => by
      have h0 := hM1.thrown
      have ht := tsm_rg hV.1 1 (by omega)
      have key := m_night_72 (rule := b) hV.1 h0.1 hd.2 (what := c) (nS - 1) 600 0 (by omega) (by omega)
      rw [show nS - 1 + 1 = nS by omega] at key
      unfold fX9_night
      rw [lt_ok, m_isIn, b2_ok, if_neg (by rw [if_pos ha]; decide), m_isRule, b2_ok, if_neg (by rw [if_pos hbb]; decide), m_isIn, b2_ok, if_neg (by rw [if_pos hc]; decide), he.1, lt_ok, he.2, lt_ok, w32_id (by omega) (by omega)]
      have e0 : fX9_tenths 0 (mu s1 0 0 0) = some (tsm D (0 + 1), mu s1 0 0 0) := by
        have := m_tenths h0.1 (q := 0) (by omega)
        rw [tsm_s]
        show fX9_tenths 0 (mu s1 0 0 0) = some (0 + D (52 + 6 * 0), mu s1 0 0 0)
        rw [Int.zero_add]; exact this
      rw [e0, b2_ok]
      exact key
    have ck : fX8_night a b c s = if c = 0 then some (((ndG D (drw a) nS 0 : Nat) : Int), s) else b2 (fX8_worthByRule b ((ndG D (drw a) nS 0 : Nat) : Int) s) fun r11 s12 => some (r11, s12) := by
      unfold fX8_night
      rw [if_neg (by omega), if_neg (by omega), c_isRule, b2_ok, if_neg (by rw [if_pos hbb]; decide), if_neg (by omega), if_pos (by omega), c_drawnBy hV.1 hC.1 ha.1 ha.2, b2_ok]
    by_cases c0 : c = 0
    · refine ⟨((ndG D (drw a) nS 0 : Nat) : Int), s, mu s 0 0 0, ?_, ?_, hI2⟩
      · rw [ck, if_pos c0]
      · rw [mk s hM, if_pos c0]
    · obtain ⟨s1, p1, f1⟩ := c_worthByRule (rule := b) hV.1 hV.2.1 e11 h16 hlt ⟨hC.1, hC.2.1, hC.2.2.1⟩
      have hM1 : InvM s1 D N K kc T tl := hM.fr (fun k hk => f1 k (by omega))
      have h0 := hM1.thrown
      obtain ⟨s3, s4, g1, g2, g3, g4⟩ := m_worthByRule (rule := b) hV.1 hV.2.1 e11 h16 hlt hbb.2 h0.1 h0.2.1
      refine ⟨rv D N nH nB nS th b (ndG D (drw a) nS 0), s1, s4, ?_, ?_, fin_inv hV hM hC f1 (fun c h1 h2 => by rw [g4 c (by omega), mu_ne _ _ _ h1]) (fun f hf => by rw [g4 0 (by omega), mu_same, fu_ne _ _ hf])⟩
      · rw [ck, if_neg c0, p1, b2_ok]
      · rw [mk s1 hM1, if_neg c0, g1, bo_ok, g3, b2_ok]
  · refine ⟨-9223372036854775808, s, mu s 0 0 0, ?_, ?_, hI2⟩
    · unfold fX8_night
      simp only [c_isRule, b2_ok, if01_0]
      by_cases h1 : 0 ≤ a ∧ a ≤ 9999
      · rw [if_neg (by omega), if_neg (by omega)]
        by_cases h2 : 0 ≤ b ∧ b ≤ 4
        · rw [if_neg (fun z => z h2)]
          by_cases h3 : c < 0
          · rw [if_pos h3]
          · rw [if_neg h3, if_neg (by omega)]
        · rw [if_pos h2]
      · by_cases h2 : a < 0
        · rw [if_pos h2]
        · rw [if_neg h2, if_pos (by omega)]
    · unfold fX9_night
      simp only [lt_ok, m_isIn, m_isRule, b2_ok, if01_0]
      by_cases h1 : 0 ≤ a ∧ a ≤ 9999
      · rw [if_neg (fun z => z h1)]
        by_cases h2 : 0 ≤ b ∧ b ≤ 4
        · rw [if_neg (fun z => z h2)]
          by_cases h3 : 0 ≤ c ∧ c ≤ 1
          · exact absurd ⟨h1, h2, h3⟩ hh
          · rw [if_pos h3]
        · rw [if_pos h2]
      · rw [if_pos h1]
end NI

section E3
variable {D : Nat → Int} {nH nB nS : Nat} {N K : Nat → Int} {kc : Nat} {T : Nat → Int} {tl : Nat} {s s' : Mem}
/-! ===== wipe, write ===== -/
theorem call_wipe (hI : Inv s) : ∃ r s1 s2, fX8_wipe s = some (r, s1) ∧ fX9_wipe s1 = some (r, s2) ∧ Inv s2 := by
  obtain ⟨D, nH, nB, nS, N, K, kc, T, tl, hV, hM, hC⟩ := hI
  refine ⟨tl, mu s 18 1 0, mu (mu (mu s 18 1 0) 0 0 0) 0 6 0, ?_, ?_, ?_⟩
  · unfold fX8_wipe fX6_clear
    simp only [lt_ok, bo_ok, hC.2.2.2.2.1]
  · unfold fX9_wipe
    simp (disch := omega) only [lt_ok, mu_ne, mu_same, fu_ne, hM.2.2.2.1]
  · refine ⟨D, nH, nB, nS, N, K, kc, T, 0, ⟨hV.1, hV.2.1, hV.2.2.1, hV.2.2.2.1, hV.2.2.2.2.1, by omega, hV.2.2.2.2.2.2⟩, ?_, ?_⟩
    · obtain ⟨m1, m2, m3, m4⟩ := hM
      refine ⟨fun k hk => ?_, fun k hk => ?_, ⟨?_, fun k hk => ?_⟩, ⟨?_, fun k hk => ?_⟩⟩
      · simp (disch := omega) only [mu_ne]; exact m1 k hk
      · simp (disch := omega) only [mu_ne]; exact m2 k hk
      · simp (disch := omega) only [mu_ne, mu_same, fu_ne]; exact m3.1
      · simp (disch := omega) only [mu_ne]; exact m3.2 k hk
      · simp (disch := omega) only [mu_same, fu_same]; rfl
      · omega
    · refine InvC.fr ?_ (FrM.trans (FrM.mu (by decide)) (FrM.mu (by decide)))
      refine ⟨hC.1.of hV.1.b (fun k a b => mu_ne _ _ _ (by omega)), hC.2.1.of hV.1.b (fun k a b => mu_ne _ _ _ (by omega)), hC.2.2.1.fr (mu_ne _ _ _ (by decide)) (mu_ne _ _ _ (by decide)) (mu_ne _ _ _ (by decide)), hC.2.2.2.1.of (by rw [mu_ne _ _ _ (by decide)]) (fun k a b => mu_ne _ _ _ (by omega)), ?_, fun k hk => ?_⟩
      · rw [mu_same, fu_same]; rfl
      · omega
/-- byte k of v, as the reference keeps it -/
def byt (v : Int) (k : Nat) : Int := w32 (andL (shrL v (w32 (8 * (k : Int)))) 255)
/-- m bytes, the highest first, behind tl -/
def txtW (v : Int) : Nat → (Nat → Int) → Nat → (Nat → Int)
  | 0, T, _ => T
  | m + 1, T, tl => txtW v m (fu T tl (byt v m)) (tl + 1)
theorem fu_fun {f g : Nat → Int} {j : Nat} {x : Int} (h : ∀ k, f k = g k) : ∀ k, fu f j x k = fu g j x k := by
  intro k
  unfold fu
  split
  · rfl
  · exact h k
theorem c_write_36 {v : Int} (hv : r64 v) : ∀ (m n : Nat) (s : Mem) (T : Nat → Int) (tl : Nat), m < n → m ≤ 8 → tl + m ≤ 500 → TxtC s T tl → (∃ s', fX8_write_36 n v ((m : Int) - 1) s = some (((tl + m : Nat) : Int), s') ∧ TxtC s' (txtW v m T tl) (tl + m) ∧ (∀ k, k ≠ 18 → k ≠ 19 → s' k = s k))
  | 0, n + 1, s, T, tl, _, _, _, hT => by
    refine ⟨s, ?_, hT, fun _ _ _ => rfl⟩
    rw [fX8_write_36, if_pos (by omega), hT.1]; rfl
  | m + 1, n + 1, s, T, tl, hn, hm, hl, hT => by
    have e : ((m + 1 : Nat) : Int) - 1 = (m : Int) := by omega
    have hap : fX6_append (w8 (w32 (ushrL v (w32 (8 * (m : Int)))))) s = some (mu (mu s 19 tl (w8 (w8 (w32 (ushrL v (w32 (8 * (m : Int)))))))) 18 1 ((tl + 1 : Nat) : Int)) := by
      unfold fX6_append
      rw [hT.1, if_neg (by omega)]
      simp (disch := omega) only [wr_text_bytes, bo_ok, lt_ok, Int.toNat_natCast, mu_ne, hT.1, w32_s]
    have h88 : ∀ z, w8 (w8 z) = w8 z := by intro z; unfold w8; omega
    rw [h88, (byte_eq hv m (by omega)).1] at hap
    have hT1 : TxtC (mu (mu s 19 tl (w8 (byt v m))) 18 1 ((tl + 1 : Nat) : Int)) (fu T tl (byt v m)) (tl + 1) := by
      refine ⟨by rw [mu_same, fu_same], fun k hk => ?_⟩
      rw [mu_ne _ _ _ (by decide), mu_same]
      by_cases e2 : k = tl
      · subst e2; rw [fu_same, fu_same]
      · rw [fu_ne _ _ e2, fu_ne _ _ e2]; exact hT.2 k (by omega)
    obtain ⟨s', h1, h2, h3⟩ := c_write_36 hv m n _ _ (tl + 1) (by omega) (by omega) (by omega) hT1
    refine ⟨s', ?_, by rw [show tl + (m + 1) = tl + 1 + m by omega]; exact h2, fun k a b => by rw [h3 k a b, mu_ne _ _ _ a, mu_ne _ _ _ b]⟩
    rw [fX8_write_36, e, if_neg (by omega), (byte_eq hv m (by omega)).1, hap, bo_ok, lt_ok, w32_id (by omega) (by omega), show tl + (m + 1) = tl + 1 + m by omega]
    exact h1
  | _, 0, _, _, _, hn, _, _, _ => absurd hn (by omega)
theorem m_write_37 {v : Int} : ∀ (m n : Nat) (s : Mem) (T : Nat → Int) (tl : Nat), m < n → m ≤ 8 → tl + m ≤ 500 → TxtM s T tl → (∃ s', fX9_write_37 n v ((m : Int) - 1) s = some (((tl + m : Nat) : Int), s') ∧ TxtM s' (txtW v m T tl) (tl + m) ∧ (∀ k, k ≠ 0 → k ≠ 4 → s' k = s k) ∧ s' 0 4 = s 0 4)
  | 0, n + 1, s, T, tl, _, _, _, hT => by
    refine ⟨s, ?_, hT, fun _ _ _ => rfl, rfl⟩
    rw [fX9_write_37, if_pos (by omega), hT.1]; rfl
  | m + 1, n + 1, s, T, tl, hn, hm, hl, hT => by
    have e : ((m + 1 : Nat) : Int) - 1 = (m : Int) := by omega
    have hT1 : TxtM (mu (mu s 4 tl (byt v m)) 0 6 ((tl + 1 : Nat) : Int)) (fu T tl (byt v m)) (tl + 1) := by
      refine ⟨by rw [mu_same, fu_same], fun k hk => ?_⟩
      rw [mu_ne _ _ _ (by decide), mu_same]
      by_cases e2 : k = tl
      · subst e2; rw [fu_same, fu_same]
      · rw [fu_ne _ _ e2, fu_ne _ _ e2]; exact hT.2 k (by omega)
    obtain ⟨s', h1, h2, h3, h4⟩ := m_write_37 m n _ _ (tl + 1) (by omega) (by omega) (by omega) hT1
    refine ⟨s', ?_, by rw [show tl + (m + 1) = tl + 1 + m by omega]; exact h2, fun k a b => by rw [h3 k a b, mu_ne _ _ _ a, mu_ne _ _ _ b], ?_⟩
    · rw [fX9_write_37, e, if_neg (by omega), hT.1]
      simp (disch := omega) only [wr_m_text, bo_ok, lt_ok, Int.toNat_natCast, mu_ne, hT.1, w32_s]
      rw [w32_id (x := (m : Int) + -1) (by omega) (by omega), show tl + (m + 1) = tl + 1 + m by omega]
      exact h1
    · rw [h4, mu_same, fu_ne _ _ (by decide), mu_ne _ _ _ (by decide)]
  | _, 0, _, _, _, hn, _, _, _ => absurd hn (by omega)
theorem txtW_rg {v : Int} (hv : r64 v) : ∀ (m : Nat) (T : Nat → Int) (tl : Nat), m ≤ 8 → (∀ k, 0 ≤ T k ∧ T k ≤ 255) → ∀ k, 0 ≤ txtW v m T tl k ∧ txtW v m T tl k ≤ 255
  | 0, _, _, _, h => h
  | m + 1, T, tl, hm, h => by
    unfold txtW
    refine txtW_rg hv m _ _ (by omega) (fun k => ?_)
    unfold fu
    split
    · exact (byte_eq hv m (by omega)).2
    · exact h k
theorem call_write (hI : Inv s) (a v : Int) (hv : r64 v) : ∃ r s1 s2, fX8_write a v s = some (r, s1) ∧ fX9_write a v s1 = some (r, s2) ∧ Inv s2 := by
  have hI2 := hI.read
  obtain ⟨D, nH, nB, nS, N, K, kc, T, tl, hV, hM, hC⟩ := hI
  have htl := hV.2.2.2.2.2.1
  have e1 := hC.2.2.2.2.1
  have e2 : (mu s 0 0 0) 0 6 = tl := hM.thrown.2.2.2.1
  by_cases c0 : 1 ≤ a ∧ a ≤ 8
  · obtain ⟨m, rfl⟩ := nat_of (show 0 ≤ a by omega)
    by_cases c1 : tl + m ≤ 500
    · obtain ⟨s1, h1, h2, h3⟩ := c_write_36 hv m 600 s T tl (by omega) (by omega) c1 hC.2.2.2.2
      have hM1 : InvM (mu s1 0 0 0) D N K kc T tl := (hM.fr (fun k hk => h3 k (by omega) (by omega))).thrown
      obtain ⟨s2, g1, g2, g3, g4⟩ := m_write_37 (v := v) m 600 (mu s1 0 0 0) T tl (by omega) (by omega) c1 hM1.2.2.2
      refine ⟨((tl + m : Nat) : Int), s1, s2, ?_, ?_, D, nH, nB, nS, N, K, kc, txtW v m T tl, tl + m, ⟨hV.1, hV.2.1, hV.2.2.1, hV.2.2.2.1, hV.2.2.2.2.1, c1, txtW_rg hv m T tl (by omega) hV.2.2.2.2.2.2⟩, ?_, ?_⟩
      · unfold fX8_write
        rw [if_neg (by omega), if_pos (by omega), e1, w32_id (by omega) (by omega), if_pos (by omega), lt_ok, w32_id (by omega) (by omega)]
        exact h1
      · unfold fX9_write
        rw [lt_ok, m_isIn, b2_ok, if_neg (by rw [if01_0]; omega), hM1.2.2.2.1, w32_id (by omega) (by omega), if_pos (by omega), lt_ok, w32_id (by omega) (by omega)]
        exact g1
      · obtain ⟨m1, m2, m3, m4⟩ := hM1
        refine ⟨fun k hk => ?_, fun k hk => ?_, ⟨?_, fun k hk => ?_⟩, g2⟩
        · rw [g3 1 (by decide) (by decide)]; exact m1 k hk
        · rw [g3 2 (by decide) (by decide)]; exact m2 k hk
        · rw [g4]; exact m3.1
        · rw [g3 3 (by decide) (by decide)]; exact m3.2 k hk
      · have hf : FrM s1 s2 := fun k hk => by rw [g3 k (by omega) (by omega), mu_ne _ _ _ (by omega)]
        refine InvC.fr ?_ hf
        exact ⟨hC.1.of hV.1.b (fun k a b => h3 k (by omega) (by omega)), hC.2.1.of hV.1.b (fun k a b => h3 k (by omega) (by omega)), hC.2.2.1.fr (h3 _ (by decide) (by decide)) (h3 _ (by decide) (by decide)) (h3 _ (by decide) (by decide)), hC.2.2.2.1.of (by rw [h3 _ (by decide) (by decide)]) (fun k a b => h3 k (by omega) (by omega)), h2⟩
    · refine ⟨-3, s, mu s 0 0 0, ?_, ?_, hI2⟩
      · unfold fX8_write
        rw [if_neg (by omega), if_pos (by omega), e1, w32_id (by omega) (by omega), if_neg (by omega)]
      · unfold fX9_write
        rw [lt_ok, m_isIn, b2_ok, if_neg (by rw [if01_0]; omega), e2, w32_id (by omega) (by omega), if_neg (by omega)]
  · refine ⟨-1, s, mu s 0 0 0, ?_, ?_, hI2⟩
    · unfold fX8_write
      repeat' split
      all_goals first | rfl | (exfalso; omega)
    · unfold fX9_write
      rw [lt_ok, m_isIn, b2_ok, if_pos (by rw [if01_0]; omega)]
end E3

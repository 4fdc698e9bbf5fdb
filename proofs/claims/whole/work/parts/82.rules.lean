/-! ===== PLANS that a RULE makes ===== -/
def gone (D : Nat → Int) (U : Nat → Nat) (t : Nat) : Nat → Nat
  | 0 => 0
  | m + 1 => gone D U t m + if U m < t then nbF D m else 0
def rgo (D N : Nat → Int) (nB : Nat) (rule : Int) (q t i : Nat) (U : Nat → Nat) : Bool := if rule = 2 ∧ 0 < i then decide (N 9 ≤ ((gone D U t nB : Nat) : Int)) else decide (N 8 ≤ D (76 + 24 * q + t))
def dst (D : Nat → Int) (nH nS th : Nat) (rule : Int) (i t : Nat) : Nat := if rule = 3 then lk D nH nS th i t else nr D nH i
def rst (D N : Nat → Int) (nH nB nS th : Nat) (rule : Int) (q t i : Nat) (a : (Nat → Nat) × (Nat → Nat)) : (Nat → Nat) × (Nat → Nat) := if a.1 i = 24 ∧ rgo D N nB rule q t i a.1 = true then (fun k => if k = i then t else a.1 k, fun k => if k = i then dst D nH nS th rule i t else a.2 k) else a
def rhr (D N : Nat → Int) (nH nB nS th : Nat) (rule : Int) (q t : Nat) (a : (Nat → Nat) × (Nat → Nat)) : (Nat → Nat) × (Nat → Nat) := itr (rst D N nH nB nS th rule q t) nB 0 a
def rAll (D N : Nat → Int) (nH nB nS th : Nat) (rule : Int) (q : Nat) : (Nat → Nat) × (Nat → Nat) := if rule = 0 then (uN N, gN N) else if rule = 4 then (fun _ => 24, fun _ => 0) else itr (rhr D N nH nB nS th rule q) 24 0 (fun _ => 24, fun _ => 0)
def TrC (s : Mem) (nB : Nat) (a : (Nat → Nat) × (Nat → Nat)) : Prop := ∀ i, i < nB → s 135 i = ((a.1 i : Nat) : Int) ∧ s 136 i = ((a.2 i : Nat) : Int)
def RuC (s : Mem) (D : Nat → Int) (nH nB nS : Nat) (N : Nat → Int) : Prop := SeaC s D nH nB nS ∧ TabC s D nH nB nS ∧ WatC s 109 111 112 N
section RU
variable {D : Nat → Int} {nH nB nS q th : Nat} {N K : Nat → Int} {kc : Nat} {T : Nat → Int} {tl : Nat} {rule : Int} {s s1 s2 s' : Mem} {a : (Nat → Nat) × (Nat → Nat)}
theorem RuC.fr (h : RuC s D nH nB nS N) (hO : SeaOk D nH nB nS) (hf : ∀ k, k < 122 → s' k = s k) : RuC s' D nH nB nS N := ⟨h.1.of hO.b (fun k a b => hf k (by omega)), h.2.1.of hO.b (fun k a b => hf k (by omega)), h.2.2.fr (hf _ (by decide)) (hf _ (by decide)) (hf _ (by decide))⟩
theorem gone_le (h : SeaOk D nH nB nS) {U : Nat → Nat} {t : Nat} : ∀ m, m ≤ 4 → gone D U t m ≤ 8 * m
  | 0, _ => Nat.le_refl _
  | m + 1, hm => by
    have := gone_le h (U := U) (t := t) m (by omega)
    have := (nbF_i h (i := m) (by omega)).2
    unfold gone
    split <;> omega
theorem c_gone_5 (h : SeaOk D nH nB nS) (hC : SeaC s D nH nB nS) (hT : TrC s nB a) {t : Nat} : ∀ (m n i : Nat), i + m = nB → m < n → fX4_boatsGone_5 n t 134 ((gone D a.1 t i : Nat) : Int) i s = some (((gone D a.1 t nB : Nat) : Int), s)
  | m, 0, _, _, hn => absurd hn (by omega)
  | 0, n + 1, i, e, _ => by
    have e : i = nB := by omega
    subst e
    rw [fX4_boatsGone_5, hC.2.1, if_pos (by omega)]
  | m + 1, n + 1, i, e, hn => by
    have hb := h.1
    have hn8 := nbF_i h (i := i) (by omega)
    have hg := gone_le h (U := a.1) (t := t) i (by omega)
    have ih := c_gone_5 h hC hT (t := t) m n (i + 1) (by omega) (by omega)
    rw [gone] at ih
    rw [fX4_boatsGone_5, hC.2.1, if_neg (by omega)]
    simp (disch := omega) only [pt_trial_0, rd_trial_hour, rdG_sea_sorts, rd_sea_sorts, bo_ok, lt_ok, Int.toNat_natCast, Int.reduceToNat, hC.b0, (hT i (by omega)).1, w32_s]
    by_cases c : a.1 i < t
    · rw [if_pos c] at ih
      rw [if_neg (by omega), ← hn8.1, nab (by omega)]; exact ih
    · rw [if_neg c, Nat.add_zero] at ih
      rw [if_pos (by omega)]; exact ih
theorem c_runs (h : SeaOk D nH nB nS) (hR : RuC s D nH nB nS N) (hT : TrC s nB a) {t i : Nat} (hq : q < nS) (ht : t < 24) : fX4_runs rule q t i 134 s = some (if rgo D N nB rule q t i a.1 = true then 1 else 0, s) := by
  have hb := h.1
  have hg : fX4_boatsGone t 134 s = some (((gone D a.1 t nB : Nat) : Int), s) := c_gone_5 h hR.1 hT nB 600 0 (by omega) (by omega)
  have h33 : fX4_runs_33 q t s = some (if N 8 ≤ D (76 + 24 * q + t) then 1 else 0, s) := by
    unfold fX4_runs_33
    simp (disch := omega) only [rdG_sea_glass, rd_sea_glass, bo_ok, Int.toNat_natCast, hR.1.g, hR.2.2.1]
    by_cases c : N 8 ≤ D (76 + 24 * q + t)
    · rw [if_neg (by omega), if_pos c]
    · rw [if_pos (by omega), if_neg c]
  unfold fX4_runs
  rw [h33, hg, b2_ok, hR.2.2.2.1]
  by_cases c2 : rule = 2
  · rw [if_pos c2]
    by_cases ci : 0 < i
    · have er : rgo D N nB rule q t i a.1 = decide (N 9 ≤ ((gone D a.1 t nB : Nat) : Int)) := if_pos ⟨c2, ci⟩
      rw [er, if_neg (by omega)]
      simp only [decide_eq_true_eq]
      by_cases c : N 9 ≤ ((gone D a.1 t nB : Nat) : Int)
      · rw [if_neg (by omega), if_pos c]
      · rw [if_pos (by omega), if_neg c]
    · have er : rgo D N nB rule q t i a.1 = decide (N 8 ≤ D (76 + 24 * q + t)) := if_neg (fun z => ci z.2)
      rw [er, if_pos (by omega)]
      simp only [decide_eq_true_eq]
  · have er : rgo D N nB rule q t i a.1 = decide (N 8 ≤ D (76 + 24 * q + t)) := if_neg (fun z => c2 z.1)
    rw [er, if_neg c2]
    simp only [decide_eq_true_eq]
theorem TrC.put (h : TrC s nB a) {i u j : Nat} : TrC (mu (mu s 135 i ((u : Nat) : Int)) 136 i ((j : Nat) : Int)) nB (fun k => if k = i then u else a.1 k, fun k => if k = i then j else a.2 k) := fun k hk => by
  dsimp only
  rw [mu_ne _ _ _ (by decide), mu_same, mu_same]
  by_cases c : k = i
  · subst c; rw [fu_same, fu_same, if_pos rfl, if_pos rfl]; exact ⟨rfl, rfl⟩
  · rw [fu_ne _ _ c, fu_ne _ _ c, mu_ne _ _ _ (by decide), if_neg c, if_neg c]; exact h k hk
theorem c_fol_39 (h : SeaOk D nH nB nS) (e11 : N 11 = th) (hth : th < 16) (hq : q < nS) {t : Nat} (ht : t < 24) (K : Int → Int → Nat → Int → Mem → Option Mem) : ∀ (m n i : Nat) (s : Mem) (a : (Nat → Nat) × (Nat → Nat)), i + m = nB → m < n → RuC s D nH nB nS N → TrC s nB a → ∃ s', fX4_follow_39 K n rule q 134 t i s = K rule q 134 ((t + 1 : Nat) : Int) s' ∧ TrC s' nB (itr (rst D N nH nB nS th rule q t) m i a) ∧ (∀ k, k < 122 → s' k = s k)
  | m, 0, _, _, _, _, hn, _, _ => absurd hn (by omega)
  | 0, n + 1, i, s, a, e, _, hR, hT => by
    refine ⟨s, ?_, hT, fun _ _ => rfl⟩
    rw [fX4_follow_39, hR.1.2.1, if_pos (by omega), lt_ok, w32_s (by omega)]
  | m + 1, n + 1, i, s, a, e, hn, hR, hT => by
    have hb := h.1
    have ih := c_fol_39 h e11 hth hq ht K m n (i + 1)
    rw [itr_succ, fX4_follow_39, hR.1.2.1, if_neg (by omega), pt_trial_0, rd_trial_hour (by omega) (by omega), bo_ok, Int.toNat_natCast, (hT i (by omega)).1]
    by_cases c : a.1 i = 24
    · rw [if_pos (by omega), c_runs h hR hT hq ht, b2_ok]
      by_cases cr : rgo D N nB rule q t i a.1 = true
      · have er : rst D N nH nB nS th rule q t i a = (fun k => if k = i then t else a.1 k, fun k => if k = i then dst D nH nS th rule i t else a.2 k) := if_pos ⟨c, cr⟩
        have fr : ∀ k, k < 122 → mu (mu s 135 i ((t : Nat) : Int)) 136 i ((dst D nH nS th rule i t : Nat) : Int) k = s k := fun k hk => by rw [mu_ne _ _ _ (by omega), mu_ne _ _ _ (by omega)]
        obtain ⟨s', q1, q2, q3⟩ := ih (mu (mu s 135 i ((t : Nat) : Int)) 136 i ((dst D nH nS th rule i t : Nat) : Int)) _ (by omega) (by omega) (hR.fr h fr) hT.put
        rw [er]
        refine ⟨s', ?_, q2, fun k hk => by rw [q3 k hk, fr k hk]⟩
        rw [if_neg (by rw [if_pos cr]; decide), c_likeliest h hR.1 hR.2.1 (by rw [hR.2.2.2.2.2.1, e11]) hth (by omega) (by omega), b2_ok, c_nearest h hR.1 (by omega), b2_ok]
        unfold fX4_follow_107
        unfold dst at q1
        rw [c_send_t (by omega), bo_ok, c_send_t (by omega), bo_ok, lt_ok, w32_s (by omega)]
        by_cases c3 : rule = 3
        · rw [if_pos c3] at q1
          rw [if_pos c3]; exact q1
        · rw [if_neg c3] at q1
          rw [if_neg c3]; exact q1
      · have er : rst D N nH nB nS th rule q t i a = a := if_neg (fun z => cr z.2)
        rw [er, if_pos (by rw [if_neg cr]), lt_ok, w32_s (by omega)]
        exact ih s a (by omega) (by omega) hR hT
    · have er : rst D N nH nB nS th rule q t i a = a := if_neg (fun z => c z.1)
      rw [er, if_neg (by omega), lt_ok, w32_s (by omega)]
      exact ih s a (by omega) (by omega) hR hT
theorem c_fol_29 (h : SeaOk D nH nB nS) (e11 : N 11 = th) (hth : th < 16) (hq : q < nS) : ∀ (m n t : Nat) (s : Mem) (a : (Nat → Nat) × (Nat → Nat)), t + m = 24 → m < n → RuC s D nH nB nS N → TrC s nB a → ∃ s', fX4_follow_29 n rule q 134 t s = some s' ∧ TrC s' nB (itr (rhr D N nH nB nS th rule q) m t a) ∧ (∀ k, k < 122 → s' k = s k)
  | m, 0, _, _, _, _, hn, _, _ => absurd hn (by omega)
  | 0, n + 1, t, s, a, e, _, hR, hT => ⟨s, by rw [fX4_follow_29, if_pos (by omega)], hT, fun _ _ => rfl⟩
  | m + 1, n + 1, t, s, a, e, hn, hR, hT => by
    have hb := h.1
    obtain ⟨s1, p1, p2, p3⟩ := c_fol_39 (rule := rule) h e11 hth hq (show t < 24 by omega) (fun p1 p2 p3 p4 s => fX4_follow_29 n p1 p2 p3 p4 s) nB 600 0 s a (by omega) (by omega) hR hT
    obtain ⟨s', q1, q2, q3⟩ := c_fol_29 h e11 hth hq m n (t + 1) s1 _ (by omega) (by omega) (hR.fr h p3) p2
    rw [itr_succ]
    refine ⟨s', ?_, q2, fun k hk => by rw [q3 k hk, p3 k hk]⟩
    rw [fX4_follow_29, if_neg (by omega)]
    exact p1.trans q1
theorem c_stay_t : ∀ (m n i : Nat) (s : Mem), i + m = 4 → m < n → (∀ a, a < i → s 135 a = 24 ∧ s 136 a = 0) → ∃ s', fX3_stayAll_2 n 134 i s = some s' ∧ (∀ a, a < 4 → s' 135 a = 24 ∧ s' 136 a = 0) ∧ (∀ c, c ≠ 135 → c ≠ 136 → s' c = s c)
  | 0, n + 1, i, s, e, _, h => ⟨s, by rw [fX3_stayAll_2, if_pos (by omega)], fun a ha => h a (by omega), fun _ _ _ => rfl⟩
  | m + 1, n + 1, i, s, e, hn, h => by
    obtain ⟨s', q1, q2, q3⟩ := c_stay_t m n (i + 1) (mu (mu s 135 i 24) 136 i 0) (by omega) (by omega) (fun a ha => by
      rw [mu_ne _ _ _ (show 135 ≠ 136 by decide), mu_same, mu_same, mu_ne _ _ _ (show 136 ≠ 135 by decide)]
      by_cases c : a = i
      · subst c; rw [fu_same, fu_same]; exact ⟨rfl, rfl⟩
      · rw [fu_ne _ _ c, fu_ne _ _ c]; exact h a (by omega))
    refine ⟨s', ?_, q2, fun c h1 h2 => by rw [q3 c h1 h2, mu_ne _ _ _ h2, mu_ne _ _ _ h1]⟩
    rw [fX3_stayAll_2, if_neg (by omega), c_send_t (by omega), bo_ok, lt_ok, w32_s (by omega)]
    exact q1
  | _, 0, _, _, _, hn, _ => absurd hn (by omega)
theorem c_follow (h : SeaOk D nH nB nS) (hO : NowOk N nH nS) (e11 : N 11 = th) (hth : th < 16) (hq : q < nS) (hR : RuC s D nH nB nS N) : ∃ s', fX4_follow rule q 134 s = some s' ∧ TrC s' nB (rAll D N nH nB nS th rule q) ∧ (∀ k, k < 122 → s' k = s k) := by
  have hb := h.1
  unfold rAll fX4_follow
  by_cases c0 : rule = 0
  · rw [if_pos c0, if_pos c0]
    obtain ⟨s0, y1, y2, y3⟩ := c_copyFrom pt_trial_0 pt_trial_1 pt_watch_plans_0 pt_watch_plans_1 plc_t.lh.1 plc_t.lh.2 plc_w.lh.1 plc_w.lh.2 (by decide) (by decide) (by decide) (by decide) (by decide) s
    refine ⟨s0, by rw [y1, bo_ok], fun i hi => ?_, fun k hk => y3 k (by omega) (by omega)⟩
    have h4 : i < 4 := by omega
    dsimp only
    rw [(y2 i h4).1, (y2 i h4).2, (uN_i hO h4).1, (uN_i hO h4).2.2.1]
    exact hR.2.2.2.2.2.2 i h4
  · rw [if_neg c0, if_neg c0]
    obtain ⟨s0, y1, y2, y3⟩ := c_stay_t 4 600 0 s (by omega) (by omega) (fun a ha => absurd ha (by omega))
    have y1' : fX3_stayAll 134 s = some s0 := y1
    have f0 : ∀ k, k < 122 → s0 k = s k := fun k hk => y3 k (by omega) (by omega)
    have t0 : TrC s0 nB (fun _ => 24, fun _ => 0) := fun i hi => y2 i (by omega)
    rw [y1', bo_ok]
    by_cases c4 : rule = 4
    · rw [if_pos c4, if_pos c4]
      exact ⟨s0, rfl, t0, f0⟩
    · rw [if_neg c4, if_neg c4]
      obtain ⟨s', q1, q2, q3⟩ := c_fol_29 (rule := rule) h e11 hth hq 24 600 0 s0 _ (by omega) (by omega) (hR.fr h f0) t0
      exact ⟨s', q1, q2, fun k hk => by rw [q3 k hk, f0 k hk]⟩
theorem dst_lt (h : SeaOk D nH nB nS) {i t : Nat} : dst D nH nS th rule i t < nH := by
  unfold dst
  split
  · exact lk_lt h
  · exact nr_lt h
theorem rhr_ok (h : SeaOk D nH nB nS) {t : Nat} (ht : t ≤ 24) (ha : ∀ i, a.1 i ≤ 24 ∧ a.2 i < nH) : ∀ i, (rhr D N nH nB nS th rule q t a).1 i ≤ 24 ∧ (rhr D N nH nB nS th rule q t a).2 i < nH := by
  unfold rhr
  refine itr_inv (fun _ (b : (Nat → Nat) × (Nat → Nat)) => ∀ i, b.1 i ≤ 24 ∧ b.2 i < nH) ha (fun j b _ _ hb i => ?_)
  unfold rst
  split
  · dsimp only
    by_cases c : i = j
    · rw [if_pos c, if_pos c]; exact ⟨ht, dst_lt h⟩
    · rw [if_neg c, if_neg c]; exact hb i
  · exact hb i
theorem rAll_ok (h : SeaOk D nH nB nS) (h0 : rule ≠ 0) : ∀ i, (rAll D N nH nB nS th rule q).1 i ≤ 24 ∧ (rAll D N nH nB nS th rule q).2 i < nH := by
  have hb := h.1
  unfold rAll
  rw [if_neg h0]
  split
  · exact fun i => ⟨Nat.le_refl _, by dsimp only; omega⟩
  · exact itr_inv (fun _ (b : (Nat → Nat) × (Nat → Nat)) => ∀ i, b.1 i ≤ 24 ∧ b.2 i < nH) (fun i => ⟨Nat.le_refl _, by dsimp only; omega⟩) (fun j b _ hj hb => rhr_ok h (by omega) hb)
theorem rAll_p (h : SeaOk D nH nB nS) (hO : NowOk N nH nS) : PlOk' D nH nB nS (rAll D N nH nB nS th rule q).1 (rAll D N nH nB nS th rule q).2 (vD D) := by
  have hb := h.1
  refine ⟨h, fun i hi => ?_, fun i hi => vD_rg h (by omega)⟩
  by_cases c : rule = 0
  · have e : rAll D N nH nB nS th rule q = (uN N, gN N) := if_pos c
    rw [e]
    exact ⟨(uN_i hO (by omega)).2.1, (uN_i hO (by omega)).2.2.2⟩
  · exact rAll_ok h c i
/-- what a RULE is worth in a STORM -/
def rv (D N : Nat → Int) (nH nB nS th : Nat) (rule : Int) (q : Nat) : Int := w64 (vM D nB q (rAll D N nH nB nS th rule q).1 (rAll D N nH nB nS th rule q).2 (vD D) false (2 ^ nB - 1))
theorem c_worthByRule (h : SeaOk D nH nB nS) (hO : NowOk N nH nS) (e11 : N 11 = th) (hth : th < 16) (hq : q < nS) (hR : RuC s D nH nB nS N) : ∃ s', fX8_worthByRule rule q s = some (rv D N nH nB nS th rule q, s') ∧ (∀ k, k < 122 → s' k = s k) := by
  have hb := h.1
  obtain ⟨s1, p1, p2, p3⟩ := c_follow (rule := rule) h hO e11 hth hq hR
  have hR1 := hR.fr h p3
  obtain ⟨u1, u2, u4⟩ := c_usual_t hR1.1 hR1.2.1 h p2
  obtain ⟨s2, r1, r2⟩ := c_worthOf ((rAll_p h hO).at hq) plc_t (all_16 (nB := nB) (by omega)) u2
  refine ⟨s2, ?_, fun k hk => by rw [r2 k (by omega), u4 k (by omega), p3 k hk]⟩
  unfold fX8_worthByRule
  rw [p1, bo_ok, u1, bo_ok, c_allSorts u2.1 (by omega), b2_ok, r1, b2_ok]; rfl
end RU

/-! ===== from making to walking ===== -/
def nwC : Wf := ((17, 9) :: (134, 1) :: (134, 0) :: ((17, 8) :: (133, 2) :: (133, 1) :: (133, 0) :: ((17, 7) :: (132, 0) :: ((17, 6) :: (131, 1) :: (131, 0) :: ((17, 5) :: (122, 0) :: (122, 7) :: nw_rows 126 4 ((122, 6) :: (122, 5) :: (122, 4) :: ((113, 1) :: (115, 0) :: (119, 1) :: (119, 0) :: ((113, 0) :: (114, 0) :: (116, 1) :: (116, 0) :: ((17, 3) :: (17, 2) :: (109, 0) :: (110, 1) :: (110, 0) :: ((17, 1) :: (21, 14) :: nw_rows 92 16 ((21, 13) :: nw_rows 75 16 ((21, 12) :: nw_rows 58 16 ((21, 11) :: nw_rows 53 4 ((21, 10) :: nw_rows 48 4 ((21, 8) :: (21, 7) :: nw_rows 42 4 ((21, 6) :: nw_rows 37 4 ((21, 5) :: nw_rows 32 4 ((21, 4) :: nw_rows 27 4 ((21, 3) :: nw_rows 22 4 (((17, 0) :: (18, 4) :: (18, 0) :: ([] : Wf))))))))))))))))))))))
abbrev eL (lo : Nat) (E : En) : En := (eD E, eAd E, eCA E, lo, eS0 E)
def nw_dn (φ : Wf) (k : Nat) : Bool :=
  if (ab_sh k).1 = 1 then (List.range (ab_nf.getD (ab_sh k).2.1 0)).all (fun f => (ab_ptr k f).isNone || φ.contains (k, f))
  else if (ab_sh k).1 < 6 then true else (List.range (ab_sh k).2.1).all (fun j => φ.contains (k, j))
theorem nwC_dn : ∀ k, k < 137 → 17 ≤ k → nw_dn nwC k = true := by decide +kernel
theorem nw_ent_dn (E : En) (lo : Nat) (s : Mem) {φ : Wf} {k : Nat} (h : nw_dn φ k = true) : nw_ent E s φ k = ab_ent (eL lo E) s k := by
  unfold nw_dn at h
  unfold nw_ent
  by_cases c1 : (ab_sh k).1 = 1
  · rw [if_pos c1] at h ⊢
    unfold ab_ent
    rw [if_pos c1]
    refine congrArg (fun z => Sum.inr ((ab_sh k).2.1, z)) (List.map_congr_left (fun f hf => ?_))
    have h2 := List.all_eq_true.mp h f hf
    unfold nw_fv ab_fv
    cases hp : ab_ptr k f with
    | none => rfl
    | some t =>
      rw [hp] at h2
      dsimp only
      rw [if_pos (by simpa using h2)]
  · rw [if_neg c1] at h ⊢
    by_cases c2 : (ab_sh k).1 < 6
    · rw [if_pos c2]; rfl
    · rw [if_neg c2] at h ⊢
      unfold ab_ent
      rw [if_neg c1, if_neg (by omega), if_neg (by omega)]
      have e : nw_gr E φ k (ab_sh k).2.1 (ab_sh k).2.2 = fun j => some (eAd (eL lo E) ((ab_sh k).2.2 + j)) := by
        funext j
        unfold nw_gr
        rw [if_neg (fun z => by
          have := List.all_eq_true.mp h j (List.mem_range.mpr z.1)
          rw [z.2] at this
          exact absurd this (by decide))]
      rw [e]
theorem nw_over {E : En} {s : Mem} {φ : Wf} {H : Heap} {lo n : Nat} (hE : nw_E E) (hn : ∀ k, k < 137 → lo ≤ k → nw_o k < n) (hd : ∀ k, k < 137 → lo ≤ k → nw_dn φ k = true) (hg : ∀ k j, ab_rg k (s k j)) (hR : nw_R E s φ n H) : ab_R (eL lo E) s H := by
  refine ⟨fun i q hq => ?_, hg⟩
  unfold ab_ws at hq
  rw [List.getElem?_map] at hq
  obtain ⟨j, hj, rfl⟩ := Option.map_eq_some_iff.mp hq
  obtain ⟨hlt, hv⟩ := List.getElem?_eq_some_iff.mp hj
  rw [List.length_range] at hlt
  rw [List.getElem_range] at hv
  subst hv
  have hk : lo + i < 137 := by have : i < 137 - lo := hlt; omega
  have := hR.1 _ _ (nw_atk hE s φ hk (hn _ hk (by omega)))
  rw [nw_ent_dn E lo s (hd _ hk (by omega))] at this
  exact this
theorem nw_back {E : En} {s : Mem} {φ : Wf} {H : Heap} {lo n : Nat} (hE : nw_E E) (hn : ∀ i, i < n → i < 137 ∧ lo ≤ nw_i i) (hd : ∀ k, k < 137 → lo ≤ k → nw_dn φ k = true) (hR : ab_R (eL lo E) s H) (hz : H.size ≤ eS0 E + n) (h0 : 0 < n) : nw_R E s φ n H := by
  refine nw_R.of (fun i q hq => ?_) h0 hz
  obtain ⟨h1, rfl⟩ := nw_get hq
  have h2 := hn i h1
  have h3 := (nw_oi i h2.1)
  have := hR.1 _ _ (ab_ws_at (eL lo E) s (k := nw_i i) h2.2 h3.2)
  rw [← nw_ent_dn E lo s (hd _ h3.2 h2.2)] at this
  have e := hE _ h3.2
  rw [h3.1] at e
  rw [← e]
  exact this
theorem ab_C.lo {E : En} {U : State} (h : ab_C E U) (h0 : eLo E = 0) {lo : Nat} (hl : lo = 0 ∨ lo = 17) : ab_C (eL lo E) U := by
  obtain ⟨h1, h2, h3, h4, h5, h6, h7, h8⟩ := h
  rw [h0] at h3 h6 h7
  exact ⟨h1, h2, fun k _ b c => h3 k (Nat.zero_le _) b c, h4, hl, fun i j _ a _ b e => h6 i j (Nat.zero_le _) a (Nat.zero_le _) b e, fun i _ a => h7 i (Nat.zero_le _) a, h8⟩
def bAdd (b : Bn) (u c : Nat) : Bn := match b with
  | (p, l, e, R, s0, m, args, below, meth, cd, cells, slots) => (p, l, e, R, s0, m, args, below, meth, cd, cells + u, slots + c)
theorem nw_walk {E : En} {b : Bn} {Q : State → Prop} {nL pc : Nat} {ls : List (Nat × AV)} {st : List AV} {s : Mem} {φ : Wf} {n u c lo : Nat} (hE : nw_E E) (hn : ∀ k, k < 137 → lo ≤ k → nw_o k < n) (hd : ∀ k, k < 137 → lo ≤ k → nw_dn φ k = true) (hg : ∀ k j, ab_rg k (s k j)) (hls : ∀ q ∈ ls, ab_ok (eL lo E) q.2) (hst : ∀ v ∈ st, ab_ok (eL lo E) v) (kk : ab_X (eL lo E) (bAdd b u c) Q nL pc ls st s) : nw_X E b Q nL pc ls st s φ n u c := by
  obtain ⟨p, l, e, R, s0, m, args, below, meth, cd, cells, slots⟩ := b
  intro H locs a hcn hR hS hl ho hs
  exact kk H locs a (nw_over hE hn hd hg hR) hS hl hls hst
theorem nw_G.walk {E : En} {b : Bn} {cc : ByteArray} {nL : Nat} {own : String} {d mc ms lo : Nat} (hl : lo = 0 ∨ lo = 17) (G : nw_G E b cc nL own d mc ms) : ab_G (eL lo E) (bAdd b mc ms) cc nL own none d := by
  obtain ⟨p, l, e, R, s0, m, args, below, meth, cd, cells, slots⟩ := b
  exact ⟨G.1.1, G.1.2.1, G.1.2.2.1, G.1.2.2.2, G.2.1.1.lo G.2.1.2.2 hl, G.2.2.2.2.2.1, G.2.2.2.2.2.2, G.2.2.1.1, G.2.2.1.2, G.2.2.2.1.1, G.2.2.2.1.2⟩
/-! the text constant, in a walk -/
def b_S (E : En) (b : Bn) : Prop := match b with
  | (_, _, _, _, s0, _, _, _, _, _, _, _) => nw_S E s0
def T0 (j : Nat) : Int := (tx0.getD j 0).toInt
section TS
variable {E : En} {b : Bn} {Q : State → Prop} {nL pc : Nat} {ls : List (Nat × AV)} {st : List AV} {s : Mem} {cc : ByteArray} {ret : Option FieldType} {d : Nat}
theorem lo_145 {U : State} (h : ab_C E U) : eLo E ≤ 145 := by
  have := h.2.2.2.2.1
  omega
theorem x_ldcS (G : ab_G E b cc nL RX8 ret d) (hN : b_S E b) (hd : decode cc pc = .ok (.ldc 77, 2)) (kk : ab_X E b Q nL (pc + 2) ls (vR 145 :: st) s) : ab_X E b Q nL pc ls st s := by
  obtain ⟨p, l, e, R, s0, m, args, below, meth, c, cells, slots⟩ := b
  intro H locs a hR hS hl ho hs
  exact va_ldcS G.1 G.2.1 G.2.2.2.1 hN.1.2 hd (kk H locs a hR hS hl ho (okc (lo_145 G.2.2.2.2.1) hs))
theorem x_jC {p : Program} {l : Launch} {e : Env} {R : Room} {s0 : State} {m : MethodId} {args : Array Value} {below : List Frame} {meth : Method} {c : Code} {cells slots : Nat} (G : ab_G E (p, l, e, R, s0, m, args, below, meth, c, cells, slots) cc nL RX8 ret d) (hN : nw_S E s0) : j_C p R s0 m c cells slots E cc nL RX8 d := ⟨⟨G.1, G.2.1, G.2.2.1, G.2.2.2.1⟩, ⟨G.2.2.2.2.1.1, hN⟩, ⟨G.2.2.2.2.2.2.2.1, G.2.2.2.2.2.2.2.2.1⟩, G.2.2.2.2.2.2.2.2.2.1, G.2.2.2.2.2.2.2.2.2.2⟩
theorem x_strlen (G : ab_G E b cc nL RX8 ret d) (hN : b_S E b) (hdd : 2 ≤ d) (hrest : (st.map ab_cat).sum ≤ 8) (hd : decode cc pc = .ok (.invokevirtual 79, 3)) (kk : ab_X E b Q nL (pc + 3) ls (vI 36 :: st) s) : ab_X E b Q nL pc ls (vR 145 :: st) s := by
  obtain ⟨p, l, e, R, s0, m, args, below, meth, c, cells, slots⟩ := b
  intro H locs a hR hS hl ho hs
  exact j_callV (n := 0) (As := []) (rest := st.map (ab_c E)) (x_jC G hN) hS wd_338 wd_339 wd_340 wd_341 wd_75 (by decide +kernel) (by decide) j_length hdd rfl hl.1 (by rw [cat_sum]; exact hrest) rfl hd (kk H locs a hR hS hl ho (okc (show r32 36 by unfold r32; omega) (oks hs).2))
theorem x_charAt (G : ab_G E b cc nL RX8 ret d) (hN : b_S E b) (hdd : 4 ≤ d) {j : Nat} (hj : j < 36) (hrest : (st.map ab_cat).sum ≤ 8) (hd : decode cc pc = .ok (.invokevirtual 85, 3)) (kk : ab_X E b Q nL (pc + 3) ls (vI (T0 j) :: st) s) : ab_X E b Q nL pc ls (vI j :: vR 145 :: st) s := by
  obtain ⟨p, l, e, R, s0, m, args, below, meth, c, cells, slots⟩ := b
  intro H locs a hR hS hl ho hs
  refine j_callV (n := 1) (As := [.int (nI j)]) (rest := st.map (ab_c E)) (x_jC G hN) hS wd_348 wd_349 wd_350 wd_351 wd_75 (by decide +kernel) (by decide) (j_charAt hj) hdd rfl hl.1 (by rw [cat_sum]; exact hrest) rfl hd ?_
  have h2 : r32 (T0 j) := by
    have := Int32.le_toInt (tx0.getD j 0)
    have := Int32.toInt_lt (tx0.getD j 0)
    unfold T0 r32
    omega
  have := kk H locs a hR hS hl ho (okc h2 (oks (oks hs).2).2)
  have e1 : (vI (T0 j) :: st).map (ab_c E) = (some (Value.int (tx0.getD j 0))).toList ++ st.map (ab_c E) := by
    show Value.int (Int32.ofInt (T0 j)) :: st.map (ab_c E) = _
    unfold T0
    rw [Int32.ofInt_toInt]
    rfl
  rw [e1] at this
  exact this
end TS
/-! the class's half of lay, from the text alone -/
theorem c_layT {s : Mem} {T : Nat → Int} {tl : Nat} (hT : ∀ k, 0 ≤ T k ∧ T k ≤ 255) (htl : tl ≤ 500) (hX : TxtC s T tl) (cF : flt T tl 501 0 0 0 0 = -4) {D' : Nat → Int} {cH cB cS : Nat} (hf : fin T tl 501 D0 0 0 0 0 = (D', cH, cB, cS)) (cW : 0 < cH ∧ 0 < cB ∧ tnD D' cS = 10) : ∃ s1, fX8_lay s = some ((cB : Int), s1) ∧ SeaOk D' cH cB cS ∧ (∀ k, k < 17 → s1 k = s k) ∧ SeaC s1 D' cH cB cS ∧ TabC s1 D' cH cB cS ∧ WatC s1 109 111 112 (nw ((2 ^ cS - 1 : Nat) : Int)) ∧ s1 17 4 = 0 := by
  obtain ⟨s1, h1, h2, h3⟩ := c_firstFault hT htl hX
  have hCn := h3 cF
  have hok := fin_ok (T := T) (tl := tl) 501 (p := 0) D0_ok
  obtain ⟨s2, a1, a2, a3⟩ := c_clear s1
  obtain ⟨s3, b1, b2', b3⟩ := c_fill hT htl (s := s2) (hX.of (by rw [a3 _ (by omega)]; exact h2.2) (by rw [a3 _ (by omega)]; exact h2.1 _ (by decide) (by decide))) a2 cF
  rw [hf] at hCn hok b3
  dsimp only at hok b3 hCn
  have hSO := hok.sea cW.1 cW.2.1 cW.2.2
  obtain ⟨s4, d1, d2, d3⟩ := c_reckon hSO b3
  have hS4 : SeaC s4 D' cH cB cS := b3.of2 hSO.b (fun k a b => d3 k (by omega))
  obtain ⟨s5, e1, e2, e3⟩ := c_begin ((2 ^ cS - 1 : Nat) : Int) s4
  have hall : fX5_allStorms s4 = some (((2 ^ cS - 1 : Nat) : Int), s4) := by
    unfold fX5_allStorms
    rw [hS4.2.2.1, allst hSO.b.2.2]
  have hcls : fX8_lay s = some ((cB : Int), mu s5 17 4 0) := by
    unfold fX8_lay
    rw [h1, b2_ok, if_pos cF, c_isWhole hCn, b2_ok, if_neg (by rw [if_pos cW]; decide), a1, bo_ok, b1, bo_ok, d1, bo_ok, hall, b2_ok, e1, bo_ok, lt_ok]
    rw [mu_ne _ _ _ (by decide), e3 _ (by decide) (by decide) (by decide), hS4.2.1]
  refine ⟨_, hcls, hSO, fun k hk => ?_, ?_, ?_, ?_, by rw [mu_same, fu_same]⟩
  · rw [mu_ne _ _ _ (by omega), e3 _ (by omega) (by omega) (by omega), d3 _ (by omega), b2'.1 _ (by omega) (by omega) (by omega), a3 _ (by omega), h2.1 _ (by omega) (by omega)]
  · exact hS4.of hSO.b (fun k a b => by rw [mu_ne _ _ _ (by omega), e3 _ (by omega) (by omega) (by omega)])
  · exact d2.of hSO.b (fun k a b => by rw [mu_ne _ _ _ (by omega), e3 _ (by omega) (by omega) (by omega)])
  · exact e2.fr (mu_ne _ _ _ (by decide)) (mu_ne _ _ _ (by decide)) (mu_ne _ _ _ (by decide))
theorem c_append {s : Mem} {T : Nat → Int} {tl : Nat} (hl : tl < 500) (hT : TxtC s T tl) : ∃ s', fX6_append (w8 (T tl)) s = some s' ∧ TxtC s' T (tl + 1) ∧ (∀ k, k ≠ 18 → k ≠ 19 → s' k = s k) := by
  have h88 : ∀ z, w8 (w8 z) = w8 z := by intro z; unfold w8; omega
  refine ⟨mu (mu s 19 tl (w8 (T tl))) 18 1 ((tl + 1 : Nat) : Int), ?_, ⟨by rw [mu_same, fu_same], fun k hk => ?_⟩, fun k a b => by rw [mu_ne _ _ _ a, mu_ne _ _ _ b]⟩
  · unfold fX6_append
    rw [hT.1, if_neg (by omega)]
    simp (disch := omega) only [wr_text_bytes, bo_ok, lt_ok, Int.toNat_natCast, mu_ne, hT.1, w32_s, h88]
  · rw [mu_ne _ _ _ (by decide), mu_same]
    by_cases e2 : k = tl
    · subst e2; rw [fu_same]
    · rw [fu_ne _ _ e2]; exact hT.2 k (by omega)
theorem T0_rg : ∀ k, 0 ≤ T0 k ∧ T0 k ≤ 255 := by
  intro k
  by_cases h : k < 36
  · have : ∀ k, k < 36 → 0 ≤ T0 k ∧ T0 k ≤ 255 := by decide +kernel
    exact this k h
  · have hl : tx0.length = 36 := by decide +kernel
    unfold T0
    rw [List.getD_eq_getElem?_getD, List.getElem?_eq_none (by omega)]
    decide
def dF : (Nat → Int) × Nat × Nat × Nat := fin T0 36 501 D0 0 0 0 0
theorem dF_flt : flt T0 36 501 0 0 0 0 = -4 := by decide +kernel
theorem dF_ct : dF.2 = (1, 1, 1) ∧ tnD dF.1 1 = 10 := by decide +kernel
theorem dF_eq : fin T0 36 501 D0 0 0 0 0 = (dF.1, 1, 1, 1) := by
  show dF = _
  exact Prod.ext rfl dF_ct.1
def s00 : Mem := fun _ _ => 0
/-- what the class's constructor leaves -/
def Born (s : Mem) : Prop := (∀ k, k < 17 → s k = s00 k) ∧ SeaOk dF.1 1 1 1 ∧ ∀ K, InvC s dF.1 1 1 1 (nw 1) K 0 T0 0
theorem c_born {s : Mem} (hX : TxtC s T0 36) (h0 : ∀ k, k < 17 → s k = s00 k) : ∃ s1 s2, fX8_lay s = some (1, s1) ∧ fX6_clear s1 = some s2 ∧ Born s2 := by
  obtain ⟨s1, h1, h2, h3, h4, h5, h6, h7⟩ := c_layT T0_rg (by decide) hX dF_flt dF_eq ⟨by decide, by decide, dF_ct.2⟩
  refine ⟨s1, mu s1 18 1 0, h1, rfl, fun k hk => ?_, h2, fun K => ⟨?_, ?_, ?_, ⟨?_, fun z => absurd z (by omega), fun z => absurd z (by omega)⟩, ?_, fun k hk => absurd hk (by omega)⟩⟩
  · rw [mu_ne _ _ _ (by omega), h3 k hk, h0 k hk]
  · exact h4.of h2.b (fun k a b => by rw [mu_ne _ _ _ (by omega)])
  · exact h5.of h2.b (fun k a b => by rw [mu_ne _ _ _ (by omega)])
  · exact h6.fr (mu_ne _ _ _ (by decide)) (mu_ne _ _ _ (by decide)) (mu_ne _ _ _ (by decide))
  · rw [mu_ne _ _ _ (by decide)]; exact h7
  · rw [mu_same, fu_same]; rfl
/-! the walk of the rest -/
theorem w_loop : ∀ (m i : Nat) (s : Mem), i + m = 36 → TxtC s T0 i → (∀ k, k < 17 → s k = s00 k) → ∃ sC, Born sC ∧ ∀ (E : En) (b : Bn), ab_G E b cX8_init 2 RX8 none 5 → b_S E b → ab_X E b (ab_MQ E b none sC) 2 156 [(1, vI i), (0, vR 17)] [] s
  | 0, i, s, e, hT, h0 => by
    have : i = 36 := by omega
    subst this
    obtain ⟨s1, s2, h1, h2, h3⟩ := c_born hT h0
    refine ⟨s2, h3, fun E b G hN => ?_⟩
    refine x_iload_n (j := 0) G dX8_init_156 rfl rfl ?_
    refine x_ldcS G hN dX8_init_157 ?_
    refine x_strlen G hN (by decide) (Nat.le_of_ble_eq_true rfl) dX8_init_159 ?_
    refine x_icmp_ge (tgt := 185) G dX8_init_162 (by decide) (fun _ => ?_) (fun h => absurd (by decide) h)
    refine x_aload_n (j := 1) G dX8_init_185 rfl rfl ?_
    refine cv_390 (k := 17) (As := []) (rest := []) G (rX8_lay h1) sh_17 (by decide) rfl rfl (by decide) dX8_init_186 ?_
    refine x_pop G dX8_init_189 rfl ?_
    refine x_aload_n (j := 1) G dX8_init_190 rfl rfl ?_
    refine gf_510 G sh_17 pt_17_0 dX8_init_191 ?_
    refine cv_506 (k := 18) (As := []) (rest := []) G (rX6_clear h2) sh_18 (by decide) rfl rfl (by decide) dX8_init_194 ?_
    exact x_vret G dX8_init_197
  | m + 1, i, s, e, hT, h0 => by
    obtain ⟨s', a1, a2, a3⟩ := c_append (tl := i) (by omega) hT
    obtain ⟨sC, hB, hX⟩ := w_loop m (i + 1) s' (by omega) a2 (fun k hk => by rw [a3 k (by omega) (by omega)]; exact h0 k hk)
    refine ⟨sC, hB, fun E b G hN => ?_⟩
    refine x_iload_n (j := 0) G dX8_init_156 rfl rfl ?_
    refine x_ldcS G hN dX8_init_157 ?_
    refine x_strlen G hN (by decide) (Nat.le_of_ble_eq_true rfl) dX8_init_159 ?_
    refine x_icmp_ge (tgt := 185) G dX8_init_162 (by decide) (fun h => absurd h (by omega)) (fun _ => ?_)
    refine x_aload_n (j := 1) G dX8_init_165 rfl rfl ?_
    refine gf_510 G sh_17 pt_17_0 dX8_init_166 ?_
    refine x_ldcS G hN dX8_init_169 ?_
    refine x_iload_n (j := 0) G dX8_init_171 rfl rfl ?_
    refine x_charAt (j := i) G hN (by decide) (by omega) (by decide) dX8_init_172 ?_
    refine x_i2b G dX8_init_175 ?_
    refine cv_386 (k := 18) (As := [vI (w8 (T0 i))]) (rest := []) G (rX6_append a1) sh_18 (by decide) rfl rfl (by decide) dX8_init_176 ?_
    refine x_iinc (j := 0) (ls' := [(1, vI ((i + 1 : Nat) : Int)), (0, vR 17)]) G dX8_init_179 rfl (by decide) (by
      rw [w32_s (by omega)]; rfl) ?_
    exact x_goto (tgt := 156) G dX8_init_182 (by decide) (hX E b G hN)
theorem s00_rg (k j : Nat) : ab_rg k (s00 k j) := by
  unfold ab_rg s00
  split
  · unfold r64; omega
  · unfold r32; omega
theorem c_start : ∃ sC, Born sC ∧ ∀ (E : En) (b : Bn), ab_G E b cX8_init 2 RX8 none 5 → b_S E b → ab_X E b (ab_MQ E b none sC) 2 156 [(1, vI 0), (0, vR 17)] [] s00 :=
  w_loop 36 0 s00 (by omega) ⟨rfl, fun k hk => absurd hk (by omega)⟩ (fun _ _ => rfl)
noncomputable def sC : Mem := c_start.choose
theorem sC_born : Born sC := c_start.choose_spec.1
def nw_P' (E : En) : Array Value → State → Prop := fun v U => nw_P E [vR 17] s00 [] 1 v U ∧ nw_S E U
theorem mk_C {E : En} (l : Launch) : Met l yX8_init [Cond.code yX8_init cX8_init 2 none] (nw_rm 5 119 3355) (nw_P' E) (ab_Q (eL 17 E) none sC) 119 3355 (eA E) := by
  refine Met.ofW (cc := cX8_init) (maxL := 2) (ret := none) rfl rfl ?_
  intro p e s0 m args below meth cd s₁ B hml hv
  obtain ⟨⟨rfl, hC, hR, hok, hT⟩, hN⟩ := hv
  have hown : s0.vm.findClass yX8_init.cls = some m.cls := findClass_of_methodNamed B.named
  have hnm : meth.name = "<init>" := by rw [(name_of_methodNamed B.named B.method).1]; rfl
  have G : nw_G E (p, l, e, (headSpec [Cond.code yX8_init cX8_init 2 none] (nw_rm 5 119 3355)).room, s0, m, ([vR 17].map (ab_c E)).toArray, below, meth, cd, 0, 0) cX8_init 2 RX8 5 119 3355 := ⟨⟨B.exec, B.bytes, hml, hown⟩, hC, ⟨Nat.le_refl _, Nat.le_refl _⟩, ⟨Nat.le_of_ble_eq_true rfl, Nat.le_of_ble_eq_true rfl⟩, ⟨hnm, hT⟩, B.returns, B.notSynchronized⟩
  have G3 : nw_G E (p, l, e, (headSpec [Cond.code yX8_init cX8_init 2 none] (nw_rm 5 119 3355)).room, s0, m, ([vR 17].map (ab_c E)).toArray, below, meth, cd, 0, 0) cX8_init 2 RX8 3 119 3355 := ⟨G.1, G.2.1, ⟨Nat.le_trans (by decide) G.2.2.1.1, Nat.le_trans (by decide) G.2.2.1.2⟩, G.2.2.2⟩
  have hl := lv_entry ([vR 17].map (ab_c E)) (n := 2) (by rw [ab_slots]; decide)
  rw [lg_entry_eq]
  rw [ab_args_c] at hl
  have GW := G.walk (lo := 17) (Or.inr rfl)
  refine mk_8 (Nat.le_refl _) (Nat.le_refl _) (fun _ _ _ => rfl) G3 ?_ s0.heap [] _ (by rw [hR.2]) hR va_S.rf hl (ab_args_ok 0 _ hok) (fun v hv => by cases hv)
  refine nw_walk (lo := 17) hC.2.1 (by decide +kernel) nwC_dn s00_rg (fun q hq => ?_) (fun v hv => by cases hv) ?_
  · rcases List.mem_cons.mp hq with rfl | hq
    · show r32 2; unfold r32; omega
    · rcases List.mem_cons.mp hq with rfl | hq
      · show 17 ≤ 17; omega
      · cases hq
  · refine x_iconst GW dX8_init_154 (by decide) ?_
    refine x_istore_n GW dX8_init_155 rfl (by decide) rfl ?_
    exact c_start.choose_spec.2 (eL 17 E) _ GW hN

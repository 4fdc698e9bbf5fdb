/-! ===== the reference's constructor ===== -/
set_option maxRecDepth 100000 in
theorem mk_9 {E : En} {b : Bn} {Q : State → Prop} {s : Mem} {mc ms : Nat} (hmc : 16 ≤ mc) (hms : 1968 ≤ ms) (hz : ∀ k, k < 17 → ∀ f, s k f = 0) (G : nw_G E b cX9_init 1 RX9 1 mc ms) (kk : nw_X E b Q 1 131 [(0, vR 0)] [] s ((0, 20) :: (0, 19) :: (0, 18) :: (0, 17) :: (0, 16) :: (0, 15) :: (0, 14) :: (0, 13) :: (0, 12) :: (0, 11) :: (0, 10) :: (0, 9) :: (0, 5) :: (0, 3) :: (0, 2) :: (0, 1) :: nwC) 137 16 1968) : nw_X E b Q 1 0 [(0, vR 0)] [] s nwC 121 0 0 := by
  refine n_aload_n (j := 0) G dX9_init_0 rfl rfl ?_
  refine n_obj G wd_868 wd_87 wd_88 (by decide) (by decide) dX9_init_1 ?_
  refine n_aload_n (j := 0) G dX9_init_4 rfl rfl ?_
  refine n_sipush G dX9_init_5 (by decide) (by decide) ?_
  refine n_newa (at' := .int) (ty := .int) (k := 1) (len := 372) G rfl wac_int (by decide +kernel) (by decide +kernel) (by decide +kernel) (Or.inr ⟨by decide +kernel, Or.inl rfl⟩) (hz 1 (by decide)) rfl (by decide) (by omega) (by decide) dX9_init_8 ?_
  refine n_putF (ci := 9) (f := 1) (C := RX9) (T := TX9) (N := 21) (ty0 := tyX9) (ty := .array .int) G rfl rfl uw_9 tyX9_ok nmX9 (by decide) wd_878 rfl rfl (by decide +kernel) (fun _ => rfl) (fun _ => rfl) sh_0 pt_0_1 (by decide) (by decide) dX9_init_10 ?_
  refine n_aload_n (j := 0) G dX9_init_13 rfl rfl ?_
  refine n_bipush G dX9_init_14 (by decide) (by decide) ?_
  refine n_newa (at' := .int) (ty := .int) (k := 2) (len := 12) G rfl wac_int (by decide +kernel) (by decide +kernel) (by decide +kernel) (Or.inr ⟨by decide +kernel, Or.inl rfl⟩) (hz 2 (by decide)) rfl (by decide) (by omega) (by decide) dX9_init_16 ?_
  refine n_putF (ci := 9) (f := 2) (C := RX9) (T := TX9) (N := 21) (ty0 := tyX9) (ty := .array .int) G rfl rfl uw_9 tyX9_ok nmX9 (by decide) wd_879 rfl rfl (by decide +kernel) (fun _ => rfl) (fun _ => rfl) sh_0 pt_0_2 (by decide) (by decide) dX9_init_18 ?_
  refine n_aload_n (j := 0) G dX9_init_21 rfl rfl ?_
  refine n_bipush G dX9_init_22 (by decide) (by decide) ?_
  refine n_newa (at' := .int) (ty := .int) (k := 3) (len := 24) G rfl wac_int (by decide +kernel) (by decide +kernel) (by decide +kernel) (Or.inr ⟨by decide +kernel, Or.inl rfl⟩) (hz 3 (by decide)) rfl (by decide) (by omega) (by decide) dX9_init_24 ?_
  refine n_putF (ci := 9) (f := 3) (C := RX9) (T := TX9) (N := 21) (ty0 := tyX9) (ty := .array .int) G rfl rfl uw_9 tyX9_ok nmX9 (by decide) wd_880 rfl rfl (by decide +kernel) (fun _ => rfl) (fun _ => rfl) sh_0 pt_0_3 (by decide) (by decide) dX9_init_26 ?_
  refine n_aload_n (j := 0) G dX9_init_29 rfl rfl ?_
  refine n_sipush G dX9_init_30 (by decide) (by decide) ?_
  refine n_newa (at' := .int) (ty := .int) (k := 4) (len := 500) G rfl wac_int (by decide +kernel) (by decide +kernel) (by decide +kernel) (Or.inr ⟨by decide +kernel, Or.inl rfl⟩) (hz 4 (by decide)) rfl (by decide) (by omega) (by decide) dX9_init_33 ?_
  refine n_putF (ci := 9) (f := 5) (C := RX9) (T := TX9) (N := 21) (ty0 := tyX9) (ty := .array .int) G rfl rfl uw_9 tyX9_ok nmX9 (by decide) wd_882 rfl rfl (by decide +kernel) (fun _ => rfl) (fun _ => rfl) sh_0 pt_0_5 (by decide) (by decide) dX9_init_35 ?_
  refine n_aload_n (j := 0) G dX9_init_38 rfl rfl ?_
  refine n_iconst G dX9_init_39 (by decide) ?_
  refine n_newa (at' := .int) (ty := .int) (k := 5) (len := 4) G rfl wac_int (by decide +kernel) (by decide +kernel) (by decide +kernel) (Or.inr ⟨by decide +kernel, Or.inl rfl⟩) (hz 5 (by decide)) rfl (by decide) (by omega) (by decide) dX9_init_40 ?_
  refine n_putF (ci := 9) (f := 9) (C := RX9) (T := TX9) (N := 21) (ty0 := tyX9) (ty := .array .int) G rfl rfl uw_9 tyX9_ok nmX9 (by decide) wd_886 rfl rfl (by decide +kernel) (fun _ => rfl) (fun _ => rfl) sh_0 pt_0_9 (by decide) (by decide) dX9_init_42 ?_
  refine n_aload_n (j := 0) G dX9_init_45 rfl rfl ?_
  refine n_iconst G dX9_init_46 (by decide) ?_
  refine n_newa (at' := .int) (ty := .int) (k := 6) (len := 4) G rfl wac_int (by decide +kernel) (by decide +kernel) (by decide +kernel) (Or.inr ⟨by decide +kernel, Or.inl rfl⟩) (hz 6 (by decide)) rfl (by decide) (by omega) (by decide) dX9_init_47 ?_
  refine n_putF (ci := 9) (f := 10) (C := RX9) (T := TX9) (N := 21) (ty0 := tyX9) (ty := .array .int) G rfl rfl uw_9 tyX9_ok nmX9 (by decide) wd_887 rfl rfl (by decide +kernel) (fun _ => rfl) (fun _ => rfl) sh_0 pt_0_10 (by decide) (by decide) dX9_init_49 ?_
  refine n_aload_n (j := 0) G dX9_init_52 rfl rfl ?_
  refine n_iconst G dX9_init_53 (by decide) ?_
  refine n_newa (at' := .int) (ty := .int) (k := 7) (len := 4) G rfl wac_int (by decide +kernel) (by decide +kernel) (by decide +kernel) (Or.inr ⟨by decide +kernel, Or.inl rfl⟩) (hz 7 (by decide)) rfl (by decide) (by omega) (by decide) dX9_init_54 ?_
  refine n_putF (ci := 9) (f := 11) (C := RX9) (T := TX9) (N := 21) (ty0 := tyX9) (ty := .array .int) G rfl rfl uw_9 tyX9_ok nmX9 (by decide) wd_888 rfl rfl (by decide +kernel) (fun _ => rfl) (fun _ => rfl) sh_0 pt_0_11 (by decide) (by decide) dX9_init_56 ?_
  refine n_aload_n (j := 0) G dX9_init_59 rfl rfl ?_
  refine n_bipush G dX9_init_60 (by decide) (by decide) ?_
  refine n_newa (at' := .int) (ty := .int) (k := 8) (len := 32) G rfl wac_int (by decide +kernel) (by decide +kernel) (by decide +kernel) (Or.inr ⟨by decide +kernel, Or.inl rfl⟩) (hz 8 (by decide)) rfl (by decide) (by omega) (by decide) dX9_init_62 ?_
  refine n_putF (ci := 9) (f := 12) (C := RX9) (T := TX9) (N := 21) (ty0 := tyX9) (ty := .array .int) G rfl rfl uw_9 tyX9_ok nmX9 (by decide) wd_889 rfl rfl (by decide +kernel) (fun _ => rfl) (fun _ => rfl) sh_0 pt_0_12 (by decide) (by decide) dX9_init_64 ?_
  refine n_aload_n (j := 0) G dX9_init_67 rfl rfl ?_
  refine n_bipush G dX9_init_68 (by decide) (by decide) ?_
  refine n_newa (at' := .int) (ty := .int) (k := 9) (len := 32) G rfl wac_int (by decide +kernel) (by decide +kernel) (by decide +kernel) (Or.inr ⟨by decide +kernel, Or.inl rfl⟩) (hz 9 (by decide)) rfl (by decide) (by omega) (by decide) dX9_init_70 ?_
  refine n_putF (ci := 9) (f := 13) (C := RX9) (T := TX9) (N := 21) (ty0 := tyX9) (ty := .array .int) G rfl rfl uw_9 tyX9_ok nmX9 (by decide) wd_890 rfl rfl (by decide +kernel) (fun _ => rfl) (fun _ => rfl) sh_0 pt_0_13 (by decide) (by decide) dX9_init_72 ?_
  refine n_aload_n (j := 0) G dX9_init_75 rfl rfl ?_
  refine n_bipush G dX9_init_76 (by decide) (by decide) ?_
  refine n_newa (at' := .int) (ty := .int) (k := 10) (len := 32) G rfl wac_int (by decide +kernel) (by decide +kernel) (by decide +kernel) (Or.inr ⟨by decide +kernel, Or.inl rfl⟩) (hz 10 (by decide)) rfl (by decide) (by omega) (by decide) dX9_init_78 ?_
  refine n_putF (ci := 9) (f := 14) (C := RX9) (T := TX9) (N := 21) (ty0 := tyX9) (ty := .array .int) G rfl rfl uw_9 tyX9_ok nmX9 (by decide) wd_891 rfl rfl (by decide +kernel) (fun _ => rfl) (fun _ => rfl) sh_0 pt_0_14 (by decide) (by decide) dX9_init_80 ?_
  refine n_aload_n (j := 0) G dX9_init_83 rfl rfl ?_
  refine n_bipush G dX9_init_84 (by decide) (by decide) ?_
  refine n_newa (at' := .int) (ty := .int) (k := 11) (len := 32) G rfl wac_int (by decide +kernel) (by decide +kernel) (by decide +kernel) (Or.inr ⟨by decide +kernel, Or.inl rfl⟩) (hz 11 (by decide)) rfl (by decide) (by omega) (by decide) dX9_init_86 ?_
  refine n_putF (ci := 9) (f := 15) (C := RX9) (T := TX9) (N := 21) (ty0 := tyX9) (ty := .array .int) G rfl rfl uw_9 tyX9_ok nmX9 (by decide) wd_892 rfl rfl (by decide +kernel) (fun _ => rfl) (fun _ => rfl) sh_0 pt_0_15 (by decide) (by decide) dX9_init_88 ?_
  refine n_aload_n (j := 0) G dX9_init_91 rfl rfl ?_
  refine n_bipush G dX9_init_92 (by decide) (by decide) ?_
  refine n_newa (at' := .boolean) (ty := .boolean) (k := 12) (len := 32) G rfl wac_boolean (by decide +kernel) (by decide +kernel) (by decide +kernel) (Or.inr ⟨by decide +kernel, Or.inr (Or.inr rfl)⟩) (hz 12 (by decide)) rfl (by decide) (by omega) (by decide) dX9_init_94 ?_
  refine n_putF (ci := 9) (f := 16) (C := RX9) (T := TX9) (N := 21) (ty0 := tyX9) (ty := .array .boolean) G rfl rfl uw_9 tyX9_ok nmX9 (by decide) wd_893 rfl rfl (by decide +kernel) (fun _ => rfl) (fun _ => rfl) sh_0 pt_0_16 (by decide) (by decide) dX9_init_96 ?_
  refine n_aload_n (j := 0) G dX9_init_99 rfl rfl ?_
  refine n_iconst G dX9_init_100 (by decide) ?_
  refine n_newa (at' := .int) (ty := .int) (k := 13) (len := 4) G rfl wac_int (by decide +kernel) (by decide +kernel) (by decide +kernel) (Or.inr ⟨by decide +kernel, Or.inl rfl⟩) (hz 13 (by decide)) rfl (by decide) (by omega) (by decide) dX9_init_101 ?_
  refine n_putF (ci := 9) (f := 17) (C := RX9) (T := TX9) (N := 21) (ty0 := tyX9) (ty := .array .int) G rfl rfl uw_9 tyX9_ok nmX9 (by decide) wd_894 rfl rfl (by decide +kernel) (fun _ => rfl) (fun _ => rfl) sh_0 pt_0_17 (by decide) (by decide) dX9_init_103 ?_
  refine n_aload_n (j := 0) G dX9_init_106 rfl rfl ?_
  refine n_iconst G dX9_init_107 (by decide) ?_
  refine n_newa (at' := .long) (ty := .long) (k := 14) (len := 4) G rfl wac_long (by decide +kernel) (by decide +kernel) (by decide +kernel) (Or.inl ⟨by decide +kernel, rfl⟩) (hz 14 (by decide)) rfl (by decide) (by omega) (by decide) dX9_init_108 ?_
  refine n_putF (ci := 9) (f := 18) (C := RX9) (T := TX9) (N := 21) (ty0 := tyX9) (ty := .array .long) G rfl rfl uw_9 tyX9_ok nmX9 (by decide) wd_895 rfl rfl (by decide +kernel) (fun _ => rfl) (fun _ => rfl) sh_0 pt_0_18 (by decide) (by decide) dX9_init_110 ?_
  refine n_aload_n (j := 0) G dX9_init_113 rfl rfl ?_
  refine n_sipush G dX9_init_114 (by decide) (by decide) ?_
  refine n_newa (at' := .long) (ty := .long) (k := 15) (len := 480) G rfl wac_long (by decide +kernel) (by decide +kernel) (by decide +kernel) (Or.inl ⟨by decide +kernel, rfl⟩) (hz 15 (by decide)) rfl (by decide) (by omega) (by decide) dX9_init_117 ?_
  refine n_putF (ci := 9) (f := 19) (C := RX9) (T := TX9) (N := 21) (ty0 := tyX9) (ty := .array .long) G rfl rfl uw_9 tyX9_ok nmX9 (by decide) wd_896 rfl rfl (by decide +kernel) (fun _ => rfl) (fun _ => rfl) sh_0 pt_0_19 (by decide) (by decide) dX9_init_119 ?_
  refine n_aload_n (j := 0) G dX9_init_122 rfl rfl ?_
  refine n_sipush G dX9_init_123 (by decide) (by decide) ?_
  refine n_newa (at' := .long) (ty := .long) (k := 16) (len := 400) G rfl wac_long (by decide +kernel) (by decide +kernel) (by decide +kernel) (Or.inl ⟨by decide +kernel, rfl⟩) (hz 16 (by decide)) rfl (by decide) (by omega) (by decide) dX9_init_126 ?_
  refine n_putF (ci := 9) (f := 20) (C := RX9) (T := TX9) (N := 21) (ty0 := tyX9) (ty := .array .long) G rfl rfl uw_9 tyX9_ok nmX9 (by decide) wd_897 rfl rfl (by decide +kernel) (fun _ => rfl) (fun _ => rfl) sh_0 pt_0_20 (by decide) (by decide) dX9_init_128 ?_
  exact kk
def nwM : Wf := (0, 20) :: (0, 19) :: (0, 18) :: (0, 17) :: (0, 16) :: (0, 15) :: (0, 14) :: (0, 13) :: (0, 12) :: (0, 11) :: (0, 10) :: (0, 9) :: (0, 5) :: (0, 3) :: (0, 2) :: (0, 1) :: nwC
theorem nwM_dn : ∀ k, k < 137 → 0 ≤ k → nw_dn nwM k = true := by decide +kernel
theorem x_sea {E : En} {b : Bn} {Q : State → Prop} {nL pc : Nat} {ls : List (Nat × AV)} {st : List AV} {s : Mem} {cc : ByteArray} {own : String} {ret : Option FieldType} {d : Nat} {i : Nat} {x : Int} (G : ab_G E b cc nL own ret d) (hi : i < 372) (hd : decode cc pc = .ok (.iastore, 1)) (kk : ab_X E b Q nL (pc + 1) ls st (mu s 1 i x)) : ab_X E b Q nL pc ls (vI x :: vI i :: vR 1 :: st) s :=
  x_iast (g := some) (z := mu s 1 i x) G hd (by rw [wr_m_sea (by omega) (by omega)]; rfl) (fun s' h _ => by rw [h]; exact kk)
def dM : Nat → Int := (fu (fu (fu (fu (fu (fu (fu (fu (fu (fu (fu (fu (fu D0 0 9) 1 9) 2 10) 16 1) 17 5) 18 1) 19 10) 20 1) 52 10) 54 1) 183 1) 184 1) 185 1)
theorem dM_eq : ∀ k, k < 186 → dM k = dF.1 k := by decide +kernel
theorem sea_mu {s : Mem} {D : Nat → Int} (h : ∀ k, k < 186 → s 1 k = D k) (i : Nat) (x : Int) : ∀ k, k < 186 → (mu s 1 i x) 1 k = fu D i x k := by
  intro k hk
  rw [mu_same]
  by_cases e : k = i
  · subst e; rw [fu_same, fu_same]
  · rw [fu_ne _ _ e, fu_ne _ _ e]; exact h k hk
set_option maxRecDepth 100000 in
theorem m_start : ∃ sM, Inv sM ∧ ∀ (E : En) (b : Bn), ab_G E b cX9_init 1 RX9 none 1 → ab_X E b (ab_MQ E b none sM) 1 131 [(0, vR 0)] [] sC := by
  have hB := sC_born
  obtain ⟨s1, b1, b2', b3, -⟩ := m_begins 186 600 0 0 sC (by omega) (by omega) (by omega) (fun a ha => absurd ha (by omega))
  have b1 : fX9_begins 0 sC = some s1 := b1
  have hs1 : ∀ k, k < 186 → s1 1 k = D0 k := fun k hk => by have := b2' k hk; rw [Nat.zero_add] at this; exact this
  generalize hs2 : (mu (mu (mu (mu (mu (mu (mu (mu (mu (mu (mu (mu (mu s1 1 0 9) 1 1 9) 1 2 10) 1 16 1) 1 17 5) 1 18 1) 1 19 10) 1 20 1) 1 52 10) 1 54 1) 1 183 1) 1 184 1) 1 185 1) = s2
  have h2 : ∀ k, k < 186 → s2 1 k = dM k := by
    rw [← hs2]
    exact sea_mu (sea_mu (sea_mu (sea_mu (sea_mu (sea_mu (sea_mu (sea_mu (sea_mu (sea_mu (sea_mu (sea_mu (sea_mu (hs1) 0 9) 1 9) 2 10) 16 1) 17 5) 18 1) 19 10) 20 1) 52 10) 54 1) 183 1) 184 1) 185 1
  have h2o : ∀ c, c ≠ 1 → s2 c = s1 c := fun c hc => by
    rw [← hs2]
    simp (disch := assumption) only [mu_ne]
  obtain ⟨s3, a1, a2, a3, a4, a5⟩ := m_anew (s := s2) (v := 1) (by decide) (by rw [h2 185 (by decide), dM_eq 185 (by decide)]; decide +kernel)
  refine ⟨s3, ⟨dF.1, 1, 1, 1, nw 1, fun _ => 0, 0, T0, 0, ⟨hB.2.1, nw_ok (nH := 1) (nS := 1) (by decide), by decide, fun z => absurd z (by omega), fun z => absurd z (by omega), by decide, T0_rg⟩, ⟨?_, a2, ⟨a3, fun k hk => absurd hk (by omega)⟩, ⟨?_, fun k hk => absurd hk (by omega)⟩⟩, ?_⟩, fun E b G => ?_⟩
  · intro k hk
    rw [a5 1 (by decide) (by decide), h2 k hk, dM_eq k hk]
  · rw [a4 6 (by decide), h2o 0 (by decide), b3 0 (by decide), hB.1 0 (by decide)]; rfl
  · exact (hB.2.2 _).fr (fun k hk => by rw [a5 k (by omega) (by omega), h2o k (by omega), b3 k (by omega)])
  · refine x_aload_n (j := 0) G dX9_init_131 rfl rfl ?_
    refine x_iconst G dX9_init_132 (by decide) ?_
    refine cv_869 (k := 0) (As := [vI 0]) (rest := []) G (rX9_begins b1) sh_0 (by decide) rfl rfl (by decide) dX9_init_133 ?_
    refine x_aload_n (j := 0) G dX9_init_136 rfl rfl ?_
    refine gf_878 G sh_0 pt_0_1 dX9_init_137 ?_
    refine x_iconst G dX9_init_140 (by decide) ?_
    refine x_bipush G dX9_init_141 (by decide) (by decide) ?_
    refine x_sea (i := 0) G (by decide) dX9_init_143 ?_
    refine x_aload_n (j := 0) G dX9_init_144 rfl rfl ?_
    refine gf_878 G sh_0 pt_0_1 dX9_init_145 ?_
    refine x_iconst G dX9_init_148 (by decide) ?_
    refine x_bipush G dX9_init_149 (by decide) (by decide) ?_
    refine x_sea (i := 1) G (by decide) dX9_init_151 ?_
    refine x_aload_n (j := 0) G dX9_init_152 rfl rfl ?_
    refine gf_878 G sh_0 pt_0_1 dX9_init_153 ?_
    refine x_iconst G dX9_init_156 (by decide) ?_
    refine x_bipush G dX9_init_157 (by decide) (by decide) ?_
    refine x_sea (i := 2) G (by decide) dX9_init_159 ?_
    refine x_aload_n (j := 0) G dX9_init_160 rfl rfl ?_
    refine gf_878 G sh_0 pt_0_1 dX9_init_161 ?_
    refine x_bipush G dX9_init_164 (by decide) (by decide) ?_
    refine x_iconst G dX9_init_166 (by decide) ?_
    refine x_sea (i := 16) G (by decide) dX9_init_167 ?_
    refine x_aload_n (j := 0) G dX9_init_168 rfl rfl ?_
    refine gf_878 G sh_0 pt_0_1 dX9_init_169 ?_
    refine x_bipush G dX9_init_172 (by decide) (by decide) ?_
    refine x_iconst G dX9_init_174 (by decide) ?_
    refine x_sea (i := 17) G (by decide) dX9_init_175 ?_
    refine x_aload_n (j := 0) G dX9_init_176 rfl rfl ?_
    refine gf_878 G sh_0 pt_0_1 dX9_init_177 ?_
    refine x_bipush G dX9_init_180 (by decide) (by decide) ?_
    refine x_iconst G dX9_init_182 (by decide) ?_
    refine x_sea (i := 18) G (by decide) dX9_init_183 ?_
    refine x_aload_n (j := 0) G dX9_init_184 rfl rfl ?_
    refine gf_878 G sh_0 pt_0_1 dX9_init_185 ?_
    refine x_bipush G dX9_init_188 (by decide) (by decide) ?_
    refine x_bipush G dX9_init_190 (by decide) (by decide) ?_
    refine x_sea (i := 19) G (by decide) dX9_init_192 ?_
    refine x_aload_n (j := 0) G dX9_init_193 rfl rfl ?_
    refine gf_878 G sh_0 pt_0_1 dX9_init_194 ?_
    refine x_bipush G dX9_init_197 (by decide) (by decide) ?_
    refine x_iconst G dX9_init_199 (by decide) ?_
    refine x_sea (i := 20) G (by decide) dX9_init_200 ?_
    refine x_aload_n (j := 0) G dX9_init_201 rfl rfl ?_
    refine gf_878 G sh_0 pt_0_1 dX9_init_202 ?_
    refine x_bipush G dX9_init_205 (by decide) (by decide) ?_
    refine x_bipush G dX9_init_207 (by decide) (by decide) ?_
    refine x_sea (i := 52) G (by decide) dX9_init_209 ?_
    refine x_aload_n (j := 0) G dX9_init_210 rfl rfl ?_
    refine gf_878 G sh_0 pt_0_1 dX9_init_211 ?_
    refine x_bipush G dX9_init_214 (by decide) (by decide) ?_
    refine x_iconst G dX9_init_216 (by decide) ?_
    refine x_sea (i := 54) G (by decide) dX9_init_217 ?_
    refine x_aload_n (j := 0) G dX9_init_218 rfl rfl ?_
    refine gf_878 G sh_0 pt_0_1 dX9_init_219 ?_
    refine x_sipush G dX9_init_222 (by decide) (by decide) ?_
    refine x_iconst G dX9_init_225 (by decide) ?_
    refine x_sea (i := 183) G (by decide) dX9_init_226 ?_
    refine x_aload_n (j := 0) G dX9_init_227 rfl rfl ?_
    refine gf_878 G sh_0 pt_0_1 dX9_init_228 ?_
    refine x_sipush G dX9_init_231 (by decide) (by decide) ?_
    refine x_iconst G dX9_init_234 (by decide) ?_
    refine x_sea (i := 184) G (by decide) dX9_init_235 ?_
    refine x_aload_n (j := 0) G dX9_init_236 rfl rfl ?_
    refine gf_878 G sh_0 pt_0_1 dX9_init_237 ?_
    refine x_sipush G dX9_init_240 (by decide) (by decide) ?_
    refine x_iconst G dX9_init_243 (by decide) ?_
    refine x_sea (i := 185) G (by decide) dX9_init_244 ?_
    rw [hs2]
    refine x_aload_n (j := 0) G dX9_init_245 rfl rfl ?_
    refine cv_873 (k := 0) (As := []) (rest := []) G (rX9_anew a1) sh_0 (by decide) rfl rfl (by decide) dX9_init_246 ?_
    exact x_vret G dX9_init_249
noncomputable def sM : Mem := m_start.choose
theorem sM_inv : Inv sM := m_start.choose_spec.1
def nw_PM (E : En) : Array Value → State → Prop := fun v U => nw_P E [vR 0] sC nwC 121 v U ∧ ∀ k j, ab_rg k (sC k j)
set_option maxRecDepth 100000 in
theorem mk_M {E : En} (l : Launch) : Met l yX9_init [Cond.code yX9_init cX9_init 1 none] (nw_rm 1 16 1968) (nw_PM E) (ab_Q (eL 0 E) none sM) 16 1968 (eA E) := by
  refine Met.ofW (cc := cX9_init) (maxL := 1) (ret := none) rfl rfl ?_
  intro p e s0 m args below meth cd s₁ B hml hv
  obtain ⟨⟨rfl, hC, hR, hok, hT⟩, hg⟩ := hv
  have hown : s0.vm.findClass yX9_init.cls = some m.cls := findClass_of_methodNamed B.named
  have hnm : meth.name = "<init>" := by rw [(name_of_methodNamed B.named B.method).1]; rfl
  have G : nw_G E (p, l, e, (headSpec [Cond.code yX9_init cX9_init 1 none] (nw_rm 1 16 1968)).room, s0, m, ([vR 0].map (ab_c E)).toArray, below, meth, cd, 0, 0) cX9_init 1 RX9 1 16 1968 := ⟨⟨B.exec, B.bytes, hml, hown⟩, hC, ⟨Nat.le_refl _, Nat.le_refl _⟩, ⟨Nat.le_of_ble_eq_true rfl, Nat.le_of_ble_eq_true rfl⟩, ⟨hnm, hT⟩, B.returns, B.notSynchronized⟩
  have hl := lv_entry ([vR 0].map (ab_c E)) (n := 1) (by rw [ab_slots]; decide)
  rw [lg_entry_eq]
  rw [ab_args_c] at hl
  have GW := G.walk (lo := 0) (Or.inl rfl)
  refine mk_9 (Nat.le_refl _) (Nat.le_refl _) (fun k hk f => by rw [sC_born.1 k hk]; rfl) G ?_ s0.heap [] _ (by rw [hR.2]) hR va_S.rf hl (ab_args_ok 0 _ hok) (fun v hv => by cases hv)
  refine nw_walk (lo := 0) hC.2.1 (by decide +kernel) nwM_dn hg (fun q hq => ?_) (fun v hv => by cases hv) ?_
  · rcases List.mem_cons.mp hq with rfl | hq
    · show 0 ≤ 0; omega
    · cases hq
  · exact m_start.choose_spec.2 (eL 0 E) _ GW

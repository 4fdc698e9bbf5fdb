/-! ===== the constructors, as far as they make ===== -/
theorem wi_82 : Cond.instantiable RX8 10 ∈ ab_TW := ab_in 82 (by decide +kernel) (by decide +kernel)
theorem wi_90 : Cond.instantiable RX6 9 ∈ ab_TW := ab_in 90 (by decide +kernel) (by decide +kernel)
theorem wi_127 : Cond.instantiable RX5 15 ∈ ab_TW := ab_in 127 (by decide +kernel) (by decide +kernel)
theorem wi_210 : Cond.instantiable RX7 5 ∈ ab_TW := ab_in 210 (by decide +kernel) (by decide +kernel)
theorem wi_216 : Cond.instantiable RX3 2 ∈ ab_TW := ab_in 216 (by decide +kernel) (by decide +kernel)
theorem wi_263 : Cond.instantiable RX2 8 ∈ ab_TW := ab_in 263 (by decide +kernel) (by decide +kernel)
theorem wi_297 : Cond.instantiable RX4 2 ∈ ab_TW := ab_in 297 (by decide +kernel) (by decide +kernel)
theorem wi_310 : Cond.instantiable RX1 1 ∈ ab_TW := ab_in 310 (by decide +kernel) (by decide +kernel)
theorem wi_320 : Cond.instantiable RX0 3 ∈ ab_TW := ab_in 320 (by decide +kernel) (by decide +kernel)
theorem wi_864 : Cond.instantiable RX9 21 ∈ ab_TW := ab_in 864 (by decide +kernel) (by decide +kernel)
theorem wac_byte : ∀ U, nw_T U → (Cond.arrayClass .byte).before #[] U = true := fun _ h => h.1.1
theorem wac_int : ∀ U, nw_T U → (Cond.arrayClass .int).before #[] U = true := fun _ h => h.1.2.1
theorem wcl_RX5_9 : Cond.classLink RX5 9 ("[" ++ (FieldType.array .int).toString) ∈ ab_TW := ab_in 132 (by decide +kernel) (by decide +kernel)
theorem wao_int : ∀ U, nw_T U → (Cond.arrayOver (.array .int)).before #[] U = true := fun _ h => h.2.1
theorem wcl_RX5_41 : Cond.classLink RX5 41 ("[" ++ (FieldType.array .long).toString) ∈ ab_TW := ab_in 134 (by decide +kernel) (by decide +kernel)
theorem wao_long : ∀ U, nw_T U → (Cond.arrayOver (.array .long)).before #[] U = true := fun _ h => h.2.2.1
theorem wac_long : ∀ U, nw_T U → (Cond.arrayClass .long).before #[] U = true := fun _ h => h.1.2.2.1
theorem wao_W : ∀ U, nw_T U → (Cond.arrayOver (.object "StormHarbours$Watch")).before #[] U = true := fun _ h => h.2.2.2
theorem wcl_RX2_21 : Cond.classLink RX2 21 ("[" ++ (FieldType.array .int).toString) ∈ ab_TW := ab_in 268 (by decide +kernel) (by decide +kernel)
theorem wac_boolean : ∀ U, nw_T U → (Cond.arrayClass .boolean).before #[] U = true := fun _ h => h.1.2.2.2
set_option maxRecDepth 100000 in
theorem mk_6_18 {E : En} {s : Mem} {φ : Wf} (hz : ∀ k, 17 ≤ k → ∀ f, s k f = 0)  : nw_Run E 1 yX6_init cX6_init 1 [vR 18] s φ 2 ((18, 4) :: (18, 0) :: φ) 4 2 506 := by
  refine n_intro (own := RX6) rfl rfl rfl (by decide) rfl (fun b G => ?_)
  refine n_aload_n (j := 0) G dX6_init_0 rfl rfl ?_
  refine n_obj G wd_94 wd_87 wd_88 (by decide) (by decide) dX6_init_1 ?_
  refine n_aload_n (j := 0) G dX6_init_4 rfl rfl ?_
  refine n_sipush G dX6_init_5 (by decide) (by decide) ?_
  refine n_newa (at' := .byte) (ty := .byte) (k := 19) (len := 500) G rfl wac_byte (by decide +kernel) (by decide +kernel) (by decide +kernel) (Or.inr ⟨by decide +kernel, Or.inr (Or.inl rfl)⟩) (hz 19 (by decide)) rfl (by decide) (by omega) (by decide) dX6_init_8 ?_
  refine n_putF (ci := 6) (f := 0) (C := RX6) (T := TX6) (N := 9) (ty0 := tyX6) (ty := .array .byte) G rfl rfl uw_6 tyX6_ok nmX6 (by decide) wd_95 rfl rfl (by decide +kernel) (fun _ => rfl) (fun _ => rfl) sh_18 pt_18_0 (by decide) (by decide) dX6_init_10 ?_
  refine n_aload_n (j := 0) G dX6_init_13 rfl rfl ?_
  refine n_bipush G dX6_init_14 (by decide) (by decide) ?_
  refine n_newa (at' := .int) (ty := .int) (k := 20) (len := 6) G rfl wac_int (by decide +kernel) (by decide +kernel) (by decide +kernel) (Or.inr ⟨by decide +kernel, Or.inl rfl⟩) (hz 20 (by decide)) rfl (by decide) (by omega) (by decide) dX6_init_16 ?_
  refine n_putF (ci := 6) (f := 4) (C := RX6) (T := TX6) (N := 9) (ty0 := tyX6) (ty := .array .int) G rfl rfl uw_6 tyX6_ok nmX6 (by decide) wd_100 rfl rfl (by decide +kernel) (fun _ => rfl) (fun _ => rfl) sh_18 pt_18_4 (by decide) (by decide) dX6_init_18 ?_
  exact n_vret G dX6_init_21 rfl rfl
set_option maxRecDepth 100000 in
theorem mk_5_21 {E : En} {s : Mem} {φ : Wf} (hz : ∀ k, 17 ≤ k → ∀ f, s k f = 0)  : nw_Run E 1 yX5_init cX5_init 1 [vR 21] s φ 5 ((21, 14) :: nw_rows 92 16 ((21, 13) :: nw_rows 75 16 ((21, 12) :: nw_rows 58 16 ((21, 11) :: nw_rows 53 4 ((21, 10) :: nw_rows 48 4 ((21, 8) :: (21, 7) :: nw_rows 42 4 ((21, 6) :: nw_rows 37 4 ((21, 5) :: nw_rows 32 4 ((21, 4) :: nw_rows 27 4 ((21, 3) :: nw_rows 22 4 (φ))))))))))) 92 87 2706 := by
  refine n_intro (own := RX5) rfl rfl rfl (by decide) rfl (fun b G => ?_)
  refine n_aload_n (j := 0) G dX5_init_0 rfl rfl ?_
  refine n_obj G wd_131 wd_87 wd_88 (by decide) (by decide) dX5_init_1 ?_
  refine n_aload_n (j := 0) G dX5_init_4 rfl rfl ?_
  refine n_iconst G dX5_init_5 (by decide) ?_
  refine n_iconst G dX5_init_6 (by decide) ?_
  refine n_multi (k := 22) (N := 4) (M := 4) (r := 23) (ty := .int) G (Or.inl rfl) wcl_RX5_9 wao_int wac_int (by decide +kernel) (by decide +kernel) (by decide +kernel) (by decide +kernel) (fun j hj => hz (23 + j) (by omega)) rfl rfl (by decide) (by decide) (by omega) (by decide) dX5_init_7 ?_
  refine n_putF (ci := 5) (f := 3) (C := RX5) (T := TX5) (N := 15) (ty0 := tyX5) (ty := .array (.array .int)) G rfl rfl uw_5 tyX5_ok nmX5 (by decide) wd_151 rfl rfl (by decide +kernel) (fun _ => rfl) (fun _ => rfl) sh_21 pt_21_3 (by decide) (by decide) dX5_init_11 ?_
  refine n_aload_n (j := 0) G dX5_init_14 rfl rfl ?_
  refine n_iconst G dX5_init_15 (by decide) ?_
  refine n_iconst G dX5_init_16 (by decide) ?_
  refine n_multi (k := 27) (N := 4) (M := 5) (r := 28) (ty := .int) G (Or.inl rfl) wcl_RX5_9 wao_int wac_int (by decide +kernel) (by decide +kernel) (by decide +kernel) (by decide +kernel) (fun j hj => hz (28 + j) (by omega)) rfl rfl (by decide) (by decide) (by omega) (by decide) dX5_init_17 ?_
  refine n_putF (ci := 5) (f := 4) (C := RX5) (T := TX5) (N := 15) (ty0 := tyX5) (ty := .array (.array .int)) G rfl rfl uw_5 tyX5_ok nmX5 (by decide) wd_153 rfl rfl (by decide +kernel) (fun _ => rfl) (fun _ => rfl) sh_21 pt_21_4 (by decide) (by decide) dX5_init_21 ?_
  refine n_aload_n (j := 0) G dX5_init_24 rfl rfl ?_
  refine n_iconst G dX5_init_25 (by decide) ?_
  refine n_bipush G dX5_init_26 (by decide) (by decide) ?_
  refine n_multi (k := 32) (N := 4) (M := 6) (r := 33) (ty := .int) G (Or.inl rfl) wcl_RX5_9 wao_int wac_int (by decide +kernel) (by decide +kernel) (by decide +kernel) (by decide +kernel) (fun j hj => hz (33 + j) (by omega)) rfl rfl (by decide) (by decide) (by omega) (by decide) dX5_init_28 ?_
  refine n_putF (ci := 5) (f := 5) (C := RX5) (T := TX5) (N := 15) (ty0 := tyX5) (ty := .array (.array .int)) G rfl rfl uw_5 tyX5_ok nmX5 (by decide) wd_158 rfl rfl (by decide +kernel) (fun _ => rfl) (fun _ => rfl) sh_21 pt_21_5 (by decide) (by decide) dX5_init_32 ?_
  refine n_aload_n (j := 0) G dX5_init_35 rfl rfl ?_
  refine n_iconst G dX5_init_36 (by decide) ?_
  refine n_iconst G dX5_init_37 (by decide) ?_
  refine n_multi (k := 37) (N := 4) (M := 4) (r := 38) (ty := .int) G (Or.inl rfl) wcl_RX5_9 wao_int wac_int (by decide +kernel) (by decide +kernel) (by decide +kernel) (by decide +kernel) (fun j hj => hz (38 + j) (by omega)) rfl rfl (by decide) (by decide) (by omega) (by decide) dX5_init_38 ?_
  refine n_putF (ci := 5) (f := 6) (C := RX5) (T := TX5) (N := 15) (ty0 := tyX5) (ty := .array (.array .int)) G rfl rfl uw_5 tyX5_ok nmX5 (by decide) wd_163 rfl rfl (by decide +kernel) (fun _ => rfl) (fun _ => rfl) sh_21 pt_21_6 (by decide) (by decide) dX5_init_42 ?_
  refine n_aload_n (j := 0) G dX5_init_45 rfl rfl ?_
  refine n_iconst G dX5_init_46 (by decide) ?_
  refine n_bipush G dX5_init_47 (by decide) (by decide) ?_
  refine n_multi (k := 42) (N := 4) (M := 24) (r := 43) (ty := .int) G (Or.inl rfl) wcl_RX5_9 wao_int wac_int (by decide +kernel) (by decide +kernel) (by decide +kernel) (by decide +kernel) (fun j hj => hz (43 + j) (by omega)) rfl rfl (by decide) (by decide) (by omega) (by decide) dX5_init_49 ?_
  refine n_putF (ci := 5) (f := 7) (C := RX5) (T := TX5) (N := 15) (ty0 := tyX5) (ty := .array (.array .int)) G rfl rfl uw_5 tyX5_ok nmX5 (by decide) wd_166 rfl rfl (by decide +kernel) (fun _ => rfl) (fun _ => rfl) sh_21 pt_21_7 (by decide) (by decide) dX5_init_53 ?_
  refine n_aload_n (j := 0) G dX5_init_56 rfl rfl ?_
  refine n_bipush G dX5_init_57 (by decide) (by decide) ?_
  refine n_newa (at' := .int) (ty := .int) (k := 47) (len := 10) G rfl wac_int (by decide +kernel) (by decide +kernel) (by decide +kernel) (Or.inr ⟨by decide +kernel, Or.inl rfl⟩) (hz 47 (by decide)) rfl (by decide) (by omega) (by decide) dX5_init_59 ?_
  refine n_putF (ci := 5) (f := 8) (C := RX5) (T := TX5) (N := 15) (ty0 := tyX5) (ty := .array .int) G rfl rfl uw_5 tyX5_ok nmX5 (by decide) wd_169 rfl rfl (by decide +kernel) (fun _ => rfl) (fun _ => rfl) sh_21 pt_21_8 (by decide) (by decide) dX5_init_61 ?_
  refine n_aload_n (j := 0) G dX5_init_64 rfl rfl ?_
  refine n_iconst G dX5_init_65 (by decide) ?_
  refine n_bipush G dX5_init_66 (by decide) (by decide) ?_
  refine n_multi (k := 48) (N := 4) (M := 24) (r := 49) (ty := .int) G (Or.inl rfl) wcl_RX5_9 wao_int wac_int (by decide +kernel) (by decide +kernel) (by decide +kernel) (by decide +kernel) (fun j hj => hz (49 + j) (by omega)) rfl rfl (by decide) (by decide) (by omega) (by decide) dX5_init_68 ?_
  refine n_putF (ci := 5) (f := 10) (C := RX5) (T := TX5) (N := 15) (ty0 := tyX5) (ty := .array (.array .int)) G rfl rfl uw_5 tyX5_ok nmX5 (by decide) wd_171 rfl rfl (by decide +kernel) (fun _ => rfl) (fun _ => rfl) sh_21 pt_21_10 (by decide) (by decide) dX5_init_72 ?_
  refine n_aload_n (j := 0) G dX5_init_75 rfl rfl ?_
  refine n_iconst G dX5_init_76 (by decide) ?_
  refine n_iconst G dX5_init_77 (by decide) ?_
  refine n_multi (k := 53) (N := 4) (M := 4) (r := 54) (ty := .int) G (Or.inl rfl) wcl_RX5_9 wao_int wac_int (by decide +kernel) (by decide +kernel) (by decide +kernel) (by decide +kernel) (fun j hj => hz (54 + j) (by omega)) rfl rfl (by decide) (by decide) (by omega) (by decide) dX5_init_78 ?_
  refine n_putF (ci := 5) (f := 11) (C := RX5) (T := TX5) (N := 15) (ty0 := tyX5) (ty := .array (.array .int)) G rfl rfl uw_5 tyX5_ok nmX5 (by decide) wd_173 rfl rfl (by decide +kernel) (fun _ => rfl) (fun _ => rfl) sh_21 pt_21_11 (by decide) (by decide) dX5_init_82 ?_
  refine n_aload_n (j := 0) G dX5_init_85 rfl rfl ?_
  refine n_bipush G dX5_init_86 (by decide) (by decide) ?_
  refine n_bipush G dX5_init_88 (by decide) (by decide) ?_
  refine n_multi (k := 58) (N := 16) (M := 25) (r := 59) (ty := .int) G (Or.inl rfl) wcl_RX5_9 wao_int wac_int (by decide +kernel) (by decide +kernel) (by decide +kernel) (by decide +kernel) (fun j hj => hz (59 + j) (by omega)) rfl rfl (by decide) (by decide) (by omega) (by decide) dX5_init_90 ?_
  refine n_putF (ci := 5) (f := 12) (C := RX5) (T := TX5) (N := 15) (ty0 := tyX5) (ty := .array (.array .int)) G rfl rfl uw_5 tyX5_ok nmX5 (by decide) wd_174 rfl rfl (by decide +kernel) (fun _ => rfl) (fun _ => rfl) sh_21 pt_21_12 (by decide) (by decide) dX5_init_94 ?_
  refine n_aload_n (j := 0) G dX5_init_97 rfl rfl ?_
  refine n_bipush G dX5_init_98 (by decide) (by decide) ?_
  refine n_bipush G dX5_init_100 (by decide) (by decide) ?_
  refine n_multi (k := 75) (N := 16) (M := 25) (r := 76) (ty := .long) G (Or.inr rfl) wcl_RX5_41 wao_long wac_long (by decide +kernel) (by decide +kernel) (by decide +kernel) (by decide +kernel) (fun j hj => hz (76 + j) (by omega)) rfl rfl (by decide) (by decide) (by omega) (by decide) dX5_init_102 ?_
  refine n_putF (ci := 5) (f := 13) (C := RX5) (T := TX5) (N := 15) (ty0 := tyX5) (ty := .array (.array .long)) G rfl rfl uw_5 tyX5_ok nmX5 (by decide) wd_175 rfl rfl (by decide +kernel) (fun _ => rfl) (fun _ => rfl) sh_21 pt_21_13 (by decide) (by decide) dX5_init_106 ?_
  refine n_aload_n (j := 0) G dX5_init_109 rfl rfl ?_
  refine n_bipush G dX5_init_110 (by decide) (by decide) ?_
  refine n_bipush G dX5_init_112 (by decide) (by decide) ?_
  refine n_multi (k := 92) (N := 16) (M := 96) (r := 93) (ty := .int) G (Or.inl rfl) wcl_RX5_9 wao_int wac_int (by decide +kernel) (by decide +kernel) (by decide +kernel) (by decide +kernel) (fun j hj => hz (93 + j) (by omega)) rfl rfl (by decide) (by decide) (by omega) (by decide) dX5_init_114 ?_
  refine n_putF (ci := 5) (f := 14) (C := RX5) (T := TX5) (N := 15) (ty0 := tyX5) (ty := .array (.array .int)) G rfl rfl uw_5 tyX5_ok nmX5 (by decide) wd_176 rfl rfl (by decide +kernel) (fun _ => rfl) (fun _ => rfl) sh_21 pt_21_14 (by decide) (by decide) dX5_init_118 ?_
  exact n_vret G dX5_init_121 rfl rfl
set_option maxRecDepth 100000 in
theorem mk_3_110 {E : En} {s : Mem} {φ : Wf} (hz : ∀ k, 17 ≤ k → ∀ f, s k f = 0)  : nw_Run E 1 yX3_init cX3_init 1 [vR 110] s φ 94 ((110, 1) :: (110, 0) :: φ) 96 2 8 := by
  refine n_intro (own := RX3) rfl rfl rfl (by decide) rfl (fun b G => ?_)
  refine n_aload_n (j := 0) G dX3_init_0 rfl rfl ?_
  refine n_obj G wd_220 wd_87 wd_88 (by decide) (by decide) dX3_init_1 ?_
  refine n_aload_n (j := 0) G dX3_init_4 rfl rfl ?_
  refine n_iconst G dX3_init_5 (by decide) ?_
  refine n_newa (at' := .int) (ty := .int) (k := 111) (len := 4) G rfl wac_int (by decide +kernel) (by decide +kernel) (by decide +kernel) (Or.inr ⟨by decide +kernel, Or.inl rfl⟩) (hz 111 (by decide)) rfl (by decide) (by omega) (by decide) dX3_init_6 ?_
  refine n_putF (ci := 3) (f := 0) (C := RX3) (T := TX3) (N := 2) (ty0 := tyX3) (ty := .array .int) G rfl rfl uw_3 tyX3_ok nmX3 (by decide) wd_221 rfl rfl (by decide +kernel) (fun _ => rfl) (fun _ => rfl) sh_110 pt_110_0 (by decide) (by decide) dX3_init_8 ?_
  refine n_aload_n (j := 0) G dX3_init_11 rfl rfl ?_
  refine n_iconst G dX3_init_12 (by decide) ?_
  refine n_newa (at' := .int) (ty := .int) (k := 112) (len := 4) G rfl wac_int (by decide +kernel) (by decide +kernel) (by decide +kernel) (Or.inr ⟨by decide +kernel, Or.inl rfl⟩) (hz 112 (by decide)) rfl (by decide) (by omega) (by decide) dX3_init_13 ?_
  refine n_putF (ci := 3) (f := 1) (C := RX3) (T := TX3) (N := 2) (ty0 := tyX3) (ty := .array .int) G rfl rfl uw_3 tyX3_ok nmX3 (by decide) wd_226 rfl rfl (by decide +kernel) (fun _ => rfl) (fun _ => rfl) sh_110 pt_110_1 (by decide) (by decide) dX3_init_15 ?_
  exact n_vret G dX3_init_18 rfl rfl
set_option maxRecDepth 100000 in
theorem mk_7_109 {E : En} {s : Mem} {φ : Wf} (hz : ∀ k, 17 ≤ k → ∀ f, s k f = 0) (hf110 : ∀ f, f < 2 → φ.contains (110, f) = false) : nw_Run E 2 yX7_init cX7_init 1 [vR 109] s φ 93 ((109, 0) :: (110, 1) :: (110, 0) :: φ) 96 3 10 := by
  refine n_intro (own := RX7) rfl rfl rfl (by decide) rfl (fun b G => ?_)
  refine n_aload_n (j := 0) G dX7_init_0 rfl rfl ?_
  refine n_obj G wd_214 wd_87 wd_88 (by decide) (by decide) dX7_init_1 ?_
  refine n_aload_n (j := 0) G dX7_init_4 rfl rfl ?_
  refine n_new (k := 110) (ci := 3) (C := RX3) (T := TX3) (N := 2) G tyX3 tyX3_ok rfl rfl uw_3 wd_215 wi_216 wd_70 (by decide +kernel) sh_110 (hz 110 (by decide)) hf110 (fun f hf => by rcases (show f = 0 ∨ f = 1 by omega) with rfl | rfl <;> rfl) (by omega) (by decide) dX7_init_5 ?_
  refine n_dup G dX7_init_8 rfl ?_
  refine n_callIN (k := 110) (As := []) (rest := [vR 110, vR 109]) (d' := 1) (maxL := 1) (mc' := 2) (ms' := 8) (na := 0) (n' := 96) G wd_217 wd_218 wd_219 wd_70 (by decide +kernel) rfl (by decide) (mk_3_110 hz ) (by decide) rfl rfl (by decide) (by omega) rfl dX7_init_9 ?_
  refine n_putF (ci := 7) (f := 0) (C := RX7) (T := TX7) (N := 5) (ty0 := tyX7) (ty := .object "StormHarbours$Plans") G rfl rfl uw_7 tyX7_ok nmX7 (by decide) wd_234 rfl rfl (by decide +kernel) (fun _ => rfl) (fun _ => rfl) sh_109 pt_109_0 (by decide) (by decide) dX7_init_12 ?_
  exact n_vret G dX7_init_15 rfl rfl
set_option maxRecDepth 100000 in
theorem mk_3_116 {E : En} {s : Mem} {φ : Wf} (hz : ∀ k, 17 ≤ k → ∀ f, s k f = 0)  : nw_Run E 1 yX3_init cX3_init 1 [vR 116] s φ 99 ((116, 1) :: (116, 0) :: φ) 101 2 8 := by
  refine n_intro (own := RX3) rfl rfl rfl (by decide) rfl (fun b G => ?_)
  refine n_aload_n (j := 0) G dX3_init_0 rfl rfl ?_
  refine n_obj G wd_220 wd_87 wd_88 (by decide) (by decide) dX3_init_1 ?_
  refine n_aload_n (j := 0) G dX3_init_4 rfl rfl ?_
  refine n_iconst G dX3_init_5 (by decide) ?_
  refine n_newa (at' := .int) (ty := .int) (k := 117) (len := 4) G rfl wac_int (by decide +kernel) (by decide +kernel) (by decide +kernel) (Or.inr ⟨by decide +kernel, Or.inl rfl⟩) (hz 117 (by decide)) rfl (by decide) (by omega) (by decide) dX3_init_6 ?_
  refine n_putF (ci := 3) (f := 0) (C := RX3) (T := TX3) (N := 2) (ty0 := tyX3) (ty := .array .int) G rfl rfl uw_3 tyX3_ok nmX3 (by decide) wd_221 rfl rfl (by decide +kernel) (fun _ => rfl) (fun _ => rfl) sh_116 pt_116_0 (by decide) (by decide) dX3_init_8 ?_
  refine n_aload_n (j := 0) G dX3_init_11 rfl rfl ?_
  refine n_iconst G dX3_init_12 (by decide) ?_
  refine n_newa (at' := .int) (ty := .int) (k := 118) (len := 4) G rfl wac_int (by decide +kernel) (by decide +kernel) (by decide +kernel) (Or.inr ⟨by decide +kernel, Or.inl rfl⟩) (hz 118 (by decide)) rfl (by decide) (by omega) (by decide) dX3_init_13 ?_
  refine n_putF (ci := 3) (f := 1) (C := RX3) (T := TX3) (N := 2) (ty0 := tyX3) (ty := .array .int) G rfl rfl uw_3 tyX3_ok nmX3 (by decide) wd_226 rfl rfl (by decide +kernel) (fun _ => rfl) (fun _ => rfl) sh_116 pt_116_1 (by decide) (by decide) dX3_init_15 ?_
  exact n_vret G dX3_init_18 rfl rfl
set_option maxRecDepth 100000 in
theorem mk_7_114 {E : En} {s : Mem} {φ : Wf} (hz : ∀ k, 17 ≤ k → ∀ f, s k f = 0) (hf116 : ∀ f, f < 2 → φ.contains (116, f) = false) : nw_Run E 2 yX7_init cX7_init 1 [vR 114] s φ 98 ((114, 0) :: (116, 1) :: (116, 0) :: φ) 101 3 10 := by
  refine n_intro (own := RX7) rfl rfl rfl (by decide) rfl (fun b G => ?_)
  refine n_aload_n (j := 0) G dX7_init_0 rfl rfl ?_
  refine n_obj G wd_214 wd_87 wd_88 (by decide) (by decide) dX7_init_1 ?_
  refine n_aload_n (j := 0) G dX7_init_4 rfl rfl ?_
  refine n_new (k := 116) (ci := 3) (C := RX3) (T := TX3) (N := 2) G tyX3 tyX3_ok rfl rfl uw_3 wd_215 wi_216 wd_70 (by decide +kernel) sh_116 (hz 116 (by decide)) hf116 (fun f hf => by rcases (show f = 0 ∨ f = 1 by omega) with rfl | rfl <;> rfl) (by omega) (by decide) dX7_init_5 ?_
  refine n_dup G dX7_init_8 rfl ?_
  refine n_callIN (k := 116) (As := []) (rest := [vR 116, vR 114]) (d' := 1) (maxL := 1) (mc' := 2) (ms' := 8) (na := 0) (n' := 101) G wd_217 wd_218 wd_219 wd_70 (by decide +kernel) rfl (by decide) (mk_3_116 hz ) (by decide) rfl rfl (by decide) (by omega) rfl dX7_init_9 ?_
  refine n_putF (ci := 7) (f := 0) (C := RX7) (T := TX7) (N := 5) (ty0 := tyX7) (ty := .object "StormHarbours$Plans") G rfl rfl uw_7 tyX7_ok nmX7 (by decide) wd_234 rfl rfl (by decide +kernel) (fun _ => rfl) (fun _ => rfl) sh_114 pt_114_0 (by decide) (by decide) dX7_init_12 ?_
  exact n_vret G dX7_init_15 rfl rfl
set_option maxRecDepth 100000 in
theorem mk_3_119 {E : En} {s : Mem} {φ : Wf} (hz : ∀ k, 17 ≤ k → ∀ f, s k f = 0)  : nw_Run E 1 yX3_init cX3_init 1 [vR 119] s φ 103 ((119, 1) :: (119, 0) :: φ) 105 2 8 := by
  refine n_intro (own := RX3) rfl rfl rfl (by decide) rfl (fun b G => ?_)
  refine n_aload_n (j := 0) G dX3_init_0 rfl rfl ?_
  refine n_obj G wd_220 wd_87 wd_88 (by decide) (by decide) dX3_init_1 ?_
  refine n_aload_n (j := 0) G dX3_init_4 rfl rfl ?_
  refine n_iconst G dX3_init_5 (by decide) ?_
  refine n_newa (at' := .int) (ty := .int) (k := 120) (len := 4) G rfl wac_int (by decide +kernel) (by decide +kernel) (by decide +kernel) (Or.inr ⟨by decide +kernel, Or.inl rfl⟩) (hz 120 (by decide)) rfl (by decide) (by omega) (by decide) dX3_init_6 ?_
  refine n_putF (ci := 3) (f := 0) (C := RX3) (T := TX3) (N := 2) (ty0 := tyX3) (ty := .array .int) G rfl rfl uw_3 tyX3_ok nmX3 (by decide) wd_221 rfl rfl (by decide +kernel) (fun _ => rfl) (fun _ => rfl) sh_119 pt_119_0 (by decide) (by decide) dX3_init_8 ?_
  refine n_aload_n (j := 0) G dX3_init_11 rfl rfl ?_
  refine n_iconst G dX3_init_12 (by decide) ?_
  refine n_newa (at' := .int) (ty := .int) (k := 121) (len := 4) G rfl wac_int (by decide +kernel) (by decide +kernel) (by decide +kernel) (Or.inr ⟨by decide +kernel, Or.inl rfl⟩) (hz 121 (by decide)) rfl (by decide) (by omega) (by decide) dX3_init_13 ?_
  refine n_putF (ci := 3) (f := 1) (C := RX3) (T := TX3) (N := 2) (ty0 := tyX3) (ty := .array .int) G rfl rfl uw_3 tyX3_ok nmX3 (by decide) wd_226 rfl rfl (by decide +kernel) (fun _ => rfl) (fun _ => rfl) sh_119 pt_119_1 (by decide) (by decide) dX3_init_15 ?_
  exact n_vret G dX3_init_18 rfl rfl
set_option maxRecDepth 100000 in
theorem mk_7_115 {E : En} {s : Mem} {φ : Wf} (hz : ∀ k, 17 ≤ k → ∀ f, s k f = 0) (hf119 : ∀ f, f < 2 → φ.contains (119, f) = false) : nw_Run E 2 yX7_init cX7_init 1 [vR 115] s φ 102 ((115, 0) :: (119, 1) :: (119, 0) :: φ) 105 3 10 := by
  refine n_intro (own := RX7) rfl rfl rfl (by decide) rfl (fun b G => ?_)
  refine n_aload_n (j := 0) G dX7_init_0 rfl rfl ?_
  refine n_obj G wd_214 wd_87 wd_88 (by decide) (by decide) dX7_init_1 ?_
  refine n_aload_n (j := 0) G dX7_init_4 rfl rfl ?_
  refine n_new (k := 119) (ci := 3) (C := RX3) (T := TX3) (N := 2) G tyX3 tyX3_ok rfl rfl uw_3 wd_215 wi_216 wd_70 (by decide +kernel) sh_119 (hz 119 (by decide)) hf119 (fun f hf => by rcases (show f = 0 ∨ f = 1 by omega) with rfl | rfl <;> rfl) (by omega) (by decide) dX7_init_5 ?_
  refine n_dup G dX7_init_8 rfl ?_
  refine n_callIN (k := 119) (As := []) (rest := [vR 119, vR 115]) (d' := 1) (maxL := 1) (mc' := 2) (ms' := 8) (na := 0) (n' := 105) G wd_217 wd_218 wd_219 wd_70 (by decide +kernel) rfl (by decide) (mk_3_119 hz ) (by decide) rfl rfl (by decide) (by omega) rfl dX7_init_9 ?_
  refine n_putF (ci := 7) (f := 0) (C := RX7) (T := TX7) (N := 5) (ty0 := tyX7) (ty := .object "StormHarbours$Plans") G rfl rfl uw_7 tyX7_ok nmX7 (by decide) wd_234 rfl rfl (by decide +kernel) (fun _ => rfl) (fun _ => rfl) sh_115 pt_115_0 (by decide) (by decide) dX7_init_12 ?_
  exact n_vret G dX7_init_15 rfl rfl
set_option maxRecDepth 100000 in
theorem mk_2_122 {E : En} {s : Mem} {φ : Wf} (hz : ∀ k, 17 ≤ k → ∀ f, s k f = 0)  : nw_Run E 1 yX2_init cX2_init 2 [vR 122, vR 21] s φ 106 ((122, 0) :: (122, 7) :: nw_rows 126 4 ((122, 6) :: (122, 5) :: (122, 4) :: φ)) 114 8 48 := by
  refine n_intro (own := RX2) rfl rfl rfl (by decide) rfl (fun b G => ?_)
  refine n_aload_n (j := 0) G dX2_init_0 rfl rfl ?_
  refine n_obj G wd_267 wd_87 wd_88 (by decide) (by decide) dX2_init_1 ?_
  refine n_aload_n (j := 0) G dX2_init_4 rfl rfl ?_
  refine n_iconst G dX2_init_5 (by decide) ?_
  refine n_newa (at' := .int) (ty := .int) (k := 123) (len := 4) G rfl wac_int (by decide +kernel) (by decide +kernel) (by decide +kernel) (Or.inr ⟨by decide +kernel, Or.inl rfl⟩) (hz 123 (by decide)) rfl (by decide) (by omega) (by decide) dX2_init_6 ?_
  refine n_putF (ci := 2) (f := 4) (C := RX2) (T := TX2) (N := 8) (ty0 := tyX2) (ty := .array .int) G rfl rfl uw_2 tyX2_ok nmX2 (by decide) wd_273 rfl rfl (by decide +kernel) (fun _ => rfl) (fun _ => rfl) sh_122 pt_122_4 (by decide) (by decide) dX2_init_8 ?_
  refine n_aload_n (j := 0) G dX2_init_11 rfl rfl ?_
  refine n_iconst G dX2_init_12 (by decide) ?_
  refine n_newa (at' := .int) (ty := .int) (k := 124) (len := 4) G rfl wac_int (by decide +kernel) (by decide +kernel) (by decide +kernel) (Or.inr ⟨by decide +kernel, Or.inl rfl⟩) (hz 124 (by decide)) rfl (by decide) (by omega) (by decide) dX2_init_13 ?_
  refine n_putF (ci := 2) (f := 5) (C := RX2) (T := TX2) (N := 8) (ty0 := tyX2) (ty := .array .int) G rfl rfl uw_2 tyX2_ok nmX2 (by decide) wd_274 rfl rfl (by decide +kernel) (fun _ => rfl) (fun _ => rfl) sh_122 pt_122_5 (by decide) (by decide) dX2_init_15 ?_
  refine n_aload_n (j := 0) G dX2_init_18 rfl rfl ?_
  refine n_iconst G dX2_init_19 (by decide) ?_
  refine n_newa (at' := .int) (ty := .int) (k := 125) (len := 4) G rfl wac_int (by decide +kernel) (by decide +kernel) (by decide +kernel) (Or.inr ⟨by decide +kernel, Or.inl rfl⟩) (hz 125 (by decide)) rfl (by decide) (by omega) (by decide) dX2_init_20 ?_
  refine n_putF (ci := 2) (f := 6) (C := RX2) (T := TX2) (N := 8) (ty0 := tyX2) (ty := .array .int) G rfl rfl uw_2 tyX2_ok nmX2 (by decide) wd_275 rfl rfl (by decide +kernel) (fun _ => rfl) (fun _ => rfl) sh_122 pt_122_6 (by decide) (by decide) dX2_init_22 ?_
  refine n_aload_n (j := 0) G dX2_init_25 rfl rfl ?_
  refine n_iconst G dX2_init_26 (by decide) ?_
  refine n_bipush G dX2_init_27 (by decide) (by decide) ?_
  refine n_multi (k := 126) (N := 4) (M := 8) (r := 127) (ty := .int) G (Or.inl rfl) wcl_RX2_21 wao_int wac_int (by decide +kernel) (by decide +kernel) (by decide +kernel) (by decide +kernel) (fun j hj => hz (127 + j) (by omega)) rfl rfl (by decide) (by decide) (by omega) (by decide) dX2_init_29 ?_
  refine n_putF (ci := 2) (f := 7) (C := RX2) (T := TX2) (N := 8) (ty0 := tyX2) (ty := .array (.array .int)) G rfl rfl uw_2 tyX2_ok nmX2 (by decide) wd_277 rfl rfl (by decide +kernel) (fun _ => rfl) (fun _ => rfl) sh_122 pt_122_7 (by decide) (by decide) dX2_init_33 ?_
  refine n_aload_n (j := 0) G dX2_init_36 rfl rfl ?_
  refine n_aload_n (j := 1) G dX2_init_37 rfl rfl ?_
  refine n_putF (ci := 2) (f := 0) (C := RX2) (T := TX2) (N := 8) (ty0 := tyX2) (ty := .object "StormHarbours$Sea") G rfl rfl uw_2 tyX2_ok nmX2 (by decide) wd_269 rfl rfl (by decide +kernel) (fun _ => rfl) (fun _ => rfl) sh_122 pt_122_0 (by decide) (by decide) dX2_init_38 ?_
  exact n_vret G dX2_init_41 rfl rfl
set_option maxRecDepth 100000 in
theorem mk_4_131 {E : En} {s : Mem} {φ : Wf} (hz : ∀ k, 17 ≤ k → ∀ f, s k f = 0)  : nw_Run E 1 yX4_init cX4_init 3 [vR 131, vR 21, vR 109] s φ 115 ((131, 1) :: (131, 0) :: φ) 115 0 0 := by
  refine n_intro (own := RX4) rfl rfl rfl (by decide) rfl (fun b G => ?_)
  refine n_aload_n (j := 0) G dX4_init_0 rfl rfl ?_
  refine n_obj G wd_301 wd_87 wd_88 (by decide) (by decide) dX4_init_1 ?_
  refine n_aload_n (j := 0) G dX4_init_4 rfl rfl ?_
  refine n_aload_n (j := 1) G dX4_init_5 rfl rfl ?_
  refine n_putF (ci := 4) (f := 0) (C := RX4) (T := TX4) (N := 2) (ty0 := tyX4) (ty := .object "StormHarbours$Sea") G rfl rfl uw_4 tyX4_ok nmX4 (by decide) wd_302 rfl rfl (by decide +kernel) (fun _ => rfl) (fun _ => rfl) sh_131 pt_131_0 (by decide) (by decide) dX4_init_6 ?_
  refine n_aload_n (j := 0) G dX4_init_9 rfl rfl ?_
  refine n_aload_n (j := 2) G dX4_init_10 rfl rfl ?_
  refine n_putF (ci := 4) (f := 1) (C := RX4) (T := TX4) (N := 2) (ty0 := tyX4) (ty := .object "StormHarbours$Watch") G rfl rfl uw_4 tyX4_ok nmX4 (by decide) wd_303 rfl rfl (by decide +kernel) (fun _ => rfl) (fun _ => rfl) sh_131 pt_131_1 (by decide) (by decide) dX4_init_11 ?_
  exact n_vret G dX4_init_14 rfl rfl
set_option maxRecDepth 100000 in
theorem mk_1_132 {E : En} {s : Mem} {φ : Wf} (hz : ∀ k, 17 ≤ k → ∀ f, s k f = 0)  : nw_Run E 1 yX1_init cX1_init 2 [vR 132, vR 21] s φ 116 ((132, 0) :: φ) 116 0 0 := by
  refine n_intro (own := RX1) rfl rfl rfl (by decide) rfl (fun b G => ?_)
  refine n_aload_n (j := 0) G dX1_init_0 rfl rfl ?_
  refine n_obj G wd_314 wd_87 wd_88 (by decide) (by decide) dX1_init_1 ?_
  refine n_aload_n (j := 0) G dX1_init_4 rfl rfl ?_
  refine n_aload_n (j := 1) G dX1_init_5 rfl rfl ?_
  refine n_putF (ci := 1) (f := 0) (C := RX1) (T := TX1) (N := 1) (ty0 := tyX1) (ty := .object "StormHarbours$Sea") G rfl rfl uw_1 tyX1_ok nmX1 (by decide) wd_315 rfl rfl (by decide +kernel) (fun _ => rfl) (fun _ => rfl) sh_132 pt_132_0 (by decide) (by decide) dX1_init_6 ?_
  exact n_vret G dX1_init_9 rfl rfl
set_option maxRecDepth 100000 in
theorem mk_0_133 {E : En} {s : Mem} {φ : Wf} (hz : ∀ k, 17 ≤ k → ∀ f, s k f = 0)  : nw_Run E 1 yX0_init cX0_init 4 [vR 133, vR 21, vR 109, vR 122] s φ 117 ((133, 2) :: (133, 1) :: (133, 0) :: φ) 117 0 0 := by
  refine n_intro (own := RX0) rfl rfl rfl (by decide) rfl (fun b G => ?_)
  refine n_aload_n (j := 0) G dX0_init_0 rfl rfl ?_
  refine n_obj G wd_324 wd_87 wd_88 (by decide) (by decide) dX0_init_1 ?_
  refine n_aload_n (j := 0) G dX0_init_4 rfl rfl ?_
  refine n_aload_n (j := 1) G dX0_init_5 rfl rfl ?_
  refine n_putF (ci := 0) (f := 0) (C := RX0) (T := TX0) (N := 3) (ty0 := tyX0) (ty := .object "StormHarbours$Sea") G rfl rfl uw_0 tyX0_ok nmX0 (by decide) wd_325 rfl rfl (by decide +kernel) (fun _ => rfl) (fun _ => rfl) sh_133 pt_133_0 (by decide) (by decide) dX0_init_6 ?_
  refine n_aload_n (j := 0) G dX0_init_9 rfl rfl ?_
  refine n_aload_n (j := 2) G dX0_init_10 rfl rfl ?_
  refine n_putF (ci := 0) (f := 1) (C := RX0) (T := TX0) (N := 3) (ty0 := tyX0) (ty := .object "StormHarbours$Watch") G rfl rfl uw_0 tyX0_ok nmX0 (by decide) wd_326 rfl rfl (by decide +kernel) (fun _ => rfl) (fun _ => rfl) sh_133 pt_133_1 (by decide) (by decide) dX0_init_11 ?_
  refine n_aload_n (j := 0) G dX0_init_14 rfl rfl ?_
  refine n_aload_n (j := 3) G dX0_init_15 rfl rfl ?_
  refine n_putF (ci := 0) (f := 2) (C := RX0) (T := TX0) (N := 3) (ty0 := tyX0) (ty := .object "StormHarbours$Passage") G rfl rfl uw_0 tyX0_ok nmX0 (by decide) wd_327 rfl rfl (by decide +kernel) (fun _ => rfl) (fun _ => rfl) sh_133 pt_133_2 (by decide) (by decide) dX0_init_16 ?_
  exact n_vret G dX0_init_19 rfl rfl
set_option maxRecDepth 100000 in
theorem mk_3_134 {E : En} {s : Mem} {φ : Wf} (hz : ∀ k, 17 ≤ k → ∀ f, s k f = 0)  : nw_Run E 1 yX3_init cX3_init 1 [vR 134] s φ 118 ((134, 1) :: (134, 0) :: φ) 120 2 8 := by
  refine n_intro (own := RX3) rfl rfl rfl (by decide) rfl (fun b G => ?_)
  refine n_aload_n (j := 0) G dX3_init_0 rfl rfl ?_
  refine n_obj G wd_220 wd_87 wd_88 (by decide) (by decide) dX3_init_1 ?_
  refine n_aload_n (j := 0) G dX3_init_4 rfl rfl ?_
  refine n_iconst G dX3_init_5 (by decide) ?_
  refine n_newa (at' := .int) (ty := .int) (k := 135) (len := 4) G rfl wac_int (by decide +kernel) (by decide +kernel) (by decide +kernel) (Or.inr ⟨by decide +kernel, Or.inl rfl⟩) (hz 135 (by decide)) rfl (by decide) (by omega) (by decide) dX3_init_6 ?_
  refine n_putF (ci := 3) (f := 0) (C := RX3) (T := TX3) (N := 2) (ty0 := tyX3) (ty := .array .int) G rfl rfl uw_3 tyX3_ok nmX3 (by decide) wd_221 rfl rfl (by decide +kernel) (fun _ => rfl) (fun _ => rfl) sh_134 pt_134_0 (by decide) (by decide) dX3_init_8 ?_
  refine n_aload_n (j := 0) G dX3_init_11 rfl rfl ?_
  refine n_iconst G dX3_init_12 (by decide) ?_
  refine n_newa (at' := .int) (ty := .int) (k := 136) (len := 4) G rfl wac_int (by decide +kernel) (by decide +kernel) (by decide +kernel) (Or.inr ⟨by decide +kernel, Or.inl rfl⟩) (hz 136 (by decide)) rfl (by decide) (by omega) (by decide) dX3_init_13 ?_
  refine n_putF (ci := 3) (f := 1) (C := RX3) (T := TX3) (N := 2) (ty0 := tyX3) (ty := .array .int) G rfl rfl uw_3 tyX3_ok nmX3 (by decide) wd_226 rfl rfl (by decide +kernel) (fun _ => rfl) (fun _ => rfl) sh_134 pt_134_1 (by decide) (by decide) dX3_init_15 ?_
  exact n_vret G dX3_init_18 rfl rfl
set_option maxRecDepth 100000 in
theorem mk_8 {E : En} {b : Bn} {Q : State → Prop} {s : Mem} {mc ms : Nat} (hmc : 119 ≤ mc) (hms : 3355 ≤ ms) (hz : ∀ k, 17 ≤ k → ∀ f, s k f = 0) (G : nw_G E b cX8_init 2 RX8 3 mc ms) (kk : nw_X E b Q 2 154 [(1, vI 2), (0, vR 17)] [] s ((17, 9) :: (134, 1) :: (134, 0) :: ((17, 8) :: (133, 2) :: (133, 1) :: (133, 0) :: ((17, 7) :: (132, 0) :: ((17, 6) :: (131, 1) :: (131, 0) :: ((17, 5) :: (122, 0) :: (122, 7) :: nw_rows 126 4 ((122, 6) :: (122, 5) :: (122, 4) :: ((113, 1) :: (115, 0) :: (119, 1) :: (119, 0) :: ((113, 0) :: (114, 0) :: (116, 1) :: (116, 0) :: ((17, 3) :: (17, 2) :: (109, 0) :: (110, 1) :: (110, 0) :: ((17, 1) :: (21, 14) :: nw_rows 92 16 ((21, 13) :: nw_rows 75 16 ((21, 12) :: nw_rows 58 16 ((21, 11) :: nw_rows 53 4 ((21, 10) :: nw_rows 48 4 ((21, 8) :: (21, 7) :: nw_rows 42 4 ((21, 6) :: nw_rows 37 4 ((21, 5) :: nw_rows 32 4 ((21, 4) :: nw_rows 27 4 ((21, 3) :: nw_rows 22 4 (((17, 0) :: (18, 4) :: (18, 0) :: ([] : Wf)))))))))))))))))))))) 120 119 3355) : nw_X E b Q 2 0 [(0, vR 17)] [] s ([] : Wf) 1 0 0 := by
  refine n_aload_n (j := 0) G dX8_init_0 rfl rfl ?_
  refine n_obj G wd_86 wd_87 wd_88 (by decide) (by decide) dX8_init_1 ?_
  refine n_aload_n (j := 0) G dX8_init_4 rfl rfl ?_
  refine n_new (k := 18) (ci := 6) (C := RX6) (T := TX6) (N := 9) G tyX6 tyX6_ok rfl rfl uw_6 wd_89 wi_90 wd_67 (by decide +kernel) sh_18 (hz 18 (by decide)) (by decide +kernel) (fun f hf => by rcases (show f = 0 ∨ f = 1 ∨ f = 2 ∨ f = 3 ∨ f = 4 ∨ f = 5 ∨ f = 6 ∨ f = 7 ∨ f = 8 by omega) with rfl | rfl | rfl | rfl | rfl | rfl | rfl | rfl | rfl <;> rfl) (by omega) (by decide) dX8_init_5 ?_
  refine n_dup G dX8_init_8 rfl ?_
  refine n_callIN (k := 18) (As := []) (rest := [vR 18, vR 17]) (d' := 1) (maxL := 1) (mc' := 2) (ms' := 506) (na := 0) (n' := 4) G wd_91 wd_92 wd_93 wd_67 (by decide +kernel) rfl (by decide) (mk_6_18 hz ) (by decide) rfl rfl (by decide) (by omega) rfl dX8_init_9 ?_
  refine n_putF (ci := 8) (f := 0) (C := RX8) (T := TX8) (N := 10) (ty0 := tyX8) (ty := .object "StormHarbours$Text") G rfl rfl uw_8 tyX8_ok nmX8 (by decide) wd_510 rfl rfl (by decide +kernel) (fun _ => rfl) (fun _ => rfl) sh_17 pt_17_0 (by decide) (by decide) dX8_init_12 ?_
  refine n_aload_n (j := 0) G dX8_init_15 rfl rfl ?_
  refine n_new (k := 21) (ci := 5) (C := RX5) (T := TX5) (N := 15) G tyX5 tyX5_ok rfl rfl uw_5 wd_126 wi_127 wd_68 (by decide +kernel) sh_21 (hz 21 (by decide)) (by decide +kernel) (fun f hf => by rcases (show f = 0 ∨ f = 1 ∨ f = 2 ∨ f = 3 ∨ f = 4 ∨ f = 5 ∨ f = 6 ∨ f = 7 ∨ f = 8 ∨ f = 9 ∨ f = 10 ∨ f = 11 ∨ f = 12 ∨ f = 13 ∨ f = 14 by omega) with rfl | rfl | rfl | rfl | rfl | rfl | rfl | rfl | rfl | rfl | rfl | rfl | rfl | rfl | rfl <;> rfl) (by omega) (by decide) dX8_init_16 ?_
  refine n_dup G dX8_init_19 rfl ?_
  refine n_callIN (k := 21) (As := []) (rest := [vR 21, vR 17]) (d' := 1) (maxL := 1) (mc' := 87) (ms' := 2706) (na := 0) (n' := 92) G wd_128 wd_129 wd_130 wd_68 (by decide +kernel) rfl (by decide) (mk_5_21 hz ) (by decide) rfl rfl (by decide) (by omega) rfl dX8_init_20 ?_
  refine n_putF (ci := 8) (f := 1) (C := RX8) (T := TX8) (N := 10) (ty0 := tyX8) (ty := .object "StormHarbours$Sea") G rfl rfl uw_8 tyX8_ok nmX8 (by decide) wd_511 rfl rfl (by decide +kernel) (fun _ => rfl) (fun _ => rfl) sh_17 pt_17_1 (by decide) (by decide) dX8_init_23 ?_
  refine n_aload_n (j := 0) G dX8_init_26 rfl rfl ?_
  refine n_new (k := 109) (ci := 7) (C := RX7) (T := TX7) (N := 5) G tyX7 tyX7_ok rfl rfl uw_7 wd_209 wi_210 wd_69 (by decide +kernel) sh_109 (hz 109 (by decide)) (by decide +kernel) (fun f hf => by rcases (show f = 0 ∨ f = 1 ∨ f = 2 ∨ f = 3 ∨ f = 4 by omega) with rfl | rfl | rfl | rfl | rfl <;> rfl) (by omega) (by decide) dX8_init_27 ?_
  refine n_dup G dX8_init_30 rfl ?_
  refine n_callIN (k := 109) (As := []) (rest := [vR 109, vR 17]) (d' := 2) (maxL := 1) (mc' := 3) (ms' := 10) (na := 0) (n' := 96) G wd_211 wd_212 wd_213 wd_69 (by decide +kernel) rfl (by decide) (mk_7_109 hz (by decide +kernel)) (by decide) rfl rfl (by decide) (by omega) rfl dX8_init_31 ?_
  refine n_putF (ci := 8) (f := 2) (C := RX8) (T := TX8) (N := 10) (ty0 := tyX8) (ty := .object "StormHarbours$Watch") G rfl rfl uw_8 tyX8_ok nmX8 (by decide) wd_512 rfl rfl (by decide +kernel) (fun _ => rfl) (fun _ => rfl) sh_17 pt_17_2 (by decide) (by decide) dX8_init_34 ?_
  refine n_aload_n (j := 0) G dX8_init_37 rfl rfl ?_
  refine n_iconst G dX8_init_38 (by decide) ?_
  refine n_anew (k := 113) (N := 2) (r := 114) (C := RX7) G wd_209 wao_W (by decide +kernel) (by decide +kernel) (by decide +kernel) (by decide +kernel) rfl (by decide) (by omega) (by decide) dX8_init_39 ?_
  refine n_putF (ci := 8) (f := 3) (C := RX8) (T := TX8) (N := 10) (ty0 := tyX8) (ty := .array (.object "StormHarbours$Watch")) G rfl rfl uw_8 tyX8_ok nmX8 (by decide) wd_513 rfl rfl (by decide +kernel) (fun _ => rfl) (fun _ => rfl) sh_17 pt_17_3 (by decide) (by decide) dX8_init_42 ?_
  refine n_iconst G dX8_init_45 (by decide) ?_
  refine n_istore_n G dX8_init_46 rfl (by decide) rfl ?_
  refine n_iload_n (j := 0) G dX8_init_47 rfl rfl ?_
  refine n_iconst G dX8_init_48 (by decide) ?_
  refine n_icmp_ge (tgt := 71) G dX8_init_49 (by decide) (fun h => absurd h (by decide)) (fun _ => ?_)
  refine n_aload_n (j := 1) G dX8_init_52 rfl rfl ?_
  refine n_get (ci := 8) (f := 3) (C := RX8) (T := TX8) (N := 10) G rfl rfl uw_8 (by decide) wd_513 sh_17 pt_17_3 (by decide +kernel) (by decide) dX8_init_53 ?_
  refine n_iload_n (j := 0) G dX8_init_56 rfl rfl ?_
  refine n_new (k := 114) (ci := 7) (C := RX7) (T := TX7) (N := 5) G tyX7 tyX7_ok rfl rfl uw_7 wd_209 wi_210 wd_69 (by decide +kernel) sh_114 (hz 114 (by decide)) (by decide +kernel) (fun f hf => by rcases (show f = 0 ∨ f = 1 ∨ f = 2 ∨ f = 3 ∨ f = 4 by omega) with rfl | rfl | rfl | rfl | rfl <;> rfl) (by omega) (by decide) dX8_init_57 ?_
  refine n_dup G dX8_init_60 rfl ?_
  refine n_callIN (k := 114) (As := []) (rest := [vR 114, vI 0, vR 113]) (d' := 2) (maxL := 1) (mc' := 3) (ms' := 10) (na := 0) (n' := 101) G wd_211 wd_212 wd_213 wd_69 (by decide +kernel) rfl (by decide) (mk_7_114 hz (by decide +kernel)) (by decide) rfl rfl (by decide) (by omega) rfl dX8_init_61 ?_
  refine n_aast (k := 113) (N := 2) (r := 114) (j := 0) (t := 114) (ci := 7) (N' := 5) (C := RX7) (T := TX7) G (by decide +kernel) (by decide +kernel) rfl (by decide) rfl (by decide) rfl sh_114 (by decide) (by decide) (by decide) (by decide) dX8_init_64 ?_
  refine n_iinc (j := 0) (ls' := [(1, vI 1), (0, vR 17)]) G dX8_init_65 rfl (by decide) rfl ?_
  refine n_goto (tgt := 47) G dX8_init_68 (by decide) ?_
  refine n_iload_n (j := 0) G dX8_init_47 rfl rfl ?_
  refine n_iconst G dX8_init_48 (by decide) ?_
  refine n_icmp_ge (tgt := 71) G dX8_init_49 (by decide) (fun h => absurd h (by decide)) (fun _ => ?_)
  refine n_aload_n (j := 1) G dX8_init_52 rfl rfl ?_
  refine n_get (ci := 8) (f := 3) (C := RX8) (T := TX8) (N := 10) G rfl rfl uw_8 (by decide) wd_513 sh_17 pt_17_3 (by decide +kernel) (by decide) dX8_init_53 ?_
  refine n_iload_n (j := 0) G dX8_init_56 rfl rfl ?_
  refine n_new (k := 115) (ci := 7) (C := RX7) (T := TX7) (N := 5) G tyX7 tyX7_ok rfl rfl uw_7 wd_209 wi_210 wd_69 (by decide +kernel) sh_115 (hz 115 (by decide)) (by decide +kernel) (fun f hf => by rcases (show f = 0 ∨ f = 1 ∨ f = 2 ∨ f = 3 ∨ f = 4 by omega) with rfl | rfl | rfl | rfl | rfl <;> rfl) (by omega) (by decide) dX8_init_57 ?_
  refine n_dup G dX8_init_60 rfl ?_
  refine n_callIN (k := 115) (As := []) (rest := [vR 115, vI 1, vR 113]) (d' := 2) (maxL := 1) (mc' := 3) (ms' := 10) (na := 0) (n' := 105) G wd_211 wd_212 wd_213 wd_69 (by decide +kernel) rfl (by decide) (mk_7_115 hz (by decide +kernel)) (by decide) rfl rfl (by decide) (by omega) rfl dX8_init_61 ?_
  refine n_aast (k := 113) (N := 2) (r := 114) (j := 1) (t := 115) (ci := 7) (N' := 5) (C := RX7) (T := TX7) G (by decide +kernel) (by decide +kernel) rfl (by decide) rfl (by decide) rfl sh_115 (by decide) (by decide) (by decide) (by decide) dX8_init_64 ?_
  refine n_iinc (j := 0) (ls' := [(1, vI 2), (0, vR 17)]) G dX8_init_65 rfl (by decide) rfl ?_
  refine n_goto (tgt := 47) G dX8_init_68 (by decide) ?_
  refine n_iload_n (j := 0) G dX8_init_47 rfl rfl ?_
  refine n_iconst G dX8_init_48 (by decide) ?_
  refine n_icmp_ge (tgt := 71) G dX8_init_49 (by decide) (fun _ => ?_) (fun h => absurd (by decide) h)
  refine n_aload_n (j := 1) G dX8_init_71 rfl rfl ?_
  refine n_new (k := 122) (ci := 2) (C := RX2) (T := TX2) (N := 8) G tyX2 tyX2_ok rfl rfl uw_2 wd_262 wi_263 wd_71 (by decide +kernel) sh_122 (hz 122 (by decide)) (by decide +kernel) (fun f hf => by rcases (show f = 0 ∨ f = 1 ∨ f = 2 ∨ f = 3 ∨ f = 4 ∨ f = 5 ∨ f = 6 ∨ f = 7 by omega) with rfl | rfl | rfl | rfl | rfl | rfl | rfl | rfl <;> rfl) (by omega) (by decide) dX8_init_72 ?_
  refine n_dup G dX8_init_75 rfl ?_
  refine n_aload_n (j := 1) G dX8_init_76 rfl rfl ?_
  refine n_get (ci := 8) (f := 1) (C := RX8) (T := TX8) (N := 10) G rfl rfl uw_8 (by decide) wd_511 sh_17 pt_17_1 (by decide +kernel) (by decide) dX8_init_77 ?_
  refine n_callI (k := 122) (As := [vR 21]) (rest := [vR 122, vR 17]) (d' := 1) (maxL := 2) (mc' := 8) (ms' := 48) (na := 1) (n' := 114) G wd_264 wd_265 wd_266 wd_71 (by decide +kernel) rfl (by decide) (mk_2_122 hz ) (by decide) rfl rfl (by decide) (by omega) rfl dX8_init_80 ?_
  refine n_putF (ci := 8) (f := 5) (C := RX8) (T := TX8) (N := 10) (ty0 := tyX8) (ty := .object "StormHarbours$Passage") G rfl rfl uw_8 tyX8_ok nmX8 (by decide) wd_515 rfl rfl (by decide +kernel) (fun _ => rfl) (fun _ => rfl) sh_17 pt_17_5 (by decide) (by decide) dX8_init_83 ?_
  refine n_aload_n (j := 1) G dX8_init_86 rfl rfl ?_
  refine n_new (k := 131) (ci := 4) (C := RX4) (T := TX4) (N := 2) G tyX4 tyX4_ok rfl rfl uw_4 wd_296 wi_297 wd_72 (by decide +kernel) sh_131 (hz 131 (by decide)) (by decide +kernel) (fun f hf => by rcases (show f = 0 ∨ f = 1 by omega) with rfl | rfl <;> rfl) (by omega) (by decide) dX8_init_87 ?_
  refine n_dup G dX8_init_90 rfl ?_
  refine n_aload_n (j := 1) G dX8_init_91 rfl rfl ?_
  refine n_get (ci := 8) (f := 1) (C := RX8) (T := TX8) (N := 10) G rfl rfl uw_8 (by decide) wd_511 sh_17 pt_17_1 (by decide +kernel) (by decide) dX8_init_92 ?_
  refine n_aload_n (j := 1) G dX8_init_95 rfl rfl ?_
  refine n_get (ci := 8) (f := 2) (C := RX8) (T := TX8) (N := 10) G rfl rfl uw_8 (by decide) wd_512 sh_17 pt_17_2 (by decide +kernel) (by decide) dX8_init_96 ?_
  refine n_callI (k := 131) (As := [vR 21, vR 109]) (rest := [vR 131, vR 17]) (d' := 1) (maxL := 3) (mc' := 0) (ms' := 0) (na := 2) (n' := 115) G wd_298 wd_299 wd_300 wd_72 (by decide +kernel) rfl (by decide) (mk_4_131 hz ) (by decide) rfl rfl (by decide) (by omega) rfl dX8_init_99 ?_
  refine n_putF (ci := 8) (f := 6) (C := RX8) (T := TX8) (N := 10) (ty0 := tyX8) (ty := .object "StormHarbours$Rules") G rfl rfl uw_8 tyX8_ok nmX8 (by decide) wd_516 rfl rfl (by decide +kernel) (fun _ => rfl) (fun _ => rfl) sh_17 pt_17_6 (by decide) (by decide) dX8_init_102 ?_
  refine n_aload_n (j := 1) G dX8_init_105 rfl rfl ?_
  refine n_new (k := 132) (ci := 1) (C := RX1) (T := TX1) (N := 1) G tyX1 tyX1_ok rfl rfl uw_1 wd_309 wi_310 wd_73 (by decide +kernel) sh_132 (hz 132 (by decide)) (by decide +kernel) (fun f hf => by rcases (show f = 0 by omega) with rfl <;> rfl) (by omega) (by decide) dX8_init_106 ?_
  refine n_dup G dX8_init_109 rfl ?_
  refine n_aload_n (j := 1) G dX8_init_110 rfl rfl ?_
  refine n_get (ci := 8) (f := 1) (C := RX8) (T := TX8) (N := 10) G rfl rfl uw_8 (by decide) wd_511 sh_17 pt_17_1 (by decide +kernel) (by decide) dX8_init_111 ?_
  refine n_callI (k := 132) (As := [vR 21]) (rest := [vR 132, vR 17]) (d' := 1) (maxL := 2) (mc' := 0) (ms' := 0) (na := 1) (n' := 116) G wd_311 wd_312 wd_313 wd_73 (by decide +kernel) rfl (by decide) (mk_1_132 hz ) (by decide) rfl rfl (by decide) (by omega) rfl dX8_init_114 ?_
  refine n_putF (ci := 8) (f := 7) (C := RX8) (T := TX8) (N := 10) (ty0 := tyX8) (ty := .object "StormHarbours$Lone") G rfl rfl uw_8 tyX8_ok nmX8 (by decide) wd_517 rfl rfl (by decide +kernel) (fun _ => rfl) (fun _ => rfl) sh_17 pt_17_7 (by decide) (by decide) dX8_init_117 ?_
  refine n_aload_n (j := 1) G dX8_init_120 rfl rfl ?_
  refine n_new (k := 133) (ci := 0) (C := RX0) (T := TX0) (N := 3) G tyX0 tyX0_ok rfl rfl uw_0 wd_319 wi_320 wd_74 (by decide +kernel) sh_133 (hz 133 (by decide)) (by decide +kernel) (fun f hf => by rcases (show f = 0 ∨ f = 1 ∨ f = 2 by omega) with rfl | rfl | rfl <;> rfl) (by omega) (by decide) dX8_init_121 ?_
  refine n_dup G dX8_init_124 rfl ?_
  refine n_aload_n (j := 1) G dX8_init_125 rfl rfl ?_
  refine n_get (ci := 8) (f := 1) (C := RX8) (T := TX8) (N := 10) G rfl rfl uw_8 (by decide) wd_511 sh_17 pt_17_1 (by decide +kernel) (by decide) dX8_init_126 ?_
  refine n_aload_n (j := 1) G dX8_init_129 rfl rfl ?_
  refine n_get (ci := 8) (f := 2) (C := RX8) (T := TX8) (N := 10) G rfl rfl uw_8 (by decide) wd_512 sh_17 pt_17_2 (by decide +kernel) (by decide) dX8_init_130 ?_
  refine n_aload_n (j := 1) G dX8_init_133 rfl rfl ?_
  refine n_get (ci := 8) (f := 5) (C := RX8) (T := TX8) (N := 10) G rfl rfl uw_8 (by decide) wd_515 sh_17 pt_17_5 (by decide +kernel) (by decide) dX8_init_134 ?_
  refine n_callI (k := 133) (As := [vR 21, vR 109, vR 122]) (rest := [vR 133, vR 17]) (d' := 1) (maxL := 4) (mc' := 0) (ms' := 0) (na := 3) (n' := 117) G wd_321 wd_322 wd_323 wd_74 (by decide +kernel) rfl (by decide) (mk_0_133 hz ) (by decide) rfl rfl (by decide) (by omega) rfl dX8_init_137 ?_
  refine n_putF (ci := 8) (f := 8) (C := RX8) (T := TX8) (N := 10) (ty0 := tyX8) (ty := .object "StormHarbours$Council") G rfl rfl uw_8 tyX8_ok nmX8 (by decide) wd_518 rfl rfl (by decide +kernel) (fun _ => rfl) (fun _ => rfl) sh_17 pt_17_8 (by decide) (by decide) dX8_init_140 ?_
  refine n_aload_n (j := 1) G dX8_init_143 rfl rfl ?_
  refine n_new (k := 134) (ci := 3) (C := RX3) (T := TX3) (N := 2) G tyX3 tyX3_ok rfl rfl uw_3 wd_335 wi_216 wd_70 (by decide +kernel) sh_134 (hz 134 (by decide)) (by decide +kernel) (fun f hf => by rcases (show f = 0 ∨ f = 1 by omega) with rfl | rfl <;> rfl) (by omega) (by decide) dX8_init_144 ?_
  refine n_dup G dX8_init_147 rfl ?_
  refine n_callIN (k := 134) (As := []) (rest := [vR 134, vR 17]) (d' := 1) (maxL := 1) (mc' := 2) (ms' := 8) (na := 0) (n' := 120) G wd_336 wd_218 wd_219 wd_70 (by decide +kernel) rfl (by decide) (mk_3_134 hz ) (by decide) rfl rfl (by decide) (by omega) rfl dX8_init_148 ?_
  refine n_putF (ci := 8) (f := 9) (C := RX8) (T := TX8) (N := 10) (ty0 := tyX8) (ty := .object "StormHarbours$Plans") G rfl rfl uw_8 tyX8_ok nmX8 (by decide) wd_519 rfl rfl (by decide +kernel) (fun _ => rfl) (fun _ => rfl) sh_17 pt_17_9 (by decide) (by decide) dX8_init_151 ?_
  exact kk

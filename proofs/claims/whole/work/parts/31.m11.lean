def fX9_alone (a1 : Int) (s : Mem) : Option (Int × Mem) :=
  lt' (mu s 0 0 0) fun s1 =>
  b2 (fX9_isSort a1 s1) fun r2 s3 =>
  if r2 = 0 then
    some ((-9223372036854775808), s3)
  else
    (fX9_laysAlone a1 s3).bind fun s6 =>
    (rdI s6 1 185).bind fun x7 =>
    b2 (fX9_seeing 0 (w32 ((shlI 1 x7) - 1)) s6) fun r8 s9 =>
    some (r8, s9)
set_option maxHeartbeats 4000000 in
theorem rX9_alone {E : En} {xf : Int} {sf : Mem} {a1 : Int} {s : Mem}  (H : fX9_alone a1 s = some (xf, sf)) : ab_Run E 5 yX9_alone cX9_alone 2 (some .long) [vR 0, vI a1] (some (vL xf)) s sf := by
  unfold fX9_alone at H
  refine ab_intro (own := RX9) (by decide +kernel) rfl (Nat.le_of_ble_eq_true rfl) rfl (fun b G => ?_)
  refine x_aload_n (j := 0) G dX9_alone_0 rfl rfl ?_
  refine x_iconst G dX9_alone_1 (by decide) ?_
  refine pf_877 G sh_0 pt_0_0 dX9_alone_2 H (fun s1 hs1 H => ?_)
  refine x_aload_n (j := 0) G dX9_alone_5 rfl rfl ?_
  refine x_iload_n (j := 1) G dX9_alone_6 rfl rfl ?_
  obtain ⟨r2, s3, c3, H⟩ := b2_some H
  refine cv_1030 (As := [vI a1]) (rest := []) G (rX9_isSort  c3) sh_0 (by omega) rfl rfl (Nat.le_of_ble_eq_true rfl) dX9_alone_7 ?_
  refine x_if_ne (tgt := 17) G dX9_alone_10 (by decide) (fun q4 => ?_) (fun q4 => ?_)
  · have H := if_some_f H q4
    refine x_aload_n (j := 0) G dX9_alone_17 rfl rfl ?_
    refine x_iload_n (j := 1) G dX9_alone_18 rfl rfl ?_
    obtain ⟨s6, c6, H⟩ := bd_some H
    refine cv_1164 (As := [vI a1]) (rest := []) G (rX9_laysAlone  c6) sh_0 (by omega) rfl rfl (Nat.le_of_ble_eq_true rfl) dX9_alone_19 ?_
    refine x_aload_n (j := 0) G dX9_alone_22 rfl rfl ?_
    refine x_iconst G dX9_alone_23 (by decide) ?_
    refine x_iconst G dX9_alone_24 (by decide) ?_
    refine x_aload_n (j := 0) G dX9_alone_25 rfl rfl ?_
    refine gf_878 G sh_0 pt_0_1 dX9_alone_26 ?_
    refine x_sipush G dX9_alone_29 (by decide) (by decide) ?_
    refine x_iald G dX9_alone_32 H (fun x7 hx7 H => ?_)
    refine x_ishl G dX9_alone_33 ?_
    refine x_iconst G dX9_alone_34 (by decide) ?_
    refine x_isub G dX9_alone_35 ?_
    obtain ⟨r8, s9, c9, H⟩ := b2_some H
    refine cv_1180 (As := [vI 0, vI (w32 ((shlI 1 x7) - 1))]) (rest := []) G (rX9_seeing  c9) sh_0 (by omega) rfl rfl (Nat.le_of_ble_eq_true rfl) dX9_alone_36 ?_
    cases H
    exact x_lret G dX9_alone_39
  · have H := if_some_t H q4
    refine x_ldc2 (x := (-9223372036854775808)) G wd_1062 dX9_alone_13 (by decide) (by decide) ?_
    cases H
    exact x_lret G dX9_alone_16
def fX9_does_64  : Nat → Int → Int → Int → Int → Int → Mem → Option (Int × Mem)
  | 0, _, _, _, _, _, _ => none
  | n + 1, p2, p3, p4, p6, p7, s =>
  (rdI s 1 183).bind fun x1 =>
  if x1 ≤ p7 then
    some (p6, s)
  else
    b2 (fX9_running p2 p3 p7 s) fun r3 s4 =>
    if r3 ≤ p4 then
      lt' (w32 (p7 + 1)) fun v6 =>
      fX9_does_64 n p2 p3 p4 p6 v6 s4
    else
      b2 (fX9_running p2 p3 p7 s4) fun r7 s8 =>
      lt' (w32 (1 + p7)) fun v9 =>
      lt' (w32 (p7 + 1)) fun v10 =>
      fX9_does_64 n p2 p3 r7 v9 v10 s8
set_option maxHeartbeats 4000000 in
theorem tX9_does_64 {E : En} {b : Bn} {xf : Int} {sf : Mem}  (G : ab_G E b cX9_does 8 RX9 (some .int) 5)  : ∀ (n : Nat) {p2 : Int} {p3 : Int} {p4 : Int} {p6 : Int} {p7 : Int} {s : Mem}, fX9_does_64 n p2 p3 p4 p6 p7 s = some (xf, sf) → ab_X E b (ab_MQ E b (some (vI xf)) sf) 8 64 [(0, vR 0), (2, vI p2), (3, vI p3), (4, vL p4), (6, vI p6), (7, vI p7)] [] s := by
  intro n
  induction n with
  | zero => intro p2 p3 p4 p6 p7 s H; rw [fX9_does_64] at H; cases H
  | succ n ih =>
    intro p2 p3 p4 p6 p7 s H
    rw [fX9_does_64] at H
    refine x_iload (j := 5) G dX9_does_64 rfl ?_
    refine x_aload_n (j := 0) G dX9_does_66 rfl rfl ?_
    refine gf_878 G sh_0 pt_0_1 dX9_does_67 ?_
    refine x_sipush G dX9_does_70 (by decide) (by decide) ?_
    refine x_iald G dX9_does_73 H (fun x1 hx1 H => ?_)
    refine x_icmp_ge (tgt := 113) G dX9_does_74 (by decide) (fun q2 => ?_) (fun q2 => ?_)
    · have H := if_some_t H q2
      refine x_iload (j := 4) G dX9_does_113 rfl ?_
      cases H
      exact x_iret G dX9_does_115
    · have H := if_some_f H q2
      refine x_aload_n (j := 0) G dX9_does_77 rfl rfl ?_
      refine x_iload_n (j := 1) G dX9_does_78 rfl rfl ?_
      refine x_iload_n (j := 2) G dX9_does_79 rfl rfl ?_
      refine x_iload (j := 5) G dX9_does_80 rfl ?_
      obtain ⟨r3, s4, c4, H⟩ := b2_some H
      refine cv_1176 (As := [vI p2, vI p3, vI p7]) (rest := []) G (rX9_running  c4) sh_0 (by omega) rfl rfl (Nat.le_of_ble_eq_true rfl) dX9_does_82 ?_
      refine x_lload (j := 3) G dX9_does_85 rfl ?_
      refine x_lcmp_le (tgt := 107) G dX9_does_87 rfl dX9_does_88 (by decide) (fun q5 => ?_) (fun q5 => ?_)
      · have H := if_some_t H q5
        refine x_iincL (j := 5) G dX9_does_107 rfl (by decide) H (fun v6 hv6 H => x_ls (ls' := [(7, vI v6), (0, vR 0), (2, vI p2), (3, vI p3), (4, vL p4), (6, vI p6)]) rfl ?_)
        refine x_goto (tgt := 64) G dX9_does_110 (by decide) ?_
        exact x_subp (ls' := [(0, vR 0), (2, vI p2), (3, vI p3), (4, vL p4), (6, vI p6), (7, vI v6)]) [1, 2, 3, 4, 5, 0] rfl (ih H)
      · have H := if_some_f H q5
        refine x_aload_n (j := 0) G dX9_does_91 rfl rfl ?_
        refine x_iload_n (j := 1) G dX9_does_92 rfl rfl ?_
        refine x_iload_n (j := 2) G dX9_does_93 rfl rfl ?_
        refine x_iload (j := 5) G dX9_does_94 rfl ?_
        obtain ⟨r7, s8, c8, H⟩ := b2_some H
        refine cv_1176 (As := [vI p2, vI p3, vI p7]) (rest := []) G (rX9_running  c8) sh_0 (by omega) rfl rfl (Nat.le_of_ble_eq_true rfl) dX9_does_96 ?_
        refine x_lstore (ls' := [(4, vL r7), (0, vR 0), (2, vI p2), (3, vI p3), (6, vI p6), (7, vI p7)]) G dX9_does_99 (by decide) rfl ?_
        refine x_iconst G dX9_does_101 (by decide) ?_
        refine x_iload (j := 5) G dX9_does_102 rfl ?_
        refine x_iadd G dX9_does_104 ?_
        refine x_let H (fun v9 hv9 H => ?_)
        refine x_istore (ls' := [(6, vI v9), (4, vL r7), (0, vR 0), (2, vI p2), (3, vI p3), (7, vI p7)]) G dX9_does_105 (by decide) rfl ?_
        refine x_iincL (j := 5) G dX9_does_107 rfl (by decide) H (fun v10 hv10 H => x_ls (ls' := [(7, vI v10), (6, vI v9), (4, vL r7), (0, vR 0), (2, vI p2), (3, vI p3)]) rfl ?_)
        refine x_goto (tgt := 64) G dX9_does_110 (by decide) ?_
        exact x_subp (ls' := [(0, vR 0), (2, vI p2), (3, vI p3), (4, vL r7), (6, vI v9), (7, vI v10)]) [3, 4, 5, 2, 1, 0] rfl (ih H)
def fX9_does (a1 : Int) (a2 : Int) (a3 : Int) (s : Mem) : Option (Int × Mem) :=
  lt' (mu s 0 0 0) fun s1 =>
  b2 (fX9_isSort a1 s1) fun r2 s3 =>
  if r2 = 0 then
    some ((-1), s3)
  else
    b2 (fX9_isIn a2 0 23 s3) fun r5 s6 =>
    if r5 = 0 then
      some ((-1), s6)
    else
      (rdI s6 1 185).bind fun x8 =>
      b2 (fX9_isIn a3 1 (w32 ((shlI 1 x8) - 1)) s6) fun r9 s10 =>
      if r9 = 0 then
        some ((-1), s10)
      else
        (fX9_laysAlone a1 s10).bind fun s13 =>
        b2 (fX9_staying a2 a3 s13) fun r14 s15 =>
        fX9_does_64 600 a2 a3 r14 0 0 s15
set_option maxHeartbeats 4000000 in
theorem rX9_does {E : En} {xf : Int} {sf : Mem} {a1 : Int} {a2 : Int} {a3 : Int} {s : Mem}  (H : fX9_does a1 a2 a3 s = some (xf, sf)) : ab_Run E 5 yX9_does cX9_does 8 (some .int) [vR 0, vI a1, vI a2, vI a3] (some (vI xf)) s sf := by
  unfold fX9_does at H
  refine ab_intro (own := RX9) (by decide +kernel) rfl (Nat.le_of_ble_eq_true rfl) rfl (fun b G => ?_)
  refine x_aload_n (j := 0) G dX9_does_0 rfl rfl ?_
  refine x_iconst G dX9_does_1 (by decide) ?_
  refine pf_877 G sh_0 pt_0_0 dX9_does_2 H (fun s1 hs1 H => ?_)
  refine x_aload_n (j := 0) G dX9_does_5 rfl rfl ?_
  refine x_iload_n (j := 1) G dX9_does_6 rfl rfl ?_
  obtain ⟨r2, s3, c3, H⟩ := b2_some H
  refine cv_1030 (As := [vI a1]) (rest := []) G (rX9_isSort  c3) sh_0 (by omega) rfl rfl (Nat.le_of_ble_eq_true rfl) dX9_does_7 ?_
  refine x_if_eq (tgt := 43) G dX9_does_10 (by decide) (fun q4 => ?_) (fun q4 => ?_)
  · have H := if_some_t H q4
    refine x_iconst G dX9_does_43 (by decide) ?_
    cases H
    exact x_iret G dX9_does_44
  · have H := if_some_f H q4
    refine x_iload_n (j := 2) G dX9_does_13 rfl rfl ?_
    refine x_iconst G dX9_does_14 (by decide) ?_
    refine x_bipush G dX9_does_15 (by decide) (by decide) ?_
    obtain ⟨r5, s6, c6, H⟩ := b2_some H
    refine cs_946 (As := [vI a2, vI 0, vI 23]) (rest := []) G (rX9_isIn  c6) (by omega) rfl rfl (Nat.le_of_ble_eq_true rfl) dX9_does_17 ?_
    refine x_if_eq (tgt := 43) G dX9_does_20 (by decide) (fun q7 => ?_) (fun q7 => ?_)
    · have H := if_some_t H q7
      refine x_iconst G dX9_does_43 (by decide) ?_
      cases H
      exact x_iret G dX9_does_44
    · have H := if_some_f H q7
      refine x_iload_n (j := 3) G dX9_does_23 rfl rfl ?_
      refine x_iconst G dX9_does_24 (by decide) ?_
      refine x_iconst G dX9_does_25 (by decide) ?_
      refine x_aload_n (j := 0) G dX9_does_26 rfl rfl ?_
      refine gf_878 G sh_0 pt_0_1 dX9_does_27 ?_
      refine x_sipush G dX9_does_30 (by decide) (by decide) ?_
      refine x_iald G dX9_does_33 H (fun x8 hx8 H => ?_)
      refine x_ishl G dX9_does_34 ?_
      refine x_iconst G dX9_does_35 (by decide) ?_
      refine x_isub G dX9_does_36 ?_
      obtain ⟨r9, s10, c10, H⟩ := b2_some H
      refine cs_946 (As := [vI a3, vI 1, vI (w32 ((shlI 1 x8) - 1))]) (rest := []) G (rX9_isIn  c10) (by omega) rfl rfl (Nat.le_of_ble_eq_true rfl) dX9_does_37 ?_
      refine x_if_ne (tgt := 45) G dX9_does_40 (by decide) (fun q11 => ?_) (fun q11 => ?_)
      · have H := if_some_f H q11
        refine x_aload_n (j := 0) G dX9_does_45 rfl rfl ?_
        refine x_iload_n (j := 1) G dX9_does_46 rfl rfl ?_
        obtain ⟨s13, c13, H⟩ := bd_some H
        refine cv_1164 (As := [vI a1]) (rest := []) G (rX9_laysAlone  c13) sh_0 (by omega) rfl rfl (Nat.le_of_ble_eq_true rfl) dX9_does_47 ?_
        refine x_aload_n (j := 0) G dX9_does_50 rfl rfl ?_
        refine x_iload_n (j := 2) G dX9_does_51 rfl rfl ?_
        refine x_iload_n (j := 3) G dX9_does_52 rfl rfl ?_
        obtain ⟨r14, s15, c15, H⟩ := b2_some H
        refine cv_1172 (As := [vI a2, vI a3]) (rest := []) G (rX9_staying  c15) sh_0 (by omega) rfl rfl (Nat.le_of_ble_eq_true rfl) dX9_does_53 ?_
        refine x_lstore (ls' := [(4, vL r14), (0, vR 0), (1, vI a1), (2, vI a2), (3, vI a3)]) G dX9_does_56 (by decide) rfl ?_
        refine x_iconst G dX9_does_58 (by decide) ?_
        refine x_istore (ls' := [(6, vI 0), (4, vL r14), (0, vR 0), (1, vI a1), (2, vI a2), (3, vI a3)]) G dX9_does_59 (by decide) rfl ?_
        refine x_iconst G dX9_does_61 (by decide) ?_
        refine x_istore (ls' := [(7, vI 0), (6, vI 0), (4, vL r14), (0, vR 0), (1, vI a1), (2, vI a2), (3, vI a3)]) G dX9_does_62 (by decide) rfl ?_
        exact x_subp (ls' := [(0, vR 0), (2, vI a2), (3, vI a3), (4, vL r14), (6, vI 0), (7, vI 0)]) [3, 5, 6, 2, 1, 0] rfl (tX9_does_64 G 600 H)
      · have H := if_some_t H q11
        refine x_iconst G dX9_does_43 (by decide) ?_
        cases H
        exact x_iret G dX9_does_44
def fX9_betters_54 (k44 : Int → Int → Int → Int → Int → Int → Int → Mem → Option (Int × Mem)) : Nat → Int → Int → Int → Int → Int → Int → Int → Int → Mem → Option (Int × Mem)
  | 0, _, _, _, _, _, _, _, _, _ => none
  | n + 1, p1, p3, p4, p6, p7, p8, p9, p10, s =>
  (rdI s 1 183).bind fun x1 =>
  if x1 ≤ p10 then
    lt' (w32 (p9 + 1)) fun v3 =>
    k44 p1 p3 p4 p6 p7 p8 v3 s
  else
    (wrI s 5 p1 p9).bind fun s4 =>
    (wrI s4 6 p1 p10).bind fun s5 =>
    b2 (fX9_meanOf 0 p3 s5) fun r6 s7 =>
    if r6 ≤ p4 then
      lt' (w32 (p10 + 1)) fun v9 =>
      fX9_betters_54 k44 n p1 p3 p4 p6 p7 p8 p9 v9 s7
    else
      lt' (w32 (p10 + 1)) fun v10 =>
      fX9_betters_54 k44 n p1 p3 r6 p9 p10 1 p9 v10 s7
set_option maxHeartbeats 4000000 in
theorem tX9_betters_54 {E : En} {b : Bn} {xf : Int} {sf : Mem} {k44 : Int → Int → Int → Int → Int → Int → Int → Mem → Option (Int × Mem)} (G : ab_G E b cX9_betters 13 RX9 (some .boolean) 5) (K44 : ∀ {p1 : Int} {p3 : Int} {p4 : Int} {p6 : Int} {p7 : Int} {p8 : Int} {p9 : Int} {s : Mem},  k44 p1 p3 p4 p6 p7 p8 p9 s = some (xf, sf) → ab_X E b (ab_MQ E b (some (vI xf)) sf) 13 44 [(0, vR 0), (1, vI p1), (3, vI p3), (4, vL p4), (6, vI p6), (7, vI p7), (8, vI p8), (9, vI p9)] [] s) : ∀ (n : Nat) {p1 : Int} {p3 : Int} {p4 : Int} {p6 : Int} {p7 : Int} {p8 : Int} {p9 : Int} {p10 : Int} {s : Mem}, fX9_betters_54 k44 n p1 p3 p4 p6 p7 p8 p9 p10 s = some (xf, sf) → ab_X E b (ab_MQ E b (some (vI xf)) sf) 13 54 [(0, vR 0), (1, vI p1), (3, vI p3), (4, vL p4), (6, vI p6), (7, vI p7), (8, vI p8), (9, vI p9), (10, vI p10)] [] s := by
  intro n
  induction n with
  | zero => intro p1 p3 p4 p6 p7 p8 p9 p10 s H; rw [fX9_betters_54] at H; cases H
  | succ n ih =>
    intro p1 p3 p4 p6 p7 p8 p9 p10 s H
    rw [fX9_betters_54] at H
    refine x_iload (j := 8) G dX9_betters_54 rfl ?_
    refine x_aload_n (j := 0) G dX9_betters_56 rfl rfl ?_
    refine gf_878 G sh_0 pt_0_1 dX9_betters_57 ?_
    refine x_sipush G dX9_betters_60 (by decide) (by decide) ?_
    refine x_iald G dX9_betters_63 H (fun x1 hx1 H => ?_)
    refine x_icmp_ge (tgt := 120) G dX9_betters_64 (by decide) (fun q2 => ?_) (fun q2 => ?_)
    · have H := if_some_t H q2
      refine x_iincL (j := 7) G dX9_betters_120 rfl (by decide) H (fun v3 hv3 H => x_ls (ls' := [(9, vI v3), (0, vR 0), (1, vI p1), (3, vI p3), (4, vL p4), (6, vI p6), (7, vI p7), (8, vI p8), (10, vI p10)]) rfl ?_)
      refine x_goto (tgt := 44) G dX9_betters_123 (by decide) ?_
      exact x_subp (ls' := [(0, vR 0), (1, vI p1), (3, vI p3), (4, vL p4), (6, vI p6), (7, vI p7), (8, vI p8), (9, vI v3)]) [1, 2, 3, 4, 5, 6, 7, 0] rfl (K44 H)
    · have H := if_some_f H q2
      refine x_aload_n (j := 0) G dX9_betters_67 rfl rfl ?_
      refine gf_886 G sh_0 pt_0_9 dX9_betters_68 ?_
      refine x_iload_n (j := 1) G dX9_betters_71 rfl rfl ?_
      refine x_iload (j := 7) G dX9_betters_72 rfl ?_
      refine x_iast G dX9_betters_74 H (fun s4 hs4 H => ?_)
      refine x_aload_n (j := 0) G dX9_betters_75 rfl rfl ?_
      refine gf_887 G sh_0 pt_0_10 dX9_betters_76 ?_
      refine x_iload_n (j := 1) G dX9_betters_79 rfl rfl ?_
      refine x_iload (j := 8) G dX9_betters_80 rfl ?_
      refine x_iast G dX9_betters_82 H (fun s5 hs5 H => ?_)
      refine x_aload_n (j := 0) G dX9_betters_83 rfl rfl ?_
      refine x_iconst G dX9_betters_84 (by decide) ?_
      refine x_iload_n (j := 2) G dX9_betters_85 rfl rfl ?_
      obtain ⟨r6, s7, c7, H⟩ := b2_some H
      refine cv_1105 (As := [vI 0, vI p3]) (rest := []) G (rX9_meanOf  c7) sh_0 (by omega) rfl rfl (Nat.le_of_ble_eq_true rfl) dX9_betters_86 ?_
      refine x_lstore (ls' := [(11, vL r6), (0, vR 0), (1, vI p1), (3, vI p3), (4, vL p4), (6, vI p6), (7, vI p7), (8, vI p8), (9, vI p9), (10, vI p10)]) G dX9_betters_89 (by decide) rfl ?_
      refine x_lload (j := 0) G dX9_betters_91 rfl ?_
      refine x_lload (j := 4) G dX9_betters_93 rfl ?_
      refine x_lcmp_le (tgt := 114) G dX9_betters_95 rfl dX9_betters_96 (by decide) (fun q8 => ?_) (fun q8 => ?_)
      · have H := if_some_t H q8
        refine x_iincL (j := 9) G dX9_betters_114 rfl (by decide) H (fun v9 hv9 H => x_ls (ls' := [(10, vI v9), (11, vL r6), (0, vR 0), (1, vI p1), (3, vI p3), (4, vL p4), (6, vI p6), (7, vI p7), (8, vI p8), (9, vI p9)]) rfl ?_)
        refine x_goto (tgt := 54) G dX9_betters_117 (by decide) ?_
        exact x_subp (ls' := [(0, vR 0), (1, vI p1), (3, vI p3), (4, vL p4), (6, vI p6), (7, vI p7), (8, vI p8), (9, vI p9), (10, vI v9)]) [2, 3, 4, 5, 6, 7, 8, 9, 0] rfl (ih H)
      · have H := if_some_f H q8
        refine x_lload (j := 0) G dX9_betters_99 rfl ?_
        refine x_lstore (ls' := [(4, vL r6), (11, vL r6), (0, vR 0), (1, vI p1), (3, vI p3), (6, vI p6), (7, vI p7), (8, vI p8), (9, vI p9), (10, vI p10)]) G dX9_betters_101 (by decide) rfl ?_
        refine x_iload (j := 8) G dX9_betters_103 rfl ?_
        refine x_istore (ls' := [(6, vI p9), (4, vL r6), (11, vL r6), (0, vR 0), (1, vI p1), (3, vI p3), (7, vI p7), (8, vI p8), (9, vI p9), (10, vI p10)]) G dX9_betters_105 (by decide) rfl ?_
        refine x_iload (j := 9) G dX9_betters_107 rfl ?_
        refine x_istore (ls' := [(7, vI p10), (6, vI p9), (4, vL r6), (11, vL r6), (0, vR 0), (1, vI p1), (3, vI p3), (8, vI p8), (9, vI p9), (10, vI p10)]) G dX9_betters_109 (by decide) rfl ?_
        refine x_iconst G dX9_betters_111 (by decide) ?_
        refine x_istore (ls' := [(8, vI 1), (7, vI p10), (6, vI p9), (4, vL r6), (11, vL r6), (0, vR 0), (1, vI p1), (3, vI p3), (9, vI p9), (10, vI p10)]) G dX9_betters_112 (by decide) rfl ?_
        refine x_iincL (j := 9) G dX9_betters_114 rfl (by decide) H (fun v10 hv10 H => x_ls (ls' := [(10, vI v10), (8, vI 1), (7, vI p10), (6, vI p9), (4, vL r6), (11, vL r6), (0, vR 0), (1, vI p1), (3, vI p3), (9, vI p9)]) rfl ?_)
        refine x_goto (tgt := 54) G dX9_betters_117 (by decide) ?_
        exact x_subp (ls' := [(0, vR 0), (1, vI p1), (3, vI p3), (4, vL r6), (6, vI p9), (7, vI p10), (8, vI 1), (9, vI p9), (10, vI v10)]) [6, 7, 8, 4, 3, 2, 1, 9, 0] rfl (ih H)
def fX9_betters_44  : Nat → Int → Int → Int → Int → Int → Int → Int → Mem → Option (Int × Mem)
  | 0, _, _, _, _, _, _, _, _ => none
  | n + 1, p1, p3, p4, p6, p7, p8, p9, s =>
  if 25 ≤ p9 then
    (wrI s 2 (w32 (0 + (w32 (2 * p1)))) p6).bind fun s2 =>
    (wrI s2 2 (w32 ((w32 (0 + (w32 (2 * p1)))) + 1)) p7).bind fun s3 =>
    ck (p8 = 0 ∨ p8 = 1) <| some (p8, s3)
  else
    fX9_betters_54 (fun p1 p3 p4 p6 p7 p8 p9 s => fX9_betters_44 n p1 p3 p4 p6 p7 p8 p9 s) 600 p1 p3 p4 p6 p7 p8 p9 0 s
set_option maxHeartbeats 4000000 in
theorem tX9_betters_44 {E : En} {b : Bn} {xf : Int} {sf : Mem}  (G : ab_G E b cX9_betters 13 RX9 (some .boolean) 5)  : ∀ (n : Nat) {p1 : Int} {p3 : Int} {p4 : Int} {p6 : Int} {p7 : Int} {p8 : Int} {p9 : Int} {s : Mem}, fX9_betters_44 n p1 p3 p4 p6 p7 p8 p9 s = some (xf, sf) → ab_X E b (ab_MQ E b (some (vI xf)) sf) 13 44 [(0, vR 0), (1, vI p1), (3, vI p3), (4, vL p4), (6, vI p6), (7, vI p7), (8, vI p8), (9, vI p9)] [] s := by
  intro n
  induction n with
  | zero => intro p1 p3 p4 p6 p7 p8 p9 s H; rw [fX9_betters_44] at H; cases H
  | succ n ih =>
    intro p1 p3 p4 p6 p7 p8 p9 s H
    rw [fX9_betters_44] at H
    refine x_iload (j := 7) G dX9_betters_44 rfl ?_
    refine x_bipush G dX9_betters_46 (by decide) (by decide) ?_
    refine x_icmp_ge (tgt := 126) G dX9_betters_48 (by decide) (fun q1 => ?_) (fun q1 => ?_)
    · have H := if_some_t H q1
      refine x_aload_n (j := 0) G dX9_betters_126 rfl rfl ?_
      refine gf_879 G sh_0 pt_0_2 dX9_betters_127 ?_
      refine x_iconst G dX9_betters_130 (by decide) ?_
      refine x_iconst G dX9_betters_131 (by decide) ?_
      refine x_iload_n (j := 1) G dX9_betters_132 rfl rfl ?_
      refine x_imul G dX9_betters_133 ?_
      refine x_iadd G dX9_betters_134 ?_
      refine x_iload (j := 4) G dX9_betters_135 rfl ?_
      refine x_iast G dX9_betters_137 H (fun s2 hs2 H => ?_)
      refine x_aload_n (j := 0) G dX9_betters_138 rfl rfl ?_
      refine gf_879 G sh_0 pt_0_2 dX9_betters_139 ?_
      refine x_iconst G dX9_betters_142 (by decide) ?_
      refine x_iconst G dX9_betters_143 (by decide) ?_
      refine x_iload_n (j := 1) G dX9_betters_144 rfl rfl ?_
      refine x_imul G dX9_betters_145 ?_
      refine x_iadd G dX9_betters_146 ?_
      refine x_iconst G dX9_betters_147 (by decide) ?_
      refine x_iadd G dX9_betters_148 ?_
      refine x_iload (j := 5) G dX9_betters_149 rfl ?_
      refine x_iast G dX9_betters_151 H (fun s3 hs3 H => ?_)
      refine x_iload (j := 6) G dX9_betters_152 rfl ?_
      obtain ⟨h01, H⟩ := ck_some H
      cases H
      exact x_zret G h01 dX9_betters_154
    · have H := if_some_f H q1
      refine x_iconst G dX9_betters_51 (by decide) ?_
      refine x_istore (ls' := [(10, vI 0), (0, vR 0), (1, vI p1), (3, vI p3), (4, vL p4), (6, vI p6), (7, vI p7), (8, vI p8), (9, vI p9)]) G dX9_betters_52 (by decide) rfl ?_
      exact x_subp (ls' := [(0, vR 0), (1, vI p1), (3, vI p3), (4, vL p4), (6, vI p6), (7, vI p7), (8, vI p8), (9, vI p9), (10, vI 0)]) [1, 2, 3, 4, 5, 6, 7, 8, 0] rfl (tX9_betters_54 G ih 600 H)
def fX9_betters_9  (p1 : Int) (t0 : Int) (s : Mem) : Option (Int × Mem) :=
  (fX9_asPlanned  s).bind fun s2 =>
  b2 (fX9_meanOf 0 t0 s2) fun r3 s4 =>
  (rdI s4 5 p1).bind fun x5 =>
  (rdI s4 6 p1).bind fun x6 =>
  fX9_betters_44 600 p1 t0 r3 x5 x6 0 0 s4
set_option maxHeartbeats 4000000 in
theorem tX9_betters_9 {E : En} {b : Bn} {xf : Int} {sf : Mem}  {p1 : Int} {t0 : Int} {s : Mem} (G : ab_G E b cX9_betters 13 RX9 (some .boolean) 5)   (H : fX9_betters_9 p1 t0 s = some (xf, sf)) : ab_X E b (ab_MQ E b (some (vI xf)) sf) 13 9 [(0, vR 0), (1, vI p1)] [vI t0] s := by
  unfold fX9_betters_9 at H
  refine x_istore_n (ls' := [(3, vI t0), (0, vR 0), (1, vI p1)]) G dX9_betters_9 rfl (by decide) rfl ?_
  refine x_aload_n (j := 1) G dX9_betters_10 rfl rfl ?_
  obtain ⟨s2, c2, H⟩ := bd_some H
  refine cv_1063 (As := []) (rest := []) G (rX9_asPlanned  c2) sh_0 (by omega) rfl rfl (Nat.le_of_ble_eq_true rfl) dX9_betters_11 ?_
  refine x_aload_n (j := 1) G dX9_betters_14 rfl rfl ?_
  refine x_iconst G dX9_betters_15 (by decide) ?_
  refine x_iload_n (j := 0) G dX9_betters_16 rfl rfl ?_
  obtain ⟨r3, s4, c4, H⟩ := b2_some H
  refine cv_1105 (As := [vI 0, vI t0]) (rest := []) G (rX9_meanOf  c4) sh_0 (by omega) rfl rfl (Nat.le_of_ble_eq_true rfl) dX9_betters_17 ?_
  refine x_lstore (ls' := [(4, vL r3), (3, vI t0), (0, vR 0), (1, vI p1)]) G dX9_betters_20 (by decide) rfl ?_
  refine x_aload_n (j := 2) G dX9_betters_22 rfl rfl ?_
  refine gf_886 G sh_0 pt_0_9 dX9_betters_23 ?_
  refine x_iload_n (j := 3) G dX9_betters_26 rfl rfl ?_
  refine x_iald G dX9_betters_27 H (fun x5 hx5 H => ?_)
  refine x_istore (ls' := [(6, vI x5), (4, vL r3), (3, vI t0), (0, vR 0), (1, vI p1)]) G dX9_betters_28 (by decide) rfl ?_
  refine x_aload_n (j := 3) G dX9_betters_30 rfl rfl ?_
  refine gf_887 G sh_0 pt_0_10 dX9_betters_31 ?_
  refine x_iload_n (j := 4) G dX9_betters_34 rfl rfl ?_
  refine x_iald G dX9_betters_35 H (fun x6 hx6 H => ?_)
  refine x_istore (ls' := [(7, vI x6), (6, vI x5), (4, vL r3), (3, vI t0), (0, vR 0), (1, vI p1)]) G dX9_betters_36 (by decide) rfl ?_
  refine x_iconst G dX9_betters_38 (by decide) ?_
  refine x_istore (ls' := [(8, vI 0), (7, vI x6), (6, vI x5), (4, vL r3), (3, vI t0), (0, vR 0), (1, vI p1)]) G dX9_betters_39 (by decide) rfl ?_
  refine x_iconst G dX9_betters_41 (by decide) ?_
  refine x_istore (ls' := [(9, vI 0), (8, vI 0), (7, vI x6), (6, vI x5), (4, vL r3), (3, vI t0), (0, vR 0), (1, vI p1)]) G dX9_betters_42 (by decide) rfl ?_
  exact x_subp (ls' := [(0, vR 0), (1, vI p1), (3, vI t0), (4, vL r3), (6, vI x5), (7, vI x6), (8, vI 0), (9, vI 0)]) [6, 7, 5, 4, 3, 2, 1, 0] rfl (tX9_betters_44 G 600 H)
def fX9_betters (a1 : Int) (a2 : Int) (s : Mem) : Option (Int × Mem) :=
  if a2 = 0 then
    fX9_betters_9 a1 ((-1)) s
  else
    fX9_betters_9 a1 a1 s
set_option maxHeartbeats 4000000 in
theorem rX9_betters {E : En} {xf : Int} {sf : Mem} {a1 : Int} {a2 : Int} {s : Mem}  (H : fX9_betters a1 a2 s = some (xf, sf)) : ab_Run E 5 yX9_betters cX9_betters 13 (some .boolean) [vR 0, vI a1, vI a2] (some (vI xf)) s sf := by
  unfold fX9_betters at H
  refine ab_intro (own := RX9) (by decide +kernel) rfl (Nat.le_of_ble_eq_true rfl) rfl (fun b G => ?_)
  refine x_iload_n (j := 2) G dX9_betters_0 rfl rfl ?_
  refine x_if_eq (tgt := 8) G dX9_betters_1 (by decide) (fun q1 => ?_) (fun q1 => ?_)
  · have H := if_some_t H q1
    refine x_iconst G dX9_betters_8 (by decide) ?_
    exact x_subp (ls' := [(0, vR 0), (1, vI a1)]) [0, 1] rfl (tX9_betters_9 G  H)
  · have H := if_some_f H q1
    refine x_iload_n (j := 1) G dX9_betters_4 rfl rfl ?_
    refine x_goto (tgt := 9) G dX9_betters_5 (by decide) ?_
    exact x_subp (ls' := [(0, vR 0), (1, vI a1)]) [0, 1] rfl (tX9_betters_9 G  H)
def fX9_better_18 (k7 : Int → Int → Mem → Option (Int × Mem)) : Nat → Int → Int → Int → Int → Mem → Option (Int × Mem)
  | 0, _, _, _, _, _ => none
  | n + 1, p1, p2, p3, p4, s =>
  (rdI s 1 184).bind fun x1 =>
  if x1 ≤ p4 then
    if p3 = 0 then
      some (p2, s)
    else
      lt' (w32 (p2 + 1)) fun v4 =>
      k7 p1 v4 s
  else
    b2 (fX9_betters p4 p1 s) fun r5 s6 =>
    lt' (orI p3 r5) fun v7 =>
    lt' (w32 (p4 + 1)) fun v8 =>
    fX9_better_18 k7 n p1 p2 v7 v8 s6
set_option maxHeartbeats 4000000 in
theorem tX9_better_18 {E : En} {b : Bn} {xf : Int} {sf : Mem} {k7 : Int → Int → Mem → Option (Int × Mem)} (G : ab_G E b cX9_better 5 RX9 (some .int) 6) (K7 : ∀ {p1 : Int} {p2 : Int} {s : Mem},  k7 p1 p2 s = some (xf, sf) → ab_X E b (ab_MQ E b (some (vI xf)) sf) 5 7 [(0, vR 0), (1, vI p1), (2, vI p2)] [] s) : ∀ (n : Nat) {p1 : Int} {p2 : Int} {p3 : Int} {p4 : Int} {s : Mem}, fX9_better_18 k7 n p1 p2 p3 p4 s = some (xf, sf) → ab_X E b (ab_MQ E b (some (vI xf)) sf) 5 18 [(0, vR 0), (1, vI p1), (2, vI p2), (3, vI p3), (4, vI p4)] [] s := by
  intro n
  induction n with
  | zero => intro p1 p2 p3 p4 s H; rw [fX9_better_18] at H; cases H
  | succ n ih =>
    intro p1 p2 p3 p4 s H
    rw [fX9_better_18] at H
    refine x_iload (j := 4) G dX9_better_18 rfl ?_
    refine x_aload_n (j := 0) G dX9_better_20 rfl rfl ?_
    refine gf_878 G sh_0 pt_0_1 dX9_better_21 ?_
    refine x_sipush G dX9_better_24 (by decide) (by decide) ?_
    refine x_iald G dX9_better_27 H (fun x1 hx1 H => ?_)
    refine x_icmp_ge (tgt := 47) G dX9_better_28 (by decide) (fun q2 => ?_) (fun q2 => ?_)
    · have H := if_some_t H q2
      refine x_iload_n (j := 3) G dX9_better_47 rfl rfl ?_
      refine x_if_ne (tgt := 53) G dX9_better_48 (by decide) (fun q3 => ?_) (fun q3 => ?_)
      · have H := if_some_f H q3
        refine x_iincL (j := 2) G dX9_better_53 rfl (by decide) H (fun v4 hv4 H => x_ls (ls' := [(2, vI v4), (0, vR 0), (1, vI p1), (3, vI p3), (4, vI p4)]) rfl ?_)
        refine x_goto (tgt := 7) G dX9_better_56 (by decide) ?_
        exact x_subp (ls' := [(0, vR 0), (1, vI p1), (2, vI v4)]) [1, 2, 0] rfl (K7 H)
      · have H := if_some_t H q3
        refine x_iload_n (j := 2) G dX9_better_51 rfl rfl ?_
        cases H
        exact x_iret G dX9_better_52
    · have H := if_some_f H q2
      refine x_iload_n (j := 3) G dX9_better_31 rfl rfl ?_
      refine x_aload_n (j := 0) G dX9_better_32 rfl rfl ?_
      refine x_iload (j := 4) G dX9_better_33 rfl ?_
      refine x_iload_n (j := 1) G dX9_better_35 rfl rfl ?_
      obtain ⟨r5, s6, c6, H⟩ := b2_some H
      refine cv_1192 (As := [vI p4, vI p1]) (rest := [vI p3]) G (rX9_betters  c6) sh_0 (by omega) rfl rfl (Nat.le_of_ble_eq_true rfl) dX9_better_36 ?_
      refine x_ior G dX9_better_39 ?_
      refine x_let H (fun v7 hv7 H => ?_)
      refine x_istore_n (ls' := [(3, vI v7), (0, vR 0), (1, vI p1), (2, vI p2), (4, vI p4)]) G dX9_better_40 rfl (by decide) rfl ?_
      refine x_iincL (j := 4) G dX9_better_41 rfl (by decide) H (fun v8 hv8 H => x_ls (ls' := [(4, vI v8), (3, vI v7), (0, vR 0), (1, vI p1), (2, vI p2)]) rfl ?_)
      refine x_goto (tgt := 18) G dX9_better_44 (by decide) ?_
      exact x_subp (ls' := [(0, vR 0), (1, vI p1), (2, vI p2), (3, vI v7), (4, vI v8)]) [2, 3, 4, 1, 0] rfl (ih H)
def fX9_better_7  : Nat → Int → Int → Mem → Option (Int × Mem)
  | 0, _, _, _ => none
  | n + 1, p1, p2, s =>
  if 7 ≤ p2 then
    some ((-4), s)
  else
    fX9_better_18 (fun p1 p2 s => fX9_better_7 n p1 p2 s) 600 p1 p2 0 0 s
set_option maxHeartbeats 4000000 in
theorem tX9_better_7 {E : En} {b : Bn} {xf : Int} {sf : Mem}  (G : ab_G E b cX9_better 5 RX9 (some .int) 6)  : ∀ (n : Nat) {p1 : Int} {p2 : Int} {s : Mem}, fX9_better_7 n p1 p2 s = some (xf, sf) → ab_X E b (ab_MQ E b (some (vI xf)) sf) 5 7 [(0, vR 0), (1, vI p1), (2, vI p2)] [] s := by
  intro n
  induction n with
  | zero => intro p1 p2 s H; rw [fX9_better_7] at H; cases H
  | succ n ih =>
    intro p1 p2 s H
    rw [fX9_better_7] at H
    refine x_iload_n (j := 2) G dX9_better_7 rfl rfl ?_
    refine x_bipush G dX9_better_8 (by decide) (by decide) ?_
    refine x_icmp_ge (tgt := 59) G dX9_better_10 (by decide) (fun q1 => ?_) (fun q1 => ?_)
    · have H := if_some_t H q1
      refine x_bipush G dX9_better_59 (by decide) (by decide) ?_
      cases H
      exact x_iret G dX9_better_61
    · have H := if_some_f H q1
      refine x_iconst G dX9_better_13 (by decide) ?_
      refine x_istore_n (ls' := [(3, vI 0), (0, vR 0), (1, vI p1), (2, vI p2)]) G dX9_better_14 rfl (by decide) rfl ?_
      refine x_iconst G dX9_better_15 (by decide) ?_
      refine x_istore (ls' := [(4, vI 0), (3, vI 0), (0, vR 0), (1, vI p1), (2, vI p2)]) G dX9_better_16 (by decide) rfl ?_
      exact x_subp (ls' := [(0, vR 0), (1, vI p1), (2, vI p2), (3, vI 0), (4, vI 0)]) [2, 3, 4, 1, 0] rfl (tX9_better_18 G ih 600 H)
def fX9_better (a1 : Int) (s : Mem) : Option (Int × Mem) :=
  lt' (mu s 0 0 0) fun s1 =>
  fX9_better_7 600 a1 1 s1
set_option maxHeartbeats 4000000 in
theorem rX9_better {E : En} {xf : Int} {sf : Mem} {a1 : Int} {s : Mem}  (H : fX9_better a1 s = some (xf, sf)) : ab_Run E 6 yX9_better cX9_better 5 (some .int) [vR 0, vI a1] (some (vI xf)) s sf := by
  unfold fX9_better at H
  refine ab_intro (own := RX9) (by decide +kernel) rfl (Nat.le_of_ble_eq_true rfl) rfl (fun b G => ?_)
  refine x_aload_n (j := 0) G dX9_better_0 rfl rfl ?_
  refine x_iconst G dX9_better_1 (by decide) ?_
  refine pf_877 G sh_0 pt_0_0 dX9_better_2 H (fun s1 hs1 H => ?_)
  refine x_iconst G dX9_better_5 (by decide) ?_
  refine x_istore_n (ls' := [(2, vI 1), (0, vR 0), (1, vI a1)]) G dX9_better_6 rfl (by decide) rfl ?_
  exact x_subp (ls' := [(0, vR 0), (1, vI a1), (2, vI 1)]) [1, 2, 0] rfl (tX9_better_7 G 600 H)
def fX9_gunAt_6  : Nat → Int → Int → Mem → Option (Int × Mem)
  | 0, _, _, _ => none
  | n + 1, p1, p2, s =>
  (rdI s 1 184).bind fun x1 =>
  if x1 ≤ p2 then
    b2 (fX9_meanOf 0 ((-1)) s) fun r3 s4 =>
    some (r3, s4)
  else
    (wrI s 5 p2 p1).bind fun s5 =>
    b2 (fX9_nearest p2 s5) fun r6 s7 =>
    (wrI s7 6 p2 r6).bind fun s8 =>
    lt' (w32 (p2 + 1)) fun v9 =>
    fX9_gunAt_6 n p1 v9 s8
set_option maxHeartbeats 4000000 in
theorem tX9_gunAt_6 {E : En} {b : Bn} {xf : Int} {sf : Mem}  (G : ab_G E b cX9_gunAt 3 RX9 (some .long) 5)  : ∀ (n : Nat) {p1 : Int} {p2 : Int} {s : Mem}, fX9_gunAt_6 n p1 p2 s = some (xf, sf) → ab_X E b (ab_MQ E b (some (vL xf)) sf) 3 6 [(0, vR 0), (1, vI p1), (2, vI p2)] [] s := by
  intro n
  induction n with
  | zero => intro p1 p2 s H; rw [fX9_gunAt_6] at H; cases H
  | succ n ih =>
    intro p1 p2 s H
    rw [fX9_gunAt_6] at H
    refine x_iload_n (j := 2) G dX9_gunAt_6 rfl rfl ?_
    refine x_aload_n (j := 0) G dX9_gunAt_7 rfl rfl ?_
    refine gf_878 G sh_0 pt_0_1 dX9_gunAt_8 ?_
    refine x_sipush G dX9_gunAt_11 (by decide) (by decide) ?_
    refine x_iald G dX9_gunAt_14 H (fun x1 hx1 H => ?_)
    refine x_icmp_ge (tgt := 42) G dX9_gunAt_15 (by decide) (fun q2 => ?_) (fun q2 => ?_)
    · have H := if_some_t H q2
      refine x_aload_n (j := 0) G dX9_gunAt_42 rfl rfl ?_
      refine x_iconst G dX9_gunAt_43 (by decide) ?_
      refine x_iconst G dX9_gunAt_44 (by decide) ?_
      obtain ⟨r3, s4, c4, H⟩ := b2_some H
      refine cv_1105 (As := [vI 0, vI ((-1))]) (rest := []) G (rX9_meanOf  c4) sh_0 (by omega) rfl rfl (Nat.le_of_ble_eq_true rfl) dX9_gunAt_45 ?_
      cases H
      exact x_lret G dX9_gunAt_48
    · have H := if_some_f H q2
      refine x_aload_n (j := 0) G dX9_gunAt_18 rfl rfl ?_
      refine gf_886 G sh_0 pt_0_9 dX9_gunAt_19 ?_
      refine x_iload_n (j := 2) G dX9_gunAt_22 rfl rfl ?_
      refine x_iload_n (j := 1) G dX9_gunAt_23 rfl rfl ?_
      refine x_iast G dX9_gunAt_24 H (fun s5 hs5 H => ?_)
      refine x_aload_n (j := 0) G dX9_gunAt_25 rfl rfl ?_
      refine gf_887 G sh_0 pt_0_10 dX9_gunAt_26 ?_
      refine x_iload_n (j := 2) G dX9_gunAt_29 rfl rfl ?_
      refine x_aload_n (j := 0) G dX9_gunAt_30 rfl rfl ?_
      refine x_iload_n (j := 2) G dX9_gunAt_31 rfl rfl ?_
      obtain ⟨r6, s7, c7, H⟩ := b2_some H
      refine cv_1152 (As := [vI p2]) (rest := [vI p2, vR 6]) G (rX9_nearest  c7) sh_0 (by omega) rfl rfl (Nat.le_of_ble_eq_true rfl) dX9_gunAt_32 ?_
      refine x_iast G dX9_gunAt_35 H (fun s8 hs8 H => ?_)
      refine x_iincL (j := 2) G dX9_gunAt_36 rfl (by decide) H (fun v9 hv9 H => x_ls (ls' := [(2, vI v9), (0, vR 0), (1, vI p1)]) rfl ?_)
      refine x_goto (tgt := 6) G dX9_gunAt_39 (by decide) ?_
      exact x_subp (ls' := [(0, vR 0), (1, vI p1), (2, vI v9)]) [1, 2, 0] rfl (ih H)
def fX9_gunAt (a1 : Int) (s : Mem) : Option (Int × Mem) :=
  (fX9_asPlanned  s).bind fun s2 =>
  fX9_gunAt_6 600 a1 0 s2
set_option maxHeartbeats 4000000 in
theorem rX9_gunAt {E : En} {xf : Int} {sf : Mem} {a1 : Int} {s : Mem}  (H : fX9_gunAt a1 s = some (xf, sf)) : ab_Run E 5 yX9_gunAt cX9_gunAt 3 (some .long) [vR 0, vI a1] (some (vL xf)) s sf := by
  unfold fX9_gunAt at H
  refine ab_intro (own := RX9) (by decide +kernel) rfl (Nat.le_of_ble_eq_true rfl) rfl (fun b G => ?_)
  refine x_aload_n (j := 0) G dX9_gunAt_0 rfl rfl ?_
  obtain ⟨s2, c2, H⟩ := bd_some H
  refine cv_1063 (As := []) (rest := []) G (rX9_asPlanned  c2) sh_0 (by omega) rfl rfl (Nat.le_of_ble_eq_true rfl) dX9_gunAt_1 ?_
  refine x_iconst G dX9_gunAt_4 (by decide) ?_
  refine x_istore_n (ls' := [(2, vI 0), (0, vR 0), (1, vI a1)]) G dX9_gunAt_5 rfl (by decide) rfl ?_
  exact x_subp (ls' := [(0, vR 0), (1, vI a1), (2, vI 0)]) [1, 2, 0] rfl (tX9_gunAt_6 G 600 H)
def fX9_gun (a1 : Int) (s : Mem) : Option (Int × Mem) :=
  lt' (mu s 0 0 0) fun s1 =>
  b2 (fX9_isIn a1 0 24 s1) fun r2 s3 =>
  if r2 = 0 then
    some ((-9223372036854775808), s3)
  else
    b2 (fX9_gunAt a1 s3) fun r5 s6 =>
    some (r5, s6)
set_option maxHeartbeats 4000000 in
theorem rX9_gun {E : En} {xf : Int} {sf : Mem} {a1 : Int} {s : Mem}  (H : fX9_gun a1 s = some (xf, sf)) : ab_Run E 6 yX9_gun cX9_gun 2 (some .long) [vR 0, vI a1] (some (vL xf)) s sf := by
  unfold fX9_gun at H
  refine ab_intro (own := RX9) (by decide +kernel) rfl (Nat.le_of_ble_eq_true rfl) rfl (fun b G => ?_)
  refine x_aload_n (j := 0) G dX9_gun_0 rfl rfl ?_
  refine x_iconst G dX9_gun_1 (by decide) ?_
  refine pf_877 G sh_0 pt_0_0 dX9_gun_2 H (fun s1 hs1 H => ?_)
  refine x_iload_n (j := 1) G dX9_gun_5 rfl rfl ?_
  refine x_iconst G dX9_gun_6 (by decide) ?_
  refine x_bipush G dX9_gun_7 (by decide) (by decide) ?_
  obtain ⟨r2, s3, c3, H⟩ := b2_some H
  refine cs_946 (As := [vI a1, vI 0, vI 24]) (rest := []) G (rX9_isIn  c3) (by omega) rfl rfl (Nat.le_of_ble_eq_true rfl) dX9_gun_9 ?_
  refine x_if_eq (tgt := 23) G dX9_gun_12 (by decide) (fun q4 => ?_) (fun q4 => ?_)
  · have H := if_some_t H q4
    refine x_ldc2 (x := (-9223372036854775808)) G wd_1062 dX9_gun_23 (by decide) (by decide) ?_
    cases H
    exact x_lret G dX9_gun_26
  · have H := if_some_f H q4
    refine x_aload_n (j := 0) G dX9_gun_15 rfl rfl ?_
    refine x_iload_n (j := 1) G dX9_gun_16 rfl rfl ?_
    obtain ⟨r5, s6, c6, H⟩ := b2_some H
    refine cv_1200 (As := [vI a1]) (rest := []) G (rX9_gunAt  c6) sh_0 (by omega) rfl rfl (Nat.le_of_ble_eq_true rfl) dX9_gun_17 ?_
    refine x_goto (tgt := 26) G dX9_gun_20 (by decide) ?_
    cases H
    exact x_lret G dX9_gun_26
def fX9_bestGun_58 (k16 : Int → Int → Int → Mem → Option (Int × Mem)) (p1 : Int) (p4 : Int) (t0 : Int) (s : Mem) : Option (Int × Mem) :=
  lt' (w32 (p4 + 1)) fun v1 =>
  k16 p1 t0 v1 s
set_option maxHeartbeats 4000000 in
theorem tX9_bestGun_58 {E : En} {b : Bn} {xf : Int} {sf : Mem} {k16 : Int → Int → Int → Mem → Option (Int × Mem)} {p1 : Int} {p4 : Int} {t0 : Int} {s : Mem} (G : ab_G E b cX9_bestGun 7 RX9 (some .int) 6)  (K16 : ∀ {p1 : Int} {p2 : Int} {p4 : Int} {s : Mem},  k16 p1 p2 p4 s = some (xf, sf) → ab_X E b (ab_MQ E b (some (vI xf)) sf) 7 16 [(0, vR 0), (1, vI p1), (2, vL p2), (4, vI p4)] [] s) (H : fX9_bestGun_58 k16 p1 p4 t0 s = some (xf, sf)) : ab_X E b (ab_MQ E b (some (vI xf)) sf) 7 58 [(0, vR 0), (1, vI p1), (4, vI p4)] [vL t0] s := by
  unfold fX9_bestGun_58 at H
  refine x_lstore_n (ls' := [(2, vL t0), (0, vR 0), (1, vI p1), (4, vI p4)]) G dX9_bestGun_58 rfl (by decide) rfl ?_
  refine x_iincL (j := 3) G dX9_bestGun_59 rfl (by decide) H (fun v1 hv1 H => x_ls (ls' := [(4, vI v1), (2, vL t0), (0, vR 0), (1, vI p1)]) rfl ?_)
  refine x_goto (tgt := 16) G dX9_bestGun_62 (by decide) ?_
  exact x_subp (ls' := [(0, vR 0), (1, vI p1), (2, vL t0), (4, vI v1)]) [2, 3, 1, 0] rfl (K16 H)
def fX9_bestGun_44 (k16 : Int → Int → Int → Mem → Option (Int × Mem)) (p2 : Int) (p4 : Int) (p5 : Int) (t0 : Int) (s : Mem) : Option (Int × Mem) :=
  if p5 ≤ p2 then
    fX9_bestGun_58 k16 t0 p4 p2 s
  else
    fX9_bestGun_58 k16 t0 p4 p5 s
set_option maxHeartbeats 4000000 in
theorem tX9_bestGun_44 {E : En} {b : Bn} {xf : Int} {sf : Mem} {k16 : Int → Int → Int → Mem → Option (Int × Mem)} {p2 : Int} {p4 : Int} {p5 : Int} {t0 : Int} {s : Mem} (G : ab_G E b cX9_bestGun 7 RX9 (some .int) 6)  (K16 : ∀ {p1 : Int} {p2 : Int} {p4 : Int} {s : Mem},  k16 p1 p2 p4 s = some (xf, sf) → ab_X E b (ab_MQ E b (some (vI xf)) sf) 7 16 [(0, vR 0), (1, vI p1), (2, vL p2), (4, vI p4)] [] s) (H : fX9_bestGun_44 k16 p2 p4 p5 t0 s = some (xf, sf)) : ab_X E b (ab_MQ E b (some (vI xf)) sf) 7 44 [(0, vR 0), (2, vL p2), (4, vI p4), (5, vL p5)] [vI t0] s := by
  unfold fX9_bestGun_44 at H
  refine x_istore_n (ls' := [(1, vI t0), (0, vR 0), (2, vL p2), (4, vI p4), (5, vL p5)]) G dX9_bestGun_44 rfl (by decide) rfl ?_
  refine x_lload (j := 4) G dX9_bestGun_45 rfl ?_
  refine x_lload_n (j := 2) G dX9_bestGun_47 rfl rfl ?_
  refine x_lcmp_le (tgt := 57) G dX9_bestGun_48 rfl dX9_bestGun_49 (by decide) (fun q1 => ?_) (fun q1 => ?_)
  · have H := if_some_t H q1
    refine x_lload_n (j := 2) G dX9_bestGun_57 rfl rfl ?_
    exact x_subp (ls' := [(0, vR 0), (1, vI t0), (4, vI p4)]) [1, 0, 3] rfl (tX9_bestGun_58 G  K16 H)
  · have H := if_some_f H q1
    refine x_lload (j := 4) G dX9_bestGun_52 rfl ?_
    refine x_goto (tgt := 58) G dX9_bestGun_54 (by decide) ?_
    exact x_subp (ls' := [(0, vR 0), (1, vI t0), (4, vI p4)]) [1, 0, 3] rfl (tX9_bestGun_58 G  K16 H)
def fX9_bestGun_16  : Nat → Int → Int → Int → Mem → Option (Int × Mem)
  | 0, _, _, _, _ => none
  | n + 1, p1, p2, p4, s =>
  if 25 ≤ p4 then
    some (p1, s)
  else
    b2 (fX9_gunAt p4 s) fun r2 s3 =>
    if r2 ≤ p2 then
      fX9_bestGun_44 (fun p1 p2 p4 s => fX9_bestGun_16 n p1 p2 p4 s) p2 p4 r2 p1 s3
    else
      fX9_bestGun_44 (fun p1 p2 p4 s => fX9_bestGun_16 n p1 p2 p4 s) p2 p4 r2 p4 s3
set_option maxHeartbeats 4000000 in
theorem tX9_bestGun_16 {E : En} {b : Bn} {xf : Int} {sf : Mem}  (G : ab_G E b cX9_bestGun 7 RX9 (some .int) 6)  : ∀ (n : Nat) {p1 : Int} {p2 : Int} {p4 : Int} {s : Mem}, fX9_bestGun_16 n p1 p2 p4 s = some (xf, sf) → ab_X E b (ab_MQ E b (some (vI xf)) sf) 7 16 [(0, vR 0), (1, vI p1), (2, vL p2), (4, vI p4)] [] s := by
  intro n
  induction n with
  | zero => intro p1 p2 p4 s H; rw [fX9_bestGun_16] at H; cases H
  | succ n ih =>
    intro p1 p2 p4 s H
    rw [fX9_bestGun_16] at H
    refine x_iload (j := 3) G dX9_bestGun_16 rfl ?_
    refine x_bipush G dX9_bestGun_18 (by decide) (by decide) ?_
    refine x_icmp_ge (tgt := 65) G dX9_bestGun_20 (by decide) (fun q1 => ?_) (fun q1 => ?_)
    · have H := if_some_t H q1
      refine x_iload_n (j := 1) G dX9_bestGun_65 rfl rfl ?_
      cases H
      exact x_iret G dX9_bestGun_66
    · have H := if_some_f H q1
      refine x_aload_n (j := 0) G dX9_bestGun_23 rfl rfl ?_
      refine x_iload (j := 3) G dX9_bestGun_24 rfl ?_
      obtain ⟨r2, s3, c3, H⟩ := b2_some H
      refine cv_1200 (As := [vI p4]) (rest := []) G (rX9_gunAt  c3) sh_0 (by omega) rfl rfl (Nat.le_of_ble_eq_true rfl) dX9_bestGun_26 ?_
      refine x_lstore (ls' := [(5, vL r2), (0, vR 0), (1, vI p1), (2, vL p2), (4, vI p4)]) G dX9_bestGun_29 (by decide) rfl ?_
      refine x_lload (j := 0) G dX9_bestGun_31 rfl ?_
      refine x_lload_n (j := 3) G dX9_bestGun_33 rfl rfl ?_
      refine x_lcmp_le (tgt := 43) G dX9_bestGun_34 rfl dX9_bestGun_35 (by decide) (fun q4 => ?_) (fun q4 => ?_)
      · have H := if_some_t H q4
        refine x_iload_n (j := 2) G dX9_bestGun_43 rfl rfl ?_
        exact x_subp (ls' := [(0, vR 0), (2, vL p2), (4, vI p4), (5, vL r2)]) [1, 3, 4, 0] rfl (tX9_bestGun_44 G  ih H)
      · have H := if_some_f H q4
        refine x_iload (j := 4) G dX9_bestGun_38 rfl ?_
        refine x_goto (tgt := 44) G dX9_bestGun_40 (by decide) ?_
        exact x_subp (ls' := [(0, vR 0), (2, vL p2), (4, vI p4), (5, vL r2)]) [1, 3, 4, 0] rfl (tX9_bestGun_44 G  ih H)
def fX9_bestGun  (s : Mem) : Option (Int × Mem) :=
  lt' (mu s 0 0 0) fun s1 =>
  b2 (fX9_gunAt 0 s1) fun r2 s3 =>
  fX9_bestGun_16 600 0 r2 1 s3
set_option maxHeartbeats 4000000 in
theorem rX9_bestGun {E : En} {xf : Int} {sf : Mem}  {s : Mem}  (H : fX9_bestGun  s = some (xf, sf)) : ab_Run E 6 yX9_bestGun cX9_bestGun 7 (some .int) [vR 0] (some (vI xf)) s sf := by
  unfold fX9_bestGun at H
  refine ab_intro (own := RX9) (by decide +kernel) rfl (Nat.le_of_ble_eq_true rfl) rfl (fun b G => ?_)
  refine x_aload_n (j := 0) G dX9_bestGun_0 rfl rfl ?_
  refine x_iconst G dX9_bestGun_1 (by decide) ?_
  refine pf_877 G sh_0 pt_0_0 dX9_bestGun_2 H (fun s1 hs1 H => ?_)
  refine x_iconst G dX9_bestGun_5 (by decide) ?_
  refine x_istore_n (ls' := [(1, vI 0), (0, vR 0)]) G dX9_bestGun_6 rfl (by decide) rfl ?_
  refine x_aload_n (j := 1) G dX9_bestGun_7 rfl rfl ?_
  refine x_iconst G dX9_bestGun_8 (by decide) ?_
  obtain ⟨r2, s3, c3, H⟩ := b2_some H
  refine cv_1200 (As := [vI 0]) (rest := []) G (rX9_gunAt  c3) sh_0 (by omega) rfl rfl (Nat.le_of_ble_eq_true rfl) dX9_bestGun_9 ?_
  refine x_lstore_n (ls' := [(2, vL r2), (1, vI 0), (0, vR 0)]) G dX9_bestGun_12 rfl (by decide) rfl ?_
  refine x_iconst G dX9_bestGun_13 (by decide) ?_
  refine x_istore (ls' := [(4, vI 1), (2, vL r2), (1, vI 0), (0, vR 0)]) G dX9_bestGun_14 (by decide) rfl ?_
  exact x_subp (ls' := [(0, vR 0), (1, vI 0), (2, vL r2), (4, vI 1)]) [3, 2, 1, 0] rfl (tX9_bestGun_16 G 600 H)
def fX9_convoy_105 (k58 : Int → Int → Int → Int → Int → Mem → Option (Int × Mem)) (p1 : Int) (p2 : Int) (p3 : Int) (p5 : Int) (t0 : Int) (s : Mem) : Option (Int × Mem) :=
  lt' (w32 (p5 + 1)) fun v1 =>
  k58 p1 p2 p3 t0 v1 s
set_option maxHeartbeats 4000000 in
theorem tX9_convoy_105 {E : En} {b : Bn} {xf : Int} {sf : Mem} {k58 : Int → Int → Int → Int → Int → Mem → Option (Int × Mem)} {p1 : Int} {p2 : Int} {p3 : Int} {p5 : Int} {t0 : Int} {s : Mem} (G : ab_G E b cX9_convoy 7 RX9 (some .long) 5)  (K58 : ∀ {p1 : Int} {p2 : Int} {p3 : Int} {p4 : Int} {p5 : Int} {s : Mem},  k58 p1 p2 p3 p4 p5 s = some (xf, sf) → ab_X E b (ab_MQ E b (some (vL xf)) sf) 7 58 [(0, vR 0), (1, vI p1), (2, vI p2), (3, vI p3), (4, vI p4), (5, vI p5)] [] s) (H : fX9_convoy_105 k58 p1 p2 p3 p5 t0 s = some (xf, sf)) : ab_X E b (ab_MQ E b (some (vL xf)) sf) 7 105 [(0, vR 0), (1, vI p1), (2, vI p2), (3, vI p3), (5, vI p5)] [vI t0] s := by
  unfold fX9_convoy_105 at H
  refine x_istore (ls' := [(4, vI t0), (0, vR 0), (1, vI p1), (2, vI p2), (3, vI p3), (5, vI p5)]) G dX9_convoy_105 (by decide) rfl ?_
  refine x_iincL (j := 5) G dX9_convoy_107 rfl (by decide) H (fun v1 hv1 H => x_ls (ls' := [(5, vI v1), (4, vI t0), (0, vR 0), (1, vI p1), (2, vI p2), (3, vI p3)]) rfl ?_)
  refine x_goto (tgt := 58) G dX9_convoy_110 (by decide) ?_
  exact x_subp (ls' := [(0, vR 0), (1, vI p1), (2, vI p2), (3, vI p3), (4, vI t0), (5, vI v1)]) [2, 3, 4, 5, 1, 0] rfl (K58 H)
def fX9_convoy_103 (k58 : Int → Int → Int → Int → Int → Mem → Option (Int × Mem)) (p1 : Int) (p2 : Int) (p3 : Int) (p4 : Int) (p5 : Int) (s : Mem) : Option (Int × Mem) :=
  fX9_convoy_105 k58 p1 p2 p3 p5 p4 s
set_option maxHeartbeats 4000000 in
theorem tX9_convoy_103 {E : En} {b : Bn} {xf : Int} {sf : Mem} {k58 : Int → Int → Int → Int → Int → Mem → Option (Int × Mem)} {p1 : Int} {p2 : Int} {p3 : Int} {p4 : Int} {p5 : Int} {s : Mem} (G : ab_G E b cX9_convoy 7 RX9 (some .long) 5)  (K58 : ∀ {p1 : Int} {p2 : Int} {p3 : Int} {p4 : Int} {p5 : Int} {s : Mem},  k58 p1 p2 p3 p4 p5 s = some (xf, sf) → ab_X E b (ab_MQ E b (some (vL xf)) sf) 7 58 [(0, vR 0), (1, vI p1), (2, vI p2), (3, vI p3), (4, vI p4), (5, vI p5)] [] s) (H : fX9_convoy_103 k58 p1 p2 p3 p4 p5 s = some (xf, sf)) : ab_X E b (ab_MQ E b (some (vL xf)) sf) 7 103 [(0, vR 0), (1, vI p1), (2, vI p2), (3, vI p3), (4, vI p4), (5, vI p5)] [] s := by
  unfold fX9_convoy_103 at H
  refine x_iload (j := 4) G dX9_convoy_103 rfl ?_
  exact x_subp (ls' := [(0, vR 0), (1, vI p1), (2, vI p2), (3, vI p3), (5, vI p5)]) [0, 1, 2, 3, 5] rfl (tX9_convoy_105 G  K58 H)
def fX9_convoy_215 (k116 : Int → Int → Int → Int → Int → Mem → Option (Int × Mem)) (p1 : Int) (p2 : Int) (p3 : Int) (p4 : Int) (p5 : Int) (t1 : Int) (t2 : Int) (s : Mem) : Option (Int × Mem) :=
  (wrI s 7 t1 t2).bind fun s1 =>
  lt' (w32 (p5 + 1)) fun v2 =>
  k116 p1 p2 p3 p4 v2 s1
set_option maxHeartbeats 4000000 in
theorem tX9_convoy_215 {E : En} {b : Bn} {xf : Int} {sf : Mem} {k116 : Int → Int → Int → Int → Int → Mem → Option (Int × Mem)} {p1 : Int} {p2 : Int} {p3 : Int} {p4 : Int} {p5 : Int} {t1 : Int} {t2 : Int} {s : Mem} (G : ab_G E b cX9_convoy 7 RX9 (some .long) 5)  (K116 : ∀ {p1 : Int} {p2 : Int} {p3 : Int} {p4 : Int} {p5 : Int} {s : Mem},  k116 p1 p2 p3 p4 p5 s = some (xf, sf) → ab_X E b (ab_MQ E b (some (vL xf)) sf) 7 116 [(0, vR 0), (1, vI p1), (2, vI p2), (3, vI p3), (4, vI p4), (5, vI p5)] [] s) (H : fX9_convoy_215 k116 p1 p2 p3 p4 p5 t1 t2 s = some (xf, sf)) : ab_X E b (ab_MQ E b (some (vL xf)) sf) 7 215 [(0, vR 0), (1, vI p1), (2, vI p2), (3, vI p3), (4, vI p4), (5, vI p5)] [vI t2, vI t1, vR 7] s := by
  unfold fX9_convoy_215 at H
  refine x_iast G dX9_convoy_215 H (fun s1 hs1 H => ?_)
  refine x_iincL (j := 5) G dX9_convoy_216 rfl (by decide) H (fun v2 hv2 H => x_ls (ls' := [(5, vI v2), (0, vR 0), (1, vI p1), (2, vI p2), (3, vI p3), (4, vI p4)]) rfl ?_)
  refine x_goto (tgt := 116) G dX9_convoy_219 (by decide) ?_
  exact x_subp (ls' := [(0, vR 0), (1, vI p1), (2, vI p2), (3, vI p3), (4, vI p4), (5, vI v2)]) [1, 2, 3, 4, 5, 0] rfl (K116 H)
def fX9_convoy_191 (k116 : Int → Int → Int → Int → Int → Mem → Option (Int × Mem)) (p1 : Int) (p2 : Int) (p3 : Int) (p4 : Int) (p5 : Int) (p6 : Int) (t1 : Int) (t2 : Int) (s : Mem) : Option (Int × Mem) :=
  (wrI s 6 t1 t2).bind fun s1 =>
  if p6 = 0 then
    (rdI s1 7 p5).bind fun x3 =>
    fX9_convoy_215 k116 p1 p2 p3 p4 p5 p5 x3 s1
  else
    fX9_convoy_215 k116 p1 p2 p3 p4 p5 p5 p4 s1
set_option maxHeartbeats 4000000 in
theorem tX9_convoy_191 {E : En} {b : Bn} {xf : Int} {sf : Mem} {k116 : Int → Int → Int → Int → Int → Mem → Option (Int × Mem)} {p1 : Int} {p2 : Int} {p3 : Int} {p4 : Int} {p5 : Int} {p6 : Int} {t1 : Int} {t2 : Int} {s : Mem} (G : ab_G E b cX9_convoy 7 RX9 (some .long) 5)  (K116 : ∀ {p1 : Int} {p2 : Int} {p3 : Int} {p4 : Int} {p5 : Int} {s : Mem},  k116 p1 p2 p3 p4 p5 s = some (xf, sf) → ab_X E b (ab_MQ E b (some (vL xf)) sf) 7 116 [(0, vR 0), (1, vI p1), (2, vI p2), (3, vI p3), (4, vI p4), (5, vI p5)] [] s) (H : fX9_convoy_191 k116 p1 p2 p3 p4 p5 p6 t1 t2 s = some (xf, sf)) : ab_X E b (ab_MQ E b (some (vL xf)) sf) 7 191 [(0, vR 0), (1, vI p1), (2, vI p2), (3, vI p3), (4, vI p4), (5, vI p5), (6, vI p6)] [vI t2, vI t1, vR 6] s := by
  unfold fX9_convoy_191 at H
  refine x_iast G dX9_convoy_191 H (fun s1 hs1 H => ?_)
  refine x_aload_n (j := 0) G dX9_convoy_192 rfl rfl ?_
  refine gf_888 G sh_0 pt_0_11 dX9_convoy_193 ?_
  refine x_iload (j := 5) G dX9_convoy_196 rfl ?_
  refine x_iload (j := 6) G dX9_convoy_198 rfl ?_
  refine x_if_eq (tgt := 208) G dX9_convoy_200 (by decide) (fun q2 => ?_) (fun q2 => ?_)
  · have H := if_some_t H q2
    refine x_aload_n (j := 0) G dX9_convoy_208 rfl rfl ?_
    refine gf_888 G sh_0 pt_0_11 dX9_convoy_209 ?_
    refine x_iload (j := 5) G dX9_convoy_212 rfl ?_
    refine x_iald G dX9_convoy_214 H (fun x3 hx3 H => ?_)
    exact x_subp (ls' := [(0, vR 0), (1, vI p1), (2, vI p2), (3, vI p3), (4, vI p4), (5, vI p5)]) [0, 1, 2, 3, 4, 5] rfl (tX9_convoy_215 G  K116 H)
  · have H := if_some_f H q2
    refine x_iload (j := 4) G dX9_convoy_203 rfl ?_
    refine x_goto (tgt := 215) G dX9_convoy_205 (by decide) ?_
    exact x_subp (ls' := [(0, vR 0), (1, vI p1), (2, vI p2), (3, vI p3), (4, vI p4), (5, vI p5)]) [0, 1, 2, 3, 4, 5] rfl (tX9_convoy_215 G  K116 H)
def fX9_convoy_168 (k116 : Int → Int → Int → Int → Int → Mem → Option (Int × Mem)) (p1 : Int) (p2 : Int) (p3 : Int) (p4 : Int) (p5 : Int) (p6 : Int) (t1 : Int) (t2 : Int) (s : Mem) : Option (Int × Mem) :=
  (wrI s 5 t1 t2).bind fun s1 =>
  if p6 = 0 then
    (rdI s1 6 p5).bind fun x3 =>
    fX9_convoy_191 k116 p1 p2 p3 p4 p5 p6 p5 x3 s1
  else
    fX9_convoy_191 k116 p1 p2 p3 p4 p5 p6 p5 p3 s1
set_option maxHeartbeats 4000000 in
theorem tX9_convoy_168 {E : En} {b : Bn} {xf : Int} {sf : Mem} {k116 : Int → Int → Int → Int → Int → Mem → Option (Int × Mem)} {p1 : Int} {p2 : Int} {p3 : Int} {p4 : Int} {p5 : Int} {p6 : Int} {t1 : Int} {t2 : Int} {s : Mem} (G : ab_G E b cX9_convoy 7 RX9 (some .long) 5)  (K116 : ∀ {p1 : Int} {p2 : Int} {p3 : Int} {p4 : Int} {p5 : Int} {s : Mem},  k116 p1 p2 p3 p4 p5 s = some (xf, sf) → ab_X E b (ab_MQ E b (some (vL xf)) sf) 7 116 [(0, vR 0), (1, vI p1), (2, vI p2), (3, vI p3), (4, vI p4), (5, vI p5)] [] s) (H : fX9_convoy_168 k116 p1 p2 p3 p4 p5 p6 t1 t2 s = some (xf, sf)) : ab_X E b (ab_MQ E b (some (vL xf)) sf) 7 168 [(0, vR 0), (1, vI p1), (2, vI p2), (3, vI p3), (4, vI p4), (5, vI p5), (6, vI p6)] [vI t2, vI t1, vR 5] s := by
  unfold fX9_convoy_168 at H
  refine x_iast G dX9_convoy_168 H (fun s1 hs1 H => ?_)
  refine x_aload_n (j := 0) G dX9_convoy_169 rfl rfl ?_
  refine gf_887 G sh_0 pt_0_10 dX9_convoy_170 ?_
  refine x_iload (j := 5) G dX9_convoy_173 rfl ?_
  refine x_iload (j := 6) G dX9_convoy_175 rfl ?_
  refine x_if_eq (tgt := 184) G dX9_convoy_177 (by decide) (fun q2 => ?_) (fun q2 => ?_)
  · have H := if_some_t H q2
    refine x_aload_n (j := 0) G dX9_convoy_184 rfl rfl ?_
    refine gf_887 G sh_0 pt_0_10 dX9_convoy_185 ?_
    refine x_iload (j := 5) G dX9_convoy_188 rfl ?_
    refine x_iald G dX9_convoy_190 H (fun x3 hx3 H => ?_)
    exact x_subp (ls' := [(0, vR 0), (1, vI p1), (2, vI p2), (3, vI p3), (4, vI p4), (5, vI p5), (6, vI p6)]) [0, 1, 2, 3, 4, 5, 6] rfl (tX9_convoy_191 G  K116 H)
  · have H := if_some_f H q2
    refine x_iload_n (j := 3) G dX9_convoy_180 rfl rfl ?_
    refine x_goto (tgt := 191) G dX9_convoy_181 (by decide) ?_
    exact x_subp (ls' := [(0, vR 0), (1, vI p1), (2, vI p2), (3, vI p3), (4, vI p4), (5, vI p5), (6, vI p6)]) [0, 1, 2, 3, 4, 5, 6] rfl (tX9_convoy_191 G  K116 H)
def fX9_convoy_144 (k116 : Int → Int → Int → Int → Int → Mem → Option (Int × Mem)) (p1 : Int) (p2 : Int) (p3 : Int) (p4 : Int) (p5 : Int) (t0 : Int) (s : Mem) : Option (Int × Mem) :=
  if t0 = 0 then
    (rdI s 5 p5).bind fun x2 =>
    fX9_convoy_168 k116 p1 p2 p3 p4 p5 t0 p5 x2 s
  else
    fX9_convoy_168 k116 p1 p2 p3 p4 p5 t0 p5 p2 s
set_option maxHeartbeats 4000000 in
theorem tX9_convoy_144 {E : En} {b : Bn} {xf : Int} {sf : Mem} {k116 : Int → Int → Int → Int → Int → Mem → Option (Int × Mem)} {p1 : Int} {p2 : Int} {p3 : Int} {p4 : Int} {p5 : Int} {t0 : Int} {s : Mem} (G : ab_G E b cX9_convoy 7 RX9 (some .long) 5)  (K116 : ∀ {p1 : Int} {p2 : Int} {p3 : Int} {p4 : Int} {p5 : Int} {s : Mem},  k116 p1 p2 p3 p4 p5 s = some (xf, sf) → ab_X E b (ab_MQ E b (some (vL xf)) sf) 7 116 [(0, vR 0), (1, vI p1), (2, vI p2), (3, vI p3), (4, vI p4), (5, vI p5)] [] s) (H : fX9_convoy_144 k116 p1 p2 p3 p4 p5 t0 s = some (xf, sf)) : ab_X E b (ab_MQ E b (some (vL xf)) sf) 7 144 [(0, vR 0), (1, vI p1), (2, vI p2), (3, vI p3), (4, vI p4), (5, vI p5)] [vI t0] s := by
  unfold fX9_convoy_144 at H
  refine x_istore (ls' := [(6, vI t0), (0, vR 0), (1, vI p1), (2, vI p2), (3, vI p3), (4, vI p4), (5, vI p5)]) G dX9_convoy_144 (by decide) rfl ?_
  refine x_aload_n (j := 1) G dX9_convoy_146 rfl rfl ?_
  refine gf_886 G sh_0 pt_0_9 dX9_convoy_147 ?_
  refine x_iload (j := 6) G dX9_convoy_150 rfl ?_
  refine x_iload (j := 0) G dX9_convoy_152 rfl ?_
  refine x_if_eq (tgt := 161) G dX9_convoy_154 (by decide) (fun q1 => ?_) (fun q1 => ?_)
  · have H := if_some_t H q1
    refine x_aload_n (j := 1) G dX9_convoy_161 rfl rfl ?_
    refine gf_886 G sh_0 pt_0_9 dX9_convoy_162 ?_
    refine x_iload (j := 6) G dX9_convoy_165 rfl ?_
    refine x_iald G dX9_convoy_167 H (fun x2 hx2 H => ?_)
    exact x_subp (ls' := [(0, vR 0), (1, vI p1), (2, vI p2), (3, vI p3), (4, vI p4), (5, vI p5), (6, vI t0)]) [1, 2, 3, 4, 5, 6, 0] rfl (tX9_convoy_168 G  K116 H)
  · have H := if_some_f H q1
    refine x_iload_n (j := 3) G dX9_convoy_157 rfl rfl ?_
    refine x_goto (tgt := 168) G dX9_convoy_158 (by decide) ?_
    exact x_subp (ls' := [(0, vR 0), (1, vI p1), (2, vI p2), (3, vI p3), (4, vI p4), (5, vI p5), (6, vI t0)]) [1, 2, 3, 4, 5, 6, 0] rfl (tX9_convoy_168 G  K116 H)
def fX9_convoy_116  : Nat → Int → Int → Int → Int → Int → Mem → Option (Int × Mem)
  | 0, _, _, _, _, _, _ => none
  | n + 1, p1, p2, p3, p4, p5, s =>
  (rdI s 1 184).bind fun x1 =>
  if x1 ≤ p5 then
    b2 (fX9_meanOf 0 ((-1)) s) fun r3 s4 =>
    some (r3, s4)
  else
    if (andI (shrI p1 p5) 1) = 1 then
      fX9_convoy_144 (fun p1 p2 p3 p4 p5 s => fX9_convoy_116 n p1 p2 p3 p4 p5 s) p1 p2 p3 p4 p5 1 s
    else
      fX9_convoy_144 (fun p1 p2 p3 p4 p5 s => fX9_convoy_116 n p1 p2 p3 p4 p5 s) p1 p2 p3 p4 p5 0 s
set_option maxHeartbeats 4000000 in
theorem tX9_convoy_116 {E : En} {b : Bn} {xf : Int} {sf : Mem}  (G : ab_G E b cX9_convoy 7 RX9 (some .long) 5)  : ∀ (n : Nat) {p1 : Int} {p2 : Int} {p3 : Int} {p4 : Int} {p5 : Int} {s : Mem}, fX9_convoy_116 n p1 p2 p3 p4 p5 s = some (xf, sf) → ab_X E b (ab_MQ E b (some (vL xf)) sf) 7 116 [(0, vR 0), (1, vI p1), (2, vI p2), (3, vI p3), (4, vI p4), (5, vI p5)] [] s := by
  intro n
  induction n with
  | zero => intro p1 p2 p3 p4 p5 s H; rw [fX9_convoy_116] at H; cases H
  | succ n ih =>
    intro p1 p2 p3 p4 p5 s H
    rw [fX9_convoy_116] at H
    refine x_iload (j := 5) G dX9_convoy_116 rfl ?_
    refine x_aload_n (j := 0) G dX9_convoy_118 rfl rfl ?_
    refine gf_878 G sh_0 pt_0_1 dX9_convoy_119 ?_
    refine x_sipush G dX9_convoy_122 (by decide) (by decide) ?_
    refine x_iald G dX9_convoy_125 H (fun x1 hx1 H => ?_)
    refine x_icmp_ge (tgt := 222) G dX9_convoy_126 (by decide) (fun q2 => ?_) (fun q2 => ?_)
    · have H := if_some_t H q2
      refine x_aload_n (j := 0) G dX9_convoy_222 rfl rfl ?_
      refine x_iconst G dX9_convoy_223 (by decide) ?_
      refine x_iconst G dX9_convoy_224 (by decide) ?_
      obtain ⟨r3, s4, c4, H⟩ := b2_some H
      refine cv_1105 (As := [vI 0, vI ((-1))]) (rest := []) G (rX9_meanOf  c4) sh_0 (by omega) rfl rfl (Nat.le_of_ble_eq_true rfl) dX9_convoy_225 ?_
      cases H
      exact x_lret G dX9_convoy_228
    · have H := if_some_f H q2
      refine x_iload_n (j := 1) G dX9_convoy_129 rfl rfl ?_
      refine x_iload (j := 5) G dX9_convoy_130 rfl ?_
      refine x_ishr G dX9_convoy_132 ?_
      refine x_iconst G dX9_convoy_133 (by decide) ?_
      refine x_iand G dX9_convoy_134 ?_
      refine x_iconst G dX9_convoy_135 (by decide) ?_
      refine x_icmp_ne (tgt := 143) G dX9_convoy_136 (by decide) (fun q5 => ?_) (fun q5 => ?_)
      · have H := if_some_f H q5
        refine x_iconst G dX9_convoy_143 (by decide) ?_
        exact x_subp (ls' := [(0, vR 0), (1, vI p1), (2, vI p2), (3, vI p3), (4, vI p4), (5, vI p5)]) [0, 1, 2, 3, 4, 5] rfl (tX9_convoy_144 G  ih H)
      · have H := if_some_t H q5
        refine x_iconst G dX9_convoy_139 (by decide) ?_
        refine x_goto (tgt := 144) G dX9_convoy_140 (by decide) ?_
        exact x_subp (ls' := [(0, vR 0), (1, vI p1), (2, vI p2), (3, vI p3), (4, vI p4), (5, vI p5)]) [0, 1, 2, 3, 4, 5] rfl (tX9_convoy_144 G  ih H)
def fX9_convoy_58  : Nat → Int → Int → Int → Int → Int → Mem → Option (Int × Mem)
  | 0, _, _, _, _, _, _ => none
  | n + 1, p1, p2, p3, p4, p5, s =>
  (rdI s 1 184).bind fun x1 =>
  if x1 ≤ p5 then
    fX9_convoy_116 600 p1 p2 p3 p4 0 s
  else
    if (andI (shrI p1 p5) 1) = 1 then
      (rdI s 7 p5).bind fun x4 =>
      if p4 ≤ x4 then
        fX9_convoy_103 (fun p1 p2 p3 p4 p5 s => fX9_convoy_58 n p1 p2 p3 p4 p5 s) p1 p2 p3 p4 p5 s
      else
        (rdI s 7 p5).bind fun x6 =>
        fX9_convoy_105 (fun p1 p2 p3 p4 p5 s => fX9_convoy_58 n p1 p2 p3 p4 p5 s) p1 p2 p3 p5 x6 s
    else
      fX9_convoy_103 (fun p1 p2 p3 p4 p5 s => fX9_convoy_58 n p1 p2 p3 p4 p5 s) p1 p2 p3 p4 p5 s
set_option maxHeartbeats 4000000 in
theorem tX9_convoy_58 {E : En} {b : Bn} {xf : Int} {sf : Mem}  (G : ab_G E b cX9_convoy 7 RX9 (some .long) 5)  : ∀ (n : Nat) {p1 : Int} {p2 : Int} {p3 : Int} {p4 : Int} {p5 : Int} {s : Mem}, fX9_convoy_58 n p1 p2 p3 p4 p5 s = some (xf, sf) → ab_X E b (ab_MQ E b (some (vL xf)) sf) 7 58 [(0, vR 0), (1, vI p1), (2, vI p2), (3, vI p3), (4, vI p4), (5, vI p5)] [] s := by
  intro n
  induction n with
  | zero => intro p1 p2 p3 p4 p5 s H; rw [fX9_convoy_58] at H; cases H
  | succ n ih =>
    intro p1 p2 p3 p4 p5 s H
    rw [fX9_convoy_58] at H
    refine x_iload (j := 5) G dX9_convoy_58 rfl ?_
    refine x_aload_n (j := 0) G dX9_convoy_60 rfl rfl ?_
    refine gf_878 G sh_0 pt_0_1 dX9_convoy_61 ?_
    refine x_sipush G dX9_convoy_64 (by decide) (by decide) ?_
    refine x_iald G dX9_convoy_67 H (fun x1 hx1 H => ?_)
    refine x_icmp_ge (tgt := 113) G dX9_convoy_68 (by decide) (fun q2 => ?_) (fun q2 => ?_)
    · have H := if_some_t H q2
      refine x_iconst G dX9_convoy_113 (by decide) ?_
      refine x_istore (ls' := [(5, vI 0), (0, vR 0), (1, vI p1), (2, vI p2), (3, vI p3), (4, vI p4)]) G dX9_convoy_114 (by decide) rfl ?_
      exact x_subp (ls' := [(0, vR 0), (1, vI p1), (2, vI p2), (3, vI p3), (4, vI p4), (5, vI 0)]) [1, 2, 3, 4, 5, 0] rfl (tX9_convoy_116 G 600 H)
    · have H := if_some_f H q2
      refine x_iload_n (j := 1) G dX9_convoy_71 rfl rfl ?_
      refine x_iload (j := 5) G dX9_convoy_72 rfl ?_
      refine x_ishr G dX9_convoy_74 ?_
      refine x_iconst G dX9_convoy_75 (by decide) ?_
      refine x_iand G dX9_convoy_76 ?_
      refine x_iconst G dX9_convoy_77 (by decide) ?_
      refine x_icmp_ne (tgt := 103) G dX9_convoy_78 (by decide) (fun q3 => ?_) (fun q3 => ?_)
      · have H := if_some_f H q3
        exact x_subp (ls' := [(0, vR 0), (1, vI p1), (2, vI p2), (3, vI p3), (4, vI p4), (5, vI p5)]) [0, 1, 2, 3, 4, 5] rfl (tX9_convoy_103 G  ih H)
      · have H := if_some_t H q3
        refine x_aload_n (j := 0) G dX9_convoy_81 rfl rfl ?_
        refine gf_888 G sh_0 pt_0_11 dX9_convoy_82 ?_
        refine x_iload (j := 5) G dX9_convoy_85 rfl ?_
        refine x_iald G dX9_convoy_87 H (fun x4 hx4 H => ?_)
        refine x_iload (j := 4) G dX9_convoy_88 rfl ?_
        refine x_icmp_ge (tgt := 103) G dX9_convoy_90 (by decide) (fun q5 => ?_) (fun q5 => ?_)
        · have H := if_some_t H q5
          exact x_subp (ls' := [(0, vR 0), (1, vI p1), (2, vI p2), (3, vI p3), (4, vI p4), (5, vI p5)]) [0, 1, 2, 3, 4, 5] rfl (tX9_convoy_103 G  ih H)
        · have H := if_some_f H q5
          refine x_aload_n (j := 0) G dX9_convoy_93 rfl rfl ?_
          refine gf_888 G sh_0 pt_0_11 dX9_convoy_94 ?_
          refine x_iload (j := 5) G dX9_convoy_97 rfl ?_
          refine x_iald G dX9_convoy_99 H (fun x6 hx6 H => ?_)
          refine x_goto (tgt := 105) G dX9_convoy_100 (by decide) ?_
          exact x_subp (ls' := [(0, vR 0), (1, vI p1), (2, vI p2), (3, vI p3), (5, vI p5)]) [0, 1, 2, 3, 5] rfl (tX9_convoy_105 G  ih H)
def fX9_convoy (a1 : Int) (a2 : Int) (a3 : Int) (s : Mem) : Option (Int × Mem) :=
  lt' (mu s 0 0 0) fun s1 =>
  (rdI s1 1 184).bind fun x2 =>
  b2 (fX9_isIn a1 1 (w32 ((shlI 1 x2) - 1)) s1) fun r3 s4 =>
  if r3 = 0 then
    some ((-9223372036854775808), s4)
  else
    b2 (fX9_isIn a2 0 23 s4) fun r6 s7 =>
    if r6 = 0 then
      some ((-9223372036854775808), s7)
    else
      b2 (fX9_isHarbour a3 s7) fun r9 s10 =>
      if r9 = 0 then
        some ((-9223372036854775808), s10)
      else
        (fX9_asPlanned  s10).bind fun s13 =>
        fX9_convoy_58 600 a1 a2 a3 9 0 s13
set_option maxHeartbeats 4000000 in
theorem rX9_convoy {E : En} {xf : Int} {sf : Mem} {a1 : Int} {a2 : Int} {a3 : Int} {s : Mem}  (H : fX9_convoy a1 a2 a3 s = some (xf, sf)) : ab_Run E 5 yX9_convoy cX9_convoy 7 (some .long) [vR 0, vI a1, vI a2, vI a3] (some (vL xf)) s sf := by
  unfold fX9_convoy at H
  refine ab_intro (own := RX9) (by decide +kernel) rfl (Nat.le_of_ble_eq_true rfl) rfl (fun b G => ?_)
  refine x_aload_n (j := 0) G dX9_convoy_0 rfl rfl ?_
  refine x_iconst G dX9_convoy_1 (by decide) ?_
  refine pf_877 G sh_0 pt_0_0 dX9_convoy_2 H (fun s1 hs1 H => ?_)
  refine x_iload_n (j := 1) G dX9_convoy_5 rfl rfl ?_
  refine x_iconst G dX9_convoy_6 (by decide) ?_
  refine x_iconst G dX9_convoy_7 (by decide) ?_
  refine x_aload_n (j := 0) G dX9_convoy_8 rfl rfl ?_
  refine gf_878 G sh_0 pt_0_1 dX9_convoy_9 ?_
  refine x_sipush G dX9_convoy_12 (by decide) (by decide) ?_
  refine x_iald G dX9_convoy_15 H (fun x2 hx2 H => ?_)
  refine x_ishl G dX9_convoy_16 ?_
  refine x_iconst G dX9_convoy_17 (by decide) ?_
  refine x_isub G dX9_convoy_18 ?_
  obtain ⟨r3, s4, c4, H⟩ := b2_some H
  refine cs_946 (As := [vI a1, vI 1, vI (w32 ((shlI 1 x2) - 1))]) (rest := []) G (rX9_isIn  c4) (by omega) rfl rfl (Nat.le_of_ble_eq_true rfl) dX9_convoy_19 ?_
  refine x_if_eq (tgt := 43) G dX9_convoy_22 (by decide) (fun q5 => ?_) (fun q5 => ?_)
  · have H := if_some_t H q5
    refine x_ldc2 (x := (-9223372036854775808)) G wd_1062 dX9_convoy_43 (by decide) (by decide) ?_
    cases H
    exact x_lret G dX9_convoy_46
  · have H := if_some_f H q5
    refine x_iload_n (j := 2) G dX9_convoy_25 rfl rfl ?_
    refine x_iconst G dX9_convoy_26 (by decide) ?_
    refine x_bipush G dX9_convoy_27 (by decide) (by decide) ?_
    obtain ⟨r6, s7, c7, H⟩ := b2_some H
    refine cs_946 (As := [vI a2, vI 0, vI 23]) (rest := []) G (rX9_isIn  c7) (by omega) rfl rfl (Nat.le_of_ble_eq_true rfl) dX9_convoy_29 ?_
    refine x_if_eq (tgt := 43) G dX9_convoy_32 (by decide) (fun q8 => ?_) (fun q8 => ?_)
    · have H := if_some_t H q8
      refine x_ldc2 (x := (-9223372036854775808)) G wd_1062 dX9_convoy_43 (by decide) (by decide) ?_
      cases H
      exact x_lret G dX9_convoy_46
    · have H := if_some_f H q8
      refine x_aload_n (j := 0) G dX9_convoy_35 rfl rfl ?_
      refine x_iload_n (j := 3) G dX9_convoy_36 rfl rfl ?_
      obtain ⟨r9, s10, c10, H⟩ := b2_some H
      refine cv_1018 (As := [vI a3]) (rest := []) G (rX9_isHarbour  c10) sh_0 (by omega) rfl rfl (Nat.le_of_ble_eq_true rfl) dX9_convoy_37 ?_
      refine x_if_ne (tgt := 47) G dX9_convoy_40 (by decide) (fun q11 => ?_) (fun q11 => ?_)
      · have H := if_some_f H q11
        refine x_aload_n (j := 0) G dX9_convoy_47 rfl rfl ?_
        obtain ⟨s13, c13, H⟩ := bd_some H
        refine cv_1063 (As := []) (rest := []) G (rX9_asPlanned  c13) sh_0 (by omega) rfl rfl (Nat.le_of_ble_eq_true rfl) dX9_convoy_48 ?_
        refine x_bipush G dX9_convoy_51 (by decide) (by decide) ?_
        refine x_istore (ls' := [(4, vI 9), (0, vR 0), (1, vI a1), (2, vI a2), (3, vI a3)]) G dX9_convoy_53 (by decide) rfl ?_
        refine x_iconst G dX9_convoy_55 (by decide) ?_
        refine x_istore (ls' := [(5, vI 0), (4, vI 9), (0, vR 0), (1, vI a1), (2, vI a2), (3, vI a3)]) G dX9_convoy_56 (by decide) rfl ?_
        exact x_subp (ls' := [(0, vR 0), (1, vI a1), (2, vI a2), (3, vI a3), (4, vI 9), (5, vI 0)]) [2, 3, 4, 5, 1, 0] rfl (tX9_convoy_58 G 600 H)
      · have H := if_some_t H q11
        refine x_ldc2 (x := (-9223372036854775808)) G wd_1062 dX9_convoy_43 (by decide) (by decide) ?_
        cases H
        exact x_lret G dX9_convoy_46
def fX9_first  (s : Mem) : Option (Int × Mem) :=
  lt' (mu s 0 0 0) fun s1 =>
  (fX9_asPlanned  s1).bind fun s3 =>
  b2 (fX9_meanOf 1 ((-1)) s3) fun r4 s5 =>
  some (r4, s5)
set_option maxHeartbeats 4000000 in
theorem rX9_first {E : En} {xf : Int} {sf : Mem}  {s : Mem}  (H : fX9_first  s = some (xf, sf)) : ab_Run E 5 yX9_first cX9_first 1 (some .long) [vR 0] (some (vL xf)) s sf := by
  unfold fX9_first at H
  refine ab_intro (own := RX9) (by decide +kernel) rfl (Nat.le_of_ble_eq_true rfl) rfl (fun b G => ?_)
  refine x_aload_n (j := 0) G dX9_first_0 rfl rfl ?_
  refine x_iconst G dX9_first_1 (by decide) ?_
  refine pf_877 G sh_0 pt_0_0 dX9_first_2 H (fun s1 hs1 H => ?_)
  refine x_aload_n (j := 0) G dX9_first_5 rfl rfl ?_
  obtain ⟨s3, c3, H⟩ := bd_some H
  refine cv_1063 (As := []) (rest := []) G (rX9_asPlanned  c3) sh_0 (by omega) rfl rfl (Nat.le_of_ble_eq_true rfl) dX9_first_6 ?_
  refine x_aload_n (j := 0) G dX9_first_9 rfl rfl ?_
  refine x_iconst G dX9_first_10 (by decide) ?_
  refine x_iconst G dX9_first_11 (by decide) ?_
  obtain ⟨r4, s5, c5, H⟩ := b2_some H
  refine cv_1105 (As := [vI 1, vI ((-1))]) (rest := []) G (rX9_meanOf  c5) sh_0 (by omega) rfl rfl (Nat.le_of_ble_eq_true rfl) dX9_first_12 ?_
  cases H
  exact x_lret G dX9_first_15
def fX9_night_72  : Nat → Int → Int → Int → Int → Int → Mem → Option (Int × Mem)
  | 0, _, _, _, _, _, _ => none
  | n + 1, p2, p3, p6, p7, p8, s =>
  if p6 < p8 then
    if p3 = 0 then
      some (p7, s)
    else
      (fX9_ruled p2 p7 s).bind fun s4 =>
      b2 (fX9_goesBy p7 0 s4) fun r5 s6 =>
      some (r5, s6)
  else
    lt' (w32 (p7 + 1)) fun v7 =>
    b2 (fX9_tenths v7 s) fun r8 s9 =>
    lt' (w32 (p8 + r8)) fun v10 =>
    fX9_night_72 n p2 p3 p6 v7 v10 s9
set_option maxHeartbeats 4000000 in
theorem tX9_night_72 {E : En} {b : Bn} {xf : Int} {sf : Mem}  (G : ab_G E b cX9_night 9 RX9 (some .long) 6)  : ∀ (n : Nat) {p2 : Int} {p3 : Int} {p6 : Int} {p7 : Int} {p8 : Int} {s : Mem}, fX9_night_72 n p2 p3 p6 p7 p8 s = some (xf, sf) → ab_X E b (ab_MQ E b (some (vL xf)) sf) 9 72 [(0, vR 0), (2, vI p2), (3, vI p3), (6, vI p6), (7, vI p7), (8, vI p8)] [] s := by
  intro n
  induction n with
  | zero => intro p2 p3 p6 p7 p8 s H; rw [fX9_night_72] at H; cases H
  | succ n ih =>
    intro p2 p3 p6 p7 p8 s H
    rw [fX9_night_72] at H
    refine x_iload (j := 3) G dX9_night_72 rfl ?_
    refine x_iload (j := 5) G dX9_night_74 rfl ?_
    refine x_icmp_lt (tgt := 96) G dX9_night_76 (by decide) (fun q1 => ?_) (fun q1 => ?_)
    · have H := if_some_t H q1
      refine x_iload_n (j := 2) G dX9_night_96 rfl rfl ?_
      refine x_if_ne (tgt := 104) G dX9_night_97 (by decide) (fun q2 => ?_) (fun q2 => ?_)
      · have H := if_some_f H q2
        refine x_aload_n (j := 0) G dX9_night_104 rfl rfl ?_
        refine x_iload_n (j := 1) G dX9_night_105 rfl rfl ?_
        refine x_iload (j := 4) G dX9_night_106 rfl ?_
        obtain ⟨s4, c4, H⟩ := bd_some H
        refine cv_1140 (As := [vI p2, vI p7]) (rest := []) G (rX9_ruled  c4) sh_0 (by omega) rfl rfl (Nat.le_of_ble_eq_true rfl) dX9_night_108 ?_
        refine x_aload_n (j := 0) G dX9_night_111 rfl rfl ?_
        refine x_iload (j := 4) G dX9_night_112 rfl ?_
        refine x_iconst G dX9_night_114 (by decide) ?_
        obtain ⟨r5, s6, c6, H⟩ := b2_some H
        refine cv_1067 (As := [vI p7, vI 0]) (rest := []) G (rX9_goesBy  c6) sh_0 (by omega) rfl rfl (Nat.le_of_ble_eq_true rfl) dX9_night_115 ?_
        cases H
        exact x_lret G dX9_night_118
      · have H := if_some_t H q2
        refine x_iload (j := 4) G dX9_night_100 rfl ?_
        refine x_i2l G dX9_night_102 ?_
        cases H
        exact x_lret G dX9_night_103
    · have H := if_some_f H q1
      refine x_iincL (j := 4) G dX9_night_79 rfl (by decide) H (fun v7 hv7 H => x_ls (ls' := [(7, vI v7), (0, vR 0), (2, vI p2), (3, vI p3), (6, vI p6), (8, vI p8)]) rfl ?_)
      refine x_iload (j := 5) G dX9_night_82 rfl ?_
      refine x_aload_n (j := 1) G dX9_night_84 rfl rfl ?_
      refine x_iload (j := 0) G dX9_night_85 rfl ?_
      obtain ⟨r8, s9, c9, H⟩ := b2_some H
      refine cv_1113 (As := [vI v7]) (rest := [vI p8]) G (rX9_tenths  c9) sh_0 (by omega) rfl rfl (Nat.le_of_ble_eq_true rfl) dX9_night_87 ?_
      refine x_iadd G dX9_night_90 ?_
      refine x_let H (fun v10 hv10 H => ?_)
      refine x_istore (ls' := [(8, vI v10), (7, vI v7), (0, vR 0), (2, vI p2), (3, vI p3), (6, vI p6)]) G dX9_night_91 (by decide) rfl ?_
      refine x_goto (tgt := 72) G dX9_night_93 (by decide) ?_
      exact x_subp (ls' := [(0, vR 0), (2, vI p2), (3, vI p3), (6, vI p6), (7, vI v7), (8, vI v10)]) [2, 3, 4, 5, 1, 0] rfl (ih H)
def fX9_night (a1 : Int) (a2 : Int) (a3 : Int) (s : Mem) : Option (Int × Mem) :=
  lt' (mu s 0 0 0) fun s1 =>
  b2 (fX9_isIn a1 0 9999 s1) fun r2 s3 =>
  if r2 = 0 then
    some ((-9223372036854775808), s3)
  else
    b2 (fX9_isRule a2 s3) fun r5 s6 =>
    if r5 = 0 then
      some ((-9223372036854775808), s6)
    else
      b2 (fX9_isIn a3 0 1 s6) fun r8 s9 =>
      if r8 = 0 then
        some ((-9223372036854775808), s9)
      else
        lt' (w64 ((w64 (7919 * a1)) + 1)) fun v11 =>
        lt' (w32 (w64 ((w64 ((w64 (v11 * v11)) - w64 (w64 (Int.tdiv (w64 (v11 * v11)) 65521) * 65521))) - w64 (w64 (Int.tdiv (w64 ((w64 (v11 * v11)) - w64 (w64 (Int.tdiv (w64 (v11 * v11)) 65521) * 65521))) 10) * 10)))) fun v12 =>
        b2 (fX9_tenths 0 s9) fun r13 s14 =>
        fX9_night_72 600 a2 a3 v12 0 r13 s14
set_option maxHeartbeats 4000000 in
theorem rX9_night {E : En} {xf : Int} {sf : Mem} {a1 : Int} {a2 : Int} {a3 : Int} {s : Mem}  (H : fX9_night a1 a2 a3 s = some (xf, sf)) : ab_Run E 6 yX9_night cX9_night 9 (some .long) [vR 0, vI a1, vI a2, vI a3] (some (vL xf)) s sf := by
  unfold fX9_night at H
  refine ab_intro (own := RX9) (by decide +kernel) rfl (Nat.le_of_ble_eq_true rfl) rfl (fun b G => ?_)
  refine x_aload_n (j := 0) G dX9_night_0 rfl rfl ?_
  refine x_iconst G dX9_night_1 (by decide) ?_
  refine pf_877 G sh_0 pt_0_0 dX9_night_2 H (fun s1 hs1 H => ?_)
  refine x_iload_n (j := 1) G dX9_night_5 rfl rfl ?_
  refine x_iconst G dX9_night_6 (by decide) ?_
  refine x_sipush G dX9_night_7 (by decide) (by decide) ?_
  obtain ⟨r2, s3, c3, H⟩ := b2_some H
  refine cs_946 (As := [vI a1, vI 0, vI 9999]) (rest := []) G (rX9_isIn  c3) (by omega) rfl rfl (Nat.le_of_ble_eq_true rfl) dX9_night_10 ?_
  refine x_if_eq (tgt := 32) G dX9_night_13 (by decide) (fun q4 => ?_) (fun q4 => ?_)
  · have H := if_some_t H q4
    refine x_ldc2 (x := (-9223372036854775808)) G wd_1062 dX9_night_32 (by decide) (by decide) ?_
    cases H
    exact x_lret G dX9_night_35
  · have H := if_some_f H q4
    refine x_iload_n (j := 2) G dX9_night_16 rfl rfl ?_
    obtain ⟨r5, s6, c6, H⟩ := b2_some H
    refine cs_1137 (As := [vI a2]) (rest := []) G (rX9_isRule  c6) (by omega) rfl rfl (Nat.le_of_ble_eq_true rfl) dX9_night_17 ?_
    refine x_if_eq (tgt := 32) G dX9_night_20 (by decide) (fun q7 => ?_) (fun q7 => ?_)
    · have H := if_some_t H q7
      refine x_ldc2 (x := (-9223372036854775808)) G wd_1062 dX9_night_32 (by decide) (by decide) ?_
      cases H
      exact x_lret G dX9_night_35
    · have H := if_some_f H q7
      refine x_iload_n (j := 3) G dX9_night_23 rfl rfl ?_
      refine x_iconst G dX9_night_24 (by decide) ?_
      refine x_iconst G dX9_night_25 (by decide) ?_
      obtain ⟨r8, s9, c9, H⟩ := b2_some H
      refine cs_946 (As := [vI a3, vI 0, vI 1]) (rest := []) G (rX9_isIn  c9) (by omega) rfl rfl (Nat.le_of_ble_eq_true rfl) dX9_night_26 ?_
      refine x_if_ne (tgt := 36) G dX9_night_29 (by decide) (fun q10 => ?_) (fun q10 => ?_)
      · have H := if_some_f H q10
        refine x_ldc2 (x := 7919) G wd_1220 dX9_night_36 (by decide) (by decide) ?_
        refine x_iload_n (j := 1) G dX9_night_39 rfl rfl ?_
        refine x_i2l G dX9_night_40 ?_
        refine x_lmul G dX9_night_41 ?_
        refine x_lconst (x := 1) G dX9_night_42 (by decide) (by decide) ?_
        refine x_ladd G dX9_night_43 ?_
        refine x_letL H (fun v11 hv11 H => ?_)
        refine x_lstore (ls' := [(4, vL v11), (0, vR 0), (1, vI a1), (2, vI a2), (3, vI a3)]) G dX9_night_44 (by decide) rfl ?_
        refine x_lload (j := 0) G dX9_night_46 rfl ?_
        refine x_lload (j := 0) G dX9_night_48 rfl ?_
        refine x_lmul G dX9_night_50 ?_
        refine x_ldc2 (x := 65521) G wd_1221 dX9_night_51 (by decide) (by decide) ?_
        refine x_lrem G dX9_night_54 (by decide) ?_
        refine x_ldc2 (x := 10) G wd_1222 dX9_night_55 (by decide) (by decide) ?_
        refine x_lrem G dX9_night_58 (by decide) ?_
        refine x_l2i G dX9_night_59 ?_
        refine x_let H (fun v12 hv12 H => ?_)
        refine x_istore (ls' := [(6, vI v12), (4, vL v11), (0, vR 0), (1, vI a1), (2, vI a2), (3, vI a3)]) G dX9_night_60 (by decide) rfl ?_
        refine x_iconst G dX9_night_62 (by decide) ?_
        refine x_istore (ls' := [(7, vI 0), (6, vI v12), (4, vL v11), (0, vR 0), (1, vI a1), (2, vI a2), (3, vI a3)]) G dX9_night_63 (by decide) rfl ?_
        refine x_aload_n (j := 3) G dX9_night_65 rfl rfl ?_
        refine x_iconst G dX9_night_66 (by decide) ?_
        obtain ⟨r13, s14, c14, H⟩ := b2_some H
        refine cv_1113 (As := [vI 0]) (rest := []) G (rX9_tenths  c14) sh_0 (by omega) rfl rfl (Nat.le_of_ble_eq_true rfl) dX9_night_67 ?_
        refine x_istore (ls' := [(8, vI r13), (7, vI 0), (6, vI v12), (4, vL v11), (0, vR 0), (1, vI a1), (2, vI a2), (3, vI a3)]) G dX9_night_70 (by decide) rfl ?_
        exact x_subp (ls' := [(0, vR 0), (2, vI a2), (3, vI a3), (6, vI v12), (7, vI 0), (8, vI r13)]) [4, 6, 7, 2, 1, 0] rfl (tX9_night_72 G 600 H)
      · have H := if_some_t H q10
        refine x_ldc2 (x := (-9223372036854775808)) G wd_1062 dX9_night_32 (by decide) (by decide) ?_
        cases H
        exact x_lret G dX9_night_35
def fX9_keep_18  : Nat → Int → Mem → Option (Int × Mem)
  | 0, _, _ => none
  | n + 1, p1, s =>
  if 12 ≤ p1 then
    lt' (mu s 0 4 (w32 ((s 0 4) + 1))) fun s2 =>
    some (s2 0 4, s2)
  else
    (rdI s 2 p1).bind fun x3 =>
    (wrI s 3 (w32 ((w32 (12 * (s 0 4))) + p1)) x3).bind fun s4 =>
    lt' (w32 (p1 + 1)) fun v5 =>
    fX9_keep_18 n v5 s4
set_option maxHeartbeats 4000000 in
theorem tX9_keep_18 {E : En} {b : Bn} {xf : Int} {sf : Mem}  (G : ab_G E b cX9_keep 2 RX9 (some .int) 0)  : ∀ (n : Nat) {p1 : Int} {s : Mem}, fX9_keep_18 n p1 s = some (xf, sf) → ab_X E b (ab_MQ E b (some (vI xf)) sf) 2 18 [(0, vR 0), (1, vI p1)] [] s := by
  intro n
  induction n with
  | zero => intro p1 s H; rw [fX9_keep_18] at H; cases H
  | succ n ih =>
    intro p1 s H
    rw [fX9_keep_18] at H
    refine x_iload_n (j := 1) G dX9_keep_18 rfl rfl ?_
    refine x_bipush G dX9_keep_19 (by decide) (by decide) ?_
    refine x_icmp_ge (tgt := 50) G dX9_keep_21 (by decide) (fun q1 => ?_) (fun q1 => ?_)
    · have H := if_some_t H q1
      refine x_aload_n (j := 0) G dX9_keep_50 rfl rfl ?_
      refine x_dup G dX9_keep_51 rfl ?_
      refine gf_881 G sh_0 pt_0_4 dX9_keep_52 ?_
      refine x_iconst G dX9_keep_55 (by decide) ?_
      refine x_iadd G dX9_keep_56 ?_
      refine pf_881 G sh_0 pt_0_4 dX9_keep_57 H (fun s2 hs2 H => ?_)
      refine x_aload_n (j := 0) G dX9_keep_60 rfl rfl ?_
      refine gf_881 G sh_0 pt_0_4 dX9_keep_61 ?_
      cases H
      exact x_iret G dX9_keep_64
    · have H := if_some_f H q1
      refine x_aload_n (j := 0) G dX9_keep_24 rfl rfl ?_
      refine gf_880 G sh_0 pt_0_3 dX9_keep_25 ?_
      refine x_bipush G dX9_keep_28 (by decide) (by decide) ?_
      refine x_aload_n (j := 0) G dX9_keep_30 rfl rfl ?_
      refine gf_881 G sh_0 pt_0_4 dX9_keep_31 ?_
      refine x_imul G dX9_keep_34 ?_
      refine x_iload_n (j := 1) G dX9_keep_35 rfl rfl ?_
      refine x_iadd G dX9_keep_36 ?_
      refine x_aload_n (j := 0) G dX9_keep_37 rfl rfl ?_
      refine gf_879 G sh_0 pt_0_2 dX9_keep_38 ?_
      refine x_iload_n (j := 1) G dX9_keep_41 rfl rfl ?_
      refine x_iald G dX9_keep_42 H (fun x3 hx3 H => ?_)
      refine x_iast G dX9_keep_43 H (fun s4 hs4 H => ?_)
      refine x_iincL (j := 1) G dX9_keep_44 rfl (by decide) H (fun v5 hv5 H => x_ls (ls' := [(1, vI v5), (0, vR 0)]) rfl ?_)
      refine x_goto (tgt := 18) G dX9_keep_47 (by decide) ?_
      exact x_subp (ls' := [(0, vR 0), (1, vI v5)]) [1, 0] rfl (ih H)
def fX9_keep  (s : Mem) : Option (Int × Mem) :=
  lt' (mu s 0 0 0) fun s1 =>
  if (s1 0 4) = 2 then
    some ((-3), s1)
  else
    fX9_keep_18 600 0 s1
set_option maxHeartbeats 4000000 in
theorem rX9_keep {E : En} {xf : Int} {sf : Mem}  {s : Mem}  (H : fX9_keep  s = some (xf, sf)) : ab_Run E 0 yX9_keep cX9_keep 2 (some .int) [vR 0] (some (vI xf)) s sf := by
  unfold fX9_keep at H
  refine ab_intro (own := RX9) (by decide +kernel) rfl (Nat.le_of_ble_eq_true rfl) rfl (fun b G => ?_)
  refine x_aload_n (j := 0) G dX9_keep_0 rfl rfl ?_
  refine x_iconst G dX9_keep_1 (by decide) ?_
  refine pf_877 G sh_0 pt_0_0 dX9_keep_2 H (fun s1 hs1 H => ?_)
  refine x_aload_n (j := 0) G dX9_keep_5 rfl rfl ?_
  refine gf_881 G sh_0 pt_0_4 dX9_keep_6 ?_
  refine x_iconst G dX9_keep_9 (by decide) ?_
  refine x_icmp_ne (tgt := 16) G dX9_keep_10 (by decide) (fun q2 => ?_) (fun q2 => ?_)
  · have H := if_some_f H q2
    refine x_iconst G dX9_keep_16 (by decide) ?_
    refine x_istore_n (ls' := [(1, vI 0), (0, vR 0)]) G dX9_keep_17 rfl (by decide) rfl ?_
    exact x_subp (ls' := [(0, vR 0), (1, vI 0)]) [1, 0] rfl (tX9_keep_18 G 600 H)
  · have H := if_some_t H q2
    refine x_bipush G dX9_keep_13 (by decide) (by decide) ?_
    cases H
    exact x_iret G dX9_keep_15

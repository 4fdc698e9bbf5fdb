def fX9_back_27  : Nat → Int → Mem → Option (Int × Mem)
  | 0, _, _ => none
  | n + 1, p1, s =>
  if 12 ≤ p1 then
    some (s 0 4, s)
  else
    (rdI s 3 (w32 ((w32 (12 * (s 0 4))) + p1))).bind fun x2 =>
    (wrI s 2 p1 x2).bind fun s3 =>
    lt' (w32 (p1 + 1)) fun v4 =>
    fX9_back_27 n v4 s3
set_option maxHeartbeats 4000000 in
theorem tX9_back_27 {E : En} {b : Bn} {xf : Int} {sf : Mem}  (G : ab_G E b cX9_back 2 RX9 (some .int) 0)  : ∀ (n : Nat) {p1 : Int} {s : Mem}, fX9_back_27 n p1 s = some (xf, sf) → ab_X E b (ab_MQ E b (some (vI xf)) sf) 2 27 [(0, vR 0), (1, vI p1)] [] s := by
  intro n
  induction n with
  | zero => intro p1 s H; rw [fX9_back_27] at H; cases H
  | succ n ih =>
    intro p1 s H
    rw [fX9_back_27] at H
    refine x_iload_n (j := 1) G dX9_back_27 rfl rfl ?_
    refine x_bipush G dX9_back_28 (by decide) (by decide) ?_
    refine x_icmp_ge (tgt := 59) G dX9_back_30 (by decide) (fun q1 => ?_) (fun q1 => ?_)
    · have H := if_some_t H q1
      refine x_aload_n (j := 0) G dX9_back_59 rfl rfl ?_
      refine gf_881 G sh_0 pt_0_4 dX9_back_60 ?_
      cases H
      exact x_iret G dX9_back_63
    · have H := if_some_f H q1
      refine x_aload_n (j := 0) G dX9_back_33 rfl rfl ?_
      refine gf_879 G sh_0 pt_0_2 dX9_back_34 ?_
      refine x_iload_n (j := 1) G dX9_back_37 rfl rfl ?_
      refine x_aload_n (j := 0) G dX9_back_38 rfl rfl ?_
      refine gf_880 G sh_0 pt_0_3 dX9_back_39 ?_
      refine x_bipush G dX9_back_42 (by decide) (by decide) ?_
      refine x_aload_n (j := 0) G dX9_back_44 rfl rfl ?_
      refine gf_881 G sh_0 pt_0_4 dX9_back_45 ?_
      refine x_imul G dX9_back_48 ?_
      refine x_iload_n (j := 1) G dX9_back_49 rfl rfl ?_
      refine x_iadd G dX9_back_50 ?_
      refine x_iald G dX9_back_51 H (fun x2 hx2 H => ?_)
      refine x_iast G dX9_back_52 H (fun s3 hs3 H => ?_)
      refine x_iincL (j := 1) G dX9_back_53 rfl (by decide) H (fun v4 hv4 H => x_ls (ls' := [(1, vI v4), (0, vR 0)]) rfl ?_)
      refine x_goto (tgt := 27) G dX9_back_56 (by decide) ?_
      exact x_subp (ls' := [(0, vR 0), (1, vI v4)]) [1, 0] rfl (ih H)
def fX9_back  (s : Mem) : Option (Int × Mem) :=
  lt' (mu s 0 0 0) fun s1 =>
  if (s1 0 4) = 0 then
    some ((-2), s1)
  else
    lt' (mu s1 0 4 (w32 ((s1 0 4) - 1))) fun s3 =>
    fX9_back_27 600 0 s3
set_option maxHeartbeats 4000000 in
theorem rX9_back {E : En} {xf : Int} {sf : Mem}  {s : Mem}  (H : fX9_back  s = some (xf, sf)) : ab_Run E 0 yX9_back cX9_back 2 (some .int) [vR 0] (some (vI xf)) s sf := by
  unfold fX9_back at H
  refine ab_intro (own := RX9) (by decide +kernel) rfl (Nat.le_of_ble_eq_true rfl) rfl (fun b G => ?_)
  refine x_aload_n (j := 0) G dX9_back_0 rfl rfl ?_
  refine x_iconst G dX9_back_1 (by decide) ?_
  refine pf_877 G sh_0 pt_0_0 dX9_back_2 H (fun s1 hs1 H => ?_)
  refine x_aload_n (j := 0) G dX9_back_5 rfl rfl ?_
  refine gf_881 G sh_0 pt_0_4 dX9_back_6 ?_
  refine x_if_ne (tgt := 15) G dX9_back_9 (by decide) (fun q2 => ?_) (fun q2 => ?_)
  · have H := if_some_f H q2
    refine x_aload_n (j := 0) G dX9_back_15 rfl rfl ?_
    refine x_dup G dX9_back_16 rfl ?_
    refine gf_881 G sh_0 pt_0_4 dX9_back_17 ?_
    refine x_iconst G dX9_back_20 (by decide) ?_
    refine x_isub G dX9_back_21 ?_
    refine pf_881 G sh_0 pt_0_4 dX9_back_22 H (fun s3 hs3 H => ?_)
    refine x_iconst G dX9_back_25 (by decide) ?_
    refine x_istore_n (ls' := [(1, vI 0), (0, vR 0)]) G dX9_back_26 rfl (by decide) rfl ?_
    exact x_subp (ls' := [(0, vR 0), (1, vI 0)]) [1, 0] rfl (tX9_back_27 G 600 H)
  · have H := if_some_t H q2
    refine x_bipush G dX9_back_12 (by decide) (by decide) ?_
    cases H
    exact x_iret G dX9_back_14
def fX9_count (a1 : Int) (s : Mem) : Option (Int × Mem) :=
  lt' (mu s 0 0 0) fun s1 =>
  if a1 = 0 then
    (rdI s1 1 183).bind fun x12 =>
    some (x12, s1)
  else
    if a1 = 1 then
      (rdI s1 1 184).bind fun x11 =>
      some (x11, s1)
    else
      if a1 = 2 then
        (rdI s1 1 185).bind fun x10 =>
        some (x10, s1)
      else
        if a1 = 3 then
          b2 (fX9_boats  s1) fun r8 s9 =>
          some (r8, s9)
        else
          if a1 = 4 then
            some (s1 0 6, s1)
          else
            if a1 = 5 then
              some (s1 0 4, s1)
            else
              some ((-1), s1)
set_option maxHeartbeats 4000000 in
theorem rX9_count {E : En} {xf : Int} {sf : Mem} {a1 : Int} {s : Mem}  (H : fX9_count a1 s = some (xf, sf)) : ab_Run E 1 yX9_count cX9_count 2 (some .int) [vR 0, vI a1] (some (vI xf)) s sf := by
  unfold fX9_count at H
  refine ab_intro (own := RX9) (by decide +kernel) rfl (Nat.le_of_ble_eq_true rfl) rfl (fun b G => ?_)
  refine x_aload_n (j := 0) G dX9_count_0 rfl rfl ?_
  refine x_iconst G dX9_count_1 (by decide) ?_
  refine pf_877 G sh_0 pt_0_0 dX9_count_2 H (fun s1 hs1 H => ?_)
  refine x_iload_n (j := 1) G dX9_count_5 rfl rfl ?_
  refine x_if_ne (tgt := 20) G dX9_count_6 (by decide) (fun q2 => ?_) (fun q2 => ?_)
  · have H := if_some_f H q2
    refine x_iload_n (j := 1) G dX9_count_20 rfl rfl ?_
    refine x_iconst G dX9_count_21 (by decide) ?_
    refine x_icmp_ne (tgt := 36) G dX9_count_22 (by decide) (fun q3 => ?_) (fun q3 => ?_)
    · have H := if_some_f H q3
      refine x_iload_n (j := 1) G dX9_count_36 rfl rfl ?_
      refine x_iconst G dX9_count_37 (by decide) ?_
      refine x_icmp_ne (tgt := 52) G dX9_count_38 (by decide) (fun q4 => ?_) (fun q4 => ?_)
      · have H := if_some_f H q4
        refine x_iload_n (j := 1) G dX9_count_52 rfl rfl ?_
        refine x_iconst G dX9_count_53 (by decide) ?_
        refine x_icmp_ne (tgt := 64) G dX9_count_54 (by decide) (fun q5 => ?_) (fun q5 => ?_)
        · have H := if_some_f H q5
          refine x_iload_n (j := 1) G dX9_count_64 rfl rfl ?_
          refine x_iconst G dX9_count_65 (by decide) ?_
          refine x_icmp_ne (tgt := 76) G dX9_count_66 (by decide) (fun q6 => ?_) (fun q6 => ?_)
          · have H := if_some_f H q6
            refine x_iload_n (j := 1) G dX9_count_76 rfl rfl ?_
            refine x_iconst G dX9_count_77 (by decide) ?_
            refine x_icmp_ne (tgt := 88) G dX9_count_78 (by decide) (fun q7 => ?_) (fun q7 => ?_)
            · have H := if_some_f H q7
              refine x_iconst G dX9_count_88 (by decide) ?_
              cases H
              exact x_iret G dX9_count_89
            · have H := if_some_t H q7
              refine x_aload_n (j := 0) G dX9_count_81 rfl rfl ?_
              refine gf_881 G sh_0 pt_0_4 dX9_count_82 ?_
              refine x_goto (tgt := 89) G dX9_count_85 (by decide) ?_
              cases H
              exact x_iret G dX9_count_89
          · have H := if_some_t H q6
            refine x_aload_n (j := 0) G dX9_count_69 rfl rfl ?_
            refine gf_883 G sh_0 pt_0_6 dX9_count_70 ?_
            refine x_goto (tgt := 89) G dX9_count_73 (by decide) ?_
            cases H
            exact x_iret G dX9_count_89
        · have H := if_some_t H q5
          refine x_aload_n (j := 0) G dX9_count_57 rfl rfl ?_
          obtain ⟨r8, s9, c9, H⟩ := b2_some H
          refine cv_1089 (As := []) (rest := []) G (rX9_boats  c9) sh_0 (by omega) rfl rfl (Nat.le_of_ble_eq_true rfl) dX9_count_58 ?_
          refine x_goto (tgt := 89) G dX9_count_61 (by decide) ?_
          cases H
          exact x_iret G dX9_count_89
      · have H := if_some_t H q4
        refine x_aload_n (j := 0) G dX9_count_41 rfl rfl ?_
        refine gf_878 G sh_0 pt_0_1 dX9_count_42 ?_
        refine x_sipush G dX9_count_45 (by decide) (by decide) ?_
        refine x_iald G dX9_count_48 H (fun x10 hx10 H => ?_)
        refine x_goto (tgt := 89) G dX9_count_49 (by decide) ?_
        cases H
        exact x_iret G dX9_count_89
    · have H := if_some_t H q3
      refine x_aload_n (j := 0) G dX9_count_25 rfl rfl ?_
      refine gf_878 G sh_0 pt_0_1 dX9_count_26 ?_
      refine x_sipush G dX9_count_29 (by decide) (by decide) ?_
      refine x_iald G dX9_count_32 H (fun x11 hx11 H => ?_)
      refine x_goto (tgt := 89) G dX9_count_33 (by decide) ?_
      cases H
      exact x_iret G dX9_count_89
  · have H := if_some_t H q2
    refine x_aload_n (j := 0) G dX9_count_9 rfl rfl ?_
    refine gf_878 G sh_0 pt_0_1 dX9_count_10 ?_
    refine x_sipush G dX9_count_13 (by decide) (by decide) ?_
    refine x_iald G dX9_count_16 H (fun x12 hx12 H => ?_)
    refine x_goto (tgt := 89) G dX9_count_17 (by decide) ?_
    cases H
    exact x_iret G dX9_count_89

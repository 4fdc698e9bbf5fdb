def fX9_risk (a1 : Int) (a2 : Int) (a3 : Int) (s : Mem) : Option (Int × Mem) :=
  lt' (mu s 0 0 0) fun s1 =>
  b2 (fX9_isSort a1 s1) fun r2 s3 =>
  if r2 = 0 then
    some ((-1), s3)
  else
    b2 (fX9_isStorm a2 s3) fun r5 s6 =>
    if r5 = 0 then
      some ((-1), s6)
    else
      b2 (fX9_isIn a3 0 23 s6) fun r8 s9 =>
      if r8 = 0 then
        some ((-1), s9)
      else
        b2 (fX9_riskOf a1 a2 a3 s9) fun r11 s12 =>
        some (r11, s12)
set_option maxHeartbeats 4000000 in
theorem rX9_risk {E : En} {xf : Int} {sf : Mem} {a1 : Int} {a2 : Int} {a3 : Int} {s : Mem}  (H : fX9_risk a1 a2 a3 s = some (xf, sf)) : ab_Run E 2 yX9_risk cX9_risk 4 (some .int) [vR 0, vI a1, vI a2, vI a3] (some (vI xf)) s sf := by
  unfold fX9_risk at H
  refine ab_intro (own := RX9) (by decide +kernel) rfl (Nat.le_of_ble_eq_true rfl) rfl (fun b G => ?_)
  refine x_aload_n (j := 0) G dX9_risk_0 rfl rfl ?_
  refine x_iconst G dX9_risk_1 (by decide) ?_
  refine pf_877 G sh_0 pt_0_0 dX9_risk_2 H (fun s1 hs1 H => ?_)
  refine x_aload_n (j := 0) G dX9_risk_5 rfl rfl ?_
  refine x_iload_n (j := 1) G dX9_risk_6 rfl rfl ?_
  obtain ⟨r2, s3, c3, H⟩ := b2_some H
  refine cv_1030 (As := [vI a1]) (rest := []) G (rX9_isSort  c3) sh_0 (by omega) rfl rfl (Nat.le_of_ble_eq_true rfl) dX9_risk_7 ?_
  refine x_if_eq (tgt := 41) G dX9_risk_10 (by decide) (fun q4 => ?_) (fun q4 => ?_)
  · have H := if_some_t H q4
    refine x_iconst G dX9_risk_41 (by decide) ?_
    cases H
    exact x_iret G dX9_risk_42
  · have H := if_some_f H q4
    refine x_aload_n (j := 0) G dX9_risk_13 rfl rfl ?_
    refine x_iload_n (j := 2) G dX9_risk_14 rfl rfl ?_
    obtain ⟨r5, s6, c6, H⟩ := b2_some H
    refine cv_1002 (As := [vI a2]) (rest := []) G (rX9_isStorm  c6) sh_0 (by omega) rfl rfl (Nat.le_of_ble_eq_true rfl) dX9_risk_15 ?_
    refine x_if_eq (tgt := 41) G dX9_risk_18 (by decide) (fun q7 => ?_) (fun q7 => ?_)
    · have H := if_some_t H q7
      refine x_iconst G dX9_risk_41 (by decide) ?_
      cases H
      exact x_iret G dX9_risk_42
    · have H := if_some_f H q7
      refine x_iload_n (j := 3) G dX9_risk_21 rfl rfl ?_
      refine x_iconst G dX9_risk_22 (by decide) ?_
      refine x_bipush G dX9_risk_23 (by decide) (by decide) ?_
      obtain ⟨r8, s9, c9, H⟩ := b2_some H
      refine cs_946 (As := [vI a3, vI 0, vI 23]) (rest := []) G (rX9_isIn  c9) (by omega) rfl rfl (Nat.le_of_ble_eq_true rfl) dX9_risk_25 ?_
      refine x_if_eq (tgt := 41) G dX9_risk_28 (by decide) (fun q10 => ?_) (fun q10 => ?_)
      · have H := if_some_t H q10
        refine x_iconst G dX9_risk_41 (by decide) ?_
        cases H
        exact x_iret G dX9_risk_42
      · have H := if_some_f H q10
        refine x_aload_n (j := 0) G dX9_risk_31 rfl rfl ?_
        refine x_iload_n (j := 1) G dX9_risk_32 rfl rfl ?_
        refine x_iload_n (j := 2) G dX9_risk_33 rfl rfl ?_
        refine x_iload_n (j := 3) G dX9_risk_34 rfl rfl ?_
        obtain ⟨r11, s12, c12, H⟩ := b2_some H
        refine cv_1034 (As := [vI a1, vI a2, vI a3]) (rest := []) G (rX9_riskOf  c12) sh_0 (by omega) rfl rfl (Nat.le_of_ble_eq_true rfl) dX9_risk_35 ?_
        refine x_goto (tgt := 42) G dX9_risk_38 (by decide) ?_
        cases H
        exact x_iret G dX9_risk_42
def fX9_reachOf_56  (p1 : Int) (p2 : Int) (p5 : Int) (p6 : Int) (s : Mem) : Option (Int × Mem) :=
  b2 (fX9_away p1 p2 s) fun r1 s2 =>
  if p5 < r1 then
    some (99, s2)
  else
    some (p6, s2)
set_option maxHeartbeats 4000000 in
theorem tX9_reachOf_56 {E : En} {b : Bn} {xf : Int} {sf : Mem}  {p1 : Int} {p2 : Int} {p5 : Int} {p6 : Int} {s : Mem} (G : ab_G E b cX9_reachOf 7 RX9 (some .int) 2)   (H : fX9_reachOf_56 p1 p2 p5 p6 s = some (xf, sf)) : ab_X E b (ab_MQ E b (some (vI xf)) sf) 7 56 [(0, vR 0), (1, vI p1), (2, vI p2), (5, vI p5), (6, vI p6)] [] s := by
  unfold fX9_reachOf_56 at H
  refine x_iload (j := 3) G dX9_reachOf_56 rfl ?_
  refine x_aload_n (j := 0) G dX9_reachOf_58 rfl rfl ?_
  refine x_iload_n (j := 1) G dX9_reachOf_59 rfl rfl ?_
  refine x_iload_n (j := 2) G dX9_reachOf_60 rfl rfl ?_
  obtain ⟨r1, s2, c2, H⟩ := b2_some H
  refine cv_1046 (As := [vI p1, vI p2]) (rest := [vI p5]) G (rX9_away  c2) sh_0 (by omega) rfl rfl (Nat.le_of_ble_eq_true rfl) dX9_reachOf_61 ?_
  refine x_icmp_lt (tgt := 72) G dX9_reachOf_64 (by decide) (fun q3 => ?_) (fun q3 => ?_)
  · have H := if_some_t H q3
    refine x_bipush G dX9_reachOf_72 (by decide) (by decide) ?_
    cases H
    exact x_iret G dX9_reachOf_74
  · have H := if_some_f H q3
    refine x_iload (j := 4) G dX9_reachOf_67 rfl ?_
    refine x_goto (tgt := 74) G dX9_reachOf_69 (by decide) ?_
    cases H
    exact x_iret G dX9_reachOf_74
def fX9_reachOf_7  : Nat → Int → Int → Int → Int → Int → Mem → Option (Int × Mem)
  | 0, _, _, _, _, _, _ => none
  | n + 1, p1, p2, p3, p5, p6, s =>
  if 24 ≤ p6 then
    fX9_reachOf_56 p1 p2 p5 p6 s
  else
    b2 (fX9_away p1 p2 s) fun r2 s3 =>
    if r2 ≤ p5 then
      fX9_reachOf_56 p1 p2 p5 p6 s3
    else
      (rdI s3 1 (w32 ((w32 (16 + (w32 (5 * p1)))) + 1))).bind fun x5 =>
      b2 (fX9_madeBy x5 p3 p6 s3) fun r6 s7 =>
      lt' (w32 (p5 + r6)) fun v8 =>
      lt' (w32 (p6 + 1)) fun v9 =>
      fX9_reachOf_7 n p1 p2 p3 v8 v9 s7
set_option maxHeartbeats 4000000 in
theorem tX9_reachOf_7 {E : En} {b : Bn} {xf : Int} {sf : Mem}  (G : ab_G E b cX9_reachOf 7 RX9 (some .int) 2)  : ∀ (n : Nat) {p1 : Int} {p2 : Int} {p3 : Int} {p5 : Int} {p6 : Int} {s : Mem}, fX9_reachOf_7 n p1 p2 p3 p5 p6 s = some (xf, sf) → ab_X E b (ab_MQ E b (some (vI xf)) sf) 7 7 [(0, vR 0), (1, vI p1), (2, vI p2), (3, vI p3), (5, vI p5), (6, vI p6)] [] s := by
  intro n
  induction n with
  | zero => intro p1 p2 p3 p5 p6 s H; rw [fX9_reachOf_7] at H; cases H
  | succ n ih =>
    intro p1 p2 p3 p5 p6 s H
    rw [fX9_reachOf_7] at H
    refine x_iload (j := 5) G dX9_reachOf_7 rfl ?_
    refine x_bipush G dX9_reachOf_9 (by decide) (by decide) ?_
    refine x_icmp_ge (tgt := 56) G dX9_reachOf_11 (by decide) (fun q1 => ?_) (fun q1 => ?_)
    · have H := if_some_t H q1
      exact x_subp (ls' := [(0, vR 0), (1, vI p1), (2, vI p2), (5, vI p5), (6, vI p6)]) [0, 1, 2, 4, 5] rfl (tX9_reachOf_56 G  H)
    · have H := if_some_f H q1
      refine x_iload (j := 4) G dX9_reachOf_14 rfl ?_
      refine x_aload_n (j := 0) G dX9_reachOf_16 rfl rfl ?_
      refine x_iload_n (j := 1) G dX9_reachOf_17 rfl rfl ?_
      refine x_iload_n (j := 2) G dX9_reachOf_18 rfl rfl ?_
      obtain ⟨r2, s3, c3, H⟩ := b2_some H
      refine cv_1046 (As := [vI p1, vI p2]) (rest := [vI p5]) G (rX9_away  c3) sh_0 (by omega) rfl rfl (Nat.le_of_ble_eq_true rfl) dX9_reachOf_19 ?_
      refine x_icmp_ge (tgt := 56) G dX9_reachOf_22 (by decide) (fun q4 => ?_) (fun q4 => ?_)
      · have H := if_some_t H q4
        exact x_subp (ls' := [(0, vR 0), (1, vI p1), (2, vI p2), (5, vI p5), (6, vI p6)]) [0, 1, 2, 4, 5] rfl (tX9_reachOf_56 G  H)
      · have H := if_some_f H q4
        refine x_iload (j := 4) G dX9_reachOf_25 rfl ?_
        refine x_aload_n (j := 0) G dX9_reachOf_27 rfl rfl ?_
        refine x_aload_n (j := 0) G dX9_reachOf_28 rfl rfl ?_
        refine gf_878 G sh_0 pt_0_1 dX9_reachOf_29 ?_
        refine x_bipush G dX9_reachOf_32 (by decide) (by decide) ?_
        refine x_iconst G dX9_reachOf_34 (by decide) ?_
        refine x_iload_n (j := 1) G dX9_reachOf_35 rfl rfl ?_
        refine x_imul G dX9_reachOf_36 ?_
        refine x_iadd G dX9_reachOf_37 ?_
        refine x_iconst G dX9_reachOf_38 (by decide) ?_
        refine x_iadd G dX9_reachOf_39 ?_
        refine x_iald G dX9_reachOf_40 H (fun x5 hx5 H => ?_)
        refine x_iload_n (j := 3) G dX9_reachOf_41 rfl rfl ?_
        refine x_iload (j := 5) G dX9_reachOf_42 rfl ?_
        obtain ⟨r6, s7, c7, H⟩ := b2_some H
        refine cv_1050 (As := [vI x5, vI p3, vI p6]) (rest := [vI p5]) G (rX9_madeBy  c7) sh_0 (by omega) rfl rfl (Nat.le_of_ble_eq_true rfl) dX9_reachOf_44 ?_
        refine x_iadd G dX9_reachOf_47 ?_
        refine x_let H (fun v8 hv8 H => ?_)
        refine x_istore (ls' := [(5, vI v8), (0, vR 0), (1, vI p1), (2, vI p2), (3, vI p3), (6, vI p6)]) G dX9_reachOf_48 (by decide) rfl ?_
        refine x_iincL (j := 5) G dX9_reachOf_50 rfl (by decide) H (fun v9 hv9 H => x_ls (ls' := [(6, vI v9), (5, vI v8), (0, vR 0), (1, vI p1), (2, vI p2), (3, vI p3)]) rfl ?_)
        refine x_goto (tgt := 7) G dX9_reachOf_53 (by decide) ?_
        exact x_subp (ls' := [(0, vR 0), (1, vI p1), (2, vI p2), (3, vI p3), (5, vI v8), (6, vI v9)]) [2, 3, 4, 5, 1, 0] rfl (ih H)
def fX9_reachOf (a1 : Int) (a2 : Int) (a3 : Int) (a4 : Int) (s : Mem) : Option (Int × Mem) :=
  fX9_reachOf_7 600 a1 a2 a3 0 a4 s
set_option maxHeartbeats 4000000 in
theorem rX9_reachOf {E : En} {xf : Int} {sf : Mem} {a1 : Int} {a2 : Int} {a3 : Int} {a4 : Int} {s : Mem}  (H : fX9_reachOf a1 a2 a3 a4 s = some (xf, sf)) : ab_Run E 2 yX9_reachOf cX9_reachOf 7 (some .int) [vR 0, vI a1, vI a2, vI a3, vI a4] (some (vI xf)) s sf := by
  unfold fX9_reachOf at H
  refine ab_intro (own := RX9) (by decide +kernel) rfl (Nat.le_of_ble_eq_true rfl) rfl (fun b G => ?_)
  refine x_iconst G dX9_reachOf_0 (by decide) ?_
  refine x_istore (ls' := [(5, vI 0), (0, vR 0), (1, vI a1), (2, vI a2), (3, vI a3), (4, vI a4)]) G dX9_reachOf_1 (by decide) rfl ?_
  refine x_iload (j := 5) G dX9_reachOf_3 rfl ?_
  refine x_istore (ls' := [(6, vI a4), (5, vI 0), (0, vR 0), (1, vI a1), (2, vI a2), (3, vI a3), (4, vI a4)]) G dX9_reachOf_5 (by decide) rfl ?_
  exact x_subp (ls' := [(0, vR 0), (1, vI a1), (2, vI a2), (3, vI a3), (5, vI 0), (6, vI a4)]) [2, 3, 4, 5, 1, 0] rfl (tX9_reachOf_7 G 600 H)
def fX9_reach (a1 : Int) (a2 : Int) (a3 : Int) (a4 : Int) (s : Mem) : Option (Int × Mem) :=
  lt' (mu s 0 0 0) fun s1 =>
  b2 (fX9_isSort a1 s1) fun r2 s3 =>
  if r2 = 0 then
    some ((-1), s3)
  else
    b2 (fX9_isHarbour a2 s3) fun r5 s6 =>
    if r5 = 0 then
      some ((-1), s6)
    else
      b2 (fX9_isStorm a3 s6) fun r8 s9 =>
      if r8 = 0 then
        some ((-1), s9)
      else
        b2 (fX9_isIn a4 0 23 s9) fun r11 s12 =>
        if r11 = 0 then
          some ((-1), s12)
        else
          b2 (fX9_reachOf a1 a2 a3 a4 s12) fun r14 s15 =>
          if r14 ≤ 23 then
            some (r14, s15)
          else
            some ((-4), s15)
set_option maxHeartbeats 4000000 in
theorem rX9_reach {E : En} {xf : Int} {sf : Mem} {a1 : Int} {a2 : Int} {a3 : Int} {a4 : Int} {s : Mem}  (H : fX9_reach a1 a2 a3 a4 s = some (xf, sf)) : ab_Run E 3 yX9_reach cX9_reach 6 (some .int) [vR 0, vI a1, vI a2, vI a3, vI a4] (some (vI xf)) s sf := by
  unfold fX9_reach at H
  refine ab_intro (own := RX9) (by decide +kernel) rfl (Nat.le_of_ble_eq_true rfl) rfl (fun b G => ?_)
  refine x_aload_n (j := 0) G dX9_reach_0 rfl rfl ?_
  refine x_iconst G dX9_reach_1 (by decide) ?_
  refine pf_877 G sh_0 pt_0_0 dX9_reach_2 H (fun s1 hs1 H => ?_)
  refine x_aload_n (j := 0) G dX9_reach_5 rfl rfl ?_
  refine x_iload_n (j := 1) G dX9_reach_6 rfl rfl ?_
  obtain ⟨r2, s3, c3, H⟩ := b2_some H
  refine cv_1030 (As := [vI a1]) (rest := []) G (rX9_isSort  c3) sh_0 (by omega) rfl rfl (Nat.le_of_ble_eq_true rfl) dX9_reach_7 ?_
  refine x_if_eq (tgt := 40) G dX9_reach_10 (by decide) (fun q4 => ?_) (fun q4 => ?_)
  · have H := if_some_t H q4
    refine x_iconst G dX9_reach_40 (by decide) ?_
    cases H
    exact x_iret G dX9_reach_41
  · have H := if_some_f H q4
    refine x_aload_n (j := 0) G dX9_reach_13 rfl rfl ?_
    refine x_iload_n (j := 2) G dX9_reach_14 rfl rfl ?_
    obtain ⟨r5, s6, c6, H⟩ := b2_some H
    refine cv_1018 (As := [vI a2]) (rest := []) G (rX9_isHarbour  c6) sh_0 (by omega) rfl rfl (Nat.le_of_ble_eq_true rfl) dX9_reach_15 ?_
    refine x_if_eq (tgt := 40) G dX9_reach_18 (by decide) (fun q7 => ?_) (fun q7 => ?_)
    · have H := if_some_t H q7
      refine x_iconst G dX9_reach_40 (by decide) ?_
      cases H
      exact x_iret G dX9_reach_41
    · have H := if_some_f H q7
      refine x_aload_n (j := 0) G dX9_reach_21 rfl rfl ?_
      refine x_iload_n (j := 3) G dX9_reach_22 rfl rfl ?_
      obtain ⟨r8, s9, c9, H⟩ := b2_some H
      refine cv_1002 (As := [vI a3]) (rest := []) G (rX9_isStorm  c9) sh_0 (by omega) rfl rfl (Nat.le_of_ble_eq_true rfl) dX9_reach_23 ?_
      refine x_if_eq (tgt := 40) G dX9_reach_26 (by decide) (fun q10 => ?_) (fun q10 => ?_)
      · have H := if_some_t H q10
        refine x_iconst G dX9_reach_40 (by decide) ?_
        cases H
        exact x_iret G dX9_reach_41
      · have H := if_some_f H q10
        refine x_iload (j := 4) G dX9_reach_29 rfl ?_
        refine x_iconst G dX9_reach_31 (by decide) ?_
        refine x_bipush G dX9_reach_32 (by decide) (by decide) ?_
        obtain ⟨r11, s12, c12, H⟩ := b2_some H
        refine cs_946 (As := [vI a4, vI 0, vI 23]) (rest := []) G (rX9_isIn  c12) (by omega) rfl rfl (Nat.le_of_ble_eq_true rfl) dX9_reach_34 ?_
        refine x_if_ne (tgt := 42) G dX9_reach_37 (by decide) (fun q13 => ?_) (fun q13 => ?_)
        · have H := if_some_f H q13
          refine x_aload_n (j := 0) G dX9_reach_42 rfl rfl ?_
          refine x_iload_n (j := 1) G dX9_reach_43 rfl rfl ?_
          refine x_iload_n (j := 2) G dX9_reach_44 rfl rfl ?_
          refine x_iload_n (j := 3) G dX9_reach_45 rfl rfl ?_
          refine x_iload (j := 4) G dX9_reach_46 rfl ?_
          obtain ⟨r14, s15, c15, H⟩ := b2_some H
          refine cv_1042 (As := [vI a1, vI a2, vI a3, vI a4]) (rest := []) G (rX9_reachOf  c15) sh_0 (by omega) rfl rfl (Nat.le_of_ble_eq_true rfl) dX9_reach_48 ?_
          refine x_istore (ls' := [(5, vI r14), (0, vR 0), (1, vI a1), (2, vI a2), (3, vI a3), (4, vI a4)]) G dX9_reach_51 (by decide) rfl ?_
          refine x_iload (j := 0) G dX9_reach_53 rfl ?_
          refine x_bipush G dX9_reach_55 (by decide) (by decide) ?_
          refine x_icmp_le (tgt := 65) G dX9_reach_57 (by decide) (fun q16 => ?_) (fun q16 => ?_)
          · have H := if_some_t H q16
            refine x_iload (j := 0) G dX9_reach_65 rfl ?_
            cases H
            exact x_iret G dX9_reach_67
          · have H := if_some_f H q16
            refine x_bipush G dX9_reach_60 (by decide) (by decide) ?_
            refine x_goto (tgt := 67) G dX9_reach_62 (by decide) ?_
            cases H
            exact x_iret G dX9_reach_67
        · have H := if_some_t H q13
          refine x_iconst G dX9_reach_40 (by decide) ?_
          cases H
          exact x_iret G dX9_reach_41
def fX9_plan (a1 : Int) (a2 : Int) (a3 : Int) (s : Mem) : Option (Int × Mem) :=
  lt' (mu s 0 0 0) fun s1 =>
  b2 (fX9_isSort a1 s1) fun r2 s3 =>
  if r2 = 0 then
    some ((-1), s3)
  else
    b2 (fX9_isIn a2 0 24 s3) fun r5 s6 =>
    if r5 = 0 then
      some ((-1), s6)
    else
      b2 (fX9_isHarbour a3 s6) fun r8 s9 =>
      if r8 = 0 then
        some ((-1), s9)
      else
        (rdI s9 2 (w32 (0 + (w32 (2 * a1))))).bind fun x11 =>
        (rdI s9 2 (w32 ((w32 (0 + (w32 (2 * a1)))) + 1))).bind fun x12 =>
        lt' (w32 ((w32 (10 * x11)) + x12)) fun v13 =>
        (wrI s9 2 (w32 (0 + (w32 (2 * a1)))) a2).bind fun s14 =>
        (wrI s14 2 (w32 ((w32 (0 + (w32 (2 * a1)))) + 1)) a3).bind fun s15 =>
        some (v13, s15)
set_option maxHeartbeats 4000000 in
theorem rX9_plan {E : En} {xf : Int} {sf : Mem} {a1 : Int} {a2 : Int} {a3 : Int} {s : Mem}  (H : fX9_plan a1 a2 a3 s = some (xf, sf)) : ab_Run E 2 yX9_plan cX9_plan 5 (some .int) [vR 0, vI a1, vI a2, vI a3] (some (vI xf)) s sf := by
  unfold fX9_plan at H
  refine ab_intro (own := RX9) (by decide +kernel) rfl (Nat.le_of_ble_eq_true rfl) rfl (fun b G => ?_)
  refine x_aload_n (j := 0) G dX9_plan_0 rfl rfl ?_
  refine x_iconst G dX9_plan_1 (by decide) ?_
  refine pf_877 G sh_0 pt_0_0 dX9_plan_2 H (fun s1 hs1 H => ?_)
  refine x_aload_n (j := 0) G dX9_plan_5 rfl rfl ?_
  refine x_iload_n (j := 1) G dX9_plan_6 rfl rfl ?_
  obtain ⟨r2, s3, c3, H⟩ := b2_some H
  refine cv_1030 (As := [vI a1]) (rest := []) G (rX9_isSort  c3) sh_0 (by omega) rfl rfl (Nat.le_of_ble_eq_true rfl) dX9_plan_7 ?_
  refine x_if_eq (tgt := 31) G dX9_plan_10 (by decide) (fun q4 => ?_) (fun q4 => ?_)
  · have H := if_some_t H q4
    refine x_iconst G dX9_plan_31 (by decide) ?_
    cases H
    exact x_iret G dX9_plan_32
  · have H := if_some_f H q4
    refine x_iload_n (j := 2) G dX9_plan_13 rfl rfl ?_
    refine x_iconst G dX9_plan_14 (by decide) ?_
    refine x_bipush G dX9_plan_15 (by decide) (by decide) ?_
    obtain ⟨r5, s6, c6, H⟩ := b2_some H
    refine cs_946 (As := [vI a2, vI 0, vI 24]) (rest := []) G (rX9_isIn  c6) (by omega) rfl rfl (Nat.le_of_ble_eq_true rfl) dX9_plan_17 ?_
    refine x_if_eq (tgt := 31) G dX9_plan_20 (by decide) (fun q7 => ?_) (fun q7 => ?_)
    · have H := if_some_t H q7
      refine x_iconst G dX9_plan_31 (by decide) ?_
      cases H
      exact x_iret G dX9_plan_32
    · have H := if_some_f H q7
      refine x_aload_n (j := 0) G dX9_plan_23 rfl rfl ?_
      refine x_iload_n (j := 3) G dX9_plan_24 rfl rfl ?_
      obtain ⟨r8, s9, c9, H⟩ := b2_some H
      refine cv_1018 (As := [vI a3]) (rest := []) G (rX9_isHarbour  c9) sh_0 (by omega) rfl rfl (Nat.le_of_ble_eq_true rfl) dX9_plan_25 ?_
      refine x_if_ne (tgt := 33) G dX9_plan_28 (by decide) (fun q10 => ?_) (fun q10 => ?_)
      · have H := if_some_f H q10
        refine x_bipush G dX9_plan_33 (by decide) (by decide) ?_
        refine x_aload_n (j := 0) G dX9_plan_35 rfl rfl ?_
        refine gf_879 G sh_0 pt_0_2 dX9_plan_36 ?_
        refine x_iconst G dX9_plan_39 (by decide) ?_
        refine x_iconst G dX9_plan_40 (by decide) ?_
        refine x_iload_n (j := 1) G dX9_plan_41 rfl rfl ?_
        refine x_imul G dX9_plan_42 ?_
        refine x_iadd G dX9_plan_43 ?_
        refine x_iald G dX9_plan_44 H (fun x11 hx11 H => ?_)
        refine x_imul G dX9_plan_45 ?_
        refine x_aload_n (j := 0) G dX9_plan_46 rfl rfl ?_
        refine gf_879 G sh_0 pt_0_2 dX9_plan_47 ?_
        refine x_iconst G dX9_plan_50 (by decide) ?_
        refine x_iconst G dX9_plan_51 (by decide) ?_
        refine x_iload_n (j := 1) G dX9_plan_52 rfl rfl ?_
        refine x_imul G dX9_plan_53 ?_
        refine x_iadd G dX9_plan_54 ?_
        refine x_iconst G dX9_plan_55 (by decide) ?_
        refine x_iadd G dX9_plan_56 ?_
        refine x_iald G dX9_plan_57 H (fun x12 hx12 H => ?_)
        refine x_iadd G dX9_plan_58 ?_
        refine x_let H (fun v13 hv13 H => ?_)
        refine x_istore (ls' := [(4, vI v13), (0, vR 0), (1, vI a1), (2, vI a2), (3, vI a3)]) G dX9_plan_59 (by decide) rfl ?_
        refine x_aload_n (j := 1) G dX9_plan_61 rfl rfl ?_
        refine gf_879 G sh_0 pt_0_2 dX9_plan_62 ?_
        refine x_iconst G dX9_plan_65 (by decide) ?_
        refine x_iconst G dX9_plan_66 (by decide) ?_
        refine x_iload_n (j := 2) G dX9_plan_67 rfl rfl ?_
        refine x_imul G dX9_plan_68 ?_
        refine x_iadd G dX9_plan_69 ?_
        refine x_iload_n (j := 3) G dX9_plan_70 rfl rfl ?_
        refine x_iast G dX9_plan_71 H (fun s14 hs14 H => ?_)
        refine x_aload_n (j := 1) G dX9_plan_72 rfl rfl ?_
        refine gf_879 G sh_0 pt_0_2 dX9_plan_73 ?_
        refine x_iconst G dX9_plan_76 (by decide) ?_
        refine x_iconst G dX9_plan_77 (by decide) ?_
        refine x_iload_n (j := 2) G dX9_plan_78 rfl rfl ?_
        refine x_imul G dX9_plan_79 ?_
        refine x_iadd G dX9_plan_80 ?_
        refine x_iconst G dX9_plan_81 (by decide) ?_
        refine x_iadd G dX9_plan_82 ?_
        refine x_iload_n (j := 4) G dX9_plan_83 rfl rfl ?_
        refine x_iast G dX9_plan_84 H (fun s15 hs15 H => ?_)
        refine x_iload (j := 0) G dX9_plan_85 rfl ?_
        cases H
        exact x_iret G dX9_plan_87
      · have H := if_some_t H q10
        refine x_iconst G dX9_plan_31 (by decide) ?_
        cases H
        exact x_iret G dX9_plan_32
def fX9_asPlanned_2  : Nat → Int → Mem → Option Mem
  | 0, _, _ => none
  | n + 1, p1, s =>
  if 4 ≤ p1 then
    some s
  else
    (rdI s 2 (w32 (0 + (w32 (2 * p1))))).bind fun x2 =>
    (wrI s 5 p1 x2).bind fun s3 =>
    (rdI s3 2 (w32 ((w32 (0 + (w32 (2 * p1)))) + 1))).bind fun x4 =>
    (wrI s3 6 p1 x4).bind fun s5 =>
    (rdI s5 1 (w32 ((w32 (16 + (w32 (5 * p1)))) + 1))).bind fun x6 =>
    (wrI s5 7 p1 x6).bind fun s7 =>
    lt' (w32 (p1 + 1)) fun v8 =>
    fX9_asPlanned_2 n v8 s7
set_option maxHeartbeats 4000000 in
theorem tX9_asPlanned_2 {E : En} {b : Bn} {sf : Mem}  (G : ab_G E b cX9_asPlanned 2 RX9 none 0)  : ∀ (n : Nat) {p1 : Int} {s : Mem}, fX9_asPlanned_2 n p1 s = some sf → ab_X E b (ab_MQ E b none sf) 2 2 [(0, vR 0), (1, vI p1)] [] s := by
  intro n
  induction n with
  | zero => intro p1 s H; rw [fX9_asPlanned_2] at H; cases H
  | succ n ih =>
    intro p1 s H
    rw [fX9_asPlanned_2] at H
    refine x_iload_n (j := 1) G dX9_asPlanned_2 rfl rfl ?_
    refine x_iconst G dX9_asPlanned_3 (by decide) ?_
    refine x_icmp_ge (tgt := 66) G dX9_asPlanned_4 (by decide) (fun q1 => ?_) (fun q1 => ?_)
    · have H := if_some_t H q1
      cases H
      exact x_vret G dX9_asPlanned_66
    · have H := if_some_f H q1
      refine x_aload_n (j := 0) G dX9_asPlanned_7 rfl rfl ?_
      refine gf_886 G sh_0 pt_0_9 dX9_asPlanned_8 ?_
      refine x_iload_n (j := 1) G dX9_asPlanned_11 rfl rfl ?_
      refine x_aload_n (j := 0) G dX9_asPlanned_12 rfl rfl ?_
      refine gf_879 G sh_0 pt_0_2 dX9_asPlanned_13 ?_
      refine x_iconst G dX9_asPlanned_16 (by decide) ?_
      refine x_iconst G dX9_asPlanned_17 (by decide) ?_
      refine x_iload_n (j := 1) G dX9_asPlanned_18 rfl rfl ?_
      refine x_imul G dX9_asPlanned_19 ?_
      refine x_iadd G dX9_asPlanned_20 ?_
      refine x_iald G dX9_asPlanned_21 H (fun x2 hx2 H => ?_)
      refine x_iast G dX9_asPlanned_22 H (fun s3 hs3 H => ?_)
      refine x_aload_n (j := 0) G dX9_asPlanned_23 rfl rfl ?_
      refine gf_887 G sh_0 pt_0_10 dX9_asPlanned_24 ?_
      refine x_iload_n (j := 1) G dX9_asPlanned_27 rfl rfl ?_
      refine x_aload_n (j := 0) G dX9_asPlanned_28 rfl rfl ?_
      refine gf_879 G sh_0 pt_0_2 dX9_asPlanned_29 ?_
      refine x_iconst G dX9_asPlanned_32 (by decide) ?_
      refine x_iconst G dX9_asPlanned_33 (by decide) ?_
      refine x_iload_n (j := 1) G dX9_asPlanned_34 rfl rfl ?_
      refine x_imul G dX9_asPlanned_35 ?_
      refine x_iadd G dX9_asPlanned_36 ?_
      refine x_iconst G dX9_asPlanned_37 (by decide) ?_
      refine x_iadd G dX9_asPlanned_38 ?_
      refine x_iald G dX9_asPlanned_39 H (fun x4 hx4 H => ?_)
      refine x_iast G dX9_asPlanned_40 H (fun s5 hs5 H => ?_)
      refine x_aload_n (j := 0) G dX9_asPlanned_41 rfl rfl ?_
      refine gf_888 G sh_0 pt_0_11 dX9_asPlanned_42 ?_
      refine x_iload_n (j := 1) G dX9_asPlanned_45 rfl rfl ?_
      refine x_aload_n (j := 0) G dX9_asPlanned_46 rfl rfl ?_
      refine gf_878 G sh_0 pt_0_1 dX9_asPlanned_47 ?_
      refine x_bipush G dX9_asPlanned_50 (by decide) (by decide) ?_
      refine x_iconst G dX9_asPlanned_52 (by decide) ?_
      refine x_iload_n (j := 1) G dX9_asPlanned_53 rfl rfl ?_
      refine x_imul G dX9_asPlanned_54 ?_
      refine x_iadd G dX9_asPlanned_55 ?_
      refine x_iconst G dX9_asPlanned_56 (by decide) ?_
      refine x_iadd G dX9_asPlanned_57 ?_
      refine x_iald G dX9_asPlanned_58 H (fun x6 hx6 H => ?_)
      refine x_iast G dX9_asPlanned_59 H (fun s7 hs7 H => ?_)
      refine x_iincL (j := 1) G dX9_asPlanned_60 rfl (by decide) H (fun v8 hv8 H => x_ls (ls' := [(1, vI v8), (0, vR 0)]) rfl ?_)
      refine x_goto (tgt := 2) G dX9_asPlanned_63 (by decide) ?_
      exact x_subp (ls' := [(0, vR 0), (1, vI v8)]) [1, 0] rfl (ih H)
def fX9_asPlanned  (s : Mem) : Option Mem :=
  fX9_asPlanned_2 600 0 s
set_option maxHeartbeats 4000000 in
theorem rX9_asPlanned {E : En} {sf : Mem}  {s : Mem}  (H : fX9_asPlanned  s = some sf) : ab_Run E 0 yX9_asPlanned cX9_asPlanned 2 none [vR 0] none s sf := by
  unfold fX9_asPlanned at H
  refine ab_intro (own := RX9) (by decide +kernel) rfl (Nat.le_of_ble_eq_true rfl) rfl (fun b G => ?_)
  refine x_iconst G dX9_asPlanned_0 (by decide) ?_
  refine x_istore_n (ls' := [(1, vI 0), (0, vR 0)]) G dX9_asPlanned_1 rfl (by decide) rfl ?_
  exact x_subp (ls' := [(0, vR 0), (1, vI 0)]) [1, 0] rfl (tX9_asPlanned_2 G 600 H)
def fX9_boats_4  : Nat → Int → Int → Mem → Option (Int × Mem)
  | 0, _, _, _ => none
  | n + 1, p1, p2, s =>
  (rdI s 1 184).bind fun x1 =>
  if x1 ≤ p2 then
    some (p1, s)
  else
    (rdI s 1 (w32 (16 + (w32 (5 * p2))))).bind fun x3 =>
    lt' (w32 (p1 + x3)) fun v4 =>
    lt' (w32 (p2 + 1)) fun v5 =>
    fX9_boats_4 n v4 v5 s
set_option maxHeartbeats 4000000 in
theorem tX9_boats_4 {E : En} {b : Bn} {xf : Int} {sf : Mem}  (G : ab_G E b cX9_boats 3 RX9 (some .int) 0)  : ∀ (n : Nat) {p1 : Int} {p2 : Int} {s : Mem}, fX9_boats_4 n p1 p2 s = some (xf, sf) → ab_X E b (ab_MQ E b (some (vI xf)) sf) 3 4 [(0, vR 0), (1, vI p1), (2, vI p2)] [] s := by
  intro n
  induction n with
  | zero => intro p1 p2 s H; rw [fX9_boats_4] at H; cases H
  | succ n ih =>
    intro p1 p2 s H
    rw [fX9_boats_4] at H
    refine x_iload_n (j := 2) G dX9_boats_4 rfl rfl ?_
    refine x_aload_n (j := 0) G dX9_boats_5 rfl rfl ?_
    refine gf_878 G sh_0 pt_0_1 dX9_boats_6 ?_
    refine x_sipush G dX9_boats_9 (by decide) (by decide) ?_
    refine x_iald G dX9_boats_12 H (fun x1 hx1 H => ?_)
    refine x_icmp_ge (tgt := 36) G dX9_boats_13 (by decide) (fun q2 => ?_) (fun q2 => ?_)
    · have H := if_some_t H q2
      refine x_iload_n (j := 1) G dX9_boats_36 rfl rfl ?_
      cases H
      exact x_iret G dX9_boats_37
    · have H := if_some_f H q2
      refine x_iload_n (j := 1) G dX9_boats_16 rfl rfl ?_
      refine x_aload_n (j := 0) G dX9_boats_17 rfl rfl ?_
      refine gf_878 G sh_0 pt_0_1 dX9_boats_18 ?_
      refine x_bipush G dX9_boats_21 (by decide) (by decide) ?_
      refine x_iconst G dX9_boats_23 (by decide) ?_
      refine x_iload_n (j := 2) G dX9_boats_24 rfl rfl ?_
      refine x_imul G dX9_boats_25 ?_
      refine x_iadd G dX9_boats_26 ?_
      refine x_iald G dX9_boats_27 H (fun x3 hx3 H => ?_)
      refine x_iadd G dX9_boats_28 ?_
      refine x_let H (fun v4 hv4 H => ?_)
      refine x_istore_n (ls' := [(1, vI v4), (0, vR 0), (2, vI p2)]) G dX9_boats_29 rfl (by decide) rfl ?_
      refine x_iincL (j := 2) G dX9_boats_30 rfl (by decide) H (fun v5 hv5 H => x_ls (ls' := [(2, vI v5), (1, vI v4), (0, vR 0)]) rfl ?_)
      refine x_goto (tgt := 4) G dX9_boats_33 (by decide) ?_
      exact x_subp (ls' := [(0, vR 0), (1, vI v4), (2, vI v5)]) [2, 1, 0] rfl (ih H)
def fX9_boats  (s : Mem) : Option (Int × Mem) :=
  fX9_boats_4 600 0 0 s
set_option maxHeartbeats 4000000 in
theorem rX9_boats {E : En} {xf : Int} {sf : Mem}  {s : Mem}  (H : fX9_boats  s = some (xf, sf)) : ab_Run E 0 yX9_boats cX9_boats 3 (some .int) [vR 0] (some (vI xf)) s sf := by
  unfold fX9_boats at H
  refine ab_intro (own := RX9) (by decide +kernel) rfl (Nat.le_of_ble_eq_true rfl) rfl (fun b G => ?_)
  refine x_iconst G dX9_boats_0 (by decide) ?_
  refine x_istore_n (ls' := [(1, vI 0), (0, vR 0)]) G dX9_boats_1 rfl (by decide) rfl ?_
  refine x_iconst G dX9_boats_2 (by decide) ?_
  refine x_istore_n (ls' := [(2, vI 0), (1, vI 0), (0, vR 0)]) G dX9_boats_3 rfl (by decide) rfl ?_
  exact x_subp (ls' := [(0, vR 0), (1, vI 0), (2, vI 0)]) [2, 1, 0] rfl (tX9_boats_4 G 600 H)
def fX9_weightOf (a1 : Int) (s : Mem) : Option (Int × Mem) :=
  (rdI s 8 a1).bind fun x1 =>
  (rdI s 1 (w32 ((w32 (16 + (w32 (5 * x1)))) + 3))).bind fun x2 =>
  (rdI s 8 a1).bind fun x3 =>
  (rdI s 1 (w32 ((w32 (16 + (w32 (5 * x3)))) + 4))).bind fun x4 =>
  some (w32 (x2 * x4), s)
set_option maxHeartbeats 4000000 in
theorem rX9_weightOf {E : En} {xf : Int} {sf : Mem} {a1 : Int} {s : Mem}  (H : fX9_weightOf a1 s = some (xf, sf)) : ab_Run E 0 yX9_weightOf cX9_weightOf 2 (some .int) [vR 0, vI a1] (some (vI xf)) s sf := by
  unfold fX9_weightOf at H
  refine ab_intro (own := RX9) (by decide +kernel) rfl (Nat.le_of_ble_eq_true rfl) rfl (fun b G => ?_)
  refine x_aload_n (j := 0) G dX9_weightOf_0 rfl rfl ?_
  refine gf_878 G sh_0 pt_0_1 dX9_weightOf_1 ?_
  refine x_bipush G dX9_weightOf_4 (by decide) (by decide) ?_
  refine x_iconst G dX9_weightOf_6 (by decide) ?_
  refine x_aload_n (j := 0) G dX9_weightOf_7 rfl rfl ?_
  refine gf_889 G sh_0 pt_0_12 dX9_weightOf_8 ?_
  refine x_iload_n (j := 1) G dX9_weightOf_11 rfl rfl ?_
  refine x_iald G dX9_weightOf_12 H (fun x1 hx1 H => ?_)
  refine x_imul G dX9_weightOf_13 ?_
  refine x_iadd G dX9_weightOf_14 ?_
  refine x_iconst G dX9_weightOf_15 (by decide) ?_
  refine x_iadd G dX9_weightOf_16 ?_
  refine x_iald G dX9_weightOf_17 H (fun x2 hx2 H => ?_)
  refine x_aload_n (j := 0) G dX9_weightOf_18 rfl rfl ?_
  refine gf_878 G sh_0 pt_0_1 dX9_weightOf_19 ?_
  refine x_bipush G dX9_weightOf_22 (by decide) (by decide) ?_
  refine x_iconst G dX9_weightOf_24 (by decide) ?_
  refine x_aload_n (j := 0) G dX9_weightOf_25 rfl rfl ?_
  refine gf_889 G sh_0 pt_0_12 dX9_weightOf_26 ?_
  refine x_iload_n (j := 1) G dX9_weightOf_29 rfl rfl ?_
  refine x_iald G dX9_weightOf_30 H (fun x3 hx3 H => ?_)
  refine x_imul G dX9_weightOf_31 ?_
  refine x_iadd G dX9_weightOf_32 ?_
  refine x_iconst G dX9_weightOf_33 (by decide) ?_
  refine x_iadd G dX9_weightOf_34 ?_
  refine x_iald G dX9_weightOf_35 H (fun x4 hx4 H => ?_)
  refine x_imul G dX9_weightOf_36 ?_
  cases H
  exact x_iret G dX9_weightOf_37
def fX9_nextIn_157 (k7 : Int → Int → Int → Int → Int → Int → Mem → Option (Int × Mem)) (p1 : Int) (p2 : Int) (p3 : Int) (p4 : Int) (p6 : Int) (t0 : Int) (s : Mem) : Option (Int × Mem) :=
  lt' (w32 (p6 + 1)) fun v1 =>
  k7 p1 p2 p3 p4 t0 v1 s
set_option maxHeartbeats 4000000 in
theorem tX9_nextIn_157 {E : En} {b : Bn} {xf : Int} {sf : Mem} {k7 : Int → Int → Int → Int → Int → Int → Mem → Option (Int × Mem)} {p1 : Int} {p2 : Int} {p3 : Int} {p4 : Int} {p6 : Int} {t0 : Int} {s : Mem} (G : ab_G E b cX9_nextIn 9 RX9 (some .int) 1)  (K7 : ∀ {p1 : Int} {p2 : Int} {p3 : Int} {p4 : Int} {p5 : Int} {p6 : Int} {s : Mem},  k7 p1 p2 p3 p4 p5 p6 s = some (xf, sf) → ab_X E b (ab_MQ E b (some (vI xf)) sf) 9 7 [(0, vR 0), (1, vI p1), (2, vI p2), (3, vI p3), (4, vI p4), (5, vI p5), (6, vI p6)] [] s) (H : fX9_nextIn_157 k7 p1 p2 p3 p4 p6 t0 s = some (xf, sf)) : ab_X E b (ab_MQ E b (some (vI xf)) sf) 9 157 [(0, vR 0), (1, vI p1), (2, vI p2), (3, vI p3), (4, vI p4), (6, vI p6)] [vI t0] s := by
  unfold fX9_nextIn_157 at H
  refine x_istore (ls' := [(5, vI t0), (0, vR 0), (1, vI p1), (2, vI p2), (3, vI p3), (4, vI p4), (6, vI p6)]) G dX9_nextIn_157 (by decide) rfl ?_
  refine x_iincL (j := 6) G dX9_nextIn_159 rfl (by decide) H (fun v1 hv1 H => x_ls (ls' := [(6, vI v1), (5, vI t0), (0, vR 0), (1, vI p1), (2, vI p2), (3, vI p3), (4, vI p4)]) rfl ?_)
  refine x_goto (tgt := 7) G dX9_nextIn_162 (by decide) ?_
  exact x_subp (ls' := [(0, vR 0), (1, vI p1), (2, vI p2), (3, vI p3), (4, vI p4), (5, vI t0), (6, vI v1)]) [2, 3, 4, 5, 6, 1, 0] rfl (K7 H)
def fX9_nextIn_150 (k7 : Int → Int → Int → Int → Int → Int → Mem → Option (Int × Mem)) (p1 : Int) (p2 : Int) (p3 : Int) (p4 : Int) (p6 : Int) (s : Mem) : Option (Int × Mem) :=
  fX9_nextIn_157 k7 p1 p2 p3 p4 p6 p6 s
set_option maxHeartbeats 4000000 in
theorem tX9_nextIn_150 {E : En} {b : Bn} {xf : Int} {sf : Mem} {k7 : Int → Int → Int → Int → Int → Int → Mem → Option (Int × Mem)} {p1 : Int} {p2 : Int} {p3 : Int} {p4 : Int} {p6 : Int} {s : Mem} (G : ab_G E b cX9_nextIn 9 RX9 (some .int) 1)  (K7 : ∀ {p1 : Int} {p2 : Int} {p3 : Int} {p4 : Int} {p5 : Int} {p6 : Int} {s : Mem},  k7 p1 p2 p3 p4 p5 p6 s = some (xf, sf) → ab_X E b (ab_MQ E b (some (vI xf)) sf) 9 7 [(0, vR 0), (1, vI p1), (2, vI p2), (3, vI p3), (4, vI p4), (5, vI p5), (6, vI p6)] [] s) (H : fX9_nextIn_150 k7 p1 p2 p3 p4 p6 s = some (xf, sf)) : ab_X E b (ab_MQ E b (some (vI xf)) sf) 9 150 [(0, vR 0), (1, vI p1), (2, vI p2), (3, vI p3), (4, vI p4), (6, vI p6)] [] s := by
  unfold fX9_nextIn_150 at H
  refine x_iload (j := 5) G dX9_nextIn_150 rfl ?_
  refine x_goto (tgt := 157) G dX9_nextIn_152 (by decide) ?_
  exact x_subp (ls' := [(0, vR 0), (1, vI p1), (2, vI p2), (3, vI p3), (4, vI p4), (6, vI p6)]) [0, 1, 2, 3, 4, 5] rfl (tX9_nextIn_157 G  K7 H)
def fX9_nextIn_155 (k7 : Int → Int → Int → Int → Int → Int → Mem → Option (Int × Mem)) (p1 : Int) (p2 : Int) (p3 : Int) (p4 : Int) (p5 : Int) (p6 : Int) (s : Mem) : Option (Int × Mem) :=
  fX9_nextIn_157 k7 p1 p2 p3 p4 p6 p5 s
set_option maxHeartbeats 4000000 in
theorem tX9_nextIn_155 {E : En} {b : Bn} {xf : Int} {sf : Mem} {k7 : Int → Int → Int → Int → Int → Int → Mem → Option (Int × Mem)} {p1 : Int} {p2 : Int} {p3 : Int} {p4 : Int} {p5 : Int} {p6 : Int} {s : Mem} (G : ab_G E b cX9_nextIn 9 RX9 (some .int) 1)  (K7 : ∀ {p1 : Int} {p2 : Int} {p3 : Int} {p4 : Int} {p5 : Int} {p6 : Int} {s : Mem},  k7 p1 p2 p3 p4 p5 p6 s = some (xf, sf) → ab_X E b (ab_MQ E b (some (vI xf)) sf) 9 7 [(0, vR 0), (1, vI p1), (2, vI p2), (3, vI p3), (4, vI p4), (5, vI p5), (6, vI p6)] [] s) (H : fX9_nextIn_155 k7 p1 p2 p3 p4 p5 p6 s = some (xf, sf)) : ab_X E b (ab_MQ E b (some (vI xf)) sf) 9 155 [(0, vR 0), (1, vI p1), (2, vI p2), (3, vI p3), (4, vI p4), (5, vI p5), (6, vI p6)] [] s := by
  unfold fX9_nextIn_155 at H
  refine x_iload (j := 5) G dX9_nextIn_155 rfl ?_
  exact x_subp (ls' := [(0, vR 0), (1, vI p1), (2, vI p2), (3, vI p3), (4, vI p4), (6, vI p6)]) [0, 1, 2, 3, 4, 6] rfl (tX9_nextIn_157 G  K7 H)
def fX9_nextIn_113 (k7 : Int → Int → Int → Int → Int → Int → Mem → Option (Int × Mem)) (p1 : Int) (p2 : Int) (p3 : Int) (p4 : Int) (p5 : Int) (p6 : Int) (p7 : Int) (t0 : Int) (s : Mem) : Option (Int × Mem) :=
  if p5 = ((-4)) then
    fX9_nextIn_150 k7 p1 p2 p3 p4 p6 s
  else
    if t0 = 0 then
      if p7 = 0 then
        fX9_nextIn_155 k7 p1 p2 p3 p4 p5 p6 s
      else
        fX9_nextIn_150 k7 p1 p2 p3 p4 p6 s
    else
      b2 (fX9_weightOf p6 s) fun r4 s5 =>
      b2 (fX9_weightOf p5 s5) fun r6 s7 =>
      if r4 ≤ r6 then
        fX9_nextIn_155 k7 p1 p2 p3 p4 p5 p6 s7
      else
        fX9_nextIn_150 k7 p1 p2 p3 p4 p6 s7
set_option maxHeartbeats 4000000 in
theorem tX9_nextIn_113 {E : En} {b : Bn} {xf : Int} {sf : Mem} {k7 : Int → Int → Int → Int → Int → Int → Mem → Option (Int × Mem)} {p1 : Int} {p2 : Int} {p3 : Int} {p4 : Int} {p5 : Int} {p6 : Int} {p7 : Int} {t0 : Int} {s : Mem} (G : ab_G E b cX9_nextIn 9 RX9 (some .int) 1)  (K7 : ∀ {p1 : Int} {p2 : Int} {p3 : Int} {p4 : Int} {p5 : Int} {p6 : Int} {s : Mem},  k7 p1 p2 p3 p4 p5 p6 s = some (xf, sf) → ab_X E b (ab_MQ E b (some (vI xf)) sf) 9 7 [(0, vR 0), (1, vI p1), (2, vI p2), (3, vI p3), (4, vI p4), (5, vI p5), (6, vI p6)] [] s) (H : fX9_nextIn_113 k7 p1 p2 p3 p4 p5 p6 p7 t0 s = some (xf, sf)) : ab_X E b (ab_MQ E b (some (vI xf)) sf) 9 113 [(0, vR 0), (1, vI p1), (2, vI p2), (3, vI p3), (4, vI p4), (5, vI p5), (6, vI p6), (7, vI p7)] [vI t0] s := by
  unfold fX9_nextIn_113 at H
  refine x_istore (ls' := [(8, vI t0), (0, vR 0), (1, vI p1), (2, vI p2), (3, vI p3), (4, vI p4), (5, vI p5), (6, vI p6), (7, vI p7)]) G dX9_nextIn_113 (by decide) rfl ?_
  refine x_iload (j := 6) G dX9_nextIn_115 rfl ?_
  refine x_bipush G dX9_nextIn_117 (by decide) (by decide) ?_
  refine x_icmp_eq (tgt := 150) G dX9_nextIn_119 (by decide) (fun q1 => ?_) (fun q1 => ?_)
  · have H := if_some_t H q1
    exact x_subp (ls' := [(0, vR 0), (1, vI p1), (2, vI p2), (3, vI p3), (4, vI p4), (6, vI p6)]) [1, 2, 3, 4, 5, 7] rfl (tX9_nextIn_150 G  K7 H)
  · have H := if_some_f H q1
    refine x_iload (j := 0) G dX9_nextIn_122 rfl ?_
    refine x_if_eq (tgt := 145) G dX9_nextIn_124 (by decide) (fun q2 => ?_) (fun q2 => ?_)
    · have H := if_some_t H q2
      refine x_iload (j := 8) G dX9_nextIn_145 rfl ?_
      refine x_if_eq (tgt := 155) G dX9_nextIn_147 (by decide) (fun q3 => ?_) (fun q3 => ?_)
      · have H := if_some_t H q3
        exact x_subp (ls' := [(0, vR 0), (1, vI p1), (2, vI p2), (3, vI p3), (4, vI p4), (5, vI p5), (6, vI p6)]) [1, 2, 3, 4, 5, 6, 7] rfl (tX9_nextIn_155 G  K7 H)
      · have H := if_some_f H q3
        exact x_subp (ls' := [(0, vR 0), (1, vI p1), (2, vI p2), (3, vI p3), (4, vI p4), (6, vI p6)]) [1, 2, 3, 4, 5, 7] rfl (tX9_nextIn_150 G  K7 H)
    · have H := if_some_f H q2
      refine x_aload_n (j := 1) G dX9_nextIn_127 rfl rfl ?_
      refine x_iload (j := 7) G dX9_nextIn_128 rfl ?_
      obtain ⟨r4, s5, c5, H⟩ := b2_some H
      refine cv_1076 (As := [vI p6]) (rest := []) G (rX9_weightOf  c5) sh_0 (by omega) rfl rfl (Nat.le_of_ble_eq_true rfl) dX9_nextIn_130 ?_
      refine x_aload_n (j := 1) G dX9_nextIn_133 rfl rfl ?_
      refine x_iload (j := 6) G dX9_nextIn_134 rfl ?_
      obtain ⟨r6, s7, c7, H⟩ := b2_some H
      refine cv_1076 (As := [vI p5]) (rest := [vI r4]) G (rX9_weightOf  c7) sh_0 (by omega) rfl rfl (Nat.le_of_ble_eq_true rfl) dX9_nextIn_136 ?_
      refine x_icmp_le (tgt := 155) G dX9_nextIn_139 (by decide) (fun q8 => ?_) (fun q8 => ?_)
      · have H := if_some_t H q8
        exact x_subp (ls' := [(0, vR 0), (1, vI p1), (2, vI p2), (3, vI p3), (4, vI p4), (5, vI p5), (6, vI p6)]) [1, 2, 3, 4, 5, 6, 7] rfl (tX9_nextIn_155 G  K7 H)
      · have H := if_some_f H q8
        refine x_goto (tgt := 150) G dX9_nextIn_142 (by decide) ?_
        exact x_subp (ls' := [(0, vR 0), (1, vI p1), (2, vI p2), (3, vI p3), (4, vI p4), (6, vI p6)]) [1, 2, 3, 4, 5, 7] rfl (tX9_nextIn_150 G  K7 H)
def fX9_nextIn_112 (k7 : Int → Int → Int → Int → Int → Int → Mem → Option (Int × Mem)) (p1 : Int) (p2 : Int) (p3 : Int) (p4 : Int) (p5 : Int) (p6 : Int) (p7 : Int) (s : Mem) : Option (Int × Mem) :=
  fX9_nextIn_113 k7 p1 p2 p3 p4 p5 p6 p7 0 s
set_option maxHeartbeats 4000000 in
theorem tX9_nextIn_112 {E : En} {b : Bn} {xf : Int} {sf : Mem} {k7 : Int → Int → Int → Int → Int → Int → Mem → Option (Int × Mem)} {p1 : Int} {p2 : Int} {p3 : Int} {p4 : Int} {p5 : Int} {p6 : Int} {p7 : Int} {s : Mem} (G : ab_G E b cX9_nextIn 9 RX9 (some .int) 1)  (K7 : ∀ {p1 : Int} {p2 : Int} {p3 : Int} {p4 : Int} {p5 : Int} {p6 : Int} {s : Mem},  k7 p1 p2 p3 p4 p5 p6 s = some (xf, sf) → ab_X E b (ab_MQ E b (some (vI xf)) sf) 9 7 [(0, vR 0), (1, vI p1), (2, vI p2), (3, vI p3), (4, vI p4), (5, vI p5), (6, vI p6)] [] s) (H : fX9_nextIn_112 k7 p1 p2 p3 p4 p5 p6 p7 s = some (xf, sf)) : ab_X E b (ab_MQ E b (some (vI xf)) sf) 9 112 [(0, vR 0), (1, vI p1), (2, vI p2), (3, vI p3), (4, vI p4), (5, vI p5), (6, vI p6), (7, vI p7)] [] s := by
  unfold fX9_nextIn_112 at H
  refine x_iconst G dX9_nextIn_112 (by decide) ?_
  exact x_subp (ls' := [(0, vR 0), (1, vI p1), (2, vI p2), (3, vI p3), (4, vI p4), (5, vI p5), (6, vI p6), (7, vI p7)]) [0, 1, 2, 3, 4, 5, 6, 7] rfl (tX9_nextIn_113 G  K7 H)
def fX9_nextIn_79 (k7 : Int → Int → Int → Int → Int → Int → Mem → Option (Int × Mem)) (p1 : Int) (p2 : Int) (p3 : Int) (p4 : Int) (p5 : Int) (p6 : Int) (t0 : Int) (s : Mem) : Option (Int × Mem) :=
  if p4 = 0 then
    fX9_nextIn_112 k7 p1 p2 p3 p4 p5 p6 t0 s
  else
    if p5 = ((-4)) then
      fX9_nextIn_112 k7 p1 p2 p3 p4 p5 p6 t0 s
    else
      b2 (fX9_weightOf p6 s) fun r3 s4 =>
      b2 (fX9_weightOf p5 s4) fun r5 s6 =>
      if r3 = r5 then
        fX9_nextIn_112 k7 p1 p2 p3 p4 p5 p6 t0 s6
      else
        fX9_nextIn_113 k7 p1 p2 p3 p4 p5 p6 t0 1 s6
set_option maxHeartbeats 4000000 in
theorem tX9_nextIn_79 {E : En} {b : Bn} {xf : Int} {sf : Mem} {k7 : Int → Int → Int → Int → Int → Int → Mem → Option (Int × Mem)} {p1 : Int} {p2 : Int} {p3 : Int} {p4 : Int} {p5 : Int} {p6 : Int} {t0 : Int} {s : Mem} (G : ab_G E b cX9_nextIn 9 RX9 (some .int) 1)  (K7 : ∀ {p1 : Int} {p2 : Int} {p3 : Int} {p4 : Int} {p5 : Int} {p6 : Int} {s : Mem},  k7 p1 p2 p3 p4 p5 p6 s = some (xf, sf) → ab_X E b (ab_MQ E b (some (vI xf)) sf) 9 7 [(0, vR 0), (1, vI p1), (2, vI p2), (3, vI p3), (4, vI p4), (5, vI p5), (6, vI p6)] [] s) (H : fX9_nextIn_79 k7 p1 p2 p3 p4 p5 p6 t0 s = some (xf, sf)) : ab_X E b (ab_MQ E b (some (vI xf)) sf) 9 79 [(0, vR 0), (1, vI p1), (2, vI p2), (3, vI p3), (4, vI p4), (5, vI p5), (6, vI p6)] [vI t0] s := by
  unfold fX9_nextIn_79 at H
  refine x_istore (ls' := [(7, vI t0), (0, vR 0), (1, vI p1), (2, vI p2), (3, vI p3), (4, vI p4), (5, vI p5), (6, vI p6)]) G dX9_nextIn_79 (by decide) rfl ?_
  refine x_iload (j := 5) G dX9_nextIn_81 rfl ?_
  refine x_if_eq (tgt := 112) G dX9_nextIn_83 (by decide) (fun q1 => ?_) (fun q1 => ?_)
  · have H := if_some_t H q1
    exact x_subp (ls' := [(0, vR 0), (1, vI p1), (2, vI p2), (3, vI p3), (4, vI p4), (5, vI p5), (6, vI p6), (7, vI t0)]) [1, 2, 3, 4, 5, 6, 7, 0] rfl (tX9_nextIn_112 G  K7 H)
  · have H := if_some_f H q1
    refine x_iload (j := 6) G dX9_nextIn_86 rfl ?_
    refine x_bipush G dX9_nextIn_88 (by decide) (by decide) ?_
    refine x_icmp_eq (tgt := 112) G dX9_nextIn_90 (by decide) (fun q2 => ?_) (fun q2 => ?_)
    · have H := if_some_t H q2
      exact x_subp (ls' := [(0, vR 0), (1, vI p1), (2, vI p2), (3, vI p3), (4, vI p4), (5, vI p5), (6, vI p6), (7, vI t0)]) [1, 2, 3, 4, 5, 6, 7, 0] rfl (tX9_nextIn_112 G  K7 H)
    · have H := if_some_f H q2
      refine x_aload_n (j := 1) G dX9_nextIn_93 rfl rfl ?_
      refine x_iload (j := 7) G dX9_nextIn_94 rfl ?_
      obtain ⟨r3, s4, c4, H⟩ := b2_some H
      refine cv_1076 (As := [vI p6]) (rest := []) G (rX9_weightOf  c4) sh_0 (by omega) rfl rfl (Nat.le_of_ble_eq_true rfl) dX9_nextIn_96 ?_
      refine x_aload_n (j := 1) G dX9_nextIn_99 rfl rfl ?_
      refine x_iload (j := 6) G dX9_nextIn_100 rfl ?_
      obtain ⟨r5, s6, c6, H⟩ := b2_some H
      refine cv_1076 (As := [vI p5]) (rest := [vI r3]) G (rX9_weightOf  c6) sh_0 (by omega) rfl rfl (Nat.le_of_ble_eq_true rfl) dX9_nextIn_102 ?_
      refine x_icmp_eq (tgt := 112) G dX9_nextIn_105 (by decide) (fun q7 => ?_) (fun q7 => ?_)
      · have H := if_some_t H q7
        exact x_subp (ls' := [(0, vR 0), (1, vI p1), (2, vI p2), (3, vI p3), (4, vI p4), (5, vI p5), (6, vI p6), (7, vI t0)]) [1, 2, 3, 4, 5, 6, 7, 0] rfl (tX9_nextIn_112 G  K7 H)
      · have H := if_some_f H q7
        refine x_iconst G dX9_nextIn_108 (by decide) ?_
        refine x_goto (tgt := 113) G dX9_nextIn_109 (by decide) ?_
        exact x_subp (ls' := [(0, vR 0), (1, vI p1), (2, vI p2), (3, vI p3), (4, vI p4), (5, vI p5), (6, vI p6), (7, vI t0)]) [1, 2, 3, 4, 5, 6, 7, 0] rfl (tX9_nextIn_113 G  K7 H)
def fX9_nextIn_78 (k7 : Int → Int → Int → Int → Int → Int → Mem → Option (Int × Mem)) (p1 : Int) (p2 : Int) (p3 : Int) (p4 : Int) (p5 : Int) (p6 : Int) (s : Mem) : Option (Int × Mem) :=
  fX9_nextIn_79 k7 p1 p2 p3 p4 p5 p6 0 s
set_option maxHeartbeats 4000000 in
theorem tX9_nextIn_78 {E : En} {b : Bn} {xf : Int} {sf : Mem} {k7 : Int → Int → Int → Int → Int → Int → Mem → Option (Int × Mem)} {p1 : Int} {p2 : Int} {p3 : Int} {p4 : Int} {p5 : Int} {p6 : Int} {s : Mem} (G : ab_G E b cX9_nextIn 9 RX9 (some .int) 1)  (K7 : ∀ {p1 : Int} {p2 : Int} {p3 : Int} {p4 : Int} {p5 : Int} {p6 : Int} {s : Mem},  k7 p1 p2 p3 p4 p5 p6 s = some (xf, sf) → ab_X E b (ab_MQ E b (some (vI xf)) sf) 9 7 [(0, vR 0), (1, vI p1), (2, vI p2), (3, vI p3), (4, vI p4), (5, vI p5), (6, vI p6)] [] s) (H : fX9_nextIn_78 k7 p1 p2 p3 p4 p5 p6 s = some (xf, sf)) : ab_X E b (ab_MQ E b (some (vI xf)) sf) 9 78 [(0, vR 0), (1, vI p1), (2, vI p2), (3, vI p3), (4, vI p4), (5, vI p5), (6, vI p6)] [] s := by
  unfold fX9_nextIn_78 at H
  refine x_iconst G dX9_nextIn_78 (by decide) ?_
  exact x_subp (ls' := [(0, vR 0), (1, vI p1), (2, vI p2), (3, vI p3), (4, vI p4), (5, vI p5), (6, vI p6)]) [0, 1, 2, 3, 4, 5, 6] rfl (tX9_nextIn_79 G  K7 H)
def fX9_nextIn_7  : Nat → Int → Int → Int → Int → Int → Int → Mem → Option (Int × Mem)
  | 0, _, _, _, _, _, _, _ => none
  | n + 1, p1, p2, p3, p4, p5, p6, s =>
  if p3 ≤ p6 then
    some (p5, s)
  else
    (rdZ s 12 p6).bind fun x2 =>
    if x2 = 0 then
      (rdI s 9 p6).bind fun x5 =>
      if p2 < x5 then
        lt' (w32 (p6 + 1)) fun v7 =>
        fX9_nextIn_7 n p1 p2 p3 p4 p5 v7 s
      else
        (rdI s 8 p6).bind fun x8 =>
        (rdI s 6 x8).bind fun x9 =>
        if x9 = p1 then
          if p5 = ((-4)) then
            fX9_nextIn_78 (fun p1 p2 p3 p4 p5 p6 s => fX9_nextIn_7 n p1 p2 p3 p4 p5 p6 s) p1 p2 p3 p4 p5 p6 s
          else
            (rdI s 9 p6).bind fun x13 =>
            (rdI s 9 p5).bind fun x14 =>
            if x14 ≤ x13 then
              fX9_nextIn_78 (fun p1 p2 p3 p4 p5 p6 s => fX9_nextIn_7 n p1 p2 p3 p4 p5 p6 s) p1 p2 p3 p4 p5 p6 s
            else
              fX9_nextIn_79 (fun p1 p2 p3 p4 p5 p6 s => fX9_nextIn_7 n p1 p2 p3 p4 p5 p6 s) p1 p2 p3 p4 p5 p6 1 s
        else
          lt' (w32 (p6 + 1)) fun v11 =>
          fX9_nextIn_7 n p1 p2 p3 p4 p5 v11 s
    else
      lt' (w32 (p6 + 1)) fun v4 =>
      fX9_nextIn_7 n p1 p2 p3 p4 p5 v4 s
set_option maxHeartbeats 4000000 in
theorem tX9_nextIn_7 {E : En} {b : Bn} {xf : Int} {sf : Mem}  (G : ab_G E b cX9_nextIn 9 RX9 (some .int) 1)  : ∀ (n : Nat) {p1 : Int} {p2 : Int} {p3 : Int} {p4 : Int} {p5 : Int} {p6 : Int} {s : Mem}, fX9_nextIn_7 n p1 p2 p3 p4 p5 p6 s = some (xf, sf) → ab_X E b (ab_MQ E b (some (vI xf)) sf) 9 7 [(0, vR 0), (1, vI p1), (2, vI p2), (3, vI p3), (4, vI p4), (5, vI p5), (6, vI p6)] [] s := by
  intro n
  induction n with
  | zero => intro p1 p2 p3 p4 p5 p6 s H; rw [fX9_nextIn_7] at H; cases H
  | succ n ih =>
    intro p1 p2 p3 p4 p5 p6 s H
    rw [fX9_nextIn_7] at H
    refine x_iload (j := 6) G dX9_nextIn_7 rfl ?_
    refine x_iload_n (j := 3) G dX9_nextIn_9 rfl rfl ?_
    refine x_icmp_ge (tgt := 165) G dX9_nextIn_10 (by decide) (fun q1 => ?_) (fun q1 => ?_)
    · have H := if_some_t H q1
      refine x_iload (j := 5) G dX9_nextIn_165 rfl ?_
      cases H
      exact x_iret G dX9_nextIn_167
    · have H := if_some_f H q1
      refine x_aload_n (j := 0) G dX9_nextIn_13 rfl rfl ?_
      refine gf_893 G sh_0 pt_0_16 dX9_nextIn_14 ?_
      refine x_iload (j := 6) G dX9_nextIn_17 rfl ?_
      refine x_zald G dX9_nextIn_19 H (fun x2 hx2 H => ?_)
      refine x_if_ne (tgt := 159) G dX9_nextIn_20 (by decide) (fun q3 => ?_) (fun q3 => ?_)
      · have H := if_some_f H q3
        refine x_iincL (j := 6) G dX9_nextIn_159 rfl (by decide) H (fun v4 hv4 H => x_ls (ls' := [(6, vI v4), (0, vR 0), (1, vI p1), (2, vI p2), (3, vI p3), (4, vI p4), (5, vI p5)]) rfl ?_)
        refine x_goto (tgt := 7) G dX9_nextIn_162 (by decide) ?_
        exact x_subp (ls' := [(0, vR 0), (1, vI p1), (2, vI p2), (3, vI p3), (4, vI p4), (5, vI p5), (6, vI v4)]) [1, 2, 3, 4, 5, 6, 0] rfl (ih H)
      · have H := if_some_t H q3
        refine x_aload_n (j := 0) G dX9_nextIn_23 rfl rfl ?_
        refine gf_890 G sh_0 pt_0_13 dX9_nextIn_24 ?_
        refine x_iload (j := 6) G dX9_nextIn_27 rfl ?_
        refine x_iald G dX9_nextIn_29 H (fun x5 hx5 H => ?_)
        refine x_iload_n (j := 2) G dX9_nextIn_30 rfl rfl ?_
        refine x_icmp_gt (tgt := 159) G dX9_nextIn_31 (by decide) (fun q6 => ?_) (fun q6 => ?_)
        · have H := if_some_t H q6
          refine x_iincL (j := 6) G dX9_nextIn_159 rfl (by decide) H (fun v7 hv7 H => x_ls (ls' := [(6, vI v7), (0, vR 0), (1, vI p1), (2, vI p2), (3, vI p3), (4, vI p4), (5, vI p5)]) rfl ?_)
          refine x_goto (tgt := 7) G dX9_nextIn_162 (by decide) ?_
          exact x_subp (ls' := [(0, vR 0), (1, vI p1), (2, vI p2), (3, vI p3), (4, vI p4), (5, vI p5), (6, vI v7)]) [1, 2, 3, 4, 5, 6, 0] rfl (ih H)
        · have H := if_some_f H q6
          refine x_aload_n (j := 0) G dX9_nextIn_34 rfl rfl ?_
          refine gf_887 G sh_0 pt_0_10 dX9_nextIn_35 ?_
          refine x_aload_n (j := 0) G dX9_nextIn_38 rfl rfl ?_
          refine gf_889 G sh_0 pt_0_12 dX9_nextIn_39 ?_
          refine x_iload (j := 6) G dX9_nextIn_42 rfl ?_
          refine x_iald G dX9_nextIn_44 H (fun x8 hx8 H => ?_)
          refine x_iald G dX9_nextIn_45 H (fun x9 hx9 H => ?_)
          refine x_iload_n (j := 1) G dX9_nextIn_46 rfl rfl ?_
          refine x_icmp_ne (tgt := 159) G dX9_nextIn_47 (by decide) (fun q10 => ?_) (fun q10 => ?_)
          · have H := if_some_f H q10
            refine x_iincL (j := 6) G dX9_nextIn_159 rfl (by decide) H (fun v11 hv11 H => x_ls (ls' := [(6, vI v11), (0, vR 0), (1, vI p1), (2, vI p2), (3, vI p3), (4, vI p4), (5, vI p5)]) rfl ?_)
            refine x_goto (tgt := 7) G dX9_nextIn_162 (by decide) ?_
            exact x_subp (ls' := [(0, vR 0), (1, vI p1), (2, vI p2), (3, vI p3), (4, vI p4), (5, vI p5), (6, vI v11)]) [1, 2, 3, 4, 5, 6, 0] rfl (ih H)
          · have H := if_some_t H q10
            refine x_iload (j := 5) G dX9_nextIn_50 rfl ?_
            refine x_bipush G dX9_nextIn_52 (by decide) (by decide) ?_
            refine x_icmp_eq (tgt := 78) G dX9_nextIn_54 (by decide) (fun q12 => ?_) (fun q12 => ?_)
            · have H := if_some_t H q12
              exact x_subp (ls' := [(0, vR 0), (1, vI p1), (2, vI p2), (3, vI p3), (4, vI p4), (5, vI p5), (6, vI p6)]) [0, 1, 2, 3, 4, 5, 6] rfl (tX9_nextIn_78 G  ih H)
            · have H := if_some_f H q12
              refine x_aload_n (j := 0) G dX9_nextIn_57 rfl rfl ?_
              refine gf_890 G sh_0 pt_0_13 dX9_nextIn_58 ?_
              refine x_iload (j := 6) G dX9_nextIn_61 rfl ?_
              refine x_iald G dX9_nextIn_63 H (fun x13 hx13 H => ?_)
              refine x_aload_n (j := 0) G dX9_nextIn_64 rfl rfl ?_
              refine gf_890 G sh_0 pt_0_13 dX9_nextIn_65 ?_
              refine x_iload (j := 5) G dX9_nextIn_68 rfl ?_
              refine x_iald G dX9_nextIn_70 H (fun x14 hx14 H => ?_)
              refine x_icmp_ge (tgt := 78) G dX9_nextIn_71 (by decide) (fun q15 => ?_) (fun q15 => ?_)
              · have H := if_some_t H q15
                exact x_subp (ls' := [(0, vR 0), (1, vI p1), (2, vI p2), (3, vI p3), (4, vI p4), (5, vI p5), (6, vI p6)]) [0, 1, 2, 3, 4, 5, 6] rfl (tX9_nextIn_78 G  ih H)
              · have H := if_some_f H q15
                refine x_iconst G dX9_nextIn_74 (by decide) ?_
                refine x_goto (tgt := 79) G dX9_nextIn_75 (by decide) ?_
                exact x_subp (ls' := [(0, vR 0), (1, vI p1), (2, vI p2), (3, vI p3), (4, vI p4), (5, vI p5), (6, vI p6)]) [0, 1, 2, 3, 4, 5, 6] rfl (tX9_nextIn_79 G  ih H)
def fX9_nextIn (a1 : Int) (a2 : Int) (a3 : Int) (a4 : Int) (s : Mem) : Option (Int × Mem) :=
  fX9_nextIn_7 600 a1 a2 a3 a4 ((-4)) 0 s
set_option maxHeartbeats 4000000 in
theorem rX9_nextIn {E : En} {xf : Int} {sf : Mem} {a1 : Int} {a2 : Int} {a3 : Int} {a4 : Int} {s : Mem}  (H : fX9_nextIn a1 a2 a3 a4 s = some (xf, sf)) : ab_Run E 1 yX9_nextIn cX9_nextIn 9 (some .int) [vR 0, vI a1, vI a2, vI a3, vI a4] (some (vI xf)) s sf := by
  unfold fX9_nextIn at H
  refine ab_intro (own := RX9) (by decide +kernel) rfl (Nat.le_of_ble_eq_true rfl) rfl (fun b G => ?_)
  refine x_bipush G dX9_nextIn_0 (by decide) (by decide) ?_
  refine x_istore (ls' := [(5, vI ((-4))), (0, vR 0), (1, vI a1), (2, vI a2), (3, vI a3), (4, vI a4)]) G dX9_nextIn_2 (by decide) rfl ?_
  refine x_iconst G dX9_nextIn_4 (by decide) ?_
  refine x_istore (ls' := [(6, vI 0), (5, vI ((-4))), (0, vR 0), (1, vI a1), (2, vI a2), (3, vI a3), (4, vI a4)]) G dX9_nextIn_5 (by decide) rfl ?_
  exact x_subp (ls' := [(0, vR 0), (1, vI a1), (2, vI a2), (3, vI a3), (4, vI a4), (5, vI ((-4))), (6, vI 0)]) [2, 3, 4, 5, 6, 1, 0] rfl (tX9_nextIn_7 G 600 H)
def fX9_hour_123  (p1 : Int) (p2 : Int) (p3 : Int) (p4 : Int) (s : Mem) : Option Mem :=
  (rdI s 11 p1).bind fun x1 =>
  b2 (fX9_riskOf p4 p2 p3 s) fun r2 s3 =>
  (wrI s3 11 p1 (w32 (w64 (Int.tdiv (w64 (x1 * (w32 (1000 - r2)))) 1000)))).bind fun s4 =>
  some s4
set_option maxHeartbeats 4000000 in
theorem tX9_hour_123 {E : En} {b : Bn} {sf : Mem}  {p1 : Int} {p2 : Int} {p3 : Int} {p4 : Int} {s : Mem} (G : ab_G E b cX9_hour 5 RX9 none 2)   (H : fX9_hour_123 p1 p2 p3 p4 s = some sf) : ab_X E b (ab_MQ E b none sf) 5 123 [(0, vR 0), (1, vI p1), (2, vI p2), (3, vI p3), (4, vI p4)] [] s := by
  unfold fX9_hour_123 at H
  refine x_aload_n (j := 0) G dX9_hour_123 rfl rfl ?_
  refine gf_892 G sh_0 pt_0_15 dX9_hour_124 ?_
  refine x_iload_n (j := 1) G dX9_hour_127 rfl rfl ?_
  refine x_aload_n (j := 0) G dX9_hour_128 rfl rfl ?_
  refine gf_892 G sh_0 pt_0_15 dX9_hour_129 ?_
  refine x_iload_n (j := 1) G dX9_hour_132 rfl rfl ?_
  refine x_iald G dX9_hour_133 H (fun x1 hx1 H => ?_)
  refine x_i2l G dX9_hour_134 ?_
  refine x_sipush G dX9_hour_135 (by decide) (by decide) ?_
  refine x_aload_n (j := 0) G dX9_hour_138 rfl rfl ?_
  refine x_iload (j := 4) G dX9_hour_139 rfl ?_
  refine x_iload_n (j := 2) G dX9_hour_141 rfl rfl ?_
  refine x_iload_n (j := 3) G dX9_hour_142 rfl rfl ?_
  obtain ⟨r2, s3, c3, H⟩ := b2_some H
  refine cv_1034 (As := [vI p4, vI p2, vI p3]) (rest := [vI 1000, vL x1, vI p1, vR 11]) G (rX9_riskOf  c3) sh_0 (by omega) rfl rfl (Nat.le_of_ble_eq_true rfl) dX9_hour_143 ?_
  refine x_isub G dX9_hour_146 ?_
  refine x_i2l G dX9_hour_147 ?_
  refine x_lmul G dX9_hour_148 ?_
  refine x_ldc2 (x := 1000) G wd_1084 dX9_hour_149 (by decide) (by decide) ?_
  refine x_ldiv G dX9_hour_152 (by decide) ?_
  refine x_l2i G dX9_hour_153 ?_
  refine x_iast G dX9_hour_154 H (fun s4 hs4 H => ?_)
  cases H
  exact x_vret G dX9_hour_155
def fX9_hour_122  (p1 : Int) (p2 : Int) (p3 : Int) (p4 : Int) (t1 : Int) (t2 : Int) (s : Mem) : Option Mem :=
  (wrI s 9 t1 t2).bind fun s1 =>
  fX9_hour_123 p1 p2 p3 p4 s1
set_option maxHeartbeats 4000000 in
theorem tX9_hour_122 {E : En} {b : Bn} {sf : Mem}  {p1 : Int} {p2 : Int} {p3 : Int} {p4 : Int} {t1 : Int} {t2 : Int} {s : Mem} (G : ab_G E b cX9_hour 5 RX9 none 2)   (H : fX9_hour_122 p1 p2 p3 p4 t1 t2 s = some sf) : ab_X E b (ab_MQ E b none sf) 5 122 [(0, vR 0), (1, vI p1), (2, vI p2), (3, vI p3), (4, vI p4)] [vI t2, vI t1, vR 9] s := by
  unfold fX9_hour_122 at H
  refine x_iast G dX9_hour_122 H (fun s1 hs1 H => ?_)
  exact x_subp (ls' := [(0, vR 0), (1, vI p1), (2, vI p2), (3, vI p3), (4, vI p4)]) [0, 1, 2, 3, 4] rfl (tX9_hour_123 G  H)
def fX9_hour (a1 : Int) (a2 : Int) (a3 : Int) (s : Mem) : Option Mem :=
  (rdI s 8 a1).bind fun x1 =>
  (rdI s 5 x1).bind fun x2 =>
  if x2 ≤ a3 then
    (rdI s 9 a1).bind fun x4 =>
    if x4 ≤ a3 then
      fX9_hour_123 a1 a2 a3 x1 s
    else
      (rdI s 10 a1).bind fun x6 =>
      (rdI s 7 x1).bind fun x7 =>
      b2 (fX9_madeBy x7 a2 a3 s) fun r8 s9 =>
      (wrI s9 10 a1 (w32 (x6 + r8))).bind fun s10 =>
      (rdI s10 10 a1).bind fun x11 =>
      (rdI s10 6 x1).bind fun x12 =>
      b2 (fX9_away x1 x12 s10) fun r13 s14 =>
      if x11 < r13 then
        fX9_hour_122 a1 a2 a3 x1 a1 99 s14
      else
        fX9_hour_122 a1 a2 a3 x1 a1 (w32 (a3 + 1)) s14
  else
    (rdL s 14 x1).bind fun x16 =>
    (rdI s 1 (w32 ((w32 (16 + (w32 (5 * x1)))) + 2))).bind fun x17 =>
    (rdI s 11 a1).bind fun x18 =>
    (wrL s 14 x1 (w64 (x16 + (w64 (x17 * x18))))).bind fun s19 =>
    fX9_hour_123 a1 a2 a3 x1 s19
set_option maxHeartbeats 4000000 in
theorem rX9_hour {E : En} {sf : Mem} {a1 : Int} {a2 : Int} {a3 : Int} {s : Mem}  (H : fX9_hour a1 a2 a3 s = some sf) : ab_Run E 2 yX9_hour cX9_hour 5 none [vR 0, vI a1, vI a2, vI a3] none s sf := by
  unfold fX9_hour at H
  refine ab_intro (own := RX9) (by decide +kernel) rfl (Nat.le_of_ble_eq_true rfl) rfl (fun b G => ?_)
  refine x_aload_n (j := 0) G dX9_hour_0 rfl rfl ?_
  refine gf_889 G sh_0 pt_0_12 dX9_hour_1 ?_
  refine x_iload_n (j := 1) G dX9_hour_4 rfl rfl ?_
  refine x_iald G dX9_hour_5 H (fun x1 hx1 H => ?_)
  refine x_istore (ls' := [(4, vI x1), (0, vR 0), (1, vI a1), (2, vI a2), (3, vI a3)]) G dX9_hour_6 (by decide) rfl ?_
  refine x_iload_n (j := 4) G dX9_hour_8 rfl rfl ?_
  refine x_aload_n (j := 1) G dX9_hour_9 rfl rfl ?_
  refine gf_886 G sh_0 pt_0_9 dX9_hour_10 ?_
  refine x_iload (j := 0) G dX9_hour_13 rfl ?_
  refine x_iald G dX9_hour_15 H (fun x2 hx2 H => ?_)
  refine x_icmp_ge (tgt := 55) G dX9_hour_16 (by decide) (fun q3 => ?_) (fun q3 => ?_)
  · have H := if_some_t H q3
    refine x_aload_n (j := 1) G dX9_hour_55 rfl rfl ?_
    refine gf_890 G sh_0 pt_0_13 dX9_hour_56 ?_
    refine x_iload_n (j := 2) G dX9_hour_59 rfl rfl ?_
    refine x_iald G dX9_hour_60 H (fun x4 hx4 H => ?_)
    refine x_iload_n (j := 4) G dX9_hour_61 rfl rfl ?_
    refine x_icmp_le (tgt := 123) G dX9_hour_62 (by decide) (fun q5 => ?_) (fun q5 => ?_)
    · have H := if_some_t H q5
      exact x_subp (ls' := [(0, vR 0), (1, vI a1), (2, vI a2), (3, vI a3), (4, vI x1)]) [1, 2, 3, 4, 0] rfl (tX9_hour_123 G  H)
    · have H := if_some_f H q5
      refine x_aload_n (j := 1) G dX9_hour_65 rfl rfl ?_
      refine gf_891 G sh_0 pt_0_14 dX9_hour_66 ?_
      refine x_iload_n (j := 2) G dX9_hour_69 rfl rfl ?_
      refine x_dup2 G dX9_hour_70 rfl rfl ?_
      refine x_iald G dX9_hour_71 H (fun x6 hx6 H => ?_)
      refine x_aload_n (j := 1) G dX9_hour_72 rfl rfl ?_
      refine x_aload_n (j := 1) G dX9_hour_73 rfl rfl ?_
      refine gf_888 G sh_0 pt_0_11 dX9_hour_74 ?_
      refine x_iload (j := 0) G dX9_hour_77 rfl ?_
      refine x_iald G dX9_hour_79 H (fun x7 hx7 H => ?_)
      refine x_iload_n (j := 3) G dX9_hour_80 rfl rfl ?_
      refine x_iload_n (j := 4) G dX9_hour_81 rfl rfl ?_
      obtain ⟨r8, s9, c9, H⟩ := b2_some H
      refine cv_1050 (As := [vI x7, vI a2, vI a3]) (rest := [vI x6, vI a1, vR 10]) G (rX9_madeBy  c9) sh_0 (by omega) rfl rfl (Nat.le_of_ble_eq_true rfl) dX9_hour_82 ?_
      refine x_iadd G dX9_hour_85 ?_
      refine x_iast G dX9_hour_86 H (fun s10 hs10 H => ?_)
      refine x_aload_n (j := 1) G dX9_hour_87 rfl rfl ?_
      refine gf_890 G sh_0 pt_0_13 dX9_hour_88 ?_
      refine x_iload_n (j := 2) G dX9_hour_91 rfl rfl ?_
      refine x_aload_n (j := 1) G dX9_hour_92 rfl rfl ?_
      refine gf_891 G sh_0 pt_0_14 dX9_hour_93 ?_
      refine x_iload_n (j := 2) G dX9_hour_96 rfl rfl ?_
      refine x_iald G dX9_hour_97 H (fun x11 hx11 H => ?_)
      refine x_aload_n (j := 1) G dX9_hour_98 rfl rfl ?_
      refine x_iload (j := 0) G dX9_hour_99 rfl ?_
      refine x_aload_n (j := 1) G dX9_hour_101 rfl rfl ?_
      refine gf_887 G sh_0 pt_0_10 dX9_hour_102 ?_
      refine x_iload (j := 0) G dX9_hour_105 rfl ?_
      refine x_iald G dX9_hour_107 H (fun x12 hx12 H => ?_)
      obtain ⟨r13, s14, c14, H⟩ := b2_some H
      refine cv_1046 (As := [vI x1, vI x12]) (rest := [vI x11, vI a1, vR 9]) G (rX9_away  c14) sh_0 (by omega) rfl rfl (Nat.le_of_ble_eq_true rfl) dX9_hour_108 ?_
      refine x_icmp_lt (tgt := 120) G dX9_hour_111 (by decide) (fun q15 => ?_) (fun q15 => ?_)
      · have H := if_some_t H q15
        refine x_bipush G dX9_hour_120 (by decide) (by decide) ?_
        exact x_subp (ls' := [(0, vR 0), (1, vI a1), (2, vI a2), (3, vI a3), (4, vI x1)]) [1, 2, 3, 4, 0] rfl (tX9_hour_122 G  H)
      · have H := if_some_f H q15
        refine x_iload_n (j := 4) G dX9_hour_114 rfl rfl ?_
        refine x_iconst G dX9_hour_115 (by decide) ?_
        refine x_iadd G dX9_hour_116 ?_
        refine x_goto (tgt := 122) G dX9_hour_117 (by decide) ?_
        exact x_subp (ls' := [(0, vR 0), (1, vI a1), (2, vI a2), (3, vI a3), (4, vI x1)]) [1, 2, 3, 4, 0] rfl (tX9_hour_122 G  H)
  · have H := if_some_f H q3
    refine x_aload_n (j := 1) G dX9_hour_19 rfl rfl ?_
    refine gf_895 G sh_0 pt_0_18 dX9_hour_20 ?_
    refine x_iload (j := 0) G dX9_hour_23 rfl ?_
    refine x_dup2 G dX9_hour_25 rfl rfl ?_
    refine x_lald G dX9_hour_26 H (fun x16 hx16 H => ?_)
    refine x_aload_n (j := 1) G dX9_hour_27 rfl rfl ?_
    refine gf_878 G sh_0 pt_0_1 dX9_hour_28 ?_
    refine x_bipush G dX9_hour_31 (by decide) (by decide) ?_
    refine x_iconst G dX9_hour_33 (by decide) ?_
    refine x_iload (j := 0) G dX9_hour_34 rfl ?_
    refine x_imul G dX9_hour_36 ?_
    refine x_iadd G dX9_hour_37 ?_
    refine x_iconst G dX9_hour_38 (by decide) ?_
    refine x_iadd G dX9_hour_39 ?_
    refine x_iald G dX9_hour_40 H (fun x17 hx17 H => ?_)
    refine x_i2l G dX9_hour_41 ?_
    refine x_aload_n (j := 1) G dX9_hour_42 rfl rfl ?_
    refine gf_892 G sh_0 pt_0_15 dX9_hour_43 ?_
    refine x_iload_n (j := 2) G dX9_hour_46 rfl rfl ?_
    refine x_iald G dX9_hour_47 H (fun x18 hx18 H => ?_)
    refine x_i2l G dX9_hour_48 ?_
    refine x_lmul G dX9_hour_49 ?_
    refine x_ladd G dX9_hour_50 ?_
    refine x_last G dX9_hour_51 H (fun s19 hs19 H => ?_)
    refine x_goto (tgt := 123) G dX9_hour_52 (by decide) ?_
    exact x_subp (ls' := [(0, vR 0), (1, vI a1), (2, vI a2), (3, vI a3), (4, vI x1)]) [1, 2, 3, 4, 0] rfl (tX9_hour_123 G  H)
def fX9_goesBy_29 (k5 : Int → Int → Int → Int → Mem → Option (Int × Mem)) : Nat → Int → Int → Int → Int → Int → Mem → Option (Int × Mem)
  | 0, _, _, _, _, _, _ => none
  | n + 1, p1, p2, p3, p4, p5, s =>
  (rdI s 1 (w32 (16 + (w32 (5 * p4))))).bind fun x1 =>
  if x1 ≤ p5 then
    lt' (w32 (p4 + 1)) fun v3 =>
    k5 p1 p2 p3 v3 s
  else
    (wrI s 8 p3 p4).bind fun s4 =>
    (wrI s4 9 p3 99).bind fun s5 =>
    (wrI s5 10 p3 0).bind fun s6 =>
    (wrI s6 11 p3 1000000).bind fun s7 =>
    (wrZ s7 12 p3 0).bind fun s8 =>
    lt' (w32 (p3 + 1)) fun v9 =>
    lt' (w32 (p5 + 1)) fun v10 =>
    fX9_goesBy_29 k5 n p1 p2 v9 p4 v10 s8
set_option maxHeartbeats 4000000 in
theorem tX9_goesBy_29 {E : En} {b : Bn} {xf : Int} {sf : Mem} {k5 : Int → Int → Int → Int → Mem → Option (Int × Mem)} (G : ab_G E b cX9_goesBy 8 RX9 (some .long) 3) (K5 : ∀ {p1 : Int} {p2 : Int} {p3 : Int} {p4 : Int} {s : Mem},  k5 p1 p2 p3 p4 s = some (xf, sf) → ab_X E b (ab_MQ E b (some (vL xf)) sf) 8 5 [(0, vR 0), (1, vI p1), (2, vI p2), (3, vI p3), (4, vI p4)] [] s) : ∀ (n : Nat) {p1 : Int} {p2 : Int} {p3 : Int} {p4 : Int} {p5 : Int} {s : Mem}, fX9_goesBy_29 k5 n p1 p2 p3 p4 p5 s = some (xf, sf) → ab_X E b (ab_MQ E b (some (vL xf)) sf) 8 29 [(0, vR 0), (1, vI p1), (2, vI p2), (3, vI p3), (4, vI p4), (5, vI p5)] [] s := by
  intro n
  induction n with
  | zero => intro p1 p2 p3 p4 p5 s H; rw [fX9_goesBy_29] at H; cases H
  | succ n ih =>
    intro p1 p2 p3 p4 p5 s H
    rw [fX9_goesBy_29] at H
    refine x_iload (j := 5) G dX9_goesBy_29 rfl ?_
    refine x_aload_n (j := 0) G dX9_goesBy_31 rfl rfl ?_
    refine gf_878 G sh_0 pt_0_1 dX9_goesBy_32 ?_
    refine x_bipush G dX9_goesBy_35 (by decide) (by decide) ?_
    refine x_iconst G dX9_goesBy_37 (by decide) ?_
    refine x_iload (j := 4) G dX9_goesBy_38 rfl ?_
    refine x_imul G dX9_goesBy_40 ?_
    refine x_iadd G dX9_goesBy_41 ?_
    refine x_iald G dX9_goesBy_42 H (fun x1 hx1 H => ?_)
    refine x_icmp_ge (tgt := 93) G dX9_goesBy_43 (by decide) (fun q2 => ?_) (fun q2 => ?_)
    · have H := if_some_t H q2
      refine x_iincL (j := 4) G dX9_goesBy_93 rfl (by decide) H (fun v3 hv3 H => x_ls (ls' := [(4, vI v3), (0, vR 0), (1, vI p1), (2, vI p2), (3, vI p3), (5, vI p5)]) rfl ?_)
      refine x_goto (tgt := 5) G dX9_goesBy_96 (by decide) ?_
      exact x_subp (ls' := [(0, vR 0), (1, vI p1), (2, vI p2), (3, vI p3), (4, vI v3)]) [1, 2, 3, 4, 0] rfl (K5 H)
    · have H := if_some_f H q2
      refine x_aload_n (j := 0) G dX9_goesBy_46 rfl rfl ?_
      refine gf_889 G sh_0 pt_0_12 dX9_goesBy_47 ?_
      refine x_iload_n (j := 3) G dX9_goesBy_50 rfl rfl ?_
      refine x_iload (j := 4) G dX9_goesBy_51 rfl ?_
      refine x_iast G dX9_goesBy_53 H (fun s4 hs4 H => ?_)
      refine x_aload_n (j := 0) G dX9_goesBy_54 rfl rfl ?_
      refine gf_890 G sh_0 pt_0_13 dX9_goesBy_55 ?_
      refine x_iload_n (j := 3) G dX9_goesBy_58 rfl rfl ?_
      refine x_bipush G dX9_goesBy_59 (by decide) (by decide) ?_
      refine x_iast G dX9_goesBy_61 H (fun s5 hs5 H => ?_)
      refine x_aload_n (j := 0) G dX9_goesBy_62 rfl rfl ?_
      refine gf_891 G sh_0 pt_0_14 dX9_goesBy_63 ?_
      refine x_iload_n (j := 3) G dX9_goesBy_66 rfl rfl ?_
      refine x_iconst G dX9_goesBy_67 (by decide) ?_
      refine x_iast G dX9_goesBy_68 H (fun s6 hs6 H => ?_)
      refine x_aload_n (j := 0) G dX9_goesBy_69 rfl rfl ?_
      refine gf_892 G sh_0 pt_0_15 dX9_goesBy_70 ?_
      refine x_iload_n (j := 3) G dX9_goesBy_73 rfl rfl ?_
      refine x_ldc (x := 1000000) G wd_1071 dX9_goesBy_74 (by decide) (by decide) ?_
      refine x_iast G dX9_goesBy_76 H (fun s7 hs7 H => ?_)
      refine x_aload_n (j := 0) G dX9_goesBy_77 rfl rfl ?_
      refine gf_893 G sh_0 pt_0_16 dX9_goesBy_78 ?_
      refine x_iload_n (j := 3) G dX9_goesBy_81 rfl rfl ?_
      refine x_iconst G dX9_goesBy_82 (by decide) ?_
      refine x_zast G dX9_goesBy_83 H (fun s8 hs8 H => ?_)
      refine x_iincL (j := 3) G dX9_goesBy_84 rfl (by decide) H (fun v9 hv9 H => x_ls (ls' := [(3, vI v9), (0, vR 0), (1, vI p1), (2, vI p2), (4, vI p4), (5, vI p5)]) rfl ?_)
      refine x_iincL (j := 5) G dX9_goesBy_87 rfl (by decide) H (fun v10 hv10 H => x_ls (ls' := [(5, vI v10), (3, vI v9), (0, vR 0), (1, vI p1), (2, vI p2), (4, vI p4)]) rfl ?_)
      refine x_goto (tgt := 29) G dX9_goesBy_90 (by decide) ?_
      exact x_subp (ls' := [(0, vR 0), (1, vI p1), (2, vI p2), (3, vI v9), (4, vI p4), (5, vI v10)]) [2, 3, 4, 1, 5, 0] rfl (ih H)
def fX9_goesBy_180 (k125 : Int → Int → Int → Int → Mem → Option (Int × Mem)) (k135 : Int → Int → Int → Int → Int → Mem → Option (Int × Mem)) : Nat → Int → Int → Int → Int → Int → Int → Int → Mem → Option (Int × Mem)
  | 0, _, _, _, _, _, _, _, _ => none
  | n + 1, p1, p2, p3, p4, p5, p6, p7, s =>
  (rdI s 1 (w32 ((w32 (0 + (w32 (4 * p5)))) + 1))).bind fun x1 =>
  if x1 ≤ p7 then
    lt' (w32 (p5 + 1)) fun v3 =>
    k135 p1 p2 p3 p4 v3 s
  else
    if p6 = ((-4)) then
      lt' (w32 (p5 + 1)) fun v5 =>
      k135 p1 p2 p3 p4 v5 s
    else
      (rdI s 13 p5).bind fun x6 =>
      (rdI s 1 (w32 (0 + (w32 (4 * p5))))).bind fun x7 =>
      if x7 ≤ x6 then
        lt' (w32 (p5 + 1)) fun v9 =>
        k135 p1 p2 p3 p4 v9 s
      else
        (wrZ s 12 p6 1).bind fun s10 =>
        (rdI s10 13 p5).bind fun x11 =>
        (wrI s10 13 p5 (w32 (x11 + 1))).bind fun s12 =>
        b2 (fX9_nextIn p5 p4 p3 p2 s12) fun r13 s14 =>
        lt' (w32 (p7 + 1)) fun v15 =>
        fX9_goesBy_180 k125 k135 n p1 p2 p3 p4 p5 r13 v15 s14
set_option maxHeartbeats 4000000 in
theorem tX9_goesBy_180 {E : En} {b : Bn} {xf : Int} {sf : Mem} {k125 : Int → Int → Int → Int → Mem → Option (Int × Mem)} {k135 : Int → Int → Int → Int → Int → Mem → Option (Int × Mem)} (G : ab_G E b cX9_goesBy 8 RX9 (some .long) 3) (K125 : ∀ {p1 : Int} {p2 : Int} {p3 : Int} {p4 : Int} {s : Mem},  k125 p1 p2 p3 p4 s = some (xf, sf) → ab_X E b (ab_MQ E b (some (vL xf)) sf) 8 125 [(0, vR 0), (1, vI p1), (2, vI p2), (3, vI p3), (4, vI p4)] [] s) (K135 : ∀ {p1 : Int} {p2 : Int} {p3 : Int} {p4 : Int} {p5 : Int} {s : Mem},  k135 p1 p2 p3 p4 p5 s = some (xf, sf) → ab_X E b (ab_MQ E b (some (vL xf)) sf) 8 135 [(0, vR 0), (1, vI p1), (2, vI p2), (3, vI p3), (4, vI p4), (5, vI p5)] [] s) : ∀ (n : Nat) {p1 : Int} {p2 : Int} {p3 : Int} {p4 : Int} {p5 : Int} {p6 : Int} {p7 : Int} {s : Mem}, fX9_goesBy_180 k125 k135 n p1 p2 p3 p4 p5 p6 p7 s = some (xf, sf) → ab_X E b (ab_MQ E b (some (vL xf)) sf) 8 180 [(0, vR 0), (1, vI p1), (2, vI p2), (3, vI p3), (4, vI p4), (5, vI p5), (6, vI p6), (7, vI p7)] [] s := by
  intro n
  induction n with
  | zero => intro p1 p2 p3 p4 p5 p6 p7 s H; rw [fX9_goesBy_180] at H; cases H
  | succ n ih =>
    intro p1 p2 p3 p4 p5 p6 p7 s H
    rw [fX9_goesBy_180] at H
    refine x_iload (j := 7) G dX9_goesBy_180 rfl ?_
    refine x_aload_n (j := 0) G dX9_goesBy_182 rfl rfl ?_
    refine gf_878 G sh_0 pt_0_1 dX9_goesBy_183 ?_
    refine x_iconst G dX9_goesBy_186 (by decide) ?_
    refine x_iconst G dX9_goesBy_187 (by decide) ?_
    refine x_iload (j := 5) G dX9_goesBy_188 rfl ?_
    refine x_imul G dX9_goesBy_190 ?_
    refine x_iadd G dX9_goesBy_191 ?_
    refine x_iconst G dX9_goesBy_192 (by decide) ?_
    refine x_iadd G dX9_goesBy_193 ?_
    refine x_iald G dX9_goesBy_194 H (fun x1 hx1 H => ?_)
    refine x_icmp_ge (tgt := 263) G dX9_goesBy_195 (by decide) (fun q2 => ?_) (fun q2 => ?_)
    · have H := if_some_t H q2
      refine x_iincL (j := 5) G dX9_goesBy_263 rfl (by decide) H (fun v3 hv3 H => x_ls (ls' := [(5, vI v3), (0, vR 0), (1, vI p1), (2, vI p2), (3, vI p3), (4, vI p4), (6, vI p6), (7, vI p7)]) rfl ?_)
      refine x_goto (tgt := 135) G dX9_goesBy_266 (by decide) ?_
      exact x_subp (ls' := [(0, vR 0), (1, vI p1), (2, vI p2), (3, vI p3), (4, vI p4), (5, vI v3)]) [1, 2, 3, 4, 5, 0] rfl (K135 H)
    · have H := if_some_f H q2
      refine x_iload (j := 6) G dX9_goesBy_198 rfl ?_
      refine x_bipush G dX9_goesBy_200 (by decide) (by decide) ?_
      refine x_icmp_eq (tgt := 263) G dX9_goesBy_202 (by decide) (fun q4 => ?_) (fun q4 => ?_)
      · have H := if_some_t H q4
        refine x_iincL (j := 5) G dX9_goesBy_263 rfl (by decide) H (fun v5 hv5 H => x_ls (ls' := [(5, vI v5), (0, vR 0), (1, vI p1), (2, vI p2), (3, vI p3), (4, vI p4), (6, vI p6), (7, vI p7)]) rfl ?_)
        refine x_goto (tgt := 135) G dX9_goesBy_266 (by decide) ?_
        exact x_subp (ls' := [(0, vR 0), (1, vI p1), (2, vI p2), (3, vI p3), (4, vI p4), (5, vI v5)]) [1, 2, 3, 4, 5, 0] rfl (K135 H)
      · have H := if_some_f H q4
        refine x_aload_n (j := 0) G dX9_goesBy_205 rfl rfl ?_
        refine gf_894 G sh_0 pt_0_17 dX9_goesBy_206 ?_
        refine x_iload (j := 5) G dX9_goesBy_209 rfl ?_
        refine x_iald G dX9_goesBy_211 H (fun x6 hx6 H => ?_)
        refine x_aload_n (j := 0) G dX9_goesBy_212 rfl rfl ?_
        refine gf_878 G sh_0 pt_0_1 dX9_goesBy_213 ?_
        refine x_iconst G dX9_goesBy_216 (by decide) ?_
        refine x_iconst G dX9_goesBy_217 (by decide) ?_
        refine x_iload (j := 5) G dX9_goesBy_218 rfl ?_
        refine x_imul G dX9_goesBy_220 ?_
        refine x_iadd G dX9_goesBy_221 ?_
        refine x_iald G dX9_goesBy_222 H (fun x7 hx7 H => ?_)
        refine x_icmp_ge (tgt := 263) G dX9_goesBy_223 (by decide) (fun q8 => ?_) (fun q8 => ?_)
        · have H := if_some_t H q8
          refine x_iincL (j := 5) G dX9_goesBy_263 rfl (by decide) H (fun v9 hv9 H => x_ls (ls' := [(5, vI v9), (0, vR 0), (1, vI p1), (2, vI p2), (3, vI p3), (4, vI p4), (6, vI p6), (7, vI p7)]) rfl ?_)
          refine x_goto (tgt := 135) G dX9_goesBy_266 (by decide) ?_
          exact x_subp (ls' := [(0, vR 0), (1, vI p1), (2, vI p2), (3, vI p3), (4, vI p4), (5, vI v9)]) [1, 2, 3, 4, 5, 0] rfl (K135 H)
        · have H := if_some_f H q8
          refine x_aload_n (j := 0) G dX9_goesBy_226 rfl rfl ?_
          refine gf_893 G sh_0 pt_0_16 dX9_goesBy_227 ?_
          refine x_iload (j := 6) G dX9_goesBy_230 rfl ?_
          refine x_iconst G dX9_goesBy_232 (by decide) ?_
          refine x_zast G dX9_goesBy_233 H (fun s10 hs10 H => ?_)
          refine x_aload_n (j := 0) G dX9_goesBy_234 rfl rfl ?_
          refine gf_894 G sh_0 pt_0_17 dX9_goesBy_235 ?_
          refine x_iload (j := 5) G dX9_goesBy_238 rfl ?_
          refine x_dup2 G dX9_goesBy_240 rfl rfl ?_
          refine x_iald G dX9_goesBy_241 H (fun x11 hx11 H => ?_)
          refine x_iconst G dX9_goesBy_242 (by decide) ?_
          refine x_iadd G dX9_goesBy_243 ?_
          refine x_iast G dX9_goesBy_244 H (fun s12 hs12 H => ?_)
          refine x_aload_n (j := 0) G dX9_goesBy_245 rfl rfl ?_
          refine x_iload (j := 5) G dX9_goesBy_246 rfl ?_
          refine x_iload (j := 4) G dX9_goesBy_248 rfl ?_
          refine x_iload_n (j := 3) G dX9_goesBy_250 rfl rfl ?_
          refine x_iload_n (j := 2) G dX9_goesBy_251 rfl rfl ?_
          obtain ⟨r13, s14, c14, H⟩ := b2_some H
          refine cv_1072 (As := [vI p5, vI p4, vI p3, vI p2]) (rest := []) G (rX9_nextIn  c14) sh_0 (by omega) rfl rfl (Nat.le_of_ble_eq_true rfl) dX9_goesBy_252 ?_
          refine x_istore (ls' := [(6, vI r13), (0, vR 0), (1, vI p1), (2, vI p2), (3, vI p3), (4, vI p4), (5, vI p5), (7, vI p7)]) G dX9_goesBy_255 (by decide) rfl ?_
          refine x_iincL (j := 7) G dX9_goesBy_257 rfl (by decide) H (fun v15 hv15 H => x_ls (ls' := [(7, vI v15), (6, vI r13), (0, vR 0), (1, vI p1), (2, vI p2), (3, vI p3), (4, vI p4), (5, vI p5)]) rfl ?_)
          refine x_goto (tgt := 180) G dX9_goesBy_260 (by decide) ?_
          exact x_subp (ls' := [(0, vR 0), (1, vI p1), (2, vI p2), (3, vI p3), (4, vI p4), (5, vI p5), (6, vI r13), (7, vI v15)]) [2, 3, 4, 5, 6, 7, 1, 0] rfl (ih H)
def fX9_goesBy_175 (k125 : Int → Int → Int → Int → Mem → Option (Int × Mem)) (k135 : Int → Int → Int → Int → Int → Mem → Option (Int × Mem)) (p1 : Int) (p2 : Int) (p3 : Int) (p4 : Int) (p5 : Int) (t0 : Int) (s : Mem) : Option (Int × Mem) :=
  fX9_goesBy_180 k125 k135 600 p1 p2 p3 p4 p5 t0 0 s
set_option maxHeartbeats 4000000 in
theorem tX9_goesBy_175 {E : En} {b : Bn} {xf : Int} {sf : Mem} {k125 : Int → Int → Int → Int → Mem → Option (Int × Mem)} {k135 : Int → Int → Int → Int → Int → Mem → Option (Int × Mem)} {p1 : Int} {p2 : Int} {p3 : Int} {p4 : Int} {p5 : Int} {t0 : Int} {s : Mem} (G : ab_G E b cX9_goesBy 8 RX9 (some .long) 3)  (K125 : ∀ {p1 : Int} {p2 : Int} {p3 : Int} {p4 : Int} {s : Mem},  k125 p1 p2 p3 p4 s = some (xf, sf) → ab_X E b (ab_MQ E b (some (vL xf)) sf) 8 125 [(0, vR 0), (1, vI p1), (2, vI p2), (3, vI p3), (4, vI p4)] [] s) (K135 : ∀ {p1 : Int} {p2 : Int} {p3 : Int} {p4 : Int} {p5 : Int} {s : Mem},  k135 p1 p2 p3 p4 p5 s = some (xf, sf) → ab_X E b (ab_MQ E b (some (vL xf)) sf) 8 135 [(0, vR 0), (1, vI p1), (2, vI p2), (3, vI p3), (4, vI p4), (5, vI p5)] [] s) (H : fX9_goesBy_175 k125 k135 p1 p2 p3 p4 p5 t0 s = some (xf, sf)) : ab_X E b (ab_MQ E b (some (vL xf)) sf) 8 175 [(0, vR 0), (1, vI p1), (2, vI p2), (3, vI p3), (4, vI p4), (5, vI p5)] [vI t0] s := by
  unfold fX9_goesBy_175 at H
  refine x_istore (ls' := [(6, vI t0), (0, vR 0), (1, vI p1), (2, vI p2), (3, vI p3), (4, vI p4), (5, vI p5)]) G dX9_goesBy_175 (by decide) rfl ?_
  refine x_iconst G dX9_goesBy_177 (by decide) ?_
  refine x_istore (ls' := [(7, vI 0), (6, vI t0), (0, vR 0), (1, vI p1), (2, vI p2), (3, vI p3), (4, vI p4), (5, vI p5)]) G dX9_goesBy_178 (by decide) rfl ?_
  exact x_subp (ls' := [(0, vR 0), (1, vI p1), (2, vI p2), (3, vI p3), (4, vI p4), (5, vI p5), (6, vI t0), (7, vI 0)]) [2, 3, 4, 5, 6, 7, 1, 0] rfl (tX9_goesBy_180 G K125 K135 600 H)
def fX9_goesBy_272 (k125 : Int → Int → Int → Int → Mem → Option (Int × Mem)) : Nat → Int → Int → Int → Int → Int → Mem → Option (Int × Mem)
  | 0, _, _, _, _, _, _ => none
  | n + 1, p1, p2, p3, p4, p5, s =>
  if p3 ≤ p5 then
    lt' (w32 (p4 + 1)) fun v2 =>
    k125 p1 p2 p3 v2 s
  else
    (rdZ s 12 p5).bind fun x3 =>
    if x3 = 0 then
      (fX9_hour p5 p1 p4 s).bind fun s7 =>
      lt' (w32 (p5 + 1)) fun v8 =>
      fX9_goesBy_272 k125 n p1 p2 p3 p4 v8 s7
    else
      lt' (w32 (p5 + 1)) fun v5 =>
      fX9_goesBy_272 k125 n p1 p2 p3 p4 v5 s
set_option maxHeartbeats 4000000 in
theorem tX9_goesBy_272 {E : En} {b : Bn} {xf : Int} {sf : Mem} {k125 : Int → Int → Int → Int → Mem → Option (Int × Mem)} (G : ab_G E b cX9_goesBy 8 RX9 (some .long) 3) (K125 : ∀ {p1 : Int} {p2 : Int} {p3 : Int} {p4 : Int} {s : Mem},  k125 p1 p2 p3 p4 s = some (xf, sf) → ab_X E b (ab_MQ E b (some (vL xf)) sf) 8 125 [(0, vR 0), (1, vI p1), (2, vI p2), (3, vI p3), (4, vI p4)] [] s) : ∀ (n : Nat) {p1 : Int} {p2 : Int} {p3 : Int} {p4 : Int} {p5 : Int} {s : Mem}, fX9_goesBy_272 k125 n p1 p2 p3 p4 p5 s = some (xf, sf) → ab_X E b (ab_MQ E b (some (vL xf)) sf) 8 272 [(0, vR 0), (1, vI p1), (2, vI p2), (3, vI p3), (4, vI p4), (5, vI p5)] [] s := by
  intro n
  induction n with
  | zero => intro p1 p2 p3 p4 p5 s H; rw [fX9_goesBy_272] at H; cases H
  | succ n ih =>
    intro p1 p2 p3 p4 p5 s H
    rw [fX9_goesBy_272] at H
    refine x_iload (j := 5) G dX9_goesBy_272 rfl ?_
    refine x_iload_n (j := 3) G dX9_goesBy_274 rfl rfl ?_
    refine x_icmp_ge (tgt := 303) G dX9_goesBy_275 (by decide) (fun q1 => ?_) (fun q1 => ?_)
    · have H := if_some_t H q1
      refine x_iincL (j := 4) G dX9_goesBy_303 rfl (by decide) H (fun v2 hv2 H => x_ls (ls' := [(4, vI v2), (0, vR 0), (1, vI p1), (2, vI p2), (3, vI p3), (5, vI p5)]) rfl ?_)
      refine x_goto (tgt := 125) G dX9_goesBy_306 (by decide) ?_
      exact x_subp (ls' := [(0, vR 0), (1, vI p1), (2, vI p2), (3, vI p3), (4, vI v2)]) [1, 2, 3, 4, 0] rfl (K125 H)
    · have H := if_some_f H q1
      refine x_aload_n (j := 0) G dX9_goesBy_278 rfl rfl ?_
      refine gf_893 G sh_0 pt_0_16 dX9_goesBy_279 ?_
      refine x_iload (j := 5) G dX9_goesBy_282 rfl ?_
      refine x_zald G dX9_goesBy_284 H (fun x3 hx3 H => ?_)
      refine x_if_ne (tgt := 297) G dX9_goesBy_285 (by decide) (fun q4 => ?_) (fun q4 => ?_)
      · have H := if_some_f H q4
        refine x_iincL (j := 5) G dX9_goesBy_297 rfl (by decide) H (fun v5 hv5 H => x_ls (ls' := [(5, vI v5), (0, vR 0), (1, vI p1), (2, vI p2), (3, vI p3), (4, vI p4)]) rfl ?_)
        refine x_goto (tgt := 272) G dX9_goesBy_300 (by decide) ?_
        exact x_subp (ls' := [(0, vR 0), (1, vI p1), (2, vI p2), (3, vI p3), (4, vI p4), (5, vI v5)]) [1, 2, 3, 4, 5, 0] rfl (ih H)
      · have H := if_some_t H q4
        refine x_aload_n (j := 0) G dX9_goesBy_288 rfl rfl ?_
        refine x_iload (j := 5) G dX9_goesBy_289 rfl ?_
        refine x_iload_n (j := 1) G dX9_goesBy_291 rfl rfl ?_
        refine x_iload (j := 4) G dX9_goesBy_292 rfl ?_
        obtain ⟨s7, c7, H⟩ := bd_some H
        refine cv_1080 (As := [vI p5, vI p1, vI p4]) (rest := []) G (rX9_hour  c7) sh_0 (by omega) rfl rfl (Nat.le_of_ble_eq_true rfl) dX9_goesBy_294 ?_
        refine x_iincL (j := 5) G dX9_goesBy_297 rfl (by decide) H (fun v8 hv8 H => x_ls (ls' := [(5, vI v8), (0, vR 0), (1, vI p1), (2, vI p2), (3, vI p3), (4, vI p4)]) rfl ?_)
        refine x_goto (tgt := 272) G dX9_goesBy_300 (by decide) ?_
        exact x_subp (ls' := [(0, vR 0), (1, vI p1), (2, vI p2), (3, vI p3), (4, vI p4), (5, vI v8)]) [1, 2, 3, 4, 5, 0] rfl (ih H)
def fX9_goesBy_135 (k125 : Int → Int → Int → Int → Mem → Option (Int × Mem)) : Nat → Int → Int → Int → Int → Int → Mem → Option (Int × Mem)
  | 0, _, _, _, _, _, _ => none
  | n + 1, p1, p2, p3, p4, p5, s =>
  (rdI s 1 183).bind fun x1 =>
  if x1 ≤ p5 then
    fX9_goesBy_272 k125 600 p1 p2 p3 p4 0 s
  else
    b2 (fX9_isOpen p5 p1 p4 s) fun r3 s4 =>
    if r3 = 0 then
      fX9_goesBy_175 k125 (fun p1 p2 p3 p4 p5 s => fX9_goesBy_135 k125 n p1 p2 p3 p4 p5 s) p1 p2 p3 p4 p5 ((-4)) s4
    else
      b2 (fX9_nextIn p5 p4 p3 p2 s4) fun r6 s7 =>
      fX9_goesBy_175 k125 (fun p1 p2 p3 p4 p5 s => fX9_goesBy_135 k125 n p1 p2 p3 p4 p5 s) p1 p2 p3 p4 p5 r6 s7
set_option maxHeartbeats 4000000 in
theorem tX9_goesBy_135 {E : En} {b : Bn} {xf : Int} {sf : Mem} {k125 : Int → Int → Int → Int → Mem → Option (Int × Mem)} (G : ab_G E b cX9_goesBy 8 RX9 (some .long) 3) (K125 : ∀ {p1 : Int} {p2 : Int} {p3 : Int} {p4 : Int} {s : Mem},  k125 p1 p2 p3 p4 s = some (xf, sf) → ab_X E b (ab_MQ E b (some (vL xf)) sf) 8 125 [(0, vR 0), (1, vI p1), (2, vI p2), (3, vI p3), (4, vI p4)] [] s) : ∀ (n : Nat) {p1 : Int} {p2 : Int} {p3 : Int} {p4 : Int} {p5 : Int} {s : Mem}, fX9_goesBy_135 k125 n p1 p2 p3 p4 p5 s = some (xf, sf) → ab_X E b (ab_MQ E b (some (vL xf)) sf) 8 135 [(0, vR 0), (1, vI p1), (2, vI p2), (3, vI p3), (4, vI p4), (5, vI p5)] [] s := by
  intro n
  induction n with
  | zero => intro p1 p2 p3 p4 p5 s H; rw [fX9_goesBy_135] at H; cases H
  | succ n ih =>
    intro p1 p2 p3 p4 p5 s H
    rw [fX9_goesBy_135] at H
    refine x_iload (j := 5) G dX9_goesBy_135 rfl ?_
    refine x_aload_n (j := 0) G dX9_goesBy_137 rfl rfl ?_
    refine gf_878 G sh_0 pt_0_1 dX9_goesBy_138 ?_
    refine x_sipush G dX9_goesBy_141 (by decide) (by decide) ?_
    refine x_iald G dX9_goesBy_144 H (fun x1 hx1 H => ?_)
    refine x_icmp_ge (tgt := 269) G dX9_goesBy_145 (by decide) (fun q2 => ?_) (fun q2 => ?_)
    · have H := if_some_t H q2
      refine x_iconst G dX9_goesBy_269 (by decide) ?_
      refine x_istore (ls' := [(5, vI 0), (0, vR 0), (1, vI p1), (2, vI p2), (3, vI p3), (4, vI p4)]) G dX9_goesBy_270 (by decide) rfl ?_
      exact x_subp (ls' := [(0, vR 0), (1, vI p1), (2, vI p2), (3, vI p3), (4, vI p4), (5, vI 0)]) [1, 2, 3, 4, 5, 0] rfl (tX9_goesBy_272 G K125 600 H)
    · have H := if_some_f H q2
      refine x_aload_n (j := 0) G dX9_goesBy_148 rfl rfl ?_
      refine x_iload (j := 5) G dX9_goesBy_149 rfl ?_
      refine x_iload_n (j := 1) G dX9_goesBy_151 rfl rfl ?_
      refine x_iload (j := 4) G dX9_goesBy_152 rfl ?_
      obtain ⟨r3, s4, c4, H⟩ := b2_some H
      refine cv_1022 (As := [vI p5, vI p1, vI p4]) (rest := []) G (rX9_isOpen  c4) sh_0 (by omega) rfl rfl (Nat.le_of_ble_eq_true rfl) dX9_goesBy_154 ?_
      refine x_if_eq (tgt := 173) G dX9_goesBy_157 (by decide) (fun q5 => ?_) (fun q5 => ?_)
      · have H := if_some_t H q5
        refine x_bipush G dX9_goesBy_173 (by decide) (by decide) ?_
        exact x_subp (ls' := [(0, vR 0), (1, vI p1), (2, vI p2), (3, vI p3), (4, vI p4), (5, vI p5)]) [0, 1, 2, 3, 4, 5] rfl (tX9_goesBy_175 G  K125 ih H)
      · have H := if_some_f H q5
        refine x_aload_n (j := 0) G dX9_goesBy_160 rfl rfl ?_
        refine x_iload (j := 5) G dX9_goesBy_161 rfl ?_
        refine x_iload (j := 4) G dX9_goesBy_163 rfl ?_
        refine x_iload_n (j := 3) G dX9_goesBy_165 rfl rfl ?_
        refine x_iload_n (j := 2) G dX9_goesBy_166 rfl rfl ?_
        obtain ⟨r6, s7, c7, H⟩ := b2_some H
        refine cv_1072 (As := [vI p5, vI p4, vI p3, vI p2]) (rest := []) G (rX9_nextIn  c7) sh_0 (by omega) rfl rfl (Nat.le_of_ble_eq_true rfl) dX9_goesBy_167 ?_
        refine x_goto (tgt := 175) G dX9_goesBy_170 (by decide) ?_
        exact x_subp (ls' := [(0, vR 0), (1, vI p1), (2, vI p2), (3, vI p3), (4, vI p4), (5, vI p5)]) [0, 1, 2, 3, 4, 5] rfl (tX9_goesBy_175 G  K125 ih H)
def fX9_goesBy_377  : Nat → Int → Int → Mem → Option (Int × Mem)
  | 0, _, _, _ => none
  | n + 1, p4, p6, s =>
  (rdI s 1 184).bind fun x1 =>
  if x1 ≤ p6 then
    some (p4, s)
  else
    (rdL s 14 p6).bind fun x3 =>
    lt' (w64 (p4 + x3)) fun v4 =>
    lt' (w32 (p6 + 1)) fun v5 =>
    fX9_goesBy_377 n v4 v5 s
set_option maxHeartbeats 4000000 in
theorem tX9_goesBy_377 {E : En} {b : Bn} {xf : Int} {sf : Mem}  (G : ab_G E b cX9_goesBy 8 RX9 (some .long) 3)  : ∀ (n : Nat) {p4 : Int} {p6 : Int} {s : Mem}, fX9_goesBy_377 n p4 p6 s = some (xf, sf) → ab_X E b (ab_MQ E b (some (vL xf)) sf) 8 377 [(0, vR 0), (4, vL p4), (6, vI p6)] [] s := by
  intro n
  induction n with
  | zero => intro p4 p6 s H; rw [fX9_goesBy_377] at H; cases H
  | succ n ih =>
    intro p4 p6 s H
    rw [fX9_goesBy_377] at H
    refine x_iload (j := 2) G dX9_goesBy_377 rfl ?_
    refine x_aload_n (j := 0) G dX9_goesBy_379 rfl rfl ?_
    refine gf_878 G sh_0 pt_0_1 dX9_goesBy_380 ?_
    refine x_sipush G dX9_goesBy_383 (by decide) (by decide) ?_
    refine x_iald G dX9_goesBy_386 H (fun x1 hx1 H => ?_)
    refine x_icmp_ge (tgt := 408) G dX9_goesBy_387 (by decide) (fun q2 => ?_) (fun q2 => ?_)
    · have H := if_some_t H q2
      refine x_lload (j := 1) G dX9_goesBy_408 rfl ?_
      cases H
      exact x_lret G dX9_goesBy_410
    · have H := if_some_f H q2
      refine x_lload (j := 1) G dX9_goesBy_390 rfl ?_
      refine x_aload_n (j := 0) G dX9_goesBy_392 rfl rfl ?_
      refine gf_895 G sh_0 pt_0_18 dX9_goesBy_393 ?_
      refine x_iload (j := 2) G dX9_goesBy_396 rfl ?_
      refine x_lald G dX9_goesBy_398 H (fun x3 hx3 H => ?_)
      refine x_ladd G dX9_goesBy_399 ?_
      refine x_letL H (fun v4 hv4 H => ?_)
      refine x_lstore (ls' := [(4, vL v4), (0, vR 0), (6, vI p6)]) G dX9_goesBy_400 (by decide) rfl ?_
      refine x_iincL (j := 2) G dX9_goesBy_402 rfl (by decide) H (fun v5 hv5 H => x_ls (ls' := [(6, vI v5), (4, vL v4), (0, vR 0)]) rfl ?_)
      refine x_goto (tgt := 377) G dX9_goesBy_405 (by decide) ?_
      exact x_subp (ls' := [(0, vR 0), (4, vL v4), (6, vI v5)]) [2, 1, 0] rfl (ih H)
def fX9_goesBy_315  : Nat → Int → Int → Int → Mem → Option (Int × Mem)
  | 0, _, _, _, _ => none
  | n + 1, p3, p4, p6, s =>
  if p3 ≤ p6 then
    fX9_goesBy_377 600 p4 0 s
  else
    (rdI s 8 p6).bind fun x2 =>
    (rdL s 14 x2).bind fun x3 =>
    (rdI s 8 p6).bind fun x4 =>
    (rdI s 1 (w32 ((w32 (16 + (w32 (5 * x4)))) + 3))).bind fun x5 =>
    (rdI s 11 p6).bind fun x6 =>
    (wrL s 14 x2 (w64 (x3 - (w64 (x5 * (w32 (1000000 - x6))))))).bind fun s7 =>
    lt' (w32 (p6 + 1)) fun v8 =>
    fX9_goesBy_315 n p3 p4 v8 s7
set_option maxHeartbeats 4000000 in
theorem tX9_goesBy_315 {E : En} {b : Bn} {xf : Int} {sf : Mem}  (G : ab_G E b cX9_goesBy 8 RX9 (some .long) 3)  : ∀ (n : Nat) {p3 : Int} {p4 : Int} {p6 : Int} {s : Mem}, fX9_goesBy_315 n p3 p4 p6 s = some (xf, sf) → ab_X E b (ab_MQ E b (some (vL xf)) sf) 8 315 [(0, vR 0), (3, vI p3), (4, vL p4), (6, vI p6)] [] s := by
  intro n
  induction n with
  | zero => intro p3 p4 p6 s H; rw [fX9_goesBy_315] at H; cases H
  | succ n ih =>
    intro p3 p4 p6 s H
    rw [fX9_goesBy_315] at H
    refine x_iload (j := 3) G dX9_goesBy_315 rfl ?_
    refine x_iload_n (j := 1) G dX9_goesBy_317 rfl rfl ?_
    refine x_icmp_ge (tgt := 374) G dX9_goesBy_318 (by decide) (fun q1 => ?_) (fun q1 => ?_)
    · have H := if_some_t H q1
      refine x_iconst G dX9_goesBy_374 (by decide) ?_
      refine x_istore (ls' := [(6, vI 0), (0, vR 0), (3, vI p3), (4, vL p4)]) G dX9_goesBy_375 (by decide) rfl ?_
      exact x_subp (ls' := [(0, vR 0), (4, vL p4), (6, vI 0)]) [1, 3, 0] rfl (tX9_goesBy_377 G 600 H)
    · have H := if_some_f H q1
      refine x_aload_n (j := 0) G dX9_goesBy_321 rfl rfl ?_
      refine gf_895 G sh_0 pt_0_18 dX9_goesBy_322 ?_
      refine x_aload_n (j := 0) G dX9_goesBy_325 rfl rfl ?_
      refine gf_889 G sh_0 pt_0_12 dX9_goesBy_326 ?_
      refine x_iload (j := 3) G dX9_goesBy_329 rfl ?_
      refine x_iald G dX9_goesBy_331 H (fun x2 hx2 H => ?_)
      refine x_dup2 G dX9_goesBy_332 rfl rfl ?_
      refine x_lald G dX9_goesBy_333 H (fun x3 hx3 H => ?_)
      refine x_aload_n (j := 0) G dX9_goesBy_334 rfl rfl ?_
      refine gf_878 G sh_0 pt_0_1 dX9_goesBy_335 ?_
      refine x_bipush G dX9_goesBy_338 (by decide) (by decide) ?_
      refine x_iconst G dX9_goesBy_340 (by decide) ?_
      refine x_aload_n (j := 0) G dX9_goesBy_341 rfl rfl ?_
      refine gf_889 G sh_0 pt_0_12 dX9_goesBy_342 ?_
      refine x_iload (j := 3) G dX9_goesBy_345 rfl ?_
      refine x_iald G dX9_goesBy_347 H (fun x4 hx4 H => ?_)
      refine x_imul G dX9_goesBy_348 ?_
      refine x_iadd G dX9_goesBy_349 ?_
      refine x_iconst G dX9_goesBy_350 (by decide) ?_
      refine x_iadd G dX9_goesBy_351 ?_
      refine x_iald G dX9_goesBy_352 H (fun x5 hx5 H => ?_)
      refine x_i2l G dX9_goesBy_353 ?_
      refine x_ldc (x := 1000000) G wd_1071 dX9_goesBy_354 (by decide) (by decide) ?_
      refine x_aload_n (j := 0) G dX9_goesBy_356 rfl rfl ?_
      refine gf_892 G sh_0 pt_0_15 dX9_goesBy_357 ?_
      refine x_iload (j := 3) G dX9_goesBy_360 rfl ?_
      refine x_iald G dX9_goesBy_362 H (fun x6 hx6 H => ?_)
      refine x_isub G dX9_goesBy_363 ?_
      refine x_i2l G dX9_goesBy_364 ?_
      refine x_lmul G dX9_goesBy_365 ?_
      refine x_lsub G dX9_goesBy_366 ?_
      refine x_last G dX9_goesBy_367 H (fun s7 hs7 H => ?_)
      refine x_iincL (j := 3) G dX9_goesBy_368 rfl (by decide) H (fun v8 hv8 H => x_ls (ls' := [(6, vI v8), (0, vR 0), (3, vI p3), (4, vL p4)]) rfl ?_)
      refine x_goto (tgt := 315) G dX9_goesBy_371 (by decide) ?_
      exact x_subp (ls' := [(0, vR 0), (3, vI p3), (4, vL p4), (6, vI v8)]) [1, 2, 3, 0] rfl (ih H)
def fX9_goesBy_125  : Nat → Int → Int → Int → Int → Mem → Option (Int × Mem)
  | 0, _, _, _, _, _ => none
  | n + 1, p1, p2, p3, p4, s =>
  if 24 ≤ p4 then
    fX9_goesBy_315 600 p3 0 0 s
  else
    fX9_goesBy_135 (fun p1 p2 p3 p4 s => fX9_goesBy_125 n p1 p2 p3 p4 s) 600 p1 p2 p3 p4 0 s
set_option maxHeartbeats 4000000 in
theorem tX9_goesBy_125 {E : En} {b : Bn} {xf : Int} {sf : Mem}  (G : ab_G E b cX9_goesBy 8 RX9 (some .long) 3)  : ∀ (n : Nat) {p1 : Int} {p2 : Int} {p3 : Int} {p4 : Int} {s : Mem}, fX9_goesBy_125 n p1 p2 p3 p4 s = some (xf, sf) → ab_X E b (ab_MQ E b (some (vL xf)) sf) 8 125 [(0, vR 0), (1, vI p1), (2, vI p2), (3, vI p3), (4, vI p4)] [] s := by
  intro n
  induction n with
  | zero => intro p1 p2 p3 p4 s H; rw [fX9_goesBy_125] at H; cases H
  | succ n ih =>
    intro p1 p2 p3 p4 s H
    rw [fX9_goesBy_125] at H
    refine x_iload (j := 4) G dX9_goesBy_125 rfl ?_
    refine x_bipush G dX9_goesBy_127 (by decide) (by decide) ?_
    refine x_icmp_ge (tgt := 309) G dX9_goesBy_129 (by decide) (fun q1 => ?_) (fun q1 => ?_)
    · have H := if_some_t H q1
      refine x_lconst (x := 0) G dX9_goesBy_309 (by decide) (by decide) ?_
      refine x_lstore (ls' := [(4, vL 0), (0, vR 0), (1, vI p1), (2, vI p2), (3, vI p3)]) G dX9_goesBy_310 (by decide) rfl ?_
      refine x_iconst G dX9_goesBy_312 (by decide) ?_
      refine x_istore (ls' := [(6, vI 0), (4, vL 0), (0, vR 0), (1, vI p1), (2, vI p2), (3, vI p3)]) G dX9_goesBy_313 (by decide) rfl ?_
      exact x_subp (ls' := [(0, vR 0), (3, vI p3), (4, vL 0), (6, vI 0)]) [2, 5, 1, 0] rfl (tX9_goesBy_315 G 600 H)
    · have H := if_some_f H q1
      refine x_iconst G dX9_goesBy_132 (by decide) ?_
      refine x_istore (ls' := [(5, vI 0), (0, vR 0), (1, vI p1), (2, vI p2), (3, vI p3), (4, vI p4)]) G dX9_goesBy_133 (by decide) rfl ?_
      exact x_subp (ls' := [(0, vR 0), (1, vI p1), (2, vI p2), (3, vI p3), (4, vI p4), (5, vI 0)]) [1, 2, 3, 4, 5, 0] rfl (tX9_goesBy_135 G ih 600 H)
def fX9_goesBy_102  : Nat → Int → Int → Int → Int → Mem → Option (Int × Mem)
  | 0, _, _, _, _, _ => none
  | n + 1, p1, p2, p3, p4, s =>
  if 4 ≤ p4 then
    fX9_goesBy_125 600 p1 p2 p3 0 s
  else
    (wrI s 13 p4 0).bind fun s2 =>
    lt' (w32 (p4 + 1)) fun v3 =>
    fX9_goesBy_102 n p1 p2 p3 v3 s2
set_option maxHeartbeats 4000000 in
theorem tX9_goesBy_102 {E : En} {b : Bn} {xf : Int} {sf : Mem}  (G : ab_G E b cX9_goesBy 8 RX9 (some .long) 3)  : ∀ (n : Nat) {p1 : Int} {p2 : Int} {p3 : Int} {p4 : Int} {s : Mem}, fX9_goesBy_102 n p1 p2 p3 p4 s = some (xf, sf) → ab_X E b (ab_MQ E b (some (vL xf)) sf) 8 102 [(0, vR 0), (1, vI p1), (2, vI p2), (3, vI p3), (4, vI p4)] [] s := by
  intro n
  induction n with
  | zero => intro p1 p2 p3 p4 s H; rw [fX9_goesBy_102] at H; cases H
  | succ n ih =>
    intro p1 p2 p3 p4 s H
    rw [fX9_goesBy_102] at H
    refine x_iload (j := 4) G dX9_goesBy_102 rfl ?_
    refine x_iconst G dX9_goesBy_104 (by decide) ?_
    refine x_icmp_ge (tgt := 122) G dX9_goesBy_105 (by decide) (fun q1 => ?_) (fun q1 => ?_)
    · have H := if_some_t H q1
      refine x_iconst G dX9_goesBy_122 (by decide) ?_
      refine x_istore (ls' := [(4, vI 0), (0, vR 0), (1, vI p1), (2, vI p2), (3, vI p3)]) G dX9_goesBy_123 (by decide) rfl ?_
      exact x_subp (ls' := [(0, vR 0), (1, vI p1), (2, vI p2), (3, vI p3), (4, vI 0)]) [1, 2, 3, 4, 0] rfl (tX9_goesBy_125 G 600 H)
    · have H := if_some_f H q1
      refine x_aload_n (j := 0) G dX9_goesBy_108 rfl rfl ?_
      refine gf_894 G sh_0 pt_0_17 dX9_goesBy_109 ?_
      refine x_iload (j := 4) G dX9_goesBy_112 rfl ?_
      refine x_iconst G dX9_goesBy_114 (by decide) ?_
      refine x_iast G dX9_goesBy_115 H (fun s2 hs2 H => ?_)
      refine x_iincL (j := 4) G dX9_goesBy_116 rfl (by decide) H (fun v3 hv3 H => x_ls (ls' := [(4, vI v3), (0, vR 0), (1, vI p1), (2, vI p2), (3, vI p3)]) rfl ?_)
      refine x_goto (tgt := 102) G dX9_goesBy_119 (by decide) ?_
      exact x_subp (ls' := [(0, vR 0), (1, vI p1), (2, vI p2), (3, vI p3), (4, vI v3)]) [1, 2, 3, 4, 0] rfl (ih H)
def fX9_goesBy_5  : Nat → Int → Int → Int → Int → Mem → Option (Int × Mem)
  | 0, _, _, _, _, _ => none
  | n + 1, p1, p2, p3, p4, s =>
  (rdI s 1 184).bind fun x1 =>
  if x1 ≤ p4 then
    fX9_goesBy_102 600 p1 p2 p3 0 s
  else
    (wrL s 14 p4 0).bind fun s3 =>
    fX9_goesBy_29 (fun p1 p2 p3 p4 s => fX9_goesBy_5 n p1 p2 p3 p4 s) 600 p1 p2 p3 p4 0 s3
set_option maxHeartbeats 4000000 in
theorem tX9_goesBy_5 {E : En} {b : Bn} {xf : Int} {sf : Mem}  (G : ab_G E b cX9_goesBy 8 RX9 (some .long) 3)  : ∀ (n : Nat) {p1 : Int} {p2 : Int} {p3 : Int} {p4 : Int} {s : Mem}, fX9_goesBy_5 n p1 p2 p3 p4 s = some (xf, sf) → ab_X E b (ab_MQ E b (some (vL xf)) sf) 8 5 [(0, vR 0), (1, vI p1), (2, vI p2), (3, vI p3), (4, vI p4)] [] s := by
  intro n
  induction n with
  | zero => intro p1 p2 p3 p4 s H; rw [fX9_goesBy_5] at H; cases H
  | succ n ih =>
    intro p1 p2 p3 p4 s H
    rw [fX9_goesBy_5] at H
    refine x_iload (j := 4) G dX9_goesBy_5 rfl ?_
    refine x_aload_n (j := 0) G dX9_goesBy_7 rfl rfl ?_
    refine gf_878 G sh_0 pt_0_1 dX9_goesBy_8 ?_
    refine x_sipush G dX9_goesBy_11 (by decide) (by decide) ?_
    refine x_iald G dX9_goesBy_14 H (fun x1 hx1 H => ?_)
    refine x_icmp_ge (tgt := 99) G dX9_goesBy_15 (by decide) (fun q2 => ?_) (fun q2 => ?_)
    · have H := if_some_t H q2
      refine x_iconst G dX9_goesBy_99 (by decide) ?_
      refine x_istore (ls' := [(4, vI 0), (0, vR 0), (1, vI p1), (2, vI p2), (3, vI p3)]) G dX9_goesBy_100 (by decide) rfl ?_
      exact x_subp (ls' := [(0, vR 0), (1, vI p1), (2, vI p2), (3, vI p3), (4, vI 0)]) [1, 2, 3, 4, 0] rfl (tX9_goesBy_102 G 600 H)
    · have H := if_some_f H q2
      refine x_aload_n (j := 0) G dX9_goesBy_18 rfl rfl ?_
      refine gf_895 G sh_0 pt_0_18 dX9_goesBy_19 ?_
      refine x_iload (j := 4) G dX9_goesBy_22 rfl ?_
      refine x_lconst (x := 0) G dX9_goesBy_24 (by decide) (by decide) ?_
      refine x_last G dX9_goesBy_25 H (fun s3 hs3 H => ?_)
      refine x_iconst G dX9_goesBy_26 (by decide) ?_
      refine x_istore (ls' := [(5, vI 0), (0, vR 0), (1, vI p1), (2, vI p2), (3, vI p3), (4, vI p4)]) G dX9_goesBy_27 (by decide) rfl ?_
      exact x_subp (ls' := [(0, vR 0), (1, vI p1), (2, vI p2), (3, vI p3), (4, vI p4), (5, vI 0)]) [1, 2, 3, 4, 5, 0] rfl (tX9_goesBy_29 G ih 600 H)
def fX9_goesBy (a1 : Int) (a2 : Int) (s : Mem) : Option (Int × Mem) :=
  fX9_goesBy_5 600 a1 a2 0 0 s
set_option maxHeartbeats 4000000 in
theorem rX9_goesBy {E : En} {xf : Int} {sf : Mem} {a1 : Int} {a2 : Int} {s : Mem}  (H : fX9_goesBy a1 a2 s = some (xf, sf)) : ab_Run E 3 yX9_goesBy cX9_goesBy 8 (some .long) [vR 0, vI a1, vI a2] (some (vL xf)) s sf := by
  unfold fX9_goesBy at H
  refine ab_intro (own := RX9) (by decide +kernel) rfl (Nat.le_of_ble_eq_true rfl) rfl (fun b G => ?_)
  refine x_iconst G dX9_goesBy_0 (by decide) ?_
  refine x_istore_n (ls' := [(3, vI 0), (0, vR 0), (1, vI a1), (2, vI a2)]) G dX9_goesBy_1 rfl (by decide) rfl ?_
  refine x_iconst G dX9_goesBy_2 (by decide) ?_
  refine x_istore (ls' := [(4, vI 0), (3, vI 0), (0, vR 0), (1, vI a1), (2, vI a2)]) G dX9_goesBy_3 (by decide) rfl ?_
  exact x_subp (ls' := [(0, vR 0), (1, vI a1), (2, vI a2), (3, vI 0), (4, vI 0)]) [2, 3, 4, 1, 0] rfl (tX9_goesBy_5 G 600 H)

def fX9_value (a1 : Int) (s : Mem) : Option (Int × Mem) :=
  lt' (mu s 0 0 0) fun s1 =>
  b2 (fX9_isStorm a1 s1) fun r2 s3 =>
  if r2 = 0 then
    some ((-9223372036854775808), s3)
  else
    (fX9_asPlanned  s3).bind fun s6 =>
    b2 (fX9_goesBy a1 0 s6) fun r7 s8 =>
    some (r7, s8)
set_option maxHeartbeats 4000000 in
theorem rX9_value {E : En} {xf : Int} {sf : Mem} {a1 : Int} {s : Mem}  (H : fX9_value a1 s = some (xf, sf)) : ab_Run E 4 yX9_value cX9_value 2 (some .long) [vR 0, vI a1] (some (vL xf)) s sf := by
  unfold fX9_value at H
  refine ab_intro (own := RX9) (by decide +kernel) rfl (Nat.le_of_ble_eq_true rfl) rfl (fun b G => ?_)
  refine x_aload_n (j := 0) G dX9_value_0 rfl rfl ?_
  refine x_iconst G dX9_value_1 (by decide) ?_
  refine pf_877 G sh_0 pt_0_0 dX9_value_2 H (fun s1 hs1 H => ?_)
  refine x_aload_n (j := 0) G dX9_value_5 rfl rfl ?_
  refine x_iload_n (j := 1) G dX9_value_6 rfl rfl ?_
  obtain ⟨r2, s3, c3, H⟩ := b2_some H
  refine cv_1002 (As := [vI a1]) (rest := []) G (rX9_isStorm  c3) sh_0 (by omega) rfl rfl (Nat.le_of_ble_eq_true rfl) dX9_value_7 ?_
  refine x_if_ne (tgt := 17) G dX9_value_10 (by decide) (fun q4 => ?_) (fun q4 => ?_)
  · have H := if_some_f H q4
    refine x_aload_n (j := 0) G dX9_value_17 rfl rfl ?_
    obtain ⟨s6, c6, H⟩ := bd_some H
    refine cv_1063 (As := []) (rest := []) G (rX9_asPlanned  c6) sh_0 (by omega) rfl rfl (Nat.le_of_ble_eq_true rfl) dX9_value_18 ?_
    refine x_aload_n (j := 0) G dX9_value_21 rfl rfl ?_
    refine x_iload_n (j := 1) G dX9_value_22 rfl rfl ?_
    refine x_iconst G dX9_value_23 (by decide) ?_
    obtain ⟨r7, s8, c8, H⟩ := b2_some H
    refine cv_1067 (As := [vI a1, vI 0]) (rest := []) G (rX9_goesBy  c8) sh_0 (by omega) rfl rfl (Nat.le_of_ble_eq_true rfl) dX9_value_24 ?_
    cases H
    exact x_lret G dX9_value_27
  · have H := if_some_t H q4
    refine x_ldc2 (x := (-9223372036854775808)) G wd_1062 dX9_value_13 (by decide) (by decide) ?_
    cases H
    exact x_lret G dX9_value_16
def fX9_in_75 (k39 : Int → Int → Int → Mem → Option (Int × Mem)) (p2 : Int) (p4 : Int) (t0 : Int) (t1 : Int) (s : Mem) : Option (Int × Mem) :=
  lt' (w32 (t0 + t1)) fun v1 =>
  lt' (w32 (p4 + 1)) fun v2 =>
  k39 p2 v1 v2 s
set_option maxHeartbeats 4000000 in
theorem tX9_in_75 {E : En} {b : Bn} {xf : Int} {sf : Mem} {k39 : Int → Int → Int → Mem → Option (Int × Mem)} {p2 : Int} {p4 : Int} {t0 : Int} {t1 : Int} {s : Mem} (G : ab_G E b cX9_in 5 RX9 (some .int) 4)  (K39 : ∀ {p2 : Int} {p3 : Int} {p4 : Int} {s : Mem},  k39 p2 p3 p4 s = some (xf, sf) → ab_X E b (ab_MQ E b (some (vI xf)) sf) 5 39 [(0, vR 0), (2, vI p2), (3, vI p3), (4, vI p4)] [] s) (H : fX9_in_75 k39 p2 p4 t0 t1 s = some (xf, sf)) : ab_X E b (ab_MQ E b (some (vI xf)) sf) 5 75 [(0, vR 0), (2, vI p2), (4, vI p4)] [vI t1, vI t0] s := by
  unfold fX9_in_75 at H
  refine x_iadd G dX9_in_75 ?_
  refine x_let H (fun v1 hv1 H => ?_)
  refine x_istore_n (ls' := [(3, vI v1), (0, vR 0), (2, vI p2), (4, vI p4)]) G dX9_in_76 rfl (by decide) rfl ?_
  refine x_iincL (j := 3) G dX9_in_77 rfl (by decide) H (fun v2 hv2 H => x_ls (ls' := [(4, vI v2), (3, vI v1), (0, vR 0), (2, vI p2)]) rfl ?_)
  refine x_goto (tgt := 39) G dX9_in_80 (by decide) ?_
  exact x_subp (ls' := [(0, vR 0), (2, vI p2), (3, vI v1), (4, vI v2)]) [2, 3, 1, 0] rfl (K39 H)
def fX9_in_74 (k39 : Int → Int → Int → Mem → Option (Int × Mem)) (p2 : Int) (p4 : Int) (t0 : Int) (s : Mem) : Option (Int × Mem) :=
  fX9_in_75 k39 p2 p4 t0 0 s
set_option maxHeartbeats 4000000 in
theorem tX9_in_74 {E : En} {b : Bn} {xf : Int} {sf : Mem} {k39 : Int → Int → Int → Mem → Option (Int × Mem)} {p2 : Int} {p4 : Int} {t0 : Int} {s : Mem} (G : ab_G E b cX9_in 5 RX9 (some .int) 4)  (K39 : ∀ {p2 : Int} {p3 : Int} {p4 : Int} {s : Mem},  k39 p2 p3 p4 s = some (xf, sf) → ab_X E b (ab_MQ E b (some (vI xf)) sf) 5 39 [(0, vR 0), (2, vI p2), (3, vI p3), (4, vI p4)] [] s) (H : fX9_in_74 k39 p2 p4 t0 s = some (xf, sf)) : ab_X E b (ab_MQ E b (some (vI xf)) sf) 5 74 [(0, vR 0), (2, vI p2), (4, vI p4)] [vI t0] s := by
  unfold fX9_in_74 at H
  refine x_iconst G dX9_in_74 (by decide) ?_
  exact x_subp (ls' := [(0, vR 0), (2, vI p2), (4, vI p4)]) [0, 1, 2] rfl (tX9_in_75 G  K39 H)
def fX9_in_39  : Nat → Int → Int → Int → Mem → Option (Int × Mem)
  | 0, _, _, _, _ => none
  | n + 1, p2, p3, p4, s =>
  b2 (fX9_boats  s) fun r1 s2 =>
  if r1 ≤ p4 then
    some (p3, s2)
  else
    (rdI s2 8 p4).bind fun x4 =>
    if x4 = p2 then
      (rdZ s2 12 p4).bind fun x6 =>
      if x6 = 0 then
        fX9_in_74 (fun p2 p3 p4 s => fX9_in_39 n p2 p3 p4 s) p2 p4 p3 s2
      else
        fX9_in_75 (fun p2 p3 p4 s => fX9_in_39 n p2 p3 p4 s) p2 p4 p3 1 s2
    else
      fX9_in_74 (fun p2 p3 p4 s => fX9_in_39 n p2 p3 p4 s) p2 p4 p3 s2
set_option maxHeartbeats 4000000 in
theorem tX9_in_39 {E : En} {b : Bn} {xf : Int} {sf : Mem}  (G : ab_G E b cX9_in 5 RX9 (some .int) 4)  : ∀ (n : Nat) {p2 : Int} {p3 : Int} {p4 : Int} {s : Mem}, fX9_in_39 n p2 p3 p4 s = some (xf, sf) → ab_X E b (ab_MQ E b (some (vI xf)) sf) 5 39 [(0, vR 0), (2, vI p2), (3, vI p3), (4, vI p4)] [] s := by
  intro n
  induction n with
  | zero => intro p2 p3 p4 s H; rw [fX9_in_39] at H; cases H
  | succ n ih =>
    intro p2 p3 p4 s H
    rw [fX9_in_39] at H
    refine x_iload (j := 3) G dX9_in_39 rfl ?_
    refine x_aload_n (j := 0) G dX9_in_41 rfl rfl ?_
    obtain ⟨r1, s2, c2, H⟩ := b2_some H
    refine cv_1089 (As := []) (rest := [vI p4]) G (rX9_boats  c2) sh_0 (by omega) rfl rfl (Nat.le_of_ble_eq_true rfl) dX9_in_42 ?_
    refine x_icmp_ge (tgt := 83) G dX9_in_45 (by decide) (fun q3 => ?_) (fun q3 => ?_)
    · have H := if_some_t H q3
      refine x_iload_n (j := 2) G dX9_in_83 rfl rfl ?_
      cases H
      exact x_iret G dX9_in_84
    · have H := if_some_f H q3
      refine x_iload_n (j := 2) G dX9_in_48 rfl rfl ?_
      refine x_aload_n (j := 0) G dX9_in_49 rfl rfl ?_
      refine gf_889 G sh_0 pt_0_12 dX9_in_50 ?_
      refine x_iload (j := 3) G dX9_in_53 rfl ?_
      refine x_iald G dX9_in_55 H (fun x4 hx4 H => ?_)
      refine x_iload_n (j := 1) G dX9_in_56 rfl rfl ?_
      refine x_icmp_ne (tgt := 74) G dX9_in_57 (by decide) (fun q5 => ?_) (fun q5 => ?_)
      · have H := if_some_f H q5
        exact x_subp (ls' := [(0, vR 0), (2, vI p2), (4, vI p4)]) [0, 1, 3] rfl (tX9_in_74 G  ih H)
      · have H := if_some_t H q5
        refine x_aload_n (j := 0) G dX9_in_60 rfl rfl ?_
        refine gf_893 G sh_0 pt_0_16 dX9_in_61 ?_
        refine x_iload (j := 3) G dX9_in_64 rfl ?_
        refine x_zald G dX9_in_66 H (fun x6 hx6 H => ?_)
        refine x_if_eq (tgt := 74) G dX9_in_67 (by decide) (fun q7 => ?_) (fun q7 => ?_)
        · have H := if_some_t H q7
          exact x_subp (ls' := [(0, vR 0), (2, vI p2), (4, vI p4)]) [0, 1, 3] rfl (tX9_in_74 G  ih H)
        · have H := if_some_f H q7
          refine x_iconst G dX9_in_70 (by decide) ?_
          refine x_goto (tgt := 75) G dX9_in_71 (by decide) ?_
          exact x_subp (ls' := [(0, vR 0), (2, vI p2), (4, vI p4)]) [0, 1, 3] rfl (tX9_in_75 G  ih H)
def fX9_in (a1 : Int) (a2 : Int) (s : Mem) : Option (Int × Mem) :=
  lt' (mu s 0 0 0) fun s1 =>
  b2 (fX9_isStorm a1 s1) fun r2 s3 =>
  if r2 = 0 then
    some ((-1), s3)
  else
    b2 (fX9_isSort a2 s3) fun r5 s6 =>
    if r5 = 0 then
      some ((-1), s6)
    else
      (fX9_asPlanned  s6).bind fun s9 =>
      b2 (fX9_goesBy a1 0 s9) fun r10 s11 =>
      fX9_in_39 600 a2 0 0 s11
set_option maxHeartbeats 4000000 in
theorem rX9_in {E : En} {xf : Int} {sf : Mem} {a1 : Int} {a2 : Int} {s : Mem}  (H : fX9_in a1 a2 s = some (xf, sf)) : ab_Run E 4 yX9_in cX9_in 5 (some .int) [vR 0, vI a1, vI a2] (some (vI xf)) s sf := by
  unfold fX9_in at H
  refine ab_intro (own := RX9) (by decide +kernel) rfl (Nat.le_of_ble_eq_true rfl) rfl (fun b G => ?_)
  refine x_aload_n (j := 0) G dX9_in_0 rfl rfl ?_
  refine x_iconst G dX9_in_1 (by decide) ?_
  refine pf_877 G sh_0 pt_0_0 dX9_in_2 H (fun s1 hs1 H => ?_)
  refine x_aload_n (j := 0) G dX9_in_5 rfl rfl ?_
  refine x_iload_n (j := 1) G dX9_in_6 rfl rfl ?_
  obtain ⟨r2, s3, c3, H⟩ := b2_some H
  refine cv_1002 (As := [vI a1]) (rest := []) G (rX9_isStorm  c3) sh_0 (by omega) rfl rfl (Nat.le_of_ble_eq_true rfl) dX9_in_7 ?_
  refine x_if_eq (tgt := 21) G dX9_in_10 (by decide) (fun q4 => ?_) (fun q4 => ?_)
  · have H := if_some_t H q4
    refine x_iconst G dX9_in_21 (by decide) ?_
    cases H
    exact x_iret G dX9_in_22
  · have H := if_some_f H q4
    refine x_aload_n (j := 0) G dX9_in_13 rfl rfl ?_
    refine x_iload_n (j := 2) G dX9_in_14 rfl rfl ?_
    obtain ⟨r5, s6, c6, H⟩ := b2_some H
    refine cv_1030 (As := [vI a2]) (rest := []) G (rX9_isSort  c6) sh_0 (by omega) rfl rfl (Nat.le_of_ble_eq_true rfl) dX9_in_15 ?_
    refine x_if_ne (tgt := 23) G dX9_in_18 (by decide) (fun q7 => ?_) (fun q7 => ?_)
    · have H := if_some_f H q7
      refine x_aload_n (j := 0) G dX9_in_23 rfl rfl ?_
      obtain ⟨s9, c9, H⟩ := bd_some H
      refine cv_1063 (As := []) (rest := []) G (rX9_asPlanned  c9) sh_0 (by omega) rfl rfl (Nat.le_of_ble_eq_true rfl) dX9_in_24 ?_
      refine x_aload_n (j := 0) G dX9_in_27 rfl rfl ?_
      refine x_iload_n (j := 1) G dX9_in_28 rfl rfl ?_
      refine x_iconst G dX9_in_29 (by decide) ?_
      obtain ⟨r10, s11, c11, H⟩ := b2_some H
      refine cv_1067 (As := [vI a1, vI 0]) (rest := []) G (rX9_goesBy  c11) sh_0 (by omega) rfl rfl (Nat.le_of_ble_eq_true rfl) dX9_in_30 ?_
      refine x_pop2 G dX9_in_33 rfl ?_
      refine x_iconst G dX9_in_34 (by decide) ?_
      refine x_istore_n (ls' := [(3, vI 0), (0, vR 0), (1, vI a1), (2, vI a2)]) G dX9_in_35 rfl (by decide) rfl ?_
      refine x_iconst G dX9_in_36 (by decide) ?_
      refine x_istore (ls' := [(4, vI 0), (3, vI 0), (0, vR 0), (1, vI a1), (2, vI a2)]) G dX9_in_37 (by decide) rfl ?_
      exact x_subp (ls' := [(0, vR 0), (2, vI a2), (3, vI 0), (4, vI 0)]) [2, 4, 1, 0] rfl (tX9_in_39 G 600 H)
    · have H := if_some_t H q7
      refine x_iconst G dX9_in_21 (by decide) ?_
      cases H
      exact x_iret G dX9_in_22
def fX9_firstOf_4  : Nat → Int → Int → Int → Mem → Option (Int × Mem)
  | 0, _, _, _, _ => none
  | n + 1, p1, p2, p3, s =>
  if p1 ≤ p3 then
    some (p2, s)
  else
    (rdI s 1 (w32 (16 + (w32 (5 * p3))))).bind fun x2 =>
    lt' (w32 (p2 + x2)) fun v3 =>
    lt' (w32 (p3 + 1)) fun v4 =>
    fX9_firstOf_4 n p1 v3 v4 s
set_option maxHeartbeats 4000000 in
theorem tX9_firstOf_4 {E : En} {b : Bn} {xf : Int} {sf : Mem}  (G : ab_G E b cX9_firstOf 4 RX9 (some .int) 0)  : ∀ (n : Nat) {p1 : Int} {p2 : Int} {p3 : Int} {s : Mem}, fX9_firstOf_4 n p1 p2 p3 s = some (xf, sf) → ab_X E b (ab_MQ E b (some (vI xf)) sf) 4 4 [(0, vR 0), (1, vI p1), (2, vI p2), (3, vI p3)] [] s := by
  intro n
  induction n with
  | zero => intro p1 p2 p3 s H; rw [fX9_firstOf_4] at H; cases H
  | succ n ih =>
    intro p1 p2 p3 s H
    rw [fX9_firstOf_4] at H
    refine x_iload_n (j := 3) G dX9_firstOf_4 rfl rfl ?_
    refine x_iload_n (j := 1) G dX9_firstOf_5 rfl rfl ?_
    refine x_icmp_ge (tgt := 29) G dX9_firstOf_6 (by decide) (fun q1 => ?_) (fun q1 => ?_)
    · have H := if_some_t H q1
      refine x_iload_n (j := 2) G dX9_firstOf_29 rfl rfl ?_
      cases H
      exact x_iret G dX9_firstOf_30
    · have H := if_some_f H q1
      refine x_iload_n (j := 2) G dX9_firstOf_9 rfl rfl ?_
      refine x_aload_n (j := 0) G dX9_firstOf_10 rfl rfl ?_
      refine gf_878 G sh_0 pt_0_1 dX9_firstOf_11 ?_
      refine x_bipush G dX9_firstOf_14 (by decide) (by decide) ?_
      refine x_iconst G dX9_firstOf_16 (by decide) ?_
      refine x_iload_n (j := 3) G dX9_firstOf_17 rfl rfl ?_
      refine x_imul G dX9_firstOf_18 ?_
      refine x_iadd G dX9_firstOf_19 ?_
      refine x_iald G dX9_firstOf_20 H (fun x2 hx2 H => ?_)
      refine x_iadd G dX9_firstOf_21 ?_
      refine x_let H (fun v3 hv3 H => ?_)
      refine x_istore_n (ls' := [(2, vI v3), (0, vR 0), (1, vI p1), (3, vI p3)]) G dX9_firstOf_22 rfl (by decide) rfl ?_
      refine x_iincL (j := 3) G dX9_firstOf_23 rfl (by decide) H (fun v4 hv4 H => x_ls (ls' := [(3, vI v4), (2, vI v3), (0, vR 0), (1, vI p1)]) rfl ?_)
      refine x_goto (tgt := 4) G dX9_firstOf_26 (by decide) ?_
      exact x_subp (ls' := [(0, vR 0), (1, vI p1), (2, vI v3), (3, vI v4)]) [2, 3, 1, 0] rfl (ih H)
def fX9_firstOf (a1 : Int) (s : Mem) : Option (Int × Mem) :=
  fX9_firstOf_4 600 a1 0 0 s
set_option maxHeartbeats 4000000 in
theorem rX9_firstOf {E : En} {xf : Int} {sf : Mem} {a1 : Int} {s : Mem}  (H : fX9_firstOf a1 s = some (xf, sf)) : ab_Run E 0 yX9_firstOf cX9_firstOf 4 (some .int) [vR 0, vI a1] (some (vI xf)) s sf := by
  unfold fX9_firstOf at H
  refine ab_intro (own := RX9) (by decide +kernel) rfl (Nat.le_of_ble_eq_true rfl) rfl (fun b G => ?_)
  refine x_iconst G dX9_firstOf_0 (by decide) ?_
  refine x_istore_n (ls' := [(2, vI 0), (0, vR 0), (1, vI a1)]) G dX9_firstOf_1 rfl (by decide) rfl ?_
  refine x_iconst G dX9_firstOf_2 (by decide) ?_
  refine x_istore_n (ls' := [(3, vI 0), (2, vI 0), (0, vR 0), (1, vI a1)]) G dX9_firstOf_3 rfl (by decide) rfl ?_
  exact x_subp (ls' := [(0, vR 0), (1, vI a1), (2, vI 0), (3, vI 0)]) [2, 3, 1, 0] rfl (tX9_firstOf_4 G 600 H)
def fX9_lives (a1 : Int) (a2 : Int) (a3 : Int) (s : Mem) : Option (Int × Mem) :=
  lt' (mu s 0 0 0) fun s1 =>
  b2 (fX9_isStorm a1 s1) fun r2 s3 =>
  if r2 = 0 then
    some ((-1), s3)
  else
    b2 (fX9_isSort a2 s3) fun r5 s6 =>
    if r5 = 0 then
      some ((-1), s6)
    else
      (rdI s6 1 (w32 (16 + (w32 (5 * a2))))).bind fun x8 =>
      b2 (fX9_isIn a3 0 (w32 (x8 - 1)) s6) fun r9 s10 =>
      if r9 = 0 then
        some ((-1), s10)
      else
        (fX9_asPlanned  s10).bind fun s13 =>
        b2 (fX9_goesBy a1 0 s13) fun r14 s15 =>
        b2 (fX9_firstOf a2 s15) fun r16 s17 =>
        (rdI s17 11 (w32 (r16 + a3))).bind fun x18 =>
        some (x18, s17)
set_option maxHeartbeats 4000000 in
theorem rX9_lives {E : En} {xf : Int} {sf : Mem} {a1 : Int} {a2 : Int} {a3 : Int} {s : Mem}  (H : fX9_lives a1 a2 a3 s = some (xf, sf)) : ab_Run E 4 yX9_lives cX9_lives 4 (some .int) [vR 0, vI a1, vI a2, vI a3] (some (vI xf)) s sf := by
  unfold fX9_lives at H
  refine ab_intro (own := RX9) (by decide +kernel) rfl (Nat.le_of_ble_eq_true rfl) rfl (fun b G => ?_)
  refine x_aload_n (j := 0) G dX9_lives_0 rfl rfl ?_
  refine x_iconst G dX9_lives_1 (by decide) ?_
  refine pf_877 G sh_0 pt_0_0 dX9_lives_2 H (fun s1 hs1 H => ?_)
  refine x_aload_n (j := 0) G dX9_lives_5 rfl rfl ?_
  refine x_iload_n (j := 1) G dX9_lives_6 rfl rfl ?_
  obtain ⟨r2, s3, c3, H⟩ := b2_some H
  refine cv_1002 (As := [vI a1]) (rest := []) G (rX9_isStorm  c3) sh_0 (by omega) rfl rfl (Nat.le_of_ble_eq_true rfl) dX9_lives_7 ?_
  refine x_if_eq (tgt := 42) G dX9_lives_10 (by decide) (fun q4 => ?_) (fun q4 => ?_)
  · have H := if_some_t H q4
    refine x_iconst G dX9_lives_42 (by decide) ?_
    cases H
    exact x_iret G dX9_lives_43
  · have H := if_some_f H q4
    refine x_aload_n (j := 0) G dX9_lives_13 rfl rfl ?_
    refine x_iload_n (j := 2) G dX9_lives_14 rfl rfl ?_
    obtain ⟨r5, s6, c6, H⟩ := b2_some H
    refine cv_1030 (As := [vI a2]) (rest := []) G (rX9_isSort  c6) sh_0 (by omega) rfl rfl (Nat.le_of_ble_eq_true rfl) dX9_lives_15 ?_
    refine x_if_eq (tgt := 42) G dX9_lives_18 (by decide) (fun q7 => ?_) (fun q7 => ?_)
    · have H := if_some_t H q7
      refine x_iconst G dX9_lives_42 (by decide) ?_
      cases H
      exact x_iret G dX9_lives_43
    · have H := if_some_f H q7
      refine x_iload_n (j := 3) G dX9_lives_21 rfl rfl ?_
      refine x_iconst G dX9_lives_22 (by decide) ?_
      refine x_aload_n (j := 0) G dX9_lives_23 rfl rfl ?_
      refine gf_878 G sh_0 pt_0_1 dX9_lives_24 ?_
      refine x_bipush G dX9_lives_27 (by decide) (by decide) ?_
      refine x_iconst G dX9_lives_29 (by decide) ?_
      refine x_iload_n (j := 2) G dX9_lives_30 rfl rfl ?_
      refine x_imul G dX9_lives_31 ?_
      refine x_iadd G dX9_lives_32 ?_
      refine x_iald G dX9_lives_33 H (fun x8 hx8 H => ?_)
      refine x_iconst G dX9_lives_34 (by decide) ?_
      refine x_isub G dX9_lives_35 ?_
      obtain ⟨r9, s10, c10, H⟩ := b2_some H
      refine cs_946 (As := [vI a3, vI 0, vI (w32 (x8 - 1))]) (rest := []) G (rX9_isIn  c10) (by omega) rfl rfl (Nat.le_of_ble_eq_true rfl) dX9_lives_36 ?_
      refine x_if_ne (tgt := 44) G dX9_lives_39 (by decide) (fun q11 => ?_) (fun q11 => ?_)
      · have H := if_some_f H q11
        refine x_aload_n (j := 0) G dX9_lives_44 rfl rfl ?_
        obtain ⟨s13, c13, H⟩ := bd_some H
        refine cv_1063 (As := []) (rest := []) G (rX9_asPlanned  c13) sh_0 (by omega) rfl rfl (Nat.le_of_ble_eq_true rfl) dX9_lives_45 ?_
        refine x_aload_n (j := 0) G dX9_lives_48 rfl rfl ?_
        refine x_iload_n (j := 1) G dX9_lives_49 rfl rfl ?_
        refine x_iconst G dX9_lives_50 (by decide) ?_
        obtain ⟨r14, s15, c15, H⟩ := b2_some H
        refine cv_1067 (As := [vI a1, vI 0]) (rest := []) G (rX9_goesBy  c15) sh_0 (by omega) rfl rfl (Nat.le_of_ble_eq_true rfl) dX9_lives_51 ?_
        refine x_pop2 G dX9_lives_54 rfl ?_
        refine x_aload_n (j := 0) G dX9_lives_55 rfl rfl ?_
        refine gf_892 G sh_0 pt_0_15 dX9_lives_56 ?_
        refine x_aload_n (j := 0) G dX9_lives_59 rfl rfl ?_
        refine x_iload_n (j := 2) G dX9_lives_60 rfl rfl ?_
        obtain ⟨r16, s17, c17, H⟩ := b2_some H
        refine cv_1097 (As := [vI a2]) (rest := [vR 11]) G (rX9_firstOf  c17) sh_0 (by omega) rfl rfl (Nat.le_of_ble_eq_true rfl) dX9_lives_61 ?_
        refine x_iload_n (j := 3) G dX9_lives_64 rfl rfl ?_
        refine x_iadd G dX9_lives_65 ?_
        refine x_iald G dX9_lives_66 H (fun x18 hx18 H => ?_)
        cases H
        exact x_iret G dX9_lives_67
      · have H := if_some_t H q11
        refine x_iconst G dX9_lives_42 (by decide) ?_
        cases H
        exact x_iret G dX9_lives_43
def fX9_isThought (a1 : Int) (s : Mem) : Option (Int × Mem) :=
  (rdI s 2 11).bind fun x1 =>
  if (andI (shrI x1 a1) 1) = 1 then
    some (1, s)
  else
    some (0, s)
set_option maxHeartbeats 4000000 in
theorem rX9_isThought {E : En} {xf : Int} {sf : Mem} {a1 : Int} {s : Mem}  (H : fX9_isThought a1 s = some (xf, sf)) : ab_Run E 0 yX9_isThought cX9_isThought 2 (some .boolean) [vR 0, vI a1] (some (vI xf)) s sf := by
  unfold fX9_isThought at H
  refine ab_intro (own := RX9) (by decide +kernel) rfl (Nat.le_of_ble_eq_true rfl) rfl (fun b G => ?_)
  refine x_aload_n (j := 0) G dX9_isThought_0 rfl rfl ?_
  refine gf_879 G sh_0 pt_0_2 dX9_isThought_1 ?_
  refine x_bipush G dX9_isThought_4 (by decide) (by decide) ?_
  refine x_iald G dX9_isThought_6 H (fun x1 hx1 H => ?_)
  refine x_iload_n (j := 1) G dX9_isThought_7 rfl rfl ?_
  refine x_ishr G dX9_isThought_8 ?_
  refine x_iconst G dX9_isThought_9 (by decide) ?_
  refine x_iand G dX9_isThought_10 ?_
  refine x_iconst G dX9_isThought_11 (by decide) ?_
  refine x_icmp_ne (tgt := 19) G dX9_isThought_12 (by decide) (fun q2 => ?_) (fun q2 => ?_)
  · have H := if_some_f H q2
    refine x_iconst G dX9_isThought_19 (by decide) ?_
    cases H
    exact x_zret G (by decide) dX9_isThought_20
  · have H := if_some_t H q2
    refine x_iconst G dX9_isThought_15 (by decide) ?_
    refine x_goto (tgt := 20) G dX9_isThought_16 (by decide) ?_
    cases H
    exact x_zret G (by decide) dX9_isThought_20
def fX9_tenths (a1 : Int) (s : Mem) : Option (Int × Mem) :=
  (rdI s 1 (w32 (52 + (w32 (6 * a1))))).bind fun x1 =>
  some (x1, s)
set_option maxHeartbeats 4000000 in
theorem rX9_tenths {E : En} {xf : Int} {sf : Mem} {a1 : Int} {s : Mem}  (H : fX9_tenths a1 s = some (xf, sf)) : ab_Run E 0 yX9_tenths cX9_tenths 2 (some .int) [vR 0, vI a1] (some (vI xf)) s sf := by
  unfold fX9_tenths at H
  refine ab_intro (own := RX9) (by decide +kernel) rfl (Nat.le_of_ble_eq_true rfl) rfl (fun b G => ?_)
  refine x_aload_n (j := 0) G dX9_tenths_0 rfl rfl ?_
  refine gf_878 G sh_0 pt_0_1 dX9_tenths_1 ?_
  refine x_bipush G dX9_tenths_4 (by decide) (by decide) ?_
  refine x_bipush G dX9_tenths_6 (by decide) (by decide) ?_
  refine x_iload_n (j := 1) G dX9_tenths_8 rfl rfl ?_
  refine x_imul G dX9_tenths_9 ?_
  refine x_iadd G dX9_tenths_10 ?_
  refine x_iald G dX9_tenths_11 H (fun x1 hx1 H => ?_)
  cases H
  exact x_iret G dX9_tenths_12
def fX9_meanOf_59 (k5 : Int → Int → Int → Int → Mem → Option (Int × Mem)) (p1 : Int) (p2 : Int) (p5 : Int) (t0 : Int) (t1 : Int) (t2 : Int) (s : Mem) : Option (Int × Mem) :=
  lt' (w64 (t0 + (w64 (t1 * t2)))) fun v1 =>
  lt' (w32 (p5 + 1)) fun v2 =>
  k5 p1 p2 v1 v2 s
set_option maxHeartbeats 4000000 in
theorem tX9_meanOf_59 {E : En} {b : Bn} {xf : Int} {sf : Mem} {k5 : Int → Int → Int → Int → Mem → Option (Int × Mem)} {p1 : Int} {p2 : Int} {p5 : Int} {t0 : Int} {t1 : Int} {t2 : Int} {s : Mem} (G : ab_G E b cX9_meanOf 8 RX9 (some .long) 4)  (K5 : ∀ {p1 : Int} {p2 : Int} {p3 : Int} {p5 : Int} {s : Mem},  k5 p1 p2 p3 p5 s = some (xf, sf) → ab_X E b (ab_MQ E b (some (vL xf)) sf) 8 5 [(0, vR 0), (1, vI p1), (2, vI p2), (3, vL p3), (5, vI p5)] [] s) (H : fX9_meanOf_59 k5 p1 p2 p5 t0 t1 t2 s = some (xf, sf)) : ab_X E b (ab_MQ E b (some (vL xf)) sf) 8 59 [(0, vR 0), (1, vI p1), (2, vI p2), (5, vI p5)] [vL t2, vL t1, vL t0] s := by
  unfold fX9_meanOf_59 at H
  refine x_lmul G dX9_meanOf_59 ?_
  refine x_ladd G dX9_meanOf_60 ?_
  refine x_letL H (fun v1 hv1 H => ?_)
  refine x_lstore_n (ls' := [(3, vL v1), (0, vR 0), (1, vI p1), (2, vI p2), (5, vI p5)]) G dX9_meanOf_61 rfl (by decide) rfl ?_
  refine x_iincL (j := 4) G dX9_meanOf_62 rfl (by decide) H (fun v2 hv2 H => x_ls (ls' := [(5, vI v2), (3, vL v1), (0, vR 0), (1, vI p1), (2, vI p2)]) rfl ?_)
  refine x_goto (tgt := 5) G dX9_meanOf_65 (by decide) ?_
  exact x_subp (ls' := [(0, vR 0), (1, vI p1), (2, vI p2), (3, vL v1), (5, vI v2)]) [2, 3, 4, 1, 0] rfl (K5 H)
def fX9_meanOf_5  : Nat → Int → Int → Int → Int → Mem → Option (Int × Mem)
  | 0, _, _, _, _, _ => none
  | n + 1, p1, p2, p3, p5, s =>
  (rdI s 1 185).bind fun x1 =>
  if x1 ≤ p5 then
    some (p3, s)
  else
    b2 (fX9_isThought p5 s) fun r3 s4 =>
    if r3 = 0 then
      lt' (w32 (p5 + 1)) fun v6 =>
      fX9_meanOf_5 n p1 p2 p3 v6 s4
    else
      b2 (fX9_goesBy p5 p1 s4) fun r7 s8 =>
      b2 (fX9_tenths p5 s8) fun r9 s10 =>
      if 0 ≤ p2 then
        (rdL s10 14 p2).bind fun x12 =>
        fX9_meanOf_59 (fun p1 p2 p3 p5 s => fX9_meanOf_5 n p1 p2 p3 p5 s) p1 p2 p5 p3 r9 x12 s10
      else
        fX9_meanOf_59 (fun p1 p2 p3 p5 s => fX9_meanOf_5 n p1 p2 p3 p5 s) p1 p2 p5 p3 r9 r7 s10
set_option maxHeartbeats 4000000 in
theorem tX9_meanOf_5 {E : En} {b : Bn} {xf : Int} {sf : Mem}  (G : ab_G E b cX9_meanOf 8 RX9 (some .long) 4)  : ∀ (n : Nat) {p1 : Int} {p2 : Int} {p3 : Int} {p5 : Int} {s : Mem}, fX9_meanOf_5 n p1 p2 p3 p5 s = some (xf, sf) → ab_X E b (ab_MQ E b (some (vL xf)) sf) 8 5 [(0, vR 0), (1, vI p1), (2, vI p2), (3, vL p3), (5, vI p5)] [] s := by
  intro n
  induction n with
  | zero => intro p1 p2 p3 p5 s H; rw [fX9_meanOf_5] at H; cases H
  | succ n ih =>
    intro p1 p2 p3 p5 s H
    rw [fX9_meanOf_5] at H
    refine x_iload (j := 4) G dX9_meanOf_5 rfl ?_
    refine x_aload_n (j := 0) G dX9_meanOf_7 rfl rfl ?_
    refine gf_878 G sh_0 pt_0_1 dX9_meanOf_8 ?_
    refine x_sipush G dX9_meanOf_11 (by decide) (by decide) ?_
    refine x_iald G dX9_meanOf_14 H (fun x1 hx1 H => ?_)
    refine x_icmp_ge (tgt := 68) G dX9_meanOf_15 (by decide) (fun q2 => ?_) (fun q2 => ?_)
    · have H := if_some_t H q2
      refine x_lload_n (j := 3) G dX9_meanOf_68 rfl rfl ?_
      cases H
      exact x_lret G dX9_meanOf_69
    · have H := if_some_f H q2
      refine x_aload_n (j := 0) G dX9_meanOf_18 rfl rfl ?_
      refine x_iload (j := 4) G dX9_meanOf_19 rfl ?_
      obtain ⟨r3, s4, c4, H⟩ := b2_some H
      refine cv_1109 (As := [vI p5]) (rest := []) G (rX9_isThought  c4) sh_0 (by omega) rfl rfl (Nat.le_of_ble_eq_true rfl) dX9_meanOf_21 ?_
      refine x_if_eq (tgt := 62) G dX9_meanOf_24 (by decide) (fun q5 => ?_) (fun q5 => ?_)
      · have H := if_some_t H q5
        refine x_iincL (j := 4) G dX9_meanOf_62 rfl (by decide) H (fun v6 hv6 H => x_ls (ls' := [(5, vI v6), (0, vR 0), (1, vI p1), (2, vI p2), (3, vL p3)]) rfl ?_)
        refine x_goto (tgt := 5) G dX9_meanOf_65 (by decide) ?_
        exact x_subp (ls' := [(0, vR 0), (1, vI p1), (2, vI p2), (3, vL p3), (5, vI v6)]) [1, 2, 3, 4, 0] rfl (ih H)
      · have H := if_some_f H q5
        refine x_aload_n (j := 0) G dX9_meanOf_27 rfl rfl ?_
        refine x_iload (j := 4) G dX9_meanOf_28 rfl ?_
        refine x_iload_n (j := 1) G dX9_meanOf_30 rfl rfl ?_
        obtain ⟨r7, s8, c8, H⟩ := b2_some H
        refine cv_1067 (As := [vI p5, vI p1]) (rest := []) G (rX9_goesBy  c8) sh_0 (by omega) rfl rfl (Nat.le_of_ble_eq_true rfl) dX9_meanOf_31 ?_
        refine x_lstore (ls' := [(6, vL r7), (0, vR 0), (1, vI p1), (2, vI p2), (3, vL p3), (5, vI p5)]) G dX9_meanOf_34 (by decide) rfl ?_
        refine x_lload_n (j := 4) G dX9_meanOf_36 rfl rfl ?_
        refine x_aload_n (j := 1) G dX9_meanOf_37 rfl rfl ?_
        refine x_iload (j := 5) G dX9_meanOf_38 rfl ?_
        obtain ⟨r9, s10, c10, H⟩ := b2_some H
        refine cv_1113 (As := [vI p5]) (rest := [vL p3]) G (rX9_tenths  c10) sh_0 (by omega) rfl rfl (Nat.le_of_ble_eq_true rfl) dX9_meanOf_40 ?_
        refine x_i2l G dX9_meanOf_43 ?_
        refine x_iload_n (j := 3) G dX9_meanOf_44 rfl rfl ?_
        refine x_if_ge (tgt := 53) G dX9_meanOf_45 (by decide) (fun q11 => ?_) (fun q11 => ?_)
        · have H := if_some_t H q11
          refine x_aload_n (j := 1) G dX9_meanOf_53 rfl rfl ?_
          refine gf_895 G sh_0 pt_0_18 dX9_meanOf_54 ?_
          refine x_iload_n (j := 3) G dX9_meanOf_57 rfl rfl ?_
          refine x_lald G dX9_meanOf_58 H (fun x12 hx12 H => ?_)
          exact x_subp (ls' := [(0, vR 0), (1, vI p1), (2, vI p2), (5, vI p5)]) [1, 2, 3, 5] rfl (tX9_meanOf_59 G  ih H)
        · have H := if_some_f H q11
          refine x_lload (j := 0) G dX9_meanOf_48 rfl ?_
          refine x_goto (tgt := 59) G dX9_meanOf_50 (by decide) ?_
          exact x_subp (ls' := [(0, vR 0), (1, vI p1), (2, vI p2), (5, vI p5)]) [1, 2, 3, 5] rfl (tX9_meanOf_59 G  ih H)
def fX9_meanOf (a1 : Int) (a2 : Int) (s : Mem) : Option (Int × Mem) :=
  fX9_meanOf_5 600 a1 a2 0 0 s
set_option maxHeartbeats 4000000 in
theorem rX9_meanOf {E : En} {xf : Int} {sf : Mem} {a1 : Int} {a2 : Int} {s : Mem}  (H : fX9_meanOf a1 a2 s = some (xf, sf)) : ab_Run E 4 yX9_meanOf cX9_meanOf 8 (some .long) [vR 0, vI a1, vI a2] (some (vL xf)) s sf := by
  unfold fX9_meanOf at H
  refine ab_intro (own := RX9) (by decide +kernel) rfl (Nat.le_of_ble_eq_true rfl) rfl (fun b G => ?_)
  refine x_lconst (x := 0) G dX9_meanOf_0 (by decide) (by decide) ?_
  refine x_lstore_n (ls' := [(3, vL 0), (0, vR 0), (1, vI a1), (2, vI a2)]) G dX9_meanOf_1 rfl (by decide) rfl ?_
  refine x_iconst G dX9_meanOf_2 (by decide) ?_
  refine x_istore (ls' := [(5, vI 0), (3, vL 0), (0, vR 0), (1, vI a1), (2, vI a2)]) G dX9_meanOf_3 (by decide) rfl ?_
  exact x_subp (ls' := [(0, vR 0), (1, vI a1), (2, vI a2), (3, vL 0), (5, vI 0)]) [2, 3, 4, 1, 0] rfl (tX9_meanOf_5 G 600 H)
def fX9_mean  (s : Mem) : Option (Int × Mem) :=
  lt' (mu s 0 0 0) fun s1 =>
  (fX9_asPlanned  s1).bind fun s3 =>
  b2 (fX9_meanOf 0 ((-1)) s3) fun r4 s5 =>
  some (r4, s5)
set_option maxHeartbeats 4000000 in
theorem rX9_mean {E : En} {xf : Int} {sf : Mem}  {s : Mem}  (H : fX9_mean  s = some (xf, sf)) : ab_Run E 5 yX9_mean cX9_mean 1 (some .long) [vR 0] (some (vL xf)) s sf := by
  unfold fX9_mean at H
  refine ab_intro (own := RX9) (by decide +kernel) rfl (Nat.le_of_ble_eq_true rfl) rfl (fun b G => ?_)
  refine x_aload_n (j := 0) G dX9_mean_0 rfl rfl ?_
  refine x_iconst G dX9_mean_1 (by decide) ?_
  refine pf_877 G sh_0 pt_0_0 dX9_mean_2 H (fun s1 hs1 H => ?_)
  refine x_aload_n (j := 0) G dX9_mean_5 rfl rfl ?_
  obtain ⟨s3, c3, H⟩ := bd_some H
  refine cv_1063 (As := []) (rest := []) G (rX9_asPlanned  c3) sh_0 (by omega) rfl rfl (Nat.le_of_ble_eq_true rfl) dX9_mean_6 ?_
  refine x_aload_n (j := 0) G dX9_mean_9 rfl rfl ?_
  refine x_iconst G dX9_mean_10 (by decide) ?_
  refine x_iconst G dX9_mean_11 (by decide) ?_
  obtain ⟨r4, s5, c5, H⟩ := b2_some H
  refine cv_1105 (As := [vI 0, vI ((-1))]) (rest := []) G (rX9_meanOf  c5) sh_0 (by omega) rfl rfl (Nat.le_of_ble_eq_true rfl) dX9_mean_12 ?_
  cases H
  exact x_lret G dX9_mean_15
def fX9_shut_28  : Nat → Int → Mem → Option (Int × Mem)
  | 0, _, _ => none
  | n + 1, p2, s =>
  b2 (fX9_boats  s) fun r1 s2 =>
  if r1 ≤ p2 then
    some ((-4), s2)
  else
    (rdI s2 8 p2).bind fun x4 =>
    (rdI s2 5 x4).bind fun x5 =>
    if 24 ≤ x5 then
      lt' (w32 (p2 + 1)) fun v7 =>
      fX9_shut_28 n v7 s2
    else
      (rdZ s2 12 p2).bind fun x8 =>
      if x8 = 0 then
        (rdI s2 8 p2).bind fun x11 =>
        (rdI s2 8 p2).bind fun x12 =>
        b2 (fX9_firstOf x12 s2) fun r13 s14 =>
        some (w32 ((w32 ((w32 (10 * x11)) + p2)) - r13), s14)
      else
        lt' (w32 (p2 + 1)) fun v10 =>
        fX9_shut_28 n v10 s2
set_option maxHeartbeats 4000000 in
theorem tX9_shut_28 {E : En} {b : Bn} {xf : Int} {sf : Mem}  (G : ab_G E b cX9_shut 3 RX9 (some .int) 4)  : ∀ (n : Nat) {p2 : Int} {s : Mem}, fX9_shut_28 n p2 s = some (xf, sf) → ab_X E b (ab_MQ E b (some (vI xf)) sf) 3 28 [(0, vR 0), (2, vI p2)] [] s := by
  intro n
  induction n with
  | zero => intro p2 s H; rw [fX9_shut_28] at H; cases H
  | succ n ih =>
    intro p2 s H
    rw [fX9_shut_28] at H
    refine x_iload_n (j := 1) G dX9_shut_28 rfl rfl ?_
    refine x_aload_n (j := 0) G dX9_shut_29 rfl rfl ?_
    obtain ⟨r1, s2, c2, H⟩ := b2_some H
    refine cv_1089 (As := []) (rest := [vI p2]) G (rX9_boats  c2) sh_0 (by omega) rfl rfl (Nat.le_of_ble_eq_true rfl) dX9_shut_30 ?_
    refine x_icmp_ge (tgt := 90) G dX9_shut_33 (by decide) (fun q3 => ?_) (fun q3 => ?_)
    · have H := if_some_t H q3
      refine x_bipush G dX9_shut_90 (by decide) (by decide) ?_
      cases H
      exact x_iret G dX9_shut_92
    · have H := if_some_f H q3
      refine x_aload_n (j := 0) G dX9_shut_36 rfl rfl ?_
      refine gf_886 G sh_0 pt_0_9 dX9_shut_37 ?_
      refine x_aload_n (j := 0) G dX9_shut_40 rfl rfl ?_
      refine gf_889 G sh_0 pt_0_12 dX9_shut_41 ?_
      refine x_iload_n (j := 1) G dX9_shut_44 rfl rfl ?_
      refine x_iald G dX9_shut_45 H (fun x4 hx4 H => ?_)
      refine x_iald G dX9_shut_46 H (fun x5 hx5 H => ?_)
      refine x_bipush G dX9_shut_47 (by decide) (by decide) ?_
      refine x_icmp_ge (tgt := 84) G dX9_shut_49 (by decide) (fun q6 => ?_) (fun q6 => ?_)
      · have H := if_some_t H q6
        refine x_iincL (j := 1) G dX9_shut_84 rfl (by decide) H (fun v7 hv7 H => x_ls (ls' := [(2, vI v7), (0, vR 0)]) rfl ?_)
        refine x_goto (tgt := 28) G dX9_shut_87 (by decide) ?_
        exact x_subp (ls' := [(0, vR 0), (2, vI v7)]) [1, 0] rfl (ih H)
      · have H := if_some_f H q6
        refine x_aload_n (j := 0) G dX9_shut_52 rfl rfl ?_
        refine gf_893 G sh_0 pt_0_16 dX9_shut_53 ?_
        refine x_iload_n (j := 1) G dX9_shut_56 rfl rfl ?_
        refine x_zald G dX9_shut_57 H (fun x8 hx8 H => ?_)
        refine x_if_ne (tgt := 84) G dX9_shut_58 (by decide) (fun q9 => ?_) (fun q9 => ?_)
        · have H := if_some_f H q9
          refine x_iincL (j := 1) G dX9_shut_84 rfl (by decide) H (fun v10 hv10 H => x_ls (ls' := [(2, vI v10), (0, vR 0)]) rfl ?_)
          refine x_goto (tgt := 28) G dX9_shut_87 (by decide) ?_
          exact x_subp (ls' := [(0, vR 0), (2, vI v10)]) [1, 0] rfl (ih H)
        · have H := if_some_t H q9
          refine x_bipush G dX9_shut_61 (by decide) (by decide) ?_
          refine x_aload_n (j := 0) G dX9_shut_63 rfl rfl ?_
          refine gf_889 G sh_0 pt_0_12 dX9_shut_64 ?_
          refine x_iload_n (j := 1) G dX9_shut_67 rfl rfl ?_
          refine x_iald G dX9_shut_68 H (fun x11 hx11 H => ?_)
          refine x_imul G dX9_shut_69 ?_
          refine x_iload_n (j := 1) G dX9_shut_70 rfl rfl ?_
          refine x_iadd G dX9_shut_71 ?_
          refine x_aload_n (j := 0) G dX9_shut_72 rfl rfl ?_
          refine x_aload_n (j := 0) G dX9_shut_73 rfl rfl ?_
          refine gf_889 G sh_0 pt_0_12 dX9_shut_74 ?_
          refine x_iload_n (j := 1) G dX9_shut_77 rfl rfl ?_
          refine x_iald G dX9_shut_78 H (fun x12 hx12 H => ?_)
          obtain ⟨r13, s14, c14, H⟩ := b2_some H
          refine cv_1097 (As := [vI x12]) (rest := [vI (w32 ((w32 (10 * x11)) + p2))]) G (rX9_firstOf  c14) sh_0 (by omega) rfl rfl (Nat.le_of_ble_eq_true rfl) dX9_shut_79 ?_
          refine x_isub G dX9_shut_82 ?_
          cases H
          exact x_iret G dX9_shut_83
def fX9_shut (a1 : Int) (s : Mem) : Option (Int × Mem) :=
  lt' (mu s 0 0 0) fun s1 =>
  b2 (fX9_isStorm a1 s1) fun r2 s3 =>
  if r2 = 0 then
    some ((-1), s3)
  else
    (fX9_asPlanned  s3).bind fun s6 =>
    b2 (fX9_goesBy a1 0 s6) fun r7 s8 =>
    fX9_shut_28 600 0 s8
set_option maxHeartbeats 4000000 in
theorem rX9_shut {E : En} {xf : Int} {sf : Mem} {a1 : Int} {s : Mem}  (H : fX9_shut a1 s = some (xf, sf)) : ab_Run E 4 yX9_shut cX9_shut 3 (some .int) [vR 0, vI a1] (some (vI xf)) s sf := by
  unfold fX9_shut at H
  refine ab_intro (own := RX9) (by decide +kernel) rfl (Nat.le_of_ble_eq_true rfl) rfl (fun b G => ?_)
  refine x_aload_n (j := 0) G dX9_shut_0 rfl rfl ?_
  refine x_iconst G dX9_shut_1 (by decide) ?_
  refine pf_877 G sh_0 pt_0_0 dX9_shut_2 H (fun s1 hs1 H => ?_)
  refine x_aload_n (j := 0) G dX9_shut_5 rfl rfl ?_
  refine x_iload_n (j := 1) G dX9_shut_6 rfl rfl ?_
  obtain ⟨r2, s3, c3, H⟩ := b2_some H
  refine cv_1002 (As := [vI a1]) (rest := []) G (rX9_isStorm  c3) sh_0 (by omega) rfl rfl (Nat.le_of_ble_eq_true rfl) dX9_shut_7 ?_
  refine x_if_ne (tgt := 15) G dX9_shut_10 (by decide) (fun q4 => ?_) (fun q4 => ?_)
  · have H := if_some_f H q4
    refine x_aload_n (j := 0) G dX9_shut_15 rfl rfl ?_
    obtain ⟨s6, c6, H⟩ := bd_some H
    refine cv_1063 (As := []) (rest := []) G (rX9_asPlanned  c6) sh_0 (by omega) rfl rfl (Nat.le_of_ble_eq_true rfl) dX9_shut_16 ?_
    refine x_aload_n (j := 0) G dX9_shut_19 rfl rfl ?_
    refine x_iload_n (j := 1) G dX9_shut_20 rfl rfl ?_
    refine x_iconst G dX9_shut_21 (by decide) ?_
    obtain ⟨r7, s8, c8, H⟩ := b2_some H
    refine cv_1067 (As := [vI a1, vI 0]) (rest := []) G (rX9_goesBy  c8) sh_0 (by omega) rfl rfl (Nat.le_of_ble_eq_true rfl) dX9_shut_22 ?_
    refine x_pop2 G dX9_shut_25 rfl ?_
    refine x_iconst G dX9_shut_26 (by decide) ?_
    refine x_istore_n (ls' := [(2, vI 0), (0, vR 0), (1, vI a1)]) G dX9_shut_27 rfl (by decide) rfl ?_
    exact x_subp (ls' := [(0, vR 0), (2, vI 0)]) [1, 0] rfl (tX9_shut_28 G 600 H)
  · have H := if_some_t H q4
    refine x_iconst G dX9_shut_13 (by decide) ?_
    cases H
    exact x_iret G dX9_shut_14
def fX9_sign_77 (k21 : Int → Int → Int → Mem → Option (Int × Mem)) (p1 : Int) (p3 : Int) (t0 : Int) (t1 : Int) (s : Mem) : Option (Int × Mem) :=
  lt' (orI t0 t1) fun v1 =>
  lt' (w32 (p3 + 1)) fun v2 =>
  k21 p1 v1 v2 s
set_option maxHeartbeats 4000000 in
theorem tX9_sign_77 {E : En} {b : Bn} {xf : Int} {sf : Mem} {k21 : Int → Int → Int → Mem → Option (Int × Mem)} {p1 : Int} {p3 : Int} {t0 : Int} {t1 : Int} {s : Mem} (G : ab_G E b cX9_sign 4 RX9 (some .int) 1)  (K21 : ∀ {p1 : Int} {p2 : Int} {p3 : Int} {s : Mem},  k21 p1 p2 p3 s = some (xf, sf) → ab_X E b (ab_MQ E b (some (vI xf)) sf) 4 21 [(0, vR 0), (1, vI p1), (2, vI p2), (3, vI p3)] [] s) (H : fX9_sign_77 k21 p1 p3 t0 t1 s = some (xf, sf)) : ab_X E b (ab_MQ E b (some (vI xf)) sf) 4 77 [(0, vR 0), (1, vI p1), (3, vI p3)] [vI t1, vI t0] s := by
  unfold fX9_sign_77 at H
  refine x_ior G dX9_sign_77 ?_
  refine x_let H (fun v1 hv1 H => ?_)
  refine x_istore_n (ls' := [(2, vI v1), (0, vR 0), (1, vI p1), (3, vI p3)]) G dX9_sign_78 rfl (by decide) rfl ?_
  refine x_iincL (j := 3) G dX9_sign_79 rfl (by decide) H (fun v2 hv2 H => x_ls (ls' := [(3, vI v2), (2, vI v1), (0, vR 0), (1, vI p1)]) rfl ?_)
  refine x_goto (tgt := 21) G dX9_sign_82 (by decide) ?_
  exact x_subp (ls' := [(0, vR 0), (1, vI p1), (2, vI v1), (3, vI v2)]) [2, 3, 1, 0] rfl (K21 H)
def fX9_sign_76 (k21 : Int → Int → Int → Mem → Option (Int × Mem)) (p1 : Int) (p3 : Int) (t0 : Int) (s : Mem) : Option (Int × Mem) :=
  fX9_sign_77 k21 p1 p3 t0 0 s
set_option maxHeartbeats 4000000 in
theorem tX9_sign_76 {E : En} {b : Bn} {xf : Int} {sf : Mem} {k21 : Int → Int → Int → Mem → Option (Int × Mem)} {p1 : Int} {p3 : Int} {t0 : Int} {s : Mem} (G : ab_G E b cX9_sign 4 RX9 (some .int) 1)  (K21 : ∀ {p1 : Int} {p2 : Int} {p3 : Int} {s : Mem},  k21 p1 p2 p3 s = some (xf, sf) → ab_X E b (ab_MQ E b (some (vI xf)) sf) 4 21 [(0, vR 0), (1, vI p1), (2, vI p2), (3, vI p3)] [] s) (H : fX9_sign_76 k21 p1 p3 t0 s = some (xf, sf)) : ab_X E b (ab_MQ E b (some (vI xf)) sf) 4 76 [(0, vR 0), (1, vI p1), (3, vI p3)] [vI t0] s := by
  unfold fX9_sign_76 at H
  refine x_iconst G dX9_sign_76 (by decide) ?_
  exact x_subp (ls' := [(0, vR 0), (1, vI p1), (3, vI p3)]) [0, 1, 2] rfl (tX9_sign_77 G  K21 H)
def fX9_sign_85  (p2 : Int) (s : Mem) : Option (Int × Mem) :=
  if p2 = 0 then
    some ((-2), s)
  else
    (wrI s 2 11 p2).bind fun s2 =>
    (rdI s2 2 10).bind fun x3 =>
    (wrI s2 2 10 (w32 (x3 + 1))).bind fun s4 =>
    some (p2, s4)
set_option maxHeartbeats 4000000 in
theorem tX9_sign_85 {E : En} {b : Bn} {xf : Int} {sf : Mem}  {p2 : Int} {s : Mem} (G : ab_G E b cX9_sign 4 RX9 (some .int) 1)   (H : fX9_sign_85 p2 s = some (xf, sf)) : ab_X E b (ab_MQ E b (some (vI xf)) sf) 4 85 [(0, vR 0), (2, vI p2)] [] s := by
  unfold fX9_sign_85 at H
  refine x_iload_n (j := 1) G dX9_sign_85 rfl rfl ?_
  refine x_if_ne (tgt := 92) G dX9_sign_86 (by decide) (fun q1 => ?_) (fun q1 => ?_)
  · have H := if_some_f H q1
    refine x_aload_n (j := 0) G dX9_sign_92 rfl rfl ?_
    refine gf_879 G sh_0 pt_0_2 dX9_sign_93 ?_
    refine x_bipush G dX9_sign_96 (by decide) (by decide) ?_
    refine x_iload_n (j := 1) G dX9_sign_98 rfl rfl ?_
    refine x_iast G dX9_sign_99 H (fun s2 hs2 H => ?_)
    refine x_aload_n (j := 0) G dX9_sign_100 rfl rfl ?_
    refine gf_879 G sh_0 pt_0_2 dX9_sign_101 ?_
    refine x_bipush G dX9_sign_104 (by decide) (by decide) ?_
    refine x_dup2 G dX9_sign_106 rfl rfl ?_
    refine x_iald G dX9_sign_107 H (fun x3 hx3 H => ?_)
    refine x_iconst G dX9_sign_108 (by decide) ?_
    refine x_iadd G dX9_sign_109 ?_
    refine x_iast G dX9_sign_110 H (fun s4 hs4 H => ?_)
    refine x_iload_n (j := 1) G dX9_sign_111 rfl rfl ?_
    cases H
    exact x_iret G dX9_sign_112
  · have H := if_some_t H q1
    refine x_bipush G dX9_sign_89 (by decide) (by decide) ?_
    cases H
    exact x_iret G dX9_sign_91
def fX9_sign_21  : Nat → Int → Int → Int → Mem → Option (Int × Mem)
  | 0, _, _, _, _ => none
  | n + 1, p1, p2, p3, s =>
  (rdI s 1 185).bind fun x1 =>
  if x1 ≤ p3 then
    fX9_sign_85 p2 s
  else
    (rdI s 2 10).bind fun x3 =>
    if 24 ≤ x3 then
      fX9_sign_85 p2 s
    else
      b2 (fX9_isThought p3 s) fun r5 s6 =>
      if r5 = 0 then
        fX9_sign_76 (fun p1 p2 p3 s => fX9_sign_21 n p1 p2 p3 s) p1 p3 p2 s6
      else
        (rdI s6 2 10).bind fun x8 =>
        b2 (fX9_glass p3 x8 s6) fun r9 s10 =>
        if r9 = p1 then
          fX9_sign_77 (fun p1 p2 p3 s => fX9_sign_21 n p1 p2 p3 s) p1 p3 p2 (shlI 1 p3) s10
        else
          fX9_sign_76 (fun p1 p2 p3 s => fX9_sign_21 n p1 p2 p3 s) p1 p3 p2 s10
set_option maxHeartbeats 4000000 in
theorem tX9_sign_21 {E : En} {b : Bn} {xf : Int} {sf : Mem}  (G : ab_G E b cX9_sign 4 RX9 (some .int) 1)  : ∀ (n : Nat) {p1 : Int} {p2 : Int} {p3 : Int} {s : Mem}, fX9_sign_21 n p1 p2 p3 s = some (xf, sf) → ab_X E b (ab_MQ E b (some (vI xf)) sf) 4 21 [(0, vR 0), (1, vI p1), (2, vI p2), (3, vI p3)] [] s := by
  intro n
  induction n with
  | zero => intro p1 p2 p3 s H; rw [fX9_sign_21] at H; cases H
  | succ n ih =>
    intro p1 p2 p3 s H
    rw [fX9_sign_21] at H
    refine x_iload_n (j := 3) G dX9_sign_21 rfl rfl ?_
    refine x_aload_n (j := 0) G dX9_sign_22 rfl rfl ?_
    refine gf_878 G sh_0 pt_0_1 dX9_sign_23 ?_
    refine x_sipush G dX9_sign_26 (by decide) (by decide) ?_
    refine x_iald G dX9_sign_29 H (fun x1 hx1 H => ?_)
    refine x_icmp_ge (tgt := 85) G dX9_sign_30 (by decide) (fun q2 => ?_) (fun q2 => ?_)
    · have H := if_some_t H q2
      exact x_subp (ls' := [(0, vR 0), (2, vI p2)]) [0, 2] rfl (tX9_sign_85 G  H)
    · have H := if_some_f H q2
      refine x_aload_n (j := 0) G dX9_sign_33 rfl rfl ?_
      refine gf_879 G sh_0 pt_0_2 dX9_sign_34 ?_
      refine x_bipush G dX9_sign_37 (by decide) (by decide) ?_
      refine x_iald G dX9_sign_39 H (fun x3 hx3 H => ?_)
      refine x_bipush G dX9_sign_40 (by decide) (by decide) ?_
      refine x_icmp_ge (tgt := 85) G dX9_sign_42 (by decide) (fun q4 => ?_) (fun q4 => ?_)
      · have H := if_some_t H q4
        exact x_subp (ls' := [(0, vR 0), (2, vI p2)]) [0, 2] rfl (tX9_sign_85 G  H)
      · have H := if_some_f H q4
        refine x_iload_n (j := 2) G dX9_sign_45 rfl rfl ?_
        refine x_aload_n (j := 0) G dX9_sign_46 rfl rfl ?_
        refine x_iload_n (j := 3) G dX9_sign_47 rfl rfl ?_
        obtain ⟨r5, s6, c6, H⟩ := b2_some H
        refine cv_1109 (As := [vI p3]) (rest := [vI p2]) G (rX9_isThought  c6) sh_0 (by omega) rfl rfl (Nat.le_of_ble_eq_true rfl) dX9_sign_48 ?_
        refine x_if_eq (tgt := 76) G dX9_sign_51 (by decide) (fun q7 => ?_) (fun q7 => ?_)
        · have H := if_some_t H q7
          exact x_subp (ls' := [(0, vR 0), (1, vI p1), (3, vI p3)]) [0, 1, 3] rfl (tX9_sign_76 G  ih H)
        · have H := if_some_f H q7
          refine x_aload_n (j := 0) G dX9_sign_54 rfl rfl ?_
          refine x_iload_n (j := 3) G dX9_sign_55 rfl rfl ?_
          refine x_aload_n (j := 0) G dX9_sign_56 rfl rfl ?_
          refine gf_879 G sh_0 pt_0_2 dX9_sign_57 ?_
          refine x_bipush G dX9_sign_60 (by decide) (by decide) ?_
          refine x_iald G dX9_sign_62 H (fun x8 hx8 H => ?_)
          obtain ⟨r9, s10, c10, H⟩ := b2_some H
          refine cv_1010 (As := [vI p3, vI x8]) (rest := [vI p2]) G (rX9_glass  c10) sh_0 (by omega) rfl rfl (Nat.le_of_ble_eq_true rfl) dX9_sign_63 ?_
          refine x_iload_n (j := 1) G dX9_sign_66 rfl rfl ?_
          refine x_icmp_ne (tgt := 76) G dX9_sign_67 (by decide) (fun q11 => ?_) (fun q11 => ?_)
          · have H := if_some_f H q11
            exact x_subp (ls' := [(0, vR 0), (1, vI p1), (3, vI p3)]) [0, 1, 3] rfl (tX9_sign_76 G  ih H)
          · have H := if_some_t H q11
            refine x_iconst G dX9_sign_70 (by decide) ?_
            refine x_iload_n (j := 3) G dX9_sign_71 rfl rfl ?_
            refine x_ishl G dX9_sign_72 ?_
            refine x_goto (tgt := 77) G dX9_sign_73 (by decide) ?_
            exact x_subp (ls' := [(0, vR 0), (1, vI p1), (3, vI p3)]) [0, 1, 3] rfl (tX9_sign_77 G  ih H)
def fX9_sign (a1 : Int) (s : Mem) : Option (Int × Mem) :=
  lt' (mu s 0 0 0) fun s1 =>
  b2 (fX9_isIn a1 0 9 s1) fun r2 s3 =>
  if r2 = 0 then
    some ((-1), s3)
  else
    fX9_sign_21 600 a1 0 0 s3
set_option maxHeartbeats 4000000 in
theorem rX9_sign {E : En} {xf : Int} {sf : Mem} {a1 : Int} {s : Mem}  (H : fX9_sign a1 s = some (xf, sf)) : ab_Run E 1 yX9_sign cX9_sign 4 (some .int) [vR 0, vI a1] (some (vI xf)) s sf := by
  unfold fX9_sign at H
  refine ab_intro (own := RX9) (by decide +kernel) rfl (Nat.le_of_ble_eq_true rfl) rfl (fun b G => ?_)
  refine x_aload_n (j := 0) G dX9_sign_0 rfl rfl ?_
  refine x_iconst G dX9_sign_1 (by decide) ?_
  refine pf_877 G sh_0 pt_0_0 dX9_sign_2 H (fun s1 hs1 H => ?_)
  refine x_iload_n (j := 1) G dX9_sign_5 rfl rfl ?_
  refine x_iconst G dX9_sign_6 (by decide) ?_
  refine x_bipush G dX9_sign_7 (by decide) (by decide) ?_
  obtain ⟨r2, s3, c3, H⟩ := b2_some H
  refine cs_946 (As := [vI a1, vI 0, vI 9]) (rest := []) G (rX9_isIn  c3) (by omega) rfl rfl (Nat.le_of_ble_eq_true rfl) dX9_sign_9 ?_
  refine x_if_ne (tgt := 17) G dX9_sign_12 (by decide) (fun q4 => ?_) (fun q4 => ?_)
  · have H := if_some_f H q4
    refine x_iconst G dX9_sign_17 (by decide) ?_
    refine x_istore_n (ls' := [(2, vI 0), (0, vR 0), (1, vI a1)]) G dX9_sign_18 rfl (by decide) rfl ?_
    refine x_iconst G dX9_sign_19 (by decide) ?_
    refine x_istore_n (ls' := [(3, vI 0), (2, vI 0), (0, vR 0), (1, vI a1)]) G dX9_sign_20 rfl (by decide) rfl ?_
    exact x_subp (ls' := [(0, vR 0), (1, vI a1), (2, vI 0), (3, vI 0)]) [2, 3, 1, 0] rfl (tX9_sign_21 G 600 H)
  · have H := if_some_t H q4
    refine x_iconst G dX9_sign_15 (by decide) ?_
    cases H
    exact x_iret G dX9_sign_16
def fX9_now (a1 : Int) (s : Mem) : Option (Int × Mem) :=
  lt' (mu s 0 0 0) fun s1 =>
  if a1 = 0 then
    (rdI s1 2 10).bind fun x9 =>
    some (x9, s1)
  else
    if a1 = 1 then
      (rdI s1 2 11).bind fun x8 =>
      some (x8, s1)
    else
      if a1 = 2 then
        (rdI s1 2 8).bind fun x7 =>
        some (x7, s1)
      else
        if a1 = 3 then
          (rdI s1 2 9).bind fun x6 =>
          some (x6, s1)
        else
          some ((-1), s1)
set_option maxHeartbeats 4000000 in
theorem rX9_now {E : En} {xf : Int} {sf : Mem} {a1 : Int} {s : Mem}  (H : fX9_now a1 s = some (xf, sf)) : ab_Run E 0 yX9_now cX9_now 2 (some .int) [vR 0, vI a1] (some (vI xf)) s sf := by
  unfold fX9_now at H
  refine ab_intro (own := RX9) (by decide +kernel) rfl (Nat.le_of_ble_eq_true rfl) rfl (fun b G => ?_)
  refine x_aload_n (j := 0) G dX9_now_0 rfl rfl ?_
  refine x_iconst G dX9_now_1 (by decide) ?_
  refine pf_877 G sh_0 pt_0_0 dX9_now_2 H (fun s1 hs1 H => ?_)
  refine x_iload_n (j := 1) G dX9_now_5 rfl rfl ?_
  refine x_if_ne (tgt := 19) G dX9_now_6 (by decide) (fun q2 => ?_) (fun q2 => ?_)
  · have H := if_some_f H q2
    refine x_iload_n (j := 1) G dX9_now_19 rfl rfl ?_
    refine x_iconst G dX9_now_20 (by decide) ?_
    refine x_icmp_ne (tgt := 34) G dX9_now_21 (by decide) (fun q3 => ?_) (fun q3 => ?_)
    · have H := if_some_f H q3
      refine x_iload_n (j := 1) G dX9_now_34 rfl rfl ?_
      refine x_iconst G dX9_now_35 (by decide) ?_
      refine x_icmp_ne (tgt := 49) G dX9_now_36 (by decide) (fun q4 => ?_) (fun q4 => ?_)
      · have H := if_some_f H q4
        refine x_iload_n (j := 1) G dX9_now_49 rfl rfl ?_
        refine x_iconst G dX9_now_50 (by decide) ?_
        refine x_icmp_ne (tgt := 64) G dX9_now_51 (by decide) (fun q5 => ?_) (fun q5 => ?_)
        · have H := if_some_f H q5
          refine x_iconst G dX9_now_64 (by decide) ?_
          cases H
          exact x_iret G dX9_now_65
        · have H := if_some_t H q5
          refine x_aload_n (j := 0) G dX9_now_54 rfl rfl ?_
          refine gf_879 G sh_0 pt_0_2 dX9_now_55 ?_
          refine x_bipush G dX9_now_58 (by decide) (by decide) ?_
          refine x_iald G dX9_now_60 H (fun x6 hx6 H => ?_)
          refine x_goto (tgt := 65) G dX9_now_61 (by decide) ?_
          cases H
          exact x_iret G dX9_now_65
      · have H := if_some_t H q4
        refine x_aload_n (j := 0) G dX9_now_39 rfl rfl ?_
        refine gf_879 G sh_0 pt_0_2 dX9_now_40 ?_
        refine x_bipush G dX9_now_43 (by decide) (by decide) ?_
        refine x_iald G dX9_now_45 H (fun x7 hx7 H => ?_)
        refine x_goto (tgt := 65) G dX9_now_46 (by decide) ?_
        cases H
        exact x_iret G dX9_now_65
    · have H := if_some_t H q3
      refine x_aload_n (j := 0) G dX9_now_24 rfl rfl ?_
      refine gf_879 G sh_0 pt_0_2 dX9_now_25 ?_
      refine x_bipush G dX9_now_28 (by decide) (by decide) ?_
      refine x_iald G dX9_now_30 H (fun x8 hx8 H => ?_)
      refine x_goto (tgt := 65) G dX9_now_31 (by decide) ?_
      cases H
      exact x_iret G dX9_now_65
  · have H := if_some_t H q2
    refine x_aload_n (j := 0) G dX9_now_9 rfl rfl ?_
    refine gf_879 G sh_0 pt_0_2 dX9_now_10 ?_
    refine x_bipush G dX9_now_13 (by decide) (by decide) ?_
    refine x_iald G dX9_now_15 H (fun x9 hx9 H => ?_)
    refine x_goto (tgt := 65) G dX9_now_16 (by decide) ?_
    cases H
    exact x_iret G dX9_now_65
def fX9_set_43  (p1 : Int) (p2 : Int) (s : Mem) : Option (Int × Mem) :=
  (rdI s 2 (w32 (8 + p1))).bind fun x1 =>
  (wrI s 2 (w32 (8 + p1)) p2).bind fun s2 =>
  some (x1, s2)
set_option maxHeartbeats 4000000 in
theorem tX9_set_43 {E : En} {b : Bn} {xf : Int} {sf : Mem}  {p1 : Int} {p2 : Int} {s : Mem} (G : ab_G E b cX9_set 4 RX9 (some .int) 1)   (H : fX9_set_43 p1 p2 s = some (xf, sf)) : ab_X E b (ab_MQ E b (some (vI xf)) sf) 4 43 [(0, vR 0), (1, vI p1), (2, vI p2)] [] s := by
  unfold fX9_set_43 at H
  refine x_aload_n (j := 0) G dX9_set_43 rfl rfl ?_
  refine gf_879 G sh_0 pt_0_2 dX9_set_44 ?_
  refine x_bipush G dX9_set_47 (by decide) (by decide) ?_
  refine x_iload_n (j := 1) G dX9_set_49 rfl rfl ?_
  refine x_iadd G dX9_set_50 ?_
  refine x_iald G dX9_set_51 H (fun x1 hx1 H => ?_)
  refine x_istore_n (ls' := [(3, vI x1), (0, vR 0), (1, vI p1), (2, vI p2)]) G dX9_set_52 rfl (by decide) rfl ?_
  refine x_aload_n (j := 1) G dX9_set_53 rfl rfl ?_
  refine gf_879 G sh_0 pt_0_2 dX9_set_54 ?_
  refine x_bipush G dX9_set_57 (by decide) (by decide) ?_
  refine x_iload_n (j := 2) G dX9_set_59 rfl rfl ?_
  refine x_iadd G dX9_set_60 ?_
  refine x_iload_n (j := 3) G dX9_set_61 rfl rfl ?_
  refine x_iast G dX9_set_62 H (fun s2 hs2 H => ?_)
  refine x_iload_n (j := 0) G dX9_set_63 rfl rfl ?_
  cases H
  exact x_iret G dX9_set_64
def fX9_set (a1 : Int) (a2 : Int) (s : Mem) : Option (Int × Mem) :=
  lt' (mu s 0 0 0) fun s1 =>
  b2 (fX9_isIn a1 0 1 s1) fun r2 s3 =>
  if r2 = 0 then
    some ((-1), s3)
  else
    if a1 = 0 then
      b2 (fX9_isIn a2 0 9 s3) fun r9 s10 =>
      if r9 = 0 then
        some ((-1), s10)
      else
        fX9_set_43 a1 a2 s10
    else
      b2 (fX9_isIn a2 1 32 s3) fun r6 s7 =>
      if r6 = 0 then
        some ((-1), s7)
      else
        fX9_set_43 a1 a2 s7
set_option maxHeartbeats 4000000 in
theorem rX9_set {E : En} {xf : Int} {sf : Mem} {a1 : Int} {a2 : Int} {s : Mem}  (H : fX9_set a1 a2 s = some (xf, sf)) : ab_Run E 1 yX9_set cX9_set 4 (some .int) [vR 0, vI a1, vI a2] (some (vI xf)) s sf := by
  unfold fX9_set at H
  refine ab_intro (own := RX9) (by decide +kernel) rfl (Nat.le_of_ble_eq_true rfl) rfl (fun b G => ?_)
  refine x_aload_n (j := 0) G dX9_set_0 rfl rfl ?_
  refine x_iconst G dX9_set_1 (by decide) ?_
  refine pf_877 G sh_0 pt_0_0 dX9_set_2 H (fun s1 hs1 H => ?_)
  refine x_iload_n (j := 1) G dX9_set_5 rfl rfl ?_
  refine x_iconst G dX9_set_6 (by decide) ?_
  refine x_iconst G dX9_set_7 (by decide) ?_
  obtain ⟨r2, s3, c3, H⟩ := b2_some H
  refine cs_946 (As := [vI a1, vI 0, vI 1]) (rest := []) G (rX9_isIn  c3) (by omega) rfl rfl (Nat.le_of_ble_eq_true rfl) dX9_set_8 ?_
  refine x_if_eq (tgt := 41) G dX9_set_11 (by decide) (fun q4 => ?_) (fun q4 => ?_)
  · have H := if_some_t H q4
    refine x_iconst G dX9_set_41 (by decide) ?_
    cases H
    exact x_iret G dX9_set_42
  · have H := if_some_f H q4
    refine x_iload_n (j := 1) G dX9_set_14 rfl rfl ?_
    refine x_if_ne (tgt := 31) G dX9_set_15 (by decide) (fun q5 => ?_) (fun q5 => ?_)
    · have H := if_some_f H q5
      refine x_iload_n (j := 2) G dX9_set_31 rfl rfl ?_
      refine x_iconst G dX9_set_32 (by decide) ?_
      refine x_bipush G dX9_set_33 (by decide) (by decide) ?_
      obtain ⟨r6, s7, c7, H⟩ := b2_some H
      refine cs_946 (As := [vI a2, vI 1, vI 32]) (rest := []) G (rX9_isIn  c7) (by omega) rfl rfl (Nat.le_of_ble_eq_true rfl) dX9_set_35 ?_
      refine x_if_ne (tgt := 43) G dX9_set_38 (by decide) (fun q8 => ?_) (fun q8 => ?_)
      · have H := if_some_f H q8
        exact x_subp (ls' := [(0, vR 0), (1, vI a1), (2, vI a2)]) [0, 1, 2] rfl (tX9_set_43 G  H)
      · have H := if_some_t H q8
        refine x_iconst G dX9_set_41 (by decide) ?_
        cases H
        exact x_iret G dX9_set_42
    · have H := if_some_t H q5
      refine x_iload_n (j := 2) G dX9_set_18 rfl rfl ?_
      refine x_iconst G dX9_set_19 (by decide) ?_
      refine x_bipush G dX9_set_20 (by decide) (by decide) ?_
      obtain ⟨r9, s10, c10, H⟩ := b2_some H
      refine cs_946 (As := [vI a2, vI 0, vI 9]) (rest := []) G (rX9_isIn  c10) (by omega) rfl rfl (Nat.le_of_ble_eq_true rfl) dX9_set_22 ?_
      refine x_if_eq (tgt := 41) G dX9_set_25 (by decide) (fun q11 => ?_) (fun q11 => ?_)
      · have H := if_some_t H q11
        refine x_iconst G dX9_set_41 (by decide) ?_
        cases H
        exact x_iret G dX9_set_42
      · have H := if_some_f H q11
        refine x_goto (tgt := 43) G dX9_set_28 (by decide) ?_
        exact x_subp (ls' := [(0, vR 0), (1, vI a1), (2, vI a2)]) [0, 1, 2] rfl (tX9_set_43 G  H)
def fX9_nearest_36 (k4 : Int → Int → Int → Mem → Option (Int × Mem)) (p1 : Int) (p3 : Int) (t0 : Int) (s : Mem) : Option (Int × Mem) :=
  lt' (w32 (p3 + 1)) fun v1 =>
  k4 p1 t0 v1 s
set_option maxHeartbeats 4000000 in
theorem tX9_nearest_36 {E : En} {b : Bn} {xf : Int} {sf : Mem} {k4 : Int → Int → Int → Mem → Option (Int × Mem)} {p1 : Int} {p3 : Int} {t0 : Int} {s : Mem} (G : ab_G E b cX9_nearest 4 RX9 (some .int) 1)  (K4 : ∀ {p1 : Int} {p2 : Int} {p3 : Int} {s : Mem},  k4 p1 p2 p3 s = some (xf, sf) → ab_X E b (ab_MQ E b (some (vI xf)) sf) 4 4 [(0, vR 0), (1, vI p1), (2, vI p2), (3, vI p3)] [] s) (H : fX9_nearest_36 k4 p1 p3 t0 s = some (xf, sf)) : ab_X E b (ab_MQ E b (some (vI xf)) sf) 4 36 [(0, vR 0), (1, vI p1), (3, vI p3)] [vI t0] s := by
  unfold fX9_nearest_36 at H
  refine x_istore_n (ls' := [(2, vI t0), (0, vR 0), (1, vI p1), (3, vI p3)]) G dX9_nearest_36 rfl (by decide) rfl ?_
  refine x_iincL (j := 3) G dX9_nearest_37 rfl (by decide) H (fun v1 hv1 H => x_ls (ls' := [(3, vI v1), (2, vI t0), (0, vR 0), (1, vI p1)]) rfl ?_)
  refine x_goto (tgt := 4) G dX9_nearest_40 (by decide) ?_
  exact x_subp (ls' := [(0, vR 0), (1, vI p1), (2, vI t0), (3, vI v1)]) [2, 3, 1, 0] rfl (K4 H)
def fX9_nearest_4  : Nat → Int → Int → Int → Mem → Option (Int × Mem)
  | 0, _, _, _, _ => none
  | n + 1, p1, p2, p3, s =>
  (rdI s 1 183).bind fun x1 =>
  if x1 ≤ p3 then
    some (p2, s)
  else
    b2 (fX9_away p1 p3 s) fun r3 s4 =>
    b2 (fX9_away p1 p2 s4) fun r5 s6 =>
    if r5 ≤ r3 then
      fX9_nearest_36 (fun p1 p2 p3 s => fX9_nearest_4 n p1 p2 p3 s) p1 p3 p2 s6
    else
      fX9_nearest_36 (fun p1 p2 p3 s => fX9_nearest_4 n p1 p2 p3 s) p1 p3 p3 s6
set_option maxHeartbeats 4000000 in
theorem tX9_nearest_4 {E : En} {b : Bn} {xf : Int} {sf : Mem}  (G : ab_G E b cX9_nearest 4 RX9 (some .int) 1)  : ∀ (n : Nat) {p1 : Int} {p2 : Int} {p3 : Int} {s : Mem}, fX9_nearest_4 n p1 p2 p3 s = some (xf, sf) → ab_X E b (ab_MQ E b (some (vI xf)) sf) 4 4 [(0, vR 0), (1, vI p1), (2, vI p2), (3, vI p3)] [] s := by
  intro n
  induction n with
  | zero => intro p1 p2 p3 s H; rw [fX9_nearest_4] at H; cases H
  | succ n ih =>
    intro p1 p2 p3 s H
    rw [fX9_nearest_4] at H
    refine x_iload_n (j := 3) G dX9_nearest_4 rfl rfl ?_
    refine x_aload_n (j := 0) G dX9_nearest_5 rfl rfl ?_
    refine gf_878 G sh_0 pt_0_1 dX9_nearest_6 ?_
    refine x_sipush G dX9_nearest_9 (by decide) (by decide) ?_
    refine x_iald G dX9_nearest_12 H (fun x1 hx1 H => ?_)
    refine x_icmp_ge (tgt := 43) G dX9_nearest_13 (by decide) (fun q2 => ?_) (fun q2 => ?_)
    · have H := if_some_t H q2
      refine x_iload_n (j := 2) G dX9_nearest_43 rfl rfl ?_
      cases H
      exact x_iret G dX9_nearest_44
    · have H := if_some_f H q2
      refine x_aload_n (j := 0) G dX9_nearest_16 rfl rfl ?_
      refine x_iload_n (j := 1) G dX9_nearest_17 rfl rfl ?_
      refine x_iload_n (j := 3) G dX9_nearest_18 rfl rfl ?_
      obtain ⟨r3, s4, c4, H⟩ := b2_some H
      refine cv_1046 (As := [vI p1, vI p3]) (rest := []) G (rX9_away  c4) sh_0 (by omega) rfl rfl (Nat.le_of_ble_eq_true rfl) dX9_nearest_19 ?_
      refine x_aload_n (j := 0) G dX9_nearest_22 rfl rfl ?_
      refine x_iload_n (j := 1) G dX9_nearest_23 rfl rfl ?_
      refine x_iload_n (j := 2) G dX9_nearest_24 rfl rfl ?_
      obtain ⟨r5, s6, c6, H⟩ := b2_some H
      refine cv_1046 (As := [vI p1, vI p2]) (rest := [vI r3]) G (rX9_away  c6) sh_0 (by omega) rfl rfl (Nat.le_of_ble_eq_true rfl) dX9_nearest_25 ?_
      refine x_icmp_ge (tgt := 35) G dX9_nearest_28 (by decide) (fun q7 => ?_) (fun q7 => ?_)
      · have H := if_some_t H q7
        refine x_iload_n (j := 2) G dX9_nearest_35 rfl rfl ?_
        exact x_subp (ls' := [(0, vR 0), (1, vI p1), (3, vI p3)]) [0, 1, 3] rfl (tX9_nearest_36 G  ih H)
      · have H := if_some_f H q7
        refine x_iload_n (j := 3) G dX9_nearest_31 rfl rfl ?_
        refine x_goto (tgt := 36) G dX9_nearest_32 (by decide) ?_
        exact x_subp (ls' := [(0, vR 0), (1, vI p1), (3, vI p3)]) [0, 1, 3] rfl (tX9_nearest_36 G  ih H)
def fX9_nearest (a1 : Int) (s : Mem) : Option (Int × Mem) :=
  fX9_nearest_4 600 a1 0 1 s
set_option maxHeartbeats 4000000 in
theorem rX9_nearest {E : En} {xf : Int} {sf : Mem} {a1 : Int} {s : Mem}  (H : fX9_nearest a1 s = some (xf, sf)) : ab_Run E 1 yX9_nearest cX9_nearest 4 (some .int) [vR 0, vI a1] (some (vI xf)) s sf := by
  unfold fX9_nearest at H
  refine ab_intro (own := RX9) (by decide +kernel) rfl (Nat.le_of_ble_eq_true rfl) rfl (fun b G => ?_)
  refine x_iconst G dX9_nearest_0 (by decide) ?_
  refine x_istore_n (ls' := [(2, vI 0), (0, vR 0), (1, vI a1)]) G dX9_nearest_1 rfl (by decide) rfl ?_
  refine x_iconst G dX9_nearest_2 (by decide) ?_
  refine x_istore_n (ls' := [(3, vI 1), (2, vI 0), (0, vR 0), (1, vI a1)]) G dX9_nearest_3 rfl (by decide) rfl ?_
  exact x_subp (ls' := [(0, vR 0), (1, vI a1), (2, vI 0), (3, vI 1)]) [2, 3, 1, 0] rfl (tX9_nearest_4 G 600 H)
def fX9_getsIn_86 (k6 : Int → Int → Int → Int → Int → Mem → Option (Int × Mem)) (p1 : Int) (p2 : Int) (p3 : Int) (p5 : Int) (t0 : Int) (t1 : Int) (s : Mem) : Option (Int × Mem) :=
  lt' (w32 (t0 + t1)) fun v1 =>
  lt' (w32 (p5 + 1)) fun v2 =>
  k6 p1 p2 p3 v1 v2 s
set_option maxHeartbeats 4000000 in
theorem tX9_getsIn_86 {E : En} {b : Bn} {xf : Int} {sf : Mem} {k6 : Int → Int → Int → Int → Int → Mem → Option (Int × Mem)} {p1 : Int} {p2 : Int} {p3 : Int} {p5 : Int} {t0 : Int} {t1 : Int} {s : Mem} (G : ab_G E b cX9_getsIn 8 RX9 (some .int) 3)  (K6 : ∀ {p1 : Int} {p2 : Int} {p3 : Int} {p4 : Int} {p5 : Int} {s : Mem},  k6 p1 p2 p3 p4 p5 s = some (xf, sf) → ab_X E b (ab_MQ E b (some (vI xf)) sf) 8 6 [(0, vR 0), (1, vI p1), (2, vI p2), (3, vI p3), (4, vI p4), (5, vI p5)] [] s) (H : fX9_getsIn_86 k6 p1 p2 p3 p5 t0 t1 s = some (xf, sf)) : ab_X E b (ab_MQ E b (some (vI xf)) sf) 8 86 [(0, vR 0), (1, vI p1), (2, vI p2), (3, vI p3), (5, vI p5)] [vI t1, vI t0] s := by
  unfold fX9_getsIn_86 at H
  refine x_iadd G dX9_getsIn_86 ?_
  refine x_let H (fun v1 hv1 H => ?_)
  refine x_istore (ls' := [(4, vI v1), (0, vR 0), (1, vI p1), (2, vI p2), (3, vI p3), (5, vI p5)]) G dX9_getsIn_87 (by decide) rfl ?_
  refine x_iincL (j := 5) G dX9_getsIn_89 rfl (by decide) H (fun v2 hv2 H => x_ls (ls' := [(5, vI v2), (4, vI v1), (0, vR 0), (1, vI p1), (2, vI p2), (3, vI p3)]) rfl ?_)
  refine x_goto (tgt := 6) G dX9_getsIn_92 (by decide) ?_
  exact x_subp (ls' := [(0, vR 0), (1, vI p1), (2, vI p2), (3, vI p3), (4, vI v1), (5, vI v2)]) [2, 3, 4, 5, 1, 0] rfl (K6 H)
def fX9_getsIn_85 (k6 : Int → Int → Int → Int → Int → Mem → Option (Int × Mem)) (p1 : Int) (p2 : Int) (p3 : Int) (p5 : Int) (t0 : Int) (s : Mem) : Option (Int × Mem) :=
  fX9_getsIn_86 k6 p1 p2 p3 p5 t0 0 s
set_option maxHeartbeats 4000000 in
theorem tX9_getsIn_85 {E : En} {b : Bn} {xf : Int} {sf : Mem} {k6 : Int → Int → Int → Int → Int → Mem → Option (Int × Mem)} {p1 : Int} {p2 : Int} {p3 : Int} {p5 : Int} {t0 : Int} {s : Mem} (G : ab_G E b cX9_getsIn 8 RX9 (some .int) 3)  (K6 : ∀ {p1 : Int} {p2 : Int} {p3 : Int} {p4 : Int} {p5 : Int} {s : Mem},  k6 p1 p2 p3 p4 p5 s = some (xf, sf) → ab_X E b (ab_MQ E b (some (vI xf)) sf) 8 6 [(0, vR 0), (1, vI p1), (2, vI p2), (3, vI p3), (4, vI p4), (5, vI p5)] [] s) (H : fX9_getsIn_85 k6 p1 p2 p3 p5 t0 s = some (xf, sf)) : ab_X E b (ab_MQ E b (some (vI xf)) sf) 8 85 [(0, vR 0), (1, vI p1), (2, vI p2), (3, vI p3), (5, vI p5)] [vI t0] s := by
  unfold fX9_getsIn_85 at H
  refine x_iconst G dX9_getsIn_85 (by decide) ?_
  exact x_subp (ls' := [(0, vR 0), (1, vI p1), (2, vI p2), (3, vI p3), (5, vI p5)]) [0, 1, 2, 3, 4] rfl (tX9_getsIn_86 G  K6 H)
def fX9_getsIn_33 (k6 : Int → Int → Int → Int → Int → Mem → Option (Int × Mem)) : Nat → Int → Int → Int → Int → Int → Int → Int → Mem → Option (Int × Mem)
  | 0, _, _, _, _, _, _, _, _ => none
  | n + 1, p1, p2, p3, p4, p5, p6, p7, s =>
  if 24 ≤ p7 then
    if p6 = 0 then
      fX9_getsIn_85 k6 p1 p2 p3 p5 p4 s
    else
      b2 (fX9_isThought p5 s) fun r3 s4 =>
      if r3 = 0 then
        fX9_getsIn_85 k6 p1 p2 p3 p5 p4 s4
      else
        b2 (fX9_tenths p5 s4) fun r6 s7 =>
        fX9_getsIn_86 k6 p1 p2 p3 p5 p4 r6 s7
  else
    b2 (fX9_isOpen p2 p5 p7 s) fun r8 s9 =>
    lt' (orI p6 r8) fun v10 =>
    lt' (w32 (p7 + 1)) fun v11 =>
    fX9_getsIn_33 k6 n p1 p2 p3 p4 p5 v10 v11 s9
set_option maxHeartbeats 4000000 in
theorem tX9_getsIn_33 {E : En} {b : Bn} {xf : Int} {sf : Mem} {k6 : Int → Int → Int → Int → Int → Mem → Option (Int × Mem)} (G : ab_G E b cX9_getsIn 8 RX9 (some .int) 3) (K6 : ∀ {p1 : Int} {p2 : Int} {p3 : Int} {p4 : Int} {p5 : Int} {s : Mem},  k6 p1 p2 p3 p4 p5 s = some (xf, sf) → ab_X E b (ab_MQ E b (some (vI xf)) sf) 8 6 [(0, vR 0), (1, vI p1), (2, vI p2), (3, vI p3), (4, vI p4), (5, vI p5)] [] s) : ∀ (n : Nat) {p1 : Int} {p2 : Int} {p3 : Int} {p4 : Int} {p5 : Int} {p6 : Int} {p7 : Int} {s : Mem}, fX9_getsIn_33 k6 n p1 p2 p3 p4 p5 p6 p7 s = some (xf, sf) → ab_X E b (ab_MQ E b (some (vI xf)) sf) 8 33 [(0, vR 0), (1, vI p1), (2, vI p2), (3, vI p3), (4, vI p4), (5, vI p5), (6, vI p6), (7, vI p7)] [] s := by
  intro n
  induction n with
  | zero => intro p1 p2 p3 p4 p5 p6 p7 s H; rw [fX9_getsIn_33] at H; cases H
  | succ n ih =>
    intro p1 p2 p3 p4 p5 p6 p7 s H
    rw [fX9_getsIn_33] at H
    refine x_iload (j := 7) G dX9_getsIn_33 rfl ?_
    refine x_bipush G dX9_getsIn_35 (by decide) (by decide) ?_
    refine x_icmp_ge (tgt := 60) G dX9_getsIn_37 (by decide) (fun q1 => ?_) (fun q1 => ?_)
    · have H := if_some_t H q1
      refine x_iload (j := 4) G dX9_getsIn_60 rfl ?_
      refine x_iload (j := 6) G dX9_getsIn_62 rfl ?_
      refine x_if_eq (tgt := 85) G dX9_getsIn_64 (by decide) (fun q2 => ?_) (fun q2 => ?_)
      · have H := if_some_t H q2
        exact x_subp (ls' := [(0, vR 0), (1, vI p1), (2, vI p2), (3, vI p3), (5, vI p5)]) [0, 1, 2, 3, 5] rfl (tX9_getsIn_85 G  K6 H)
      · have H := if_some_f H q2
        refine x_aload_n (j := 0) G dX9_getsIn_67 rfl rfl ?_
        refine x_iload (j := 5) G dX9_getsIn_68 rfl ?_
        obtain ⟨r3, s4, c4, H⟩ := b2_some H
        refine cv_1109 (As := [vI p5]) (rest := [vI p4]) G (rX9_isThought  c4) sh_0 (by omega) rfl rfl (Nat.le_of_ble_eq_true rfl) dX9_getsIn_70 ?_
        refine x_if_eq (tgt := 85) G dX9_getsIn_73 (by decide) (fun q5 => ?_) (fun q5 => ?_)
        · have H := if_some_t H q5
          exact x_subp (ls' := [(0, vR 0), (1, vI p1), (2, vI p2), (3, vI p3), (5, vI p5)]) [0, 1, 2, 3, 5] rfl (tX9_getsIn_85 G  K6 H)
        · have H := if_some_f H q5
          refine x_aload_n (j := 0) G dX9_getsIn_76 rfl rfl ?_
          refine x_iload (j := 5) G dX9_getsIn_77 rfl ?_
          obtain ⟨r6, s7, c7, H⟩ := b2_some H
          refine cv_1113 (As := [vI p5]) (rest := [vI p4]) G (rX9_tenths  c7) sh_0 (by omega) rfl rfl (Nat.le_of_ble_eq_true rfl) dX9_getsIn_79 ?_
          refine x_goto (tgt := 86) G dX9_getsIn_82 (by decide) ?_
          exact x_subp (ls' := [(0, vR 0), (1, vI p1), (2, vI p2), (3, vI p3), (5, vI p5)]) [0, 1, 2, 3, 5] rfl (tX9_getsIn_86 G  K6 H)
    · have H := if_some_f H q1
      refine x_iload (j := 6) G dX9_getsIn_40 rfl ?_
      refine x_aload_n (j := 0) G dX9_getsIn_42 rfl rfl ?_
      refine x_iload_n (j := 2) G dX9_getsIn_43 rfl rfl ?_
      refine x_iload (j := 5) G dX9_getsIn_44 rfl ?_
      refine x_iload (j := 7) G dX9_getsIn_46 rfl ?_
      obtain ⟨r8, s9, c9, H⟩ := b2_some H
      refine cv_1022 (As := [vI p2, vI p5, vI p7]) (rest := [vI p6]) G (rX9_isOpen  c9) sh_0 (by omega) rfl rfl (Nat.le_of_ble_eq_true rfl) dX9_getsIn_48 ?_
      refine x_ior G dX9_getsIn_51 ?_
      refine x_let H (fun v10 hv10 H => ?_)
      refine x_istore (ls' := [(6, vI v10), (0, vR 0), (1, vI p1), (2, vI p2), (3, vI p3), (4, vI p4), (5, vI p5), (7, vI p7)]) G dX9_getsIn_52 (by decide) rfl ?_
      refine x_iincL (j := 7) G dX9_getsIn_54 rfl (by decide) H (fun v11 hv11 H => x_ls (ls' := [(7, vI v11), (6, vI v10), (0, vR 0), (1, vI p1), (2, vI p2), (3, vI p3), (4, vI p4), (5, vI p5)]) rfl ?_)
      refine x_goto (tgt := 33) G dX9_getsIn_57 (by decide) ?_
      exact x_subp (ls' := [(0, vR 0), (1, vI p1), (2, vI p2), (3, vI p3), (4, vI p4), (5, vI p5), (6, vI v10), (7, vI v11)]) [2, 3, 4, 5, 6, 7, 1, 0] rfl (ih H)
def fX9_getsIn_6  : Nat → Int → Int → Int → Int → Int → Mem → Option (Int × Mem)
  | 0, _, _, _, _, _, _ => none
  | n + 1, p1, p2, p3, p4, p5, s =>
  (rdI s 1 185).bind fun x1 =>
  if x1 ≤ p5 then
    some (p4, s)
  else
    b2 (fX9_reachOf p1 p2 p5 p3 s) fun r3 s4 =>
    fX9_getsIn_33 (fun p1 p2 p3 p4 p5 s => fX9_getsIn_6 n p1 p2 p3 p4 p5 s) 600 p1 p2 p3 p4 p5 0 r3 s4
set_option maxHeartbeats 4000000 in
theorem tX9_getsIn_6 {E : En} {b : Bn} {xf : Int} {sf : Mem}  (G : ab_G E b cX9_getsIn 8 RX9 (some .int) 3)  : ∀ (n : Nat) {p1 : Int} {p2 : Int} {p3 : Int} {p4 : Int} {p5 : Int} {s : Mem}, fX9_getsIn_6 n p1 p2 p3 p4 p5 s = some (xf, sf) → ab_X E b (ab_MQ E b (some (vI xf)) sf) 8 6 [(0, vR 0), (1, vI p1), (2, vI p2), (3, vI p3), (4, vI p4), (5, vI p5)] [] s := by
  intro n
  induction n with
  | zero => intro p1 p2 p3 p4 p5 s H; rw [fX9_getsIn_6] at H; cases H
  | succ n ih =>
    intro p1 p2 p3 p4 p5 s H
    rw [fX9_getsIn_6] at H
    refine x_iload (j := 5) G dX9_getsIn_6 rfl ?_
    refine x_aload_n (j := 0) G dX9_getsIn_8 rfl rfl ?_
    refine gf_878 G sh_0 pt_0_1 dX9_getsIn_9 ?_
    refine x_sipush G dX9_getsIn_12 (by decide) (by decide) ?_
    refine x_iald G dX9_getsIn_15 H (fun x1 hx1 H => ?_)
    refine x_icmp_ge (tgt := 95) G dX9_getsIn_16 (by decide) (fun q2 => ?_) (fun q2 => ?_)
    · have H := if_some_t H q2
      refine x_iload (j := 4) G dX9_getsIn_95 rfl ?_
      cases H
      exact x_iret G dX9_getsIn_97
    · have H := if_some_f H q2
      refine x_iconst G dX9_getsIn_19 (by decide) ?_
      refine x_istore (ls' := [(6, vI 0), (0, vR 0), (1, vI p1), (2, vI p2), (3, vI p3), (4, vI p4), (5, vI p5)]) G dX9_getsIn_20 (by decide) rfl ?_
      refine x_aload_n (j := 1) G dX9_getsIn_22 rfl rfl ?_
      refine x_iload_n (j := 2) G dX9_getsIn_23 rfl rfl ?_
      refine x_iload_n (j := 3) G dX9_getsIn_24 rfl rfl ?_
      refine x_iload (j := 6) G dX9_getsIn_25 rfl ?_
      refine x_iload_n (j := 4) G dX9_getsIn_27 rfl rfl ?_
      obtain ⟨r3, s4, c4, H⟩ := b2_some H
      refine cv_1042 (As := [vI p1, vI p2, vI p5, vI p3]) (rest := []) G (rX9_reachOf  c4) sh_0 (by omega) rfl rfl (Nat.le_of_ble_eq_true rfl) dX9_getsIn_28 ?_
      refine x_istore (ls' := [(7, vI r3), (6, vI 0), (0, vR 0), (1, vI p1), (2, vI p2), (3, vI p3), (4, vI p4), (5, vI p5)]) G dX9_getsIn_31 (by decide) rfl ?_
      exact x_subp (ls' := [(0, vR 0), (1, vI p1), (2, vI p2), (3, vI p3), (4, vI p4), (5, vI p5), (6, vI 0), (7, vI r3)]) [2, 3, 4, 5, 6, 7, 1, 0] rfl (tX9_getsIn_33 G ih 600 H)
def fX9_getsIn (a1 : Int) (a2 : Int) (a3 : Int) (s : Mem) : Option (Int × Mem) :=
  fX9_getsIn_6 600 a1 a2 a3 0 0 s
set_option maxHeartbeats 4000000 in
theorem rX9_getsIn {E : En} {xf : Int} {sf : Mem} {a1 : Int} {a2 : Int} {a3 : Int} {s : Mem}  (H : fX9_getsIn a1 a2 a3 s = some (xf, sf)) : ab_Run E 3 yX9_getsIn cX9_getsIn 8 (some .int) [vR 0, vI a1, vI a2, vI a3] (some (vI xf)) s sf := by
  unfold fX9_getsIn at H
  refine ab_intro (own := RX9) (by decide +kernel) rfl (Nat.le_of_ble_eq_true rfl) rfl (fun b G => ?_)
  refine x_iconst G dX9_getsIn_0 (by decide) ?_
  refine x_istore (ls' := [(4, vI 0), (0, vR 0), (1, vI a1), (2, vI a2), (3, vI a3)]) G dX9_getsIn_1 (by decide) rfl ?_
  refine x_iconst G dX9_getsIn_3 (by decide) ?_
  refine x_istore (ls' := [(5, vI 0), (4, vI 0), (0, vR 0), (1, vI a1), (2, vI a2), (3, vI a3)]) G dX9_getsIn_4 (by decide) rfl ?_
  exact x_subp (ls' := [(0, vR 0), (1, vI a1), (2, vI a2), (3, vI a3), (4, vI 0), (5, vI 0)]) [2, 3, 4, 5, 1, 0] rfl (tX9_getsIn_6 G 600 H)
def fX9_openest_68 (k5 : Int → Int → Int → Int → Mem → Option (Int × Mem)) (p1 : Int) (p2 : Int) (p4 : Int) (t0 : Int) (s : Mem) : Option (Int × Mem) :=
  lt' (w32 (p4 + 1)) fun v1 =>
  k5 p1 p2 t0 v1 s
set_option maxHeartbeats 4000000 in
theorem tX9_openest_68 {E : En} {b : Bn} {xf : Int} {sf : Mem} {k5 : Int → Int → Int → Int → Mem → Option (Int × Mem)} {p1 : Int} {p2 : Int} {p4 : Int} {t0 : Int} {s : Mem} (G : ab_G E b cX9_openest 6 RX9 (some .int) 4)  (K5 : ∀ {p1 : Int} {p2 : Int} {p3 : Int} {p4 : Int} {s : Mem},  k5 p1 p2 p3 p4 s = some (xf, sf) → ab_X E b (ab_MQ E b (some (vI xf)) sf) 6 5 [(0, vR 0), (1, vI p1), (2, vI p2), (3, vI p3), (4, vI p4)] [] s) (H : fX9_openest_68 k5 p1 p2 p4 t0 s = some (xf, sf)) : ab_X E b (ab_MQ E b (some (vI xf)) sf) 6 68 [(0, vR 0), (1, vI p1), (2, vI p2), (4, vI p4)] [vI t0] s := by
  unfold fX9_openest_68 at H
  refine x_istore_n (ls' := [(3, vI t0), (0, vR 0), (1, vI p1), (2, vI p2), (4, vI p4)]) G dX9_openest_68 rfl (by decide) rfl ?_
  refine x_iincL (j := 4) G dX9_openest_69 rfl (by decide) H (fun v1 hv1 H => x_ls (ls' := [(4, vI v1), (3, vI t0), (0, vR 0), (1, vI p1), (2, vI p2)]) rfl ?_)
  refine x_goto (tgt := 5) G dX9_openest_72 (by decide) ?_
  exact x_subp (ls' := [(0, vR 0), (1, vI p1), (2, vI p2), (3, vI t0), (4, vI v1)]) [2, 3, 4, 1, 0] rfl (K5 H)
def fX9_openest_62 (k5 : Int → Int → Int → Int → Mem → Option (Int × Mem)) (p1 : Int) (p2 : Int) (p4 : Int) (s : Mem) : Option (Int × Mem) :=
  fX9_openest_68 k5 p1 p2 p4 p4 s
set_option maxHeartbeats 4000000 in
theorem tX9_openest_62 {E : En} {b : Bn} {xf : Int} {sf : Mem} {k5 : Int → Int → Int → Int → Mem → Option (Int × Mem)} {p1 : Int} {p2 : Int} {p4 : Int} {s : Mem} (G : ab_G E b cX9_openest 6 RX9 (some .int) 4)  (K5 : ∀ {p1 : Int} {p2 : Int} {p3 : Int} {p4 : Int} {s : Mem},  k5 p1 p2 p3 p4 s = some (xf, sf) → ab_X E b (ab_MQ E b (some (vI xf)) sf) 6 5 [(0, vR 0), (1, vI p1), (2, vI p2), (3, vI p3), (4, vI p4)] [] s) (H : fX9_openest_62 k5 p1 p2 p4 s = some (xf, sf)) : ab_X E b (ab_MQ E b (some (vI xf)) sf) 6 62 [(0, vR 0), (1, vI p1), (2, vI p2), (4, vI p4)] [] s := by
  unfold fX9_openest_62 at H
  refine x_iload (j := 3) G dX9_openest_62 rfl ?_
  refine x_goto (tgt := 68) G dX9_openest_64 (by decide) ?_
  exact x_subp (ls' := [(0, vR 0), (1, vI p1), (2, vI p2), (4, vI p4)]) [0, 1, 2, 3] rfl (tX9_openest_68 G  K5 H)
def fX9_openest_67 (k5 : Int → Int → Int → Int → Mem → Option (Int × Mem)) (p1 : Int) (p2 : Int) (p3 : Int) (p4 : Int) (s : Mem) : Option (Int × Mem) :=
  fX9_openest_68 k5 p1 p2 p4 p3 s
set_option maxHeartbeats 4000000 in
theorem tX9_openest_67 {E : En} {b : Bn} {xf : Int} {sf : Mem} {k5 : Int → Int → Int → Int → Mem → Option (Int × Mem)} {p1 : Int} {p2 : Int} {p3 : Int} {p4 : Int} {s : Mem} (G : ab_G E b cX9_openest 6 RX9 (some .int) 4)  (K5 : ∀ {p1 : Int} {p2 : Int} {p3 : Int} {p4 : Int} {s : Mem},  k5 p1 p2 p3 p4 s = some (xf, sf) → ab_X E b (ab_MQ E b (some (vI xf)) sf) 6 5 [(0, vR 0), (1, vI p1), (2, vI p2), (3, vI p3), (4, vI p4)] [] s) (H : fX9_openest_67 k5 p1 p2 p3 p4 s = some (xf, sf)) : ab_X E b (ab_MQ E b (some (vI xf)) sf) 6 67 [(0, vR 0), (1, vI p1), (2, vI p2), (3, vI p3), (4, vI p4)] [] s := by
  unfold fX9_openest_67 at H
  refine x_iload_n (j := 3) G dX9_openest_67 rfl rfl ?_
  exact x_subp (ls' := [(0, vR 0), (1, vI p1), (2, vI p2), (4, vI p4)]) [0, 1, 2, 4] rfl (tX9_openest_68 G  K5 H)
def fX9_openest_5  : Nat → Int → Int → Int → Int → Mem → Option (Int × Mem)
  | 0, _, _, _, _, _ => none
  | n + 1, p1, p2, p3, p4, s =>
  (rdI s 1 183).bind fun x1 =>
  if x1 ≤ p4 then
    some (p3, s)
  else
    b2 (fX9_getsIn p1 p4 p2 s) fun r3 s4 =>
    b2 (fX9_getsIn p1 p3 p2 s4) fun r5 s6 =>
    lt' (w32 (r3 - r5)) fun v7 =>
    if 0 < v7 then
      fX9_openest_62 (fun p1 p2 p3 p4 s => fX9_openest_5 n p1 p2 p3 p4 s) p1 p2 p4 s6
    else
      if v7 = 0 then
        b2 (fX9_away p1 p4 s6) fun r10 s11 =>
        b2 (fX9_away p1 p3 s11) fun r12 s13 =>
        if r12 ≤ r10 then
          fX9_openest_67 (fun p1 p2 p3 p4 s => fX9_openest_5 n p1 p2 p3 p4 s) p1 p2 p3 p4 s13
        else
          fX9_openest_62 (fun p1 p2 p3 p4 s => fX9_openest_5 n p1 p2 p3 p4 s) p1 p2 p4 s13
      else
        fX9_openest_67 (fun p1 p2 p3 p4 s => fX9_openest_5 n p1 p2 p3 p4 s) p1 p2 p3 p4 s6
set_option maxHeartbeats 4000000 in
theorem tX9_openest_5 {E : En} {b : Bn} {xf : Int} {sf : Mem}  (G : ab_G E b cX9_openest 6 RX9 (some .int) 4)  : ∀ (n : Nat) {p1 : Int} {p2 : Int} {p3 : Int} {p4 : Int} {s : Mem}, fX9_openest_5 n p1 p2 p3 p4 s = some (xf, sf) → ab_X E b (ab_MQ E b (some (vI xf)) sf) 6 5 [(0, vR 0), (1, vI p1), (2, vI p2), (3, vI p3), (4, vI p4)] [] s := by
  intro n
  induction n with
  | zero => intro p1 p2 p3 p4 s H; rw [fX9_openest_5] at H; cases H
  | succ n ih =>
    intro p1 p2 p3 p4 s H
    rw [fX9_openest_5] at H
    refine x_iload (j := 4) G dX9_openest_5 rfl ?_
    refine x_aload_n (j := 0) G dX9_openest_7 rfl rfl ?_
    refine gf_878 G sh_0 pt_0_1 dX9_openest_8 ?_
    refine x_sipush G dX9_openest_11 (by decide) (by decide) ?_
    refine x_iald G dX9_openest_14 H (fun x1 hx1 H => ?_)
    refine x_icmp_ge (tgt := 75) G dX9_openest_15 (by decide) (fun q2 => ?_) (fun q2 => ?_)
    · have H := if_some_t H q2
      refine x_iload_n (j := 3) G dX9_openest_75 rfl rfl ?_
      cases H
      exact x_iret G dX9_openest_76
    · have H := if_some_f H q2
      refine x_aload_n (j := 0) G dX9_openest_18 rfl rfl ?_
      refine x_iload_n (j := 1) G dX9_openest_19 rfl rfl ?_
      refine x_iload (j := 4) G dX9_openest_20 rfl ?_
      refine x_iload_n (j := 2) G dX9_openest_22 rfl rfl ?_
      obtain ⟨r3, s4, c4, H⟩ := b2_some H
      refine cv_1148 (As := [vI p1, vI p4, vI p2]) (rest := []) G (rX9_getsIn  c4) sh_0 (by omega) rfl rfl (Nat.le_of_ble_eq_true rfl) dX9_openest_23 ?_
      refine x_aload_n (j := 0) G dX9_openest_26 rfl rfl ?_
      refine x_iload_n (j := 1) G dX9_openest_27 rfl rfl ?_
      refine x_iload_n (j := 3) G dX9_openest_28 rfl rfl ?_
      refine x_iload_n (j := 2) G dX9_openest_29 rfl rfl ?_
      obtain ⟨r5, s6, c6, H⟩ := b2_some H
      refine cv_1148 (As := [vI p1, vI p3, vI p2]) (rest := [vI r3]) G (rX9_getsIn  c6) sh_0 (by omega) rfl rfl (Nat.le_of_ble_eq_true rfl) dX9_openest_30 ?_
      refine x_isub G dX9_openest_33 ?_
      refine x_let H (fun v7 hv7 H => ?_)
      refine x_istore (ls' := [(5, vI v7), (0, vR 0), (1, vI p1), (2, vI p2), (3, vI p3), (4, vI p4)]) G dX9_openest_34 (by decide) rfl ?_
      refine x_iload (j := 0) G dX9_openest_36 rfl ?_
      refine x_if_gt (tgt := 62) G dX9_openest_38 (by decide) (fun q8 => ?_) (fun q8 => ?_)
      · have H := if_some_t H q8
        exact x_subp (ls' := [(0, vR 0), (1, vI p1), (2, vI p2), (4, vI p4)]) [1, 2, 3, 5] rfl (tX9_openest_62 G  ih H)
      · have H := if_some_f H q8
        refine x_iload (j := 0) G dX9_openest_41 rfl ?_
        refine x_if_ne (tgt := 67) G dX9_openest_43 (by decide) (fun q9 => ?_) (fun q9 => ?_)
        · have H := if_some_f H q9
          exact x_subp (ls' := [(0, vR 0), (1, vI p1), (2, vI p2), (3, vI p3), (4, vI p4)]) [1, 2, 3, 4, 5] rfl (tX9_openest_67 G  ih H)
        · have H := if_some_t H q9
          refine x_aload_n (j := 1) G dX9_openest_46 rfl rfl ?_
          refine x_iload_n (j := 2) G dX9_openest_47 rfl rfl ?_
          refine x_iload (j := 5) G dX9_openest_48 rfl ?_
          obtain ⟨r10, s11, c11, H⟩ := b2_some H
          refine cv_1046 (As := [vI p1, vI p4]) (rest := []) G (rX9_away  c11) sh_0 (by omega) rfl rfl (Nat.le_of_ble_eq_true rfl) dX9_openest_50 ?_
          refine x_aload_n (j := 1) G dX9_openest_53 rfl rfl ?_
          refine x_iload_n (j := 2) G dX9_openest_54 rfl rfl ?_
          refine x_iload_n (j := 4) G dX9_openest_55 rfl rfl ?_
          obtain ⟨r12, s13, c13, H⟩ := b2_some H
          refine cv_1046 (As := [vI p1, vI p3]) (rest := [vI r10]) G (rX9_away  c13) sh_0 (by omega) rfl rfl (Nat.le_of_ble_eq_true rfl) dX9_openest_56 ?_
          refine x_icmp_ge (tgt := 67) G dX9_openest_59 (by decide) (fun q14 => ?_) (fun q14 => ?_)
          · have H := if_some_t H q14
            exact x_subp (ls' := [(0, vR 0), (1, vI p1), (2, vI p2), (3, vI p3), (4, vI p4)]) [1, 2, 3, 4, 5] rfl (tX9_openest_67 G  ih H)
          · have H := if_some_f H q14
            exact x_subp (ls' := [(0, vR 0), (1, vI p1), (2, vI p2), (4, vI p4)]) [1, 2, 3, 5] rfl (tX9_openest_62 G  ih H)
def fX9_openest (a1 : Int) (a2 : Int) (s : Mem) : Option (Int × Mem) :=
  fX9_openest_5 600 a1 a2 0 1 s
set_option maxHeartbeats 4000000 in
theorem rX9_openest {E : En} {xf : Int} {sf : Mem} {a1 : Int} {a2 : Int} {s : Mem}  (H : fX9_openest a1 a2 s = some (xf, sf)) : ab_Run E 4 yX9_openest cX9_openest 6 (some .int) [vR 0, vI a1, vI a2] (some (vI xf)) s sf := by
  unfold fX9_openest at H
  refine ab_intro (own := RX9) (by decide +kernel) rfl (Nat.le_of_ble_eq_true rfl) rfl (fun b G => ?_)
  refine x_iconst G dX9_openest_0 (by decide) ?_
  refine x_istore_n (ls' := [(3, vI 0), (0, vR 0), (1, vI a1), (2, vI a2)]) G dX9_openest_1 rfl (by decide) rfl ?_
  refine x_iconst G dX9_openest_2 (by decide) ?_
  refine x_istore (ls' := [(4, vI 1), (3, vI 0), (0, vR 0), (1, vI a1), (2, vI a2)]) G dX9_openest_3 (by decide) rfl ?_
  exact x_subp (ls' := [(0, vR 0), (1, vI a1), (2, vI a2), (3, vI 0), (4, vI 1)]) [2, 3, 4, 1, 0] rfl (tX9_openest_5 G 600 H)

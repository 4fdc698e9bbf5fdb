def fX6_tally  (s : Mem) : Option Mem :=
  if (s 18 3) = 104 then
    lt' (mu s 18 5 (w32 ((s 18 5) + 1))) fun s8 =>
    some s8
  else
    if (s 18 3) = 98 then
      lt' (mu s 18 6 (w32 ((s 18 6) + 1))) fun s7 =>
      some s7
    else
      if (s 18 3) = 115 then
        lt' (mu s 18 7 (w32 ((s 18 7) + 1))) fun s4 =>
        (rdI s4 20 0).bind fun x5 =>
        lt' (mu s4 18 8 (w32 ((s4 18 8) + x5))) fun s6 =>
        some s6
      else
        some s
set_option maxHeartbeats 4000000 in
theorem rX6_tally {E : En} {sf : Mem}  {s : Mem}  (H : fX6_tally  s = some sf) : ab_Run E 0 yX6_tally cX6_tally 1 none [vR 18] none s sf := by
  unfold fX6_tally at H
  refine ab_intro (own := RX6) (by decide +kernel) rfl (Nat.le_of_ble_eq_true rfl) rfl (fun b G => ?_)
  refine x_aload_n (j := 0) G dX6_tally_0 rfl rfl ?_
  refine gf_99 G sh_18 pt_18_3 dX6_tally_1 ?_
  refine x_bipush G dX6_tally_4 (by decide) (by decide) ?_
  refine x_icmp_ne (tgt := 22) G dX6_tally_6 (by decide) (fun q1 => ?_) (fun q1 => ?_)
  · have H := if_some_f H q1
    refine x_aload_n (j := 0) G dX6_tally_22 rfl rfl ?_
    refine gf_99 G sh_18 pt_18_3 dX6_tally_23 ?_
    refine x_bipush G dX6_tally_26 (by decide) (by decide) ?_
    refine x_icmp_ne (tgt := 44) G dX6_tally_28 (by decide) (fun q2 => ?_) (fun q2 => ?_)
    · have H := if_some_f H q2
      refine x_aload_n (j := 0) G dX6_tally_44 rfl rfl ?_
      refine gf_99 G sh_18 pt_18_3 dX6_tally_45 ?_
      refine x_bipush G dX6_tally_48 (by decide) (by decide) ?_
      refine x_icmp_ne (tgt := 78) G dX6_tally_50 (by decide) (fun q3 => ?_) (fun q3 => ?_)
      · have H := if_some_f H q3
        cases H
        exact x_vret G dX6_tally_78
      · have H := if_some_t H q3
        refine x_aload_n (j := 0) G dX6_tally_53 rfl rfl ?_
        refine x_dup G dX6_tally_54 rfl ?_
        refine gf_103 G sh_18 pt_18_7 dX6_tally_55 ?_
        refine x_iconst G dX6_tally_58 (by decide) ?_
        refine x_iadd G dX6_tally_59 ?_
        refine pf_103 G sh_18 pt_18_7 dX6_tally_60 H (fun s4 hs4 H => ?_)
        refine x_aload_n (j := 0) G dX6_tally_63 rfl rfl ?_
        refine x_dup G dX6_tally_64 rfl ?_
        refine gf_104 G sh_18 pt_18_8 dX6_tally_65 ?_
        refine x_aload_n (j := 0) G dX6_tally_68 rfl rfl ?_
        refine gf_100 G sh_18 pt_18_4 dX6_tally_69 ?_
        refine x_iconst G dX6_tally_72 (by decide) ?_
        refine x_iald G dX6_tally_73 H (fun x5 hx5 H => ?_)
        refine x_iadd G dX6_tally_74 ?_
        refine pf_104 G sh_18 pt_18_8 dX6_tally_75 H (fun s6 hs6 H => ?_)
        cases H
        exact x_vret G dX6_tally_78
    · have H := if_some_t H q2
      refine x_aload_n (j := 0) G dX6_tally_31 rfl rfl ?_
      refine x_dup G dX6_tally_32 rfl ?_
      refine gf_102 G sh_18 pt_18_6 dX6_tally_33 ?_
      refine x_iconst G dX6_tally_36 (by decide) ?_
      refine x_iadd G dX6_tally_37 ?_
      refine pf_102 G sh_18 pt_18_6 dX6_tally_38 H (fun s7 hs7 H => ?_)
      refine x_goto (tgt := 78) G dX6_tally_41 (by decide) ?_
      cases H
      exact x_vret G dX6_tally_78
  · have H := if_some_t H q1
    refine x_aload_n (j := 0) G dX6_tally_9 rfl rfl ?_
    refine x_dup G dX6_tally_10 rfl ?_
    refine gf_101 G sh_18 pt_18_5 dX6_tally_11 ?_
    refine x_iconst G dX6_tally_14 (by decide) ?_
    refine x_iadd G dX6_tally_15 ?_
    refine pf_101 G sh_18 pt_18_5 dX6_tally_16 H (fun s8 hs8 H => ?_)
    refine x_goto (tgt := 78) G dX6_tally_19 (by decide) ?_
    cases H
    exact x_vret G dX6_tally_78
def fX6_firstFault_6  : Nat → Int → Mem → Option (Int × Mem)
  | 0, _, _ => none
  | n + 1, p1, s =>
  if 500 ≤ p1 then
    some ((-4), s)
  else
    if (s 18 1) ≤ (s 18 2) then
      some ((-4), s)
    else
      lt' (s 18 2) fun v3 =>
      b2 (fX6_readItem  s) fun r4 s5 =>
      if r4 = 0 then
        some (v3, s5)
      else
        b2 (fX6_isSound  s5) fun r7 s8 =>
        if r7 = 0 then
          some (v3, s8)
        else
          (fX6_tally  s8).bind fun s11 =>
          lt' (w32 (p1 + 1)) fun v12 =>
          fX6_firstFault_6 n v12 s11
set_option maxHeartbeats 4000000 in
theorem tX6_firstFault_6 {E : En} {b : Bn} {xf : Int} {sf : Mem}  (G : ab_G E b cX6_firstFault 3 RX6 (some .int) 2)  : ∀ (n : Nat) {p1 : Int} {s : Mem}, fX6_firstFault_6 n p1 s = some (xf, sf) → ab_X E b (ab_MQ E b (some (vI xf)) sf) 3 6 [(0, vR 18), (1, vI p1)] [] s := by
  intro n
  induction n with
  | zero => intro p1 s H; rw [fX6_firstFault_6] at H; cases H
  | succ n ih =>
    intro p1 s H
    rw [fX6_firstFault_6] at H
    refine x_iload_n (j := 1) G dX6_firstFault_6 rfl rfl ?_
    refine x_sipush G dX6_firstFault_7 (by decide) (by decide) ?_
    refine x_icmp_ge (tgt := 55) G dX6_firstFault_10 (by decide) (fun q1 => ?_) (fun q1 => ?_)
    · have H := if_some_t H q1
      refine x_bipush G dX6_firstFault_55 (by decide) (by decide) ?_
      cases H
      exact x_iret G dX6_firstFault_57
    · have H := if_some_f H q1
      refine x_aload_n (j := 0) G dX6_firstFault_13 rfl rfl ?_
      refine gf_98 G sh_18 pt_18_2 dX6_firstFault_14 ?_
      refine x_aload_n (j := 0) G dX6_firstFault_17 rfl rfl ?_
      refine gf_96 G sh_18 pt_18_1 dX6_firstFault_18 ?_
      refine x_icmp_ge (tgt := 55) G dX6_firstFault_21 (by decide) (fun q2 => ?_) (fun q2 => ?_)
      · have H := if_some_t H q2
        refine x_bipush G dX6_firstFault_55 (by decide) (by decide) ?_
        cases H
        exact x_iret G dX6_firstFault_57
      · have H := if_some_f H q2
        refine x_aload_n (j := 0) G dX6_firstFault_24 rfl rfl ?_
        refine gf_98 G sh_18 pt_18_2 dX6_firstFault_25 ?_
        refine x_let H (fun v3 hv3 H => ?_)
        refine x_istore_n (ls' := [(2, vI v3), (0, vR 18), (1, vI p1)]) G dX6_firstFault_28 rfl (by decide) rfl ?_
        refine x_aload_n (j := 1) G dX6_firstFault_29 rfl rfl ?_
        obtain ⟨r4, s5, c5, H⟩ := b2_some H
        refine cv_402 (As := []) (rest := []) G (rX6_readItem  c5) sh_18 (by omega) rfl rfl (Nat.le_of_ble_eq_true rfl) dX6_firstFault_30 ?_
        refine x_if_eq (tgt := 43) G dX6_firstFault_33 (by decide) (fun q6 => ?_) (fun q6 => ?_)
        · have H := if_some_t H q6
          refine x_iload_n (j := 0) G dX6_firstFault_43 rfl rfl ?_
          cases H
          exact x_iret G dX6_firstFault_44
        · have H := if_some_f H q6
          refine x_aload_n (j := 1) G dX6_firstFault_36 rfl rfl ?_
          obtain ⟨r7, s8, c8, H⟩ := b2_some H
          refine cv_429 (As := []) (rest := []) G (rX6_isSound  c8) sh_18 (by omega) rfl rfl (Nat.le_of_ble_eq_true rfl) dX6_firstFault_37 ?_
          refine x_if_ne (tgt := 45) G dX6_firstFault_40 (by decide) (fun q9 => ?_) (fun q9 => ?_)
          · have H := if_some_f H q9
            refine x_aload_n (j := 1) G dX6_firstFault_45 rfl rfl ?_
            obtain ⟨s11, c11, H⟩ := bd_some H
            refine cv_433 (As := []) (rest := []) G (rX6_tally  c11) sh_18 (by omega) rfl rfl (Nat.le_of_ble_eq_true rfl) dX6_firstFault_46 ?_
            refine x_iincL (j := 2) G dX6_firstFault_49 rfl (by decide) H (fun v12 hv12 H => x_ls (ls' := [(1, vI v12), (2, vI v3), (0, vR 18)]) rfl ?_)
            refine x_goto (tgt := 6) G dX6_firstFault_52 (by decide) ?_
            exact x_subp (ls' := [(0, vR 18), (1, vI v12)]) [2, 0] rfl (ih H)
          · have H := if_some_t H q9
            refine x_iload_n (j := 0) G dX6_firstFault_43 rfl rfl ?_
            cases H
            exact x_iret G dX6_firstFault_44
def fX6_firstFault  (s : Mem) : Option (Int × Mem) :=
  (fX6_toBegin  s).bind fun s2 =>
  fX6_firstFault_6 600 0 s2
set_option maxHeartbeats 4000000 in
theorem rX6_firstFault {E : En} {xf : Int} {sf : Mem}  {s : Mem}  (H : fX6_firstFault  s = some (xf, sf)) : ab_Run E 2 yX6_firstFault cX6_firstFault 3 (some .int) [vR 18] (some (vI xf)) s sf := by
  unfold fX6_firstFault at H
  refine ab_intro (own := RX6) (by decide +kernel) rfl (Nat.le_of_ble_eq_true rfl) rfl (fun b G => ?_)
  refine x_aload_n (j := 0) G dX6_firstFault_0 rfl rfl ?_
  obtain ⟨s2, c2, H⟩ := bd_some H
  refine cv_398 (As := []) (rest := []) G (rX6_toBegin  c2) sh_18 (by omega) rfl rfl (Nat.le_of_ble_eq_true rfl) dX6_firstFault_1 ?_
  refine x_iconst G dX6_firstFault_4 (by decide) ?_
  refine x_istore_n (ls' := [(1, vI 0), (0, vR 18)]) G dX6_firstFault_5 rfl (by decide) rfl ?_
  exact x_subp (ls' := [(0, vR 18), (1, vI 0)]) [1, 0] rfl (tX6_firstFault_6 G 600 H)
def fX6_isWhole  (s : Mem) : Option (Int × Mem) :=
  if (s 18 5) ≤ 0 then
    some (0, s)
  else
    if (s 18 6) ≤ 0 then
      some (0, s)
    else
      if (s 18 8) = 10 then
        some (1, s)
      else
        some (0, s)
set_option maxHeartbeats 4000000 in
theorem rX6_isWhole {E : En} {xf : Int} {sf : Mem}  {s : Mem}  (H : fX6_isWhole  s = some (xf, sf)) : ab_Run E 0 yX6_isWhole cX6_isWhole 1 (some .boolean) [vR 18] (some (vI xf)) s sf := by
  unfold fX6_isWhole at H
  refine ab_intro (own := RX6) (by decide +kernel) rfl (Nat.le_of_ble_eq_true rfl) rfl (fun b G => ?_)
  refine x_aload_n (j := 0) G dX6_isWhole_0 rfl rfl ?_
  refine gf_101 G sh_18 pt_18_5 dX6_isWhole_1 ?_
  refine x_if_le (tgt := 27) G dX6_isWhole_4 (by decide) (fun q1 => ?_) (fun q1 => ?_)
  · have H := if_some_t H q1
    refine x_iconst G dX6_isWhole_27 (by decide) ?_
    cases H
    exact x_zret G (by decide) dX6_isWhole_28
  · have H := if_some_f H q1
    refine x_aload_n (j := 0) G dX6_isWhole_7 rfl rfl ?_
    refine gf_102 G sh_18 pt_18_6 dX6_isWhole_8 ?_
    refine x_if_le (tgt := 27) G dX6_isWhole_11 (by decide) (fun q2 => ?_) (fun q2 => ?_)
    · have H := if_some_t H q2
      refine x_iconst G dX6_isWhole_27 (by decide) ?_
      cases H
      exact x_zret G (by decide) dX6_isWhole_28
    · have H := if_some_f H q2
      refine x_aload_n (j := 0) G dX6_isWhole_14 rfl rfl ?_
      refine gf_104 G sh_18 pt_18_8 dX6_isWhole_15 ?_
      refine x_bipush G dX6_isWhole_18 (by decide) (by decide) ?_
      refine x_icmp_ne (tgt := 27) G dX6_isWhole_20 (by decide) (fun q3 => ?_) (fun q3 => ?_)
      · have H := if_some_f H q3
        refine x_iconst G dX6_isWhole_27 (by decide) ?_
        cases H
        exact x_zret G (by decide) dX6_isWhole_28
      · have H := if_some_t H q3
        refine x_iconst G dX6_isWhole_23 (by decide) ?_
        refine x_goto (tgt := 28) G dX6_isWhole_24 (by decide) ?_
        cases H
        exact x_zret G (by decide) dX6_isWhole_28
def fX6_fill_6  : Nat → Int → Mem → Option Mem
  | 0, _, _ => none
  | n + 1, p2, s =>
  if 500 ≤ p2 then
    some s
  else
    if (s 18 1) ≤ (s 18 2) then
      some s
    else
      b2 (fX6_readItem  s) fun r3 s4 =>
      if r3 = 0 then
        some s4
      else
        b2 (fX6_isSound  s4) fun r6 s7 =>
        if r6 = 0 then
          some s7
        else
          (fX5_take (s7 18 3) 20 s7).bind fun s10 =>
          (fX6_tally  s10).bind fun s12 =>
          lt' (w32 (p2 + 1)) fun v13 =>
          fX6_fill_6 n v13 s12
set_option maxHeartbeats 4000000 in
theorem tX6_fill_6 {E : En} {b : Bn} {sf : Mem}  (G : ab_G E b cX6_fill 3 RX6 none 2)  : ∀ (n : Nat) {p2 : Int} {s : Mem}, fX6_fill_6 n p2 s = some sf → ab_X E b (ab_MQ E b none sf) 3 6 [(0, vR 18), (1, vR 21), (2, vI p2)] [] s := by
  intro n
  induction n with
  | zero => intro p2 s H; rw [fX6_fill_6] at H; cases H
  | succ n ih =>
    intro p2 s H
    rw [fX6_fill_6] at H
    refine x_iload_n (j := 2) G dX6_fill_6 rfl rfl ?_
    refine x_sipush G dX6_fill_7 (by decide) (by decide) ?_
    refine x_icmp_ge (tgt := 61) G dX6_fill_10 (by decide) (fun q1 => ?_) (fun q1 => ?_)
    · have H := if_some_t H q1
      cases H
      exact x_vret G dX6_fill_61
    · have H := if_some_f H q1
      refine x_aload_n (j := 0) G dX6_fill_13 rfl rfl ?_
      refine gf_98 G sh_18 pt_18_2 dX6_fill_14 ?_
      refine x_aload_n (j := 0) G dX6_fill_17 rfl rfl ?_
      refine gf_96 G sh_18 pt_18_1 dX6_fill_18 ?_
      refine x_icmp_ge (tgt := 61) G dX6_fill_21 (by decide) (fun q2 => ?_) (fun q2 => ?_)
      · have H := if_some_t H q2
        cases H
        exact x_vret G dX6_fill_61
      · have H := if_some_f H q2
        refine x_aload_n (j := 0) G dX6_fill_24 rfl rfl ?_
        obtain ⟨r3, s4, c4, H⟩ := b2_some H
        refine cv_402 (As := []) (rest := []) G (rX6_readItem  c4) sh_18 (by omega) rfl rfl (Nat.le_of_ble_eq_true rfl) dX6_fill_25 ?_
        refine x_if_eq (tgt := 38) G dX6_fill_28 (by decide) (fun q5 => ?_) (fun q5 => ?_)
        · have H := if_some_t H q5
          cases H
          exact x_vret G dX6_fill_38
        · have H := if_some_f H q5
          refine x_aload_n (j := 0) G dX6_fill_31 rfl rfl ?_
          obtain ⟨r6, s7, c7, H⟩ := b2_some H
          refine cv_429 (As := []) (rest := []) G (rX6_isSound  c7) sh_18 (by omega) rfl rfl (Nat.le_of_ble_eq_true rfl) dX6_fill_32 ?_
          refine x_if_ne (tgt := 39) G dX6_fill_35 (by decide) (fun q8 => ?_) (fun q8 => ?_)
          · have H := if_some_f H q8
            refine x_aload_n (j := 1) G dX6_fill_39 rfl rfl ?_
            refine x_aload_n (j := 0) G dX6_fill_40 rfl rfl ?_
            refine gf_99 G sh_18 pt_18_3 dX6_fill_41 ?_
            refine x_aload_n (j := 0) G dX6_fill_44 rfl rfl ?_
            refine gf_100 G sh_18 pt_18_4 dX6_fill_45 ?_
            obtain ⟨s10, c10, H⟩ := bd_some H
            refine cv_449 (As := [vI (s7 18 3), vR 20]) (rest := []) G (rX5_take  c10) sh_21 (by omega) rfl rfl (Nat.le_of_ble_eq_true rfl) dX6_fill_48 ?_
            refine x_aload_n (j := 0) G dX6_fill_51 rfl rfl ?_
            obtain ⟨s12, c12, H⟩ := bd_some H
            refine cv_433 (As := []) (rest := []) G (rX6_tally  c12) sh_18 (by omega) rfl rfl (Nat.le_of_ble_eq_true rfl) dX6_fill_52 ?_
            refine x_iincL (j := 2) G dX6_fill_55 rfl (by decide) H (fun v13 hv13 H => x_ls (ls' := [(2, vI v13), (0, vR 18), (1, vR 21)]) rfl ?_)
            refine x_goto (tgt := 6) G dX6_fill_58 (by decide) ?_
            exact x_subp (ls' := [(0, vR 18), (1, vR 21), (2, vI v13)]) [1, 2, 0] rfl (ih H)
          · have H := if_some_t H q8
            cases H
            exact x_vret G dX6_fill_38
def fX6_fill  (s : Mem) : Option Mem :=
  (fX6_toBegin  s).bind fun s2 =>
  fX6_fill_6 600 0 s2
set_option maxHeartbeats 4000000 in
theorem rX6_fill {E : En} {sf : Mem}  {s : Mem}  (H : fX6_fill  s = some sf) : ab_Run E 2 yX6_fill cX6_fill 3 none [vR 18, vR 21] none s sf := by
  unfold fX6_fill at H
  refine ab_intro (own := RX6) (by decide +kernel) rfl (Nat.le_of_ble_eq_true rfl) rfl (fun b G => ?_)
  refine x_aload_n (j := 0) G dX6_fill_0 rfl rfl ?_
  obtain ⟨s2, c2, H⟩ := bd_some H
  refine cv_398 (As := []) (rest := []) G (rX6_toBegin  c2) sh_18 (by omega) rfl rfl (Nat.le_of_ble_eq_true rfl) dX6_fill_1 ?_
  refine x_iconst G dX6_fill_4 (by decide) ?_
  refine x_istore_n (ls' := [(2, vI 0), (0, vR 18), (1, vR 21)]) G dX6_fill_5 rfl (by decide) rfl ?_
  exact x_subp (ls' := [(0, vR 18), (1, vR 21), (2, vI 0)]) [1, 2, 0] rfl (tX6_fill_6 G 600 H)
def fX7_begin (a0 : Nat) (a1 : Int) (s : Mem) : Option Mem :=
  (fX3_stayAll (ab_pt a0 0) s).bind fun s2 =>
  lt' (mu s2 a0 1 3) fun s3 =>
  lt' (mu s3 a0 2 4) fun s4 =>
  lt' (mu s4 a0 3 0) fun s5 =>
  lt' (mu s5 a0 4 a1) fun s6 =>
  some s6
set_option maxHeartbeats 4000000 in
theorem rX7_begin {E : En} {sf : Mem} {a0 : Nat} {a1 : Int} {s : Mem} (q0 : ab_sh a0 = (1, 7, 0)) (H : fX7_begin a0 a1 s = some sf) : ab_Run E 2 yX7_begin cX7_begin 2 none [vR a0, vI a1] none s sf := by
  unfold fX7_begin at H
  refine ab_intro (own := RX7) (by decide +kernel) rfl (Nat.le_of_ble_eq_true rfl) rfl (fun b G => ?_)
  refine x_aload_n (j := 0) G dX7_begin_0 rfl rfl ?_
  refine gf_234 G q0 (pc_7_0 q0) dX7_begin_1 ?_
  obtain ⟨s2, c2, H⟩ := bd_some H
  refine cv_498 (As := []) (rest := []) G (rX3_stayAll (ps_7_0 q0) c2) (ps_7_0 q0) (by omega) rfl rfl (Nat.le_of_ble_eq_true rfl) dX7_begin_4 ?_
  refine x_aload_n (j := 0) G dX7_begin_7 rfl rfl ?_
  refine x_iconst G dX7_begin_8 (by decide) ?_
  refine pf_238 G q0 (pc_7_1 q0) dX7_begin_9 H (fun s3 hs3 H => ?_)
  refine x_aload_n (j := 0) G dX7_begin_12 rfl rfl ?_
  refine x_iconst G dX7_begin_13 (by decide) ?_
  refine pf_241 G q0 (pc_7_2 q0) dX7_begin_14 H (fun s4 hs4 H => ?_)
  refine x_aload_n (j := 0) G dX7_begin_17 rfl rfl ?_
  refine x_iconst G dX7_begin_18 (by decide) ?_
  refine pf_244 G q0 (pc_7_3 q0) dX7_begin_19 H (fun s5 hs5 H => ?_)
  refine x_aload_n (j := 0) G dX7_begin_22 rfl rfl ?_
  refine x_iload_n (j := 1) G dX7_begin_23 rfl rfl ?_
  refine pf_246 G q0 (pc_7_4 q0) dX7_begin_24 H (fun s6 hs6 H => ?_)
  cases H
  exact x_vret G dX7_begin_27
def fX7_copyFrom (a0 : Nat) (a1 : Nat) (s : Mem) : Option Mem :=
  (fX3_copyFrom (ab_pt a0 0) (ab_pt a1 0) s).bind fun s2 =>
  lt' (mu s2 a0 1 (s2 a1 1)) fun s3 =>
  lt' (mu s3 a0 2 (s3 a1 2)) fun s4 =>
  lt' (mu s4 a0 3 (s4 a1 3)) fun s5 =>
  lt' (mu s5 a0 4 (s5 a1 4)) fun s6 =>
  some s6
set_option maxHeartbeats 4000000 in
theorem rX7_copyFrom {E : En} {sf : Mem} {a0 : Nat} {a1 : Nat} {s : Mem} (q0 : ab_sh a0 = (1, 7, 0)) (q1 : ab_sh a1 = (1, 7, 0)) (H : fX7_copyFrom a0 a1 s = some sf) : ab_Run E 2 yX7_copyFrom cX7_copyFrom 2 none [vR a0, vR a1] none s sf := by
  unfold fX7_copyFrom at H
  refine ab_intro (own := RX7) (by decide +kernel) rfl (Nat.le_of_ble_eq_true rfl) rfl (fun b G => ?_)
  refine x_aload_n (j := 0) G dX7_copyFrom_0 rfl rfl ?_
  refine gf_234 G q0 (pc_7_0 q0) dX7_copyFrom_1 ?_
  refine x_aload_n (j := 1) G dX7_copyFrom_4 rfl rfl ?_
  refine gf_234 G q1 (pc_7_0 q1) dX7_copyFrom_5 ?_
  obtain ⟨s2, c2, H⟩ := bd_some H
  refine cv_850 (As := [vR (ab_pt a1 0)]) (rest := []) G (rX3_copyFrom (ps_7_0 q0) (ps_7_0 q1) c2) (ps_7_0 q0) (by omega) rfl rfl (Nat.le_of_ble_eq_true rfl) dX7_copyFrom_8 ?_
  refine x_aload_n (j := 0) G dX7_copyFrom_11 rfl rfl ?_
  refine x_aload_n (j := 1) G dX7_copyFrom_12 rfl rfl ?_
  refine gf_238 G q1 (pc_7_1 q1) dX7_copyFrom_13 ?_
  refine pf_238 G q0 (pc_7_1 q0) dX7_copyFrom_16 H (fun s3 hs3 H => ?_)
  refine x_aload_n (j := 0) G dX7_copyFrom_19 rfl rfl ?_
  refine x_aload_n (j := 1) G dX7_copyFrom_20 rfl rfl ?_
  refine gf_241 G q1 (pc_7_2 q1) dX7_copyFrom_21 ?_
  refine pf_241 G q0 (pc_7_2 q0) dX7_copyFrom_24 H (fun s4 hs4 H => ?_)
  refine x_aload_n (j := 0) G dX7_copyFrom_27 rfl rfl ?_
  refine x_aload_n (j := 1) G dX7_copyFrom_28 rfl rfl ?_
  refine gf_244 G q1 (pc_7_3 q1) dX7_copyFrom_29 ?_
  refine pf_244 G q0 (pc_7_3 q0) dX7_copyFrom_32 H (fun s5 hs5 H => ?_)
  refine x_aload_n (j := 0) G dX7_copyFrom_35 rfl rfl ?_
  refine x_aload_n (j := 1) G dX7_copyFrom_36 rfl rfl ?_
  refine gf_246 G q1 (pc_7_4 q1) dX7_copyFrom_37 ?_
  refine pf_246 G q0 (pc_7_4 q0) dX7_copyFrom_40 H (fun s6 hs6 H => ?_)
  cases H
  exact x_vret G dX7_copyFrom_43
def fX8_lay  (s : Mem) : Option (Int × Mem) :=
  b2 (fX6_firstFault  s) fun r1 s2 =>
  if r1 = ((-4)) then
    b2 (fX6_isWhole  s2) fun r4 s5 =>
    if r4 = 0 then
      some ((-2), s5)
    else
      (fX5_clear  s5).bind fun s8 =>
      (fX6_fill  s8).bind fun s10 =>
      (fX5_reckon  s10).bind fun s12 =>
      b2 (fX5_allStorms  s12) fun r13 s14 =>
      (fX7_begin 109 r13 s14).bind fun s16 =>
      lt' (mu s16 17 4 0) fun s17 =>
      some (s17 21 1, s17)
  else
    some ((-2), s2)
set_option maxHeartbeats 4000000 in
theorem rX8_lay {E : En} {xf : Int} {sf : Mem}  {s : Mem}  (H : fX8_lay  s = some (xf, sf)) : ab_Run E 4 yX8_lay cX8_lay 1 (some .int) [vR 17] (some (vI xf)) s sf := by
  unfold fX8_lay at H
  refine ab_intro (own := RX8) (by decide +kernel) rfl (Nat.le_of_ble_eq_true rfl) rfl (fun b G => ?_)
  refine x_aload_n (j := 0) G dX8_lay_0 rfl rfl ?_
  refine gf_510 G sh_17 pt_17_0 dX8_lay_1 ?_
  obtain ⟨r1, s2, c2, H⟩ := b2_some H
  refine cv_394 (As := []) (rest := []) G (rX6_firstFault  c2) sh_18 (by omega) rfl rfl (Nat.le_of_ble_eq_true rfl) dX8_lay_4 ?_
  refine x_bipush G dX8_lay_7 (by decide) (by decide) ?_
  refine x_icmp_ne (tgt := 22) G dX8_lay_9 (by decide) (fun q3 => ?_) (fun q3 => ?_)
  · have H := if_some_f H q3
    refine x_bipush G dX8_lay_22 (by decide) (by decide) ?_
    cases H
    exact x_iret G dX8_lay_24
  · have H := if_some_t H q3
    refine x_aload_n (j := 0) G dX8_lay_12 rfl rfl ?_
    refine gf_510 G sh_17 pt_17_0 dX8_lay_13 ?_
    obtain ⟨r4, s5, c5, H⟩ := b2_some H
    refine cv_437 (As := []) (rest := []) G (rX6_isWhole  c5) sh_18 (by omega) rfl rfl (Nat.le_of_ble_eq_true rfl) dX8_lay_16 ?_
    refine x_if_ne (tgt := 25) G dX8_lay_19 (by decide) (fun q6 => ?_) (fun q6 => ?_)
    · have H := if_some_f H q6
      refine x_aload_n (j := 0) G dX8_lay_25 rfl rfl ?_
      refine gf_511 G sh_17 pt_17_1 dX8_lay_26 ?_
      obtain ⟨s8, c8, H⟩ := bd_some H
      refine cv_441 (As := []) (rest := []) G (rX5_clear  c8) sh_21 (by omega) rfl rfl (Nat.le_of_ble_eq_true rfl) dX8_lay_29 ?_
      refine x_aload_n (j := 0) G dX8_lay_32 rfl rfl ?_
      refine gf_510 G sh_17 pt_17_0 dX8_lay_33 ?_
      refine x_aload_n (j := 0) G dX8_lay_36 rfl rfl ?_
      refine gf_511 G sh_17 pt_17_1 dX8_lay_37 ?_
      obtain ⟨s10, c10, H⟩ := bd_some H
      refine cv_445 (As := [vR 21]) (rest := []) G (rX6_fill  c10) sh_18 (by omega) rfl rfl (Nat.le_of_ble_eq_true rfl) dX8_lay_40 ?_
      refine x_aload_n (j := 0) G dX8_lay_43 rfl rfl ?_
      refine gf_511 G sh_17 pt_17_1 dX8_lay_44 ?_
      obtain ⟨s12, c12, H⟩ := bd_some H
      refine cv_456 (As := []) (rest := []) G (rX5_reckon  c12) sh_21 (by omega) rfl rfl (Nat.le_of_ble_eq_true rfl) dX8_lay_47 ?_
      refine x_aload_n (j := 0) G dX8_lay_50 rfl rfl ?_
      refine gf_512 G sh_17 pt_17_2 dX8_lay_51 ?_
      refine x_aload_n (j := 0) G dX8_lay_54 rfl rfl ?_
      refine gf_511 G sh_17 pt_17_1 dX8_lay_55 ?_
      obtain ⟨r13, s14, c14, H⟩ := b2_some H
      refine cv_490 (As := []) (rest := [vR 109]) G (rX5_allStorms  c14) sh_21 (by omega) rfl rfl (Nat.le_of_ble_eq_true rfl) dX8_lay_58 ?_
      obtain ⟨s16, c16, H⟩ := bd_some H
      refine cv_494 (As := [vI r13]) (rest := []) G (rX7_begin sh_109 c16) sh_109 (by omega) rfl rfl (Nat.le_of_ble_eq_true rfl) dX8_lay_61 ?_
      refine x_aload_n (j := 0) G dX8_lay_64 rfl rfl ?_
      refine x_iconst G dX8_lay_65 (by decide) ?_
      refine pf_514 G sh_17 pt_17_4 dX8_lay_66 H (fun s17 hs17 H => ?_)
      refine x_aload_n (j := 0) G dX8_lay_69 rfl rfl ?_
      refine gf_511 G sh_17 pt_17_1 dX8_lay_70 ?_
      refine gf_144 G sh_21 pt_21_1 dX8_lay_73 ?_
      cases H
      exact x_iret G dX8_lay_76
    · have H := if_some_t H q6
      refine x_bipush G dX8_lay_22 (by decide) (by decide) ?_
      cases H
      exact x_iret G dX8_lay_24
def fX8_write_36  : Nat → Int → Int → Mem → Option (Int × Mem)
  | 0, _, _, _ => none
  | n + 1, p2, p4, s =>
  if p4 < 0 then
    some (s 18 1, s)
  else
    (fX6_append (w8 (w32 (ushrL p2 (w32 (8 * p4))))) s).bind fun s3 =>
    lt' (w32 (p4 + (-1))) fun v4 =>
    fX8_write_36 n p2 v4 s3
set_option maxHeartbeats 4000000 in
theorem tX8_write_36 {E : En} {b : Bn} {xf : Int} {sf : Mem}  (G : ab_G E b cX8_write 5 RX8 (some .int) 1)  : ∀ (n : Nat) {p2 : Int} {p4 : Int} {s : Mem}, fX8_write_36 n p2 p4 s = some (xf, sf) → ab_X E b (ab_MQ E b (some (vI xf)) sf) 5 36 [(0, vR 17), (2, vL p2), (4, vI p4)] [] s := by
  intro n
  induction n with
  | zero => intro p2 p4 s H; rw [fX8_write_36] at H; cases H
  | succ n ih =>
    intro p2 p4 s H
    rw [fX8_write_36] at H
    refine x_iload (j := 2) G dX8_write_36 rfl ?_
    refine x_if_lt (tgt := 63) G dX8_write_38 (by decide) (fun q1 => ?_) (fun q1 => ?_)
    · have H := if_some_t H q1
      refine x_aload_n (j := 0) G dX8_write_63 rfl rfl ?_
      refine gf_510 G sh_17 pt_17_0 dX8_write_64 ?_
      refine gf_97 G sh_18 pt_18_1 dX8_write_67 ?_
      cases H
      exact x_iret G dX8_write_70
    · have H := if_some_f H q1
      refine x_aload_n (j := 0) G dX8_write_41 rfl rfl ?_
      refine gf_510 G sh_17 pt_17_0 dX8_write_42 ?_
      refine x_lload_n (j := 1) G dX8_write_45 rfl rfl ?_
      refine x_bipush G dX8_write_46 (by decide) (by decide) ?_
      refine x_iload (j := 2) G dX8_write_48 rfl ?_
      refine x_imul G dX8_write_50 ?_
      refine x_lushr G dX8_write_51 ?_
      refine x_l2i G dX8_write_52 ?_
      refine x_i2b G dX8_write_53 ?_
      obtain ⟨s3, c3, H⟩ := bd_some H
      refine cv_386 (As := [vI (w8 (w32 (ushrL p2 (w32 (8 * p4)))))]) (rest := []) G (rX6_append  c3) sh_18 (by omega) rfl rfl (Nat.le_of_ble_eq_true rfl) dX8_write_54 ?_
      refine x_iincL (j := 2) G dX8_write_57 rfl (by decide) H (fun v4 hv4 H => x_ls (ls' := [(4, vI v4), (0, vR 17), (2, vL p2)]) rfl ?_)
      refine x_goto (tgt := 36) G dX8_write_60 (by decide) ?_
      exact x_subp (ls' := [(0, vR 17), (2, vL p2), (4, vI v4)]) [1, 2, 0] rfl (ih H)
def fX8_write (a1 : Int) (a2 : Int) (s : Mem) : Option (Int × Mem) :=
  if a1 < 1 then
    some ((-1), s)
  else
    if a1 ≤ 8 then
      if (w32 ((s 18 1) + a1)) ≤ 500 then
        lt' (w32 (a1 - 1)) fun v4 =>
        fX8_write_36 600 a2 v4 s
      else
        some ((-3), s)
    else
      some ((-1), s)
set_option maxHeartbeats 4000000 in
theorem rX8_write {E : En} {xf : Int} {sf : Mem} {a1 : Int} {a2 : Int} {s : Mem}  (H : fX8_write a1 a2 s = some (xf, sf)) : ab_Run E 1 yX8_write cX8_write 5 (some .int) [vR 17, vI a1, vL a2] (some (vI xf)) s sf := by
  unfold fX8_write at H
  refine ab_intro (own := RX8) (by decide +kernel) rfl (Nat.le_of_ble_eq_true rfl) rfl (fun b G => ?_)
  refine x_iload_n (j := 1) G dX8_write_0 rfl rfl ?_
  refine x_iconst G dX8_write_1 (by decide) ?_
  refine x_icmp_lt (tgt := 11) G dX8_write_2 (by decide) (fun q1 => ?_) (fun q1 => ?_)
  · have H := if_some_t H q1
    refine x_iconst G dX8_write_11 (by decide) ?_
    cases H
    exact x_iret G dX8_write_12
  · have H := if_some_f H q1
    refine x_iload_n (j := 1) G dX8_write_5 rfl rfl ?_
    refine x_bipush G dX8_write_6 (by decide) (by decide) ?_
    refine x_icmp_le (tgt := 13) G dX8_write_8 (by decide) (fun q2 => ?_) (fun q2 => ?_)
    · have H := if_some_t H q2
      refine x_aload_n (j := 0) G dX8_write_13 rfl rfl ?_
      refine gf_510 G sh_17 pt_17_0 dX8_write_14 ?_
      refine gf_97 G sh_18 pt_18_1 dX8_write_17 ?_
      refine x_iload_n (j := 1) G dX8_write_20 rfl rfl ?_
      refine x_iadd G dX8_write_21 ?_
      refine x_sipush G dX8_write_22 (by decide) (by decide) ?_
      refine x_icmp_le (tgt := 31) G dX8_write_25 (by decide) (fun q3 => ?_) (fun q3 => ?_)
      · have H := if_some_t H q3
        refine x_iload_n (j := 1) G dX8_write_31 rfl rfl ?_
        refine x_iconst G dX8_write_32 (by decide) ?_
        refine x_isub G dX8_write_33 ?_
        refine x_let H (fun v4 hv4 H => ?_)
        refine x_istore (ls' := [(4, vI v4), (0, vR 17), (1, vI a1), (2, vL a2)]) G dX8_write_34 (by decide) rfl ?_
        exact x_subp (ls' := [(0, vR 17), (2, vL a2), (4, vI v4)]) [1, 3, 0] rfl (tX8_write_36 G 600 H)
      · have H := if_some_f H q3
        refine x_bipush G dX8_write_28 (by decide) (by decide) ?_
        cases H
        exact x_iret G dX8_write_30
    · have H := if_some_f H q2
      refine x_iconst G dX8_write_11 (by decide) ?_
      cases H
      exact x_iret G dX8_write_12
def fX8_wipe  (s : Mem) : Option (Int × Mem) :=
  lt' (s 18 1) fun v1 =>
  (fX6_clear  s).bind fun s3 =>
  some (v1, s3)
set_option maxHeartbeats 4000000 in
theorem rX8_wipe {E : En} {xf : Int} {sf : Mem}  {s : Mem}  (H : fX8_wipe  s = some (xf, sf)) : ab_Run E 1 yX8_wipe cX8_wipe 2 (some .int) [vR 17] (some (vI xf)) s sf := by
  unfold fX8_wipe at H
  refine ab_intro (own := RX8) (by decide +kernel) rfl (Nat.le_of_ble_eq_true rfl) rfl (fun b G => ?_)
  refine x_aload_n (j := 0) G dX8_wipe_0 rfl rfl ?_
  refine gf_510 G sh_17 pt_17_0 dX8_wipe_1 ?_
  refine gf_97 G sh_18 pt_18_1 dX8_wipe_4 ?_
  refine x_let H (fun v1 hv1 H => ?_)
  refine x_istore_n (ls' := [(1, vI v1), (0, vR 17)]) G dX8_wipe_7 rfl (by decide) rfl ?_
  refine x_aload_n (j := 1) G dX8_wipe_8 rfl rfl ?_
  refine gf_510 G sh_17 pt_17_0 dX8_wipe_9 ?_
  obtain ⟨s3, c3, H⟩ := bd_some H
  refine cv_506 (As := []) (rest := []) G (rX6_clear  c3) sh_18 (by omega) rfl rfl (Nat.le_of_ble_eq_true rfl) dX8_wipe_12 ?_
  refine x_iload_n (j := 0) G dX8_wipe_15 rfl rfl ?_
  cases H
  exact x_iret G dX8_wipe_16
def fX8_fault  (s : Mem) : Option (Int × Mem) :=
  b2 (fX6_firstFault  s) fun r1 s2 =>
  some (r1, s2)
set_option maxHeartbeats 4000000 in
theorem rX8_fault {E : En} {xf : Int} {sf : Mem}  {s : Mem}  (H : fX8_fault  s = some (xf, sf)) : ab_Run E 3 yX8_fault cX8_fault 1 (some .int) [vR 17] (some (vI xf)) s sf := by
  unfold fX8_fault at H
  refine ab_intro (own := RX8) (by decide +kernel) rfl (Nat.le_of_ble_eq_true rfl) rfl (fun b G => ?_)
  refine x_aload_n (j := 0) G dX8_fault_0 rfl rfl ?_
  refine gf_510 G sh_17 pt_17_0 dX8_fault_1 ?_
  obtain ⟨r1, s2, c2, H⟩ := b2_some H
  refine cv_394 (As := []) (rest := []) G (rX6_firstFault  c2) sh_18 (by omega) rfl rfl (Nat.le_of_ble_eq_true rfl) dX8_fault_4 ?_
  cases H
  exact x_iret G dX8_fault_7
def fX8_isHour (a0 : Int) (s : Mem) : Option (Int × Mem) :=
  if a0 < 0 then
    some (0, s)
  else
    if 24 ≤ a0 then
      some (0, s)
    else
      some (1, s)
set_option maxHeartbeats 4000000 in
theorem rX8_isHour {E : En} {xf : Int} {sf : Mem} {a0 : Int} {s : Mem}  (H : fX8_isHour a0 s = some (xf, sf)) : ab_Run E 0 yX8_isHour cX8_isHour 1 (some .boolean) [vI a0] (some (vI xf)) s sf := by
  unfold fX8_isHour at H
  refine ab_intro (own := RX8) (by decide +kernel) rfl (Nat.le_of_ble_eq_true rfl) rfl (fun b G => ?_)
  refine x_iload_n (j := 0) G dX8_isHour_0 rfl rfl ?_
  refine x_if_lt (tgt := 14) G dX8_isHour_1 (by decide) (fun q1 => ?_) (fun q1 => ?_)
  · have H := if_some_t H q1
    refine x_iconst G dX8_isHour_14 (by decide) ?_
    cases H
    exact x_zret G (by decide) dX8_isHour_15
  · have H := if_some_f H q1
    refine x_iload_n (j := 0) G dX8_isHour_4 rfl rfl ?_
    refine x_bipush G dX8_isHour_5 (by decide) (by decide) ?_
    refine x_icmp_ge (tgt := 14) G dX8_isHour_7 (by decide) (fun q2 => ?_) (fun q2 => ?_)
    · have H := if_some_t H q2
      refine x_iconst G dX8_isHour_14 (by decide) ?_
      cases H
      exact x_zret G (by decide) dX8_isHour_15
    · have H := if_some_f H q2
      refine x_iconst G dX8_isHour_10 (by decide) ?_
      refine x_goto (tgt := 15) G dX8_isHour_11 (by decide) ?_
      cases H
      exact x_zret G (by decide) dX8_isHour_15
def fX8_storm (a1 : Int) (a2 : Int) (a3 : Int) (s : Mem) : Option (Int × Mem) :=
  b2 (fX5_isStorm a1 s) fun r1 s2 =>
  if r1 = 0 then
    some ((-1), s2)
  else
    b2 (fX8_isHour a2 s2) fun r4 s5 =>
    if r4 = 0 then
      some ((-1), s5)
    else
      if a3 < 0 then
        some ((-1), s5)
      else
        if a3 ≤ 1 then
          if a3 = 0 then
            (rdG 48 a1).bind fun x12 =>
            (rdI s5 x12 a2).bind fun x13 =>
            some (x13, s5)
          else
            (rdG 42 a1).bind fun x10 =>
            (rdI s5 x10 a2).bind fun x11 =>
            some (x11, s5)
        else
          some ((-1), s5)
set_option maxHeartbeats 4000000 in
theorem rX8_storm {E : En} {xf : Int} {sf : Mem} {a1 : Int} {a2 : Int} {a3 : Int} {s : Mem}  (H : fX8_storm a1 a2 a3 s = some (xf, sf)) : ab_Run E 1 yX8_storm cX8_storm 4 (some .int) [vR 17, vI a1, vI a2, vI a3] (some (vI xf)) s sf := by
  unfold fX8_storm at H
  refine ab_intro (own := RX8) (by decide +kernel) rfl (Nat.le_of_ble_eq_true rfl) rfl (fun b G => ?_)
  refine x_aload_n (j := 0) G dX8_storm_0 rfl rfl ?_
  refine gf_511 G sh_17 pt_17_1 dX8_storm_1 ?_
  refine x_iload_n (j := 1) G dX8_storm_4 rfl rfl ?_
  obtain ⟨r1, s2, c2, H⟩ := b2_some H
  refine cv_558 (As := [vI a1]) (rest := []) G (rX5_isStorm  c2) sh_21 (by omega) rfl rfl (Nat.le_of_ble_eq_true rfl) dX8_storm_5 ?_
  refine x_if_eq (tgt := 27) G dX8_storm_8 (by decide) (fun q3 => ?_) (fun q3 => ?_)
  · have H := if_some_t H q3
    refine x_iconst G dX8_storm_27 (by decide) ?_
    cases H
    exact x_iret G dX8_storm_28
  · have H := if_some_f H q3
    refine x_iload_n (j := 2) G dX8_storm_11 rfl rfl ?_
    obtain ⟨r4, s5, c5, H⟩ := b2_some H
    refine cs_562 (As := [vI a2]) (rest := []) G (rX8_isHour  c5) (by omega) rfl rfl (Nat.le_of_ble_eq_true rfl) dX8_storm_12 ?_
    refine x_if_eq (tgt := 27) G dX8_storm_15 (by decide) (fun q6 => ?_) (fun q6 => ?_)
    · have H := if_some_t H q6
      refine x_iconst G dX8_storm_27 (by decide) ?_
      cases H
      exact x_iret G dX8_storm_28
    · have H := if_some_f H q6
      refine x_iload_n (j := 3) G dX8_storm_18 rfl rfl ?_
      refine x_if_lt (tgt := 27) G dX8_storm_19 (by decide) (fun q7 => ?_) (fun q7 => ?_)
      · have H := if_some_t H q7
        refine x_iconst G dX8_storm_27 (by decide) ?_
        cases H
        exact x_iret G dX8_storm_28
      · have H := if_some_f H q7
        refine x_iload_n (j := 3) G dX8_storm_22 rfl rfl ?_
        refine x_iconst G dX8_storm_23 (by decide) ?_
        refine x_icmp_le (tgt := 29) G dX8_storm_24 (by decide) (fun q8 => ?_) (fun q8 => ?_)
        · have H := if_some_t H q8
          refine x_iload_n (j := 3) G dX8_storm_29 rfl rfl ?_
          refine x_if_ne (tgt := 47) G dX8_storm_30 (by decide) (fun q9 => ?_) (fun q9 => ?_)
          · have H := if_some_f H q9
            refine x_aload_n (j := 0) G dX8_storm_47 rfl rfl ?_
            refine gf_511 G sh_17 pt_17_1 dX8_storm_48 ?_
            refine gf_168 G sh_21 pt_21_7 dX8_storm_51 ?_
            refine x_iload_n (j := 1) G dX8_storm_54 rfl rfl ?_
            refine x_aald G dX8_storm_55 H (fun g0 g1 x10 hx10 H => ?_)
            refine x_iload_n (j := 2) G dX8_storm_56 rfl rfl ?_
            refine x_iald G dX8_storm_57 H (fun x11 hx11 H => ?_)
            cases H
            exact x_iret G dX8_storm_58
          · have H := if_some_t H q9
            refine x_aload_n (j := 0) G dX8_storm_33 rfl rfl ?_
            refine gf_511 G sh_17 pt_17_1 dX8_storm_34 ?_
            refine gf_172 G sh_21 pt_21_10 dX8_storm_37 ?_
            refine x_iload_n (j := 1) G dX8_storm_40 rfl rfl ?_
            refine x_aald G dX8_storm_41 H (fun g0 g1 x12 hx12 H => ?_)
            refine x_iload_n (j := 2) G dX8_storm_42 rfl rfl ?_
            refine x_iald G dX8_storm_43 H (fun x13 hx13 H => ?_)
            refine x_goto (tgt := 58) G dX8_storm_44 (by decide) ?_
            cases H
            exact x_iret G dX8_storm_58
        · have H := if_some_f H q8
          refine x_iconst G dX8_storm_27 (by decide) ?_
          cases H
          exact x_iret G dX8_storm_28
def fX8_open (a1 : Int) (a2 : Int) (a3 : Int) (s : Mem) : Option (Int × Mem) :=
  b2 (fX5_isHarbour a1 s) fun r1 s2 =>
  if r1 = 0 then
    some ((-1), s2)
  else
    b2 (fX5_isStorm a2 s2) fun r4 s5 =>
    if r4 = 0 then
      some ((-1), s5)
    else
      b2 (fX8_isHour a3 s5) fun r7 s8 =>
      if r7 = 0 then
        some ((-1), s8)
      else
        b2 (fX5_isOpen a1 a2 a3 s8) fun r10 s11 =>
        if r10 = 0 then
          some (0, s11)
        else
          some (1, s11)
set_option maxHeartbeats 4000000 in
theorem rX8_open {E : En} {xf : Int} {sf : Mem} {a1 : Int} {a2 : Int} {a3 : Int} {s : Mem}  (H : fX8_open a1 a2 a3 s = some (xf, sf)) : ab_Run E 1 yX8_open cX8_open 4 (some .int) [vR 17, vI a1, vI a2, vI a3] (some (vI xf)) s sf := by
  unfold fX8_open at H
  refine ab_intro (own := RX8) (by decide +kernel) rfl (Nat.le_of_ble_eq_true rfl) rfl (fun b G => ?_)
  refine x_aload_n (j := 0) G dX8_open_0 rfl rfl ?_
  refine gf_511 G sh_17 pt_17_1 dX8_open_1 ?_
  refine x_iload_n (j := 1) G dX8_open_4 rfl rfl ?_
  obtain ⟨r1, s2, c2, H⟩ := b2_some H
  refine cv_569 (As := [vI a1]) (rest := []) G (rX5_isHarbour  c2) sh_21 (by omega) rfl rfl (Nat.le_of_ble_eq_true rfl) dX8_open_5 ?_
  refine x_if_eq (tgt := 29) G dX8_open_8 (by decide) (fun q3 => ?_) (fun q3 => ?_)
  · have H := if_some_t H q3
    refine x_iconst G dX8_open_29 (by decide) ?_
    cases H
    exact x_iret G dX8_open_30
  · have H := if_some_f H q3
    refine x_aload_n (j := 0) G dX8_open_11 rfl rfl ?_
    refine gf_511 G sh_17 pt_17_1 dX8_open_12 ?_
    refine x_iload_n (j := 2) G dX8_open_15 rfl rfl ?_
    obtain ⟨r4, s5, c5, H⟩ := b2_some H
    refine cv_558 (As := [vI a2]) (rest := []) G (rX5_isStorm  c5) sh_21 (by omega) rfl rfl (Nat.le_of_ble_eq_true rfl) dX8_open_16 ?_
    refine x_if_eq (tgt := 29) G dX8_open_19 (by decide) (fun q6 => ?_) (fun q6 => ?_)
    · have H := if_some_t H q6
      refine x_iconst G dX8_open_29 (by decide) ?_
      cases H
      exact x_iret G dX8_open_30
    · have H := if_some_f H q6
      refine x_iload_n (j := 3) G dX8_open_22 rfl rfl ?_
      obtain ⟨r7, s8, c8, H⟩ := b2_some H
      refine cs_562 (As := [vI a3]) (rest := []) G (rX8_isHour  c8) (by omega) rfl rfl (Nat.le_of_ble_eq_true rfl) dX8_open_23 ?_
      refine x_if_ne (tgt := 31) G dX8_open_26 (by decide) (fun q9 => ?_) (fun q9 => ?_)
      · have H := if_some_f H q9
        refine x_aload_n (j := 0) G dX8_open_31 rfl rfl ?_
        refine gf_511 G sh_17 pt_17_1 dX8_open_32 ?_
        refine x_iload_n (j := 1) G dX8_open_35 rfl rfl ?_
        refine x_iload_n (j := 2) G dX8_open_36 rfl rfl ?_
        refine x_iload_n (j := 3) G dX8_open_37 rfl rfl ?_
        obtain ⟨r10, s11, c11, H⟩ := b2_some H
        refine cv_573 (As := [vI a1, vI a2, vI a3]) (rest := []) G (rX5_isOpen  c11) sh_21 (by omega) rfl rfl (Nat.le_of_ble_eq_true rfl) dX8_open_38 ?_
        refine x_if_eq (tgt := 48) G dX8_open_41 (by decide) (fun q12 => ?_) (fun q12 => ?_)
        · have H := if_some_t H q12
          refine x_iconst G dX8_open_48 (by decide) ?_
          cases H
          exact x_iret G dX8_open_49
        · have H := if_some_f H q12
          refine x_iconst G dX8_open_44 (by decide) ?_
          refine x_goto (tgt := 49) G dX8_open_45 (by decide) ?_
          cases H
          exact x_iret G dX8_open_49
      · have H := if_some_t H q9
        refine x_iconst G dX8_open_29 (by decide) ?_
        cases H
        exact x_iret G dX8_open_30
def fX8_risk (a1 : Int) (a2 : Int) (a3 : Int) (s : Mem) : Option (Int × Mem) :=
  b2 (fX5_isSort a1 s) fun r1 s2 =>
  if r1 = 0 then
    some ((-1), s2)
  else
    b2 (fX5_isStorm a2 s2) fun r4 s5 =>
    if r4 = 0 then
      some ((-1), s5)
    else
      b2 (fX8_isHour a3 s5) fun r7 s8 =>
      if r7 = 0 then
        some ((-1), s8)
      else
        b2 (fX5_riskOf a1 a2 a3 s8) fun r10 s11 =>
        some (r10, s11)
set_option maxHeartbeats 4000000 in
theorem rX8_risk {E : En} {xf : Int} {sf : Mem} {a1 : Int} {a2 : Int} {a3 : Int} {s : Mem}  (H : fX8_risk a1 a2 a3 s = some (xf, sf)) : ab_Run E 2 yX8_risk cX8_risk 4 (some .int) [vR 17, vI a1, vI a2, vI a3] (some (vI xf)) s sf := by
  unfold fX8_risk at H
  refine ab_intro (own := RX8) (by decide +kernel) rfl (Nat.le_of_ble_eq_true rfl) rfl (fun b G => ?_)
  refine x_aload_n (j := 0) G dX8_risk_0 rfl rfl ?_
  refine gf_511 G sh_17 pt_17_1 dX8_risk_1 ?_
  refine x_iload_n (j := 1) G dX8_risk_4 rfl rfl ?_
  obtain ⟨r1, s2, c2, H⟩ := b2_some H
  refine cv_581 (As := [vI a1]) (rest := []) G (rX5_isSort  c2) sh_21 (by omega) rfl rfl (Nat.le_of_ble_eq_true rfl) dX8_risk_5 ?_
  refine x_if_eq (tgt := 29) G dX8_risk_8 (by decide) (fun q3 => ?_) (fun q3 => ?_)
  · have H := if_some_t H q3
    refine x_iconst G dX8_risk_29 (by decide) ?_
    cases H
    exact x_iret G dX8_risk_30
  · have H := if_some_f H q3
    refine x_aload_n (j := 0) G dX8_risk_11 rfl rfl ?_
    refine gf_511 G sh_17 pt_17_1 dX8_risk_12 ?_
    refine x_iload_n (j := 2) G dX8_risk_15 rfl rfl ?_
    obtain ⟨r4, s5, c5, H⟩ := b2_some H
    refine cv_558 (As := [vI a2]) (rest := []) G (rX5_isStorm  c5) sh_21 (by omega) rfl rfl (Nat.le_of_ble_eq_true rfl) dX8_risk_16 ?_
    refine x_if_eq (tgt := 29) G dX8_risk_19 (by decide) (fun q6 => ?_) (fun q6 => ?_)
    · have H := if_some_t H q6
      refine x_iconst G dX8_risk_29 (by decide) ?_
      cases H
      exact x_iret G dX8_risk_30
    · have H := if_some_f H q6
      refine x_iload_n (j := 3) G dX8_risk_22 rfl rfl ?_
      obtain ⟨r7, s8, c8, H⟩ := b2_some H
      refine cs_562 (As := [vI a3]) (rest := []) G (rX8_isHour  c8) (by omega) rfl rfl (Nat.le_of_ble_eq_true rfl) dX8_risk_23 ?_
      refine x_if_ne (tgt := 31) G dX8_risk_26 (by decide) (fun q9 => ?_) (fun q9 => ?_)
      · have H := if_some_f H q9
        refine x_aload_n (j := 0) G dX8_risk_31 rfl rfl ?_
        refine gf_511 G sh_17 pt_17_1 dX8_risk_32 ?_
        refine x_iload_n (j := 1) G dX8_risk_35 rfl rfl ?_
        refine x_iload_n (j := 2) G dX8_risk_36 rfl rfl ?_
        refine x_iload_n (j := 3) G dX8_risk_37 rfl rfl ?_
        obtain ⟨r10, s11, c11, H⟩ := b2_some H
        refine cv_585 (As := [vI a1, vI a2, vI a3]) (rest := []) G (rX5_riskOf  c11) sh_21 (by omega) rfl rfl (Nat.le_of_ble_eq_true rfl) dX8_risk_38 ?_
        cases H
        exact x_iret G dX8_risk_41
      · have H := if_some_t H q9
        refine x_iconst G dX8_risk_29 (by decide) ?_
        cases H
        exact x_iret G dX8_risk_30
def fX8_reach (a1 : Int) (a2 : Int) (a3 : Int) (a4 : Int) (s : Mem) : Option (Int × Mem) :=
  b2 (fX5_isSort a1 s) fun r1 s2 =>
  if r1 = 0 then
    some ((-1), s2)
  else
    b2 (fX5_isHarbour a2 s2) fun r4 s5 =>
    if r4 = 0 then
      some ((-1), s5)
    else
      b2 (fX5_isStorm a3 s5) fun r7 s8 =>
      if r7 = 0 then
        some ((-1), s8)
      else
        b2 (fX8_isHour a4 s8) fun r10 s11 =>
        if r10 = 0 then
          some ((-1), s11)
        else
          b2 (fX5_arrival a1 a2 a3 a4 s11) fun r13 s14 =>
          if 24 ≤ r13 then
            some ((-4), s14)
          else
            some (r13, s14)
set_option maxHeartbeats 4000000 in
theorem rX8_reach {E : En} {xf : Int} {sf : Mem} {a1 : Int} {a2 : Int} {a3 : Int} {a4 : Int} {s : Mem}  (H : fX8_reach a1 a2 a3 a4 s = some (xf, sf)) : ab_Run E 1 yX8_reach cX8_reach 6 (some .int) [vR 17, vI a1, vI a2, vI a3, vI a4] (some (vI xf)) s sf := by
  unfold fX8_reach at H
  refine ab_intro (own := RX8) (by decide +kernel) rfl (Nat.le_of_ble_eq_true rfl) rfl (fun b G => ?_)
  refine x_aload_n (j := 0) G dX8_reach_0 rfl rfl ?_
  refine gf_511 G sh_17 pt_17_1 dX8_reach_1 ?_
  refine x_iload_n (j := 1) G dX8_reach_4 rfl rfl ?_
  obtain ⟨r1, s2, c2, H⟩ := b2_some H
  refine cv_581 (As := [vI a1]) (rest := []) G (rX5_isSort  c2) sh_21 (by omega) rfl rfl (Nat.le_of_ble_eq_true rfl) dX8_reach_5 ?_
  refine x_if_eq (tgt := 41) G dX8_reach_8 (by decide) (fun q3 => ?_) (fun q3 => ?_)
  · have H := if_some_t H q3
    refine x_iconst G dX8_reach_41 (by decide) ?_
    cases H
    exact x_iret G dX8_reach_42
  · have H := if_some_f H q3
    refine x_aload_n (j := 0) G dX8_reach_11 rfl rfl ?_
    refine gf_511 G sh_17 pt_17_1 dX8_reach_12 ?_
    refine x_iload_n (j := 2) G dX8_reach_15 rfl rfl ?_
    obtain ⟨r4, s5, c5, H⟩ := b2_some H
    refine cv_569 (As := [vI a2]) (rest := []) G (rX5_isHarbour  c5) sh_21 (by omega) rfl rfl (Nat.le_of_ble_eq_true rfl) dX8_reach_16 ?_
    refine x_if_eq (tgt := 41) G dX8_reach_19 (by decide) (fun q6 => ?_) (fun q6 => ?_)
    · have H := if_some_t H q6
      refine x_iconst G dX8_reach_41 (by decide) ?_
      cases H
      exact x_iret G dX8_reach_42
    · have H := if_some_f H q6
      refine x_aload_n (j := 0) G dX8_reach_22 rfl rfl ?_
      refine gf_511 G sh_17 pt_17_1 dX8_reach_23 ?_
      refine x_iload_n (j := 3) G dX8_reach_26 rfl rfl ?_
      obtain ⟨r7, s8, c8, H⟩ := b2_some H
      refine cv_558 (As := [vI a3]) (rest := []) G (rX5_isStorm  c8) sh_21 (by omega) rfl rfl (Nat.le_of_ble_eq_true rfl) dX8_reach_27 ?_
      refine x_if_eq (tgt := 41) G dX8_reach_30 (by decide) (fun q9 => ?_) (fun q9 => ?_)
      · have H := if_some_t H q9
        refine x_iconst G dX8_reach_41 (by decide) ?_
        cases H
        exact x_iret G dX8_reach_42
      · have H := if_some_f H q9
        refine x_iload (j := 4) G dX8_reach_33 rfl ?_
        obtain ⟨r10, s11, c11, H⟩ := b2_some H
        refine cs_562 (As := [vI a4]) (rest := []) G (rX8_isHour  c11) (by omega) rfl rfl (Nat.le_of_ble_eq_true rfl) dX8_reach_35 ?_
        refine x_if_ne (tgt := 43) G dX8_reach_38 (by decide) (fun q12 => ?_) (fun q12 => ?_)
        · have H := if_some_f H q12
          refine x_aload_n (j := 0) G dX8_reach_43 rfl rfl ?_
          refine gf_511 G sh_17 pt_17_1 dX8_reach_44 ?_
          refine x_iload_n (j := 1) G dX8_reach_47 rfl rfl ?_
          refine x_iload_n (j := 2) G dX8_reach_48 rfl rfl ?_
          refine x_iload_n (j := 3) G dX8_reach_49 rfl rfl ?_
          refine x_iload (j := 4) G dX8_reach_50 rfl ?_
          obtain ⟨r13, s14, c14, H⟩ := b2_some H
          refine cv_590 (As := [vI a1, vI a2, vI a3, vI a4]) (rest := []) G (rX5_arrival  c14) sh_21 (by omega) rfl rfl (Nat.le_of_ble_eq_true rfl) dX8_reach_52 ?_
          refine x_istore (ls' := [(5, vI r13), (0, vR 17), (1, vI a1), (2, vI a2), (3, vI a3), (4, vI a4)]) G dX8_reach_55 (by decide) rfl ?_
          refine x_iload (j := 0) G dX8_reach_57 rfl ?_
          refine x_bipush G dX8_reach_59 (by decide) (by decide) ?_
          refine x_icmp_ge (tgt := 69) G dX8_reach_61 (by decide) (fun q15 => ?_) (fun q15 => ?_)
          · have H := if_some_t H q15
            refine x_bipush G dX8_reach_69 (by decide) (by decide) ?_
            cases H
            exact x_iret G dX8_reach_71
          · have H := if_some_f H q15
            refine x_iload (j := 0) G dX8_reach_64 rfl ?_
            refine x_goto (tgt := 71) G dX8_reach_66 (by decide) ?_
            cases H
            exact x_iret G dX8_reach_71
        · have H := if_some_t H q12
          refine x_iconst G dX8_reach_41 (by decide) ?_
          cases H
          exact x_iret G dX8_reach_42
def fX8_isHourOrNever (a0 : Int) (s : Mem) : Option (Int × Mem) :=
  if a0 < 0 then
    some (0, s)
  else
    if 24 < a0 then
      some (0, s)
    else
      some (1, s)
set_option maxHeartbeats 4000000 in
theorem rX8_isHourOrNever {E : En} {xf : Int} {sf : Mem} {a0 : Int} {s : Mem}  (H : fX8_isHourOrNever a0 s = some (xf, sf)) : ab_Run E 0 yX8_isHourOrNever cX8_isHourOrNever 1 (some .boolean) [vI a0] (some (vI xf)) s sf := by
  unfold fX8_isHourOrNever at H
  refine ab_intro (own := RX8) (by decide +kernel) rfl (Nat.le_of_ble_eq_true rfl) rfl (fun b G => ?_)
  refine x_iload_n (j := 0) G dX8_isHourOrNever_0 rfl rfl ?_
  refine x_if_lt (tgt := 14) G dX8_isHourOrNever_1 (by decide) (fun q1 => ?_) (fun q1 => ?_)
  · have H := if_some_t H q1
    refine x_iconst G dX8_isHourOrNever_14 (by decide) ?_
    cases H
    exact x_zret G (by decide) dX8_isHourOrNever_15
  · have H := if_some_f H q1
    refine x_iload_n (j := 0) G dX8_isHourOrNever_4 rfl rfl ?_
    refine x_bipush G dX8_isHourOrNever_5 (by decide) (by decide) ?_
    refine x_icmp_gt (tgt := 14) G dX8_isHourOrNever_7 (by decide) (fun q2 => ?_) (fun q2 => ?_)
    · have H := if_some_t H q2
      refine x_iconst G dX8_isHourOrNever_14 (by decide) ?_
      cases H
      exact x_zret G (by decide) dX8_isHourOrNever_15
    · have H := if_some_f H q2
      refine x_iconst G dX8_isHourOrNever_10 (by decide) ?_
      refine x_goto (tgt := 15) G dX8_isHourOrNever_11 (by decide) ?_
      cases H
      exact x_zret G (by decide) dX8_isHourOrNever_15
def fX8_plan (a1 : Int) (a2 : Int) (a3 : Int) (s : Mem) : Option (Int × Mem) :=
  b2 (fX5_isSort a1 s) fun r1 s2 =>
  if r1 = 0 then
    some ((-1), s2)
  else
    b2 (fX8_isHourOrNever a2 s2) fun r4 s5 =>
    if r4 = 0 then
      some ((-1), s5)
    else
      b2 (fX5_isHarbour a3 s5) fun r7 s8 =>
      if r7 = 0 then
        some ((-1), s8)
      else
        b2 (fX3_told 110 a1 s8) fun r10 s11 =>
        (fX3_send 110 a1 a2 a3 s11).bind fun s13 =>
        some (r10, s13)
set_option maxHeartbeats 4000000 in
theorem rX8_plan {E : En} {xf : Int} {sf : Mem} {a1 : Int} {a2 : Int} {a3 : Int} {s : Mem}  (H : fX8_plan a1 a2 a3 s = some (xf, sf)) : ab_Run E 1 yX8_plan cX8_plan 5 (some .int) [vR 17, vI a1, vI a2, vI a3] (some (vI xf)) s sf := by
  unfold fX8_plan at H
  refine ab_intro (own := RX8) (by decide +kernel) rfl (Nat.le_of_ble_eq_true rfl) rfl (fun b G => ?_)
  refine x_aload_n (j := 0) G dX8_plan_0 rfl rfl ?_
  refine gf_511 G sh_17 pt_17_1 dX8_plan_1 ?_
  refine x_iload_n (j := 1) G dX8_plan_4 rfl rfl ?_
  obtain ⟨r1, s2, c2, H⟩ := b2_some H
  refine cv_581 (As := [vI a1]) (rest := []) G (rX5_isSort  c2) sh_21 (by omega) rfl rfl (Nat.le_of_ble_eq_true rfl) dX8_plan_5 ?_
  refine x_if_eq (tgt := 29) G dX8_plan_8 (by decide) (fun q3 => ?_) (fun q3 => ?_)
  · have H := if_some_t H q3
    refine x_iconst G dX8_plan_29 (by decide) ?_
    cases H
    exact x_iret G dX8_plan_30
  · have H := if_some_f H q3
    refine x_iload_n (j := 2) G dX8_plan_11 rfl rfl ?_
    obtain ⟨r4, s5, c5, H⟩ := b2_some H
    refine cs_598 (As := [vI a2]) (rest := []) G (rX8_isHourOrNever  c5) (by omega) rfl rfl (Nat.le_of_ble_eq_true rfl) dX8_plan_12 ?_
    refine x_if_eq (tgt := 29) G dX8_plan_15 (by decide) (fun q6 => ?_) (fun q6 => ?_)
    · have H := if_some_t H q6
      refine x_iconst G dX8_plan_29 (by decide) ?_
      cases H
      exact x_iret G dX8_plan_30
    · have H := if_some_f H q6
      refine x_aload_n (j := 0) G dX8_plan_18 rfl rfl ?_
      refine gf_511 G sh_17 pt_17_1 dX8_plan_19 ?_
      refine x_iload_n (j := 3) G dX8_plan_22 rfl rfl ?_
      obtain ⟨r7, s8, c8, H⟩ := b2_some H
      refine cv_569 (As := [vI a3]) (rest := []) G (rX5_isHarbour  c8) sh_21 (by omega) rfl rfl (Nat.le_of_ble_eq_true rfl) dX8_plan_23 ?_
      refine x_if_ne (tgt := 31) G dX8_plan_26 (by decide) (fun q9 => ?_) (fun q9 => ?_)
      · have H := if_some_f H q9
        refine x_aload_n (j := 0) G dX8_plan_31 rfl rfl ?_
        refine gf_512 G sh_17 pt_17_2 dX8_plan_32 ?_
        refine gf_237 G sh_109 pt_109_0 dX8_plan_35 ?_
        refine x_iload_n (j := 1) G dX8_plan_38 rfl rfl ?_
        obtain ⟨r10, s11, c11, H⟩ := b2_some H
        refine cv_601 (As := [vI a1]) (rest := []) G (rX3_told sh_110 c11) sh_110 (by omega) rfl rfl (Nat.le_of_ble_eq_true rfl) dX8_plan_39 ?_
        refine x_istore (ls' := [(4, vI r10), (0, vR 17), (1, vI a1), (2, vI a2), (3, vI a3)]) G dX8_plan_42 (by decide) rfl ?_
        refine x_aload_n (j := 1) G dX8_plan_44 rfl rfl ?_
        refine gf_512 G sh_17 pt_17_2 dX8_plan_45 ?_
        refine gf_237 G sh_109 pt_109_0 dX8_plan_48 ?_
        refine x_iload_n (j := 2) G dX8_plan_51 rfl rfl ?_
        refine x_iload_n (j := 3) G dX8_plan_52 rfl rfl ?_
        refine x_iload_n (j := 4) G dX8_plan_53 rfl rfl ?_
        obtain ⟨s13, c13, H⟩ := bd_some H
        refine cv_605 (As := [vI a1, vI a2, vI a3]) (rest := []) G (rX3_send sh_110 c13) sh_110 (by omega) rfl rfl (Nat.le_of_ble_eq_true rfl) dX8_plan_54 ?_
        refine x_iload (j := 0) G dX8_plan_57 rfl ?_
        cases H
        exact x_iret G dX8_plan_59
      · have H := if_some_t H q9
        refine x_iconst G dX8_plan_29 (by decide) ?_
        cases H
        exact x_iret G dX8_plan_30
def fX8_value (a1 : Int) (s : Mem) : Option (Int × Mem) :=
  b2 (fX5_isStorm a1 s) fun r1 s2 =>
  if r1 = 0 then
    some ((-9223372036854775808), s2)
  else
    (fX2_asUsual  s2).bind fun s5 =>
    b2 (fX5_allSorts  s5) fun r6 s7 =>
    b2 (fX2_worthOf a1 110 r6 s7) fun r8 s9 =>
    some (r8, s9)
set_option maxHeartbeats 4000000 in
theorem rX8_value {E : En} {xf : Int} {sf : Mem} {a1 : Int} {s : Mem}  (H : fX8_value a1 s = some (xf, sf)) : ab_Run E 5 yX8_value cX8_value 2 (some .long) [vR 17, vI a1] (some (vL xf)) s sf := by
  unfold fX8_value at H
  refine ab_intro (own := RX8) (by decide +kernel) rfl (Nat.le_of_ble_eq_true rfl) rfl (fun b G => ?_)
  refine x_aload_n (j := 0) G dX8_value_0 rfl rfl ?_
  refine gf_511 G sh_17 pt_17_1 dX8_value_1 ?_
  refine x_iload_n (j := 1) G dX8_value_4 rfl rfl ?_
  obtain ⟨r1, s2, c2, H⟩ := b2_some H
  refine cv_558 (As := [vI a1]) (rest := []) G (rX5_isStorm  c2) sh_21 (by omega) rfl rfl (Nat.le_of_ble_eq_true rfl) dX8_value_5 ?_
  refine x_if_ne (tgt := 15) G dX8_value_8 (by decide) (fun q3 => ?_) (fun q3 => ?_)
  · have H := if_some_f H q3
    refine x_aload_n (j := 0) G dX8_value_15 rfl rfl ?_
    refine gf_515 G sh_17 pt_17_5 dX8_value_16 ?_
    obtain ⟨s5, c5, H⟩ := bd_some H
    refine cv_611 (As := []) (rest := []) G (rX2_asUsual  c5) sh_122 (by omega) rfl rfl (Nat.le_of_ble_eq_true rfl) dX8_value_19 ?_
    refine x_aload_n (j := 0) G dX8_value_22 rfl rfl ?_
    refine gf_515 G sh_17 pt_17_5 dX8_value_23 ?_
    refine x_iload_n (j := 1) G dX8_value_26 rfl rfl ?_
    refine x_aload_n (j := 0) G dX8_value_27 rfl rfl ?_
    refine gf_512 G sh_17 pt_17_2 dX8_value_28 ?_
    refine gf_237 G sh_109 pt_109_0 dX8_value_31 ?_
    refine x_aload_n (j := 0) G dX8_value_34 rfl rfl ?_
    refine gf_511 G sh_17 pt_17_1 dX8_value_35 ?_
    obtain ⟨r6, s7, c7, H⟩ := b2_some H
    refine cv_615 (As := []) (rest := [vR 110, vI a1, vR 122]) G (rX5_allSorts  c7) sh_21 (by omega) rfl rfl (Nat.le_of_ble_eq_true rfl) dX8_value_38 ?_
    obtain ⟨r8, s9, c9, H⟩ := b2_some H
    refine cv_619 (As := [vI a1, vR 110, vI r6]) (rest := []) G (rX2_worthOf sh_110 c9) sh_122 (by omega) rfl rfl (Nat.le_of_ble_eq_true rfl) dX8_value_41 ?_
    cases H
    exact x_lret G dX8_value_44
  · have H := if_some_t H q3
    refine x_ldc2 (x := (-9223372036854775808)) G wd_610 dX8_value_11 (by decide) (by decide) ?_
    cases H
    exact x_lret G dX8_value_14
def fX8_in (a1 : Int) (a2 : Int) (s : Mem) : Option (Int × Mem) :=
  b2 (fX5_isStorm a1 s) fun r1 s2 =>
  if r1 = 0 then
    some ((-1), s2)
  else
    b2 (fX5_isSort a2 s2) fun r4 s5 =>
    if r4 = 0 then
      some ((-1), s5)
    else
      (fX2_asUsual  s5).bind fun s8 =>
      (fX2_sail a1 110 s8).bind fun s10 =>
      (rdI s10 125 a2).bind fun x11 =>
      some (x11, s10)
set_option maxHeartbeats 4000000 in
theorem rX8_in {E : En} {xf : Int} {sf : Mem} {a1 : Int} {a2 : Int} {s : Mem}  (H : fX8_in a1 a2 s = some (xf, sf)) : ab_Run E 4 yX8_in cX8_in 3 (some .int) [vR 17, vI a1, vI a2] (some (vI xf)) s sf := by
  unfold fX8_in at H
  refine ab_intro (own := RX8) (by decide +kernel) rfl (Nat.le_of_ble_eq_true rfl) rfl (fun b G => ?_)
  refine x_aload_n (j := 0) G dX8_in_0 rfl rfl ?_
  refine gf_511 G sh_17 pt_17_1 dX8_in_1 ?_
  refine x_iload_n (j := 1) G dX8_in_4 rfl rfl ?_
  obtain ⟨r1, s2, c2, H⟩ := b2_some H
  refine cv_558 (As := [vI a1]) (rest := []) G (rX5_isStorm  c2) sh_21 (by omega) rfl rfl (Nat.le_of_ble_eq_true rfl) dX8_in_5 ?_
  refine x_if_eq (tgt := 22) G dX8_in_8 (by decide) (fun q3 => ?_) (fun q3 => ?_)
  · have H := if_some_t H q3
    refine x_iconst G dX8_in_22 (by decide) ?_
    cases H
    exact x_iret G dX8_in_23
  · have H := if_some_f H q3
    refine x_aload_n (j := 0) G dX8_in_11 rfl rfl ?_
    refine gf_511 G sh_17 pt_17_1 dX8_in_12 ?_
    refine x_iload_n (j := 2) G dX8_in_15 rfl rfl ?_
    obtain ⟨r4, s5, c5, H⟩ := b2_some H
    refine cv_581 (As := [vI a2]) (rest := []) G (rX5_isSort  c5) sh_21 (by omega) rfl rfl (Nat.le_of_ble_eq_true rfl) dX8_in_16 ?_
    refine x_if_ne (tgt := 24) G dX8_in_19 (by decide) (fun q6 => ?_) (fun q6 => ?_)
    · have H := if_some_f H q6
      refine x_aload_n (j := 0) G dX8_in_24 rfl rfl ?_
      refine gf_515 G sh_17 pt_17_5 dX8_in_25 ?_
      obtain ⟨s8, c8, H⟩ := bd_some H
      refine cv_611 (As := []) (rest := []) G (rX2_asUsual  c8) sh_122 (by omega) rfl rfl (Nat.le_of_ble_eq_true rfl) dX8_in_28 ?_
      refine x_aload_n (j := 0) G dX8_in_31 rfl rfl ?_
      refine gf_515 G sh_17 pt_17_5 dX8_in_32 ?_
      refine x_iload_n (j := 1) G dX8_in_35 rfl rfl ?_
      refine x_aload_n (j := 0) G dX8_in_36 rfl rfl ?_
      refine gf_512 G sh_17 pt_17_2 dX8_in_37 ?_
      refine gf_237 G sh_109 pt_109_0 dX8_in_40 ?_
      obtain ⟨s10, c10, H⟩ := bd_some H
      refine cv_668 (As := [vI a1, vR 110]) (rest := []) G (rX2_sail sh_110 c10) sh_122 (by omega) rfl rfl (Nat.le_of_ble_eq_true rfl) dX8_in_43 ?_
      refine x_aload_n (j := 0) G dX8_in_46 rfl rfl ?_
      refine gf_515 G sh_17 pt_17_5 dX8_in_47 ?_
      refine gf_276 G sh_122 pt_122_6 dX8_in_50 ?_
      refine x_iload_n (j := 2) G dX8_in_53 rfl rfl ?_
      refine x_iald G dX8_in_54 H (fun x11 hx11 H => ?_)
      cases H
      exact x_iret G dX8_in_55
    · have H := if_some_t H q6
      refine x_iconst G dX8_in_22 (by decide) ?_
      cases H
      exact x_iret G dX8_in_23
def fX8_lives (a1 : Int) (a2 : Int) (a3 : Int) (s : Mem) : Option (Int × Mem) :=
  b2 (fX5_isStorm a1 s) fun r1 s2 =>
  if r1 = 0 then
    some ((-1), s2)
  else
    b2 (fX5_isSort a2 s2) fun r4 s5 =>
    if r4 = 0 then
      some ((-1), s5)
    else
      if a3 < 0 then
        some ((-1), s5)
      else
        (rdG 27 a2).bind fun x8 =>
        (rdI s5 x8 0).bind fun x9 =>
        if a3 < x9 then
          (fX2_asUsual  s5).bind fun s12 =>
          (fX2_sail a1 110 s12).bind fun s14 =>
          (rdG 126 a2).bind fun x15 =>
          (rdI s14 x15 a3).bind fun x16 =>
          b2 (fX5_aliveAt a1 a2 x16 s14) fun r17 s18 =>
          some (r17, s18)
        else
          some ((-1), s5)
set_option maxHeartbeats 4000000 in
theorem rX8_lives {E : En} {xf : Int} {sf : Mem} {a1 : Int} {a2 : Int} {a3 : Int} {s : Mem}  (H : fX8_lives a1 a2 a3 s = some (xf, sf)) : ab_Run E 4 yX8_lives cX8_lives 4 (some .int) [vR 17, vI a1, vI a2, vI a3] (some (vI xf)) s sf := by
  unfold fX8_lives at H
  refine ab_intro (own := RX8) (by decide +kernel) rfl (Nat.le_of_ble_eq_true rfl) rfl (fun b G => ?_)
  refine x_aload_n (j := 0) G dX8_lives_0 rfl rfl ?_
  refine gf_511 G sh_17 pt_17_1 dX8_lives_1 ?_
  refine x_iload_n (j := 1) G dX8_lives_4 rfl rfl ?_
  obtain ⟨r1, s2, c2, H⟩ := b2_some H
  refine cv_558 (As := [vI a1]) (rest := []) G (rX5_isStorm  c2) sh_21 (by omega) rfl rfl (Nat.le_of_ble_eq_true rfl) dX8_lives_5 ?_
  refine x_if_eq (tgt := 41) G dX8_lives_8 (by decide) (fun q3 => ?_) (fun q3 => ?_)
  · have H := if_some_t H q3
    refine x_iconst G dX8_lives_41 (by decide) ?_
    cases H
    exact x_iret G dX8_lives_42
  · have H := if_some_f H q3
    refine x_aload_n (j := 0) G dX8_lives_11 rfl rfl ?_
    refine gf_511 G sh_17 pt_17_1 dX8_lives_12 ?_
    refine x_iload_n (j := 2) G dX8_lives_15 rfl rfl ?_
    obtain ⟨r4, s5, c5, H⟩ := b2_some H
    refine cv_581 (As := [vI a2]) (rest := []) G (rX5_isSort  c5) sh_21 (by omega) rfl rfl (Nat.le_of_ble_eq_true rfl) dX8_lives_16 ?_
    refine x_if_eq (tgt := 41) G dX8_lives_19 (by decide) (fun q6 => ?_) (fun q6 => ?_)
    · have H := if_some_t H q6
      refine x_iconst G dX8_lives_41 (by decide) ?_
      cases H
      exact x_iret G dX8_lives_42
    · have H := if_some_f H q6
      refine x_iload_n (j := 3) G dX8_lives_22 rfl rfl ?_
      refine x_if_lt (tgt := 41) G dX8_lives_23 (by decide) (fun q7 => ?_) (fun q7 => ?_)
      · have H := if_some_t H q7
        refine x_iconst G dX8_lives_41 (by decide) ?_
        cases H
        exact x_iret G dX8_lives_42
      · have H := if_some_f H q7
        refine x_iload_n (j := 3) G dX8_lives_26 rfl rfl ?_
        refine x_aload_n (j := 0) G dX8_lives_27 rfl rfl ?_
        refine gf_511 G sh_17 pt_17_1 dX8_lives_28 ?_
        refine gf_157 G sh_21 pt_21_4 dX8_lives_31 ?_
        refine x_iload_n (j := 2) G dX8_lives_34 rfl rfl ?_
        refine x_aald G dX8_lives_35 H (fun g0 g1 x8 hx8 H => ?_)
        refine x_iconst G dX8_lives_36 (by decide) ?_
        refine x_iald G dX8_lives_37 H (fun x9 hx9 H => ?_)
        refine x_icmp_lt (tgt := 43) G dX8_lives_38 (by decide) (fun q10 => ?_) (fun q10 => ?_)
        · have H := if_some_t H q10
          refine x_aload_n (j := 0) G dX8_lives_43 rfl rfl ?_
          refine gf_515 G sh_17 pt_17_5 dX8_lives_44 ?_
          obtain ⟨s12, c12, H⟩ := bd_some H
          refine cv_611 (As := []) (rest := []) G (rX2_asUsual  c12) sh_122 (by omega) rfl rfl (Nat.le_of_ble_eq_true rfl) dX8_lives_47 ?_
          refine x_aload_n (j := 0) G dX8_lives_50 rfl rfl ?_
          refine gf_515 G sh_17 pt_17_5 dX8_lives_51 ?_
          refine x_iload_n (j := 1) G dX8_lives_54 rfl rfl ?_
          refine x_aload_n (j := 0) G dX8_lives_55 rfl rfl ?_
          refine gf_512 G sh_17 pt_17_2 dX8_lives_56 ?_
          refine gf_237 G sh_109 pt_109_0 dX8_lives_59 ?_
          obtain ⟨s14, c14, H⟩ := bd_some H
          refine cv_668 (As := [vI a1, vR 110]) (rest := []) G (rX2_sail sh_110 c14) sh_122 (by omega) rfl rfl (Nat.le_of_ble_eq_true rfl) dX8_lives_62 ?_
          refine x_aload_n (j := 0) G dX8_lives_65 rfl rfl ?_
          refine gf_511 G sh_17 pt_17_1 dX8_lives_66 ?_
          refine x_iload_n (j := 1) G dX8_lives_69 rfl rfl ?_
          refine x_iload_n (j := 2) G dX8_lives_70 rfl rfl ?_
          refine x_aload_n (j := 0) G dX8_lives_71 rfl rfl ?_
          refine gf_515 G sh_17 pt_17_5 dX8_lives_72 ?_
          refine gf_278 G sh_122 pt_122_7 dX8_lives_75 ?_
          refine x_iload_n (j := 2) G dX8_lives_78 rfl rfl ?_
          refine x_aald G dX8_lives_79 H (fun g0 g1 x15 hx15 H => ?_)
          refine x_iload_n (j := 3) G dX8_lives_80 rfl rfl ?_
          refine x_iald G dX8_lives_81 H (fun x16 hx16 H => ?_)
          obtain ⟨r17, s18, c18, H⟩ := b2_some H
          refine cv_673 (As := [vI a1, vI a2, vI x16]) (rest := []) G (rX5_aliveAt  c18) sh_21 (by omega) rfl rfl (Nat.le_of_ble_eq_true rfl) dX8_lives_82 ?_
          cases H
          exact x_iret G dX8_lives_85
        · have H := if_some_f H q10
          refine x_iconst G dX8_lives_41 (by decide) ?_
          cases H
          exact x_iret G dX8_lives_42
def fX8_mean  (s : Mem) : Option (Int × Mem) :=
  (fX2_asUsual  s).bind fun s2 =>
  b2 (fX5_allSorts  s2) fun r3 s4 =>
  b2 (fX2_meanOf 110 (s2 109 4) r3 s4) fun r5 s6 =>
  some (r5, s6)
set_option maxHeartbeats 4000000 in
theorem rX8_mean {E : En} {xf : Int} {sf : Mem}  {s : Mem}  (H : fX8_mean  s = some (xf, sf)) : ab_Run E 6 yX8_mean cX8_mean 1 (some .long) [vR 17] (some (vL xf)) s sf := by
  unfold fX8_mean at H
  refine ab_intro (own := RX8) (by decide +kernel) rfl (Nat.le_of_ble_eq_true rfl) rfl (fun b G => ?_)
  refine x_aload_n (j := 0) G dX8_mean_0 rfl rfl ?_
  refine gf_515 G sh_17 pt_17_5 dX8_mean_1 ?_
  obtain ⟨s2, c2, H⟩ := bd_some H
  refine cv_611 (As := []) (rest := []) G (rX2_asUsual  c2) sh_122 (by omega) rfl rfl (Nat.le_of_ble_eq_true rfl) dX8_mean_4 ?_
  refine x_aload_n (j := 0) G dX8_mean_7 rfl rfl ?_
  refine gf_515 G sh_17 pt_17_5 dX8_mean_8 ?_
  refine x_aload_n (j := 0) G dX8_mean_11 rfl rfl ?_
  refine gf_512 G sh_17 pt_17_2 dX8_mean_12 ?_
  refine gf_237 G sh_109 pt_109_0 dX8_mean_15 ?_
  refine x_aload_n (j := 0) G dX8_mean_18 rfl rfl ?_
  refine gf_512 G sh_17 pt_17_2 dX8_mean_19 ?_
  refine gf_249 G sh_109 pt_109_4 dX8_mean_22 ?_
  refine x_aload_n (j := 0) G dX8_mean_25 rfl rfl ?_
  refine gf_511 G sh_17 pt_17_1 dX8_mean_26 ?_
  obtain ⟨r3, s4, c4, H⟩ := b2_some H
  refine cv_615 (As := []) (rest := [vI (s2 109 4), vR 110, vR 122]) G (rX5_allSorts  c4) sh_21 (by omega) rfl rfl (Nat.le_of_ble_eq_true rfl) dX8_mean_29 ?_
  obtain ⟨r5, s6, c6, H⟩ := b2_some H
  refine cv_678 (As := [vR 110, vI (s2 109 4), vI r3]) (rest := []) G (rX2_meanOf sh_110 c6) sh_122 (by omega) rfl rfl (Nat.le_of_ble_eq_true rfl) dX8_mean_32 ?_
  cases H
  exact x_lret G dX8_mean_35

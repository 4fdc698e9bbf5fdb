def fX8_shut_37  : Nat → Int → Mem → Option (Int × Mem)
  | 0, _, _ => none
  | n + 1, p2, s =>
  if (s 21 1) ≤ p2 then
    some ((-4), s)
  else
    (rdI s 111 p2).bind fun x2 =>
    if 24 ≤ x2 then
      lt' (w32 (p2 + 1)) fun v4 =>
      fX8_shut_37 n v4 s
    else
      (rdI s 125 p2).bind fun x5 =>
      (rdG 27 p2).bind fun x6 =>
      (rdI s x6 0).bind fun x7 =>
      if x7 ≤ x5 then
        lt' (w32 (p2 + 1)) fun v9 =>
        fX8_shut_37 n v9 s
      else
        (rdI s 125 p2).bind fun x10 =>
        some (w32 ((w32 (10 * p2)) + x10), s)
set_option maxHeartbeats 4000000 in
theorem tX8_shut_37 {E : En} {b : Bn} {xf : Int} {sf : Mem}  (G : ab_G E b cX8_shut 3 RX8 (some .int) 4)  : ∀ (n : Nat) {p2 : Int} {s : Mem}, fX8_shut_37 n p2 s = some (xf, sf) → ab_X E b (ab_MQ E b (some (vI xf)) sf) 3 37 [(0, vR 17), (2, vI p2)] [] s := by
  intro n
  induction n with
  | zero => intro p2 s H; rw [fX8_shut_37] at H; cases H
  | succ n ih =>
    intro p2 s H
    rw [fX8_shut_37] at H
    refine x_iload_n (j := 1) G dX8_shut_37 rfl rfl ?_
    refine x_aload_n (j := 0) G dX8_shut_38 rfl rfl ?_
    refine gf_511 G sh_17 pt_17_1 dX8_shut_39 ?_
    refine gf_144 G sh_21 pt_21_1 dX8_shut_42 ?_
    refine x_icmp_ge (tgt := 109) G dX8_shut_45 (by decide) (fun q1 => ?_) (fun q1 => ?_)
    · have H := if_some_t H q1
      refine x_bipush G dX8_shut_109 (by decide) (by decide) ?_
      cases H
      exact x_iret G dX8_shut_111
    · have H := if_some_f H q1
      refine x_aload_n (j := 0) G dX8_shut_48 rfl rfl ?_
      refine gf_512 G sh_17 pt_17_2 dX8_shut_49 ?_
      refine gf_237 G sh_109 pt_109_0 dX8_shut_52 ?_
      refine gf_225 G sh_110 pt_110_0 dX8_shut_55 ?_
      refine x_iload_n (j := 1) G dX8_shut_58 rfl rfl ?_
      refine x_iald G dX8_shut_59 H (fun x2 hx2 H => ?_)
      refine x_bipush G dX8_shut_60 (by decide) (by decide) ?_
      refine x_icmp_ge (tgt := 103) G dX8_shut_62 (by decide) (fun q3 => ?_) (fun q3 => ?_)
      · have H := if_some_t H q3
        refine x_iincL (j := 1) G dX8_shut_103 rfl (by decide) H (fun v4 hv4 H => x_ls (ls' := [(2, vI v4), (0, vR 17)]) rfl ?_)
        refine x_goto (tgt := 37) G dX8_shut_106 (by decide) ?_
        exact x_subp (ls' := [(0, vR 17), (2, vI v4)]) [1, 0] rfl (ih H)
      · have H := if_some_f H q3
        refine x_aload_n (j := 0) G dX8_shut_65 rfl rfl ?_
        refine gf_515 G sh_17 pt_17_5 dX8_shut_66 ?_
        refine gf_276 G sh_122 pt_122_6 dX8_shut_69 ?_
        refine x_iload_n (j := 1) G dX8_shut_72 rfl rfl ?_
        refine x_iald G dX8_shut_73 H (fun x5 hx5 H => ?_)
        refine x_aload_n (j := 0) G dX8_shut_74 rfl rfl ?_
        refine gf_511 G sh_17 pt_17_1 dX8_shut_75 ?_
        refine gf_157 G sh_21 pt_21_4 dX8_shut_78 ?_
        refine x_iload_n (j := 1) G dX8_shut_81 rfl rfl ?_
        refine x_aald G dX8_shut_82 H (fun g0 g1 x6 hx6 H => ?_)
        refine x_iconst G dX8_shut_83 (by decide) ?_
        refine x_iald G dX8_shut_84 H (fun x7 hx7 H => ?_)
        refine x_icmp_ge (tgt := 103) G dX8_shut_85 (by decide) (fun q8 => ?_) (fun q8 => ?_)
        · have H := if_some_t H q8
          refine x_iincL (j := 1) G dX8_shut_103 rfl (by decide) H (fun v9 hv9 H => x_ls (ls' := [(2, vI v9), (0, vR 17)]) rfl ?_)
          refine x_goto (tgt := 37) G dX8_shut_106 (by decide) ?_
          exact x_subp (ls' := [(0, vR 17), (2, vI v9)]) [1, 0] rfl (ih H)
        · have H := if_some_f H q8
          refine x_bipush G dX8_shut_88 (by decide) (by decide) ?_
          refine x_iload_n (j := 1) G dX8_shut_90 rfl rfl ?_
          refine x_imul G dX8_shut_91 ?_
          refine x_aload_n (j := 0) G dX8_shut_92 rfl rfl ?_
          refine gf_515 G sh_17 pt_17_5 dX8_shut_93 ?_
          refine gf_276 G sh_122 pt_122_6 dX8_shut_96 ?_
          refine x_iload_n (j := 1) G dX8_shut_99 rfl rfl ?_
          refine x_iald G dX8_shut_100 H (fun x10 hx10 H => ?_)
          refine x_iadd G dX8_shut_101 ?_
          cases H
          exact x_iret G dX8_shut_102
def fX8_shut (a1 : Int) (s : Mem) : Option (Int × Mem) :=
  b2 (fX5_isStorm a1 s) fun r1 s2 =>
  if r1 = 0 then
    some ((-1), s2)
  else
    (fX2_asUsual  s2).bind fun s5 =>
    (fX2_sail a1 110 s5).bind fun s7 =>
    fX8_shut_37 600 0 s7
set_option maxHeartbeats 4000000 in
theorem rX8_shut {E : En} {xf : Int} {sf : Mem} {a1 : Int} {s : Mem}  (H : fX8_shut a1 s = some (xf, sf)) : ab_Run E 4 yX8_shut cX8_shut 3 (some .int) [vR 17, vI a1] (some (vI xf)) s sf := by
  unfold fX8_shut at H
  refine ab_intro (own := RX8) (by decide +kernel) rfl (Nat.le_of_ble_eq_true rfl) rfl (fun b G => ?_)
  refine x_aload_n (j := 0) G dX8_shut_0 rfl rfl ?_
  refine gf_511 G sh_17 pt_17_1 dX8_shut_1 ?_
  refine x_iload_n (j := 1) G dX8_shut_4 rfl rfl ?_
  obtain ⟨r1, s2, c2, H⟩ := b2_some H
  refine cv_558 (As := [vI a1]) (rest := []) G (rX5_isStorm  c2) sh_21 (by omega) rfl rfl (Nat.le_of_ble_eq_true rfl) dX8_shut_5 ?_
  refine x_if_ne (tgt := 13) G dX8_shut_8 (by decide) (fun q3 => ?_) (fun q3 => ?_)
  · have H := if_some_f H q3
    refine x_aload_n (j := 0) G dX8_shut_13 rfl rfl ?_
    refine gf_515 G sh_17 pt_17_5 dX8_shut_14 ?_
    obtain ⟨s5, c5, H⟩ := bd_some H
    refine cv_611 (As := []) (rest := []) G (rX2_asUsual  c5) sh_122 (by omega) rfl rfl (Nat.le_of_ble_eq_true rfl) dX8_shut_17 ?_
    refine x_aload_n (j := 0) G dX8_shut_20 rfl rfl ?_
    refine gf_515 G sh_17 pt_17_5 dX8_shut_21 ?_
    refine x_iload_n (j := 1) G dX8_shut_24 rfl rfl ?_
    refine x_aload_n (j := 0) G dX8_shut_25 rfl rfl ?_
    refine gf_512 G sh_17 pt_17_2 dX8_shut_26 ?_
    refine gf_237 G sh_109 pt_109_0 dX8_shut_29 ?_
    obtain ⟨s7, c7, H⟩ := bd_some H
    refine cv_668 (As := [vI a1, vR 110]) (rest := []) G (rX2_sail sh_110 c7) sh_122 (by omega) rfl rfl (Nat.le_of_ble_eq_true rfl) dX8_shut_32 ?_
    refine x_iconst G dX8_shut_35 (by decide) ?_
    refine x_istore_n (ls' := [(2, vI 0), (0, vR 17), (1, vI a1)]) G dX8_shut_36 rfl (by decide) rfl ?_
    exact x_subp (ls' := [(0, vR 17), (2, vI 0)]) [1, 0] rfl (tX8_shut_37 G 600 H)
  · have H := if_some_t H q3
    refine x_iconst G dX8_shut_11 (by decide) ?_
    cases H
    exact x_iret G dX8_shut_12
def fX8_sign (a1 : Int) (s : Mem) : Option (Int × Mem) :=
  if a1 < 0 then
    some ((-1), s)
  else
    if a1 ≤ 9 then
      b2 (fX8_isHour (s 109 3) s) fun r3 s4 =>
      if r3 = 0 then
        some ((-2), s4)
      else
        b2 (fX5_telling (s4 109 4) (s4 109 3) a1 s4) fun r6 s7 =>
        if r6 = 0 then
          some ((-2), s7)
        else
          lt' (mu s7 109 4 r6) fun s9 =>
          lt' (mu s9 109 3 (w32 ((s9 109 3) + 1))) fun s10 =>
          some (r6, s10)
    else
      some ((-1), s)
set_option maxHeartbeats 4000000 in
theorem rX8_sign {E : En} {xf : Int} {sf : Mem} {a1 : Int} {s : Mem}  (H : fX8_sign a1 s = some (xf, sf)) : ab_Run E 1 yX8_sign cX8_sign 3 (some .int) [vR 17, vI a1] (some (vI xf)) s sf := by
  unfold fX8_sign at H
  refine ab_intro (own := RX8) (by decide +kernel) rfl (Nat.le_of_ble_eq_true rfl) rfl (fun b G => ?_)
  refine x_iload_n (j := 1) G dX8_sign_0 rfl rfl ?_
  refine x_if_lt (tgt := 10) G dX8_sign_1 (by decide) (fun q1 => ?_) (fun q1 => ?_)
  · have H := if_some_t H q1
    refine x_iconst G dX8_sign_10 (by decide) ?_
    cases H
    exact x_iret G dX8_sign_11
  · have H := if_some_f H q1
    refine x_iload_n (j := 1) G dX8_sign_4 rfl rfl ?_
    refine x_bipush G dX8_sign_5 (by decide) (by decide) ?_
    refine x_icmp_le (tgt := 12) G dX8_sign_7 (by decide) (fun q2 => ?_) (fun q2 => ?_)
    · have H := if_some_t H q2
      refine x_aload_n (j := 0) G dX8_sign_12 rfl rfl ?_
      refine gf_512 G sh_17 pt_17_2 dX8_sign_13 ?_
      refine gf_245 G sh_109 pt_109_3 dX8_sign_16 ?_
      obtain ⟨r3, s4, c4, H⟩ := b2_some H
      refine cs_562 (As := [vI (s 109 3)]) (rest := []) G (rX8_isHour  c4) (by omega) rfl rfl (Nat.le_of_ble_eq_true rfl) dX8_sign_19 ?_
      refine x_if_ne (tgt := 28) G dX8_sign_22 (by decide) (fun q5 => ?_) (fun q5 => ?_)
      · have H := if_some_f H q5
        refine x_aload_n (j := 0) G dX8_sign_28 rfl rfl ?_
        refine gf_511 G sh_17 pt_17_1 dX8_sign_29 ?_
        refine x_aload_n (j := 0) G dX8_sign_32 rfl rfl ?_
        refine gf_512 G sh_17 pt_17_2 dX8_sign_33 ?_
        refine gf_249 G sh_109 pt_109_4 dX8_sign_36 ?_
        refine x_aload_n (j := 0) G dX8_sign_39 rfl rfl ?_
        refine gf_512 G sh_17 pt_17_2 dX8_sign_40 ?_
        refine gf_245 G sh_109 pt_109_3 dX8_sign_43 ?_
        refine x_iload_n (j := 1) G dX8_sign_46 rfl rfl ?_
        obtain ⟨r6, s7, c7, H⟩ := b2_some H
        refine cv_691 (As := [vI (s4 109 4), vI (s4 109 3), vI a1]) (rest := []) G (rX5_telling  c7) sh_21 (by omega) rfl rfl (Nat.le_of_ble_eq_true rfl) dX8_sign_47 ?_
        refine x_istore_n (ls' := [(2, vI r6), (0, vR 17), (1, vI a1)]) G dX8_sign_50 rfl (by decide) rfl ?_
        refine x_iload_n (j := 0) G dX8_sign_51 rfl rfl ?_
        refine x_if_ne (tgt := 58) G dX8_sign_52 (by decide) (fun q8 => ?_) (fun q8 => ?_)
        · have H := if_some_f H q8
          refine x_aload_n (j := 1) G dX8_sign_58 rfl rfl ?_
          refine gf_512 G sh_17 pt_17_2 dX8_sign_59 ?_
          refine x_iload_n (j := 0) G dX8_sign_62 rfl rfl ?_
          refine pf_249 G sh_109 pt_109_4 dX8_sign_63 H (fun s9 hs9 H => ?_)
          refine x_aload_n (j := 1) G dX8_sign_66 rfl rfl ?_
          refine gf_512 G sh_17 pt_17_2 dX8_sign_67 ?_
          refine x_dup G dX8_sign_70 rfl ?_
          refine gf_245 G sh_109 pt_109_3 dX8_sign_71 ?_
          refine x_iconst G dX8_sign_74 (by decide) ?_
          refine x_iadd G dX8_sign_75 ?_
          refine pf_245 G sh_109 pt_109_3 dX8_sign_76 H (fun s10 hs10 H => ?_)
          refine x_iload_n (j := 0) G dX8_sign_79 rfl rfl ?_
          cases H
          exact x_iret G dX8_sign_80
        · have H := if_some_t H q8
          refine x_bipush G dX8_sign_55 (by decide) (by decide) ?_
          cases H
          exact x_iret G dX8_sign_57
      · have H := if_some_t H q5
        refine x_bipush G dX8_sign_25 (by decide) (by decide) ?_
        cases H
        exact x_iret G dX8_sign_27
    · have H := if_some_f H q2
      refine x_iconst G dX8_sign_10 (by decide) ?_
      cases H
      exact x_iret G dX8_sign_11
def fX8_now (a1 : Int) (s : Mem) : Option (Int × Mem) :=
  if a1 = 0 then
    some (s 109 3, s)
  else
  if a1 = 1 then
    some (s 109 4, s)
  else
  if a1 = 2 then
    some (s 109 1, s)
  else
  if a1 = 3 then
    some (s 109 2, s)
  else
  some ((-1), s)
set_option maxHeartbeats 4000000 in
theorem rX8_now {E : En} {xf : Int} {sf : Mem} {a1 : Int} {s : Mem}  (H : fX8_now a1 s = some (xf, sf)) : ab_Run E 0 yX8_now cX8_now 2 (some .int) [vR 17, vI a1] (some (vI xf)) s sf := by
  unfold fX8_now at H
  refine ab_intro (own := RX8) (by decide +kernel) rfl (Nat.le_of_ble_eq_true rfl) rfl (fun b G => ?_)
  refine x_iload_n (j := 1) G dX8_now_0 rfl rfl ?_
  by_cases q1 : a1 = 0
  · have H := if_some_t H q1
    refine x_table (tgt := 32) G dX8_now_1 (by rw [q1]; decide) (by decide) ?_
    refine x_aload_n (j := 0) G dX8_now_32 rfl rfl ?_
    refine gf_512 G sh_17 pt_17_2 dX8_now_33 ?_
    refine gf_245 G sh_109 pt_109_3 dX8_now_36 ?_
    cases H
    exact x_iret G dX8_now_39
  have H := if_some_f H q1
  by_cases q2 : a1 = 1
  · have H := if_some_t H q2
    refine x_table (tgt := 40) G dX8_now_1 (by rw [q2]; decide) (by decide) ?_
    refine x_aload_n (j := 0) G dX8_now_40 rfl rfl ?_
    refine gf_512 G sh_17 pt_17_2 dX8_now_41 ?_
    refine gf_249 G sh_109 pt_109_4 dX8_now_44 ?_
    cases H
    exact x_iret G dX8_now_47
  have H := if_some_f H q2
  by_cases q3 : a1 = 2
  · have H := if_some_t H q3
    refine x_table (tgt := 48) G dX8_now_1 (by rw [q3]; decide) (by decide) ?_
    refine x_aload_n (j := 0) G dX8_now_48 rfl rfl ?_
    refine gf_512 G sh_17 pt_17_2 dX8_now_49 ?_
    refine gf_240 G sh_109 pt_109_1 dX8_now_52 ?_
    cases H
    exact x_iret G dX8_now_55
  have H := if_some_f H q3
  by_cases q4 : a1 = 3
  · have H := if_some_t H q4
    refine x_table (tgt := 56) G dX8_now_1 (by rw [q4]; decide) (by decide) ?_
    refine x_aload_n (j := 0) G dX8_now_56 rfl rfl ?_
    refine gf_512 G sh_17 pt_17_2 dX8_now_57 ?_
    refine gf_243 G sh_109 pt_109_2 dX8_now_60 ?_
    cases H
    exact x_iret G dX8_now_63
  have H := if_some_f H q4
  refine x_table (tgt := 64) G dX8_now_1 ?_ (by decide) ?_
  · by_cases g9 : a1 < 0 ∨ 3 < a1
    · rw [if_pos g9]; decide
    · rw [if_neg g9]
      rcases (show a1 = 0 ∨ a1 = 1 ∨ a1 = 2 ∨ a1 = 3 by omega) with h9 | h9 | h9 | h9 <;> first | exact absurd h9 q1 | exact absurd h9 q2 | exact absurd h9 q3 | exact absurd h9 q4 | (rw [h9]; decide)
  · skip
    refine x_iconst G dX8_now_64 (by decide) ?_
    cases H
    exact x_iret G dX8_now_65
def fX8_set_32  (p1 : Int) (p2 : Int) (s : Mem) : Option (Int × Mem) :=
  if p1 = 1 then
    if p2 < 1 then
      some ((-1), s)
    else
      if 32 < p2 then
        some ((-1), s)
      else
        lt' (s 109 2) fun v4 =>
        lt' (mu s 109 2 p2) fun s5 =>
        some (v4, s5)
  else
    some ((-1), s)
set_option maxHeartbeats 4000000 in
theorem tX8_set_32 {E : En} {b : Bn} {xf : Int} {sf : Mem}  {p1 : Int} {p2 : Int} {s : Mem} (G : ab_G E b cX8_set 4 RX8 (some .int) 0)   (H : fX8_set_32 p1 p2 s = some (xf, sf)) : ab_X E b (ab_MQ E b (some (vI xf)) sf) 4 32 [(0, vR 17), (1, vI p1), (2, vI p2)] [] s := by
  unfold fX8_set_32 at H
  refine x_iload_n (j := 1) G dX8_set_32 rfl rfl ?_
  refine x_iconst G dX8_set_33 (by decide) ?_
  refine x_icmp_ne (tgt := 66) G dX8_set_34 (by decide) (fun q1 => ?_) (fun q1 => ?_)
  · have H := if_some_f H q1
    refine x_iconst G dX8_set_66 (by decide) ?_
    cases H
    exact x_iret G dX8_set_67
  · have H := if_some_t H q1
    refine x_iload_n (j := 2) G dX8_set_37 rfl rfl ?_
    refine x_iconst G dX8_set_38 (by decide) ?_
    refine x_icmp_lt (tgt := 66) G dX8_set_39 (by decide) (fun q2 => ?_) (fun q2 => ?_)
    · have H := if_some_t H q2
      refine x_iconst G dX8_set_66 (by decide) ?_
      cases H
      exact x_iret G dX8_set_67
    · have H := if_some_f H q2
      refine x_iload_n (j := 2) G dX8_set_42 rfl rfl ?_
      refine x_bipush G dX8_set_43 (by decide) (by decide) ?_
      refine x_icmp_gt (tgt := 66) G dX8_set_45 (by decide) (fun q3 => ?_) (fun q3 => ?_)
      · have H := if_some_t H q3
        refine x_iconst G dX8_set_66 (by decide) ?_
        cases H
        exact x_iret G dX8_set_67
      · have H := if_some_f H q3
        refine x_aload_n (j := 0) G dX8_set_48 rfl rfl ?_
        refine gf_512 G sh_17 pt_17_2 dX8_set_49 ?_
        refine gf_243 G sh_109 pt_109_2 dX8_set_52 ?_
        refine x_let H (fun v4 hv4 H => ?_)
        refine x_istore_n (ls' := [(3, vI v4), (0, vR 17), (1, vI p1), (2, vI p2)]) G dX8_set_55 rfl (by decide) rfl ?_
        refine x_aload_n (j := 1) G dX8_set_56 rfl rfl ?_
        refine gf_512 G sh_17 pt_17_2 dX8_set_57 ?_
        refine x_iload_n (j := 3) G dX8_set_60 rfl rfl ?_
        refine pf_243 G sh_109 pt_109_2 dX8_set_61 H (fun s5 hs5 H => ?_)
        refine x_iload_n (j := 0) G dX8_set_64 rfl rfl ?_
        cases H
        exact x_iret G dX8_set_65
def fX8_set (a1 : Int) (a2 : Int) (s : Mem) : Option (Int × Mem) :=
  if a1 = 0 then
    if a2 < 0 then
      fX8_set_32 a1 a2 s
    else
      if 9 < a2 then
        fX8_set_32 a1 a2 s
      else
        lt' (s 109 1) fun v4 =>
        lt' (mu s 109 1 a2) fun s5 =>
        some (v4, s5)
  else
    fX8_set_32 a1 a2 s
set_option maxHeartbeats 4000000 in
theorem rX8_set {E : En} {xf : Int} {sf : Mem} {a1 : Int} {a2 : Int} {s : Mem}  (H : fX8_set a1 a2 s = some (xf, sf)) : ab_Run E 0 yX8_set cX8_set 4 (some .int) [vR 17, vI a1, vI a2] (some (vI xf)) s sf := by
  unfold fX8_set at H
  refine ab_intro (own := RX8) (by decide +kernel) rfl (Nat.le_of_ble_eq_true rfl) rfl (fun b G => ?_)
  refine x_iload_n (j := 1) G dX8_set_0 rfl rfl ?_
  refine x_if_ne (tgt := 32) G dX8_set_1 (by decide) (fun q1 => ?_) (fun q1 => ?_)
  · have H := if_some_f H q1
    exact x_subp (ls' := [(0, vR 17), (1, vI a1), (2, vI a2)]) [0, 1, 2] rfl (tX8_set_32 G  H)
  · have H := if_some_t H q1
    refine x_iload_n (j := 2) G dX8_set_4 rfl rfl ?_
    refine x_if_lt (tgt := 32) G dX8_set_5 (by decide) (fun q2 => ?_) (fun q2 => ?_)
    · have H := if_some_t H q2
      exact x_subp (ls' := [(0, vR 17), (1, vI a1), (2, vI a2)]) [0, 1, 2] rfl (tX8_set_32 G  H)
    · have H := if_some_f H q2
      refine x_iload_n (j := 2) G dX8_set_8 rfl rfl ?_
      refine x_bipush G dX8_set_9 (by decide) (by decide) ?_
      refine x_icmp_gt (tgt := 32) G dX8_set_11 (by decide) (fun q3 => ?_) (fun q3 => ?_)
      · have H := if_some_t H q3
        exact x_subp (ls' := [(0, vR 17), (1, vI a1), (2, vI a2)]) [0, 1, 2] rfl (tX8_set_32 G  H)
      · have H := if_some_f H q3
        refine x_aload_n (j := 0) G dX8_set_14 rfl rfl ?_
        refine gf_512 G sh_17 pt_17_2 dX8_set_15 ?_
        refine gf_240 G sh_109 pt_109_1 dX8_set_18 ?_
        refine x_let H (fun v4 hv4 H => ?_)
        refine x_istore_n (ls' := [(3, vI v4), (0, vR 17), (1, vI a1), (2, vI a2)]) G dX8_set_21 rfl (by decide) rfl ?_
        refine x_aload_n (j := 1) G dX8_set_22 rfl rfl ?_
        refine gf_512 G sh_17 pt_17_2 dX8_set_23 ?_
        refine x_iload_n (j := 3) G dX8_set_26 rfl rfl ?_
        refine pf_240 G sh_109 pt_109_1 dX8_set_27 H (fun s5 hs5 H => ?_)
        refine x_iload_n (j := 0) G dX8_set_30 rfl rfl ?_
        cases H
        exact x_iret G dX8_set_31
def fX8_isRule (a0 : Int) (s : Mem) : Option (Int × Mem) :=
  if a0 < 0 then
    some (0, s)
  else
    if 4 < a0 then
      some (0, s)
    else
      some (1, s)
set_option maxHeartbeats 4000000 in
theorem rX8_isRule {E : En} {xf : Int} {sf : Mem} {a0 : Int} {s : Mem}  (H : fX8_isRule a0 s = some (xf, sf)) : ab_Run E 0 yX8_isRule cX8_isRule 1 (some .boolean) [vI a0] (some (vI xf)) s sf := by
  unfold fX8_isRule at H
  refine ab_intro (own := RX8) (by decide +kernel) rfl (Nat.le_of_ble_eq_true rfl) rfl (fun b G => ?_)
  refine x_iload_n (j := 0) G dX8_isRule_0 rfl rfl ?_
  refine x_if_lt (tgt := 13) G dX8_isRule_1 (by decide) (fun q1 => ?_) (fun q1 => ?_)
  · have H := if_some_t H q1
    refine x_iconst G dX8_isRule_13 (by decide) ?_
    cases H
    exact x_zret G (by decide) dX8_isRule_14
  · have H := if_some_f H q1
    refine x_iload_n (j := 0) G dX8_isRule_4 rfl rfl ?_
    refine x_iconst G dX8_isRule_5 (by decide) ?_
    refine x_icmp_gt (tgt := 13) G dX8_isRule_6 (by decide) (fun q2 => ?_) (fun q2 => ?_)
    · have H := if_some_t H q2
      refine x_iconst G dX8_isRule_13 (by decide) ?_
      cases H
      exact x_zret G (by decide) dX8_isRule_14
    · have H := if_some_f H q2
      refine x_iconst G dX8_isRule_9 (by decide) ?_
      refine x_goto (tgt := 14) G dX8_isRule_10 (by decide) ?_
      cases H
      exact x_zret G (by decide) dX8_isRule_14
def fX8_worthByRule (a1 : Int) (a2 : Int) (s : Mem) : Option (Int × Mem) :=
  (fX4_follow a1 a2 134 s).bind fun s2 =>
  (fX2_asUsual  s2).bind fun s4 =>
  b2 (fX5_allSorts  s4) fun r5 s6 =>
  b2 (fX2_worthOf a2 134 r5 s6) fun r7 s8 =>
  some (r7, s8)
set_option maxHeartbeats 4000000 in
theorem rX8_worthByRule {E : En} {xf : Int} {sf : Mem} {a1 : Int} {a2 : Int} {s : Mem}  (H : fX8_worthByRule a1 a2 s = some (xf, sf)) : ab_Run E 5 yX8_worthByRule cX8_worthByRule 3 (some .long) [vR 17, vI a1, vI a2] (some (vL xf)) s sf := by
  unfold fX8_worthByRule at H
  refine ab_intro (own := RX8) (by decide +kernel) rfl (Nat.le_of_ble_eq_true rfl) rfl (fun b G => ?_)
  refine x_aload_n (j := 0) G dX8_worthByRule_0 rfl rfl ?_
  refine gf_516 G sh_17 pt_17_6 dX8_worthByRule_1 ?_
  refine x_iload_n (j := 1) G dX8_worthByRule_4 rfl rfl ?_
  refine x_iload_n (j := 2) G dX8_worthByRule_5 rfl rfl ?_
  refine x_aload_n (j := 0) G dX8_worthByRule_6 rfl rfl ?_
  refine gf_519 G sh_17 pt_17_9 dX8_worthByRule_7 ?_
  obtain ⟨s2, c2, H⟩ := bd_some H
  refine cv_714 (As := [vI a1, vI a2, vR 134]) (rest := []) G (rX4_follow sh_134 c2) sh_131 (by omega) rfl rfl (Nat.le_of_ble_eq_true rfl) dX8_worthByRule_10 ?_
  refine x_aload_n (j := 0) G dX8_worthByRule_13 rfl rfl ?_
  refine gf_515 G sh_17 pt_17_5 dX8_worthByRule_14 ?_
  obtain ⟨s4, c4, H⟩ := bd_some H
  refine cv_611 (As := []) (rest := []) G (rX2_asUsual  c4) sh_122 (by omega) rfl rfl (Nat.le_of_ble_eq_true rfl) dX8_worthByRule_17 ?_
  refine x_aload_n (j := 0) G dX8_worthByRule_20 rfl rfl ?_
  refine gf_515 G sh_17 pt_17_5 dX8_worthByRule_21 ?_
  refine x_iload_n (j := 2) G dX8_worthByRule_24 rfl rfl ?_
  refine x_aload_n (j := 0) G dX8_worthByRule_25 rfl rfl ?_
  refine gf_519 G sh_17 pt_17_9 dX8_worthByRule_26 ?_
  refine x_aload_n (j := 0) G dX8_worthByRule_29 rfl rfl ?_
  refine gf_511 G sh_17 pt_17_1 dX8_worthByRule_30 ?_
  obtain ⟨r5, s6, c6, H⟩ := b2_some H
  refine cv_615 (As := []) (rest := [vR 134, vI a2, vR 122]) G (rX5_allSorts  c6) sh_21 (by omega) rfl rfl (Nat.le_of_ble_eq_true rfl) dX8_worthByRule_33 ?_
  obtain ⟨r7, s8, c8, H⟩ := b2_some H
  refine cv_619 (As := [vI a2, vR 134, vI r5]) (rest := []) G (rX2_worthOf sh_134 c8) sh_122 (by omega) rfl rfl (Nat.le_of_ble_eq_true rfl) dX8_worthByRule_36 ?_
  cases H
  exact x_lret G dX8_worthByRule_39
def fX8_by_16  : Nat → Int → Int → Int → Mem → Option (Int × Mem)
  | 0, _, _, _, _ => none
  | n + 1, p1, p2, p4, s =>
  if (s 21 2) ≤ p4 then
    some (p2, s)
  else
    if (andI (shrI (s 109 4) p4) 1) = 0 then
      lt' (w32 (p4 + 1)) fun v3 =>
      fX8_by_16 n p1 p2 v3 s
    else
      (rdG 32 p4).bind fun x4 =>
      (rdI s x4 0).bind fun x5 =>
      b2 (fX8_worthByRule p1 p4 s) fun r6 s7 =>
      lt' (w64 (p2 + (w64 (x5 * r6)))) fun v8 =>
      lt' (w32 (p4 + 1)) fun v9 =>
      fX8_by_16 n p1 v8 v9 s7
set_option maxHeartbeats 4000000 in
theorem tX8_by_16 {E : En} {b : Bn} {xf : Int} {sf : Mem}  (G : ab_G E b cX8_by 5 RX8 (some .long) 6)  : ∀ (n : Nat) {p1 : Int} {p2 : Int} {p4 : Int} {s : Mem}, fX8_by_16 n p1 p2 p4 s = some (xf, sf) → ab_X E b (ab_MQ E b (some (vL xf)) sf) 5 16 [(0, vR 17), (1, vI p1), (2, vL p2), (4, vI p4)] [] s := by
  intro n
  induction n with
  | zero => intro p1 p2 p4 s H; rw [fX8_by_16] at H; cases H
  | succ n ih =>
    intro p1 p2 p4 s H
    rw [fX8_by_16] at H
    refine x_iload (j := 3) G dX8_by_16 rfl ?_
    refine x_aload_n (j := 0) G dX8_by_18 rfl rfl ?_
    refine gf_511 G sh_17 pt_17_1 dX8_by_19 ?_
    refine gf_150 G sh_21 pt_21_2 dX8_by_22 ?_
    refine x_icmp_ge (tgt := 73) G dX8_by_25 (by decide) (fun q1 => ?_) (fun q1 => ?_)
    · have H := if_some_t H q1
      refine x_lload_n (j := 2) G dX8_by_73 rfl rfl ?_
      cases H
      exact x_lret G dX8_by_74
    · have H := if_some_f H q1
      refine x_aload_n (j := 0) G dX8_by_28 rfl rfl ?_
      refine gf_512 G sh_17 pt_17_2 dX8_by_29 ?_
      refine gf_249 G sh_109 pt_109_4 dX8_by_32 ?_
      refine x_iload (j := 3) G dX8_by_35 rfl ?_
      refine x_ishr G dX8_by_37 ?_
      refine x_iconst G dX8_by_38 (by decide) ?_
      refine x_iand G dX8_by_39 ?_
      refine x_if_eq (tgt := 67) G dX8_by_40 (by decide) (fun q2 => ?_) (fun q2 => ?_)
      · have H := if_some_t H q2
        refine x_iincL (j := 3) G dX8_by_67 rfl (by decide) H (fun v3 hv3 H => x_ls (ls' := [(4, vI v3), (0, vR 17), (1, vI p1), (2, vL p2)]) rfl ?_)
        refine x_goto (tgt := 16) G dX8_by_70 (by decide) ?_
        exact x_subp (ls' := [(0, vR 17), (1, vI p1), (2, vL p2), (4, vI v3)]) [1, 2, 3, 0] rfl (ih H)
      · have H := if_some_f H q2
        refine x_lload_n (j := 2) G dX8_by_43 rfl rfl ?_
        refine x_aload_n (j := 0) G dX8_by_44 rfl rfl ?_
        refine gf_511 G sh_17 pt_17_1 dX8_by_45 ?_
        refine gf_162 G sh_21 pt_21_5 dX8_by_48 ?_
        refine x_iload (j := 3) G dX8_by_51 rfl ?_
        refine x_aald G dX8_by_53 H (fun g0 g1 x4 hx4 H => ?_)
        refine x_iconst G dX8_by_54 (by decide) ?_
        refine x_iald G dX8_by_55 H (fun x5 hx5 H => ?_)
        refine x_i2l G dX8_by_56 ?_
        refine x_aload_n (j := 0) G dX8_by_57 rfl rfl ?_
        refine x_iload_n (j := 1) G dX8_by_58 rfl rfl ?_
        refine x_iload (j := 3) G dX8_by_59 rfl ?_
        obtain ⟨r6, s7, c7, H⟩ := b2_some H
        refine cv_710 (As := [vI p1, vI p4]) (rest := [vL x5, vL p2]) G (rX8_worthByRule  c7) sh_17 (by omega) rfl rfl (Nat.le_of_ble_eq_true rfl) dX8_by_61 ?_
        refine x_lmul G dX8_by_64 ?_
        refine x_ladd G dX8_by_65 ?_
        refine x_letL H (fun v8 hv8 H => ?_)
        refine x_lstore_n (ls' := [(2, vL v8), (0, vR 17), (1, vI p1), (4, vI p4)]) G dX8_by_66 rfl (by decide) rfl ?_
        refine x_iincL (j := 3) G dX8_by_67 rfl (by decide) H (fun v9 hv9 H => x_ls (ls' := [(4, vI v9), (2, vL v8), (0, vR 17), (1, vI p1)]) rfl ?_)
        refine x_goto (tgt := 16) G dX8_by_70 (by decide) ?_
        exact x_subp (ls' := [(0, vR 17), (1, vI p1), (2, vL v8), (4, vI v9)]) [2, 3, 1, 0] rfl (ih H)
def fX8_by (a1 : Int) (s : Mem) : Option (Int × Mem) :=
  b2 (fX8_isRule a1 s) fun r1 s2 =>
  if r1 = 0 then
    some ((-9223372036854775808), s2)
  else
    fX8_by_16 600 a1 0 0 s2
set_option maxHeartbeats 4000000 in
theorem rX8_by {E : En} {xf : Int} {sf : Mem} {a1 : Int} {s : Mem}  (H : fX8_by a1 s = some (xf, sf)) : ab_Run E 6 yX8_by cX8_by 5 (some .long) [vR 17, vI a1] (some (vL xf)) s sf := by
  unfold fX8_by at H
  refine ab_intro (own := RX8) (by decide +kernel) rfl (Nat.le_of_ble_eq_true rfl) rfl (fun b G => ?_)
  refine x_iload_n (j := 1) G dX8_by_0 rfl rfl ?_
  obtain ⟨r1, s2, c2, H⟩ := b2_some H
  refine cs_707 (As := [vI a1]) (rest := []) G (rX8_isRule  c2) (by omega) rfl rfl (Nat.le_of_ble_eq_true rfl) dX8_by_1 ?_
  refine x_if_ne (tgt := 11) G dX8_by_4 (by decide) (fun q3 => ?_) (fun q3 => ?_)
  · have H := if_some_f H q3
    refine x_lconst (x := 0) G dX8_by_11 (by decide) (by decide) ?_
    refine x_lstore_n (ls' := [(2, vL 0), (0, vR 17), (1, vI a1)]) G dX8_by_12 rfl (by decide) rfl ?_
    refine x_iconst G dX8_by_13 (by decide) ?_
    refine x_istore (ls' := [(4, vI 0), (2, vL 0), (0, vR 17), (1, vI a1)]) G dX8_by_14 (by decide) rfl ?_
    exact x_subp (ls' := [(0, vR 17), (1, vI a1), (2, vL 0), (4, vI 0)]) [2, 3, 1, 0] rfl (tX8_by_16 G 600 H)
  · have H := if_some_t H q3
    refine x_ldc2 (x := (-9223372036854775808)) G wd_610 dX8_by_7 (by decide) (by decide) ?_
    cases H
    exact x_lret G dX8_by_10
def fX8_ran (a1 : Int) (a2 : Int) (a3 : Int) (s : Mem) : Option (Int × Mem) :=
  b2 (fX8_isRule a1 s) fun r1 s2 =>
  if r1 = 0 then
    some ((-1), s2)
  else
    b2 (fX5_isStorm a2 s2) fun r4 s5 =>
    if r4 = 0 then
      some ((-1), s5)
    else
      b2 (fX5_isSort a3 s5) fun r7 s8 =>
      if r7 = 0 then
        some ((-1), s8)
      else
        (fX4_follow a1 a2 134 s8).bind fun s11 =>
        (rdI s11 135 a3).bind fun x12 =>
        if 24 ≤ x12 then
          some (240, s11)
        else
          b2 (fX3_told 134 a3 s11) fun r14 s15 =>
          some (r14, s15)
set_option maxHeartbeats 4000000 in
theorem rX8_ran {E : En} {xf : Int} {sf : Mem} {a1 : Int} {a2 : Int} {a3 : Int} {s : Mem}  (H : fX8_ran a1 a2 a3 s = some (xf, sf)) : ab_Run E 4 yX8_ran cX8_ran 4 (some .int) [vR 17, vI a1, vI a2, vI a3] (some (vI xf)) s sf := by
  unfold fX8_ran at H
  refine ab_intro (own := RX8) (by decide +kernel) rfl (Nat.le_of_ble_eq_true rfl) rfl (fun b G => ?_)
  refine x_iload_n (j := 1) G dX8_ran_0 rfl rfl ?_
  obtain ⟨r1, s2, c2, H⟩ := b2_some H
  refine cs_707 (As := [vI a1]) (rest := []) G (rX8_isRule  c2) (by omega) rfl rfl (Nat.le_of_ble_eq_true rfl) dX8_ran_1 ?_
  refine x_if_eq (tgt := 29) G dX8_ran_4 (by decide) (fun q3 => ?_) (fun q3 => ?_)
  · have H := if_some_t H q3
    refine x_iconst G dX8_ran_29 (by decide) ?_
    cases H
    exact x_iret G dX8_ran_30
  · have H := if_some_f H q3
    refine x_aload_n (j := 0) G dX8_ran_7 rfl rfl ?_
    refine gf_511 G sh_17 pt_17_1 dX8_ran_8 ?_
    refine x_iload_n (j := 2) G dX8_ran_11 rfl rfl ?_
    obtain ⟨r4, s5, c5, H⟩ := b2_some H
    refine cv_558 (As := [vI a2]) (rest := []) G (rX5_isStorm  c5) sh_21 (by omega) rfl rfl (Nat.le_of_ble_eq_true rfl) dX8_ran_12 ?_
    refine x_if_eq (tgt := 29) G dX8_ran_15 (by decide) (fun q6 => ?_) (fun q6 => ?_)
    · have H := if_some_t H q6
      refine x_iconst G dX8_ran_29 (by decide) ?_
      cases H
      exact x_iret G dX8_ran_30
    · have H := if_some_f H q6
      refine x_aload_n (j := 0) G dX8_ran_18 rfl rfl ?_
      refine gf_511 G sh_17 pt_17_1 dX8_ran_19 ?_
      refine x_iload_n (j := 3) G dX8_ran_22 rfl rfl ?_
      obtain ⟨r7, s8, c8, H⟩ := b2_some H
      refine cv_581 (As := [vI a3]) (rest := []) G (rX5_isSort  c8) sh_21 (by omega) rfl rfl (Nat.le_of_ble_eq_true rfl) dX8_ran_23 ?_
      refine x_if_ne (tgt := 31) G dX8_ran_26 (by decide) (fun q9 => ?_) (fun q9 => ?_)
      · have H := if_some_f H q9
        refine x_aload_n (j := 0) G dX8_ran_31 rfl rfl ?_
        refine gf_516 G sh_17 pt_17_6 dX8_ran_32 ?_
        refine x_iload_n (j := 1) G dX8_ran_35 rfl rfl ?_
        refine x_iload_n (j := 2) G dX8_ran_36 rfl rfl ?_
        refine x_aload_n (j := 0) G dX8_ran_37 rfl rfl ?_
        refine gf_519 G sh_17 pt_17_9 dX8_ran_38 ?_
        obtain ⟨s11, c11, H⟩ := bd_some H
        refine cv_714 (As := [vI a1, vI a2, vR 134]) (rest := []) G (rX4_follow sh_134 c11) sh_131 (by omega) rfl rfl (Nat.le_of_ble_eq_true rfl) dX8_ran_41 ?_
        refine x_aload_n (j := 0) G dX8_ran_44 rfl rfl ?_
        refine gf_519 G sh_17 pt_17_9 dX8_ran_45 ?_
        refine gf_225 G sh_134 pt_134_0 dX8_ran_48 ?_
        refine x_iload_n (j := 3) G dX8_ran_51 rfl rfl ?_
        refine x_iald G dX8_ran_52 H (fun x12 hx12 H => ?_)
        refine x_bipush G dX8_ran_53 (by decide) (by decide) ?_
        refine x_icmp_ge (tgt := 69) G dX8_ran_55 (by decide) (fun q13 => ?_) (fun q13 => ?_)
        · have H := if_some_t H q13
          refine x_sipush G dX8_ran_69 (by decide) (by decide) ?_
          cases H
          exact x_iret G dX8_ran_72
        · have H := if_some_f H q13
          refine x_aload_n (j := 0) G dX8_ran_58 rfl rfl ?_
          refine gf_519 G sh_17 pt_17_9 dX8_ran_59 ?_
          refine x_iload_n (j := 3) G dX8_ran_62 rfl rfl ?_
          obtain ⟨r14, s15, c15, H⟩ := b2_some H
          refine cv_601 (As := [vI a3]) (rest := []) G (rX3_told sh_134 c15) sh_134 (by omega) rfl rfl (Nat.le_of_ble_eq_true rfl) dX8_ran_63 ?_
          refine x_goto (tgt := 72) G dX8_ran_66 (by decide) ?_
          cases H
          exact x_iret G dX8_ran_72
      · have H := if_some_t H q9
        refine x_iconst G dX8_ran_29 (by decide) ?_
        cases H
        exact x_iret G dX8_ran_30
def fX8_alone (a1 : Int) (s : Mem) : Option (Int × Mem) :=
  b2 (fX5_isSort a1 s) fun r1 s2 =>
  if r1 = 0 then
    some ((-9223372036854775808), s2)
  else
    b2 (fX5_allStorms  s2) fun r4 s5 =>
    b2 (fBOG 30 a1 0 r4 s5) fun r6 s7 =>
    some (r6, s7)
set_option maxHeartbeats 4000000 in
theorem rX8_alone {E : En} {xf : Int} {sf : Mem} {a1 : Int} {s : Mem}  (H : fX8_alone a1 s = some (xf, sf)) : ab_Run E 211 yX8_alone cX8_alone 2 (some .long) [vR 17, vI a1] (some (vL xf)) s sf := by
  unfold fX8_alone at H
  refine ab_intro (own := RX8) (by decide +kernel) rfl (Nat.le_of_ble_eq_true rfl) rfl (fun b G => ?_)
  refine x_aload_n (j := 0) G dX8_alone_0 rfl rfl ?_
  refine gf_511 G sh_17 pt_17_1 dX8_alone_1 ?_
  refine x_iload_n (j := 1) G dX8_alone_4 rfl rfl ?_
  obtain ⟨r1, s2, c2, H⟩ := b2_some H
  refine cv_581 (As := [vI a1]) (rest := []) G (rX5_isSort  c2) sh_21 (by omega) rfl rfl (Nat.le_of_ble_eq_true rfl) dX8_alone_5 ?_
  refine x_if_ne (tgt := 15) G dX8_alone_8 (by decide) (fun q3 => ?_) (fun q3 => ?_)
  · have H := if_some_f H q3
    refine x_aload_n (j := 0) G dX8_alone_15 rfl rfl ?_
    refine gf_517 G sh_17 pt_17_7 dX8_alone_16 ?_
    refine x_iload_n (j := 1) G dX8_alone_19 rfl rfl ?_
    refine x_iconst G dX8_alone_20 (by decide) ?_
    refine x_aload_n (j := 0) G dX8_alone_21 rfl rfl ?_
    refine gf_511 G sh_17 pt_17_1 dX8_alone_22 ?_
    obtain ⟨r4, s5, c5, H⟩ := b2_some H
    refine cv_490 (As := []) (rest := [vI 0, vI a1, vR 132]) G (rX5_allStorms  c5) sh_21 (by omega) rfl rfl (Nat.le_of_ble_eq_true rfl) dX8_alone_25 ?_
    obtain ⟨r6, s7, c7, H⟩ := b2_some H
    refine cv_754 (As := [vI a1, vI 0, vI r4]) (rest := []) G (rBOG 30  c7) sh_132 (by omega) rfl rfl (Nat.le_of_ble_eq_true rfl) dX8_alone_28 ?_
    cases H
    exact x_lret G dX8_alone_31
  · have H := if_some_t H q3
    refine x_ldc2 (x := (-9223372036854775808)) G wd_610 dX8_alone_11 (by decide) (by decide) ?_
    cases H
    exact x_lret G dX8_alone_14
def fX8_does (a1 : Int) (a2 : Int) (a3 : Int) (s : Mem) : Option (Int × Mem) :=
  b2 (fX5_isSort a1 s) fun r1 s2 =>
  if r1 = 0 then
    some ((-1), s2)
  else
    b2 (fX8_isHour a2 s2) fun r4 s5 =>
    if r4 = 0 then
      some ((-1), s5)
    else
      if a3 < 1 then
        some ((-1), s5)
      else
        b2 (fX5_allStorms  s5) fun r8 s9 =>
        if a3 ≤ r8 then
          b2 (fX1_choice a1 a2 a3 s9) fun r11 s12 =>
          some (r11, s12)
        else
          some ((-1), s9)
set_option maxHeartbeats 4000000 in
theorem rX8_does {E : En} {xf : Int} {sf : Mem} {a1 : Int} {a2 : Int} {a3 : Int} {s : Mem}  (H : fX8_does a1 a2 a3 s = some (xf, sf)) : ab_Run E 217 yX8_does cX8_does 4 (some .int) [vR 17, vI a1, vI a2, vI a3] (some (vI xf)) s sf := by
  unfold fX8_does at H
  refine ab_intro (own := RX8) (by decide +kernel) rfl (Nat.le_of_ble_eq_true rfl) rfl (fun b G => ?_)
  refine x_aload_n (j := 0) G dX8_does_0 rfl rfl ?_
  refine gf_511 G sh_17 pt_17_1 dX8_does_1 ?_
  refine x_iload_n (j := 1) G dX8_does_4 rfl rfl ?_
  obtain ⟨r1, s2, c2, H⟩ := b2_some H
  refine cv_581 (As := [vI a1]) (rest := []) G (rX5_isSort  c2) sh_21 (by omega) rfl rfl (Nat.le_of_ble_eq_true rfl) dX8_does_5 ?_
  refine x_if_eq (tgt := 34) G dX8_does_8 (by decide) (fun q3 => ?_) (fun q3 => ?_)
  · have H := if_some_t H q3
    refine x_iconst G dX8_does_34 (by decide) ?_
    cases H
    exact x_iret G dX8_does_35
  · have H := if_some_f H q3
    refine x_iload_n (j := 2) G dX8_does_11 rfl rfl ?_
    obtain ⟨r4, s5, c5, H⟩ := b2_some H
    refine cs_562 (As := [vI a2]) (rest := []) G (rX8_isHour  c5) (by omega) rfl rfl (Nat.le_of_ble_eq_true rfl) dX8_does_12 ?_
    refine x_if_eq (tgt := 34) G dX8_does_15 (by decide) (fun q6 => ?_) (fun q6 => ?_)
    · have H := if_some_t H q6
      refine x_iconst G dX8_does_34 (by decide) ?_
      cases H
      exact x_iret G dX8_does_35
    · have H := if_some_f H q6
      refine x_iload_n (j := 3) G dX8_does_18 rfl rfl ?_
      refine x_iconst G dX8_does_19 (by decide) ?_
      refine x_icmp_lt (tgt := 34) G dX8_does_20 (by decide) (fun q7 => ?_) (fun q7 => ?_)
      · have H := if_some_t H q7
        refine x_iconst G dX8_does_34 (by decide) ?_
        cases H
        exact x_iret G dX8_does_35
      · have H := if_some_f H q7
        refine x_iload_n (j := 3) G dX8_does_23 rfl rfl ?_
        refine x_aload_n (j := 0) G dX8_does_24 rfl rfl ?_
        refine gf_511 G sh_17 pt_17_1 dX8_does_25 ?_
        obtain ⟨r8, s9, c9, H⟩ := b2_some H
        refine cv_490 (As := []) (rest := [vI a3]) G (rX5_allStorms  c9) sh_21 (by omega) rfl rfl (Nat.le_of_ble_eq_true rfl) dX8_does_28 ?_
        refine x_icmp_le (tgt := 36) G dX8_does_31 (by decide) (fun q10 => ?_) (fun q10 => ?_)
        · have H := if_some_t H q10
          refine x_aload_n (j := 0) G dX8_does_36 rfl rfl ?_
          refine gf_517 G sh_17 pt_17_7 dX8_does_37 ?_
          refine x_iload_n (j := 1) G dX8_does_40 rfl rfl ?_
          refine x_iload_n (j := 2) G dX8_does_41 rfl rfl ?_
          refine x_iload_n (j := 3) G dX8_does_42 rfl rfl ?_
          obtain ⟨r11, s12, c12, H⟩ := b2_some H
          refine cv_783 (As := [vI a1, vI a2, vI a3]) (rest := []) G (rX1_choice  c12) sh_132 (by omega) rfl rfl (Nat.le_of_ble_eq_true rfl) dX8_does_43 ?_
          cases H
          exact x_iret G dX8_does_46
        · have H := if_some_f H q10
          refine x_iconst G dX8_does_34 (by decide) ?_
          cases H
          exact x_iret G dX8_does_35
def fX8_better_56 (k9 : Int → Int → Mem → Option (Int × Mem)) (k20 : Int → Int → Int → Int → Mem → Option (Int × Mem)) (p1 : Int) (p2 : Int) (p3 : Int) (p4 : Int) (t1 : Int) (t2 : Int) (s : Mem) : Option (Int × Mem) :=
  b2 (fX0_improves t1 t2 s) fun r1 s2 =>
  if r1 = 0 then
    lt' (w32 (p4 + 1)) fun v4 =>
    k20 p1 p2 p3 v4 s2
  else
    lt' (w32 (p4 + 1)) fun v5 =>
    k20 p1 p2 1 v5 s2
set_option maxHeartbeats 4000000 in
theorem tX8_better_56 {E : En} {b : Bn} {xf : Int} {sf : Mem} {k9 : Int → Int → Mem → Option (Int × Mem)} {k20 : Int → Int → Int → Int → Mem → Option (Int × Mem)} {p1 : Int} {p2 : Int} {p3 : Int} {p4 : Int} {t1 : Int} {t2 : Int} {s : Mem} (G : ab_G E b cX8_better 5 RX8 (some .int) 7)  (K9 : ∀ {p1 : Int} {p2 : Int} {s : Mem},  k9 p1 p2 s = some (xf, sf) → ab_X E b (ab_MQ E b (some (vI xf)) sf) 5 9 [(0, vR 17), (1, vI p1), (2, vI p2)] [] s) (K20 : ∀ {p1 : Int} {p2 : Int} {p3 : Int} {p4 : Int} {s : Mem},  k20 p1 p2 p3 p4 s = some (xf, sf) → ab_X E b (ab_MQ E b (some (vI xf)) sf) 5 20 [(0, vR 17), (1, vI p1), (2, vI p2), (3, vI p3), (4, vI p4)] [] s) (H : fX8_better_56 k9 k20 p1 p2 p3 p4 t1 t2 s = some (xf, sf)) : ab_X E b (ab_MQ E b (some (vI xf)) sf) 5 56 [(0, vR 17), (1, vI p1), (2, vI p2), (3, vI p3), (4, vI p4)] [vI t2, vI t1, vR 133] s := by
  unfold fX8_better_56 at H
  obtain ⟨r1, s2, c2, H⟩ := b2_some H
  refine cv_791 (As := [vI t1, vI t2]) (rest := []) G (rX0_improves  c2) sh_133 (by omega) rfl rfl (Nat.le_of_ble_eq_true rfl) dX8_better_56 ?_
  refine x_if_eq (tgt := 64) G dX8_better_59 (by decide) (fun q3 => ?_) (fun q3 => ?_)
  · have H := if_some_t H q3
    refine x_iincL (j := 4) G dX8_better_64 rfl (by decide) H (fun v4 hv4 H => x_ls (ls' := [(4, vI v4), (0, vR 17), (1, vI p1), (2, vI p2), (3, vI p3)]) rfl ?_)
    refine x_goto (tgt := 20) G dX8_better_67 (by decide) ?_
    exact x_subp (ls' := [(0, vR 17), (1, vI p1), (2, vI p2), (3, vI p3), (4, vI v4)]) [1, 2, 3, 4, 0] rfl (K20 H)
  · have H := if_some_f H q3
    refine x_iconst G dX8_better_62 (by decide) ?_
    refine x_istore_n (ls' := [(3, vI 1), (0, vR 17), (1, vI p1), (2, vI p2), (4, vI p4)]) G dX8_better_63 rfl (by decide) rfl ?_
    refine x_iincL (j := 4) G dX8_better_64 rfl (by decide) H (fun v5 hv5 H => x_ls (ls' := [(4, vI v5), (3, vI 1), (0, vR 17), (1, vI p1), (2, vI p2)]) rfl ?_)
    refine x_goto (tgt := 20) G dX8_better_67 (by decide) ?_
    exact x_subp (ls' := [(0, vR 17), (1, vI p1), (2, vI p2), (3, vI 1), (4, vI v5)]) [2, 3, 4, 1, 0] rfl (K20 H)
def fX8_better_20 (k9 : Int → Int → Mem → Option (Int × Mem)) : Nat → Int → Int → Int → Int → Mem → Option (Int × Mem)
  | 0, _, _, _, _, _ => none
  | n + 1, p1, p2, p3, p4, s =>
  if (s 21 1) ≤ p4 then
    if p3 = 0 then
      some (p2, s)
    else
      lt' (w32 (p2 + 1)) fun v3 =>
      k9 p1 v3 s
  else
    if p1 = 0 then
      b2 (fX5_allSorts  s) fun r5 s6 =>
      fX8_better_56 k9 (fun p1 p2 p3 p4 s => fX8_better_20 k9 n p1 p2 p3 p4 s) p1 p2 p3 p4 p4 r5 s6
    else
      fX8_better_56 k9 (fun p1 p2 p3 p4 s => fX8_better_20 k9 n p1 p2 p3 p4 s) p1 p2 p3 p4 p4 (shlI 1 p4) s
set_option maxHeartbeats 4000000 in
theorem tX8_better_20 {E : En} {b : Bn} {xf : Int} {sf : Mem} {k9 : Int → Int → Mem → Option (Int × Mem)} (G : ab_G E b cX8_better 5 RX8 (some .int) 7) (K9 : ∀ {p1 : Int} {p2 : Int} {s : Mem},  k9 p1 p2 s = some (xf, sf) → ab_X E b (ab_MQ E b (some (vI xf)) sf) 5 9 [(0, vR 17), (1, vI p1), (2, vI p2)] [] s) : ∀ (n : Nat) {p1 : Int} {p2 : Int} {p3 : Int} {p4 : Int} {s : Mem}, fX8_better_20 k9 n p1 p2 p3 p4 s = some (xf, sf) → ab_X E b (ab_MQ E b (some (vI xf)) sf) 5 20 [(0, vR 17), (1, vI p1), (2, vI p2), (3, vI p3), (4, vI p4)] [] s := by
  intro n
  induction n with
  | zero => intro p1 p2 p3 p4 s H; rw [fX8_better_20] at H; cases H
  | succ n ih =>
    intro p1 p2 p3 p4 s H
    rw [fX8_better_20] at H
    refine x_iload (j := 4) G dX8_better_20 rfl ?_
    refine x_aload_n (j := 0) G dX8_better_22 rfl rfl ?_
    refine gf_511 G sh_17 pt_17_1 dX8_better_23 ?_
    refine gf_144 G sh_21 pt_21_1 dX8_better_26 ?_
    refine x_icmp_ge (tgt := 70) G dX8_better_29 (by decide) (fun q1 => ?_) (fun q1 => ?_)
    · have H := if_some_t H q1
      refine x_iload_n (j := 3) G dX8_better_70 rfl rfl ?_
      refine x_if_ne (tgt := 76) G dX8_better_71 (by decide) (fun q2 => ?_) (fun q2 => ?_)
      · have H := if_some_f H q2
        refine x_iincL (j := 2) G dX8_better_76 rfl (by decide) H (fun v3 hv3 H => x_ls (ls' := [(2, vI v3), (0, vR 17), (1, vI p1), (3, vI p3), (4, vI p4)]) rfl ?_)
        refine x_goto (tgt := 9) G dX8_better_79 (by decide) ?_
        exact x_subp (ls' := [(0, vR 17), (1, vI p1), (2, vI v3)]) [1, 2, 0] rfl (K9 H)
      · have H := if_some_t H q2
        refine x_iload_n (j := 2) G dX8_better_74 rfl rfl ?_
        cases H
        exact x_iret G dX8_better_75
    · have H := if_some_f H q1
      refine x_aload_n (j := 0) G dX8_better_32 rfl rfl ?_
      refine gf_518 G sh_17 pt_17_8 dX8_better_33 ?_
      refine x_iload (j := 4) G dX8_better_36 rfl ?_
      refine x_iload_n (j := 1) G dX8_better_38 rfl rfl ?_
      refine x_if_eq (tgt := 49) G dX8_better_39 (by decide) (fun q4 => ?_) (fun q4 => ?_)
      · have H := if_some_t H q4
        refine x_aload_n (j := 0) G dX8_better_49 rfl rfl ?_
        refine gf_511 G sh_17 pt_17_1 dX8_better_50 ?_
        obtain ⟨r5, s6, c6, H⟩ := b2_some H
        refine cv_615 (As := []) (rest := [vI p4, vR 133]) G (rX5_allSorts  c6) sh_21 (by omega) rfl rfl (Nat.le_of_ble_eq_true rfl) dX8_better_53 ?_
        exact x_subp (ls' := [(0, vR 17), (1, vI p1), (2, vI p2), (3, vI p3), (4, vI p4)]) [0, 1, 2, 3, 4] rfl (tX8_better_56 G  K9 ih H)
      · have H := if_some_f H q4
        refine x_iconst G dX8_better_42 (by decide) ?_
        refine x_iload (j := 4) G dX8_better_43 rfl ?_
        refine x_ishl G dX8_better_45 ?_
        refine x_goto (tgt := 56) G dX8_better_46 (by decide) ?_
        exact x_subp (ls' := [(0, vR 17), (1, vI p1), (2, vI p2), (3, vI p3), (4, vI p4)]) [0, 1, 2, 3, 4] rfl (tX8_better_56 G  K9 ih H)
def fX8_better_9  : Nat → Int → Int → Mem → Option (Int × Mem)
  | 0, _, _, _ => none
  | n + 1, p1, p2, s =>
  if 6 < p2 then
    some ((-4), s)
  else
    fX8_better_20 (fun p1 p2 s => fX8_better_9 n p1 p2 s) 600 p1 p2 0 0 s
set_option maxHeartbeats 4000000 in
theorem tX8_better_9 {E : En} {b : Bn} {xf : Int} {sf : Mem}  (G : ab_G E b cX8_better 5 RX8 (some .int) 7)  : ∀ (n : Nat) {p1 : Int} {p2 : Int} {s : Mem}, fX8_better_9 n p1 p2 s = some (xf, sf) → ab_X E b (ab_MQ E b (some (vI xf)) sf) 5 9 [(0, vR 17), (1, vI p1), (2, vI p2)] [] s := by
  intro n
  induction n with
  | zero => intro p1 p2 s H; rw [fX8_better_9] at H; cases H
  | succ n ih =>
    intro p1 p2 s H
    rw [fX8_better_9] at H
    refine x_iload_n (j := 2) G dX8_better_9 rfl rfl ?_
    refine x_bipush G dX8_better_10 (by decide) (by decide) ?_
    refine x_icmp_gt (tgt := 82) G dX8_better_12 (by decide) (fun q1 => ?_) (fun q1 => ?_)
    · have H := if_some_t H q1
      refine x_bipush G dX8_better_82 (by decide) (by decide) ?_
      cases H
      exact x_iret G dX8_better_84
    · have H := if_some_f H q1
      refine x_iconst G dX8_better_15 (by decide) ?_
      refine x_istore_n (ls' := [(3, vI 0), (0, vR 17), (1, vI p1), (2, vI p2)]) G dX8_better_16 rfl (by decide) rfl ?_
      refine x_iconst G dX8_better_17 (by decide) ?_
      refine x_istore (ls' := [(4, vI 0), (3, vI 0), (0, vR 17), (1, vI p1), (2, vI p2)]) G dX8_better_18 (by decide) rfl ?_
      exact x_subp (ls' := [(0, vR 17), (1, vI p1), (2, vI p2), (3, vI 0), (4, vI 0)]) [2, 3, 4, 1, 0] rfl (tX8_better_20 G ih 600 H)
def fX8_better (a1 : Int) (s : Mem) : Option (Int × Mem) :=
  (fX2_asUsual  s).bind fun s2 =>
  fX8_better_9 600 a1 1 s2
set_option maxHeartbeats 4000000 in
theorem rX8_better {E : En} {xf : Int} {sf : Mem} {a1 : Int} {s : Mem}  (H : fX8_better a1 s = some (xf, sf)) : ab_Run E 7 yX8_better cX8_better 5 (some .int) [vR 17, vI a1] (some (vI xf)) s sf := by
  unfold fX8_better at H
  refine ab_intro (own := RX8) (by decide +kernel) rfl (Nat.le_of_ble_eq_true rfl) rfl (fun b G => ?_)
  refine x_aload_n (j := 0) G dX8_better_0 rfl rfl ?_
  refine gf_515 G sh_17 pt_17_5 dX8_better_1 ?_
  obtain ⟨s2, c2, H⟩ := bd_some H
  refine cv_611 (As := []) (rest := []) G (rX2_asUsual  c2) sh_122 (by omega) rfl rfl (Nat.le_of_ble_eq_true rfl) dX8_better_4 ?_
  refine x_iconst G dX8_better_7 (by decide) ?_
  refine x_istore_n (ls' := [(2, vI 1), (0, vR 17), (1, vI a1)]) G dX8_better_8 rfl (by decide) rfl ?_
  exact x_subp (ls' := [(0, vR 17), (1, vI a1), (2, vI 1)]) [1, 2, 0] rfl (tX8_better_9 G 600 H)
def fX8_meanOfGun_2  : Nat → Int → Int → Mem → Option (Int × Mem)
  | 0, _, _, _ => none
  | n + 1, p1, p2, s =>
  if (s 21 1) ≤ p2 then
    (fX2_asUsual  s).bind fun s3 =>
    b2 (fX5_allSorts  s3) fun r4 s5 =>
    b2 (fX2_meanOf 134 (s3 109 4) r4 s5) fun r6 s7 =>
    some (r6, s7)
  else
    b2 (fX5_nearest p2 s) fun r8 s9 =>
    (fX3_send 134 p2 p1 r8 s9).bind fun s11 =>
    lt' (w32 (p2 + 1)) fun v12 =>
    fX8_meanOfGun_2 n p1 v12 s11
set_option maxHeartbeats 4000000 in
theorem tX8_meanOfGun_2 {E : En} {b : Bn} {xf : Int} {sf : Mem}  (G : ab_G E b cX8_meanOfGun 3 RX8 (some .long) 6)  : ∀ (n : Nat) {p1 : Int} {p2 : Int} {s : Mem}, fX8_meanOfGun_2 n p1 p2 s = some (xf, sf) → ab_X E b (ab_MQ E b (some (vL xf)) sf) 3 2 [(0, vR 17), (1, vI p1), (2, vI p2)] [] s := by
  intro n
  induction n with
  | zero => intro p1 p2 s H; rw [fX8_meanOfGun_2] at H; cases H
  | succ n ih =>
    intro p1 p2 s H
    rw [fX8_meanOfGun_2] at H
    refine x_iload_n (j := 2) G dX8_meanOfGun_2 rfl rfl ?_
    refine x_aload_n (j := 0) G dX8_meanOfGun_3 rfl rfl ?_
    refine gf_511 G sh_17 pt_17_1 dX8_meanOfGun_4 ?_
    refine gf_144 G sh_21 pt_21_1 dX8_meanOfGun_7 ?_
    refine x_icmp_ge (tgt := 36) G dX8_meanOfGun_10 (by decide) (fun q1 => ?_) (fun q1 => ?_)
    · have H := if_some_t H q1
      refine x_aload_n (j := 0) G dX8_meanOfGun_36 rfl rfl ?_
      refine gf_515 G sh_17 pt_17_5 dX8_meanOfGun_37 ?_
      obtain ⟨s3, c3, H⟩ := bd_some H
      refine cv_611 (As := []) (rest := []) G (rX2_asUsual  c3) sh_122 (by omega) rfl rfl (Nat.le_of_ble_eq_true rfl) dX8_meanOfGun_40 ?_
      refine x_aload_n (j := 0) G dX8_meanOfGun_43 rfl rfl ?_
      refine gf_515 G sh_17 pt_17_5 dX8_meanOfGun_44 ?_
      refine x_aload_n (j := 0) G dX8_meanOfGun_47 rfl rfl ?_
      refine gf_519 G sh_17 pt_17_9 dX8_meanOfGun_48 ?_
      refine x_aload_n (j := 0) G dX8_meanOfGun_51 rfl rfl ?_
      refine gf_512 G sh_17 pt_17_2 dX8_meanOfGun_52 ?_
      refine gf_249 G sh_109 pt_109_4 dX8_meanOfGun_55 ?_
      refine x_aload_n (j := 0) G dX8_meanOfGun_58 rfl rfl ?_
      refine gf_511 G sh_17 pt_17_1 dX8_meanOfGun_59 ?_
      obtain ⟨r4, s5, c5, H⟩ := b2_some H
      refine cv_615 (As := []) (rest := [vI (s3 109 4), vR 134, vR 122]) G (rX5_allSorts  c5) sh_21 (by omega) rfl rfl (Nat.le_of_ble_eq_true rfl) dX8_meanOfGun_62 ?_
      obtain ⟨r6, s7, c7, H⟩ := b2_some H
      refine cv_678 (As := [vR 134, vI (s3 109 4), vI r4]) (rest := []) G (rX2_meanOf sh_134 c7) sh_122 (by omega) rfl rfl (Nat.le_of_ble_eq_true rfl) dX8_meanOfGun_65 ?_
      cases H
      exact x_lret G dX8_meanOfGun_68
    · have H := if_some_f H q1
      refine x_aload_n (j := 0) G dX8_meanOfGun_13 rfl rfl ?_
      refine gf_519 G sh_17 pt_17_9 dX8_meanOfGun_14 ?_
      refine x_iload_n (j := 2) G dX8_meanOfGun_17 rfl rfl ?_
      refine x_iload_n (j := 1) G dX8_meanOfGun_18 rfl rfl ?_
      refine x_aload_n (j := 0) G dX8_meanOfGun_19 rfl rfl ?_
      refine gf_511 G sh_17 pt_17_1 dX8_meanOfGun_20 ?_
      refine x_iload_n (j := 2) G dX8_meanOfGun_23 rfl rfl ?_
      obtain ⟨r8, s9, c9, H⟩ := b2_some H
      refine cv_805 (As := [vI p2]) (rest := [vI p1, vI p2, vR 134]) G (rX5_nearest  c9) sh_21 (by omega) rfl rfl (Nat.le_of_ble_eq_true rfl) dX8_meanOfGun_24 ?_
      obtain ⟨s11, c11, H⟩ := bd_some H
      refine cv_605 (As := [vI p2, vI p1, vI r8]) (rest := []) G (rX3_send sh_134 c11) sh_134 (by omega) rfl rfl (Nat.le_of_ble_eq_true rfl) dX8_meanOfGun_27 ?_
      refine x_iincL (j := 2) G dX8_meanOfGun_30 rfl (by decide) H (fun v12 hv12 H => x_ls (ls' := [(2, vI v12), (0, vR 17), (1, vI p1)]) rfl ?_)
      refine x_goto (tgt := 2) G dX8_meanOfGun_33 (by decide) ?_
      exact x_subp (ls' := [(0, vR 17), (1, vI p1), (2, vI v12)]) [1, 2, 0] rfl (ih H)
def fX8_meanOfGun (a1 : Int) (s : Mem) : Option (Int × Mem) :=
  fX8_meanOfGun_2 600 a1 0 s
set_option maxHeartbeats 4000000 in
theorem rX8_meanOfGun {E : En} {xf : Int} {sf : Mem} {a1 : Int} {s : Mem}  (H : fX8_meanOfGun a1 s = some (xf, sf)) : ab_Run E 6 yX8_meanOfGun cX8_meanOfGun 3 (some .long) [vR 17, vI a1] (some (vL xf)) s sf := by
  unfold fX8_meanOfGun at H
  refine ab_intro (own := RX8) (by decide +kernel) rfl (Nat.le_of_ble_eq_true rfl) rfl (fun b G => ?_)
  refine x_iconst G dX8_meanOfGun_0 (by decide) ?_
  refine x_istore_n (ls' := [(2, vI 0), (0, vR 17), (1, vI a1)]) G dX8_meanOfGun_1 rfl (by decide) rfl ?_
  exact x_subp (ls' := [(0, vR 17), (1, vI a1), (2, vI 0)]) [1, 2, 0] rfl (tX8_meanOfGun_2 G 600 H)
def fX8_gun (a1 : Int) (s : Mem) : Option (Int × Mem) :=
  b2 (fX8_isHourOrNever a1 s) fun r1 s2 =>
  if r1 = 0 then
    some ((-9223372036854775808), s2)
  else
    b2 (fX8_meanOfGun a1 s2) fun r4 s5 =>
    some (r4, s5)
set_option maxHeartbeats 4000000 in
theorem rX8_gun {E : En} {xf : Int} {sf : Mem} {a1 : Int} {s : Mem}  (H : fX8_gun a1 s = some (xf, sf)) : ab_Run E 7 yX8_gun cX8_gun 2 (some .long) [vR 17, vI a1] (some (vL xf)) s sf := by
  unfold fX8_gun at H
  refine ab_intro (own := RX8) (by decide +kernel) rfl (Nat.le_of_ble_eq_true rfl) rfl (fun b G => ?_)
  refine x_iload_n (j := 1) G dX8_gun_0 rfl rfl ?_
  obtain ⟨r1, s2, c2, H⟩ := b2_some H
  refine cs_598 (As := [vI a1]) (rest := []) G (rX8_isHourOrNever  c2) (by omega) rfl rfl (Nat.le_of_ble_eq_true rfl) dX8_gun_1 ?_
  refine x_if_ne (tgt := 11) G dX8_gun_4 (by decide) (fun q3 => ?_) (fun q3 => ?_)
  · have H := if_some_f H q3
    refine x_aload_n (j := 0) G dX8_gun_11 rfl rfl ?_
    refine x_iload_n (j := 1) G dX8_gun_12 rfl rfl ?_
    obtain ⟨r4, s5, c5, H⟩ := b2_some H
    refine cv_801 (As := [vI a1]) (rest := []) G (rX8_meanOfGun  c5) sh_17 (by omega) rfl rfl (Nat.le_of_ble_eq_true rfl) dX8_gun_13 ?_
    cases H
    exact x_lret G dX8_gun_16
  · have H := if_some_t H q3
    refine x_ldc2 (x := (-9223372036854775808)) G wd_610 dX8_gun_7 (by decide) (by decide) ?_
    cases H
    exact x_lret G dX8_gun_10
def fX8_bestGun_11  : Nat → Int → Int → Int → Mem → Option (Int × Mem)
  | 0, _, _, _, _ => none
  | n + 1, p1, p2, p4, s =>
  if 24 < p4 then
    some (p1, s)
  else
    b2 (fX8_meanOfGun p4 s) fun r2 s3 =>
    if r2 ≤ p2 then
      lt' (w32 (p4 + 1)) fun v5 =>
      fX8_bestGun_11 n p1 p2 v5 s3
    else
      lt' (w32 (p4 + 1)) fun v6 =>
      fX8_bestGun_11 n p4 r2 v6 s3
set_option maxHeartbeats 4000000 in
theorem tX8_bestGun_11 {E : En} {b : Bn} {xf : Int} {sf : Mem}  (G : ab_G E b cX8_bestGun 7 RX8 (some .int) 7)  : ∀ (n : Nat) {p1 : Int} {p2 : Int} {p4 : Int} {s : Mem}, fX8_bestGun_11 n p1 p2 p4 s = some (xf, sf) → ab_X E b (ab_MQ E b (some (vI xf)) sf) 7 11 [(0, vR 17), (1, vI p1), (2, vL p2), (4, vI p4)] [] s := by
  intro n
  induction n with
  | zero => intro p1 p2 p4 s H; rw [fX8_bestGun_11] at H; cases H
  | succ n ih =>
    intro p1 p2 p4 s H
    rw [fX8_bestGun_11] at H
    refine x_iload (j := 3) G dX8_bestGun_11 rfl ?_
    refine x_bipush G dX8_bestGun_13 (by decide) (by decide) ?_
    refine x_icmp_gt (tgt := 45) G dX8_bestGun_15 (by decide) (fun q1 => ?_) (fun q1 => ?_)
    · have H := if_some_t H q1
      refine x_iload_n (j := 1) G dX8_bestGun_45 rfl rfl ?_
      cases H
      exact x_iret G dX8_bestGun_46
    · have H := if_some_f H q1
      refine x_aload_n (j := 0) G dX8_bestGun_18 rfl rfl ?_
      refine x_iload (j := 3) G dX8_bestGun_19 rfl ?_
      obtain ⟨r2, s3, c3, H⟩ := b2_some H
      refine cv_801 (As := [vI p4]) (rest := []) G (rX8_meanOfGun  c3) sh_17 (by omega) rfl rfl (Nat.le_of_ble_eq_true rfl) dX8_bestGun_21 ?_
      refine x_lstore (ls' := [(5, vL r2), (0, vR 17), (1, vI p1), (2, vL p2), (4, vI p4)]) G dX8_bestGun_24 (by decide) rfl ?_
      refine x_lload (j := 0) G dX8_bestGun_26 rfl ?_
      refine x_lload_n (j := 3) G dX8_bestGun_28 rfl rfl ?_
      refine x_lcmp_le (tgt := 39) G dX8_bestGun_29 rfl dX8_bestGun_30 (by decide) (fun q4 => ?_) (fun q4 => ?_)
      · have H := if_some_t H q4
        refine x_iincL (j := 4) G dX8_bestGun_39 rfl (by decide) H (fun v5 hv5 H => x_ls (ls' := [(4, vI v5), (5, vL r2), (0, vR 17), (1, vI p1), (2, vL p2)]) rfl ?_)
        refine x_goto (tgt := 11) G dX8_bestGun_42 (by decide) ?_
        exact x_subp (ls' := [(0, vR 17), (1, vI p1), (2, vL p2), (4, vI v5)]) [2, 3, 4, 0] rfl (ih H)
      · have H := if_some_f H q4
        refine x_lload (j := 0) G dX8_bestGun_33 rfl ?_
        refine x_lstore_n (ls' := [(2, vL r2), (5, vL r2), (0, vR 17), (1, vI p1), (4, vI p4)]) G dX8_bestGun_35 rfl (by decide) rfl ?_
        refine x_iload (j := 4) G dX8_bestGun_36 rfl ?_
        refine x_istore_n (ls' := [(1, vI p4), (2, vL r2), (5, vL r2), (0, vR 17), (4, vI p4)]) G dX8_bestGun_38 rfl (by decide) rfl ?_
        refine x_iincL (j := 4) G dX8_bestGun_39 rfl (by decide) H (fun v6 hv6 H => x_ls (ls' := [(4, vI v6), (1, vI p4), (2, vL r2), (5, vL r2), (0, vR 17)]) rfl ?_)
        refine x_goto (tgt := 11) G dX8_bestGun_42 (by decide) ?_
        exact x_subp (ls' := [(0, vR 17), (1, vI p4), (2, vL r2), (4, vI v6)]) [4, 1, 2, 0] rfl (ih H)
def fX8_bestGun  (s : Mem) : Option (Int × Mem) :=
  b2 (fX8_meanOfGun 0 s) fun r1 s2 =>
  fX8_bestGun_11 600 0 r1 1 s2
set_option maxHeartbeats 4000000 in
theorem rX8_bestGun {E : En} {xf : Int} {sf : Mem}  {s : Mem}  (H : fX8_bestGun  s = some (xf, sf)) : ab_Run E 7 yX8_bestGun cX8_bestGun 7 (some .int) [vR 17] (some (vI xf)) s sf := by
  unfold fX8_bestGun at H
  refine ab_intro (own := RX8) (by decide +kernel) rfl (Nat.le_of_ble_eq_true rfl) rfl (fun b G => ?_)
  refine x_iconst G dX8_bestGun_0 (by decide) ?_
  refine x_istore_n (ls' := [(1, vI 0), (0, vR 17)]) G dX8_bestGun_1 rfl (by decide) rfl ?_
  refine x_aload_n (j := 1) G dX8_bestGun_2 rfl rfl ?_
  refine x_iconst G dX8_bestGun_3 (by decide) ?_
  obtain ⟨r1, s2, c2, H⟩ := b2_some H
  refine cv_801 (As := [vI 0]) (rest := []) G (rX8_meanOfGun  c2) sh_17 (by omega) rfl rfl (Nat.le_of_ble_eq_true rfl) dX8_bestGun_4 ?_
  refine x_lstore_n (ls' := [(2, vL r1), (1, vI 0), (0, vR 17)]) G dX8_bestGun_7 rfl (by decide) rfl ?_
  refine x_iconst G dX8_bestGun_8 (by decide) ?_
  refine x_istore (ls' := [(4, vI 1), (2, vL r1), (1, vI 0), (0, vR 17)]) G dX8_bestGun_9 (by decide) rfl ?_
  exact x_subp (ls' := [(0, vR 17), (1, vI 0), (2, vL r1), (4, vI 1)]) [3, 2, 1, 0] rfl (tX8_bestGun_11 G 600 H)
def fX8_convoy_55  : Nat → Int → Int → Int → Int → Mem → Option (Int × Mem)
  | 0, _, _, _, _, _ => none
  | n + 1, p1, p2, p3, p4, s =>
  if (s 21 1) ≤ p4 then
    b2 (fX5_leastSpeed p1 s) fun r2 s3 =>
    (fX2_inConvoy p1 r2 s3).bind fun s5 =>
    b2 (fX5_allSorts  s5) fun r6 s7 =>
    b2 (fX2_meanOf 134 (s5 109 4) r6 s7) fun r8 s9 =>
    some (r8, s9)
  else
    if (andI (shrI p1 p4) 1) = 0 then
      lt' (w32 (p4 + 1)) fun v11 =>
      fX8_convoy_55 n p1 p2 p3 v11 s
    else
      (fX3_send 134 p4 p2 p3 s).bind fun s13 =>
      lt' (w32 (p4 + 1)) fun v14 =>
      fX8_convoy_55 n p1 p2 p3 v14 s13
set_option maxHeartbeats 4000000 in
theorem tX8_convoy_55 {E : En} {b : Bn} {xf : Int} {sf : Mem}  (G : ab_G E b cX8_convoy 5 RX8 (some .long) 6)  : ∀ (n : Nat) {p1 : Int} {p2 : Int} {p3 : Int} {p4 : Int} {s : Mem}, fX8_convoy_55 n p1 p2 p3 p4 s = some (xf, sf) → ab_X E b (ab_MQ E b (some (vL xf)) sf) 5 55 [(0, vR 17), (1, vI p1), (2, vI p2), (3, vI p3), (4, vI p4)] [] s := by
  intro n
  induction n with
  | zero => intro p1 p2 p3 p4 s H; rw [fX8_convoy_55] at H; cases H
  | succ n ih =>
    intro p1 p2 p3 p4 s H
    rw [fX8_convoy_55] at H
    refine x_iload (j := 4) G dX8_convoy_55 rfl ?_
    refine x_aload_n (j := 0) G dX8_convoy_57 rfl rfl ?_
    refine gf_511 G sh_17 pt_17_1 dX8_convoy_58 ?_
    refine gf_144 G sh_21 pt_21_1 dX8_convoy_61 ?_
    refine x_icmp_ge (tgt := 93) G dX8_convoy_64 (by decide) (fun q1 => ?_) (fun q1 => ?_)
    · have H := if_some_t H q1
      refine x_aload_n (j := 0) G dX8_convoy_93 rfl rfl ?_
      refine gf_515 G sh_17 pt_17_5 dX8_convoy_94 ?_
      refine x_iload_n (j := 1) G dX8_convoy_97 rfl rfl ?_
      refine x_aload_n (j := 0) G dX8_convoy_98 rfl rfl ?_
      refine gf_511 G sh_17 pt_17_1 dX8_convoy_99 ?_
      refine x_iload_n (j := 1) G dX8_convoy_102 rfl rfl ?_
      obtain ⟨r2, s3, c3, H⟩ := b2_some H
      refine cv_815 (As := [vI p1]) (rest := [vI p1, vR 122]) G (rX5_leastSpeed  c3) sh_21 (by omega) rfl rfl (Nat.le_of_ble_eq_true rfl) dX8_convoy_103 ?_
      obtain ⟨s5, c5, H⟩ := bd_some H
      refine cv_819 (As := [vI p1, vI r2]) (rest := []) G (rX2_inConvoy  c5) sh_122 (by omega) rfl rfl (Nat.le_of_ble_eq_true rfl) dX8_convoy_106 ?_
      refine x_aload_n (j := 0) G dX8_convoy_109 rfl rfl ?_
      refine gf_515 G sh_17 pt_17_5 dX8_convoy_110 ?_
      refine x_aload_n (j := 0) G dX8_convoy_113 rfl rfl ?_
      refine gf_519 G sh_17 pt_17_9 dX8_convoy_114 ?_
      refine x_aload_n (j := 0) G dX8_convoy_117 rfl rfl ?_
      refine gf_512 G sh_17 pt_17_2 dX8_convoy_118 ?_
      refine gf_249 G sh_109 pt_109_4 dX8_convoy_121 ?_
      refine x_aload_n (j := 0) G dX8_convoy_124 rfl rfl ?_
      refine gf_511 G sh_17 pt_17_1 dX8_convoy_125 ?_
      obtain ⟨r6, s7, c7, H⟩ := b2_some H
      refine cv_615 (As := []) (rest := [vI (s5 109 4), vR 134, vR 122]) G (rX5_allSorts  c7) sh_21 (by omega) rfl rfl (Nat.le_of_ble_eq_true rfl) dX8_convoy_128 ?_
      obtain ⟨r8, s9, c9, H⟩ := b2_some H
      refine cv_678 (As := [vR 134, vI (s5 109 4), vI r6]) (rest := []) G (rX2_meanOf sh_134 c9) sh_122 (by omega) rfl rfl (Nat.le_of_ble_eq_true rfl) dX8_convoy_131 ?_
      cases H
      exact x_lret G dX8_convoy_134
    · have H := if_some_f H q1
      refine x_iload_n (j := 1) G dX8_convoy_67 rfl rfl ?_
      refine x_iload (j := 4) G dX8_convoy_68 rfl ?_
      refine x_ishr G dX8_convoy_70 ?_
      refine x_iconst G dX8_convoy_71 (by decide) ?_
      refine x_iand G dX8_convoy_72 ?_
      refine x_if_eq (tgt := 87) G dX8_convoy_73 (by decide) (fun q10 => ?_) (fun q10 => ?_)
      · have H := if_some_t H q10
        refine x_iincL (j := 4) G dX8_convoy_87 rfl (by decide) H (fun v11 hv11 H => x_ls (ls' := [(4, vI v11), (0, vR 17), (1, vI p1), (2, vI p2), (3, vI p3)]) rfl ?_)
        refine x_goto (tgt := 55) G dX8_convoy_90 (by decide) ?_
        exact x_subp (ls' := [(0, vR 17), (1, vI p1), (2, vI p2), (3, vI p3), (4, vI v11)]) [1, 2, 3, 4, 0] rfl (ih H)
      · have H := if_some_f H q10
        refine x_aload_n (j := 0) G dX8_convoy_76 rfl rfl ?_
        refine gf_519 G sh_17 pt_17_9 dX8_convoy_77 ?_
        refine x_iload (j := 4) G dX8_convoy_80 rfl ?_
        refine x_iload_n (j := 2) G dX8_convoy_82 rfl rfl ?_
        refine x_iload_n (j := 3) G dX8_convoy_83 rfl rfl ?_
        obtain ⟨s13, c13, H⟩ := bd_some H
        refine cv_605 (As := [vI p4, vI p2, vI p3]) (rest := []) G (rX3_send sh_134 c13) sh_134 (by omega) rfl rfl (Nat.le_of_ble_eq_true rfl) dX8_convoy_84 ?_
        refine x_iincL (j := 4) G dX8_convoy_87 rfl (by decide) H (fun v14 hv14 H => x_ls (ls' := [(4, vI v14), (0, vR 17), (1, vI p1), (2, vI p2), (3, vI p3)]) rfl ?_)
        refine x_goto (tgt := 55) G dX8_convoy_90 (by decide) ?_
        exact x_subp (ls' := [(0, vR 17), (1, vI p1), (2, vI p2), (3, vI p3), (4, vI v14)]) [1, 2, 3, 4, 0] rfl (ih H)
def fX8_convoy (a1 : Int) (a2 : Int) (a3 : Int) (s : Mem) : Option (Int × Mem) :=
  if a1 < 1 then
    some ((-9223372036854775808), s)
  else
    b2 (fX5_allSorts  s) fun r2 s3 =>
    if r2 < a1 then
      some ((-9223372036854775808), s3)
    else
      b2 (fX8_isHour a2 s3) fun r5 s6 =>
      if r5 = 0 then
        some ((-9223372036854775808), s6)
      else
        b2 (fX5_isHarbour a3 s6) fun r8 s9 =>
        if r8 = 0 then
          some ((-9223372036854775808), s9)
        else
          (fX3_copyFrom 134 110 s9).bind fun s12 =>
          fX8_convoy_55 600 a1 a2 a3 0 s12
set_option maxHeartbeats 4000000 in
theorem rX8_convoy {E : En} {xf : Int} {sf : Mem} {a1 : Int} {a2 : Int} {a3 : Int} {s : Mem}  (H : fX8_convoy a1 a2 a3 s = some (xf, sf)) : ab_Run E 6 yX8_convoy cX8_convoy 5 (some .long) [vR 17, vI a1, vI a2, vI a3] (some (vL xf)) s sf := by
  unfold fX8_convoy at H
  refine ab_intro (own := RX8) (by decide +kernel) rfl (Nat.le_of_ble_eq_true rfl) rfl (fun b G => ?_)
  refine x_iload_n (j := 1) G dX8_convoy_0 rfl rfl ?_
  refine x_iconst G dX8_convoy_1 (by decide) ?_
  refine x_icmp_lt (tgt := 34) G dX8_convoy_2 (by decide) (fun q1 => ?_) (fun q1 => ?_)
  · have H := if_some_t H q1
    refine x_ldc2 (x := (-9223372036854775808)) G wd_610 dX8_convoy_34 (by decide) (by decide) ?_
    cases H
    exact x_lret G dX8_convoy_37
  · have H := if_some_f H q1
    refine x_iload_n (j := 1) G dX8_convoy_5 rfl rfl ?_
    refine x_aload_n (j := 0) G dX8_convoy_6 rfl rfl ?_
    refine gf_511 G sh_17 pt_17_1 dX8_convoy_7 ?_
    obtain ⟨r2, s3, c3, H⟩ := b2_some H
    refine cv_615 (As := []) (rest := [vI a1]) G (rX5_allSorts  c3) sh_21 (by omega) rfl rfl (Nat.le_of_ble_eq_true rfl) dX8_convoy_10 ?_
    refine x_icmp_gt (tgt := 34) G dX8_convoy_13 (by decide) (fun q4 => ?_) (fun q4 => ?_)
    · have H := if_some_t H q4
      refine x_ldc2 (x := (-9223372036854775808)) G wd_610 dX8_convoy_34 (by decide) (by decide) ?_
      cases H
      exact x_lret G dX8_convoy_37
    · have H := if_some_f H q4
      refine x_iload_n (j := 2) G dX8_convoy_16 rfl rfl ?_
      obtain ⟨r5, s6, c6, H⟩ := b2_some H
      refine cs_562 (As := [vI a2]) (rest := []) G (rX8_isHour  c6) (by omega) rfl rfl (Nat.le_of_ble_eq_true rfl) dX8_convoy_17 ?_
      refine x_if_eq (tgt := 34) G dX8_convoy_20 (by decide) (fun q7 => ?_) (fun q7 => ?_)
      · have H := if_some_t H q7
        refine x_ldc2 (x := (-9223372036854775808)) G wd_610 dX8_convoy_34 (by decide) (by decide) ?_
        cases H
        exact x_lret G dX8_convoy_37
      · have H := if_some_f H q7
        refine x_aload_n (j := 0) G dX8_convoy_23 rfl rfl ?_
        refine gf_511 G sh_17 pt_17_1 dX8_convoy_24 ?_
        refine x_iload_n (j := 3) G dX8_convoy_27 rfl rfl ?_
        obtain ⟨r8, s9, c9, H⟩ := b2_some H
        refine cv_569 (As := [vI a3]) (rest := []) G (rX5_isHarbour  c9) sh_21 (by omega) rfl rfl (Nat.le_of_ble_eq_true rfl) dX8_convoy_28 ?_
        refine x_if_ne (tgt := 38) G dX8_convoy_31 (by decide) (fun q10 => ?_) (fun q10 => ?_)
        · have H := if_some_f H q10
          refine x_aload_n (j := 0) G dX8_convoy_38 rfl rfl ?_
          refine gf_519 G sh_17 pt_17_9 dX8_convoy_39 ?_
          refine x_aload_n (j := 0) G dX8_convoy_42 rfl rfl ?_
          refine gf_512 G sh_17 pt_17_2 dX8_convoy_43 ?_
          refine gf_237 G sh_109 pt_109_0 dX8_convoy_46 ?_
          obtain ⟨s12, c12, H⟩ := bd_some H
          refine cv_814 (As := [vR 110]) (rest := []) G (rX3_copyFrom sh_134 sh_110 c12) sh_134 (by omega) rfl rfl (Nat.le_of_ble_eq_true rfl) dX8_convoy_49 ?_
          refine x_iconst G dX8_convoy_52 (by decide) ?_
          refine x_istore (ls' := [(4, vI 0), (0, vR 17), (1, vI a1), (2, vI a2), (3, vI a3)]) G dX8_convoy_53 (by decide) rfl ?_
          exact x_subp (ls' := [(0, vR 17), (1, vI a1), (2, vI a2), (3, vI a3), (4, vI 0)]) [1, 2, 3, 4, 0] rfl (tX8_convoy_55 G 600 H)
        · have H := if_some_t H q10
          refine x_ldc2 (x := (-9223372036854775808)) G wd_610 dX8_convoy_34 (by decide) (by decide) ?_
          cases H
          exact x_lret G dX8_convoy_37
def fX8_first  (s : Mem) : Option (Int × Mem) :=
  (fX2_dearestFirst  s).bind fun s2 =>
  b2 (fX5_allSorts  s2) fun r3 s4 =>
  b2 (fX2_meanOf 110 (s2 109 4) r3 s4) fun r5 s6 =>
  some (r5, s6)
set_option maxHeartbeats 4000000 in
theorem rX8_first {E : En} {xf : Int} {sf : Mem}  {s : Mem}  (H : fX8_first  s = some (xf, sf)) : ab_Run E 6 yX8_first cX8_first 1 (some .long) [vR 17] (some (vL xf)) s sf := by
  unfold fX8_first at H
  refine ab_intro (own := RX8) (by decide +kernel) rfl (Nat.le_of_ble_eq_true rfl) rfl (fun b G => ?_)
  refine x_aload_n (j := 0) G dX8_first_0 rfl rfl ?_
  refine gf_515 G sh_17 pt_17_5 dX8_first_1 ?_
  obtain ⟨s2, c2, H⟩ := bd_some H
  refine cv_827 (As := []) (rest := []) G (rX2_dearestFirst  c2) sh_122 (by omega) rfl rfl (Nat.le_of_ble_eq_true rfl) dX8_first_4 ?_
  refine x_aload_n (j := 0) G dX8_first_7 rfl rfl ?_
  refine gf_515 G sh_17 pt_17_5 dX8_first_8 ?_
  refine x_aload_n (j := 0) G dX8_first_11 rfl rfl ?_
  refine gf_512 G sh_17 pt_17_2 dX8_first_12 ?_
  refine gf_237 G sh_109 pt_109_0 dX8_first_15 ?_
  refine x_aload_n (j := 0) G dX8_first_18 rfl rfl ?_
  refine gf_512 G sh_17 pt_17_2 dX8_first_19 ?_
  refine gf_249 G sh_109 pt_109_4 dX8_first_22 ?_
  refine x_aload_n (j := 0) G dX8_first_25 rfl rfl ?_
  refine gf_511 G sh_17 pt_17_1 dX8_first_26 ?_
  obtain ⟨r3, s4, c4, H⟩ := b2_some H
  refine cv_615 (As := []) (rest := [vI (s2 109 4), vR 110, vR 122]) G (rX5_allSorts  c4) sh_21 (by omega) rfl rfl (Nat.le_of_ble_eq_true rfl) dX8_first_29 ?_
  obtain ⟨r5, s6, c6, H⟩ := b2_some H
  refine cv_678 (As := [vR 110, vI (s2 109 4), vI r3]) (rest := []) G (rX2_meanOf sh_110 c6) sh_122 (by omega) rfl rfl (Nat.le_of_ble_eq_true rfl) dX8_first_32 ?_
  cases H
  exact x_lret G dX8_first_35
def fX8_night (a1 : Int) (a2 : Int) (a3 : Int) (s : Mem) : Option (Int × Mem) :=
  if a1 < 0 then
    some ((-9223372036854775808), s)
  else
    if 9999 < a1 then
      some ((-9223372036854775808), s)
    else
      b2 (fX8_isRule a2 s) fun r3 s4 =>
      if r3 = 0 then
        some ((-9223372036854775808), s4)
      else
        if a3 < 0 then
          some ((-9223372036854775808), s4)
        else
          if a3 ≤ 1 then
            b2 (fX5_drawnBy a1 s4) fun r8 s9 =>
            if a3 = 0 then
              some (r8, s9)
            else
              b2 (fX8_worthByRule a2 r8 s9) fun r11 s12 =>
              some (r11, s12)
          else
            some ((-9223372036854775808), s4)
set_option maxHeartbeats 4000000 in
theorem rX8_night {E : En} {xf : Int} {sf : Mem} {a1 : Int} {a2 : Int} {a3 : Int} {s : Mem}  (H : fX8_night a1 a2 a3 s = some (xf, sf)) : ab_Run E 6 yX8_night cX8_night 5 (some .long) [vR 17, vI a1, vI a2, vI a3] (some (vL xf)) s sf := by
  unfold fX8_night at H
  refine ab_intro (own := RX8) (by decide +kernel) rfl (Nat.le_of_ble_eq_true rfl) rfl (fun b G => ?_)
  refine x_iload_n (j := 1) G dX8_night_0 rfl rfl ?_
  refine x_if_lt (tgt := 27) G dX8_night_1 (by decide) (fun q1 => ?_) (fun q1 => ?_)
  · have H := if_some_t H q1
    refine x_ldc2 (x := (-9223372036854775808)) G wd_610 dX8_night_27 (by decide) (by decide) ?_
    cases H
    exact x_lret G dX8_night_30
  · have H := if_some_f H q1
    refine x_iload_n (j := 1) G dX8_night_4 rfl rfl ?_
    refine x_sipush G dX8_night_5 (by decide) (by decide) ?_
    refine x_icmp_gt (tgt := 27) G dX8_night_8 (by decide) (fun q2 => ?_) (fun q2 => ?_)
    · have H := if_some_t H q2
      refine x_ldc2 (x := (-9223372036854775808)) G wd_610 dX8_night_27 (by decide) (by decide) ?_
      cases H
      exact x_lret G dX8_night_30
    · have H := if_some_f H q2
      refine x_iload_n (j := 2) G dX8_night_11 rfl rfl ?_
      obtain ⟨r3, s4, c4, H⟩ := b2_some H
      refine cs_707 (As := [vI a2]) (rest := []) G (rX8_isRule  c4) (by omega) rfl rfl (Nat.le_of_ble_eq_true rfl) dX8_night_12 ?_
      refine x_if_eq (tgt := 27) G dX8_night_15 (by decide) (fun q5 => ?_) (fun q5 => ?_)
      · have H := if_some_t H q5
        refine x_ldc2 (x := (-9223372036854775808)) G wd_610 dX8_night_27 (by decide) (by decide) ?_
        cases H
        exact x_lret G dX8_night_30
      · have H := if_some_f H q5
        refine x_iload_n (j := 3) G dX8_night_18 rfl rfl ?_
        refine x_if_lt (tgt := 27) G dX8_night_19 (by decide) (fun q6 => ?_) (fun q6 => ?_)
        · have H := if_some_t H q6
          refine x_ldc2 (x := (-9223372036854775808)) G wd_610 dX8_night_27 (by decide) (by decide) ?_
          cases H
          exact x_lret G dX8_night_30
        · have H := if_some_f H q6
          refine x_iload_n (j := 3) G dX8_night_22 rfl rfl ?_
          refine x_iconst G dX8_night_23 (by decide) ?_
          refine x_icmp_le (tgt := 31) G dX8_night_24 (by decide) (fun q7 => ?_) (fun q7 => ?_)
          · have H := if_some_t H q7
            refine x_aload_n (j := 0) G dX8_night_31 rfl rfl ?_
            refine gf_511 G sh_17 pt_17_1 dX8_night_32 ?_
            refine x_iload_n (j := 1) G dX8_night_35 rfl rfl ?_
            obtain ⟨r8, s9, c9, H⟩ := b2_some H
            refine cv_835 (As := [vI a1]) (rest := []) G (rX5_drawnBy  c9) sh_21 (by omega) rfl rfl (Nat.le_of_ble_eq_true rfl) dX8_night_36 ?_
            refine x_istore (ls' := [(4, vI r8), (0, vR 17), (1, vI a1), (2, vI a2), (3, vI a3)]) G dX8_night_39 (by decide) rfl ?_
            refine x_iload_n (j := 4) G dX8_night_41 rfl rfl ?_
            refine x_if_ne (tgt := 51) G dX8_night_42 (by decide) (fun q10 => ?_) (fun q10 => ?_)
            · have H := if_some_f H q10
              refine x_aload_n (j := 1) G dX8_night_51 rfl rfl ?_
              refine x_iload_n (j := 3) G dX8_night_52 rfl rfl ?_
              refine x_iload (j := 0) G dX8_night_53 rfl ?_
              obtain ⟨r11, s12, c12, H⟩ := b2_some H
              refine cv_710 (As := [vI a2, vI r8]) (rest := []) G (rX8_worthByRule  c12) sh_17 (by omega) rfl rfl (Nat.le_of_ble_eq_true rfl) dX8_night_55 ?_
              cases H
              exact x_lret G dX8_night_58
            · have H := if_some_t H q10
              refine x_iload (j := 0) G dX8_night_45 rfl ?_
              refine x_i2l G dX8_night_47 ?_
              refine x_goto (tgt := 58) G dX8_night_48 (by decide) ?_
              cases H
              exact x_lret G dX8_night_58
          · have H := if_some_f H q7
            refine x_ldc2 (x := (-9223372036854775808)) G wd_610 dX8_night_27 (by decide) (by decide) ?_
            cases H
            exact x_lret G dX8_night_30

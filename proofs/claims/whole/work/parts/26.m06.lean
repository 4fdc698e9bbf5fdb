def fX8_keep  (s : Mem) : Option (Int × Mem) :=
  if (s 17 4) < 2 then
    (rdG 113 (s 17 4)).bind fun x2 =>
    (fX7_copyFrom x2 109 s).bind fun s4 =>
    lt' (mu s4 17 4 (w32 ((s4 17 4) + 1))) fun s5 =>
    some (s5 17 4, s5)
  else
    some ((-3), s)
set_option maxHeartbeats 4000000 in
theorem rX8_keep {E : En} {xf : Int} {sf : Mem}  {s : Mem}  (H : fX8_keep  s = some (xf, sf)) : ab_Run E 3 yX8_keep cX8_keep 1 (some .int) [vR 17] (some (vI xf)) s sf := by
  unfold fX8_keep at H
  refine ab_intro (own := RX8) (by decide +kernel) rfl (Nat.le_of_ble_eq_true rfl) rfl (fun b G => ?_)
  refine x_aload_n (j := 0) G dX8_keep_0 rfl rfl ?_
  refine gf_514 G sh_17 pt_17_4 dX8_keep_1 ?_
  refine x_iconst G dX8_keep_4 (by decide) ?_
  refine x_icmp_lt (tgt := 11) G dX8_keep_5 (by decide) (fun q1 => ?_) (fun q1 => ?_)
  · have H := if_some_t H q1
    refine x_aload_n (j := 0) G dX8_keep_11 rfl rfl ?_
    refine gf_513 G sh_17 pt_17_3 dX8_keep_12 ?_
    refine x_aload_n (j := 0) G dX8_keep_15 rfl rfl ?_
    refine gf_514 G sh_17 pt_17_4 dX8_keep_16 ?_
    refine x_aald G dX8_keep_19 H (fun g0 g1 x2 hx2 H => ?_)
    have wx2 : ab_sh x2 = (1, 7, 0) := by rw [hx2]; exact sh_kept g0 g1
    refine x_aload_n (j := 0) G dX8_keep_20 rfl rfl ?_
    refine gf_512 G sh_17 pt_17_2 dX8_keep_21 ?_
    obtain ⟨s4, c4, H⟩ := bd_some H
    refine cv_846 (As := [vR 109]) (rest := []) G (rX7_copyFrom wx2 sh_109 c4) wx2 (by omega) rfl rfl (Nat.le_of_ble_eq_true rfl) dX8_keep_24 ?_
    refine x_aload_n (j := 0) G dX8_keep_27 rfl rfl ?_
    refine x_dup G dX8_keep_28 rfl ?_
    refine gf_514 G sh_17 pt_17_4 dX8_keep_29 ?_
    refine x_iconst G dX8_keep_32 (by decide) ?_
    refine x_iadd G dX8_keep_33 ?_
    refine pf_514 G sh_17 pt_17_4 dX8_keep_34 H (fun s5 hs5 H => ?_)
    refine x_aload_n (j := 0) G dX8_keep_37 rfl rfl ?_
    refine gf_514 G sh_17 pt_17_4 dX8_keep_38 ?_
    cases H
    exact x_iret G dX8_keep_41
  · have H := if_some_f H q1
    refine x_bipush G dX8_keep_8 (by decide) (by decide) ?_
    cases H
    exact x_iret G dX8_keep_10
def fX8_back  (s : Mem) : Option (Int × Mem) :=
  if 1 ≤ (s 17 4) then
    lt' (mu s 17 4 (w32 ((s 17 4) - 1))) fun s2 =>
    (rdG 113 (s2 17 4)).bind fun x3 =>
    (fX7_copyFrom 109 x3 s2).bind fun s5 =>
    some (s5 17 4, s5)
  else
    some ((-2), s)
set_option maxHeartbeats 4000000 in
theorem rX8_back {E : En} {xf : Int} {sf : Mem}  {s : Mem}  (H : fX8_back  s = some (xf, sf)) : ab_Run E 3 yX8_back cX8_back 1 (some .int) [vR 17] (some (vI xf)) s sf := by
  unfold fX8_back at H
  refine ab_intro (own := RX8) (by decide +kernel) rfl (Nat.le_of_ble_eq_true rfl) rfl (fun b G => ?_)
  refine x_aload_n (j := 0) G dX8_back_0 rfl rfl ?_
  refine gf_514 G sh_17 pt_17_4 dX8_back_1 ?_
  refine x_iconst G dX8_back_4 (by decide) ?_
  refine x_icmp_ge (tgt := 11) G dX8_back_5 (by decide) (fun q1 => ?_) (fun q1 => ?_)
  · have H := if_some_t H q1
    refine x_aload_n (j := 0) G dX8_back_11 rfl rfl ?_
    refine x_dup G dX8_back_12 rfl ?_
    refine gf_514 G sh_17 pt_17_4 dX8_back_13 ?_
    refine x_iconst G dX8_back_16 (by decide) ?_
    refine x_isub G dX8_back_17 ?_
    refine pf_514 G sh_17 pt_17_4 dX8_back_18 H (fun s2 hs2 H => ?_)
    refine x_aload_n (j := 0) G dX8_back_21 rfl rfl ?_
    refine gf_512 G sh_17 pt_17_2 dX8_back_22 ?_
    refine x_aload_n (j := 0) G dX8_back_25 rfl rfl ?_
    refine gf_513 G sh_17 pt_17_3 dX8_back_26 ?_
    refine x_aload_n (j := 0) G dX8_back_29 rfl rfl ?_
    refine gf_514 G sh_17 pt_17_4 dX8_back_30 ?_
    refine x_aald G dX8_back_33 H (fun g0 g1 x3 hx3 H => ?_)
    have wx3 : ab_sh x3 = (1, 7, 0) := by rw [hx3]; exact sh_kept g0 g1
    obtain ⟨s5, c5, H⟩ := bd_some H
    refine cv_846 (As := [vR x3]) (rest := []) G (rX7_copyFrom sh_109 wx3 c5) sh_109 (by omega) rfl rfl (Nat.le_of_ble_eq_true rfl) dX8_back_34 ?_
    refine x_aload_n (j := 0) G dX8_back_37 rfl rfl ?_
    refine gf_514 G sh_17 pt_17_4 dX8_back_38 ?_
    cases H
    exact x_iret G dX8_back_41
  · have H := if_some_f H q1
    refine x_bipush G dX8_back_8 (by decide) (by decide) ?_
    cases H
    exact x_iret G dX8_back_10
def fX8_count (a1 : Int) (s : Mem) : Option (Int × Mem) :=
  if a1 = 0 then
    some (s 21 0, s)
  else
  if a1 = 1 then
    some (s 21 1, s)
  else
  if a1 = 2 then
    some (s 21 2, s)
  else
  if a1 = 3 then
    b2 (fX5_allBoats  s) fun r5 s6 =>
    some (r5, s6)
  else
  if a1 = 4 then
    some (s 18 1, s)
  else
  if a1 = 5 then
    some (s 17 4, s)
  else
  some ((-1), s)
set_option maxHeartbeats 4000000 in
theorem rX8_count {E : En} {xf : Int} {sf : Mem} {a1 : Int} {s : Mem}  (H : fX8_count a1 s = some (xf, sf)) : ab_Run E 1 yX8_count cX8_count 2 (some .int) [vR 17, vI a1] (some (vI xf)) s sf := by
  unfold fX8_count at H
  refine ab_intro (own := RX8) (by decide +kernel) rfl (Nat.le_of_ble_eq_true rfl) rfl (fun b G => ?_)
  refine x_iload_n (j := 1) G dX8_count_0 rfl rfl ?_
  by_cases q1 : a1 = 0
  · have H := if_some_t H q1
    refine x_table (tgt := 40) G dX8_count_1 (by rw [q1]; decide) (by decide) ?_
    refine x_aload_n (j := 0) G dX8_count_40 rfl rfl ?_
    refine gf_511 G sh_17 pt_17_1 dX8_count_41 ?_
    refine gf_141 G sh_21 pt_21_0 dX8_count_44 ?_
    cases H
    exact x_iret G dX8_count_47
  have H := if_some_f H q1
  by_cases q2 : a1 = 1
  · have H := if_some_t H q2
    refine x_table (tgt := 48) G dX8_count_1 (by rw [q2]; decide) (by decide) ?_
    refine x_aload_n (j := 0) G dX8_count_48 rfl rfl ?_
    refine gf_511 G sh_17 pt_17_1 dX8_count_49 ?_
    refine gf_144 G sh_21 pt_21_1 dX8_count_52 ?_
    cases H
    exact x_iret G dX8_count_55
  have H := if_some_f H q2
  by_cases q3 : a1 = 2
  · have H := if_some_t H q3
    refine x_table (tgt := 56) G dX8_count_1 (by rw [q3]; decide) (by decide) ?_
    refine x_aload_n (j := 0) G dX8_count_56 rfl rfl ?_
    refine gf_511 G sh_17 pt_17_1 dX8_count_57 ?_
    refine gf_150 G sh_21 pt_21_2 dX8_count_60 ?_
    cases H
    exact x_iret G dX8_count_63
  have H := if_some_f H q3
  by_cases q4 : a1 = 3
  · have H := if_some_t H q4
    refine x_table (tgt := 64) G dX8_count_1 (by rw [q4]; decide) (by decide) ?_
    refine x_aload_n (j := 0) G dX8_count_64 rfl rfl ?_
    refine gf_511 G sh_17 pt_17_1 dX8_count_65 ?_
    obtain ⟨r5, s6, c6, H⟩ := b2_some H
    refine cv_859 (As := []) (rest := []) G (rX5_allBoats  c6) sh_21 (by omega) rfl rfl (Nat.le_of_ble_eq_true rfl) dX8_count_68 ?_
    cases H
    exact x_iret G dX8_count_71
  have H := if_some_f H q4
  by_cases q7 : a1 = 4
  · have H := if_some_t H q7
    refine x_table (tgt := 72) G dX8_count_1 (by rw [q7]; decide) (by decide) ?_
    refine x_aload_n (j := 0) G dX8_count_72 rfl rfl ?_
    refine gf_510 G sh_17 pt_17_0 dX8_count_73 ?_
    refine gf_97 G sh_18 pt_18_1 dX8_count_76 ?_
    cases H
    exact x_iret G dX8_count_79
  have H := if_some_f H q7
  by_cases q8 : a1 = 5
  · have H := if_some_t H q8
    refine x_table (tgt := 80) G dX8_count_1 (by rw [q8]; decide) (by decide) ?_
    refine x_aload_n (j := 0) G dX8_count_80 rfl rfl ?_
    refine gf_514 G sh_17 pt_17_4 dX8_count_81 ?_
    cases H
    exact x_iret G dX8_count_84
  have H := if_some_f H q8
  refine x_table (tgt := 85) G dX8_count_1 ?_ (by decide) ?_
  · by_cases g9 : a1 < 0 ∨ 5 < a1
    · rw [if_pos g9]; decide
    · rw [if_neg g9]
      rcases (show a1 = 0 ∨ a1 = 1 ∨ a1 = 2 ∨ a1 = 3 ∨ a1 = 4 ∨ a1 = 5 by omega) with h9 | h9 | h9 | h9 | h9 | h9 <;> first | exact absurd h9 q1 | exact absurd h9 q2 | exact absurd h9 q3 | exact absurd h9 q4 | exact absurd h9 q7 | exact absurd h9 q8 | (rw [h9]; decide)
  · skip
    refine x_iconst G dX8_count_85 (by decide) ?_
    cases H
    exact x_iret G dX8_count_86
def fX9_begins_45 (k2 : Int → Int → Mem → Option Mem) (p1 : Int) (p2 : Int) (t1 : Int) (t2 : Int) (s : Mem) : Option Mem :=
  (wrI s 1 t1 t2).bind fun s1 =>
  lt' (w32 (p2 + 1)) fun v2 =>
  k2 p1 v2 s1
set_option maxHeartbeats 4000000 in
theorem tX9_begins_45 {E : En} {b : Bn} {sf : Mem} {k2 : Int → Int → Mem → Option Mem} {p1 : Int} {p2 : Int} {t1 : Int} {t2 : Int} {s : Mem} (G : ab_G E b cX9_begins 3 RX9 none 0)  (K2 : ∀ {p1 : Int} {p2 : Int} {s : Mem},  k2 p1 p2 s = some sf → ab_X E b (ab_MQ E b none sf) 3 2 [(0, vR 0), (1, vI p1), (2, vI p2)] [] s) (H : fX9_begins_45 k2 p1 p2 t1 t2 s = some sf) : ab_X E b (ab_MQ E b none sf) 3 45 [(0, vR 0), (1, vI p1), (2, vI p2)] [vI t2, vI t1, vR 1] s := by
  unfold fX9_begins_45 at H
  refine x_iast G dX9_begins_45 H (fun s1 hs1 H => ?_)
  refine x_iincL (j := 2) G dX9_begins_46 rfl (by decide) H (fun v2 hv2 H => x_ls (ls' := [(2, vI v2), (0, vR 0), (1, vI p1)]) rfl ?_)
  refine x_goto (tgt := 2) G dX9_begins_49 (by decide) ?_
  exact x_subp (ls' := [(0, vR 0), (1, vI p1), (2, vI v2)]) [1, 2, 0] rfl (K2 H)
def fX9_begins_33 (k2 : Int → Int → Mem → Option Mem) (p1 : Int) (p2 : Int) (t1 : Int) (s : Mem) : Option Mem :=
  if p2 = 182 then
    fX9_begins_45 k2 p1 p2 t1 3 s
  else
    fX9_begins_45 k2 p1 p2 t1 0 s
set_option maxHeartbeats 4000000 in
theorem tX9_begins_33 {E : En} {b : Bn} {sf : Mem} {k2 : Int → Int → Mem → Option Mem} {p1 : Int} {p2 : Int} {t1 : Int} {s : Mem} (G : ab_G E b cX9_begins 3 RX9 none 0)  (K2 : ∀ {p1 : Int} {p2 : Int} {s : Mem},  k2 p1 p2 s = some sf → ab_X E b (ab_MQ E b none sf) 3 2 [(0, vR 0), (1, vI p1), (2, vI p2)] [] s) (H : fX9_begins_33 k2 p1 p2 t1 s = some sf) : ab_X E b (ab_MQ E b none sf) 3 33 [(0, vR 0), (1, vI p1), (2, vI p2)] [vI t1, vR 1] s := by
  unfold fX9_begins_33 at H
  refine x_iload_n (j := 2) G dX9_begins_33 rfl rfl ?_
  refine x_sipush G dX9_begins_34 (by decide) (by decide) ?_
  refine x_icmp_ne (tgt := 44) G dX9_begins_37 (by decide) (fun q1 => ?_) (fun q1 => ?_)
  · have H := if_some_f H q1
    refine x_iconst G dX9_begins_44 (by decide) ?_
    exact x_subp (ls' := [(0, vR 0), (1, vI p1), (2, vI p2)]) [0, 1, 2] rfl (tX9_begins_45 G  K2 H)
  · have H := if_some_t H q1
    refine x_iconst G dX9_begins_40 (by decide) ?_
    refine x_goto (tgt := 45) G dX9_begins_41 (by decide) ?_
    exact x_subp (ls' := [(0, vR 0), (1, vI p1), (2, vI p2)]) [0, 1, 2] rfl (tX9_begins_45 G  K2 H)
def fX9_begins_2  : Nat → Int → Int → Mem → Option Mem
  | 0, _, _, _ => none
  | n + 1, p1, p2, s =>
  if 186 ≤ p2 then
    some s
  else
    if p2 < 36 then
      fX9_begins_33 (fun p1 p2 s => fX9_begins_2 n p1 p2 s) p1 p2 (w32 (p1 + p2)) s
    else
      if 52 ≤ p2 then
        fX9_begins_33 (fun p1 p2 s => fX9_begins_2 n p1 p2 s) p1 p2 (w32 (p1 + p2)) s
      else
        fX9_begins_45 (fun p1 p2 s => fX9_begins_2 n p1 p2 s) p1 p2 (w32 (p1 + p2)) 20 s
set_option maxHeartbeats 4000000 in
theorem tX9_begins_2 {E : En} {b : Bn} {sf : Mem}  (G : ab_G E b cX9_begins 3 RX9 none 0)  : ∀ (n : Nat) {p1 : Int} {p2 : Int} {s : Mem}, fX9_begins_2 n p1 p2 s = some sf → ab_X E b (ab_MQ E b none sf) 3 2 [(0, vR 0), (1, vI p1), (2, vI p2)] [] s := by
  intro n
  induction n with
  | zero => intro p1 p2 s H; rw [fX9_begins_2] at H; cases H
  | succ n ih =>
    intro p1 p2 s H
    rw [fX9_begins_2] at H
    refine x_iload_n (j := 2) G dX9_begins_2 rfl rfl ?_
    refine x_sipush G dX9_begins_3 (by decide) (by decide) ?_
    refine x_icmp_ge (tgt := 52) G dX9_begins_6 (by decide) (fun q1 => ?_) (fun q1 => ?_)
    · have H := if_some_t H q1
      cases H
      exact x_vret G dX9_begins_52
    · have H := if_some_f H q1
      refine x_aload_n (j := 0) G dX9_begins_9 rfl rfl ?_
      refine gf_878 G sh_0 pt_0_1 dX9_begins_10 ?_
      refine x_iload_n (j := 1) G dX9_begins_13 rfl rfl ?_
      refine x_iload_n (j := 2) G dX9_begins_14 rfl rfl ?_
      refine x_iadd G dX9_begins_15 ?_
      refine x_iload_n (j := 2) G dX9_begins_16 rfl rfl ?_
      refine x_bipush G dX9_begins_17 (by decide) (by decide) ?_
      refine x_icmp_lt (tgt := 33) G dX9_begins_19 (by decide) (fun q2 => ?_) (fun q2 => ?_)
      · have H := if_some_t H q2
        exact x_subp (ls' := [(0, vR 0), (1, vI p1), (2, vI p2)]) [0, 1, 2] rfl (tX9_begins_33 G  ih H)
      · have H := if_some_f H q2
        refine x_iload_n (j := 2) G dX9_begins_22 rfl rfl ?_
        refine x_bipush G dX9_begins_23 (by decide) (by decide) ?_
        refine x_icmp_ge (tgt := 33) G dX9_begins_25 (by decide) (fun q3 => ?_) (fun q3 => ?_)
        · have H := if_some_t H q3
          exact x_subp (ls' := [(0, vR 0), (1, vI p1), (2, vI p2)]) [0, 1, 2] rfl (tX9_begins_33 G  ih H)
        · have H := if_some_f H q3
          refine x_bipush G dX9_begins_28 (by decide) (by decide) ?_
          refine x_goto (tgt := 45) G dX9_begins_30 (by decide) ?_
          exact x_subp (ls' := [(0, vR 0), (1, vI p1), (2, vI p2)]) [0, 1, 2] rfl (tX9_begins_45 G  ih H)
def fX9_begins (a1 : Int) (s : Mem) : Option Mem :=
  fX9_begins_2 600 a1 0 s
set_option maxHeartbeats 4000000 in
theorem rX9_begins {E : En} {sf : Mem} {a1 : Int} {s : Mem}  (H : fX9_begins a1 s = some sf) : ab_Run E 0 yX9_begins cX9_begins 3 none [vR 0, vI a1] none s sf := by
  unfold fX9_begins at H
  refine ab_intro (own := RX9) (by decide +kernel) rfl (Nat.le_of_ble_eq_true rfl) rfl (fun b G => ?_)
  refine x_iconst G dX9_begins_0 (by decide) ?_
  refine x_istore_n (ls' := [(2, vI 0), (0, vR 0), (1, vI a1)]) G dX9_begins_1 rfl (by decide) rfl ?_
  exact x_subp (ls' := [(0, vR 0), (1, vI a1), (2, vI 0)]) [1, 2, 0] rfl (tX9_begins_2 G 600 H)
def fX9_anew_23  : Nat → Int → Mem → Option Mem
  | 0, _, _ => none
  | n + 1, p1, s =>
  if 4 ≤ p1 then
    (wrI s 2 8 3).bind fun s2 =>
    (wrI s2 2 9 4).bind fun s3 =>
    (rdI s3 1 185).bind fun x4 =>
    (wrI s3 2 11 (w32 ((shlI 1 x4) - 1))).bind fun s5 =>
    lt' (mu s5 0 4 0) fun s6 =>
    some s6
  else
    (wrI s 2 (w32 (0 + (w32 (2 * p1)))) 24).bind fun s7 =>
    lt' (w32 (p1 + 1)) fun v8 =>
    fX9_anew_23 n v8 s7
set_option maxHeartbeats 4000000 in
theorem tX9_anew_23 {E : En} {b : Bn} {sf : Mem}  (G : ab_G E b cX9_anew 2 RX9 none 0)  : ∀ (n : Nat) {p1 : Int} {s : Mem}, fX9_anew_23 n p1 s = some sf → ab_X E b (ab_MQ E b none sf) 2 23 [(0, vR 0), (1, vI p1)] [] s := by
  intro n
  induction n with
  | zero => intro p1 s H; rw [fX9_anew_23] at H; cases H
  | succ n ih =>
    intro p1 s H
    rw [fX9_anew_23] at H
    refine x_iload_n (j := 1) G dX9_anew_23 rfl rfl ?_
    refine x_iconst G dX9_anew_24 (by decide) ?_
    refine x_icmp_ge (tgt := 46) G dX9_anew_25 (by decide) (fun q1 => ?_) (fun q1 => ?_)
    · have H := if_some_t H q1
      refine x_aload_n (j := 0) G dX9_anew_46 rfl rfl ?_
      refine gf_879 G sh_0 pt_0_2 dX9_anew_47 ?_
      refine x_bipush G dX9_anew_50 (by decide) (by decide) ?_
      refine x_iconst G dX9_anew_52 (by decide) ?_
      refine x_iast G dX9_anew_53 H (fun s2 hs2 H => ?_)
      refine x_aload_n (j := 0) G dX9_anew_54 rfl rfl ?_
      refine gf_879 G sh_0 pt_0_2 dX9_anew_55 ?_
      refine x_bipush G dX9_anew_58 (by decide) (by decide) ?_
      refine x_iconst G dX9_anew_60 (by decide) ?_
      refine x_iast G dX9_anew_61 H (fun s3 hs3 H => ?_)
      refine x_aload_n (j := 0) G dX9_anew_62 rfl rfl ?_
      refine gf_879 G sh_0 pt_0_2 dX9_anew_63 ?_
      refine x_bipush G dX9_anew_66 (by decide) (by decide) ?_
      refine x_iconst G dX9_anew_68 (by decide) ?_
      refine x_aload_n (j := 0) G dX9_anew_69 rfl rfl ?_
      refine gf_878 G sh_0 pt_0_1 dX9_anew_70 ?_
      refine x_sipush G dX9_anew_73 (by decide) (by decide) ?_
      refine x_iald G dX9_anew_76 H (fun x4 hx4 H => ?_)
      refine x_ishl G dX9_anew_77 ?_
      refine x_iconst G dX9_anew_78 (by decide) ?_
      refine x_isub G dX9_anew_79 ?_
      refine x_iast G dX9_anew_80 H (fun s5 hs5 H => ?_)
      refine x_aload_n (j := 0) G dX9_anew_81 rfl rfl ?_
      refine x_iconst G dX9_anew_82 (by decide) ?_
      refine pf_881 G sh_0 pt_0_4 dX9_anew_83 H (fun s6 hs6 H => ?_)
      cases H
      exact x_vret G dX9_anew_86
    · have H := if_some_f H q1
      refine x_aload_n (j := 0) G dX9_anew_28 rfl rfl ?_
      refine gf_879 G sh_0 pt_0_2 dX9_anew_29 ?_
      refine x_iconst G dX9_anew_32 (by decide) ?_
      refine x_iconst G dX9_anew_33 (by decide) ?_
      refine x_iload_n (j := 1) G dX9_anew_34 rfl rfl ?_
      refine x_imul G dX9_anew_35 ?_
      refine x_iadd G dX9_anew_36 ?_
      refine x_bipush G dX9_anew_37 (by decide) (by decide) ?_
      refine x_iast G dX9_anew_39 H (fun s7 hs7 H => ?_)
      refine x_iincL (j := 1) G dX9_anew_40 rfl (by decide) H (fun v8 hv8 H => x_ls (ls' := [(1, vI v8), (0, vR 0)]) rfl ?_)
      refine x_goto (tgt := 23) G dX9_anew_43 (by decide) ?_
      exact x_subp (ls' := [(0, vR 0), (1, vI v8)]) [1, 0] rfl (ih H)
def fX9_anew_2  : Nat → Int → Mem → Option Mem
  | 0, _, _ => none
  | n + 1, p1, s =>
  if 12 ≤ p1 then
    fX9_anew_23 600 0 s
  else
    (wrI s 2 p1 0).bind fun s2 =>
    lt' (w32 (p1 + 1)) fun v3 =>
    fX9_anew_2 n v3 s2
set_option maxHeartbeats 4000000 in
theorem tX9_anew_2 {E : En} {b : Bn} {sf : Mem}  (G : ab_G E b cX9_anew 2 RX9 none 0)  : ∀ (n : Nat) {p1 : Int} {s : Mem}, fX9_anew_2 n p1 s = some sf → ab_X E b (ab_MQ E b none sf) 2 2 [(0, vR 0), (1, vI p1)] [] s := by
  intro n
  induction n with
  | zero => intro p1 s H; rw [fX9_anew_2] at H; cases H
  | succ n ih =>
    intro p1 s H
    rw [fX9_anew_2] at H
    refine x_iload_n (j := 1) G dX9_anew_2 rfl rfl ?_
    refine x_bipush G dX9_anew_3 (by decide) (by decide) ?_
    refine x_icmp_ge (tgt := 21) G dX9_anew_5 (by decide) (fun q1 => ?_) (fun q1 => ?_)
    · have H := if_some_t H q1
      refine x_iconst G dX9_anew_21 (by decide) ?_
      refine x_istore_n (ls' := [(1, vI 0), (0, vR 0)]) G dX9_anew_22 rfl (by decide) rfl ?_
      exact x_subp (ls' := [(0, vR 0), (1, vI 0)]) [1, 0] rfl (tX9_anew_23 G 600 H)
    · have H := if_some_f H q1
      refine x_aload_n (j := 0) G dX9_anew_8 rfl rfl ?_
      refine gf_879 G sh_0 pt_0_2 dX9_anew_9 ?_
      refine x_iload_n (j := 1) G dX9_anew_12 rfl rfl ?_
      refine x_iconst G dX9_anew_13 (by decide) ?_
      refine x_iast G dX9_anew_14 H (fun s2 hs2 H => ?_)
      refine x_iincL (j := 1) G dX9_anew_15 rfl (by decide) H (fun v3 hv3 H => x_ls (ls' := [(1, vI v3), (0, vR 0)]) rfl ?_)
      refine x_goto (tgt := 2) G dX9_anew_18 (by decide) ?_
      exact x_subp (ls' := [(0, vR 0), (1, vI v3)]) [1, 0] rfl (ih H)
def fX9_anew  (s : Mem) : Option Mem :=
  fX9_anew_2 600 0 s
set_option maxHeartbeats 4000000 in
theorem rX9_anew {E : En} {sf : Mem}  {s : Mem}  (H : fX9_anew  s = some sf) : ab_Run E 0 yX9_anew cX9_anew 2 none [vR 0] none s sf := by
  unfold fX9_anew at H
  refine ab_intro (own := RX9) (by decide +kernel) rfl (Nat.le_of_ble_eq_true rfl) rfl (fun b G => ?_)
  refine x_iconst G dX9_anew_0 (by decide) ?_
  refine x_istore_n (ls' := [(1, vI 0), (0, vR 0)]) G dX9_anew_1 rfl (by decide) rfl ?_
  exact x_subp (ls' := [(0, vR 0), (1, vI 0)]) [1, 0] rfl (tX9_anew_2 G 600 H)
def fX9_isIn (a0 : Int) (a1 : Int) (a2 : Int) (s : Mem) : Option (Int × Mem) :=
  if a0 < a1 then
    some (0, s)
  else
    if a2 < a0 then
      some (0, s)
    else
      some (1, s)
set_option maxHeartbeats 4000000 in
theorem rX9_isIn {E : En} {xf : Int} {sf : Mem} {a0 : Int} {a1 : Int} {a2 : Int} {s : Mem}  (H : fX9_isIn a0 a1 a2 s = some (xf, sf)) : ab_Run E 0 yX9_isIn cX9_isIn 3 (some .boolean) [vI a0, vI a1, vI a2] (some (vI xf)) s sf := by
  unfold fX9_isIn at H
  refine ab_intro (own := RX9) (by decide +kernel) rfl (Nat.le_of_ble_eq_true rfl) rfl (fun b G => ?_)
  refine x_iload_n (j := 0) G dX9_isIn_0 rfl rfl ?_
  refine x_iload_n (j := 1) G dX9_isIn_1 rfl rfl ?_
  refine x_icmp_lt (tgt := 14) G dX9_isIn_2 (by decide) (fun q1 => ?_) (fun q1 => ?_)
  · have H := if_some_t H q1
    refine x_iconst G dX9_isIn_14 (by decide) ?_
    cases H
    exact x_zret G (by decide) dX9_isIn_15
  · have H := if_some_f H q1
    refine x_iload_n (j := 0) G dX9_isIn_5 rfl rfl ?_
    refine x_iload_n (j := 2) G dX9_isIn_6 rfl rfl ?_
    refine x_icmp_gt (tgt := 14) G dX9_isIn_7 (by decide) (fun q2 => ?_) (fun q2 => ?_)
    · have H := if_some_t H q2
      refine x_iconst G dX9_isIn_14 (by decide) ?_
      cases H
      exact x_zret G (by decide) dX9_isIn_15
    · have H := if_some_f H q2
      refine x_iconst G dX9_isIn_10 (by decide) ?_
      refine x_goto (tgt := 15) G dX9_isIn_11 (by decide) ?_
      cases H
      exact x_zret G (by decide) dX9_isIn_15
def fX9_write_37  : Nat → Int → Int → Mem → Option (Int × Mem)
  | 0, _, _, _ => none
  | n + 1, p2, p4, s =>
  if p4 < 0 then
    some (s 0 6, s)
  else
    (wrI s 4 (s 0 6) (w32 (andL (shrL p2 (w32 (8 * p4))) 255))).bind fun s2 =>
    lt' (mu s2 0 6 (w32 ((s2 0 6) + 1))) fun s3 =>
    lt' (w32 (p4 + (-1))) fun v4 =>
    fX9_write_37 n p2 v4 s3
set_option maxHeartbeats 4000000 in
theorem tX9_write_37 {E : En} {b : Bn} {xf : Int} {sf : Mem}  (G : ab_G E b cX9_write 5 RX9 (some .int) 1)  : ∀ (n : Nat) {p2 : Int} {p4 : Int} {s : Mem}, fX9_write_37 n p2 p4 s = some (xf, sf) → ab_X E b (ab_MQ E b (some (vI xf)) sf) 5 37 [(0, vR 0), (2, vL p2), (4, vI p4)] [] s := by
  intro n
  induction n with
  | zero => intro p2 p4 s H; rw [fX9_write_37] at H; cases H
  | succ n ih =>
    intro p2 p4 s H
    rw [fX9_write_37] at H
    refine x_iload (j := 2) G dX9_write_37 rfl ?_
    refine x_if_lt (tgt := 79) G dX9_write_39 (by decide) (fun q1 => ?_) (fun q1 => ?_)
    · have H := if_some_t H q1
      refine x_aload_n (j := 0) G dX9_write_79 rfl rfl ?_
      refine gf_883 G sh_0 pt_0_6 dX9_write_80 ?_
      cases H
      exact x_iret G dX9_write_83
    · have H := if_some_f H q1
      refine x_aload_n (j := 0) G dX9_write_42 rfl rfl ?_
      refine gf_882 G sh_0 pt_0_5 dX9_write_43 ?_
      refine x_aload_n (j := 0) G dX9_write_46 rfl rfl ?_
      refine gf_883 G sh_0 pt_0_6 dX9_write_47 ?_
      refine x_lload_n (j := 1) G dX9_write_50 rfl rfl ?_
      refine x_bipush G dX9_write_51 (by decide) (by decide) ?_
      refine x_iload (j := 2) G dX9_write_53 rfl ?_
      refine x_imul G dX9_write_55 ?_
      refine x_lshr G dX9_write_56 ?_
      refine x_ldc2 (x := 255) G wd_949 dX9_write_57 (by decide) (by decide) ?_
      refine x_land G dX9_write_60 ?_
      refine x_l2i G dX9_write_61 ?_
      refine x_iast G dX9_write_62 H (fun s2 hs2 H => ?_)
      refine x_aload_n (j := 0) G dX9_write_63 rfl rfl ?_
      refine x_dup G dX9_write_64 rfl ?_
      refine gf_883 G sh_0 pt_0_6 dX9_write_65 ?_
      refine x_iconst G dX9_write_68 (by decide) ?_
      refine x_iadd G dX9_write_69 ?_
      refine pf_883 G sh_0 pt_0_6 dX9_write_70 H (fun s3 hs3 H => ?_)
      refine x_iincL (j := 2) G dX9_write_73 rfl (by decide) H (fun v4 hv4 H => x_ls (ls' := [(4, vI v4), (0, vR 0), (2, vL p2)]) rfl ?_)
      refine x_goto (tgt := 37) G dX9_write_76 (by decide) ?_
      exact x_subp (ls' := [(0, vR 0), (2, vL p2), (4, vI v4)]) [1, 2, 0] rfl (ih H)
def fX9_write (a1 : Int) (a2 : Int) (s : Mem) : Option (Int × Mem) :=
  lt' (mu s 0 0 0) fun s1 =>
  b2 (fX9_isIn a1 1 8 s1) fun r2 s3 =>
  if r2 = 0 then
    some ((-1), s3)
  else
    if (w32 ((s3 0 6) + a1)) ≤ 500 then
      lt' (w32 (a1 - 1)) fun v6 =>
      fX9_write_37 600 a2 v6 s3
    else
      some ((-3), s3)
set_option maxHeartbeats 4000000 in
theorem rX9_write {E : En} {xf : Int} {sf : Mem} {a1 : Int} {a2 : Int} {s : Mem}  (H : fX9_write a1 a2 s = some (xf, sf)) : ab_Run E 1 yX9_write cX9_write 5 (some .int) [vR 0, vI a1, vL a2] (some (vI xf)) s sf := by
  unfold fX9_write at H
  refine ab_intro (own := RX9) (by decide +kernel) rfl (Nat.le_of_ble_eq_true rfl) rfl (fun b G => ?_)
  refine x_aload_n (j := 0) G dX9_write_0 rfl rfl ?_
  refine x_iconst G dX9_write_1 (by decide) ?_
  refine pf_877 G sh_0 pt_0_0 dX9_write_2 H (fun s1 hs1 H => ?_)
  refine x_iload_n (j := 1) G dX9_write_5 rfl rfl ?_
  refine x_iconst G dX9_write_6 (by decide) ?_
  refine x_bipush G dX9_write_7 (by decide) (by decide) ?_
  obtain ⟨r2, s3, c3, H⟩ := b2_some H
  refine cs_946 (As := [vI a1, vI 1, vI 8]) (rest := []) G (rX9_isIn  c3) (by omega) rfl rfl (Nat.le_of_ble_eq_true rfl) dX9_write_9 ?_
  refine x_if_ne (tgt := 17) G dX9_write_12 (by decide) (fun q4 => ?_) (fun q4 => ?_)
  · have H := if_some_f H q4
    refine x_aload_n (j := 0) G dX9_write_17 rfl rfl ?_
    refine gf_883 G sh_0 pt_0_6 dX9_write_18 ?_
    refine x_iload_n (j := 1) G dX9_write_21 rfl rfl ?_
    refine x_iadd G dX9_write_22 ?_
    refine x_sipush G dX9_write_23 (by decide) (by decide) ?_
    refine x_icmp_le (tgt := 32) G dX9_write_26 (by decide) (fun q5 => ?_) (fun q5 => ?_)
    · have H := if_some_t H q5
      refine x_iload_n (j := 1) G dX9_write_32 rfl rfl ?_
      refine x_iconst G dX9_write_33 (by decide) ?_
      refine x_isub G dX9_write_34 ?_
      refine x_let H (fun v6 hv6 H => ?_)
      refine x_istore (ls' := [(4, vI v6), (0, vR 0), (1, vI a1), (2, vL a2)]) G dX9_write_35 (by decide) rfl ?_
      exact x_subp (ls' := [(0, vR 0), (2, vL a2), (4, vI v6)]) [1, 3, 0] rfl (tX9_write_37 G 600 H)
    · have H := if_some_f H q5
      refine x_bipush G dX9_write_29 (by decide) (by decide) ?_
      cases H
      exact x_iret G dX9_write_31
  · have H := if_some_t H q4
    refine x_iconst G dX9_write_15 (by decide) ?_
    cases H
    exact x_iret G dX9_write_16
def fX9_wipe  (s : Mem) : Option (Int × Mem) :=
  lt' (mu s 0 0 0) fun s1 =>
  lt' (s1 0 6) fun v2 =>
  lt' (mu s1 0 6 0) fun s3 =>
  some (v2, s3)
set_option maxHeartbeats 4000000 in
theorem rX9_wipe {E : En} {xf : Int} {sf : Mem}  {s : Mem}  (H : fX9_wipe  s = some (xf, sf)) : ab_Run E 0 yX9_wipe cX9_wipe 2 (some .int) [vR 0] (some (vI xf)) s sf := by
  unfold fX9_wipe at H
  refine ab_intro (own := RX9) (by decide +kernel) rfl (Nat.le_of_ble_eq_true rfl) rfl (fun b G => ?_)
  refine x_aload_n (j := 0) G dX9_wipe_0 rfl rfl ?_
  refine x_iconst G dX9_wipe_1 (by decide) ?_
  refine pf_877 G sh_0 pt_0_0 dX9_wipe_2 H (fun s1 hs1 H => ?_)
  refine x_aload_n (j := 0) G dX9_wipe_5 rfl rfl ?_
  refine gf_883 G sh_0 pt_0_6 dX9_wipe_6 ?_
  refine x_let H (fun v2 hv2 H => ?_)
  refine x_istore_n (ls' := [(1, vI v2), (0, vR 0)]) G dX9_wipe_9 rfl (by decide) rfl ?_
  refine x_aload_n (j := 1) G dX9_wipe_10 rfl rfl ?_
  refine x_iconst G dX9_wipe_11 (by decide) ?_
  refine pf_883 G sh_0 pt_0_6 dX9_wipe_12 H (fun s3 hs3 H => ?_)
  refine x_iload_n (j := 0) G dX9_wipe_15 rfl rfl ?_
  cases H
  exact x_iret G dX9_wipe_16
def fX9_byteAt (a1 : Int) (s : Mem) : Option (Int × Mem) :=
  if (s 0 6) ≤ a1 then
    some ((-1), s)
  else
    (rdI s 4 a1).bind fun x2 =>
    some (x2, s)
set_option maxHeartbeats 4000000 in
theorem rX9_byteAt {E : En} {xf : Int} {sf : Mem} {a1 : Int} {s : Mem}  (H : fX9_byteAt a1 s = some (xf, sf)) : ab_Run E 0 yX9_byteAt cX9_byteAt 2 (some .int) [vR 0, vI a1] (some (vI xf)) s sf := by
  unfold fX9_byteAt at H
  refine ab_intro (own := RX9) (by decide +kernel) rfl (Nat.le_of_ble_eq_true rfl) rfl (fun b G => ?_)
  refine x_iload_n (j := 1) G dX9_byteAt_0 rfl rfl ?_
  refine x_aload_n (j := 0) G dX9_byteAt_1 rfl rfl ?_
  refine gf_883 G sh_0 pt_0_6 dX9_byteAt_2 ?_
  refine x_icmp_ge (tgt := 17) G dX9_byteAt_5 (by decide) (fun q1 => ?_) (fun q1 => ?_)
  · have H := if_some_t H q1
    refine x_iconst G dX9_byteAt_17 (by decide) ?_
    cases H
    exact x_iret G dX9_byteAt_18
  · have H := if_some_f H q1
    refine x_aload_n (j := 0) G dX9_byteAt_8 rfl rfl ?_
    refine gf_882 G sh_0 pt_0_5 dX9_byteAt_9 ?_
    refine x_iload_n (j := 1) G dX9_byteAt_12 rfl rfl ?_
    refine x_iald G dX9_byteAt_13 H (fun x2 hx2 H => ?_)
    refine x_goto (tgt := 18) G dX9_byteAt_14 (by decide) ?_
    cases H
    exact x_iret G dX9_byteAt_18
def fX9_number_110  (p1 : Int) (p4 : Int) (t1 : Int) (s : Mem) : Option (Int × Mem) :=
  ck (t1 = 0 ∨ t1 = 1) <|
  lt' (mu s 0 8 t1) fun s1 =>
  lt' (mu s1 0 7 (w32 ((s1 0 7) + 1))) fun s2 =>
  if (s2 0 8) = 0 then
    some (p1, s2)
  else
    some (p4, s2)
set_option maxHeartbeats 4000000 in
theorem tX9_number_110 {E : En} {b : Bn} {xf : Int} {sf : Mem}  {p1 : Int} {p4 : Int} {t1 : Int} {s : Mem} (G : ab_G E b cX9_number 6 RX9 (some .int) 1)   (H : fX9_number_110 p1 p4 t1 s = some (xf, sf)) : ab_X E b (ab_MQ E b (some (vI xf)) sf) 6 110 [(0, vR 0), (1, vI p1), (4, vI p4)] [vI t1, vR 0] s := by
  unfold fX9_number_110 at H
  obtain ⟨h01, H⟩ := ck_some H
  refine pf_885 h01 G sh_0 pt_0_8 dX9_number_110 H (fun s1 hs1 H => ?_)
  refine x_aload_n (j := 0) G dX9_number_113 rfl rfl ?_
  refine x_dup G dX9_number_114 rfl ?_
  refine gf_884 G sh_0 pt_0_7 dX9_number_115 ?_
  refine x_iconst G dX9_number_118 (by decide) ?_
  refine x_iadd G dX9_number_119 ?_
  refine pf_884 G sh_0 pt_0_7 dX9_number_120 H (fun s2 hs2 H => ?_)
  refine x_aload_n (j := 0) G dX9_number_123 rfl rfl ?_
  refine gf_885 G sh_0 pt_0_8 dX9_number_124 ?_
  refine x_if_eq (tgt := 135) G dX9_number_127 (by decide) (fun q3 => ?_) (fun q3 => ?_)
  · have H := if_some_t H q3
    refine x_iload_n (j := 1) G dX9_number_135 rfl rfl ?_
    cases H
    exact x_iret G dX9_number_136
  · have H := if_some_f H q3
    refine x_iload (j := 2) G dX9_number_130 rfl ?_
    refine x_goto (tgt := 136) G dX9_number_132 (by decide) ?_
    cases H
    exact x_iret G dX9_number_136
def fX9_number_109  (p1 : Int) (p4 : Int) (s : Mem) : Option (Int × Mem) :=
  fX9_number_110 p1 p4 0 s
set_option maxHeartbeats 4000000 in
theorem tX9_number_109 {E : En} {b : Bn} {xf : Int} {sf : Mem}  {p1 : Int} {p4 : Int} {s : Mem} (G : ab_G E b cX9_number 6 RX9 (some .int) 1)   (H : fX9_number_109 p1 p4 s = some (xf, sf)) : ab_X E b (ab_MQ E b (some (vI xf)) sf) 6 109 [(0, vR 0), (1, vI p1), (4, vI p4)] [vR 0] s := by
  unfold fX9_number_109 at H
  refine x_iconst G dX9_number_109 (by decide) ?_
  exact x_subp (ls' := [(0, vR 0), (1, vI p1), (4, vI p4)]) [0, 1, 2] rfl (tX9_number_110 G  H)
def fX9_number_65  (p1 : Int) (p2 : Int) (p3 : Int) (p4 : Int) (p5 : Int) (s : Mem) : Option (Int × Mem) :=
  if (s 0 8) = 0 then
    fX9_number_109 p1 p4 s
  else
    b2 (fX9_isIn p5 1 3 s) fun r2 s3 =>
    if r2 = 0 then
      fX9_number_109 p1 p4 s3
    else
      b2 (fX9_isIn p4 p1 p2 s3) fun r5 s6 =>
      if r5 = 0 then
        fX9_number_109 p1 p4 s6
      else
        b2 (fX9_byteAt (s6 0 7) s6) fun r8 s9 =>
        if r8 = p3 then
          fX9_number_110 p1 p4 1 s9
        else
          fX9_number_109 p1 p4 s9
set_option maxHeartbeats 4000000 in
theorem tX9_number_65 {E : En} {b : Bn} {xf : Int} {sf : Mem}  {p1 : Int} {p2 : Int} {p3 : Int} {p4 : Int} {p5 : Int} {s : Mem} (G : ab_G E b cX9_number 6 RX9 (some .int) 1)   (H : fX9_number_65 p1 p2 p3 p4 p5 s = some (xf, sf)) : ab_X E b (ab_MQ E b (some (vI xf)) sf) 6 65 [(0, vR 0), (1, vI p1), (2, vI p2), (3, vI p3), (4, vI p4), (5, vI p5)] [] s := by
  unfold fX9_number_65 at H
  refine x_aload_n (j := 0) G dX9_number_65 rfl rfl ?_
  refine x_aload_n (j := 0) G dX9_number_66 rfl rfl ?_
  refine gf_885 G sh_0 pt_0_8 dX9_number_67 ?_
  refine x_if_eq (tgt := 109) G dX9_number_70 (by decide) (fun q1 => ?_) (fun q1 => ?_)
  · have H := if_some_t H q1
    exact x_subp (ls' := [(0, vR 0), (1, vI p1), (4, vI p4)]) [0, 1, 4] rfl (tX9_number_109 G  H)
  · have H := if_some_f H q1
    refine x_iload (j := 5) G dX9_number_73 rfl ?_
    refine x_iconst G dX9_number_75 (by decide) ?_
    refine x_iconst G dX9_number_76 (by decide) ?_
    obtain ⟨r2, s3, c3, H⟩ := b2_some H
    refine cs_946 (As := [vI p5, vI 1, vI 3]) (rest := [vR 0]) G (rX9_isIn  c3) (by omega) rfl rfl (Nat.le_of_ble_eq_true rfl) dX9_number_77 ?_
    refine x_if_eq (tgt := 109) G dX9_number_80 (by decide) (fun q4 => ?_) (fun q4 => ?_)
    · have H := if_some_t H q4
      exact x_subp (ls' := [(0, vR 0), (1, vI p1), (4, vI p4)]) [0, 1, 4] rfl (tX9_number_109 G  H)
    · have H := if_some_f H q4
      refine x_iload (j := 4) G dX9_number_83 rfl ?_
      refine x_iload_n (j := 1) G dX9_number_85 rfl rfl ?_
      refine x_iload_n (j := 2) G dX9_number_86 rfl rfl ?_
      obtain ⟨r5, s6, c6, H⟩ := b2_some H
      refine cs_946 (As := [vI p4, vI p1, vI p2]) (rest := [vR 0]) G (rX9_isIn  c6) (by omega) rfl rfl (Nat.le_of_ble_eq_true rfl) dX9_number_87 ?_
      refine x_if_eq (tgt := 109) G dX9_number_90 (by decide) (fun q7 => ?_) (fun q7 => ?_)
      · have H := if_some_t H q7
        exact x_subp (ls' := [(0, vR 0), (1, vI p1), (4, vI p4)]) [0, 1, 4] rfl (tX9_number_109 G  H)
      · have H := if_some_f H q7
        refine x_aload_n (j := 0) G dX9_number_93 rfl rfl ?_
        refine x_aload_n (j := 0) G dX9_number_94 rfl rfl ?_
        refine gf_884 G sh_0 pt_0_7 dX9_number_95 ?_
        obtain ⟨r8, s9, c9, H⟩ := b2_some H
        refine cv_962 (As := [vI (s6 0 7)]) (rest := [vR 0]) G (rX9_byteAt  c9) sh_0 (by omega) rfl rfl (Nat.le_of_ble_eq_true rfl) dX9_number_98 ?_
        refine x_iload_n (j := 3) G dX9_number_101 rfl rfl ?_
        refine x_icmp_ne (tgt := 109) G dX9_number_102 (by decide) (fun q10 => ?_) (fun q10 => ?_)
        · have H := if_some_f H q10
          exact x_subp (ls' := [(0, vR 0), (1, vI p1), (4, vI p4)]) [0, 1, 4] rfl (tX9_number_109 G  H)
        · have H := if_some_t H q10
          refine x_iconst G dX9_number_105 (by decide) ?_
          refine x_goto (tgt := 110) G dX9_number_106 (by decide) ?_
          exact x_subp (ls' := [(0, vR 0), (1, vI p1), (4, vI p4)]) [0, 1, 4] rfl (tX9_number_110 G  H)
def fX9_number_6  : Nat → Int → Int → Int → Int → Int → Mem → Option (Int × Mem)
  | 0, _, _, _, _, _, _ => none
  | n + 1, p1, p2, p3, p4, p5, s =>
  b2 (fX9_byteAt (s 0 7) s) fun r1 s2 =>
  b2 (fX9_isIn r1 48 57 s2) fun r3 s4 =>
  if r3 = 0 then
    fX9_number_65 p1 p2 p3 p4 p5 s4
  else
    if 4 ≤ p5 then
      fX9_number_65 p1 p2 p3 p4 p5 s4
    else
      b2 (fX9_byteAt (s4 0 7) s4) fun r7 s8 =>
      lt' (w32 ((w32 ((w32 (10 * p4)) + r7)) - 48)) fun v9 =>
      lt' (mu s8 0 7 (w32 ((s8 0 7) + 1))) fun s10 =>
      lt' (w32 (p5 + 1)) fun v11 =>
      fX9_number_6 n p1 p2 p3 v9 v11 s10
set_option maxHeartbeats 4000000 in
theorem tX9_number_6 {E : En} {b : Bn} {xf : Int} {sf : Mem}  (G : ab_G E b cX9_number 6 RX9 (some .int) 1)  : ∀ (n : Nat) {p1 : Int} {p2 : Int} {p3 : Int} {p4 : Int} {p5 : Int} {s : Mem}, fX9_number_6 n p1 p2 p3 p4 p5 s = some (xf, sf) → ab_X E b (ab_MQ E b (some (vI xf)) sf) 6 6 [(0, vR 0), (1, vI p1), (2, vI p2), (3, vI p3), (4, vI p4), (5, vI p5)] [] s := by
  intro n
  induction n with
  | zero => intro p1 p2 p3 p4 p5 s H; rw [fX9_number_6] at H; cases H
  | succ n ih =>
    intro p1 p2 p3 p4 p5 s H
    rw [fX9_number_6] at H
    refine x_aload_n (j := 0) G dX9_number_6 rfl rfl ?_
    refine x_aload_n (j := 0) G dX9_number_7 rfl rfl ?_
    refine gf_884 G sh_0 pt_0_7 dX9_number_8 ?_
    obtain ⟨r1, s2, c2, H⟩ := b2_some H
    refine cv_962 (As := [vI (s 0 7)]) (rest := []) G (rX9_byteAt  c2) sh_0 (by omega) rfl rfl (Nat.le_of_ble_eq_true rfl) dX9_number_11 ?_
    refine x_bipush G dX9_number_14 (by decide) (by decide) ?_
    refine x_bipush G dX9_number_16 (by decide) (by decide) ?_
    obtain ⟨r3, s4, c4, H⟩ := b2_some H
    refine cs_946 (As := [vI r1, vI 48, vI 57]) (rest := []) G (rX9_isIn  c4) (by omega) rfl rfl (Nat.le_of_ble_eq_true rfl) dX9_number_18 ?_
    refine x_if_eq (tgt := 65) G dX9_number_21 (by decide) (fun q5 => ?_) (fun q5 => ?_)
    · have H := if_some_t H q5
      exact x_subp (ls' := [(0, vR 0), (1, vI p1), (2, vI p2), (3, vI p3), (4, vI p4), (5, vI p5)]) [0, 1, 2, 3, 4, 5] rfl (tX9_number_65 G  H)
    · have H := if_some_f H q5
      refine x_iload (j := 5) G dX9_number_24 rfl ?_
      refine x_iconst G dX9_number_26 (by decide) ?_
      refine x_icmp_ge (tgt := 65) G dX9_number_27 (by decide) (fun q6 => ?_) (fun q6 => ?_)
      · have H := if_some_t H q6
        exact x_subp (ls' := [(0, vR 0), (1, vI p1), (2, vI p2), (3, vI p3), (4, vI p4), (5, vI p5)]) [0, 1, 2, 3, 4, 5] rfl (tX9_number_65 G  H)
      · have H := if_some_f H q6
        refine x_bipush G dX9_number_30 (by decide) (by decide) ?_
        refine x_iload (j := 4) G dX9_number_32 rfl ?_
        refine x_imul G dX9_number_34 ?_
        refine x_aload_n (j := 0) G dX9_number_35 rfl rfl ?_
        refine x_aload_n (j := 0) G dX9_number_36 rfl rfl ?_
        refine gf_884 G sh_0 pt_0_7 dX9_number_37 ?_
        obtain ⟨r7, s8, c8, H⟩ := b2_some H
        refine cv_962 (As := [vI (s4 0 7)]) (rest := [vI (w32 (10 * p4))]) G (rX9_byteAt  c8) sh_0 (by omega) rfl rfl (Nat.le_of_ble_eq_true rfl) dX9_number_40 ?_
        refine x_iadd G dX9_number_43 ?_
        refine x_bipush G dX9_number_44 (by decide) (by decide) ?_
        refine x_isub G dX9_number_46 ?_
        refine x_let H (fun v9 hv9 H => ?_)
        refine x_istore (ls' := [(4, vI v9), (0, vR 0), (1, vI p1), (2, vI p2), (3, vI p3), (5, vI p5)]) G dX9_number_47 (by decide) rfl ?_
        refine x_aload_n (j := 1) G dX9_number_49 rfl rfl ?_
        refine x_dup G dX9_number_50 rfl ?_
        refine gf_884 G sh_0 pt_0_7 dX9_number_51 ?_
        refine x_iconst G dX9_number_54 (by decide) ?_
        refine x_iadd G dX9_number_55 ?_
        refine pf_884 G sh_0 pt_0_7 dX9_number_56 H (fun s10 hs10 H => ?_)
        refine x_iincL (j := 5) G dX9_number_59 rfl (by decide) H (fun v11 hv11 H => x_ls (ls' := [(5, vI v11), (4, vI v9), (0, vR 0), (1, vI p1), (2, vI p2), (3, vI p3)]) rfl ?_)
        refine x_goto (tgt := 6) G dX9_number_62 (by decide) ?_
        exact x_subp (ls' := [(0, vR 0), (1, vI p1), (2, vI p2), (3, vI p3), (4, vI v9), (5, vI v11)]) [2, 3, 4, 5, 1, 0] rfl (ih H)
def fX9_number (a1 : Int) (a2 : Int) (a3 : Int) (s : Mem) : Option (Int × Mem) :=
  fX9_number_6 600 a1 a2 a3 0 0 s
set_option maxHeartbeats 4000000 in
theorem rX9_number {E : En} {xf : Int} {sf : Mem} {a1 : Int} {a2 : Int} {a3 : Int} {s : Mem}  (H : fX9_number a1 a2 a3 s = some (xf, sf)) : ab_Run E 1 yX9_number cX9_number 6 (some .int) [vR 0, vI a1, vI a2, vI a3] (some (vI xf)) s sf := by
  unfold fX9_number at H
  refine ab_intro (own := RX9) (by decide +kernel) rfl (Nat.le_of_ble_eq_true rfl) rfl (fun b G => ?_)
  refine x_iconst G dX9_number_0 (by decide) ?_
  refine x_istore (ls' := [(4, vI 0), (0, vR 0), (1, vI a1), (2, vI a2), (3, vI a3)]) G dX9_number_1 (by decide) rfl ?_
  refine x_iconst G dX9_number_3 (by decide) ?_
  refine x_istore (ls' := [(5, vI 0), (4, vI 0), (0, vR 0), (1, vI a1), (2, vI a2), (3, vI a3)]) G dX9_number_4 (by decide) rfl ?_
  exact x_subp (ls' := [(0, vR 0), (1, vI a1), (2, vI a2), (3, vI a3), (4, vI 0), (5, vI 0)]) [2, 3, 4, 5, 1, 0] rfl (tX9_number_6 G 600 H)
def fX9_draft (a1 : Int) (s : Mem) : Option (Int × Mem) :=
  (rdI s 1 (w32 (186 + a1))).bind fun x1 =>
  some (x1, s)
set_option maxHeartbeats 4000000 in
theorem rX9_draft {E : En} {xf : Int} {sf : Mem} {a1 : Int} {s : Mem}  (H : fX9_draft a1 s = some (xf, sf)) : ab_Run E 0 yX9_draft cX9_draft 2 (some .int) [vR 0, vI a1] (some (vI xf)) s sf := by
  unfold fX9_draft at H
  refine ab_intro (own := RX9) (by decide +kernel) rfl (Nat.le_of_ble_eq_true rfl) rfl (fun b G => ?_)
  refine x_aload_n (j := 0) G dX9_draft_0 rfl rfl ?_
  refine gf_878 G sh_0 pt_0_1 dX9_draft_1 ?_
  refine x_sipush G dX9_draft_4 (by decide) (by decide) ?_
  refine x_iload_n (j := 1) G dX9_draft_7 rfl rfl ?_
  refine x_iadd G dX9_draft_8 ?_
  refine x_iald G dX9_draft_9 H (fun x1 hx1 H => ?_)
  cases H
  exact x_iret G dX9_draft_10
def fX9_puts (a1 : Int) (a2 : Int) (s : Mem) : Option Mem :=
  if (s 0 8) = 0 then
    some s
  else
    (wrI s 1 (w32 (186 + a1)) a2).bind fun s2 =>
    some s2
set_option maxHeartbeats 4000000 in
theorem rX9_puts {E : En} {sf : Mem} {a1 : Int} {a2 : Int} {s : Mem}  (H : fX9_puts a1 a2 s = some sf) : ab_Run E 0 yX9_puts cX9_puts 3 none [vR 0, vI a1, vI a2] none s sf := by
  unfold fX9_puts at H
  refine ab_intro (own := RX9) (by decide +kernel) rfl (Nat.le_of_ble_eq_true rfl) rfl (fun b G => ?_)
  refine x_aload_n (j := 0) G dX9_puts_0 rfl rfl ?_
  refine gf_885 G sh_0 pt_0_8 dX9_puts_1 ?_
  refine x_if_eq (tgt := 18) G dX9_puts_4 (by decide) (fun q1 => ?_) (fun q1 => ?_)
  · have H := if_some_t H q1
    cases H
    exact x_vret G dX9_puts_18
  · have H := if_some_f H q1
    refine x_aload_n (j := 0) G dX9_puts_7 rfl rfl ?_
    refine gf_878 G sh_0 pt_0_1 dX9_puts_8 ?_
    refine x_sipush G dX9_puts_11 (by decide) (by decide) ?_
    refine x_iload_n (j := 1) G dX9_puts_14 rfl rfl ?_
    refine x_iadd G dX9_puts_15 ?_
    refine x_iload_n (j := 2) G dX9_puts_16 rfl rfl ?_
    refine x_iast G dX9_puts_17 H (fun s2 hs2 H => ?_)
    cases H
    exact x_vret G dX9_puts_18
def fX9_readsHarbour_78  (p1 : Int) (p2 : Int) (p3 : Int) (p4 : Int) (p5 : Int) (t1 : Int) (s : Mem) : Option Mem :=
  ck (t1 = 0 ∨ t1 = 1) <|
  lt' (mu s 0 8 t1) fun s1 =>
  (fX9_puts p1 p2 s1).bind fun s3 =>
  (fX9_puts (w32 (p1 + 1)) p3 s3).bind fun s5 =>
  (fX9_puts (w32 (p1 + 2)) p4 s5).bind fun s7 =>
  (fX9_puts (w32 (p1 + 3)) p5 s7).bind fun s9 =>
  b2 (fX9_draft 183 s9) fun r10 s11 =>
  (fX9_puts 183 (w32 (r10 + 1)) s11).bind fun s13 =>
  some s13
set_option maxHeartbeats 4000000 in
theorem tX9_readsHarbour_78 {E : En} {b : Bn} {sf : Mem}  {p1 : Int} {p2 : Int} {p3 : Int} {p4 : Int} {p5 : Int} {t1 : Int} {s : Mem} (G : ab_G E b cX9_readsHarbour 6 RX9 none 2)   (H : fX9_readsHarbour_78 p1 p2 p3 p4 p5 t1 s = some sf) : ab_X E b (ab_MQ E b none sf) 6 78 [(0, vR 0), (1, vI p1), (2, vI p2), (3, vI p3), (4, vI p4), (5, vI p5)] [vI t1, vR 0] s := by
  unfold fX9_readsHarbour_78 at H
  obtain ⟨h01, H⟩ := ck_some H
  refine pf_885 h01 G sh_0 pt_0_8 dX9_readsHarbour_78 H (fun s1 hs1 H => ?_)
  refine x_aload_n (j := 0) G dX9_readsHarbour_81 rfl rfl ?_
  refine x_iload_n (j := 1) G dX9_readsHarbour_82 rfl rfl ?_
  refine x_iload_n (j := 2) G dX9_readsHarbour_83 rfl rfl ?_
  obtain ⟨s3, c3, H⟩ := bd_some H
  refine cv_982 (As := [vI p1, vI p2]) (rest := []) G (rX9_puts  c3) sh_0 (by omega) rfl rfl (Nat.le_of_ble_eq_true rfl) dX9_readsHarbour_84 ?_
  refine x_aload_n (j := 0) G dX9_readsHarbour_87 rfl rfl ?_
  refine x_iload_n (j := 1) G dX9_readsHarbour_88 rfl rfl ?_
  refine x_iconst G dX9_readsHarbour_89 (by decide) ?_
  refine x_iadd G dX9_readsHarbour_90 ?_
  refine x_iload_n (j := 3) G dX9_readsHarbour_91 rfl rfl ?_
  obtain ⟨s5, c5, H⟩ := bd_some H
  refine cv_982 (As := [vI (w32 (p1 + 1)), vI p3]) (rest := []) G (rX9_puts  c5) sh_0 (by omega) rfl rfl (Nat.le_of_ble_eq_true rfl) dX9_readsHarbour_92 ?_
  refine x_aload_n (j := 0) G dX9_readsHarbour_95 rfl rfl ?_
  refine x_iload_n (j := 1) G dX9_readsHarbour_96 rfl rfl ?_
  refine x_iconst G dX9_readsHarbour_97 (by decide) ?_
  refine x_iadd G dX9_readsHarbour_98 ?_
  refine x_iload (j := 4) G dX9_readsHarbour_99 rfl ?_
  obtain ⟨s7, c7, H⟩ := bd_some H
  refine cv_982 (As := [vI (w32 (p1 + 2)), vI p4]) (rest := []) G (rX9_puts  c7) sh_0 (by omega) rfl rfl (Nat.le_of_ble_eq_true rfl) dX9_readsHarbour_101 ?_
  refine x_aload_n (j := 0) G dX9_readsHarbour_104 rfl rfl ?_
  refine x_iload_n (j := 1) G dX9_readsHarbour_105 rfl rfl ?_
  refine x_iconst G dX9_readsHarbour_106 (by decide) ?_
  refine x_iadd G dX9_readsHarbour_107 ?_
  refine x_iload (j := 5) G dX9_readsHarbour_108 rfl ?_
  obtain ⟨s9, c9, H⟩ := bd_some H
  refine cv_982 (As := [vI (w32 (p1 + 3)), vI p5]) (rest := []) G (rX9_puts  c9) sh_0 (by omega) rfl rfl (Nat.le_of_ble_eq_true rfl) dX9_readsHarbour_110 ?_
  refine x_aload_n (j := 0) G dX9_readsHarbour_113 rfl rfl ?_
  refine x_sipush G dX9_readsHarbour_114 (by decide) (by decide) ?_
  refine x_aload_n (j := 0) G dX9_readsHarbour_117 rfl rfl ?_
  refine x_sipush G dX9_readsHarbour_118 (by decide) (by decide) ?_
  obtain ⟨r10, s11, c11, H⟩ := b2_some H
  refine cv_974 (As := [vI 183]) (rest := [vI 183, vR 0]) G (rX9_draft  c11) sh_0 (by omega) rfl rfl (Nat.le_of_ble_eq_true rfl) dX9_readsHarbour_121 ?_
  refine x_iconst G dX9_readsHarbour_124 (by decide) ?_
  refine x_iadd G dX9_readsHarbour_125 ?_
  obtain ⟨s13, c13, H⟩ := bd_some H
  refine cv_982 (As := [vI 183, vI (w32 (r10 + 1))]) (rest := []) G (rX9_puts  c13) sh_0 (by omega) rfl rfl (Nat.le_of_ble_eq_true rfl) dX9_readsHarbour_126 ?_
  cases H
  exact x_vret G dX9_readsHarbour_129
def fX9_readsHarbour_77  (p1 : Int) (p2 : Int) (p3 : Int) (p4 : Int) (p5 : Int) (s : Mem) : Option Mem :=
  fX9_readsHarbour_78 p1 p2 p3 p4 p5 0 s
set_option maxHeartbeats 4000000 in
theorem tX9_readsHarbour_77 {E : En} {b : Bn} {sf : Mem}  {p1 : Int} {p2 : Int} {p3 : Int} {p4 : Int} {p5 : Int} {s : Mem} (G : ab_G E b cX9_readsHarbour 6 RX9 none 2)   (H : fX9_readsHarbour_77 p1 p2 p3 p4 p5 s = some sf) : ab_X E b (ab_MQ E b none sf) 6 77 [(0, vR 0), (1, vI p1), (2, vI p2), (3, vI p3), (4, vI p4), (5, vI p5)] [vR 0] s := by
  unfold fX9_readsHarbour_77 at H
  refine x_iconst G dX9_readsHarbour_77 (by decide) ?_
  exact x_subp (ls' := [(0, vR 0), (1, vI p1), (2, vI p2), (3, vI p3), (4, vI p4), (5, vI p5)]) [0, 1, 2, 3, 4, 5] rfl (tX9_readsHarbour_78 G  H)
def fX9_readsHarbour  (s : Mem) : Option Mem :=
  b2 (fX9_draft 183 s) fun r1 s2 =>
  lt' (w32 (0 + (w32 (4 * r1)))) fun v3 =>
  b2 (fX9_number 1 99 44 s2) fun r4 s5 =>
  b2 (fX9_number 1 9 44 s5) fun r6 s7 =>
  b2 (fX9_number 1 10 44 s7) fun r8 s9 =>
  b2 (fX9_number 0 15 59 s9) fun r10 s11 =>
  if (s11 0 8) = 0 then
    fX9_readsHarbour_77 v3 r4 r6 r8 r10 s11
  else
    b2 (fX9_draft 183 s11) fun r13 s14 =>
    if 4 ≤ r13 then
      fX9_readsHarbour_77 v3 r4 r6 r8 r10 s14
    else
      fX9_readsHarbour_78 v3 r4 r6 r8 r10 1 s14
set_option maxHeartbeats 4000000 in
theorem rX9_readsHarbour {E : En} {sf : Mem}  {s : Mem}  (H : fX9_readsHarbour  s = some sf) : ab_Run E 2 yX9_readsHarbour cX9_readsHarbour 6 none [vR 0] none s sf := by
  unfold fX9_readsHarbour at H
  refine ab_intro (own := RX9) (by decide +kernel) rfl (Nat.le_of_ble_eq_true rfl) rfl (fun b G => ?_)
  refine x_iconst G dX9_readsHarbour_0 (by decide) ?_
  refine x_iconst G dX9_readsHarbour_1 (by decide) ?_
  refine x_aload_n (j := 0) G dX9_readsHarbour_2 rfl rfl ?_
  refine x_sipush G dX9_readsHarbour_3 (by decide) (by decide) ?_
  obtain ⟨r1, s2, c2, H⟩ := b2_some H
  refine cv_974 (As := [vI 183]) (rest := [vI 4, vI 0]) G (rX9_draft  c2) sh_0 (by omega) rfl rfl (Nat.le_of_ble_eq_true rfl) dX9_readsHarbour_6 ?_
  refine x_imul G dX9_readsHarbour_9 ?_
  refine x_iadd G dX9_readsHarbour_10 ?_
  refine x_let H (fun v3 hv3 H => ?_)
  refine x_istore_n (ls' := [(1, vI v3), (0, vR 0)]) G dX9_readsHarbour_11 rfl (by decide) rfl ?_
  refine x_aload_n (j := 1) G dX9_readsHarbour_12 rfl rfl ?_
  refine x_iconst G dX9_readsHarbour_13 (by decide) ?_
  refine x_bipush G dX9_readsHarbour_14 (by decide) (by decide) ?_
  refine x_bipush G dX9_readsHarbour_16 (by decide) (by decide) ?_
  obtain ⟨r4, s5, c5, H⟩ := b2_some H
  refine cv_978 (As := [vI 1, vI 99, vI 44]) (rest := []) G (rX9_number  c5) sh_0 (by omega) rfl rfl (Nat.le_of_ble_eq_true rfl) dX9_readsHarbour_18 ?_
  refine x_istore_n (ls' := [(2, vI r4), (1, vI v3), (0, vR 0)]) G dX9_readsHarbour_21 rfl (by decide) rfl ?_
  refine x_aload_n (j := 2) G dX9_readsHarbour_22 rfl rfl ?_
  refine x_iconst G dX9_readsHarbour_23 (by decide) ?_
  refine x_bipush G dX9_readsHarbour_24 (by decide) (by decide) ?_
  refine x_bipush G dX9_readsHarbour_26 (by decide) (by decide) ?_
  obtain ⟨r6, s7, c7, H⟩ := b2_some H
  refine cv_978 (As := [vI 1, vI 9, vI 44]) (rest := []) G (rX9_number  c7) sh_0 (by omega) rfl rfl (Nat.le_of_ble_eq_true rfl) dX9_readsHarbour_28 ?_
  refine x_istore_n (ls' := [(3, vI r6), (2, vI r4), (1, vI v3), (0, vR 0)]) G dX9_readsHarbour_31 rfl (by decide) rfl ?_
  refine x_aload_n (j := 3) G dX9_readsHarbour_32 rfl rfl ?_
  refine x_iconst G dX9_readsHarbour_33 (by decide) ?_
  refine x_bipush G dX9_readsHarbour_34 (by decide) (by decide) ?_
  refine x_bipush G dX9_readsHarbour_36 (by decide) (by decide) ?_
  obtain ⟨r8, s9, c9, H⟩ := b2_some H
  refine cv_978 (As := [vI 1, vI 10, vI 44]) (rest := []) G (rX9_number  c9) sh_0 (by omega) rfl rfl (Nat.le_of_ble_eq_true rfl) dX9_readsHarbour_38 ?_
  refine x_istore (ls' := [(4, vI r8), (3, vI r6), (2, vI r4), (1, vI v3), (0, vR 0)]) G dX9_readsHarbour_41 (by decide) rfl ?_
  refine x_aload_n (j := 4) G dX9_readsHarbour_43 rfl rfl ?_
  refine x_iconst G dX9_readsHarbour_44 (by decide) ?_
  refine x_bipush G dX9_readsHarbour_45 (by decide) (by decide) ?_
  refine x_bipush G dX9_readsHarbour_47 (by decide) (by decide) ?_
  obtain ⟨r10, s11, c11, H⟩ := b2_some H
  refine cv_978 (As := [vI 0, vI 15, vI 59]) (rest := []) G (rX9_number  c11) sh_0 (by omega) rfl rfl (Nat.le_of_ble_eq_true rfl) dX9_readsHarbour_49 ?_
  refine x_istore (ls' := [(5, vI r10), (4, vI r8), (3, vI r6), (2, vI r4), (1, vI v3), (0, vR 0)]) G dX9_readsHarbour_52 (by decide) rfl ?_
  refine x_aload_n (j := 5) G dX9_readsHarbour_54 rfl rfl ?_
  refine x_aload_n (j := 5) G dX9_readsHarbour_55 rfl rfl ?_
  refine gf_885 G sh_0 pt_0_8 dX9_readsHarbour_56 ?_
  refine x_if_eq (tgt := 77) G dX9_readsHarbour_59 (by decide) (fun q12 => ?_) (fun q12 => ?_)
  · have H := if_some_t H q12
    exact x_subp (ls' := [(0, vR 0), (1, vI v3), (2, vI r4), (3, vI r6), (4, vI r8), (5, vI r10)]) [5, 4, 3, 2, 1, 0] rfl (tX9_readsHarbour_77 G  H)
  · have H := if_some_f H q12
    refine x_aload_n (j := 5) G dX9_readsHarbour_62 rfl rfl ?_
    refine x_sipush G dX9_readsHarbour_63 (by decide) (by decide) ?_
    obtain ⟨r13, s14, c14, H⟩ := b2_some H
    refine cv_974 (As := [vI 183]) (rest := [vR 0]) G (rX9_draft  c14) sh_0 (by omega) rfl rfl (Nat.le_of_ble_eq_true rfl) dX9_readsHarbour_66 ?_
    refine x_iconst G dX9_readsHarbour_69 (by decide) ?_
    refine x_icmp_ge (tgt := 77) G dX9_readsHarbour_70 (by decide) (fun q15 => ?_) (fun q15 => ?_)
    · have H := if_some_t H q15
      exact x_subp (ls' := [(0, vR 0), (1, vI v3), (2, vI r4), (3, vI r6), (4, vI r8), (5, vI r10)]) [5, 4, 3, 2, 1, 0] rfl (tX9_readsHarbour_77 G  H)
    · have H := if_some_f H q15
      refine x_iconst G dX9_readsHarbour_73 (by decide) ?_
      refine x_goto (tgt := 78) G dX9_readsHarbour_74 (by decide) ?_
      exact x_subp (ls' := [(0, vR 0), (1, vI v3), (2, vI r4), (3, vI r6), (4, vI r8), (5, vI r10)]) [5, 4, 3, 2, 1, 0] rfl (tX9_readsHarbour_78 G  H)
def fX9_readsSort_91  (p1 : Int) (p2 : Int) (p3 : Int) (p4 : Int) (p5 : Int) (p6 : Int) (t1 : Int) (s : Mem) : Option Mem :=
  ck (t1 = 0 ∨ t1 = 1) <|
  lt' (mu s 0 8 t1) fun s1 =>
  (fX9_puts p1 p2 s1).bind fun s3 =>
  (fX9_puts (w32 (p1 + 1)) p3 s3).bind fun s5 =>
  (fX9_puts (w32 (p1 + 2)) p4 s5).bind fun s7 =>
  (fX9_puts (w32 (p1 + 3)) p5 s7).bind fun s9 =>
  (fX9_puts (w32 (p1 + 4)) p6 s9).bind fun s11 =>
  b2 (fX9_draft 184 s11) fun r12 s13 =>
  (fX9_puts 184 (w32 (r12 + 1)) s13).bind fun s15 =>
  some s15
set_option maxHeartbeats 4000000 in
theorem tX9_readsSort_91 {E : En} {b : Bn} {sf : Mem}  {p1 : Int} {p2 : Int} {p3 : Int} {p4 : Int} {p5 : Int} {p6 : Int} {t1 : Int} {s : Mem} (G : ab_G E b cX9_readsSort 7 RX9 none 2)   (H : fX9_readsSort_91 p1 p2 p3 p4 p5 p6 t1 s = some sf) : ab_X E b (ab_MQ E b none sf) 7 91 [(0, vR 0), (1, vI p1), (2, vI p2), (3, vI p3), (4, vI p4), (5, vI p5), (6, vI p6)] [vI t1, vR 0] s := by
  unfold fX9_readsSort_91 at H
  obtain ⟨h01, H⟩ := ck_some H
  refine pf_885 h01 G sh_0 pt_0_8 dX9_readsSort_91 H (fun s1 hs1 H => ?_)
  refine x_aload_n (j := 0) G dX9_readsSort_94 rfl rfl ?_
  refine x_iload_n (j := 1) G dX9_readsSort_95 rfl rfl ?_
  refine x_iload_n (j := 2) G dX9_readsSort_96 rfl rfl ?_
  obtain ⟨s3, c3, H⟩ := bd_some H
  refine cv_982 (As := [vI p1, vI p2]) (rest := []) G (rX9_puts  c3) sh_0 (by omega) rfl rfl (Nat.le_of_ble_eq_true rfl) dX9_readsSort_97 ?_
  refine x_aload_n (j := 0) G dX9_readsSort_100 rfl rfl ?_
  refine x_iload_n (j := 1) G dX9_readsSort_101 rfl rfl ?_
  refine x_iconst G dX9_readsSort_102 (by decide) ?_
  refine x_iadd G dX9_readsSort_103 ?_
  refine x_iload_n (j := 3) G dX9_readsSort_104 rfl rfl ?_
  obtain ⟨s5, c5, H⟩ := bd_some H
  refine cv_982 (As := [vI (w32 (p1 + 1)), vI p3]) (rest := []) G (rX9_puts  c5) sh_0 (by omega) rfl rfl (Nat.le_of_ble_eq_true rfl) dX9_readsSort_105 ?_
  refine x_aload_n (j := 0) G dX9_readsSort_108 rfl rfl ?_
  refine x_iload_n (j := 1) G dX9_readsSort_109 rfl rfl ?_
  refine x_iconst G dX9_readsSort_110 (by decide) ?_
  refine x_iadd G dX9_readsSort_111 ?_
  refine x_iload (j := 4) G dX9_readsSort_112 rfl ?_
  obtain ⟨s7, c7, H⟩ := bd_some H
  refine cv_982 (As := [vI (w32 (p1 + 2)), vI p4]) (rest := []) G (rX9_puts  c7) sh_0 (by omega) rfl rfl (Nat.le_of_ble_eq_true rfl) dX9_readsSort_114 ?_
  refine x_aload_n (j := 0) G dX9_readsSort_117 rfl rfl ?_
  refine x_iload_n (j := 1) G dX9_readsSort_118 rfl rfl ?_
  refine x_iconst G dX9_readsSort_119 (by decide) ?_
  refine x_iadd G dX9_readsSort_120 ?_
  refine x_iload (j := 5) G dX9_readsSort_121 rfl ?_
  obtain ⟨s9, c9, H⟩ := bd_some H
  refine cv_982 (As := [vI (w32 (p1 + 3)), vI p5]) (rest := []) G (rX9_puts  c9) sh_0 (by omega) rfl rfl (Nat.le_of_ble_eq_true rfl) dX9_readsSort_123 ?_
  refine x_aload_n (j := 0) G dX9_readsSort_126 rfl rfl ?_
  refine x_iload_n (j := 1) G dX9_readsSort_127 rfl rfl ?_
  refine x_iconst G dX9_readsSort_128 (by decide) ?_
  refine x_iadd G dX9_readsSort_129 ?_
  refine x_iload (j := 6) G dX9_readsSort_130 rfl ?_
  obtain ⟨s11, c11, H⟩ := bd_some H
  refine cv_982 (As := [vI (w32 (p1 + 4)), vI p6]) (rest := []) G (rX9_puts  c11) sh_0 (by omega) rfl rfl (Nat.le_of_ble_eq_true rfl) dX9_readsSort_132 ?_
  refine x_aload_n (j := 0) G dX9_readsSort_135 rfl rfl ?_
  refine x_sipush G dX9_readsSort_136 (by decide) (by decide) ?_
  refine x_aload_n (j := 0) G dX9_readsSort_139 rfl rfl ?_
  refine x_sipush G dX9_readsSort_140 (by decide) (by decide) ?_
  obtain ⟨r12, s13, c13, H⟩ := b2_some H
  refine cv_974 (As := [vI 184]) (rest := [vI 184, vR 0]) G (rX9_draft  c13) sh_0 (by omega) rfl rfl (Nat.le_of_ble_eq_true rfl) dX9_readsSort_143 ?_
  refine x_iconst G dX9_readsSort_146 (by decide) ?_
  refine x_iadd G dX9_readsSort_147 ?_
  obtain ⟨s15, c15, H⟩ := bd_some H
  refine cv_982 (As := [vI 184, vI (w32 (r12 + 1))]) (rest := []) G (rX9_puts  c15) sh_0 (by omega) rfl rfl (Nat.le_of_ble_eq_true rfl) dX9_readsSort_148 ?_
  cases H
  exact x_vret G dX9_readsSort_151
def fX9_readsSort_90  (p1 : Int) (p2 : Int) (p3 : Int) (p4 : Int) (p5 : Int) (p6 : Int) (s : Mem) : Option Mem :=
  fX9_readsSort_91 p1 p2 p3 p4 p5 p6 0 s
set_option maxHeartbeats 4000000 in
theorem tX9_readsSort_90 {E : En} {b : Bn} {sf : Mem}  {p1 : Int} {p2 : Int} {p3 : Int} {p4 : Int} {p5 : Int} {p6 : Int} {s : Mem} (G : ab_G E b cX9_readsSort 7 RX9 none 2)   (H : fX9_readsSort_90 p1 p2 p3 p4 p5 p6 s = some sf) : ab_X E b (ab_MQ E b none sf) 7 90 [(0, vR 0), (1, vI p1), (2, vI p2), (3, vI p3), (4, vI p4), (5, vI p5), (6, vI p6)] [vR 0] s := by
  unfold fX9_readsSort_90 at H
  refine x_iconst G dX9_readsSort_90 (by decide) ?_
  exact x_subp (ls' := [(0, vR 0), (1, vI p1), (2, vI p2), (3, vI p3), (4, vI p4), (5, vI p5), (6, vI p6)]) [0, 1, 2, 3, 4, 5, 6] rfl (tX9_readsSort_91 G  H)
def fX9_readsSort  (s : Mem) : Option Mem :=
  b2 (fX9_draft 184 s) fun r1 s2 =>
  lt' (w32 (16 + (w32 (5 * r1)))) fun v3 =>
  b2 (fX9_number 1 8 44 s2) fun r4 s5 =>
  b2 (fX9_number 1 9 44 s5) fun r6 s7 =>
  b2 (fX9_number 0 99 44 s7) fun r8 s9 =>
  b2 (fX9_number 0 999 44 s9) fun r10 s11 =>
  b2 (fX9_number 0 9 59 s11) fun r12 s13 =>
  if (s13 0 8) = 0 then
    fX9_readsSort_90 v3 r4 r6 r8 r10 r12 s13
  else
    b2 (fX9_draft 184 s13) fun r15 s16 =>
    if 4 ≤ r15 then
      fX9_readsSort_90 v3 r4 r6 r8 r10 r12 s16
    else
      fX9_readsSort_91 v3 r4 r6 r8 r10 r12 1 s16
set_option maxHeartbeats 4000000 in
theorem rX9_readsSort {E : En} {sf : Mem}  {s : Mem}  (H : fX9_readsSort  s = some sf) : ab_Run E 2 yX9_readsSort cX9_readsSort 7 none [vR 0] none s sf := by
  unfold fX9_readsSort at H
  refine ab_intro (own := RX9) (by decide +kernel) rfl (Nat.le_of_ble_eq_true rfl) rfl (fun b G => ?_)
  refine x_bipush G dX9_readsSort_0 (by decide) (by decide) ?_
  refine x_iconst G dX9_readsSort_2 (by decide) ?_
  refine x_aload_n (j := 0) G dX9_readsSort_3 rfl rfl ?_
  refine x_sipush G dX9_readsSort_4 (by decide) (by decide) ?_
  obtain ⟨r1, s2, c2, H⟩ := b2_some H
  refine cv_974 (As := [vI 184]) (rest := [vI 5, vI 16]) G (rX9_draft  c2) sh_0 (by omega) rfl rfl (Nat.le_of_ble_eq_true rfl) dX9_readsSort_7 ?_
  refine x_imul G dX9_readsSort_10 ?_
  refine x_iadd G dX9_readsSort_11 ?_
  refine x_let H (fun v3 hv3 H => ?_)
  refine x_istore_n (ls' := [(1, vI v3), (0, vR 0)]) G dX9_readsSort_12 rfl (by decide) rfl ?_
  refine x_aload_n (j := 1) G dX9_readsSort_13 rfl rfl ?_
  refine x_iconst G dX9_readsSort_14 (by decide) ?_
  refine x_bipush G dX9_readsSort_15 (by decide) (by decide) ?_
  refine x_bipush G dX9_readsSort_17 (by decide) (by decide) ?_
  obtain ⟨r4, s5, c5, H⟩ := b2_some H
  refine cv_978 (As := [vI 1, vI 8, vI 44]) (rest := []) G (rX9_number  c5) sh_0 (by omega) rfl rfl (Nat.le_of_ble_eq_true rfl) dX9_readsSort_19 ?_
  refine x_istore_n (ls' := [(2, vI r4), (1, vI v3), (0, vR 0)]) G dX9_readsSort_22 rfl (by decide) rfl ?_
  refine x_aload_n (j := 2) G dX9_readsSort_23 rfl rfl ?_
  refine x_iconst G dX9_readsSort_24 (by decide) ?_
  refine x_bipush G dX9_readsSort_25 (by decide) (by decide) ?_
  refine x_bipush G dX9_readsSort_27 (by decide) (by decide) ?_
  obtain ⟨r6, s7, c7, H⟩ := b2_some H
  refine cv_978 (As := [vI 1, vI 9, vI 44]) (rest := []) G (rX9_number  c7) sh_0 (by omega) rfl rfl (Nat.le_of_ble_eq_true rfl) dX9_readsSort_29 ?_
  refine x_istore_n (ls' := [(3, vI r6), (2, vI r4), (1, vI v3), (0, vR 0)]) G dX9_readsSort_32 rfl (by decide) rfl ?_
  refine x_aload_n (j := 3) G dX9_readsSort_33 rfl rfl ?_
  refine x_iconst G dX9_readsSort_34 (by decide) ?_
  refine x_bipush G dX9_readsSort_35 (by decide) (by decide) ?_
  refine x_bipush G dX9_readsSort_37 (by decide) (by decide) ?_
  obtain ⟨r8, s9, c9, H⟩ := b2_some H
  refine cv_978 (As := [vI 0, vI 99, vI 44]) (rest := []) G (rX9_number  c9) sh_0 (by omega) rfl rfl (Nat.le_of_ble_eq_true rfl) dX9_readsSort_39 ?_
  refine x_istore (ls' := [(4, vI r8), (3, vI r6), (2, vI r4), (1, vI v3), (0, vR 0)]) G dX9_readsSort_42 (by decide) rfl ?_
  refine x_aload_n (j := 4) G dX9_readsSort_44 rfl rfl ?_
  refine x_iconst G dX9_readsSort_45 (by decide) ?_
  refine x_sipush G dX9_readsSort_46 (by decide) (by decide) ?_
  refine x_bipush G dX9_readsSort_49 (by decide) (by decide) ?_
  obtain ⟨r10, s11, c11, H⟩ := b2_some H
  refine cv_978 (As := [vI 0, vI 999, vI 44]) (rest := []) G (rX9_number  c11) sh_0 (by omega) rfl rfl (Nat.le_of_ble_eq_true rfl) dX9_readsSort_51 ?_
  refine x_istore (ls' := [(5, vI r10), (4, vI r8), (3, vI r6), (2, vI r4), (1, vI v3), (0, vR 0)]) G dX9_readsSort_54 (by decide) rfl ?_
  refine x_aload_n (j := 5) G dX9_readsSort_56 rfl rfl ?_
  refine x_iconst G dX9_readsSort_57 (by decide) ?_
  refine x_bipush G dX9_readsSort_58 (by decide) (by decide) ?_
  refine x_bipush G dX9_readsSort_60 (by decide) (by decide) ?_
  obtain ⟨r12, s13, c13, H⟩ := b2_some H
  refine cv_978 (As := [vI 0, vI 9, vI 59]) (rest := []) G (rX9_number  c13) sh_0 (by omega) rfl rfl (Nat.le_of_ble_eq_true rfl) dX9_readsSort_62 ?_
  refine x_istore (ls' := [(6, vI r12), (5, vI r10), (4, vI r8), (3, vI r6), (2, vI r4), (1, vI v3), (0, vR 0)]) G dX9_readsSort_65 (by decide) rfl ?_
  refine x_aload_n (j := 6) G dX9_readsSort_67 rfl rfl ?_
  refine x_aload_n (j := 6) G dX9_readsSort_68 rfl rfl ?_
  refine gf_885 G sh_0 pt_0_8 dX9_readsSort_69 ?_
  refine x_if_eq (tgt := 90) G dX9_readsSort_72 (by decide) (fun q14 => ?_) (fun q14 => ?_)
  · have H := if_some_t H q14
    exact x_subp (ls' := [(0, vR 0), (1, vI v3), (2, vI r4), (3, vI r6), (4, vI r8), (5, vI r10), (6, vI r12)]) [6, 5, 4, 3, 2, 1, 0] rfl (tX9_readsSort_90 G  H)
  · have H := if_some_f H q14
    refine x_aload_n (j := 6) G dX9_readsSort_75 rfl rfl ?_
    refine x_sipush G dX9_readsSort_76 (by decide) (by decide) ?_
    obtain ⟨r15, s16, c16, H⟩ := b2_some H
    refine cv_974 (As := [vI 184]) (rest := [vR 0]) G (rX9_draft  c16) sh_0 (by omega) rfl rfl (Nat.le_of_ble_eq_true rfl) dX9_readsSort_79 ?_
    refine x_iconst G dX9_readsSort_82 (by decide) ?_
    refine x_icmp_ge (tgt := 90) G dX9_readsSort_83 (by decide) (fun q17 => ?_) (fun q17 => ?_)
    · have H := if_some_t H q17
      exact x_subp (ls' := [(0, vR 0), (1, vI v3), (2, vI r4), (3, vI r6), (4, vI r8), (5, vI r10), (6, vI r12)]) [6, 5, 4, 3, 2, 1, 0] rfl (tX9_readsSort_90 G  H)
    · have H := if_some_f H q17
      refine x_iconst G dX9_readsSort_86 (by decide) ?_
      refine x_goto (tgt := 91) G dX9_readsSort_87 (by decide) ?_
      exact x_subp (ls' := [(0, vR 0), (1, vI v3), (2, vI r4), (3, vI r6), (4, vI r8), (5, vI r10), (6, vI r12)]) [6, 5, 4, 3, 2, 1, 0] rfl (tX9_readsSort_91 G  H)
def fX9_readsStorm_101  (p1 : Int) (p2 : Int) (p3 : Int) (p4 : Int) (p5 : Int) (p6 : Int) (p7 : Int) (t1 : Int) (s : Mem) : Option Mem :=
  ck (t1 = 0 ∨ t1 = 1) <|
  lt' (mu s 0 8 t1) fun s1 =>
  (fX9_puts p1 p2 s1).bind fun s3 =>
  (fX9_puts (w32 (p1 + 1)) p3 s3).bind fun s5 =>
  (fX9_puts (w32 (p1 + 2)) p4 s5).bind fun s7 =>
  (fX9_puts (w32 (p1 + 3)) p5 s7).bind fun s9 =>
  (fX9_puts (w32 (p1 + 4)) p6 s9).bind fun s11 =>
  (fX9_puts (w32 (p1 + 5)) p7 s11).bind fun s13 =>
  b2 (fX9_draft 185 s13) fun r14 s15 =>
  (fX9_puts 185 (w32 (r14 + 1)) s15).bind fun s17 =>
  some s17
set_option maxHeartbeats 4000000 in
theorem tX9_readsStorm_101 {E : En} {b : Bn} {sf : Mem}  {p1 : Int} {p2 : Int} {p3 : Int} {p4 : Int} {p5 : Int} {p6 : Int} {p7 : Int} {t1 : Int} {s : Mem} (G : ab_G E b cX9_readsStorm 8 RX9 none 2)   (H : fX9_readsStorm_101 p1 p2 p3 p4 p5 p6 p7 t1 s = some sf) : ab_X E b (ab_MQ E b none sf) 8 101 [(0, vR 0), (1, vI p1), (2, vI p2), (3, vI p3), (4, vI p4), (5, vI p5), (6, vI p6), (7, vI p7)] [vI t1, vR 0] s := by
  unfold fX9_readsStorm_101 at H
  obtain ⟨h01, H⟩ := ck_some H
  refine pf_885 h01 G sh_0 pt_0_8 dX9_readsStorm_101 H (fun s1 hs1 H => ?_)
  refine x_aload_n (j := 0) G dX9_readsStorm_104 rfl rfl ?_
  refine x_iload_n (j := 1) G dX9_readsStorm_105 rfl rfl ?_
  refine x_iload_n (j := 2) G dX9_readsStorm_106 rfl rfl ?_
  obtain ⟨s3, c3, H⟩ := bd_some H
  refine cv_982 (As := [vI p1, vI p2]) (rest := []) G (rX9_puts  c3) sh_0 (by omega) rfl rfl (Nat.le_of_ble_eq_true rfl) dX9_readsStorm_107 ?_
  refine x_aload_n (j := 0) G dX9_readsStorm_110 rfl rfl ?_
  refine x_iload_n (j := 1) G dX9_readsStorm_111 rfl rfl ?_
  refine x_iconst G dX9_readsStorm_112 (by decide) ?_
  refine x_iadd G dX9_readsStorm_113 ?_
  refine x_iload_n (j := 3) G dX9_readsStorm_114 rfl rfl ?_
  obtain ⟨s5, c5, H⟩ := bd_some H
  refine cv_982 (As := [vI (w32 (p1 + 1)), vI p3]) (rest := []) G (rX9_puts  c5) sh_0 (by omega) rfl rfl (Nat.le_of_ble_eq_true rfl) dX9_readsStorm_115 ?_
  refine x_aload_n (j := 0) G dX9_readsStorm_118 rfl rfl ?_
  refine x_iload_n (j := 1) G dX9_readsStorm_119 rfl rfl ?_
  refine x_iconst G dX9_readsStorm_120 (by decide) ?_
  refine x_iadd G dX9_readsStorm_121 ?_
  refine x_iload (j := 4) G dX9_readsStorm_122 rfl ?_
  obtain ⟨s7, c7, H⟩ := bd_some H
  refine cv_982 (As := [vI (w32 (p1 + 2)), vI p4]) (rest := []) G (rX9_puts  c7) sh_0 (by omega) rfl rfl (Nat.le_of_ble_eq_true rfl) dX9_readsStorm_124 ?_
  refine x_aload_n (j := 0) G dX9_readsStorm_127 rfl rfl ?_
  refine x_iload_n (j := 1) G dX9_readsStorm_128 rfl rfl ?_
  refine x_iconst G dX9_readsStorm_129 (by decide) ?_
  refine x_iadd G dX9_readsStorm_130 ?_
  refine x_iload (j := 5) G dX9_readsStorm_131 rfl ?_
  obtain ⟨s9, c9, H⟩ := bd_some H
  refine cv_982 (As := [vI (w32 (p1 + 3)), vI p5]) (rest := []) G (rX9_puts  c9) sh_0 (by omega) rfl rfl (Nat.le_of_ble_eq_true rfl) dX9_readsStorm_133 ?_
  refine x_aload_n (j := 0) G dX9_readsStorm_136 rfl rfl ?_
  refine x_iload_n (j := 1) G dX9_readsStorm_137 rfl rfl ?_
  refine x_iconst G dX9_readsStorm_138 (by decide) ?_
  refine x_iadd G dX9_readsStorm_139 ?_
  refine x_iload (j := 6) G dX9_readsStorm_140 rfl ?_
  obtain ⟨s11, c11, H⟩ := bd_some H
  refine cv_982 (As := [vI (w32 (p1 + 4)), vI p6]) (rest := []) G (rX9_puts  c11) sh_0 (by omega) rfl rfl (Nat.le_of_ble_eq_true rfl) dX9_readsStorm_142 ?_
  refine x_aload_n (j := 0) G dX9_readsStorm_145 rfl rfl ?_
  refine x_iload_n (j := 1) G dX9_readsStorm_146 rfl rfl ?_
  refine x_iconst G dX9_readsStorm_147 (by decide) ?_
  refine x_iadd G dX9_readsStorm_148 ?_
  refine x_iload (j := 7) G dX9_readsStorm_149 rfl ?_
  obtain ⟨s13, c13, H⟩ := bd_some H
  refine cv_982 (As := [vI (w32 (p1 + 5)), vI p7]) (rest := []) G (rX9_puts  c13) sh_0 (by omega) rfl rfl (Nat.le_of_ble_eq_true rfl) dX9_readsStorm_151 ?_
  refine x_aload_n (j := 0) G dX9_readsStorm_154 rfl rfl ?_
  refine x_sipush G dX9_readsStorm_155 (by decide) (by decide) ?_
  refine x_aload_n (j := 0) G dX9_readsStorm_158 rfl rfl ?_
  refine x_sipush G dX9_readsStorm_159 (by decide) (by decide) ?_
  obtain ⟨r14, s15, c15, H⟩ := b2_some H
  refine cv_974 (As := [vI 185]) (rest := [vI 185, vR 0]) G (rX9_draft  c15) sh_0 (by omega) rfl rfl (Nat.le_of_ble_eq_true rfl) dX9_readsStorm_162 ?_
  refine x_iconst G dX9_readsStorm_165 (by decide) ?_
  refine x_iadd G dX9_readsStorm_166 ?_
  obtain ⟨s17, c17, H⟩ := bd_some H
  refine cv_982 (As := [vI 185, vI (w32 (r14 + 1))]) (rest := []) G (rX9_puts  c17) sh_0 (by omega) rfl rfl (Nat.le_of_ble_eq_true rfl) dX9_readsStorm_167 ?_
  cases H
  exact x_vret G dX9_readsStorm_170
def fX9_readsStorm_100  (p1 : Int) (p2 : Int) (p3 : Int) (p4 : Int) (p5 : Int) (p6 : Int) (p7 : Int) (s : Mem) : Option Mem :=
  fX9_readsStorm_101 p1 p2 p3 p4 p5 p6 p7 0 s
set_option maxHeartbeats 4000000 in
theorem tX9_readsStorm_100 {E : En} {b : Bn} {sf : Mem}  {p1 : Int} {p2 : Int} {p3 : Int} {p4 : Int} {p5 : Int} {p6 : Int} {p7 : Int} {s : Mem} (G : ab_G E b cX9_readsStorm 8 RX9 none 2)   (H : fX9_readsStorm_100 p1 p2 p3 p4 p5 p6 p7 s = some sf) : ab_X E b (ab_MQ E b none sf) 8 100 [(0, vR 0), (1, vI p1), (2, vI p2), (3, vI p3), (4, vI p4), (5, vI p5), (6, vI p6), (7, vI p7)] [vR 0] s := by
  unfold fX9_readsStorm_100 at H
  refine x_iconst G dX9_readsStorm_100 (by decide) ?_
  exact x_subp (ls' := [(0, vR 0), (1, vI p1), (2, vI p2), (3, vI p3), (4, vI p4), (5, vI p5), (6, vI p6), (7, vI p7)]) [0, 1, 2, 3, 4, 5, 6, 7] rfl (tX9_readsStorm_101 G  H)
def fX9_readsStorm  (s : Mem) : Option Mem :=
  b2 (fX9_draft 185 s) fun r1 s2 =>
  lt' (w32 (52 + (w32 (6 * r1)))) fun v3 =>
  b2 (fX9_number 0 10 44 s2) fun r4 s5 =>
  b2 (fX9_number 0 23 44 s5) fun r6 s7 =>
  b2 (fX9_number 1 9 44 s7) fun r8 s9 =>
  b2 (fX9_number 0 9 44 s9) fun r10 s11 =>
  b2 (fX9_number 0 24 44 s11) fun r12 s13 =>
  b2 (fX9_number 0 3 59 s13) fun r14 s15 =>
  if (s15 0 8) = 0 then
    fX9_readsStorm_100 v3 r4 r6 r8 r10 r12 r14 s15
  else
    b2 (fX9_draft 185 s15) fun r17 s18 =>
    if 4 ≤ r17 then
      fX9_readsStorm_100 v3 r4 r6 r8 r10 r12 r14 s18
    else
      fX9_readsStorm_101 v3 r4 r6 r8 r10 r12 r14 1 s18
set_option maxHeartbeats 4000000 in
theorem rX9_readsStorm {E : En} {sf : Mem}  {s : Mem}  (H : fX9_readsStorm  s = some sf) : ab_Run E 2 yX9_readsStorm cX9_readsStorm 8 none [vR 0] none s sf := by
  unfold fX9_readsStorm at H
  refine ab_intro (own := RX9) (by decide +kernel) rfl (Nat.le_of_ble_eq_true rfl) rfl (fun b G => ?_)
  refine x_bipush G dX9_readsStorm_0 (by decide) (by decide) ?_
  refine x_bipush G dX9_readsStorm_2 (by decide) (by decide) ?_
  refine x_aload_n (j := 0) G dX9_readsStorm_4 rfl rfl ?_
  refine x_sipush G dX9_readsStorm_5 (by decide) (by decide) ?_
  obtain ⟨r1, s2, c2, H⟩ := b2_some H
  refine cv_974 (As := [vI 185]) (rest := [vI 6, vI 52]) G (rX9_draft  c2) sh_0 (by omega) rfl rfl (Nat.le_of_ble_eq_true rfl) dX9_readsStorm_8 ?_
  refine x_imul G dX9_readsStorm_11 ?_
  refine x_iadd G dX9_readsStorm_12 ?_
  refine x_let H (fun v3 hv3 H => ?_)
  refine x_istore_n (ls' := [(1, vI v3), (0, vR 0)]) G dX9_readsStorm_13 rfl (by decide) rfl ?_
  refine x_aload_n (j := 1) G dX9_readsStorm_14 rfl rfl ?_
  refine x_iconst G dX9_readsStorm_15 (by decide) ?_
  refine x_bipush G dX9_readsStorm_16 (by decide) (by decide) ?_
  refine x_bipush G dX9_readsStorm_18 (by decide) (by decide) ?_
  obtain ⟨r4, s5, c5, H⟩ := b2_some H
  refine cv_978 (As := [vI 0, vI 10, vI 44]) (rest := []) G (rX9_number  c5) sh_0 (by omega) rfl rfl (Nat.le_of_ble_eq_true rfl) dX9_readsStorm_20 ?_
  refine x_istore_n (ls' := [(2, vI r4), (1, vI v3), (0, vR 0)]) G dX9_readsStorm_23 rfl (by decide) rfl ?_
  refine x_aload_n (j := 2) G dX9_readsStorm_24 rfl rfl ?_
  refine x_iconst G dX9_readsStorm_25 (by decide) ?_
  refine x_bipush G dX9_readsStorm_26 (by decide) (by decide) ?_
  refine x_bipush G dX9_readsStorm_28 (by decide) (by decide) ?_
  obtain ⟨r6, s7, c7, H⟩ := b2_some H
  refine cv_978 (As := [vI 0, vI 23, vI 44]) (rest := []) G (rX9_number  c7) sh_0 (by omega) rfl rfl (Nat.le_of_ble_eq_true rfl) dX9_readsStorm_30 ?_
  refine x_istore_n (ls' := [(3, vI r6), (2, vI r4), (1, vI v3), (0, vR 0)]) G dX9_readsStorm_33 rfl (by decide) rfl ?_
  refine x_aload_n (j := 3) G dX9_readsStorm_34 rfl rfl ?_
  refine x_iconst G dX9_readsStorm_35 (by decide) ?_
  refine x_bipush G dX9_readsStorm_36 (by decide) (by decide) ?_
  refine x_bipush G dX9_readsStorm_38 (by decide) (by decide) ?_
  obtain ⟨r8, s9, c9, H⟩ := b2_some H
  refine cv_978 (As := [vI 1, vI 9, vI 44]) (rest := []) G (rX9_number  c9) sh_0 (by omega) rfl rfl (Nat.le_of_ble_eq_true rfl) dX9_readsStorm_40 ?_
  refine x_istore (ls' := [(4, vI r8), (3, vI r6), (2, vI r4), (1, vI v3), (0, vR 0)]) G dX9_readsStorm_43 (by decide) rfl ?_
  refine x_aload_n (j := 4) G dX9_readsStorm_45 rfl rfl ?_
  refine x_iconst G dX9_readsStorm_46 (by decide) ?_
  refine x_bipush G dX9_readsStorm_47 (by decide) (by decide) ?_
  refine x_bipush G dX9_readsStorm_49 (by decide) (by decide) ?_
  obtain ⟨r10, s11, c11, H⟩ := b2_some H
  refine cv_978 (As := [vI 0, vI 9, vI 44]) (rest := []) G (rX9_number  c11) sh_0 (by omega) rfl rfl (Nat.le_of_ble_eq_true rfl) dX9_readsStorm_51 ?_
  refine x_istore (ls' := [(5, vI r10), (4, vI r8), (3, vI r6), (2, vI r4), (1, vI v3), (0, vR 0)]) G dX9_readsStorm_54 (by decide) rfl ?_
  refine x_aload_n (j := 5) G dX9_readsStorm_56 rfl rfl ?_
  refine x_iconst G dX9_readsStorm_57 (by decide) ?_
  refine x_bipush G dX9_readsStorm_58 (by decide) (by decide) ?_
  refine x_bipush G dX9_readsStorm_60 (by decide) (by decide) ?_
  obtain ⟨r12, s13, c13, H⟩ := b2_some H
  refine cv_978 (As := [vI 0, vI 24, vI 44]) (rest := []) G (rX9_number  c13) sh_0 (by omega) rfl rfl (Nat.le_of_ble_eq_true rfl) dX9_readsStorm_62 ?_
  refine x_istore (ls' := [(6, vI r12), (5, vI r10), (4, vI r8), (3, vI r6), (2, vI r4), (1, vI v3), (0, vR 0)]) G dX9_readsStorm_65 (by decide) rfl ?_
  refine x_aload_n (j := 6) G dX9_readsStorm_67 rfl rfl ?_
  refine x_iconst G dX9_readsStorm_68 (by decide) ?_
  refine x_iconst G dX9_readsStorm_69 (by decide) ?_
  refine x_bipush G dX9_readsStorm_70 (by decide) (by decide) ?_
  obtain ⟨r14, s15, c15, H⟩ := b2_some H
  refine cv_978 (As := [vI 0, vI 3, vI 59]) (rest := []) G (rX9_number  c15) sh_0 (by omega) rfl rfl (Nat.le_of_ble_eq_true rfl) dX9_readsStorm_72 ?_
  refine x_istore (ls' := [(7, vI r14), (6, vI r12), (5, vI r10), (4, vI r8), (3, vI r6), (2, vI r4), (1, vI v3), (0, vR 0)]) G dX9_readsStorm_75 (by decide) rfl ?_
  refine x_aload_n (j := 7) G dX9_readsStorm_77 rfl rfl ?_
  refine x_aload_n (j := 7) G dX9_readsStorm_78 rfl rfl ?_
  refine gf_885 G sh_0 pt_0_8 dX9_readsStorm_79 ?_
  refine x_if_eq (tgt := 100) G dX9_readsStorm_82 (by decide) (fun q16 => ?_) (fun q16 => ?_)
  · have H := if_some_t H q16
    exact x_subp (ls' := [(0, vR 0), (1, vI v3), (2, vI r4), (3, vI r6), (4, vI r8), (5, vI r10), (6, vI r12), (7, vI r14)]) [7, 6, 5, 4, 3, 2, 1, 0] rfl (tX9_readsStorm_100 G  H)
  · have H := if_some_f H q16
    refine x_aload_n (j := 7) G dX9_readsStorm_85 rfl rfl ?_
    refine x_sipush G dX9_readsStorm_86 (by decide) (by decide) ?_
    obtain ⟨r17, s18, c18, H⟩ := b2_some H
    refine cv_974 (As := [vI 185]) (rest := [vR 0]) G (rX9_draft  c18) sh_0 (by omega) rfl rfl (Nat.le_of_ble_eq_true rfl) dX9_readsStorm_89 ?_
    refine x_iconst G dX9_readsStorm_92 (by decide) ?_
    refine x_icmp_ge (tgt := 100) G dX9_readsStorm_93 (by decide) (fun q19 => ?_) (fun q19 => ?_)
    · have H := if_some_t H q19
      exact x_subp (ls' := [(0, vR 0), (1, vI v3), (2, vI r4), (3, vI r6), (4, vI r8), (5, vI r10), (6, vI r12), (7, vI r14)]) [7, 6, 5, 4, 3, 2, 1, 0] rfl (tX9_readsStorm_100 G  H)
    · have H := if_some_f H q19
      refine x_iconst G dX9_readsStorm_96 (by decide) ?_
      refine x_goto (tgt := 101) G dX9_readsStorm_97 (by decide) ?_
      exact x_subp (ls' := [(0, vR 0), (1, vI v3), (2, vI r4), (3, vI r6), (4, vI r8), (5, vI r10), (6, vI r12), (7, vI r14)]) [7, 6, 5, 4, 3, 2, 1, 0] rfl (tX9_readsStorm_101 G  H)

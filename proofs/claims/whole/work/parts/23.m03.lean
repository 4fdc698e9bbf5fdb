def fX5_reckonArrivals_26 (k14 : Int → Int → Nat → Int → Mem → Option Mem) : Nat → Int → Int → Nat → Int → Int → Mem → Option Mem
  | 0, _, _, _, _, _, _ => none
  | n + 1, p1, p2, p3, p4, p5, s =>
  if 24 ≤ p5 then
    lt' (w32 (p4 + 1)) fun v2 =>
    k14 p1 p2 p3 v2 s
  else
    (rdG 27 p2).bind fun x3 =>
    (rdI s x3 1).bind fun x4 =>
    (rdG 37 p2).bind fun x5 =>
    (rdI s x5 p4).bind fun x6 =>
    b2 (fX5_arrivalAt x4 x6 p1 p5 s) fun r7 s8 =>
    (wrI s8 p3 (w32 ((w32 (p4 * 24)) + p5)) r7).bind fun s9 =>
    lt' (w32 (p5 + 1)) fun v10 =>
    fX5_reckonArrivals_26 k14 n p1 p2 p3 p4 v10 s9
set_option maxHeartbeats 4000000 in
theorem tX5_reckonArrivals_26 {E : En} {b : Bn} {sf : Mem} {k14 : Int → Int → Nat → Int → Mem → Option Mem} (G : ab_G E b cX5_reckonArrivals 6 RX5 none 2) (K14 : ∀ {p1 : Int} {p2 : Int} {p3 : Nat} {p4 : Int} {s : Mem},  k14 p1 p2 p3 p4 s = some sf → ab_X E b (ab_MQ E b none sf) 6 14 [(0, vR 21), (1, vI p1), (2, vI p2), (3, vR p3), (4, vI p4)] [] s) : ∀ (n : Nat) {p1 : Int} {p2 : Int} {p3 : Nat} {p4 : Int} {p5 : Int} {s : Mem}, fX5_reckonArrivals_26 k14 n p1 p2 p3 p4 p5 s = some sf → ab_X E b (ab_MQ E b none sf) 6 26 [(0, vR 21), (1, vI p1), (2, vI p2), (3, vR p3), (4, vI p4), (5, vI p5)] [] s := by
  intro n
  induction n with
  | zero => intro p1 p2 p3 p4 p5 s H; rw [fX5_reckonArrivals_26] at H; cases H
  | succ n ih =>
    intro p1 p2 p3 p4 p5 s H
    rw [fX5_reckonArrivals_26] at H
    refine x_iload (j := 5) G dX5_reckonArrivals_26 rfl ?_
    refine x_bipush G dX5_reckonArrivals_28 (by decide) (by decide) ?_
    refine x_icmp_ge (tgt := 73) G dX5_reckonArrivals_30 (by decide) (fun q1 => ?_) (fun q1 => ?_)
    · have H := if_some_t H q1
      refine x_iincL (j := 4) G dX5_reckonArrivals_73 rfl (by decide) H (fun v2 hv2 H => x_ls (ls' := [(4, vI v2), (0, vR 21), (1, vI p1), (2, vI p2), (3, vR p3), (5, vI p5)]) rfl ?_)
      refine x_goto (tgt := 14) G dX5_reckonArrivals_76 (by decide) ?_
      exact x_subp (ls' := [(0, vR 21), (1, vI p1), (2, vI p2), (3, vR p3), (4, vI v2)]) [1, 2, 3, 4, 0] rfl (K14 H)
    · have H := if_some_f H q1
      refine x_aload_n (j := 3) G dX5_reckonArrivals_33 rfl rfl ?_
      refine x_iload (j := 4) G dX5_reckonArrivals_34 rfl ?_
      refine x_bipush G dX5_reckonArrivals_36 (by decide) (by decide) ?_
      refine x_imul G dX5_reckonArrivals_38 ?_
      refine x_iload (j := 5) G dX5_reckonArrivals_39 rfl ?_
      refine x_iadd G dX5_reckonArrivals_41 ?_
      refine x_aload_n (j := 0) G dX5_reckonArrivals_42 rfl rfl ?_
      refine x_aload_n (j := 0) G dX5_reckonArrivals_43 rfl rfl ?_
      refine gf_153 G sh_21 pt_21_4 dX5_reckonArrivals_44 ?_
      refine x_iload_n (j := 2) G dX5_reckonArrivals_47 rfl rfl ?_
      refine x_aald G dX5_reckonArrivals_48 H (fun g0 g1 x3 hx3 H => ?_)
      refine x_iconst G dX5_reckonArrivals_49 (by decide) ?_
      refine x_iald G dX5_reckonArrivals_50 H (fun x4 hx4 H => ?_)
      refine x_aload_n (j := 0) G dX5_reckonArrivals_51 rfl rfl ?_
      refine gf_163 G sh_21 pt_21_6 dX5_reckonArrivals_52 ?_
      refine x_iload_n (j := 2) G dX5_reckonArrivals_55 rfl rfl ?_
      refine x_aald G dX5_reckonArrivals_56 H (fun g0 g1 x5 hx5 H => ?_)
      refine x_iload (j := 4) G dX5_reckonArrivals_57 rfl ?_
      refine x_iald G dX5_reckonArrivals_59 H (fun x6 hx6 H => ?_)
      refine x_iload_n (j := 1) G dX5_reckonArrivals_60 rfl rfl ?_
      refine x_iload (j := 5) G dX5_reckonArrivals_61 rfl ?_
      obtain ⟨r7, s8, c8, H⟩ := b2_some H
      refine cv_483 (As := [vI x4, vI x6, vI p1, vI p5]) (rest := [vI (w32 ((w32 (p4 * 24)) + p5)), vR p3]) G (rX5_arrivalAt  c8) sh_21 (by omega) rfl rfl (Nat.le_of_ble_eq_true rfl) dX5_reckonArrivals_63 ?_
      refine x_iast G dX5_reckonArrivals_66 H (fun s9 hs9 H => ?_)
      refine x_iincL (j := 5) G dX5_reckonArrivals_67 rfl (by decide) H (fun v10 hv10 H => x_ls (ls' := [(5, vI v10), (0, vR 21), (1, vI p1), (2, vI p2), (3, vR p3), (4, vI p4)]) rfl ?_)
      refine x_goto (tgt := 26) G dX5_reckonArrivals_70 (by decide) ?_
      exact x_subp (ls' := [(0, vR 21), (1, vI p1), (2, vI p2), (3, vR p3), (4, vI p4), (5, vI v10)]) [1, 2, 3, 4, 5, 0] rfl (ih H)
def fX5_reckonArrivals_14  : Nat → Int → Int → Nat → Int → Mem → Option Mem
  | 0, _, _, _, _, _ => none
  | n + 1, p1, p2, p3, p4, s =>
  if (s 21 0) ≤ p4 then
    some s
  else
    fX5_reckonArrivals_26 (fun p1 p2 p3 p4 s => fX5_reckonArrivals_14 n p1 p2 p3 p4 s) 600 p1 p2 p3 p4 0 s
set_option maxHeartbeats 4000000 in
theorem tX5_reckonArrivals_14 {E : En} {b : Bn} {sf : Mem}  (G : ab_G E b cX5_reckonArrivals 6 RX5 none 2)  : ∀ (n : Nat) {p1 : Int} {p2 : Int} {p3 : Nat} {p4 : Int} {s : Mem}, fX5_reckonArrivals_14 n p1 p2 p3 p4 s = some sf → ab_X E b (ab_MQ E b none sf) 6 14 [(0, vR 21), (1, vI p1), (2, vI p2), (3, vR p3), (4, vI p4)] [] s := by
  intro n
  induction n with
  | zero => intro p1 p2 p3 p4 s H; rw [fX5_reckonArrivals_14] at H; cases H
  | succ n ih =>
    intro p1 p2 p3 p4 s H
    rw [fX5_reckonArrivals_14] at H
    refine x_iload (j := 4) G dX5_reckonArrivals_14 rfl ?_
    refine x_aload_n (j := 0) G dX5_reckonArrivals_16 rfl rfl ?_
    refine gf_136 G sh_21 pt_21_0 dX5_reckonArrivals_17 ?_
    refine x_icmp_ge (tgt := 79) G dX5_reckonArrivals_20 (by decide) (fun q1 => ?_) (fun q1 => ?_)
    · have H := if_some_t H q1
      cases H
      exact x_vret G dX5_reckonArrivals_79
    · have H := if_some_f H q1
      refine x_iconst G dX5_reckonArrivals_23 (by decide) ?_
      refine x_istore (ls' := [(5, vI 0), (0, vR 21), (1, vI p1), (2, vI p2), (3, vR p3), (4, vI p4)]) G dX5_reckonArrivals_24 (by decide) rfl ?_
      exact x_subp (ls' := [(0, vR 21), (1, vI p1), (2, vI p2), (3, vR p3), (4, vI p4), (5, vI 0)]) [1, 2, 3, 4, 5, 0] rfl (tX5_reckonArrivals_26 G ih 600 H)
def fX5_reckonArrivals (a1 : Int) (a2 : Int) (s : Mem) : Option Mem :=
  (rdG 92 (w32 ((w32 (a1 * 4)) + a2))).bind fun x1 =>
  fX5_reckonArrivals_14 600 a1 a2 x1 0 s
set_option maxHeartbeats 4000000 in
theorem rX5_reckonArrivals {E : En} {sf : Mem} {a1 : Int} {a2 : Int} {s : Mem}  (H : fX5_reckonArrivals a1 a2 s = some sf) : ab_Run E 2 yX5_reckonArrivals cX5_reckonArrivals 6 none [vR 21, vI a1, vI a2] none s sf := by
  unfold fX5_reckonArrivals at H
  refine ab_intro (own := RX5) (by decide +kernel) rfl (Nat.le_of_ble_eq_true rfl) rfl (fun b G => ?_)
  refine x_aload_n (j := 0) G dX5_reckonArrivals_0 rfl rfl ?_
  refine gf_176 G sh_21 pt_21_14 dX5_reckonArrivals_1 ?_
  refine x_iload_n (j := 1) G dX5_reckonArrivals_4 rfl rfl ?_
  refine x_iconst G dX5_reckonArrivals_5 (by decide) ?_
  refine x_imul G dX5_reckonArrivals_6 ?_
  refine x_iload_n (j := 2) G dX5_reckonArrivals_7 rfl rfl ?_
  refine x_iadd G dX5_reckonArrivals_8 ?_
  refine x_aald G dX5_reckonArrivals_9 H (fun g0 g1 x1 hx1 H => ?_)
  refine x_astore_n (ls' := [(3, vR x1), (0, vR 21), (1, vI a1), (2, vI a2)]) G dX5_reckonArrivals_10 rfl (by decide) rfl ?_
  refine x_iconst G dX5_reckonArrivals_11 (by decide) ?_
  refine x_istore (ls' := [(4, vI 0), (3, vR x1), (0, vR 21), (1, vI a1), (2, vI a2)]) G dX5_reckonArrivals_12 (by decide) rfl ?_
  exact x_subp (ls' := [(0, vR 21), (1, vI a1), (2, vI a2), (3, vR x1), (4, vI 0)]) [2, 3, 4, 1, 0] rfl (tX5_reckonArrivals_14 G 600 H)
def fX5_reckon_74 (k2 : Int → Mem → Option Mem) : Nat → Int → Int → Mem → Option Mem
  | 0, _, _, _ => none
  | n + 1, p1, p2, s =>
  if (s 21 1) ≤ p2 then
    lt' (w32 (p1 + 1)) fun v2 =>
    k2 v2 s
  else
    (fX5_reckonBank p1 p2 s).bind fun s4 =>
    (fX5_reckonArrivals p1 p2 s4).bind fun s6 =>
    lt' (w32 (p2 + 1)) fun v7 =>
    fX5_reckon_74 k2 n p1 v7 s6
set_option maxHeartbeats 4000000 in
theorem tX5_reckon_74 {E : En} {b : Bn} {sf : Mem} {k2 : Int → Mem → Option Mem} (G : ab_G E b cX5_reckon 3 RX5 none 3) (K2 : ∀ {p1 : Int} {s : Mem},  k2 p1 s = some sf → ab_X E b (ab_MQ E b none sf) 3 2 [(0, vR 21), (1, vI p1)] [] s) : ∀ (n : Nat) {p1 : Int} {p2 : Int} {s : Mem}, fX5_reckon_74 k2 n p1 p2 s = some sf → ab_X E b (ab_MQ E b none sf) 3 74 [(0, vR 21), (1, vI p1), (2, vI p2)] [] s := by
  intro n
  induction n with
  | zero => intro p1 p2 s H; rw [fX5_reckon_74] at H; cases H
  | succ n ih =>
    intro p1 p2 s H
    rw [fX5_reckon_74] at H
    refine x_iload_n (j := 2) G dX5_reckon_74 rfl rfl ?_
    refine x_aload_n (j := 0) G dX5_reckon_75 rfl rfl ?_
    refine gf_142 G sh_21 pt_21_1 dX5_reckon_76 ?_
    refine x_icmp_ge (tgt := 100) G dX5_reckon_79 (by decide) (fun q1 => ?_) (fun q1 => ?_)
    · have H := if_some_t H q1
      refine x_iincL (j := 1) G dX5_reckon_100 rfl (by decide) H (fun v2 hv2 H => x_ls (ls' := [(1, vI v2), (0, vR 21), (2, vI p2)]) rfl ?_)
      refine x_goto (tgt := 2) G dX5_reckon_103 (by decide) ?_
      exact x_subp (ls' := [(0, vR 21), (1, vI v2)]) [1, 0] rfl (K2 H)
    · have H := if_some_f H q1
      refine x_aload_n (j := 0) G dX5_reckon_82 rfl rfl ?_
      refine x_iload_n (j := 1) G dX5_reckon_83 rfl rfl ?_
      refine x_iload_n (j := 2) G dX5_reckon_84 rfl rfl ?_
      obtain ⟨s4, c4, H⟩ := bd_some H
      refine cv_470 (As := [vI p1, vI p2]) (rest := []) G (rX5_reckonBank  c4) sh_21 (by omega) rfl rfl (Nat.le_of_ble_eq_true rfl) dX5_reckon_85 ?_
      refine x_aload_n (j := 0) G dX5_reckon_88 rfl rfl ?_
      refine x_iload_n (j := 1) G dX5_reckon_89 rfl rfl ?_
      refine x_iload_n (j := 2) G dX5_reckon_90 rfl rfl ?_
      obtain ⟨s6, c6, H⟩ := bd_some H
      refine cv_479 (As := [vI p1, vI p2]) (rest := []) G (rX5_reckonArrivals  c6) sh_21 (by omega) rfl rfl (Nat.le_of_ble_eq_true rfl) dX5_reckon_91 ?_
      refine x_iincL (j := 2) G dX5_reckon_94 rfl (by decide) H (fun v7 hv7 H => x_ls (ls' := [(2, vI v7), (0, vR 21), (1, vI p1)]) rfl ?_)
      refine x_goto (tgt := 74) G dX5_reckon_97 (by decide) ?_
      exact x_subp (ls' := [(0, vR 21), (1, vI p1), (2, vI v7)]) [1, 2, 0] rfl (ih H)
def fX5_reckon_44 (k2 : Int → Mem → Option Mem) : Nat → Int → Int → Mem → Option Mem
  | 0, _, _, _ => none
  | n + 1, p1, p2, s =>
  if (s 21 0) ≤ p2 then
    fX5_reckon_74 k2 600 p1 0 s
  else
    (rdG 53 p2).bind fun x2 =>
    b2 (fX5_openHoursOf p2 p1 s) fun r3 s4 =>
    (wrI s4 x2 p1 r3).bind fun s5 =>
    lt' (w32 (p2 + 1)) fun v6 =>
    fX5_reckon_44 k2 n p1 v6 s5
set_option maxHeartbeats 4000000 in
theorem tX5_reckon_44 {E : En} {b : Bn} {sf : Mem} {k2 : Int → Mem → Option Mem} (G : ab_G E b cX5_reckon 3 RX5 none 3) (K2 : ∀ {p1 : Int} {s : Mem},  k2 p1 s = some sf → ab_X E b (ab_MQ E b none sf) 3 2 [(0, vR 21), (1, vI p1)] [] s) : ∀ (n : Nat) {p1 : Int} {p2 : Int} {s : Mem}, fX5_reckon_44 k2 n p1 p2 s = some sf → ab_X E b (ab_MQ E b none sf) 3 44 [(0, vR 21), (1, vI p1), (2, vI p2)] [] s := by
  intro n
  induction n with
  | zero => intro p1 p2 s H; rw [fX5_reckon_44] at H; cases H
  | succ n ih =>
    intro p1 p2 s H
    rw [fX5_reckon_44] at H
    refine x_iload_n (j := 2) G dX5_reckon_44 rfl rfl ?_
    refine x_aload_n (j := 0) G dX5_reckon_45 rfl rfl ?_
    refine gf_136 G sh_21 pt_21_0 dX5_reckon_46 ?_
    refine x_icmp_ge (tgt := 72) G dX5_reckon_49 (by decide) (fun q1 => ?_) (fun q1 => ?_)
    · have H := if_some_t H q1
      refine x_iconst G dX5_reckon_72 (by decide) ?_
      refine x_istore_n (ls' := [(2, vI 0), (0, vR 21), (1, vI p1)]) G dX5_reckon_73 rfl (by decide) rfl ?_
      exact x_subp (ls' := [(0, vR 21), (1, vI p1), (2, vI 0)]) [1, 2, 0] rfl (tX5_reckon_74 G K2 600 H)
    · have H := if_some_f H q1
      refine x_aload_n (j := 0) G dX5_reckon_52 rfl rfl ?_
      refine gf_173 G sh_21 pt_21_11 dX5_reckon_53 ?_
      refine x_iload_n (j := 2) G dX5_reckon_56 rfl rfl ?_
      refine x_aald G dX5_reckon_57 H (fun g0 g1 x2 hx2 H => ?_)
      refine x_iload_n (j := 1) G dX5_reckon_58 rfl rfl ?_
      refine x_aload_n (j := 0) G dX5_reckon_59 rfl rfl ?_
      refine x_iload_n (j := 2) G dX5_reckon_60 rfl rfl ?_
      refine x_iload_n (j := 1) G dX5_reckon_61 rfl rfl ?_
      obtain ⟨r3, s4, c4, H⟩ := b2_some H
      refine cv_466 (As := [vI p2, vI p1]) (rest := [vI p1, vR x2]) G (rX5_openHoursOf  c4) sh_21 (by omega) rfl rfl (Nat.le_of_ble_eq_true rfl) dX5_reckon_62 ?_
      refine x_iast G dX5_reckon_65 H (fun s5 hs5 H => ?_)
      refine x_iincL (j := 2) G dX5_reckon_66 rfl (by decide) H (fun v6 hv6 H => x_ls (ls' := [(2, vI v6), (0, vR 21), (1, vI p1)]) rfl ?_)
      refine x_goto (tgt := 44) G dX5_reckon_69 (by decide) ?_
      exact x_subp (ls' := [(0, vR 21), (1, vI p1), (2, vI v6)]) [1, 2, 0] rfl (ih H)
def fX5_reckon_12 (k2 : Int → Mem → Option Mem) : Nat → Int → Int → Mem → Option Mem
  | 0, _, _, _ => none
  | n + 1, p1, p2, s =>
  if 24 ≤ p2 then
    fX5_reckon_44 k2 600 p1 0 s
  else
    (rdG 48 p1).bind fun x2 =>
    (rdG 32 p1).bind fun x3 =>
    b2 (fX5_strengthOf x3 p2 s) fun r4 s5 =>
    (wrI s5 x2 p2 r4).bind fun s6 =>
    lt' (w32 (p2 + 1)) fun v7 =>
    fX5_reckon_12 k2 n p1 v7 s6
set_option maxHeartbeats 4000000 in
theorem tX5_reckon_12 {E : En} {b : Bn} {sf : Mem} {k2 : Int → Mem → Option Mem} (G : ab_G E b cX5_reckon 3 RX5 none 3) (K2 : ∀ {p1 : Int} {s : Mem},  k2 p1 s = some sf → ab_X E b (ab_MQ E b none sf) 3 2 [(0, vR 21), (1, vI p1)] [] s) : ∀ (n : Nat) {p1 : Int} {p2 : Int} {s : Mem}, fX5_reckon_12 k2 n p1 p2 s = some sf → ab_X E b (ab_MQ E b none sf) 3 12 [(0, vR 21), (1, vI p1), (2, vI p2)] [] s := by
  intro n
  induction n with
  | zero => intro p1 p2 s H; rw [fX5_reckon_12] at H; cases H
  | succ n ih =>
    intro p1 p2 s H
    rw [fX5_reckon_12] at H
    refine x_iload_n (j := 2) G dX5_reckon_12 rfl rfl ?_
    refine x_bipush G dX5_reckon_13 (by decide) (by decide) ?_
    refine x_icmp_ge (tgt := 42) G dX5_reckon_15 (by decide) (fun q1 => ?_) (fun q1 => ?_)
    · have H := if_some_t H q1
      refine x_iconst G dX5_reckon_42 (by decide) ?_
      refine x_istore_n (ls' := [(2, vI 0), (0, vR 21), (1, vI p1)]) G dX5_reckon_43 rfl (by decide) rfl ?_
      exact x_subp (ls' := [(0, vR 21), (1, vI p1), (2, vI 0)]) [1, 2, 0] rfl (tX5_reckon_44 G K2 600 H)
    · have H := if_some_f H q1
      refine x_aload_n (j := 0) G dX5_reckon_18 rfl rfl ?_
      refine gf_171 G sh_21 pt_21_10 dX5_reckon_19 ?_
      refine x_iload_n (j := 1) G dX5_reckon_22 rfl rfl ?_
      refine x_aald G dX5_reckon_23 H (fun g0 g1 x2 hx2 H => ?_)
      refine x_iload_n (j := 2) G dX5_reckon_24 rfl rfl ?_
      refine x_aload_n (j := 0) G dX5_reckon_25 rfl rfl ?_
      refine gf_158 G sh_21 pt_21_5 dX5_reckon_26 ?_
      refine x_iload_n (j := 1) G dX5_reckon_29 rfl rfl ?_
      refine x_aald G dX5_reckon_30 H (fun g0 g1 x3 hx3 H => ?_)
      refine x_iload_n (j := 2) G dX5_reckon_31 rfl rfl ?_
      obtain ⟨r4, s5, c5, H⟩ := b2_some H
      refine cs_460 (As := [vR x3, vI p2]) (rest := [vI p2, vR x2]) G (rX5_strengthOf  c5) (by omega) rfl rfl (Nat.le_of_ble_eq_true rfl) dX5_reckon_32 ?_
      refine x_iast G dX5_reckon_35 H (fun s6 hs6 H => ?_)
      refine x_iincL (j := 2) G dX5_reckon_36 rfl (by decide) H (fun v7 hv7 H => x_ls (ls' := [(2, vI v7), (0, vR 21), (1, vI p1)]) rfl ?_)
      refine x_goto (tgt := 12) G dX5_reckon_39 (by decide) ?_
      exact x_subp (ls' := [(0, vR 21), (1, vI p1), (2, vI v7)]) [1, 2, 0] rfl (ih H)
def fX5_reckon_2  : Nat → Int → Mem → Option Mem
  | 0, _, _ => none
  | n + 1, p1, s =>
  if (s 21 2) ≤ p1 then
    some s
  else
    fX5_reckon_12 (fun p1 s => fX5_reckon_2 n p1 s) 600 p1 0 s
set_option maxHeartbeats 4000000 in
theorem tX5_reckon_2 {E : En} {b : Bn} {sf : Mem}  (G : ab_G E b cX5_reckon 3 RX5 none 3)  : ∀ (n : Nat) {p1 : Int} {s : Mem}, fX5_reckon_2 n p1 s = some sf → ab_X E b (ab_MQ E b none sf) 3 2 [(0, vR 21), (1, vI p1)] [] s := by
  intro n
  induction n with
  | zero => intro p1 s H; rw [fX5_reckon_2] at H; cases H
  | succ n ih =>
    intro p1 s H
    rw [fX5_reckon_2] at H
    refine x_iload_n (j := 1) G dX5_reckon_2 rfl rfl ?_
    refine x_aload_n (j := 0) G dX5_reckon_3 rfl rfl ?_
    refine gf_146 G sh_21 pt_21_2 dX5_reckon_4 ?_
    refine x_icmp_ge (tgt := 106) G dX5_reckon_7 (by decide) (fun q1 => ?_) (fun q1 => ?_)
    · have H := if_some_t H q1
      cases H
      exact x_vret G dX5_reckon_106
    · have H := if_some_f H q1
      refine x_iconst G dX5_reckon_10 (by decide) ?_
      refine x_istore_n (ls' := [(2, vI 0), (0, vR 21), (1, vI p1)]) G dX5_reckon_11 rfl (by decide) rfl ?_
      exact x_subp (ls' := [(0, vR 21), (1, vI p1), (2, vI 0)]) [1, 2, 0] rfl (tX5_reckon_12 G ih 600 H)
def fX5_reckon  (s : Mem) : Option Mem :=
  fX5_reckon_2 600 0 s
set_option maxHeartbeats 4000000 in
theorem rX5_reckon {E : En} {sf : Mem}  {s : Mem}  (H : fX5_reckon  s = some sf) : ab_Run E 3 yX5_reckon cX5_reckon 3 none [vR 21] none s sf := by
  unfold fX5_reckon at H
  refine ab_intro (own := RX5) (by decide +kernel) rfl (Nat.le_of_ble_eq_true rfl) rfl (fun b G => ?_)
  refine x_iconst G dX5_reckon_0 (by decide) ?_
  refine x_istore_n (ls' := [(1, vI 0), (0, vR 21)]) G dX5_reckon_1 rfl (by decide) rfl ?_
  exact x_subp (ls' := [(0, vR 21), (1, vI 0)]) [1, 0] rfl (tX5_reckon_2 G 600 H)
def fX5_leastSpeed_5  : Nat → Int → Int → Int → Mem → Option (Int × Mem)
  | 0, _, _, _, _ => none
  | n + 1, p1, p2, p3, s =>
  if (s 21 1) ≤ p3 then
    some (p2, s)
  else
    if (andI (shrI p1 p3) 1) = 0 then
      lt' (w32 (p3 + 1)) fun v3 =>
      fX5_leastSpeed_5 n p1 p2 v3 s
    else
      (rdG 27 p3).bind fun x4 =>
      (rdI s x4 1).bind fun x5 =>
      lt' (imin p2 x5) fun v6 =>
      lt' (w32 (p3 + 1)) fun v7 =>
      fX5_leastSpeed_5 n p1 v6 v7 s
set_option maxHeartbeats 4000000 in
theorem tX5_leastSpeed_5 {E : En} {b : Bn} {xf : Int} {sf : Mem}  (G : ab_G E b cX5_leastSpeed 4 RX5 (some .int) 1)  : ∀ (n : Nat) {p1 : Int} {p2 : Int} {p3 : Int} {s : Mem}, fX5_leastSpeed_5 n p1 p2 p3 s = some (xf, sf) → ab_X E b (ab_MQ E b (some (vI xf)) sf) 4 5 [(0, vR 21), (1, vI p1), (2, vI p2), (3, vI p3)] [] s := by
  intro n
  induction n with
  | zero => intro p1 p2 p3 s H; rw [fX5_leastSpeed_5] at H; cases H
  | succ n ih =>
    intro p1 p2 p3 s H
    rw [fX5_leastSpeed_5] at H
    refine x_iload_n (j := 3) G dX5_leastSpeed_5 rfl rfl ?_
    refine x_aload_n (j := 0) G dX5_leastSpeed_6 rfl rfl ?_
    refine gf_142 G sh_21 pt_21_1 dX5_leastSpeed_7 ?_
    refine x_icmp_ge (tgt := 40) G dX5_leastSpeed_10 (by decide) (fun q1 => ?_) (fun q1 => ?_)
    · have H := if_some_t H q1
      refine x_iload_n (j := 2) G dX5_leastSpeed_40 rfl rfl ?_
      cases H
      exact x_iret G dX5_leastSpeed_41
    · have H := if_some_f H q1
      refine x_iload_n (j := 1) G dX5_leastSpeed_13 rfl rfl ?_
      refine x_iload_n (j := 3) G dX5_leastSpeed_14 rfl rfl ?_
      refine x_ishr G dX5_leastSpeed_15 ?_
      refine x_iconst G dX5_leastSpeed_16 (by decide) ?_
      refine x_iand G dX5_leastSpeed_17 ?_
      refine x_if_eq (tgt := 34) G dX5_leastSpeed_18 (by decide) (fun q2 => ?_) (fun q2 => ?_)
      · have H := if_some_t H q2
        refine x_iincL (j := 3) G dX5_leastSpeed_34 rfl (by decide) H (fun v3 hv3 H => x_ls (ls' := [(3, vI v3), (0, vR 21), (1, vI p1), (2, vI p2)]) rfl ?_)
        refine x_goto (tgt := 5) G dX5_leastSpeed_37 (by decide) ?_
        exact x_subp (ls' := [(0, vR 21), (1, vI p1), (2, vI p2), (3, vI v3)]) [1, 2, 3, 0] rfl (ih H)
      · have H := if_some_f H q2
        refine x_iload_n (j := 2) G dX5_leastSpeed_21 rfl rfl ?_
        refine x_aload_n (j := 0) G dX5_leastSpeed_22 rfl rfl ?_
        refine gf_153 G sh_21 pt_21_4 dX5_leastSpeed_23 ?_
        refine x_iload_n (j := 3) G dX5_leastSpeed_26 rfl rfl ?_
        refine x_aald G dX5_leastSpeed_27 H (fun g0 g1 x4 hx4 H => ?_)
        refine x_iconst G dX5_leastSpeed_28 (by decide) ?_
        refine x_iald G dX5_leastSpeed_29 H (fun x5 hx5 H => ?_)
        refine cm_463 (rest := []) G (by omega) (Nat.le_of_ble_eq_true rfl) dX5_leastSpeed_30 ?_
        refine x_let H (fun v6 hv6 H => ?_)
        refine x_istore_n (ls' := [(2, vI v6), (0, vR 21), (1, vI p1), (3, vI p3)]) G dX5_leastSpeed_33 rfl (by decide) rfl ?_
        refine x_iincL (j := 3) G dX5_leastSpeed_34 rfl (by decide) H (fun v7 hv7 H => x_ls (ls' := [(3, vI v7), (2, vI v6), (0, vR 21), (1, vI p1)]) rfl ?_)
        refine x_goto (tgt := 5) G dX5_leastSpeed_37 (by decide) ?_
        exact x_subp (ls' := [(0, vR 21), (1, vI p1), (2, vI v6), (3, vI v7)]) [2, 3, 1, 0] rfl (ih H)
def fX5_leastSpeed (a1 : Int) (s : Mem) : Option (Int × Mem) :=
  fX5_leastSpeed_5 600 a1 9 0 s
set_option maxHeartbeats 4000000 in
theorem rX5_leastSpeed {E : En} {xf : Int} {sf : Mem} {a1 : Int} {s : Mem}  (H : fX5_leastSpeed a1 s = some (xf, sf)) : ab_Run E 1 yX5_leastSpeed cX5_leastSpeed 4 (some .int) [vR 21, vI a1] (some (vI xf)) s sf := by
  unfold fX5_leastSpeed at H
  refine ab_intro (own := RX5) (by decide +kernel) rfl (Nat.le_of_ble_eq_true rfl) rfl (fun b G => ?_)
  refine x_bipush G dX5_leastSpeed_0 (by decide) (by decide) ?_
  refine x_istore_n (ls' := [(2, vI 9), (0, vR 21), (1, vI a1)]) G dX5_leastSpeed_2 rfl (by decide) rfl ?_
  refine x_iconst G dX5_leastSpeed_3 (by decide) ?_
  refine x_istore_n (ls' := [(3, vI 0), (2, vI 9), (0, vR 21), (1, vI a1)]) G dX5_leastSpeed_4 rfl (by decide) rfl ?_
  exact x_subp (ls' := [(0, vR 21), (1, vI a1), (2, vI 9), (3, vI 0)]) [2, 3, 1, 0] rfl (tX5_leastSpeed_5 G 600 H)
def fX5_allBoats_4  : Nat → Int → Int → Mem → Option (Int × Mem)
  | 0, _, _, _ => none
  | n + 1, p1, p2, s =>
  if (s 21 1) ≤ p2 then
    some (p1, s)
  else
    (rdG 27 p2).bind fun x2 =>
    (rdI s x2 0).bind fun x3 =>
    lt' (w32 (p1 + x3)) fun v4 =>
    lt' (w32 (p2 + 1)) fun v5 =>
    fX5_allBoats_4 n v4 v5 s
set_option maxHeartbeats 4000000 in
theorem tX5_allBoats_4 {E : En} {b : Bn} {xf : Int} {sf : Mem}  (G : ab_G E b cX5_allBoats 3 RX5 (some .int) 0)  : ∀ (n : Nat) {p1 : Int} {p2 : Int} {s : Mem}, fX5_allBoats_4 n p1 p2 s = some (xf, sf) → ab_X E b (ab_MQ E b (some (vI xf)) sf) 3 4 [(0, vR 21), (1, vI p1), (2, vI p2)] [] s := by
  intro n
  induction n with
  | zero => intro p1 p2 s H; rw [fX5_allBoats_4] at H; cases H
  | succ n ih =>
    intro p1 p2 s H
    rw [fX5_allBoats_4] at H
    refine x_iload_n (j := 2) G dX5_allBoats_4 rfl rfl ?_
    refine x_aload_n (j := 0) G dX5_allBoats_5 rfl rfl ?_
    refine gf_142 G sh_21 pt_21_1 dX5_allBoats_6 ?_
    refine x_icmp_ge (tgt := 29) G dX5_allBoats_9 (by decide) (fun q1 => ?_) (fun q1 => ?_)
    · have H := if_some_t H q1
      refine x_iload_n (j := 1) G dX5_allBoats_29 rfl rfl ?_
      cases H
      exact x_iret G dX5_allBoats_30
    · have H := if_some_f H q1
      refine x_iload_n (j := 1) G dX5_allBoats_12 rfl rfl ?_
      refine x_aload_n (j := 0) G dX5_allBoats_13 rfl rfl ?_
      refine gf_153 G sh_21 pt_21_4 dX5_allBoats_14 ?_
      refine x_iload_n (j := 2) G dX5_allBoats_17 rfl rfl ?_
      refine x_aald G dX5_allBoats_18 H (fun g0 g1 x2 hx2 H => ?_)
      refine x_iconst G dX5_allBoats_19 (by decide) ?_
      refine x_iald G dX5_allBoats_20 H (fun x3 hx3 H => ?_)
      refine x_iadd G dX5_allBoats_21 ?_
      refine x_let H (fun v4 hv4 H => ?_)
      refine x_istore_n (ls' := [(1, vI v4), (0, vR 21), (2, vI p2)]) G dX5_allBoats_22 rfl (by decide) rfl ?_
      refine x_iincL (j := 2) G dX5_allBoats_23 rfl (by decide) H (fun v5 hv5 H => x_ls (ls' := [(2, vI v5), (1, vI v4), (0, vR 21)]) rfl ?_)
      refine x_goto (tgt := 4) G dX5_allBoats_26 (by decide) ?_
      exact x_subp (ls' := [(0, vR 21), (1, vI v4), (2, vI v5)]) [2, 1, 0] rfl (ih H)
def fX5_allBoats  (s : Mem) : Option (Int × Mem) :=
  fX5_allBoats_4 600 0 0 s
set_option maxHeartbeats 4000000 in
theorem rX5_allBoats {E : En} {xf : Int} {sf : Mem}  {s : Mem}  (H : fX5_allBoats  s = some (xf, sf)) : ab_Run E 0 yX5_allBoats cX5_allBoats 3 (some .int) [vR 21] (some (vI xf)) s sf := by
  unfold fX5_allBoats at H
  refine ab_intro (own := RX5) (by decide +kernel) rfl (Nat.le_of_ble_eq_true rfl) rfl (fun b G => ?_)
  refine x_iconst G dX5_allBoats_0 (by decide) ?_
  refine x_istore_n (ls' := [(1, vI 0), (0, vR 21)]) G dX5_allBoats_1 rfl (by decide) rfl ?_
  refine x_iconst G dX5_allBoats_2 (by decide) ?_
  refine x_istore_n (ls' := [(2, vI 0), (1, vI 0), (0, vR 21)]) G dX5_allBoats_3 rfl (by decide) rfl ?_
  exact x_subp (ls' := [(0, vR 21), (1, vI 0), (2, vI 0)]) [2, 1, 0] rfl (tX5_allBoats_4 G 600 H)
def fX5_allSorts  (s : Mem) : Option (Int × Mem) :=
  some (w32 ((shlI 1 (s 21 1)) - 1), s)
set_option maxHeartbeats 4000000 in
theorem rX5_allSorts {E : En} {xf : Int} {sf : Mem}  {s : Mem}  (H : fX5_allSorts  s = some (xf, sf)) : ab_Run E 0 yX5_allSorts cX5_allSorts 1 (some .int) [vR 21] (some (vI xf)) s sf := by
  unfold fX5_allSorts at H
  refine ab_intro (own := RX5) (by decide +kernel) rfl (Nat.le_of_ble_eq_true rfl) rfl (fun b G => ?_)
  refine x_iconst G dX5_allSorts_0 (by decide) ?_
  refine x_aload_n (j := 0) G dX5_allSorts_1 rfl rfl ?_
  refine gf_142 G sh_21 pt_21_1 dX5_allSorts_2 ?_
  refine x_ishl G dX5_allSorts_5 ?_
  refine x_iconst G dX5_allSorts_6 (by decide) ?_
  refine x_isub G dX5_allSorts_7 ?_
  cases H
  exact x_iret G dX5_allSorts_8
def fX5_allStorms  (s : Mem) : Option (Int × Mem) :=
  some (w32 ((shlI 1 (s 21 2)) - 1), s)
set_option maxHeartbeats 4000000 in
theorem rX5_allStorms {E : En} {xf : Int} {sf : Mem}  {s : Mem}  (H : fX5_allStorms  s = some (xf, sf)) : ab_Run E 0 yX5_allStorms cX5_allStorms 1 (some .int) [vR 21] (some (vI xf)) s sf := by
  unfold fX5_allStorms at H
  refine ab_intro (own := RX5) (by decide +kernel) rfl (Nat.le_of_ble_eq_true rfl) rfl (fun b G => ?_)
  refine x_iconst G dX5_allStorms_0 (by decide) ?_
  refine x_aload_n (j := 0) G dX5_allStorms_1 rfl rfl ?_
  refine gf_146 G sh_21 pt_21_2 dX5_allStorms_2 ?_
  refine x_ishl G dX5_allStorms_5 ?_
  refine x_iconst G dX5_allStorms_6 (by decide) ?_
  refine x_isub G dX5_allStorms_7 ?_
  cases H
  exact x_iret G dX5_allStorms_8
def fX5_drawnBy_28  : Nat → Int → Int → Int → Mem → Option (Int × Mem)
  | 0, _, _, _, _ => none
  | n + 1, p4, p6, p7, s =>
  if (s 21 2) ≤ p7 then
    some (0, s)
  else
    (rdG 32 p7).bind fun x2 =>
    (rdI s x2 0).bind fun x3 =>
    lt' (w32 (p6 + x3)) fun v4 =>
    if v4 ≤ p4 then
      lt' (w32 (p7 + 1)) fun v6 =>
      fX5_drawnBy_28 n p4 v4 v6 s
    else
      some (p7, s)
set_option maxHeartbeats 4000000 in
theorem tX5_drawnBy_28 {E : En} {b : Bn} {xf : Int} {sf : Mem}  (G : ab_G E b cX5_drawnBy 8 RX5 (some .int) 0)  : ∀ (n : Nat) {p4 : Int} {p6 : Int} {p7 : Int} {s : Mem}, fX5_drawnBy_28 n p4 p6 p7 s = some (xf, sf) → ab_X E b (ab_MQ E b (some (vI xf)) sf) 8 28 [(0, vR 21), (4, vL p4), (6, vI p6), (7, vI p7)] [] s := by
  intro n
  induction n with
  | zero => intro p4 p6 p7 s H; rw [fX5_drawnBy_28] at H; cases H
  | succ n ih =>
    intro p4 p6 p7 s H
    rw [fX5_drawnBy_28] at H
    refine x_iload (j := 3) G dX5_drawnBy_28 rfl ?_
    refine x_aload_n (j := 0) G dX5_drawnBy_30 rfl rfl ?_
    refine gf_146 G sh_21 pt_21_2 dX5_drawnBy_31 ?_
    refine x_icmp_ge (tgt := 69) G dX5_drawnBy_34 (by decide) (fun q1 => ?_) (fun q1 => ?_)
    · have H := if_some_t H q1
      refine x_iconst G dX5_drawnBy_69 (by decide) ?_
      cases H
      exact x_iret G dX5_drawnBy_70
    · have H := if_some_f H q1
      refine x_iload (j := 2) G dX5_drawnBy_37 rfl ?_
      refine x_aload_n (j := 0) G dX5_drawnBy_39 rfl rfl ?_
      refine gf_158 G sh_21 pt_21_5 dX5_drawnBy_40 ?_
      refine x_iload (j := 3) G dX5_drawnBy_43 rfl ?_
      refine x_aald G dX5_drawnBy_45 H (fun g0 g1 x2 hx2 H => ?_)
      refine x_iconst G dX5_drawnBy_46 (by decide) ?_
      refine x_iald G dX5_drawnBy_47 H (fun x3 hx3 H => ?_)
      refine x_iadd G dX5_drawnBy_48 ?_
      refine x_let H (fun v4 hv4 H => ?_)
      refine x_istore (ls' := [(6, vI v4), (0, vR 21), (4, vL p4), (7, vI p7)]) G dX5_drawnBy_49 (by decide) rfl ?_
      refine x_lload (j := 2) G dX5_drawnBy_51 rfl ?_
      refine x_iload (j := 0) G dX5_drawnBy_53 rfl ?_
      refine x_i2l G dX5_drawnBy_55 ?_
      refine x_lcmp_ge (tgt := 63) G dX5_drawnBy_56 rfl dX5_drawnBy_57 (by decide) (fun q5 => ?_) (fun q5 => ?_)
      · have H := if_some_t H q5
        refine x_iincL (j := 3) G dX5_drawnBy_63 rfl (by decide) H (fun v6 hv6 H => x_ls (ls' := [(7, vI v6), (6, vI v4), (0, vR 21), (4, vL p4)]) rfl ?_)
        refine x_goto (tgt := 28) G dX5_drawnBy_66 (by decide) ?_
        exact x_subp (ls' := [(0, vR 21), (4, vL p4), (6, vI v4), (7, vI v6)]) [2, 3, 1, 0] rfl (ih H)
      · have H := if_some_f H q5
        refine x_iload (j := 3) G dX5_drawnBy_60 rfl ?_
        cases H
        exact x_iret G dX5_drawnBy_62
def fX5_drawnBy (a1 : Int) (s : Mem) : Option (Int × Mem) :=
  lt' (w64 ((w64 (7919 * a1)) + 1)) fun v1 =>
  lt' (w64 ((w64 ((w64 (v1 * v1)) - w64 (w64 (Int.tdiv (w64 (v1 * v1)) 65521) * 65521))) - w64 (w64 (Int.tdiv (w64 ((w64 (v1 * v1)) - w64 (w64 (Int.tdiv (w64 (v1 * v1)) 65521) * 65521))) 10) * 10))) fun v2 =>
  fX5_drawnBy_28 600 v2 0 0 s
set_option maxHeartbeats 4000000 in
theorem rX5_drawnBy {E : En} {xf : Int} {sf : Mem} {a1 : Int} {s : Mem}  (H : fX5_drawnBy a1 s = some (xf, sf)) : ab_Run E 0 yX5_drawnBy cX5_drawnBy 8 (some .int) [vR 21, vI a1] (some (vI xf)) s sf := by
  unfold fX5_drawnBy at H
  refine ab_intro (own := RX5) (by decide +kernel) rfl (Nat.le_of_ble_eq_true rfl) rfl (fun b G => ?_)
  refine x_ldc2 (x := 7919) G wd_839 dX5_drawnBy_0 (by decide) (by decide) ?_
  refine x_iload_n (j := 1) G dX5_drawnBy_3 rfl rfl ?_
  refine x_i2l G dX5_drawnBy_4 ?_
  refine x_lmul G dX5_drawnBy_5 ?_
  refine x_lconst (x := 1) G dX5_drawnBy_6 (by decide) (by decide) ?_
  refine x_ladd G dX5_drawnBy_7 ?_
  refine x_letL H (fun v1 hv1 H => ?_)
  refine x_lstore_n (ls' := [(2, vL v1), (0, vR 21), (1, vI a1)]) G dX5_drawnBy_8 rfl (by decide) rfl ?_
  refine x_lload_n (j := 0) G dX5_drawnBy_9 rfl rfl ?_
  refine x_lload_n (j := 0) G dX5_drawnBy_10 rfl rfl ?_
  refine x_lmul G dX5_drawnBy_11 ?_
  refine x_ldc2 (x := 65521) G wd_840 dX5_drawnBy_12 (by decide) (by decide) ?_
  refine x_lrem G dX5_drawnBy_15 (by decide) ?_
  refine x_ldc2 (x := 10) G wd_841 dX5_drawnBy_16 (by decide) (by decide) ?_
  refine x_lrem G dX5_drawnBy_19 (by decide) ?_
  refine x_letL H (fun v2 hv2 H => ?_)
  refine x_lstore (ls' := [(4, vL v2), (2, vL v1), (0, vR 21), (1, vI a1)]) G dX5_drawnBy_20 (by decide) rfl ?_
  refine x_iconst G dX5_drawnBy_22 (by decide) ?_
  refine x_istore (ls' := [(6, vI 0), (4, vL v2), (2, vL v1), (0, vR 21), (1, vI a1)]) G dX5_drawnBy_23 (by decide) rfl ?_
  refine x_iconst G dX5_drawnBy_25 (by decide) ?_
  refine x_istore (ls' := [(7, vI 0), (6, vI 0), (4, vL v2), (2, vL v1), (0, vR 21), (1, vI a1)]) G dX5_drawnBy_26 (by decide) rfl ?_
  exact x_subp (ls' := [(0, vR 21), (4, vL v2), (6, vI 0), (7, vI 0)]) [4, 2, 1, 0] rfl (tX5_drawnBy_28 G 600 H)
def fX5_isHarbour (a1 : Int) (s : Mem) : Option (Int × Mem) :=
  if a1 < 0 then
    some (0, s)
  else
    if (s 21 0) ≤ a1 then
      some (0, s)
    else
      some (1, s)
set_option maxHeartbeats 4000000 in
theorem rX5_isHarbour {E : En} {xf : Int} {sf : Mem} {a1 : Int} {s : Mem}  (H : fX5_isHarbour a1 s = some (xf, sf)) : ab_Run E 0 yX5_isHarbour cX5_isHarbour 2 (some .boolean) [vR 21, vI a1] (some (vI xf)) s sf := by
  unfold fX5_isHarbour at H
  refine ab_intro (own := RX5) (by decide +kernel) rfl (Nat.le_of_ble_eq_true rfl) rfl (fun b G => ?_)
  refine x_iload_n (j := 1) G dX5_isHarbour_0 rfl rfl ?_
  refine x_if_lt (tgt := 16) G dX5_isHarbour_1 (by decide) (fun q1 => ?_) (fun q1 => ?_)
  · have H := if_some_t H q1
    refine x_iconst G dX5_isHarbour_16 (by decide) ?_
    cases H
    exact x_zret G (by decide) dX5_isHarbour_17
  · have H := if_some_f H q1
    refine x_iload_n (j := 1) G dX5_isHarbour_4 rfl rfl ?_
    refine x_aload_n (j := 0) G dX5_isHarbour_5 rfl rfl ?_
    refine gf_136 G sh_21 pt_21_0 dX5_isHarbour_6 ?_
    refine x_icmp_ge (tgt := 16) G dX5_isHarbour_9 (by decide) (fun q2 => ?_) (fun q2 => ?_)
    · have H := if_some_t H q2
      refine x_iconst G dX5_isHarbour_16 (by decide) ?_
      cases H
      exact x_zret G (by decide) dX5_isHarbour_17
    · have H := if_some_f H q2
      refine x_iconst G dX5_isHarbour_12 (by decide) ?_
      refine x_goto (tgt := 17) G dX5_isHarbour_13 (by decide) ?_
      cases H
      exact x_zret G (by decide) dX5_isHarbour_17
def fX5_isSort (a1 : Int) (s : Mem) : Option (Int × Mem) :=
  if a1 < 0 then
    some (0, s)
  else
    if (s 21 1) ≤ a1 then
      some (0, s)
    else
      some (1, s)
set_option maxHeartbeats 4000000 in
theorem rX5_isSort {E : En} {xf : Int} {sf : Mem} {a1 : Int} {s : Mem}  (H : fX5_isSort a1 s = some (xf, sf)) : ab_Run E 0 yX5_isSort cX5_isSort 2 (some .boolean) [vR 21, vI a1] (some (vI xf)) s sf := by
  unfold fX5_isSort at H
  refine ab_intro (own := RX5) (by decide +kernel) rfl (Nat.le_of_ble_eq_true rfl) rfl (fun b G => ?_)
  refine x_iload_n (j := 1) G dX5_isSort_0 rfl rfl ?_
  refine x_if_lt (tgt := 16) G dX5_isSort_1 (by decide) (fun q1 => ?_) (fun q1 => ?_)
  · have H := if_some_t H q1
    refine x_iconst G dX5_isSort_16 (by decide) ?_
    cases H
    exact x_zret G (by decide) dX5_isSort_17
  · have H := if_some_f H q1
    refine x_iload_n (j := 1) G dX5_isSort_4 rfl rfl ?_
    refine x_aload_n (j := 0) G dX5_isSort_5 rfl rfl ?_
    refine gf_142 G sh_21 pt_21_1 dX5_isSort_6 ?_
    refine x_icmp_ge (tgt := 16) G dX5_isSort_9 (by decide) (fun q2 => ?_) (fun q2 => ?_)
    · have H := if_some_t H q2
      refine x_iconst G dX5_isSort_16 (by decide) ?_
      cases H
      exact x_zret G (by decide) dX5_isSort_17
    · have H := if_some_f H q2
      refine x_iconst G dX5_isSort_12 (by decide) ?_
      refine x_goto (tgt := 17) G dX5_isSort_13 (by decide) ?_
      cases H
      exact x_zret G (by decide) dX5_isSort_17
def fX5_isStorm (a1 : Int) (s : Mem) : Option (Int × Mem) :=
  if a1 < 0 then
    some (0, s)
  else
    if (s 21 2) ≤ a1 then
      some (0, s)
    else
      some (1, s)
set_option maxHeartbeats 4000000 in
theorem rX5_isStorm {E : En} {xf : Int} {sf : Mem} {a1 : Int} {s : Mem}  (H : fX5_isStorm a1 s = some (xf, sf)) : ab_Run E 0 yX5_isStorm cX5_isStorm 2 (some .boolean) [vR 21, vI a1] (some (vI xf)) s sf := by
  unfold fX5_isStorm at H
  refine ab_intro (own := RX5) (by decide +kernel) rfl (Nat.le_of_ble_eq_true rfl) rfl (fun b G => ?_)
  refine x_iload_n (j := 1) G dX5_isStorm_0 rfl rfl ?_
  refine x_if_lt (tgt := 16) G dX5_isStorm_1 (by decide) (fun q1 => ?_) (fun q1 => ?_)
  · have H := if_some_t H q1
    refine x_iconst G dX5_isStorm_16 (by decide) ?_
    cases H
    exact x_zret G (by decide) dX5_isStorm_17
  · have H := if_some_f H q1
    refine x_iload_n (j := 1) G dX5_isStorm_4 rfl rfl ?_
    refine x_aload_n (j := 0) G dX5_isStorm_5 rfl rfl ?_
    refine gf_146 G sh_21 pt_21_2 dX5_isStorm_6 ?_
    refine x_icmp_ge (tgt := 16) G dX5_isStorm_9 (by decide) (fun q2 => ?_) (fun q2 => ?_)
    · have H := if_some_t H q2
      refine x_iconst G dX5_isStorm_16 (by decide) ?_
      cases H
      exact x_zret G (by decide) dX5_isStorm_17
    · have H := if_some_f H q2
      refine x_iconst G dX5_isStorm_12 (by decide) ?_
      refine x_goto (tgt := 17) G dX5_isStorm_13 (by decide) ?_
      cases H
      exact x_zret G (by decide) dX5_isStorm_17
def fX6_append (a1 : Int) (s : Mem) : Option Mem :=
  if 500 ≤ (s 18 1) then
    some s
  else
    (wrB s 19 (s 18 1) a1).bind fun s2 =>
    lt' (mu s2 18 1 (w32 ((s2 18 1) + 1))) fun s3 =>
    some s3
set_option maxHeartbeats 4000000 in
theorem rX6_append {E : En} {sf : Mem} {a1 : Int} {s : Mem}  (H : fX6_append a1 s = some sf) : ab_Run E 0 yX6_append cX6_append 2 none [vR 18, vI a1] none s sf := by
  unfold fX6_append at H
  refine ab_intro (own := RX6) (by decide +kernel) rfl (Nat.le_of_ble_eq_true rfl) rfl (fun b G => ?_)
  refine x_aload_n (j := 0) G dX6_append_0 rfl rfl ?_
  refine gf_96 G sh_18 pt_18_1 dX6_append_1 ?_
  refine x_sipush G dX6_append_4 (by decide) (by decide) ?_
  refine x_icmp_ge (tgt := 30) G dX6_append_7 (by decide) (fun q1 => ?_) (fun q1 => ?_)
  · have H := if_some_t H q1
    cases H
    exact x_vret G dX6_append_30
  · have H := if_some_f H q1
    refine x_aload_n (j := 0) G dX6_append_10 rfl rfl ?_
    refine gf_95 G sh_18 pt_18_0 dX6_append_11 ?_
    refine x_aload_n (j := 0) G dX6_append_14 rfl rfl ?_
    refine gf_96 G sh_18 pt_18_1 dX6_append_15 ?_
    refine x_iload_n (j := 1) G dX6_append_18 rfl rfl ?_
    refine x_bast G dX6_append_19 H (fun s2 hs2 H => ?_)
    refine x_aload_n (j := 0) G dX6_append_20 rfl rfl ?_
    refine x_dup G dX6_append_21 rfl ?_
    refine gf_96 G sh_18 pt_18_1 dX6_append_22 ?_
    refine x_iconst G dX6_append_25 (by decide) ?_
    refine x_iadd G dX6_append_26 ?_
    refine pf_96 G sh_18 pt_18_1 dX6_append_27 H (fun s3 hs3 H => ?_)
    cases H
    exact x_vret G dX6_append_30
def fX6_clear  (s : Mem) : Option Mem :=
  lt' (mu s 18 1 0) fun s1 =>
  some s1
set_option maxHeartbeats 4000000 in
theorem rX6_clear {E : En} {sf : Mem}  {s : Mem}  (H : fX6_clear  s = some sf) : ab_Run E 0 yX6_clear cX6_clear 1 none [vR 18] none s sf := by
  unfold fX6_clear at H
  refine ab_intro (own := RX6) (by decide +kernel) rfl (Nat.le_of_ble_eq_true rfl) rfl (fun b G => ?_)
  refine x_aload_n (j := 0) G dX6_clear_0 rfl rfl ?_
  refine x_iconst G dX6_clear_1 (by decide) ?_
  refine pf_96 G sh_18 pt_18_1 dX6_clear_2 H (fun s1 hs1 H => ?_)
  cases H
  exact x_vret G dX6_clear_5
def fX6_toBegin  (s : Mem) : Option Mem :=
  lt' (mu s 18 2 0) fun s1 =>
  lt' (mu s1 18 5 0) fun s2 =>
  lt' (mu s2 18 6 0) fun s3 =>
  lt' (mu s3 18 7 0) fun s4 =>
  lt' (mu s4 18 8 0) fun s5 =>
  some s5
set_option maxHeartbeats 4000000 in
theorem rX6_toBegin {E : En} {sf : Mem}  {s : Mem}  (H : fX6_toBegin  s = some sf) : ab_Run E 0 yX6_toBegin cX6_toBegin 1 none [vR 18] none s sf := by
  unfold fX6_toBegin at H
  refine ab_intro (own := RX6) (by decide +kernel) rfl (Nat.le_of_ble_eq_true rfl) rfl (fun b G => ?_)
  refine x_aload_n (j := 0) G dX6_toBegin_0 rfl rfl ?_
  refine x_iconst G dX6_toBegin_1 (by decide) ?_
  refine pf_98 G sh_18 pt_18_2 dX6_toBegin_2 H (fun s1 hs1 H => ?_)
  refine x_aload_n (j := 0) G dX6_toBegin_5 rfl rfl ?_
  refine x_iconst G dX6_toBegin_6 (by decide) ?_
  refine pf_101 G sh_18 pt_18_5 dX6_toBegin_7 H (fun s2 hs2 H => ?_)
  refine x_aload_n (j := 0) G dX6_toBegin_10 rfl rfl ?_
  refine x_iconst G dX6_toBegin_11 (by decide) ?_
  refine pf_102 G sh_18 pt_18_6 dX6_toBegin_12 H (fun s3 hs3 H => ?_)
  refine x_aload_n (j := 0) G dX6_toBegin_15 rfl rfl ?_
  refine x_iconst G dX6_toBegin_16 (by decide) ?_
  refine pf_103 G sh_18 pt_18_7 dX6_toBegin_17 H (fun s4 hs4 H => ?_)
  refine x_aload_n (j := 0) G dX6_toBegin_20 rfl rfl ?_
  refine x_iconst G dX6_toBegin_21 (by decide) ?_
  refine pf_104 G sh_18 pt_18_8 dX6_toBegin_22 H (fun s5 hs5 H => ?_)
  cases H
  exact x_vret G dX6_toBegin_25
def fX6_limitsOf (a0 : Int) (s : Mem) : Option (Nat × Mem) :=
  if a0 = 98 then
    some (138, s)
  else
  if a0 = 100 then
    some (139, s)
  else
  if a0 = 103 then
    some (141, s)
  else
  if a0 = 104 then
    some (137, s)
  else
  if a0 = 114 then
    some (142, s)
  else
  if a0 = 115 then
    some (140, s)
  else
  if a0 = 119 then
    some (143, s)
  else
  some (144, s)
set_option maxHeartbeats 4000000 in
theorem rX6_limitsOf {E : En} {xf : Nat} {sf : Mem} {a0 : Int} {s : Mem}  (H : fX6_limitsOf a0 s = some (xf, sf)) : ab_Run E 0 yX6_limitsOf cX6_limitsOf 1 (some (.array .int)) [vI a0] (some (vR xf)) s sf := by
  unfold fX6_limitsOf at H
  refine ab_intro (own := RX6) (by decide +kernel) rfl (Nat.le_of_ble_eq_true rfl) rfl (fun b G => ?_)
  refine x_iload_n (j := 0) G dX6_limitsOf_0 rfl rfl ?_
  by_cases q1 : a0 = 98
  · have H := if_some_t H q1
    refine x_table (tgt := 108) G dX6_limitsOf_1 (by rw [q1]; decide) (by decide) ?_
    refine gs_411 G dX6_limitsOf_108 ?_
    cases H
    exact x_aret G dX6_limitsOf_111
  have H := if_some_f H q1
  by_cases q2 : a0 = 100
  · have H := if_some_t H q2
    refine x_table (tgt := 112) G dX6_limitsOf_1 (by rw [q2]; decide) (by decide) ?_
    refine gs_413 G dX6_limitsOf_112 ?_
    cases H
    exact x_aret G dX6_limitsOf_115
  have H := if_some_f H q2
  by_cases q3 : a0 = 103
  · have H := if_some_t H q3
    refine x_table (tgt := 120) G dX6_limitsOf_1 (by rw [q3]; decide) (by decide) ?_
    refine gs_417 G dX6_limitsOf_120 ?_
    cases H
    exact x_aret G dX6_limitsOf_123
  have H := if_some_f H q3
  by_cases q4 : a0 = 104
  · have H := if_some_t H q4
    refine x_table (tgt := 104) G dX6_limitsOf_1 (by rw [q4]; decide) (by decide) ?_
    refine gs_409 G dX6_limitsOf_104 ?_
    cases H
    exact x_aret G dX6_limitsOf_107
  have H := if_some_f H q4
  by_cases q5 : a0 = 114
  · have H := if_some_t H q5
    refine x_table (tgt := 124) G dX6_limitsOf_1 (by rw [q5]; decide) (by decide) ?_
    refine gs_419 G dX6_limitsOf_124 ?_
    cases H
    exact x_aret G dX6_limitsOf_127
  have H := if_some_f H q5
  by_cases q6 : a0 = 115
  · have H := if_some_t H q6
    refine x_table (tgt := 116) G dX6_limitsOf_1 (by rw [q6]; decide) (by decide) ?_
    refine gs_415 G dX6_limitsOf_116 ?_
    cases H
    exact x_aret G dX6_limitsOf_119
  have H := if_some_f H q6
  by_cases q7 : a0 = 119
  · have H := if_some_t H q7
    refine x_table (tgt := 128) G dX6_limitsOf_1 (by rw [q7]; decide) (by decide) ?_
    refine gs_421 G dX6_limitsOf_128 ?_
    cases H
    exact x_aret G dX6_limitsOf_131
  have H := if_some_f H q7
  refine x_table (tgt := 132) G dX6_limitsOf_1 ?_ (by decide) ?_
  · by_cases g9 : a0 < 98 ∨ 119 < a0
    · rw [if_pos g9]; decide
    · rw [if_neg g9]
      rcases (show a0 = 98 ∨ a0 = 99 ∨ a0 = 100 ∨ a0 = 101 ∨ a0 = 102 ∨ a0 = 103 ∨ a0 = 104 ∨ a0 = 105 ∨ a0 = 106 ∨ a0 = 107 ∨ a0 = 108 ∨ a0 = 109 ∨ a0 = 110 ∨ a0 = 111 ∨ a0 = 112 ∨ a0 = 113 ∨ a0 = 114 ∨ a0 = 115 ∨ a0 = 116 ∨ a0 = 117 ∨ a0 = 118 ∨ a0 = 119 by omega) with h9 | h9 | h9 | h9 | h9 | h9 | h9 | h9 | h9 | h9 | h9 | h9 | h9 | h9 | h9 | h9 | h9 | h9 | h9 | h9 | h9 | h9 <;> first | exact absurd h9 q1 | exact absurd h9 q2 | exact absurd h9 q3 | exact absurd h9 q4 | exact absurd h9 q5 | exact absurd h9 q6 | exact absurd h9 q7 | (rw [h9]; decide)
  · skip
    refine gs_423 G dX6_limitsOf_132 ?_
    cases H
    exact x_aret G dX6_limitsOf_135
def fX6_readNumber_84  (p1 : Int) (p2 : Int) (p3 : Int) (p4 : Int) (s : Mem) : Option (Int × Mem) :=
  if p4 = 0 then
    some (0, s)
  else
    if (s 18 1) ≤ (s 18 2) then
      some (0, s)
    else
      (rdB s 19 (s 18 2)).bind fun x3 =>
      if x3 = p2 then
        lt' (mu s 18 2 (w32 ((s 18 2) + 1))) fun s5 =>
        (wrI s5 20 p1 p3).bind fun s6 =>
        some (1, s6)
      else
        some (0, s)
set_option maxHeartbeats 4000000 in
theorem tX6_readNumber_84 {E : En} {b : Bn} {xf : Int} {sf : Mem}  {p1 : Int} {p2 : Int} {p3 : Int} {p4 : Int} {s : Mem} (G : ab_G E b cX6_readNumber 5 RX6 (some .boolean) 0)   (H : fX6_readNumber_84 p1 p2 p3 p4 s = some (xf, sf)) : ab_X E b (ab_MQ E b (some (vI xf)) sf) 5 84 [(0, vR 18), (1, vI p1), (2, vI p2), (3, vI p3), (4, vI p4)] [] s := by
  unfold fX6_readNumber_84 at H
  refine x_iload (j := 4) G dX6_readNumber_84 rfl ?_
  refine x_if_eq (tgt := 113) G dX6_readNumber_86 (by decide) (fun q1 => ?_) (fun q1 => ?_)
  · have H := if_some_t H q1
    refine x_iconst G dX6_readNumber_113 (by decide) ?_
    cases H
    exact x_zret G (by decide) dX6_readNumber_114
  · have H := if_some_f H q1
    refine x_aload_n (j := 0) G dX6_readNumber_89 rfl rfl ?_
    refine gf_98 G sh_18 pt_18_2 dX6_readNumber_90 ?_
    refine x_aload_n (j := 0) G dX6_readNumber_93 rfl rfl ?_
    refine gf_96 G sh_18 pt_18_1 dX6_readNumber_94 ?_
    refine x_icmp_ge (tgt := 113) G dX6_readNumber_97 (by decide) (fun q2 => ?_) (fun q2 => ?_)
    · have H := if_some_t H q2
      refine x_iconst G dX6_readNumber_113 (by decide) ?_
      cases H
      exact x_zret G (by decide) dX6_readNumber_114
    · have H := if_some_f H q2
      refine x_aload_n (j := 0) G dX6_readNumber_100 rfl rfl ?_
      refine gf_95 G sh_18 pt_18_0 dX6_readNumber_101 ?_
      refine x_aload_n (j := 0) G dX6_readNumber_104 rfl rfl ?_
      refine gf_98 G sh_18 pt_18_2 dX6_readNumber_105 ?_
      refine x_bald G dX6_readNumber_108 H (fun x3 hx3 H => ?_)
      refine x_iload_n (j := 2) G dX6_readNumber_109 rfl rfl ?_
      refine x_icmp_eq (tgt := 115) G dX6_readNumber_110 (by decide) (fun q4 => ?_) (fun q4 => ?_)
      · have H := if_some_t H q4
        refine x_aload_n (j := 0) G dX6_readNumber_115 rfl rfl ?_
        refine x_dup G dX6_readNumber_116 rfl ?_
        refine gf_98 G sh_18 pt_18_2 dX6_readNumber_117 ?_
        refine x_iconst G dX6_readNumber_120 (by decide) ?_
        refine x_iadd G dX6_readNumber_121 ?_
        refine pf_98 G sh_18 pt_18_2 dX6_readNumber_122 H (fun s5 hs5 H => ?_)
        refine x_aload_n (j := 0) G dX6_readNumber_125 rfl rfl ?_
        refine gf_100 G sh_18 pt_18_4 dX6_readNumber_126 ?_
        refine x_iload_n (j := 1) G dX6_readNumber_129 rfl rfl ?_
        refine x_iload_n (j := 3) G dX6_readNumber_130 rfl rfl ?_
        refine x_iast G dX6_readNumber_131 H (fun s6 hs6 H => ?_)
        refine x_iconst G dX6_readNumber_132 (by decide) ?_
        cases H
        exact x_zret G (by decide) dX6_readNumber_133
      · have H := if_some_f H q4
        refine x_iconst G dX6_readNumber_113 (by decide) ?_
        cases H
        exact x_zret G (by decide) dX6_readNumber_114
def fX6_readNumber_5  : Nat → Int → Int → Int → Int → Mem → Option (Int × Mem)
  | 0, _, _, _, _, _ => none
  | n + 1, p1, p2, p3, p4, s =>
  if (s 18 1) ≤ (s 18 2) then
    fX6_readNumber_84 p1 p2 p3 p4 s
  else
    if 3 ≤ p4 then
      fX6_readNumber_84 p1 p2 p3 p4 s
    else
      (rdB s 19 (s 18 2)).bind fun x3 =>
      if x3 < 48 then
        fX6_readNumber_84 p1 p2 p3 p4 s
      else
        (rdB s 19 (s 18 2)).bind fun x5 =>
        if 57 < x5 then
          fX6_readNumber_84 p1 p2 p3 p4 s
        else
          (rdB s 19 (s 18 2)).bind fun x7 =>
          lt' (w32 ((w32 ((w32 (10 * p3)) + x7)) - 48)) fun v8 =>
          lt' (w32 (p4 + 1)) fun v9 =>
          lt' (mu s 18 2 (w32 ((s 18 2) + 1))) fun s10 =>
          fX6_readNumber_5 n p1 p2 v8 v9 s10
set_option maxHeartbeats 4000000 in
theorem tX6_readNumber_5 {E : En} {b : Bn} {xf : Int} {sf : Mem}  (G : ab_G E b cX6_readNumber 5 RX6 (some .boolean) 0)  : ∀ (n : Nat) {p1 : Int} {p2 : Int} {p3 : Int} {p4 : Int} {s : Mem}, fX6_readNumber_5 n p1 p2 p3 p4 s = some (xf, sf) → ab_X E b (ab_MQ E b (some (vI xf)) sf) 5 5 [(0, vR 18), (1, vI p1), (2, vI p2), (3, vI p3), (4, vI p4)] [] s := by
  intro n
  induction n with
  | zero => intro p1 p2 p3 p4 s H; rw [fX6_readNumber_5] at H; cases H
  | succ n ih =>
    intro p1 p2 p3 p4 s H
    rw [fX6_readNumber_5] at H
    refine x_aload_n (j := 0) G dX6_readNumber_5 rfl rfl ?_
    refine gf_98 G sh_18 pt_18_2 dX6_readNumber_6 ?_
    refine x_aload_n (j := 0) G dX6_readNumber_9 rfl rfl ?_
    refine gf_96 G sh_18 pt_18_1 dX6_readNumber_10 ?_
    refine x_icmp_ge (tgt := 84) G dX6_readNumber_13 (by decide) (fun q1 => ?_) (fun q1 => ?_)
    · have H := if_some_t H q1
      exact x_subp (ls' := [(0, vR 18), (1, vI p1), (2, vI p2), (3, vI p3), (4, vI p4)]) [0, 1, 2, 3, 4] rfl (tX6_readNumber_84 G  H)
    · have H := if_some_f H q1
      refine x_iload (j := 4) G dX6_readNumber_16 rfl ?_
      refine x_iconst G dX6_readNumber_18 (by decide) ?_
      refine x_icmp_ge (tgt := 84) G dX6_readNumber_19 (by decide) (fun q2 => ?_) (fun q2 => ?_)
      · have H := if_some_t H q2
        exact x_subp (ls' := [(0, vR 18), (1, vI p1), (2, vI p2), (3, vI p3), (4, vI p4)]) [0, 1, 2, 3, 4] rfl (tX6_readNumber_84 G  H)
      · have H := if_some_f H q2
        refine x_aload_n (j := 0) G dX6_readNumber_22 rfl rfl ?_
        refine gf_95 G sh_18 pt_18_0 dX6_readNumber_23 ?_
        refine x_aload_n (j := 0) G dX6_readNumber_26 rfl rfl ?_
        refine gf_98 G sh_18 pt_18_2 dX6_readNumber_27 ?_
        refine x_bald G dX6_readNumber_30 H (fun x3 hx3 H => ?_)
        refine x_bipush G dX6_readNumber_31 (by decide) (by decide) ?_
        refine x_icmp_lt (tgt := 84) G dX6_readNumber_33 (by decide) (fun q4 => ?_) (fun q4 => ?_)
        · have H := if_some_t H q4
          exact x_subp (ls' := [(0, vR 18), (1, vI p1), (2, vI p2), (3, vI p3), (4, vI p4)]) [0, 1, 2, 3, 4] rfl (tX6_readNumber_84 G  H)
        · have H := if_some_f H q4
          refine x_aload_n (j := 0) G dX6_readNumber_36 rfl rfl ?_
          refine gf_95 G sh_18 pt_18_0 dX6_readNumber_37 ?_
          refine x_aload_n (j := 0) G dX6_readNumber_40 rfl rfl ?_
          refine gf_98 G sh_18 pt_18_2 dX6_readNumber_41 ?_
          refine x_bald G dX6_readNumber_44 H (fun x5 hx5 H => ?_)
          refine x_bipush G dX6_readNumber_45 (by decide) (by decide) ?_
          refine x_icmp_gt (tgt := 84) G dX6_readNumber_47 (by decide) (fun q6 => ?_) (fun q6 => ?_)
          · have H := if_some_t H q6
            exact x_subp (ls' := [(0, vR 18), (1, vI p1), (2, vI p2), (3, vI p3), (4, vI p4)]) [0, 1, 2, 3, 4] rfl (tX6_readNumber_84 G  H)
          · have H := if_some_f H q6
            refine x_bipush G dX6_readNumber_50 (by decide) (by decide) ?_
            refine x_iload_n (j := 3) G dX6_readNumber_52 rfl rfl ?_
            refine x_imul G dX6_readNumber_53 ?_
            refine x_aload_n (j := 0) G dX6_readNumber_54 rfl rfl ?_
            refine gf_95 G sh_18 pt_18_0 dX6_readNumber_55 ?_
            refine x_aload_n (j := 0) G dX6_readNumber_58 rfl rfl ?_
            refine gf_98 G sh_18 pt_18_2 dX6_readNumber_59 ?_
            refine x_bald G dX6_readNumber_62 H (fun x7 hx7 H => ?_)
            refine x_iadd G dX6_readNumber_63 ?_
            refine x_bipush G dX6_readNumber_64 (by decide) (by decide) ?_
            refine x_isub G dX6_readNumber_66 ?_
            refine x_let H (fun v8 hv8 H => ?_)
            refine x_istore_n (ls' := [(3, vI v8), (0, vR 18), (1, vI p1), (2, vI p2), (4, vI p4)]) G dX6_readNumber_67 rfl (by decide) rfl ?_
            refine x_iincL (j := 4) G dX6_readNumber_68 rfl (by decide) H (fun v9 hv9 H => x_ls (ls' := [(4, vI v9), (3, vI v8), (0, vR 18), (1, vI p1), (2, vI p2)]) rfl ?_)
            refine x_aload_n (j := 2) G dX6_readNumber_71 rfl rfl ?_
            refine x_dup G dX6_readNumber_72 rfl ?_
            refine gf_98 G sh_18 pt_18_2 dX6_readNumber_73 ?_
            refine x_iconst G dX6_readNumber_76 (by decide) ?_
            refine x_iadd G dX6_readNumber_77 ?_
            refine pf_98 G sh_18 pt_18_2 dX6_readNumber_78 H (fun s10 hs10 H => ?_)
            refine x_goto (tgt := 5) G dX6_readNumber_81 (by decide) ?_
            exact x_subp (ls' := [(0, vR 18), (1, vI p1), (2, vI p2), (3, vI v8), (4, vI v9)]) [2, 3, 4, 1, 0] rfl (ih H)
def fX6_readNumber (a1 : Int) (a2 : Int) (s : Mem) : Option (Int × Mem) :=
  fX6_readNumber_5 600 a1 a2 0 0 s
set_option maxHeartbeats 4000000 in
theorem rX6_readNumber {E : En} {xf : Int} {sf : Mem} {a1 : Int} {a2 : Int} {s : Mem}  (H : fX6_readNumber a1 a2 s = some (xf, sf)) : ab_Run E 0 yX6_readNumber cX6_readNumber 5 (some .boolean) [vR 18, vI a1, vI a2] (some (vI xf)) s sf := by
  unfold fX6_readNumber at H
  refine ab_intro (own := RX6) (by decide +kernel) rfl (Nat.le_of_ble_eq_true rfl) rfl (fun b G => ?_)
  refine x_iconst G dX6_readNumber_0 (by decide) ?_
  refine x_istore_n (ls' := [(3, vI 0), (0, vR 18), (1, vI a1), (2, vI a2)]) G dX6_readNumber_1 rfl (by decide) rfl ?_
  refine x_iconst G dX6_readNumber_2 (by decide) ?_
  refine x_istore (ls' := [(4, vI 0), (3, vI 0), (0, vR 18), (1, vI a1), (2, vI a2)]) G dX6_readNumber_3 (by decide) rfl ?_
  exact x_subp (ls' := [(0, vR 18), (1, vI a1), (2, vI a2), (3, vI 0), (4, vI 0)]) [2, 3, 4, 1, 0] rfl (tX6_readNumber_5 G 600 H)
def fX6_readItem_70 (k49 : Int → Int → Mem → Option (Int × Mem)) (p1 : Int) (p2 : Int) (t1 : Int) (t2 : Int) (s : Mem) : Option (Int × Mem) :=
  b2 (fX6_readNumber t1 t2 s) fun r1 s2 =>
  if r1 = 0 then
    some (0, s2)
  else
    lt' (w32 (p2 + 1)) fun v4 =>
    k49 p1 v4 s2
set_option maxHeartbeats 4000000 in
theorem tX6_readItem_70 {E : En} {b : Bn} {xf : Int} {sf : Mem} {k49 : Int → Int → Mem → Option (Int × Mem)} {p1 : Int} {p2 : Int} {t1 : Int} {t2 : Int} {s : Mem} (G : ab_G E b cX6_readItem 3 RX6 (some .boolean) 1)  (K49 : ∀ {p1 : Int} {p2 : Int} {s : Mem},  k49 p1 p2 s = some (xf, sf) → ab_X E b (ab_MQ E b (some (vI xf)) sf) 3 49 [(0, vR 18), (1, vI p1), (2, vI p2)] [] s) (H : fX6_readItem_70 k49 p1 p2 t1 t2 s = some (xf, sf)) : ab_X E b (ab_MQ E b (some (vI xf)) sf) 3 70 [(0, vR 18), (1, vI p1), (2, vI p2)] [vI t2, vI t1, vR 18] s := by
  unfold fX6_readItem_70 at H
  obtain ⟨r1, s2, c2, H⟩ := b2_some H
  refine cv_425 (As := [vI t1, vI t2]) (rest := []) G (rX6_readNumber  c2) sh_18 (by omega) rfl rfl (Nat.le_of_ble_eq_true rfl) dX6_readItem_70 ?_
  refine x_if_ne (tgt := 78) G dX6_readItem_73 (by decide) (fun q3 => ?_) (fun q3 => ?_)
  · have H := if_some_f H q3
    refine x_iincL (j := 2) G dX6_readItem_78 rfl (by decide) H (fun v4 hv4 H => x_ls (ls' := [(2, vI v4), (0, vR 18), (1, vI p1)]) rfl ?_)
    refine x_goto (tgt := 49) G dX6_readItem_81 (by decide) ?_
    exact x_subp (ls' := [(0, vR 18), (1, vI p1), (2, vI v4)]) [1, 2, 0] rfl (K49 H)
  · have H := if_some_t H q3
    refine x_iconst G dX6_readItem_76 (by decide) ?_
    cases H
    exact x_zret G (by decide) dX6_readItem_77
def fX6_readItem_49  : Nat → Int → Int → Mem → Option (Int × Mem)
  | 0, _, _, _ => none
  | n + 1, p1, p2, s =>
  if p1 ≤ p2 then
    if p1 ≤ 0 then
      some (0, s)
    else
      some (1, s)
  else
    if p1 ≤ (w32 (p2 + 1)) then
      fX6_readItem_70 (fun p1 p2 s => fX6_readItem_49 n p1 p2 s) p1 p2 p2 59 s
    else
      fX6_readItem_70 (fun p1 p2 s => fX6_readItem_49 n p1 p2 s) p1 p2 p2 44 s
set_option maxHeartbeats 4000000 in
theorem tX6_readItem_49 {E : En} {b : Bn} {xf : Int} {sf : Mem}  (G : ab_G E b cX6_readItem 3 RX6 (some .boolean) 1)  : ∀ (n : Nat) {p1 : Int} {p2 : Int} {s : Mem}, fX6_readItem_49 n p1 p2 s = some (xf, sf) → ab_X E b (ab_MQ E b (some (vI xf)) sf) 3 49 [(0, vR 18), (1, vI p1), (2, vI p2)] [] s := by
  intro n
  induction n with
  | zero => intro p1 p2 s H; rw [fX6_readItem_49] at H; cases H
  | succ n ih =>
    intro p1 p2 s H
    rw [fX6_readItem_49] at H
    refine x_iload_n (j := 2) G dX6_readItem_49 rfl rfl ?_
    refine x_iload_n (j := 1) G dX6_readItem_50 rfl rfl ?_
    refine x_icmp_ge (tgt := 84) G dX6_readItem_51 (by decide) (fun q1 => ?_) (fun q1 => ?_)
    · have H := if_some_t H q1
      refine x_iload_n (j := 1) G dX6_readItem_84 rfl rfl ?_
      refine x_if_le (tgt := 92) G dX6_readItem_85 (by decide) (fun q2 => ?_) (fun q2 => ?_)
      · have H := if_some_t H q2
        refine x_iconst G dX6_readItem_92 (by decide) ?_
        cases H
        exact x_zret G (by decide) dX6_readItem_93
      · have H := if_some_f H q2
        refine x_iconst G dX6_readItem_88 (by decide) ?_
        refine x_goto (tgt := 93) G dX6_readItem_89 (by decide) ?_
        cases H
        exact x_zret G (by decide) dX6_readItem_93
    · have H := if_some_f H q1
      refine x_aload_n (j := 0) G dX6_readItem_54 rfl rfl ?_
      refine x_iload_n (j := 2) G dX6_readItem_55 rfl rfl ?_
      refine x_iload_n (j := 2) G dX6_readItem_56 rfl rfl ?_
      refine x_iconst G dX6_readItem_57 (by decide) ?_
      refine x_iadd G dX6_readItem_58 ?_
      refine x_iload_n (j := 1) G dX6_readItem_59 rfl rfl ?_
      refine x_icmp_ge (tgt := 68) G dX6_readItem_60 (by decide) (fun q3 => ?_) (fun q3 => ?_)
      · have H := if_some_t H q3
        refine x_bipush G dX6_readItem_68 (by decide) (by decide) ?_
        exact x_subp (ls' := [(0, vR 18), (1, vI p1), (2, vI p2)]) [0, 1, 2] rfl (tX6_readItem_70 G  ih H)
      · have H := if_some_f H q3
        refine x_bipush G dX6_readItem_63 (by decide) (by decide) ?_
        refine x_goto (tgt := 70) G dX6_readItem_65 (by decide) ?_
        exact x_subp (ls' := [(0, vR 18), (1, vI p1), (2, vI p2)]) [0, 1, 2] rfl (tX6_readItem_70 G  ih H)
def fX6_readItem  (s : Mem) : Option (Int × Mem) :=
  if (s 18 2) < (s 18 1) then
    (rdB s 19 (s 18 2)).bind fun x2 =>
    lt' (mu s 18 3 x2) fun s3 =>
    lt' (mu s3 18 2 (w32 ((s3 18 2) + 1))) fun s4 =>
    b2 (fX6_limitsOf (s4 18 3) s4) fun r5 s6 =>
    ck (137 ≤ r5 ∧ r5 < 145) <|
    lt' (w32 (Int.tdiv ((st_l r5 : Int)) 2)) fun v7 =>
    fX6_readItem_49 600 v7 0 s6
  else
    some (0, s)
set_option maxHeartbeats 4000000 in
theorem rX6_readItem {E : En} {xf : Int} {sf : Mem}  {s : Mem}  (H : fX6_readItem  s = some (xf, sf)) : ab_Run E 1 yX6_readItem cX6_readItem 3 (some .boolean) [vR 18] (some (vI xf)) s sf := by
  unfold fX6_readItem at H
  refine ab_intro (own := RX6) (by decide +kernel) rfl (Nat.le_of_ble_eq_true rfl) rfl (fun b G => ?_)
  refine x_aload_n (j := 0) G dX6_readItem_0 rfl rfl ?_
  refine gf_98 G sh_18 pt_18_2 dX6_readItem_1 ?_
  refine x_aload_n (j := 0) G dX6_readItem_4 rfl rfl ?_
  refine gf_96 G sh_18 pt_18_1 dX6_readItem_5 ?_
  refine x_icmp_lt (tgt := 13) G dX6_readItem_8 (by decide) (fun q1 => ?_) (fun q1 => ?_)
  · have H := if_some_t H q1
    refine x_aload_n (j := 0) G dX6_readItem_13 rfl rfl ?_
    refine x_aload_n (j := 0) G dX6_readItem_14 rfl rfl ?_
    refine gf_95 G sh_18 pt_18_0 dX6_readItem_15 ?_
    refine x_aload_n (j := 0) G dX6_readItem_18 rfl rfl ?_
    refine gf_98 G sh_18 pt_18_2 dX6_readItem_19 ?_
    refine x_bald G dX6_readItem_22 H (fun x2 hx2 H => ?_)
    refine pf_99 G sh_18 pt_18_3 dX6_readItem_23 H (fun s3 hs3 H => ?_)
    refine x_aload_n (j := 0) G dX6_readItem_26 rfl rfl ?_
    refine x_dup G dX6_readItem_27 rfl ?_
    refine gf_98 G sh_18 pt_18_2 dX6_readItem_28 ?_
    refine x_iconst G dX6_readItem_31 (by decide) ?_
    refine x_iadd G dX6_readItem_32 ?_
    refine pf_98 G sh_18 pt_18_2 dX6_readItem_33 H (fun s4 hs4 H => ?_)
    refine x_aload_n (j := 0) G dX6_readItem_36 rfl rfl ?_
    refine gf_99 G sh_18 pt_18_3 dX6_readItem_37 ?_
    obtain ⟨r5, s6, c6, H⟩ := b2_some H
    refine cs_406 (As := [vI (s4 18 3)]) (rest := []) G (rX6_limitsOf  c6) (by omega) rfl rfl (Nat.le_of_ble_eq_true rfl) dX6_readItem_40 ?_
    obtain ⟨hlo, H⟩ := ck_some H
    refine x_slen G dX6_readItem_43 hlo.1 hlo.2 ?_
    refine x_iconst G dX6_readItem_44 (by decide) ?_
    refine x_idiv G dX6_readItem_45 (by decide) ?_
    refine x_let H (fun v7 hv7 H => ?_)
    refine x_istore_n (ls' := [(1, vI v7), (0, vR 18)]) G dX6_readItem_46 rfl (by decide) rfl ?_
    refine x_iconst G dX6_readItem_47 (by decide) ?_
    refine x_istore_n (ls' := [(2, vI 0), (1, vI v7), (0, vR 18)]) G dX6_readItem_48 rfl (by decide) rfl ?_
    exact x_subp (ls' := [(0, vR 18), (1, vI v7), (2, vI 0)]) [2, 1, 0] rfl (tX6_readItem_49 G 600 H)
  · have H := if_some_f H q1
    refine x_iconst G dX6_readItem_11 (by decide) ?_
    cases H
    exact x_zret G (by decide) dX6_readItem_12
def fX6_isSound_10  : Nat → Nat → Int → Mem → Option (Int × Mem)
  | 0, _, _, _ => none
  | n + 1, p1, p2, s =>
  ck (137 ≤ p1 ∧ p1 < 145) <|
  if (w32 (Int.tdiv ((st_l p1 : Int)) 2)) ≤ p2 then
    lt' (s 18 3) fun v2 =>
    if v2 = 98 then
      if 4 ≤ (s 18 6) then
        some (0, s)
      else
        some (1, s)
    else
    if v2 = 100 then
      (rdI s 20 0).bind fun x6 =>
      if (s 18 6) ≤ x6 then
        some (0, s)
      else
        (rdI s 20 1).bind fun x8 =>
        if (s 18 5) ≤ x8 then
          some (0, s)
        else
          some (1, s)
    else
    if v2 = 103 then
      (rdI s 20 0).bind fun x11 =>
      if (s 18 7) ≤ x11 then
        some (0, s)
      else
        some (1, s)
    else
    if v2 = 104 then
      if 4 ≤ (s 18 5) then
        some (0, s)
      else
        some (1, s)
    else
    if v2 = 115 then
      if 4 ≤ (s 18 7) then
        some (0, s)
      else
        some (1, s)
    else
    some (1, s)
  else
    (rdI s 20 p2).bind fun x17 =>
    (rdS p1 (w32 (2 * p2))).bind fun x18 =>
    if x17 < x18 then
      some (0, s)
    else
      (rdI s 20 p2).bind fun x20 =>
      (rdS p1 (w32 ((w32 (2 * p2)) + 1))).bind fun x21 =>
      if x20 ≤ x21 then
        lt' (w32 (p2 + 1)) fun v23 =>
        fX6_isSound_10 n p1 v23 s
      else
        some (0, s)
set_option maxHeartbeats 4000000 in
theorem tX6_isSound_10 {E : En} {b : Bn} {xf : Int} {sf : Mem}  (G : ab_G E b cX6_isSound 3 RX6 (some .boolean) 1)  : ∀ (n : Nat) {p1 : Nat} {p2 : Int} {s : Mem}, fX6_isSound_10 n p1 p2 s = some (xf, sf) → ab_X E b (ab_MQ E b (some (vI xf)) sf) 3 10 [(0, vR 18), (1, vR p1), (2, vI p2)] [] s := by
  intro n
  induction n with
  | zero => intro p1 p2 s H; rw [fX6_isSound_10] at H; cases H
  | succ n ih =>
    intro p1 p2 s H
    rw [fX6_isSound_10] at H
    refine x_iload_n (j := 2) G dX6_isSound_10 rfl rfl ?_
    refine x_aload_n (j := 1) G dX6_isSound_11 rfl rfl ?_
    obtain ⟨hlo, H⟩ := ck_some H
    refine x_slen G dX6_isSound_12 hlo.1 hlo.2 ?_
    refine x_iconst G dX6_isSound_13 (by decide) ?_
    refine x_idiv G dX6_isSound_14 (by decide) ?_
    refine x_icmp_ge (tgt := 56) G dX6_isSound_15 (by decide) (fun q1 => ?_) (fun q1 => ?_)
    · have H := if_some_t H q1
      refine x_aload_n (j := 0) G dX6_isSound_56 rfl rfl ?_
      refine gf_99 G sh_18 pt_18_3 dX6_isSound_57 ?_
      refine x_let H (fun v2 hv2 H => ?_)
      by_cases q3 : v2 = 98
      · have H := if_some_t H q3
        refine x_lookup (tgt := 126) G dX6_isSound_60 (by decide) (by rw [q3]; decide) ?_
        refine x_aload_n (j := 0) G dX6_isSound_126 rfl rfl ?_
        refine gf_102 G sh_18 pt_18_6 dX6_isSound_127 ?_
        refine x_iconst G dX6_isSound_130 (by decide) ?_
        refine x_icmp_ge (tgt := 138) G dX6_isSound_131 (by decide) (fun q4 => ?_) (fun q4 => ?_)
        · have H := if_some_t H q4
          refine x_iconst G dX6_isSound_138 (by decide) ?_
          cases H
          exact x_zret G (by decide) dX6_isSound_139
        · have H := if_some_f H q4
          refine x_iconst G dX6_isSound_134 (by decide) ?_
          refine x_goto (tgt := 139) G dX6_isSound_135 (by decide) ?_
          cases H
          exact x_zret G (by decide) dX6_isSound_139
      have H := if_some_f H q3
      by_cases q5 : v2 = 100
      · have H := if_some_t H q5
        refine x_lookup (tgt := 154) G dX6_isSound_60 (by decide) (by rw [q5]; decide) ?_
        refine x_aload_n (j := 0) G dX6_isSound_154 rfl rfl ?_
        refine gf_100 G sh_18 pt_18_4 dX6_isSound_155 ?_
        refine x_iconst G dX6_isSound_158 (by decide) ?_
        refine x_iald G dX6_isSound_159 H (fun x6 hx6 H => ?_)
        refine x_aload_n (j := 0) G dX6_isSound_160 rfl rfl ?_
        refine gf_102 G sh_18 pt_18_6 dX6_isSound_161 ?_
        refine x_icmp_ge (tgt := 184) G dX6_isSound_164 (by decide) (fun q7 => ?_) (fun q7 => ?_)
        · have H := if_some_t H q7
          refine x_iconst G dX6_isSound_184 (by decide) ?_
          cases H
          exact x_zret G (by decide) dX6_isSound_185
        · have H := if_some_f H q7
          refine x_aload_n (j := 0) G dX6_isSound_167 rfl rfl ?_
          refine gf_100 G sh_18 pt_18_4 dX6_isSound_168 ?_
          refine x_iconst G dX6_isSound_171 (by decide) ?_
          refine x_iald G dX6_isSound_172 H (fun x8 hx8 H => ?_)
          refine x_aload_n (j := 0) G dX6_isSound_173 rfl rfl ?_
          refine gf_101 G sh_18 pt_18_5 dX6_isSound_174 ?_
          refine x_icmp_ge (tgt := 184) G dX6_isSound_177 (by decide) (fun q9 => ?_) (fun q9 => ?_)
          · have H := if_some_t H q9
            refine x_iconst G dX6_isSound_184 (by decide) ?_
            cases H
            exact x_zret G (by decide) dX6_isSound_185
          · have H := if_some_f H q9
            refine x_iconst G dX6_isSound_180 (by decide) ?_
            refine x_goto (tgt := 185) G dX6_isSound_181 (by decide) ?_
            cases H
            exact x_zret G (by decide) dX6_isSound_185
      have H := if_some_f H q5
      by_cases q10 : v2 = 103
      · have H := if_some_t H q10
        refine x_lookup (tgt := 186) G dX6_isSound_60 (by decide) (by rw [q10]; decide) ?_
        refine x_aload_n (j := 0) G dX6_isSound_186 rfl rfl ?_
        refine gf_100 G sh_18 pt_18_4 dX6_isSound_187 ?_
        refine x_iconst G dX6_isSound_190 (by decide) ?_
        refine x_iald G dX6_isSound_191 H (fun x11 hx11 H => ?_)
        refine x_aload_n (j := 0) G dX6_isSound_192 rfl rfl ?_
        refine gf_103 G sh_18 pt_18_7 dX6_isSound_193 ?_
        refine x_icmp_ge (tgt := 203) G dX6_isSound_196 (by decide) (fun q12 => ?_) (fun q12 => ?_)
        · have H := if_some_t H q12
          refine x_iconst G dX6_isSound_203 (by decide) ?_
          cases H
          exact x_zret G (by decide) dX6_isSound_204
        · have H := if_some_f H q12
          refine x_iconst G dX6_isSound_199 (by decide) ?_
          refine x_goto (tgt := 204) G dX6_isSound_200 (by decide) ?_
          cases H
          exact x_zret G (by decide) dX6_isSound_204
      have H := if_some_f H q10
      by_cases q13 : v2 = 104
      · have H := if_some_t H q13
        refine x_lookup (tgt := 112) G dX6_isSound_60 (by decide) (by rw [q13]; decide) ?_
        refine x_aload_n (j := 0) G dX6_isSound_112 rfl rfl ?_
        refine gf_101 G sh_18 pt_18_5 dX6_isSound_113 ?_
        refine x_iconst G dX6_isSound_116 (by decide) ?_
        refine x_icmp_ge (tgt := 124) G dX6_isSound_117 (by decide) (fun q14 => ?_) (fun q14 => ?_)
        · have H := if_some_t H q14
          refine x_iconst G dX6_isSound_124 (by decide) ?_
          cases H
          exact x_zret G (by decide) dX6_isSound_125
        · have H := if_some_f H q14
          refine x_iconst G dX6_isSound_120 (by decide) ?_
          refine x_goto (tgt := 125) G dX6_isSound_121 (by decide) ?_
          cases H
          exact x_zret G (by decide) dX6_isSound_125
      have H := if_some_f H q13
      by_cases q15 : v2 = 115
      · have H := if_some_t H q15
        refine x_lookup (tgt := 140) G dX6_isSound_60 (by decide) (by rw [q15]; decide) ?_
        refine x_aload_n (j := 0) G dX6_isSound_140 rfl rfl ?_
        refine gf_103 G sh_18 pt_18_7 dX6_isSound_141 ?_
        refine x_iconst G dX6_isSound_144 (by decide) ?_
        refine x_icmp_ge (tgt := 152) G dX6_isSound_145 (by decide) (fun q16 => ?_) (fun q16 => ?_)
        · have H := if_some_t H q16
          refine x_iconst G dX6_isSound_152 (by decide) ?_
          cases H
          exact x_zret G (by decide) dX6_isSound_153
        · have H := if_some_f H q16
          refine x_iconst G dX6_isSound_148 (by decide) ?_
          refine x_goto (tgt := 153) G dX6_isSound_149 (by decide) ?_
          cases H
          exact x_zret G (by decide) dX6_isSound_153
      have H := if_some_f H q15
      refine x_lookup (tgt := 205) G dX6_isSound_60 (by decide) ?_ ?_
      · simp only [lsw, q3, q5, q10, q13, q15, if_false]; decide
      · skip
        refine x_iconst G dX6_isSound_205 (by decide) ?_
        cases H
        exact x_zret G (by decide) dX6_isSound_206
    · have H := if_some_f H q1
      refine x_aload_n (j := 0) G dX6_isSound_18 rfl rfl ?_
      refine gf_100 G sh_18 pt_18_4 dX6_isSound_19 ?_
      refine x_iload_n (j := 2) G dX6_isSound_22 rfl rfl ?_
      refine x_iald G dX6_isSound_23 H (fun x17 hx17 H => ?_)
      refine x_aload_n (j := 1) G dX6_isSound_24 rfl rfl ?_
      refine x_iconst G dX6_isSound_25 (by decide) ?_
      refine x_iload_n (j := 2) G dX6_isSound_26 rfl rfl ?_
      refine x_imul G dX6_isSound_27 ?_
      refine x_siald G dX6_isSound_28 H (fun x18 hx18 H => ?_)
      refine x_icmp_lt (tgt := 48) G dX6_isSound_29 (by decide) (fun q19 => ?_) (fun q19 => ?_)
      · have H := if_some_t H q19
        refine x_iconst G dX6_isSound_48 (by decide) ?_
        cases H
        exact x_zret G (by decide) dX6_isSound_49
      · have H := if_some_f H q19
        refine x_aload_n (j := 0) G dX6_isSound_32 rfl rfl ?_
        refine gf_100 G sh_18 pt_18_4 dX6_isSound_33 ?_
        refine x_iload_n (j := 2) G dX6_isSound_36 rfl rfl ?_
        refine x_iald G dX6_isSound_37 H (fun x20 hx20 H => ?_)
        refine x_aload_n (j := 1) G dX6_isSound_38 rfl rfl ?_
        refine x_iconst G dX6_isSound_39 (by decide) ?_
        refine x_iload_n (j := 2) G dX6_isSound_40 rfl rfl ?_
        refine x_imul G dX6_isSound_41 ?_
        refine x_iconst G dX6_isSound_42 (by decide) ?_
        refine x_iadd G dX6_isSound_43 ?_
        refine x_siald G dX6_isSound_44 H (fun x21 hx21 H => ?_)
        refine x_icmp_le (tgt := 50) G dX6_isSound_45 (by decide) (fun q22 => ?_) (fun q22 => ?_)
        · have H := if_some_t H q22
          refine x_iincL (j := 2) G dX6_isSound_50 rfl (by decide) H (fun v23 hv23 H => x_ls (ls' := [(2, vI v23), (0, vR 18), (1, vR p1)]) rfl ?_)
          refine x_goto (tgt := 10) G dX6_isSound_53 (by decide) ?_
          exact x_subp (ls' := [(0, vR 18), (1, vR p1), (2, vI v23)]) [1, 2, 0] rfl (ih H)
        · have H := if_some_f H q22
          refine x_iconst G dX6_isSound_48 (by decide) ?_
          cases H
          exact x_zret G (by decide) dX6_isSound_49
def fX6_isSound  (s : Mem) : Option (Int × Mem) :=
  b2 (fX6_limitsOf (s 18 3) s) fun r1 s2 =>
  fX6_isSound_10 600 r1 0 s2
set_option maxHeartbeats 4000000 in
theorem rX6_isSound {E : En} {xf : Int} {sf : Mem}  {s : Mem}  (H : fX6_isSound  s = some (xf, sf)) : ab_Run E 1 yX6_isSound cX6_isSound 3 (some .boolean) [vR 18] (some (vI xf)) s sf := by
  unfold fX6_isSound at H
  refine ab_intro (own := RX6) (by decide +kernel) rfl (Nat.le_of_ble_eq_true rfl) rfl (fun b G => ?_)
  refine x_aload_n (j := 0) G dX6_isSound_0 rfl rfl ?_
  refine gf_99 G sh_18 pt_18_3 dX6_isSound_1 ?_
  obtain ⟨r1, s2, c2, H⟩ := b2_some H
  refine cs_406 (As := [vI (s 18 3)]) (rest := []) G (rX6_limitsOf  c2) (by omega) rfl rfl (Nat.le_of_ble_eq_true rfl) dX6_isSound_4 ?_
  refine x_astore_n (ls' := [(1, vR r1), (0, vR 18)]) G dX6_isSound_7 rfl (by decide) rfl ?_
  refine x_iconst G dX6_isSound_8 (by decide) ?_
  refine x_istore_n (ls' := [(2, vI 0), (1, vR r1), (0, vR 18)]) G dX6_isSound_9 rfl (by decide) rfl ?_
  exact x_subp (ls' := [(0, vR 18), (1, vR r1), (2, vI 0)]) [2, 1, 0] rfl (tX6_isSound_10 G 600 H)

def fX4_likeliest_134 (k8 : Int → Int → Int → Int → Int → Mem → Option (Int × Mem)) (p1 : Int) (p2 : Int) (p5 : Int) (p6 : Int) (s : Mem) : Option (Int × Mem) :=
  lt' (w32 (p5 + 1)) fun v1 =>
  k8 p1 p2 p5 p6 v1 s
set_option maxHeartbeats 4000000 in
theorem tX4_likeliest_134 {E : En} {b : Bn} {xf : Int} {sf : Mem} {k8 : Int → Int → Int → Int → Int → Mem → Option (Int × Mem)} {p1 : Int} {p2 : Int} {p5 : Int} {p6 : Int} {s : Mem} (G : ab_G E b cX4_likeliest 8 RX4 (some .int) 2)  (K8 : ∀ {p1 : Int} {p2 : Int} {p3 : Int} {p4 : Int} {p5 : Int} {s : Mem},  k8 p1 p2 p3 p4 p5 s = some (xf, sf) → ab_X E b (ab_MQ E b (some (vI xf)) sf) 8 8 [(0, vR 131), (1, vI p1), (2, vI p2), (3, vI p3), (4, vI p4), (5, vI p5)] [] s) (H : fX4_likeliest_134 k8 p1 p2 p5 p6 s = some (xf, sf)) : ab_X E b (ab_MQ E b (some (vI xf)) sf) 8 134 [(0, vR 131), (1, vI p1), (2, vI p2), (5, vI p5), (6, vI p6)] [] s := by
  unfold fX4_likeliest_134 at H
  refine x_iload (j := 4) G dX4_likeliest_134 rfl ?_
  refine x_istore (ls' := [(4, vI p6), (0, vR 131), (1, vI p1), (2, vI p2), (5, vI p5), (6, vI p6)]) G dX4_likeliest_136 (by decide) rfl ?_
  refine x_iload (j := 4) G dX4_likeliest_138 rfl ?_
  refine x_istore_n (ls' := [(3, vI p5), (4, vI p6), (0, vR 131), (1, vI p1), (2, vI p2), (5, vI p5), (6, vI p6)]) G dX4_likeliest_140 rfl (by decide) rfl ?_
  refine x_iincL (j := 5) G dX4_likeliest_141 rfl (by decide) H (fun v1 hv1 H => x_ls (ls' := [(5, vI v1), (3, vI p5), (4, vI p6), (0, vR 131), (1, vI p1), (2, vI p2), (6, vI p6)]) rfl ?_)
  refine x_goto (tgt := 8) G dX4_likeliest_144 (by decide) ?_
  exact x_subp (ls' := [(0, vR 131), (1, vI p1), (2, vI p2), (3, vI p5), (4, vI p6), (5, vI v1)]) [3, 4, 5, 1, 2, 0] rfl (K8 H)
def fX4_likeliest_26 (k8 : Int → Int → Int → Int → Int → Mem → Option (Int × Mem)) : Nat → Int → Int → Int → Int → Int → Int → Int → Mem → Option (Int × Mem)
  | 0, _, _, _, _, _, _, _, _ => none
  | n + 1, p1, p2, p3, p4, p5, p6, p7, s =>
  if (s 21 2) ≤ p7 then
    if p4 < p6 then
      fX4_likeliest_134 k8 p1 p2 p5 p6 s
    else
      if p6 = p4 then
        (rdG 37 p1).bind fun x5 =>
        (rdI s x5 p5).bind fun x6 =>
        (rdG 37 p1).bind fun x7 =>
        (rdI s x7 p3).bind fun x8 =>
        if x8 ≤ x6 then
          lt' (w32 (p5 + 1)) fun v10 =>
          k8 p1 p2 p3 p4 v10 s
        else
          fX4_likeliest_134 k8 p1 p2 p5 p6 s
      else
        lt' (w32 (p5 + 1)) fun v4 =>
        k8 p1 p2 p3 p4 v4 s
  else
    if (andI (shrI (s 109 4) p7) 1) = 0 then
      lt' (w32 (p7 + 1)) fun v12 =>
      fX4_likeliest_26 k8 n p1 p2 p3 p4 p5 p6 v12 s
    else
      b2 (fX5_entryAlone p1 p5 p7 p2 s) fun r13 s14 =>
      if 24 ≤ r13 then
        lt' (w32 (p7 + 1)) fun v16 =>
        fX4_likeliest_26 k8 n p1 p2 p3 p4 p5 p6 v16 s14
      else
        (rdG 32 p7).bind fun x17 =>
        (rdI s14 x17 0).bind fun x18 =>
        lt' (w32 (p6 + x18)) fun v19 =>
        lt' (w32 (p7 + 1)) fun v20 =>
        fX4_likeliest_26 k8 n p1 p2 p3 p4 p5 v19 v20 s14
set_option maxHeartbeats 4000000 in
theorem tX4_likeliest_26 {E : En} {b : Bn} {xf : Int} {sf : Mem} {k8 : Int → Int → Int → Int → Int → Mem → Option (Int × Mem)} (G : ab_G E b cX4_likeliest 8 RX4 (some .int) 2) (K8 : ∀ {p1 : Int} {p2 : Int} {p3 : Int} {p4 : Int} {p5 : Int} {s : Mem},  k8 p1 p2 p3 p4 p5 s = some (xf, sf) → ab_X E b (ab_MQ E b (some (vI xf)) sf) 8 8 [(0, vR 131), (1, vI p1), (2, vI p2), (3, vI p3), (4, vI p4), (5, vI p5)] [] s) : ∀ (n : Nat) {p1 : Int} {p2 : Int} {p3 : Int} {p4 : Int} {p5 : Int} {p6 : Int} {p7 : Int} {s : Mem}, fX4_likeliest_26 k8 n p1 p2 p3 p4 p5 p6 p7 s = some (xf, sf) → ab_X E b (ab_MQ E b (some (vI xf)) sf) 8 26 [(0, vR 131), (1, vI p1), (2, vI p2), (3, vI p3), (4, vI p4), (5, vI p5), (6, vI p6), (7, vI p7)] [] s := by
  intro n
  induction n with
  | zero => intro p1 p2 p3 p4 p5 p6 p7 s H; rw [fX4_likeliest_26] at H; cases H
  | succ n ih =>
    intro p1 p2 p3 p4 p5 p6 p7 s H
    rw [fX4_likeliest_26] at H
    refine x_iload (j := 7) G dX4_likeliest_26 rfl ?_
    refine x_aload_n (j := 0) G dX4_likeliest_28 rfl rfl ?_
    refine gf_302 G sh_131 pt_131_0 dX4_likeliest_29 ?_
    refine gf_148 G sh_21 pt_21_2 dX4_likeliest_32 ?_
    refine x_icmp_ge (tgt := 94) G dX4_likeliest_35 (by decide) (fun q1 => ?_) (fun q1 => ?_)
    · have H := if_some_t H q1
      refine x_iload (j := 6) G dX4_likeliest_94 rfl ?_
      refine x_iload (j := 4) G dX4_likeliest_96 rfl ?_
      refine x_icmp_gt (tgt := 134) G dX4_likeliest_98 (by decide) (fun q2 => ?_) (fun q2 => ?_)
      · have H := if_some_t H q2
        exact x_subp (ls' := [(0, vR 131), (1, vI p1), (2, vI p2), (5, vI p5), (6, vI p6)]) [0, 1, 2, 5, 6] rfl (tX4_likeliest_134 G  K8 H)
      · have H := if_some_f H q2
        refine x_iload (j := 6) G dX4_likeliest_101 rfl ?_
        refine x_iload (j := 4) G dX4_likeliest_103 rfl ?_
        refine x_icmp_ne (tgt := 141) G dX4_likeliest_105 (by decide) (fun q3 => ?_) (fun q3 => ?_)
        · have H := if_some_f H q3
          refine x_iincL (j := 5) G dX4_likeliest_141 rfl (by decide) H (fun v4 hv4 H => x_ls (ls' := [(5, vI v4), (0, vR 131), (1, vI p1), (2, vI p2), (3, vI p3), (4, vI p4), (6, vI p6), (7, vI p7)]) rfl ?_)
          refine x_goto (tgt := 8) G dX4_likeliest_144 (by decide) ?_
          exact x_subp (ls' := [(0, vR 131), (1, vI p1), (2, vI p2), (3, vI p3), (4, vI p4), (5, vI v4)]) [1, 2, 3, 4, 5, 0] rfl (K8 H)
        · have H := if_some_t H q3
          refine x_aload_n (j := 0) G dX4_likeliest_108 rfl rfl ?_
          refine gf_302 G sh_131 pt_131_0 dX4_likeliest_109 ?_
          refine gf_164 G sh_21 pt_21_6 dX4_likeliest_112 ?_
          refine x_iload_n (j := 1) G dX4_likeliest_115 rfl rfl ?_
          refine x_aald G dX4_likeliest_116 H (fun g0 g1 x5 hx5 H => ?_)
          refine x_iload (j := 5) G dX4_likeliest_117 rfl ?_
          refine x_iald G dX4_likeliest_119 H (fun x6 hx6 H => ?_)
          refine x_aload_n (j := 0) G dX4_likeliest_120 rfl rfl ?_
          refine gf_302 G sh_131 pt_131_0 dX4_likeliest_121 ?_
          refine gf_164 G sh_21 pt_21_6 dX4_likeliest_124 ?_
          refine x_iload_n (j := 1) G dX4_likeliest_127 rfl rfl ?_
          refine x_aald G dX4_likeliest_128 H (fun g0 g1 x7 hx7 H => ?_)
          refine x_iload_n (j := 3) G dX4_likeliest_129 rfl rfl ?_
          refine x_iald G dX4_likeliest_130 H (fun x8 hx8 H => ?_)
          refine x_icmp_ge (tgt := 141) G dX4_likeliest_131 (by decide) (fun q9 => ?_) (fun q9 => ?_)
          · have H := if_some_t H q9
            refine x_iincL (j := 5) G dX4_likeliest_141 rfl (by decide) H (fun v10 hv10 H => x_ls (ls' := [(5, vI v10), (0, vR 131), (1, vI p1), (2, vI p2), (3, vI p3), (4, vI p4), (6, vI p6), (7, vI p7)]) rfl ?_)
            refine x_goto (tgt := 8) G dX4_likeliest_144 (by decide) ?_
            exact x_subp (ls' := [(0, vR 131), (1, vI p1), (2, vI p2), (3, vI p3), (4, vI p4), (5, vI v10)]) [1, 2, 3, 4, 5, 0] rfl (K8 H)
          · have H := if_some_f H q9
            exact x_subp (ls' := [(0, vR 131), (1, vI p1), (2, vI p2), (5, vI p5), (6, vI p6)]) [0, 1, 2, 5, 6] rfl (tX4_likeliest_134 G  K8 H)
    · have H := if_some_f H q1
      refine x_aload_n (j := 0) G dX4_likeliest_38 rfl rfl ?_
      refine gf_303 G sh_131 pt_131_1 dX4_likeliest_39 ?_
      refine gf_248 G sh_109 pt_109_4 dX4_likeliest_42 ?_
      refine x_iload (j := 7) G dX4_likeliest_45 rfl ?_
      refine x_ishr G dX4_likeliest_47 ?_
      refine x_iconst G dX4_likeliest_48 (by decide) ?_
      refine x_iand G dX4_likeliest_49 ?_
      refine x_if_eq (tgt := 88) G dX4_likeliest_50 (by decide) (fun q11 => ?_) (fun q11 => ?_)
      · have H := if_some_t H q11
        refine x_iincL (j := 7) G dX4_likeliest_88 rfl (by decide) H (fun v12 hv12 H => x_ls (ls' := [(7, vI v12), (0, vR 131), (1, vI p1), (2, vI p2), (3, vI p3), (4, vI p4), (5, vI p5), (6, vI p6)]) rfl ?_)
        refine x_goto (tgt := 26) G dX4_likeliest_91 (by decide) ?_
        exact x_subp (ls' := [(0, vR 131), (1, vI p1), (2, vI p2), (3, vI p3), (4, vI p4), (5, vI p5), (6, vI p6), (7, vI v12)]) [1, 2, 3, 4, 5, 6, 7, 0] rfl (ih H)
      · have H := if_some_f H q11
        refine x_aload_n (j := 0) G dX4_likeliest_53 rfl rfl ?_
        refine gf_302 G sh_131 pt_131_0 dX4_likeliest_54 ?_
        refine x_iload_n (j := 1) G dX4_likeliest_57 rfl rfl ?_
        refine x_iload (j := 5) G dX4_likeliest_58 rfl ?_
        refine x_iload (j := 7) G dX4_likeliest_60 rfl ?_
        refine x_iload_n (j := 2) G dX4_likeliest_62 rfl rfl ?_
        obtain ⟨r13, s14, c14, H⟩ := b2_some H
        refine cv_735 (As := [vI p1, vI p5, vI p7, vI p2]) (rest := []) G (rX5_entryAlone  c14) sh_21 (by omega) rfl rfl (Nat.le_of_ble_eq_true rfl) dX4_likeliest_63 ?_
        refine x_bipush G dX4_likeliest_66 (by decide) (by decide) ?_
        refine x_icmp_ge (tgt := 88) G dX4_likeliest_68 (by decide) (fun q15 => ?_) (fun q15 => ?_)
        · have H := if_some_t H q15
          refine x_iincL (j := 7) G dX4_likeliest_88 rfl (by decide) H (fun v16 hv16 H => x_ls (ls' := [(7, vI v16), (0, vR 131), (1, vI p1), (2, vI p2), (3, vI p3), (4, vI p4), (5, vI p5), (6, vI p6)]) rfl ?_)
          refine x_goto (tgt := 26) G dX4_likeliest_91 (by decide) ?_
          exact x_subp (ls' := [(0, vR 131), (1, vI p1), (2, vI p2), (3, vI p3), (4, vI p4), (5, vI p5), (6, vI p6), (7, vI v16)]) [1, 2, 3, 4, 5, 6, 7, 0] rfl (ih H)
        · have H := if_some_f H q15
          refine x_iload (j := 6) G dX4_likeliest_71 rfl ?_
          refine x_aload_n (j := 0) G dX4_likeliest_73 rfl rfl ?_
          refine gf_302 G sh_131 pt_131_0 dX4_likeliest_74 ?_
          refine gf_160 G sh_21 pt_21_5 dX4_likeliest_77 ?_
          refine x_iload (j := 7) G dX4_likeliest_80 rfl ?_
          refine x_aald G dX4_likeliest_82 H (fun g0 g1 x17 hx17 H => ?_)
          refine x_iconst G dX4_likeliest_83 (by decide) ?_
          refine x_iald G dX4_likeliest_84 H (fun x18 hx18 H => ?_)
          refine x_iadd G dX4_likeliest_85 ?_
          refine x_let H (fun v19 hv19 H => ?_)
          refine x_istore (ls' := [(6, vI v19), (0, vR 131), (1, vI p1), (2, vI p2), (3, vI p3), (4, vI p4), (5, vI p5), (7, vI p7)]) G dX4_likeliest_86 (by decide) rfl ?_
          refine x_iincL (j := 7) G dX4_likeliest_88 rfl (by decide) H (fun v20 hv20 H => x_ls (ls' := [(7, vI v20), (6, vI v19), (0, vR 131), (1, vI p1), (2, vI p2), (3, vI p3), (4, vI p4), (5, vI p5)]) rfl ?_)
          refine x_goto (tgt := 26) G dX4_likeliest_91 (by decide) ?_
          exact x_subp (ls' := [(0, vR 131), (1, vI p1), (2, vI p2), (3, vI p3), (4, vI p4), (5, vI p5), (6, vI v19), (7, vI v20)]) [2, 3, 4, 5, 6, 7, 1, 0] rfl (ih H)
def fX4_likeliest_8  : Nat → Int → Int → Int → Int → Int → Mem → Option (Int × Mem)
  | 0, _, _, _, _, _, _ => none
  | n + 1, p1, p2, p3, p4, p5, s =>
  if (s 21 0) ≤ p5 then
    some (p3, s)
  else
    fX4_likeliest_26 (fun p1 p2 p3 p4 p5 s => fX4_likeliest_8 n p1 p2 p3 p4 p5 s) 600 p1 p2 p3 p4 p5 0 0 s
set_option maxHeartbeats 4000000 in
theorem tX4_likeliest_8 {E : En} {b : Bn} {xf : Int} {sf : Mem}  (G : ab_G E b cX4_likeliest 8 RX4 (some .int) 2)  : ∀ (n : Nat) {p1 : Int} {p2 : Int} {p3 : Int} {p4 : Int} {p5 : Int} {s : Mem}, fX4_likeliest_8 n p1 p2 p3 p4 p5 s = some (xf, sf) → ab_X E b (ab_MQ E b (some (vI xf)) sf) 8 8 [(0, vR 131), (1, vI p1), (2, vI p2), (3, vI p3), (4, vI p4), (5, vI p5)] [] s := by
  intro n
  induction n with
  | zero => intro p1 p2 p3 p4 p5 s H; rw [fX4_likeliest_8] at H; cases H
  | succ n ih =>
    intro p1 p2 p3 p4 p5 s H
    rw [fX4_likeliest_8] at H
    refine x_iload (j := 5) G dX4_likeliest_8 rfl ?_
    refine x_aload_n (j := 0) G dX4_likeliest_10 rfl rfl ?_
    refine gf_302 G sh_131 pt_131_0 dX4_likeliest_11 ?_
    refine gf_139 G sh_21 pt_21_0 dX4_likeliest_14 ?_
    refine x_icmp_ge (tgt := 147) G dX4_likeliest_17 (by decide) (fun q1 => ?_) (fun q1 => ?_)
    · have H := if_some_t H q1
      refine x_iload_n (j := 3) G dX4_likeliest_147 rfl rfl ?_
      cases H
      exact x_iret G dX4_likeliest_148
    · have H := if_some_f H q1
      refine x_iconst G dX4_likeliest_20 (by decide) ?_
      refine x_istore (ls' := [(6, vI 0), (0, vR 131), (1, vI p1), (2, vI p2), (3, vI p3), (4, vI p4), (5, vI p5)]) G dX4_likeliest_21 (by decide) rfl ?_
      refine x_iconst G dX4_likeliest_23 (by decide) ?_
      refine x_istore (ls' := [(7, vI 0), (6, vI 0), (0, vR 131), (1, vI p1), (2, vI p2), (3, vI p3), (4, vI p4), (5, vI p5)]) G dX4_likeliest_24 (by decide) rfl ?_
      exact x_subp (ls' := [(0, vR 131), (1, vI p1), (2, vI p2), (3, vI p3), (4, vI p4), (5, vI p5), (6, vI 0), (7, vI 0)]) [2, 3, 4, 5, 6, 7, 1, 0] rfl (tX4_likeliest_26 G ih 600 H)
def fX4_likeliest (a1 : Int) (a2 : Int) (s : Mem) : Option (Int × Mem) :=
  fX4_likeliest_8 600 a1 a2 0 ((-1)) 0 s
set_option maxHeartbeats 4000000 in
theorem rX4_likeliest {E : En} {xf : Int} {sf : Mem} {a1 : Int} {a2 : Int} {s : Mem}  (H : fX4_likeliest a1 a2 s = some (xf, sf)) : ab_Run E 2 yX4_likeliest cX4_likeliest 8 (some .int) [vR 131, vI a1, vI a2] (some (vI xf)) s sf := by
  unfold fX4_likeliest at H
  refine ab_intro (own := RX4) (by decide +kernel) rfl (Nat.le_of_ble_eq_true rfl) rfl (fun b G => ?_)
  refine x_iconst G dX4_likeliest_0 (by decide) ?_
  refine x_istore_n (ls' := [(3, vI 0), (0, vR 131), (1, vI a1), (2, vI a2)]) G dX4_likeliest_1 rfl (by decide) rfl ?_
  refine x_iconst G dX4_likeliest_2 (by decide) ?_
  refine x_istore (ls' := [(4, vI ((-1))), (3, vI 0), (0, vR 131), (1, vI a1), (2, vI a2)]) G dX4_likeliest_3 (by decide) rfl ?_
  refine x_iconst G dX4_likeliest_5 (by decide) ?_
  refine x_istore (ls' := [(5, vI 0), (4, vI ((-1))), (3, vI 0), (0, vR 131), (1, vI a1), (2, vI a2)]) G dX4_likeliest_6 (by decide) rfl ?_
  exact x_subp (ls' := [(0, vR 131), (1, vI a1), (2, vI a2), (3, vI 0), (4, vI ((-1))), (5, vI 0)]) [3, 4, 5, 2, 1, 0] rfl (tX4_likeliest_8 G 600 H)
def fX5_nearest_4  : Nat → Int → Int → Int → Mem → Option (Int × Mem)
  | 0, _, _, _, _ => none
  | n + 1, p1, p2, p3, s =>
  if (s 21 0) ≤ p3 then
    some (p2, s)
  else
    (rdG 37 p1).bind fun x2 =>
    (rdI s x2 p3).bind fun x3 =>
    (rdG 37 p1).bind fun x4 =>
    (rdI s x4 p2).bind fun x5 =>
    if x5 ≤ x3 then
      lt' (w32 (p3 + 1)) fun v7 =>
      fX5_nearest_4 n p1 p2 v7 s
    else
      lt' (w32 (p3 + 1)) fun v8 =>
      fX5_nearest_4 n p1 p3 v8 s
set_option maxHeartbeats 4000000 in
theorem tX5_nearest_4 {E : En} {b : Bn} {xf : Int} {sf : Mem}  (G : ab_G E b cX5_nearest 4 RX5 (some .int) 0)  : ∀ (n : Nat) {p1 : Int} {p2 : Int} {p3 : Int} {s : Mem}, fX5_nearest_4 n p1 p2 p3 s = some (xf, sf) → ab_X E b (ab_MQ E b (some (vI xf)) sf) 4 4 [(0, vR 21), (1, vI p1), (2, vI p2), (3, vI p3)] [] s := by
  intro n
  induction n with
  | zero => intro p1 p2 p3 s H; rw [fX5_nearest_4] at H; cases H
  | succ n ih =>
    intro p1 p2 p3 s H
    rw [fX5_nearest_4] at H
    refine x_iload_n (j := 3) G dX5_nearest_4 rfl rfl ?_
    refine x_aload_n (j := 0) G dX5_nearest_5 rfl rfl ?_
    refine gf_136 G sh_21 pt_21_0 dX5_nearest_6 ?_
    refine x_icmp_ge (tgt := 39) G dX5_nearest_9 (by decide) (fun q1 => ?_) (fun q1 => ?_)
    · have H := if_some_t H q1
      refine x_iload_n (j := 2) G dX5_nearest_39 rfl rfl ?_
      cases H
      exact x_iret G dX5_nearest_40
    · have H := if_some_f H q1
      refine x_aload_n (j := 0) G dX5_nearest_12 rfl rfl ?_
      refine gf_163 G sh_21 pt_21_6 dX5_nearest_13 ?_
      refine x_iload_n (j := 1) G dX5_nearest_16 rfl rfl ?_
      refine x_aald G dX5_nearest_17 H (fun g0 g1 x2 hx2 H => ?_)
      refine x_iload_n (j := 3) G dX5_nearest_18 rfl rfl ?_
      refine x_iald G dX5_nearest_19 H (fun x3 hx3 H => ?_)
      refine x_aload_n (j := 0) G dX5_nearest_20 rfl rfl ?_
      refine gf_163 G sh_21 pt_21_6 dX5_nearest_21 ?_
      refine x_iload_n (j := 1) G dX5_nearest_24 rfl rfl ?_
      refine x_aald G dX5_nearest_25 H (fun g0 g1 x4 hx4 H => ?_)
      refine x_iload_n (j := 2) G dX5_nearest_26 rfl rfl ?_
      refine x_iald G dX5_nearest_27 H (fun x5 hx5 H => ?_)
      refine x_icmp_ge (tgt := 33) G dX5_nearest_28 (by decide) (fun q6 => ?_) (fun q6 => ?_)
      · have H := if_some_t H q6
        refine x_iincL (j := 3) G dX5_nearest_33 rfl (by decide) H (fun v7 hv7 H => x_ls (ls' := [(3, vI v7), (0, vR 21), (1, vI p1), (2, vI p2)]) rfl ?_)
        refine x_goto (tgt := 4) G dX5_nearest_36 (by decide) ?_
        exact x_subp (ls' := [(0, vR 21), (1, vI p1), (2, vI p2), (3, vI v7)]) [1, 2, 3, 0] rfl (ih H)
      · have H := if_some_f H q6
        refine x_iload_n (j := 3) G dX5_nearest_31 rfl rfl ?_
        refine x_istore_n (ls' := [(2, vI p3), (0, vR 21), (1, vI p1), (3, vI p3)]) G dX5_nearest_32 rfl (by decide) rfl ?_
        refine x_iincL (j := 3) G dX5_nearest_33 rfl (by decide) H (fun v8 hv8 H => x_ls (ls' := [(3, vI v8), (2, vI p3), (0, vR 21), (1, vI p1)]) rfl ?_)
        refine x_goto (tgt := 4) G dX5_nearest_36 (by decide) ?_
        exact x_subp (ls' := [(0, vR 21), (1, vI p1), (2, vI p3), (3, vI v8)]) [2, 3, 1, 0] rfl (ih H)
def fX5_nearest (a1 : Int) (s : Mem) : Option (Int × Mem) :=
  fX5_nearest_4 600 a1 0 1 s
set_option maxHeartbeats 4000000 in
theorem rX5_nearest {E : En} {xf : Int} {sf : Mem} {a1 : Int} {s : Mem}  (H : fX5_nearest a1 s = some (xf, sf)) : ab_Run E 0 yX5_nearest cX5_nearest 4 (some .int) [vR 21, vI a1] (some (vI xf)) s sf := by
  unfold fX5_nearest at H
  refine ab_intro (own := RX5) (by decide +kernel) rfl (Nat.le_of_ble_eq_true rfl) rfl (fun b G => ?_)
  refine x_iconst G dX5_nearest_0 (by decide) ?_
  refine x_istore_n (ls' := [(2, vI 0), (0, vR 21), (1, vI a1)]) G dX5_nearest_1 rfl (by decide) rfl ?_
  refine x_iconst G dX5_nearest_2 (by decide) ?_
  refine x_istore_n (ls' := [(3, vI 1), (2, vI 0), (0, vR 21), (1, vI a1)]) G dX5_nearest_3 rfl (by decide) rfl ?_
  exact x_subp (ls' := [(0, vR 21), (1, vI a1), (2, vI 0), (3, vI 1)]) [2, 3, 1, 0] rfl (tX5_nearest_4 G 600 H)
def fX4_follow_107 (k29 : Int → Int → Nat → Int → Mem → Option Mem) (k39 : Int → Int → Nat → Int → Int → Mem → Option Mem) (p1 : Int) (p2 : Int) (p3 : Nat) (p4 : Int) (p5 : Int) (t0 : Nat) (t1 : Int) (t2 : Int) (t3 : Int) (s : Mem) : Option Mem :=
  (fX3_send t0 t1 t2 t3 s).bind fun s2 =>
  lt' (w32 (p5 + 1)) fun v3 =>
  k39 p1 p2 p3 p4 v3 s2
set_option maxHeartbeats 4000000 in
theorem tX4_follow_107 {E : En} {b : Bn} {sf : Mem} {k29 : Int → Int → Nat → Int → Mem → Option Mem} {k39 : Int → Int → Nat → Int → Int → Mem → Option Mem} {p1 : Int} {p2 : Int} {p3 : Nat} {p4 : Int} {p5 : Int} {t0 : Nat} {t1 : Int} {t2 : Int} {t3 : Int} {s : Mem} (G : ab_G E b cX4_follow 6 RX4 none 3) (hp3 : ab_sh p3 = (1, 3, 0)) (ht0 : ab_sh t0 = (1, 3, 0)) (K29 : ∀ {p1 : Int} {p2 : Int} {p3 : Nat} {p4 : Int} {s : Mem}, ab_sh p3 = (1, 3, 0) →  k29 p1 p2 p3 p4 s = some sf → ab_X E b (ab_MQ E b none sf) 6 29 [(0, vR 131), (1, vI p1), (2, vI p2), (3, vR p3), (4, vI p4)] [] s) (K39 : ∀ {p1 : Int} {p2 : Int} {p3 : Nat} {p4 : Int} {p5 : Int} {s : Mem}, ab_sh p3 = (1, 3, 0) →  k39 p1 p2 p3 p4 p5 s = some sf → ab_X E b (ab_MQ E b none sf) 6 39 [(0, vR 131), (1, vI p1), (2, vI p2), (3, vR p3), (4, vI p4), (5, vI p5)] [] s) (H : fX4_follow_107 k29 k39 p1 p2 p3 p4 p5 t0 t1 t2 t3 s = some sf) : ab_X E b (ab_MQ E b none sf) 6 107 [(0, vR 131), (1, vI p1), (2, vI p2), (3, vR p3), (4, vI p4), (5, vI p5)] [vI t3, vI t2, vI t1, vR t0] s := by
  unfold fX4_follow_107 at H
  obtain ⟨s2, c2, H⟩ := bd_some H
  refine cv_745 (As := [vI t1, vI t2, vI t3]) (rest := []) G (rX3_send ht0 c2) ht0 (by omega) rfl rfl (Nat.le_of_ble_eq_true rfl) dX4_follow_107 ?_
  refine x_iincL (j := 5) G dX4_follow_110 rfl (by decide) H (fun v3 hv3 H => x_ls (ls' := [(5, vI v3), (0, vR 131), (1, vI p1), (2, vI p2), (3, vR p3), (4, vI p4)]) rfl ?_)
  refine x_goto (tgt := 39) G dX4_follow_113 (by decide) ?_
  exact x_subp (ls' := [(0, vR 131), (1, vI p1), (2, vI p2), (3, vR p3), (4, vI p4), (5, vI v3)]) [1, 2, 3, 4, 5, 0] rfl (K39 hp3 H)
def fX4_follow_39 (k29 : Int → Int → Nat → Int → Mem → Option Mem) : Nat → Int → Int → Nat → Int → Int → Mem → Option Mem
  | 0, _, _, _, _, _, _ => none
  | n + 1, p1, p2, p3, p4, p5, s =>
  if (s 21 1) ≤ p5 then
    lt' (w32 (p4 + 1)) fun v2 =>
    k29 p1 p2 p3 v2 s
  else
    (rdI s (ab_pt p3 0) p5).bind fun x3 =>
    if x3 = 24 then
      b2 (fX4_runs p1 p2 p4 p5 p3 s) fun r6 s7 =>
      if r6 = 0 then
        lt' (w32 (p5 + 1)) fun v9 =>
        fX4_follow_39 k29 n p1 p2 p3 p4 v9 s7
      else
        if p1 = 3 then
          b2 (fX4_likeliest p5 p4 s7) fun r13 s14 =>
          fX4_follow_107 k29 (fun p1 p2 p3 p4 p5 s => fX4_follow_39 k29 n p1 p2 p3 p4 p5 s) p1 p2 p3 p4 p5 p3 p5 p4 r13 s14
        else
          b2 (fX5_nearest p5 s7) fun r11 s12 =>
          fX4_follow_107 k29 (fun p1 p2 p3 p4 p5 s => fX4_follow_39 k29 n p1 p2 p3 p4 p5 s) p1 p2 p3 p4 p5 p3 p5 p4 r11 s12
    else
      lt' (w32 (p5 + 1)) fun v5 =>
      fX4_follow_39 k29 n p1 p2 p3 p4 v5 s
set_option maxHeartbeats 4000000 in
theorem tX4_follow_39 {E : En} {b : Bn} {sf : Mem} {k29 : Int → Int → Nat → Int → Mem → Option Mem} (G : ab_G E b cX4_follow 6 RX4 none 3) (K29 : ∀ {p1 : Int} {p2 : Int} {p3 : Nat} {p4 : Int} {s : Mem}, ab_sh p3 = (1, 3, 0) →  k29 p1 p2 p3 p4 s = some sf → ab_X E b (ab_MQ E b none sf) 6 29 [(0, vR 131), (1, vI p1), (2, vI p2), (3, vR p3), (4, vI p4)] [] s) : ∀ (n : Nat) {p1 : Int} {p2 : Int} {p3 : Nat} {p4 : Int} {p5 : Int} {s : Mem} (hp3 : ab_sh p3 = (1, 3, 0)), fX4_follow_39 k29 n p1 p2 p3 p4 p5 s = some sf → ab_X E b (ab_MQ E b none sf) 6 39 [(0, vR 131), (1, vI p1), (2, vI p2), (3, vR p3), (4, vI p4), (5, vI p5)] [] s := by
  intro n
  induction n with
  | zero => intro p1 p2 p3 p4 p5 s hp3 H; rw [fX4_follow_39] at H; cases H
  | succ n ih =>
    intro p1 p2 p3 p4 p5 s hp3 H
    rw [fX4_follow_39] at H
    refine x_iload (j := 5) G dX4_follow_39 rfl ?_
    refine x_aload_n (j := 0) G dX4_follow_41 rfl rfl ?_
    refine gf_302 G sh_131 pt_131_0 dX4_follow_42 ?_
    refine gf_143 G sh_21 pt_21_1 dX4_follow_45 ?_
    refine x_icmp_ge (tgt := 116) G dX4_follow_48 (by decide) (fun q1 => ?_) (fun q1 => ?_)
    · have H := if_some_t H q1
      refine x_iincL (j := 4) G dX4_follow_116 rfl (by decide) H (fun v2 hv2 H => x_ls (ls' := [(4, vI v2), (0, vR 131), (1, vI p1), (2, vI p2), (3, vR p3), (5, vI p5)]) rfl ?_)
      refine x_goto (tgt := 29) G dX4_follow_119 (by decide) ?_
      exact x_subp (ls' := [(0, vR 131), (1, vI p1), (2, vI p2), (3, vR p3), (4, vI v2)]) [1, 2, 3, 4, 0] rfl (K29 hp3 H)
    · have H := if_some_f H q1
      refine x_aload_n (j := 3) G dX4_follow_51 rfl rfl ?_
      refine gf_223 G hp3 (pc_3_0 hp3) dX4_follow_52 ?_
      refine x_iload (j := 5) G dX4_follow_55 rfl ?_
      refine x_iald G dX4_follow_57 H (fun x3 hx3 H => ?_)
      refine x_bipush G dX4_follow_58 (by decide) (by decide) ?_
      refine x_icmp_ne (tgt := 110) G dX4_follow_60 (by decide) (fun q4 => ?_) (fun q4 => ?_)
      · have H := if_some_f H q4
        refine x_iincL (j := 5) G dX4_follow_110 rfl (by decide) H (fun v5 hv5 H => x_ls (ls' := [(5, vI v5), (0, vR 131), (1, vI p1), (2, vI p2), (3, vR p3), (4, vI p4)]) rfl ?_)
        refine x_goto (tgt := 39) G dX4_follow_113 (by decide) ?_
        exact x_subp (ls' := [(0, vR 131), (1, vI p1), (2, vI p2), (3, vR p3), (4, vI p4), (5, vI v5)]) [1, 2, 3, 4, 5, 0] rfl (ih hp3 H)
      · have H := if_some_t H q4
        refine x_aload_n (j := 0) G dX4_follow_63 rfl rfl ?_
        refine x_iload_n (j := 1) G dX4_follow_64 rfl rfl ?_
        refine x_iload_n (j := 2) G dX4_follow_65 rfl rfl ?_
        refine x_iload (j := 4) G dX4_follow_66 rfl ?_
        refine x_iload (j := 5) G dX4_follow_68 rfl ?_
        refine x_aload_n (j := 3) G dX4_follow_70 rfl rfl ?_
        obtain ⟨r6, s7, c7, H⟩ := b2_some H
        refine cv_723 (As := [vI p1, vI p2, vI p4, vI p5, vR p3]) (rest := []) G (rX4_runs hp3 c7) sh_131 (by omega) rfl rfl (Nat.le_of_ble_eq_true rfl) dX4_follow_71 ?_
        refine x_if_eq (tgt := 110) G dX4_follow_74 (by decide) (fun q8 => ?_) (fun q8 => ?_)
        · have H := if_some_t H q8
          refine x_iincL (j := 5) G dX4_follow_110 rfl (by decide) H (fun v9 hv9 H => x_ls (ls' := [(5, vI v9), (0, vR 131), (1, vI p1), (2, vI p2), (3, vR p3), (4, vI p4)]) rfl ?_)
          refine x_goto (tgt := 39) G dX4_follow_113 (by decide) ?_
          exact x_subp (ls' := [(0, vR 131), (1, vI p1), (2, vI p2), (3, vR p3), (4, vI p4), (5, vI v9)]) [1, 2, 3, 4, 5, 0] rfl (ih hp3 H)
        · have H := if_some_f H q8
          refine x_aload_n (j := 3) G dX4_follow_77 rfl rfl ?_
          refine x_iload (j := 5) G dX4_follow_78 rfl ?_
          refine x_iload (j := 4) G dX4_follow_80 rfl ?_
          refine x_iload_n (j := 1) G dX4_follow_82 rfl rfl ?_
          refine x_iconst G dX4_follow_83 (by decide) ?_
          refine x_icmp_ne (tgt := 98) G dX4_follow_84 (by decide) (fun q10 => ?_) (fun q10 => ?_)
          · have H := if_some_f H q10
            refine x_aload_n (j := 0) G dX4_follow_98 rfl rfl ?_
            refine gf_302 G sh_131 pt_131_0 dX4_follow_99 ?_
            refine x_iload (j := 5) G dX4_follow_102 rfl ?_
            obtain ⟨r11, s12, c12, H⟩ := b2_some H
            refine cv_741 (As := [vI p5]) (rest := [vI p4, vI p5, vR p3]) G (rX5_nearest  c12) sh_21 (by omega) rfl rfl (Nat.le_of_ble_eq_true rfl) dX4_follow_104 ?_
            exact x_subp (ls' := [(0, vR 131), (1, vI p1), (2, vI p2), (3, vR p3), (4, vI p4), (5, vI p5)]) [0, 1, 2, 3, 4, 5] rfl (tX4_follow_107 G hp3 hp3 K29 ih H)
          · have H := if_some_t H q10
            refine x_aload_n (j := 0) G dX4_follow_87 rfl rfl ?_
            refine x_iload (j := 5) G dX4_follow_88 rfl ?_
            refine x_iload (j := 4) G dX4_follow_90 rfl ?_
            obtain ⟨r13, s14, c14, H⟩ := b2_some H
            refine cv_731 (As := [vI p5, vI p4]) (rest := [vI p4, vI p5, vR p3]) G (rX4_likeliest  c14) sh_131 (by omega) rfl rfl (Nat.le_of_ble_eq_true rfl) dX4_follow_92 ?_
            refine x_goto (tgt := 107) G dX4_follow_95 (by decide) ?_
            exact x_subp (ls' := [(0, vR 131), (1, vI p1), (2, vI p2), (3, vR p3), (4, vI p4), (5, vI p5)]) [0, 1, 2, 3, 4, 5] rfl (tX4_follow_107 G hp3 hp3 K29 ih H)
def fX4_follow_29  : Nat → Int → Int → Nat → Int → Mem → Option Mem
  | 0, _, _, _, _, _ => none
  | n + 1, p1, p2, p3, p4, s =>
  if 24 ≤ p4 then
    some s
  else
    fX4_follow_39 (fun p1 p2 p3 p4 s => fX4_follow_29 n p1 p2 p3 p4 s) 600 p1 p2 p3 p4 0 s
set_option maxHeartbeats 4000000 in
theorem tX4_follow_29 {E : En} {b : Bn} {sf : Mem}  (G : ab_G E b cX4_follow 6 RX4 none 3)  : ∀ (n : Nat) {p1 : Int} {p2 : Int} {p3 : Nat} {p4 : Int} {s : Mem} (hp3 : ab_sh p3 = (1, 3, 0)), fX4_follow_29 n p1 p2 p3 p4 s = some sf → ab_X E b (ab_MQ E b none sf) 6 29 [(0, vR 131), (1, vI p1), (2, vI p2), (3, vR p3), (4, vI p4)] [] s := by
  intro n
  induction n with
  | zero => intro p1 p2 p3 p4 s hp3 H; rw [fX4_follow_29] at H; cases H
  | succ n ih =>
    intro p1 p2 p3 p4 s hp3 H
    rw [fX4_follow_29] at H
    refine x_iload (j := 4) G dX4_follow_29 rfl ?_
    refine x_bipush G dX4_follow_31 (by decide) (by decide) ?_
    refine x_icmp_ge (tgt := 122) G dX4_follow_33 (by decide) (fun q1 => ?_) (fun q1 => ?_)
    · have H := if_some_t H q1
      cases H
      exact x_vret G dX4_follow_122
    · have H := if_some_f H q1
      refine x_iconst G dX4_follow_36 (by decide) ?_
      refine x_istore (ls' := [(5, vI 0), (0, vR 131), (1, vI p1), (2, vI p2), (3, vR p3), (4, vI p4)]) G dX4_follow_37 (by decide) rfl ?_
      exact x_subp (ls' := [(0, vR 131), (1, vI p1), (2, vI p2), (3, vR p3), (4, vI p4), (5, vI 0)]) [1, 2, 3, 4, 5, 0] rfl (tX4_follow_39 G ih 600 hp3 H)
def fX4_follow (a1 : Int) (a2 : Int) (a3 : Nat) (s : Mem) : Option Mem :=
  if a1 = 0 then
    (fX3_copyFrom a3 110 s).bind fun s6 =>
    some s6
  else
    (fX3_stayAll a3 s).bind fun s3 =>
    if a1 = 4 then
      some s3
    else
      fX4_follow_29 600 a1 a2 a3 0 s3
set_option maxHeartbeats 4000000 in
theorem rX4_follow {E : En} {sf : Mem} {a1 : Int} {a2 : Int} {a3 : Nat} {s : Mem} (q3 : ab_sh a3 = (1, 3, 0)) (H : fX4_follow a1 a2 a3 s = some sf) : ab_Run E 3 yX4_follow cX4_follow 6 none [vR 131, vI a1, vI a2, vR a3] none s sf := by
  unfold fX4_follow at H
  refine ab_intro (own := RX4) (by decide +kernel) rfl (Nat.le_of_ble_eq_true rfl) rfl (fun b G => ?_)
  refine x_iload_n (j := 1) G dX4_follow_0 rfl rfl ?_
  refine x_if_ne (tgt := 16) G dX4_follow_1 (by decide) (fun q1 => ?_) (fun q1 => ?_)
  · have H := if_some_f H q1
    refine x_aload_n (j := 3) G dX4_follow_16 rfl rfl ?_
    obtain ⟨s3, c3, H⟩ := bd_some H
    refine cv_722 (As := []) (rest := []) G (rX3_stayAll q3 c3) q3 (by omega) rfl rfl (Nat.le_of_ble_eq_true rfl) dX4_follow_17 ?_
    refine x_iload_n (j := 1) G dX4_follow_20 rfl rfl ?_
    refine x_iconst G dX4_follow_21 (by decide) ?_
    refine x_icmp_ne (tgt := 26) G dX4_follow_22 (by decide) (fun q4 => ?_) (fun q4 => ?_)
    · have H := if_some_f H q4
      refine x_iconst G dX4_follow_26 (by decide) ?_
      refine x_istore (ls' := [(4, vI 0), (0, vR 131), (1, vI a1), (2, vI a2), (3, vR a3)]) G dX4_follow_27 (by decide) rfl ?_
      exact x_subp (ls' := [(0, vR 131), (1, vI a1), (2, vI a2), (3, vR a3), (4, vI 0)]) [1, 2, 3, 4, 0] rfl (tX4_follow_29 G 600 q3 H)
    · have H := if_some_t H q4
      cases H
      exact x_vret G dX4_follow_25
  · have H := if_some_t H q1
    refine x_aload_n (j := 3) G dX4_follow_4 rfl rfl ?_
    refine x_aload_n (j := 0) G dX4_follow_5 rfl rfl ?_
    refine gf_303 G sh_131 pt_131_1 dX4_follow_6 ?_
    refine gf_236 G sh_109 pt_109_0 dX4_follow_9 ?_
    obtain ⟨s6, c6, H⟩ := bd_some H
    refine cv_718 (As := [vR 110]) (rest := []) G (rX3_copyFrom q3 sh_110 c6) q3 (by omega) rfl rfl (Nat.le_of_ble_eq_true rfl) dX4_follow_12 ?_
    cases H
    exact x_vret G dX4_follow_15
def fX5_clear_76 (k46 : Int → Mem → Option Mem) : Nat → Int → Int → Mem → Option Mem
  | 0, _, _, _ => none
  | n + 1, p1, p2, s =>
  if 24 ≤ p2 then
    lt' (w32 (p1 + 1)) fun v2 =>
    k46 v2 s
  else
    (rdG 42 p1).bind fun x3 =>
    (wrI s x3 p2 0).bind fun s4 =>
    lt' (w32 (p2 + 1)) fun v5 =>
    fX5_clear_76 k46 n p1 v5 s4
set_option maxHeartbeats 4000000 in
theorem tX5_clear_76 {E : En} {b : Bn} {sf : Mem} {k46 : Int → Mem → Option Mem} (G : ab_G E b cX5_clear 3 RX5 none 0) (K46 : ∀ {p1 : Int} {s : Mem},  k46 p1 s = some sf → ab_X E b (ab_MQ E b none sf) 3 46 [(0, vR 21), (1, vI p1)] [] s) : ∀ (n : Nat) {p1 : Int} {p2 : Int} {s : Mem}, fX5_clear_76 k46 n p1 p2 s = some sf → ab_X E b (ab_MQ E b none sf) 3 76 [(0, vR 21), (1, vI p1), (2, vI p2)] [] s := by
  intro n
  induction n with
  | zero => intro p1 p2 s H; rw [fX5_clear_76] at H; cases H
  | succ n ih =>
    intro p1 p2 s H
    rw [fX5_clear_76] at H
    refine x_iload_n (j := 2) G dX5_clear_76 rfl rfl ?_
    refine x_bipush G dX5_clear_77 (by decide) (by decide) ?_
    refine x_icmp_ge (tgt := 97) G dX5_clear_79 (by decide) (fun q1 => ?_) (fun q1 => ?_)
    · have H := if_some_t H q1
      refine x_iincL (j := 1) G dX5_clear_97 rfl (by decide) H (fun v2 hv2 H => x_ls (ls' := [(1, vI v2), (0, vR 21), (2, vI p2)]) rfl ?_)
      refine x_goto (tgt := 46) G dX5_clear_100 (by decide) ?_
      exact x_subp (ls' := [(0, vR 21), (1, vI v2)]) [1, 0] rfl (K46 H)
    · have H := if_some_f H q1
      refine x_aload_n (j := 0) G dX5_clear_82 rfl rfl ?_
      refine gf_166 G sh_21 pt_21_7 dX5_clear_83 ?_
      refine x_iload_n (j := 1) G dX5_clear_86 rfl rfl ?_
      refine x_aald G dX5_clear_87 H (fun g0 g1 x3 hx3 H => ?_)
      refine x_iload_n (j := 2) G dX5_clear_88 rfl rfl ?_
      refine x_iconst G dX5_clear_89 (by decide) ?_
      refine x_iast G dX5_clear_90 H (fun s4 hs4 H => ?_)
      refine x_iincL (j := 2) G dX5_clear_91 rfl (by decide) H (fun v5 hv5 H => x_ls (ls' := [(2, vI v5), (0, vR 21), (1, vI p1)]) rfl ?_)
      refine x_goto (tgt := 76) G dX5_clear_94 (by decide) ?_
      exact x_subp (ls' := [(0, vR 21), (1, vI p1), (2, vI v5)]) [1, 2, 0] rfl (ih H)
def fX5_clear_53 (k46 : Int → Mem → Option Mem) : Nat → Int → Int → Mem → Option Mem
  | 0, _, _, _ => none
  | n + 1, p1, p2, s =>
  if 4 ≤ p2 then
    fX5_clear_76 k46 600 p1 0 s
  else
    (rdG 37 p1).bind fun x2 =>
    (wrI s x2 p2 20).bind fun s3 =>
    lt' (w32 (p2 + 1)) fun v4 =>
    fX5_clear_53 k46 n p1 v4 s3
set_option maxHeartbeats 4000000 in
theorem tX5_clear_53 {E : En} {b : Bn} {sf : Mem} {k46 : Int → Mem → Option Mem} (G : ab_G E b cX5_clear 3 RX5 none 0) (K46 : ∀ {p1 : Int} {s : Mem},  k46 p1 s = some sf → ab_X E b (ab_MQ E b none sf) 3 46 [(0, vR 21), (1, vI p1)] [] s) : ∀ (n : Nat) {p1 : Int} {p2 : Int} {s : Mem}, fX5_clear_53 k46 n p1 p2 s = some sf → ab_X E b (ab_MQ E b none sf) 3 53 [(0, vR 21), (1, vI p1), (2, vI p2)] [] s := by
  intro n
  induction n with
  | zero => intro p1 p2 s H; rw [fX5_clear_53] at H; cases H
  | succ n ih =>
    intro p1 p2 s H
    rw [fX5_clear_53] at H
    refine x_iload_n (j := 2) G dX5_clear_53 rfl rfl ?_
    refine x_iconst G dX5_clear_54 (by decide) ?_
    refine x_icmp_ge (tgt := 74) G dX5_clear_55 (by decide) (fun q1 => ?_) (fun q1 => ?_)
    · have H := if_some_t H q1
      refine x_iconst G dX5_clear_74 (by decide) ?_
      refine x_istore_n (ls' := [(2, vI 0), (0, vR 21), (1, vI p1)]) G dX5_clear_75 rfl (by decide) rfl ?_
      exact x_subp (ls' := [(0, vR 21), (1, vI p1), (2, vI 0)]) [1, 2, 0] rfl (tX5_clear_76 G K46 600 H)
    · have H := if_some_f H q1
      refine x_aload_n (j := 0) G dX5_clear_58 rfl rfl ?_
      refine gf_163 G sh_21 pt_21_6 dX5_clear_59 ?_
      refine x_iload_n (j := 1) G dX5_clear_62 rfl rfl ?_
      refine x_aald G dX5_clear_63 H (fun g0 g1 x2 hx2 H => ?_)
      refine x_iload_n (j := 2) G dX5_clear_64 rfl rfl ?_
      refine x_bipush G dX5_clear_65 (by decide) (by decide) ?_
      refine x_iast G dX5_clear_67 H (fun s3 hs3 H => ?_)
      refine x_iincL (j := 2) G dX5_clear_68 rfl (by decide) H (fun v4 hv4 H => x_ls (ls' := [(2, vI v4), (0, vR 21), (1, vI p1)]) rfl ?_)
      refine x_goto (tgt := 53) G dX5_clear_71 (by decide) ?_
      exact x_subp (ls' := [(0, vR 21), (1, vI p1), (2, vI v4)]) [1, 2, 0] rfl (ih H)
def fX5_clear_46  : Nat → Int → Mem → Option Mem
  | 0, _, _ => none
  | n + 1, p1, s =>
  if 4 ≤ p1 then
    some s
  else
    fX5_clear_53 (fun p1 s => fX5_clear_46 n p1 s) 600 p1 0 s
set_option maxHeartbeats 4000000 in
theorem tX5_clear_46 {E : En} {b : Bn} {sf : Mem}  (G : ab_G E b cX5_clear 3 RX5 none 0)  : ∀ (n : Nat) {p1 : Int} {s : Mem}, fX5_clear_46 n p1 s = some sf → ab_X E b (ab_MQ E b none sf) 3 46 [(0, vR 21), (1, vI p1)] [] s := by
  intro n
  induction n with
  | zero => intro p1 s H; rw [fX5_clear_46] at H; cases H
  | succ n ih =>
    intro p1 s H
    rw [fX5_clear_46] at H
    refine x_iload_n (j := 1) G dX5_clear_46 rfl rfl ?_
    refine x_iconst G dX5_clear_47 (by decide) ?_
    refine x_icmp_ge (tgt := 103) G dX5_clear_48 (by decide) (fun q1 => ?_) (fun q1 => ?_)
    · have H := if_some_t H q1
      cases H
      exact x_vret G dX5_clear_103
    · have H := if_some_f H q1
      refine x_iconst G dX5_clear_51 (by decide) ?_
      refine x_istore_n (ls' := [(2, vI 0), (0, vR 21), (1, vI p1)]) G dX5_clear_52 rfl (by decide) rfl ?_
      exact x_subp (ls' := [(0, vR 21), (1, vI p1), (2, vI 0)]) [1, 2, 0] rfl (tX5_clear_53 G ih 600 H)
def fX5_clear_22  : Nat → Int → Mem → Option Mem
  | 0, _, _ => none
  | n + 1, p1, s =>
  ck ((ab_sh 47).1 = 2 ∧ (ab_sh 47).2.1 < 1000) <|
  if ((lenI 47 : Int)) ≤ p1 then
    fX5_clear_46 600 0 s
  else
    (wrI s 47 p1 0).bind fun s2 =>
    lt' (w32 (p1 + 1)) fun v3 =>
    fX5_clear_22 n v3 s2
set_option maxHeartbeats 4000000 in
theorem tX5_clear_22 {E : En} {b : Bn} {sf : Mem}  (G : ab_G E b cX5_clear 3 RX5 none 0)  : ∀ (n : Nat) {p1 : Int} {s : Mem}, fX5_clear_22 n p1 s = some sf → ab_X E b (ab_MQ E b none sf) 3 22 [(0, vR 21), (1, vI p1)] [] s := by
  intro n
  induction n with
  | zero => intro p1 s H; rw [fX5_clear_22] at H; cases H
  | succ n ih =>
    intro p1 s H
    rw [fX5_clear_22] at H
    refine x_iload_n (j := 1) G dX5_clear_22 rfl rfl ?_
    refine x_aload_n (j := 0) G dX5_clear_23 rfl rfl ?_
    refine gf_169 G sh_21 pt_21_8 dX5_clear_24 ?_
    obtain ⟨hlo, H⟩ := ck_some H
    refine x_ilen G dX5_clear_27 hlo.1 hlo.2 ?_
    refine x_icmp_ge (tgt := 44) G dX5_clear_28 (by decide) (fun q1 => ?_) (fun q1 => ?_)
    · have H := if_some_t H q1
      refine x_iconst G dX5_clear_44 (by decide) ?_
      refine x_istore_n (ls' := [(1, vI 0), (0, vR 21)]) G dX5_clear_45 rfl (by decide) rfl ?_
      exact x_subp (ls' := [(0, vR 21), (1, vI 0)]) [1, 0] rfl (tX5_clear_46 G 600 H)
    · have H := if_some_f H q1
      refine x_aload_n (j := 0) G dX5_clear_31 rfl rfl ?_
      refine gf_169 G sh_21 pt_21_8 dX5_clear_32 ?_
      refine x_iload_n (j := 1) G dX5_clear_35 rfl rfl ?_
      refine x_iconst G dX5_clear_36 (by decide) ?_
      refine x_iast G dX5_clear_37 H (fun s2 hs2 H => ?_)
      refine x_iincL (j := 1) G dX5_clear_38 rfl (by decide) H (fun v3 hv3 H => x_ls (ls' := [(1, vI v3), (0, vR 21)]) rfl ?_)
      refine x_goto (tgt := 22) G dX5_clear_41 (by decide) ?_
      exact x_subp (ls' := [(0, vR 21), (1, vI v3)]) [1, 0] rfl (ih H)
def fX5_clear  (s : Mem) : Option Mem :=
  lt' (mu s 21 0 0) fun s1 =>
  lt' (mu s1 21 1 0) fun s2 =>
  lt' (mu s2 21 2 0) fun s3 =>
  lt' (mu s3 21 9 3) fun s4 =>
  fX5_clear_22 600 0 s4
set_option maxHeartbeats 4000000 in
theorem rX5_clear {E : En} {sf : Mem}  {s : Mem}  (H : fX5_clear  s = some sf) : ab_Run E 0 yX5_clear cX5_clear 3 none [vR 21] none s sf := by
  unfold fX5_clear at H
  refine ab_intro (own := RX5) (by decide +kernel) rfl (Nat.le_of_ble_eq_true rfl) rfl (fun b G => ?_)
  refine x_aload_n (j := 0) G dX5_clear_0 rfl rfl ?_
  refine x_iconst G dX5_clear_1 (by decide) ?_
  refine pf_136 G sh_21 pt_21_0 dX5_clear_2 H (fun s1 hs1 H => ?_)
  refine x_aload_n (j := 0) G dX5_clear_5 rfl rfl ?_
  refine x_iconst G dX5_clear_6 (by decide) ?_
  refine pf_142 G sh_21 pt_21_1 dX5_clear_7 H (fun s2 hs2 H => ?_)
  refine x_aload_n (j := 0) G dX5_clear_10 rfl rfl ?_
  refine x_iconst G dX5_clear_11 (by decide) ?_
  refine pf_146 G sh_21 pt_21_2 dX5_clear_12 H (fun s3 hs3 H => ?_)
  refine x_aload_n (j := 0) G dX5_clear_15 rfl rfl ?_
  refine x_iconst G dX5_clear_16 (by decide) ?_
  refine pf_170 G sh_21 pt_21_9 dX5_clear_17 H (fun s4 hs4 H => ?_)
  refine x_iconst G dX5_clear_20 (by decide) ?_
  refine x_istore_n (ls' := [(1, vI 0), (0, vR 21)]) G dX5_clear_21 rfl (by decide) rfl ?_
  exact x_subp (ls' := [(0, vR 21), (1, vI 0)]) [1, 0] rfl (tX5_clear_22 G 600 H)
def fX5_copyRow_2  : Nat → Nat → Nat → Int → Mem → Option Mem
  | 0, _, _, _, _ => none
  | n + 1, p0, p1, p2, s =>
  ck ((ab_sh p1).1 = 2 ∧ (ab_sh p1).2.1 < 1000) <|
  if ((lenI p1 : Int)) ≤ p2 then
    some s
  else
    ck ((ab_sh p0).1 = 2 ∧ (ab_sh p0).2.1 < 1000) <|
    if ((lenI p0 : Int)) ≤ p2 then
      some s
    else
      (rdI s p0 p2).bind fun x3 =>
      (wrI s p1 p2 x3).bind fun s4 =>
      lt' (w32 (p2 + 1)) fun v5 =>
      fX5_copyRow_2 n p0 p1 v5 s4
set_option maxHeartbeats 4000000 in
theorem tX5_copyRow_2 {E : En} {b : Bn} {sf : Mem}  (G : ab_G E b cX5_copyRow 3 RX5 none 0)  : ∀ (n : Nat) {p0 : Nat} {p1 : Nat} {p2 : Int} {s : Mem}, fX5_copyRow_2 n p0 p1 p2 s = some sf → ab_X E b (ab_MQ E b none sf) 3 2 [(0, vR p0), (1, vR p1), (2, vI p2)] [] s := by
  intro n
  induction n with
  | zero => intro p0 p1 p2 s H; rw [fX5_copyRow_2] at H; cases H
  | succ n ih =>
    intro p0 p1 p2 s H
    rw [fX5_copyRow_2] at H
    refine x_iload_n (j := 2) G dX5_copyRow_2 rfl rfl ?_
    refine x_aload_n (j := 1) G dX5_copyRow_3 rfl rfl ?_
    obtain ⟨hlo, H⟩ := ck_some H
    refine x_ilen G dX5_copyRow_4 hlo.1 hlo.2 ?_
    refine x_icmp_ge (tgt := 26) G dX5_copyRow_5 (by decide) (fun q1 => ?_) (fun q1 => ?_)
    · have H := if_some_t H q1
      cases H
      exact x_vret G dX5_copyRow_26
    · have H := if_some_f H q1
      refine x_iload_n (j := 2) G dX5_copyRow_8 rfl rfl ?_
      refine x_aload_n (j := 0) G dX5_copyRow_9 rfl rfl ?_
      obtain ⟨hlo, H⟩ := ck_some H
      refine x_ilen G dX5_copyRow_10 hlo.1 hlo.2 ?_
      refine x_icmp_ge (tgt := 26) G dX5_copyRow_11 (by decide) (fun q2 => ?_) (fun q2 => ?_)
      · have H := if_some_t H q2
        cases H
        exact x_vret G dX5_copyRow_26
      · have H := if_some_f H q2
        refine x_aload_n (j := 1) G dX5_copyRow_14 rfl rfl ?_
        refine x_iload_n (j := 2) G dX5_copyRow_15 rfl rfl ?_
        refine x_aload_n (j := 0) G dX5_copyRow_16 rfl rfl ?_
        refine x_iload_n (j := 2) G dX5_copyRow_17 rfl rfl ?_
        refine x_iald G dX5_copyRow_18 H (fun x3 hx3 H => ?_)
        refine x_iast G dX5_copyRow_19 H (fun s4 hs4 H => ?_)
        refine x_iincL (j := 2) G dX5_copyRow_20 rfl (by decide) H (fun v5 hv5 H => x_ls (ls' := [(2, vI v5), (0, vR p0), (1, vR p1)]) rfl ?_)
        refine x_goto (tgt := 2) G dX5_copyRow_23 (by decide) ?_
        exact x_subp (ls' := [(0, vR p0), (1, vR p1), (2, vI v5)]) [1, 2, 0] rfl (ih H)
def fX5_copyRow (a0 : Nat) (a1 : Nat) (s : Mem) : Option Mem :=
  fX5_copyRow_2 600 a0 a1 0 s
set_option maxHeartbeats 4000000 in
theorem rX5_copyRow {E : En} {sf : Mem} {a0 : Nat} {a1 : Nat} {s : Mem}  (H : fX5_copyRow a0 a1 s = some sf) : ab_Run E 0 yX5_copyRow cX5_copyRow 3 none [vR a0, vR a1] none s sf := by
  unfold fX5_copyRow at H
  refine ab_intro (own := RX5) (by decide +kernel) rfl (Nat.le_of_ble_eq_true rfl) rfl (fun b G => ?_)
  refine x_iconst G dX5_copyRow_0 (by decide) ?_
  refine x_istore_n (ls' := [(2, vI 0), (0, vR a0), (1, vR a1)]) G dX5_copyRow_1 rfl (by decide) rfl ?_
  exact x_subp (ls' := [(0, vR a0), (1, vR a1), (2, vI 0)]) [1, 2, 0] rfl (tX5_copyRow_2 G 600 H)
def fX5_take (a1 : Int) (a2 : Nat) (s : Mem) : Option Mem :=
  if a1 = 98 then
    (rdG 27 (s 21 1)).bind fun x2 =>
    (fX5_copyRow a2 x2 s).bind fun s4 =>
    lt' (mu s4 21 1 (w32 ((s4 21 1) + 1))) fun s5 =>
    some s5
  else
  if a1 = 100 then
    (rdI s a2 0).bind fun x7 =>
    (rdG 37 x7).bind fun x8 =>
    (rdI s a2 1).bind fun x9 =>
    (rdI s a2 2).bind fun x10 =>
    (wrI s x8 x9 x10).bind fun s11 =>
    some s11
  else
  if a1 = 103 then
    (rdI s a2 0).bind fun x13 =>
    (rdG 42 x13).bind fun x14 =>
    (rdI s a2 1).bind fun x15 =>
    (rdI s a2 2).bind fun x16 =>
    (wrI s x14 x15 x16).bind fun s17 =>
    some s17
  else
  if a1 = 104 then
    (rdG 22 (s 21 0)).bind fun x19 =>
    (fX5_copyRow a2 x19 s).bind fun s21 =>
    lt' (mu s21 21 0 (w32 ((s21 21 0) + 1))) fun s22 =>
    some s22
  else
  if a1 = 114 then
    (rdI s a2 0).bind fun x24 =>
    (rdI s a2 1).bind fun x25 =>
    (wrI s 47 x24 x25).bind fun s26 =>
    some s26
  else
  if a1 = 115 then
    (rdG 32 (s 21 2)).bind fun x28 =>
    (fX5_copyRow a2 x28 s).bind fun s30 =>
    lt' (mu s30 21 2 (w32 ((s30 21 2) + 1))) fun s31 =>
    some s31
  else
  if a1 = 119 then
    (rdI s a2 0).bind fun x33 =>
    lt' (mu s 21 9 x33) fun s34 =>
    some s34
  else
  some s
set_option maxHeartbeats 4000000 in
theorem rX5_take {E : En} {sf : Mem} {a1 : Int} {a2 : Nat} {s : Mem}  (H : fX5_take a1 a2 s = some sf) : ab_Run E 1 yX5_take cX5_take 3 none [vR 21, vI a1, vR a2] none s sf := by
  unfold fX5_take at H
  refine ab_intro (own := RX5) (by decide +kernel) rfl (Nat.le_of_ble_eq_true rfl) rfl (fun b G => ?_)
  refine x_iload_n (j := 1) G dX5_take_0 rfl rfl ?_
  by_cases q1 : a1 = 98
  · have H := if_some_t H q1
    refine x_table (tgt := 130) G dX5_take_1 (by rw [q1]; decide) (by decide) ?_
    refine x_aload_n (j := 2) G dX5_take_130 rfl rfl ?_
    refine x_aload_n (j := 0) G dX5_take_131 rfl rfl ?_
    refine gf_153 G sh_21 pt_21_4 dX5_take_132 ?_
    refine x_aload_n (j := 0) G dX5_take_135 rfl rfl ?_
    refine gf_142 G sh_21 pt_21_1 dX5_take_136 ?_
    refine x_aald G dX5_take_139 H (fun g0 g1 x2 hx2 H => ?_)
    obtain ⟨s4, c4, H⟩ := bd_some H
    refine cs_453 (As := [vR a2, vR x2]) (rest := []) G (rX5_copyRow  c4) (by omega) rfl rfl (Nat.le_of_ble_eq_true rfl) dX5_take_140 ?_
    refine x_aload_n (j := 0) G dX5_take_143 rfl rfl ?_
    refine x_dup G dX5_take_144 rfl ?_
    refine gf_142 G sh_21 pt_21_1 dX5_take_145 ?_
    refine x_iconst G dX5_take_148 (by decide) ?_
    refine x_iadd G dX5_take_149 ?_
    refine pf_142 G sh_21 pt_21_1 dX5_take_150 H (fun s5 hs5 H => ?_)
    refine x_goto (tgt := 242) G dX5_take_153 (by decide) ?_
    cases H
    exact x_vret G dX5_take_242
  have H := if_some_f H q1
  by_cases q6 : a1 = 100
  · have H := if_some_t H q6
    refine x_table (tgt := 182) G dX5_take_1 (by rw [q6]; decide) (by decide) ?_
    refine x_aload_n (j := 0) G dX5_take_182 rfl rfl ?_
    refine gf_163 G sh_21 pt_21_6 dX5_take_183 ?_
    refine x_aload_n (j := 2) G dX5_take_186 rfl rfl ?_
    refine x_iconst G dX5_take_187 (by decide) ?_
    refine x_iald G dX5_take_188 H (fun x7 hx7 H => ?_)
    refine x_aald G dX5_take_189 H (fun g0 g1 x8 hx8 H => ?_)
    refine x_aload_n (j := 2) G dX5_take_190 rfl rfl ?_
    refine x_iconst G dX5_take_191 (by decide) ?_
    refine x_iald G dX5_take_192 H (fun x9 hx9 H => ?_)
    refine x_aload_n (j := 2) G dX5_take_193 rfl rfl ?_
    refine x_iconst G dX5_take_194 (by decide) ?_
    refine x_iald G dX5_take_195 H (fun x10 hx10 H => ?_)
    refine x_iast G dX5_take_196 H (fun s11 hs11 H => ?_)
    refine x_goto (tgt := 242) G dX5_take_197 (by decide) ?_
    cases H
    exact x_vret G dX5_take_242
  have H := if_some_f H q6
  by_cases q12 : a1 = 103
  · have H := if_some_t H q12
    refine x_table (tgt := 200) G dX5_take_1 (by rw [q12]; decide) (by decide) ?_
    refine x_aload_n (j := 0) G dX5_take_200 rfl rfl ?_
    refine gf_166 G sh_21 pt_21_7 dX5_take_201 ?_
    refine x_aload_n (j := 2) G dX5_take_204 rfl rfl ?_
    refine x_iconst G dX5_take_205 (by decide) ?_
    refine x_iald G dX5_take_206 H (fun x13 hx13 H => ?_)
    refine x_aald G dX5_take_207 H (fun g0 g1 x14 hx14 H => ?_)
    refine x_aload_n (j := 2) G dX5_take_208 rfl rfl ?_
    refine x_iconst G dX5_take_209 (by decide) ?_
    refine x_iald G dX5_take_210 H (fun x15 hx15 H => ?_)
    refine x_aload_n (j := 2) G dX5_take_211 rfl rfl ?_
    refine x_iconst G dX5_take_212 (by decide) ?_
    refine x_iald G dX5_take_213 H (fun x16 hx16 H => ?_)
    refine x_iast G dX5_take_214 H (fun s17 hs17 H => ?_)
    refine x_goto (tgt := 242) G dX5_take_215 (by decide) ?_
    cases H
    exact x_vret G dX5_take_242
  have H := if_some_f H q12
  by_cases q18 : a1 = 104
  · have H := if_some_t H q18
    refine x_table (tgt := 104) G dX5_take_1 (by rw [q18]; decide) (by decide) ?_
    refine x_aload_n (j := 2) G dX5_take_104 rfl rfl ?_
    refine x_aload_n (j := 0) G dX5_take_105 rfl rfl ?_
    refine gf_151 G sh_21 pt_21_3 dX5_take_106 ?_
    refine x_aload_n (j := 0) G dX5_take_109 rfl rfl ?_
    refine gf_136 G sh_21 pt_21_0 dX5_take_110 ?_
    refine x_aald G dX5_take_113 H (fun g0 g1 x19 hx19 H => ?_)
    obtain ⟨s21, c21, H⟩ := bd_some H
    refine cs_453 (As := [vR a2, vR x19]) (rest := []) G (rX5_copyRow  c21) (by omega) rfl rfl (Nat.le_of_ble_eq_true rfl) dX5_take_114 ?_
    refine x_aload_n (j := 0) G dX5_take_117 rfl rfl ?_
    refine x_dup G dX5_take_118 rfl ?_
    refine gf_136 G sh_21 pt_21_0 dX5_take_119 ?_
    refine x_iconst G dX5_take_122 (by decide) ?_
    refine x_iadd G dX5_take_123 ?_
    refine pf_136 G sh_21 pt_21_0 dX5_take_124 H (fun s22 hs22 H => ?_)
    refine x_goto (tgt := 242) G dX5_take_127 (by decide) ?_
    cases H
    exact x_vret G dX5_take_242
  have H := if_some_f H q18
  by_cases q23 : a1 = 114
  · have H := if_some_t H q23
    refine x_table (tgt := 218) G dX5_take_1 (by rw [q23]; decide) (by decide) ?_
    refine x_aload_n (j := 0) G dX5_take_218 rfl rfl ?_
    refine gf_169 G sh_21 pt_21_8 dX5_take_219 ?_
    refine x_aload_n (j := 2) G dX5_take_222 rfl rfl ?_
    refine x_iconst G dX5_take_223 (by decide) ?_
    refine x_iald G dX5_take_224 H (fun x24 hx24 H => ?_)
    refine x_aload_n (j := 2) G dX5_take_225 rfl rfl ?_
    refine x_iconst G dX5_take_226 (by decide) ?_
    refine x_iald G dX5_take_227 H (fun x25 hx25 H => ?_)
    refine x_iast G dX5_take_228 H (fun s26 hs26 H => ?_)
    refine x_goto (tgt := 242) G dX5_take_229 (by decide) ?_
    cases H
    exact x_vret G dX5_take_242
  have H := if_some_f H q23
  by_cases q27 : a1 = 115
  · have H := if_some_t H q27
    refine x_table (tgt := 156) G dX5_take_1 (by rw [q27]; decide) (by decide) ?_
    refine x_aload_n (j := 2) G dX5_take_156 rfl rfl ?_
    refine x_aload_n (j := 0) G dX5_take_157 rfl rfl ?_
    refine gf_158 G sh_21 pt_21_5 dX5_take_158 ?_
    refine x_aload_n (j := 0) G dX5_take_161 rfl rfl ?_
    refine gf_146 G sh_21 pt_21_2 dX5_take_162 ?_
    refine x_aald G dX5_take_165 H (fun g0 g1 x28 hx28 H => ?_)
    obtain ⟨s30, c30, H⟩ := bd_some H
    refine cs_453 (As := [vR a2, vR x28]) (rest := []) G (rX5_copyRow  c30) (by omega) rfl rfl (Nat.le_of_ble_eq_true rfl) dX5_take_166 ?_
    refine x_aload_n (j := 0) G dX5_take_169 rfl rfl ?_
    refine x_dup G dX5_take_170 rfl ?_
    refine gf_146 G sh_21 pt_21_2 dX5_take_171 ?_
    refine x_iconst G dX5_take_174 (by decide) ?_
    refine x_iadd G dX5_take_175 ?_
    refine pf_146 G sh_21 pt_21_2 dX5_take_176 H (fun s31 hs31 H => ?_)
    refine x_goto (tgt := 242) G dX5_take_179 (by decide) ?_
    cases H
    exact x_vret G dX5_take_242
  have H := if_some_f H q27
  by_cases q32 : a1 = 119
  · have H := if_some_t H q32
    refine x_table (tgt := 232) G dX5_take_1 (by rw [q32]; decide) (by decide) ?_
    refine x_aload_n (j := 0) G dX5_take_232 rfl rfl ?_
    refine x_aload_n (j := 2) G dX5_take_233 rfl rfl ?_
    refine x_iconst G dX5_take_234 (by decide) ?_
    refine x_iald G dX5_take_235 H (fun x33 hx33 H => ?_)
    refine pf_170 G sh_21 pt_21_9 dX5_take_236 H (fun s34 hs34 H => ?_)
    refine x_goto (tgt := 242) G dX5_take_239 (by decide) ?_
    cases H
    exact x_vret G dX5_take_242
  have H := if_some_f H q32
  refine x_table (tgt := 242) G dX5_take_1 ?_ (by decide) ?_
  · by_cases g9 : a1 < 98 ∨ 119 < a1
    · rw [if_pos g9]; decide
    · rw [if_neg g9]
      rcases (show a1 = 98 ∨ a1 = 99 ∨ a1 = 100 ∨ a1 = 101 ∨ a1 = 102 ∨ a1 = 103 ∨ a1 = 104 ∨ a1 = 105 ∨ a1 = 106 ∨ a1 = 107 ∨ a1 = 108 ∨ a1 = 109 ∨ a1 = 110 ∨ a1 = 111 ∨ a1 = 112 ∨ a1 = 113 ∨ a1 = 114 ∨ a1 = 115 ∨ a1 = 116 ∨ a1 = 117 ∨ a1 = 118 ∨ a1 = 119 by omega) with h9 | h9 | h9 | h9 | h9 | h9 | h9 | h9 | h9 | h9 | h9 | h9 | h9 | h9 | h9 | h9 | h9 | h9 | h9 | h9 | h9 | h9 <;> first | exact absurd h9 q1 | exact absurd h9 q6 | exact absurd h9 q12 | exact absurd h9 q18 | exact absurd h9 q23 | exact absurd h9 q27 | exact absurd h9 q32 | (rw [h9]; decide)
  · skip
    cases H
    exact x_vret G dX5_take_242
def fX5_strengthOf (a0 : Nat) (a1 : Int) (s : Mem) : Option (Int × Mem) :=
  (rdI s a0 1).bind fun x1 =>
  if a1 < x1 then
    some (0, s)
  else
    (rdI s a0 1).bind fun x3 =>
    (rdI s a0 4).bind fun x4 =>
    if a1 < (w32 (x3 + x4)) then
      (rdI s a0 3).bind fun x6 =>
      (rdI s a0 2).bind fun x7 =>
      (rdI s a0 1).bind fun x8 =>
      some (imin x6 (w32 (x7 * (w32 ((w32 (a1 - x8)) + 1)))), s)
    else
      some (0, s)
set_option maxHeartbeats 4000000 in
theorem rX5_strengthOf {E : En} {xf : Int} {sf : Mem} {a0 : Nat} {a1 : Int} {s : Mem}  (H : fX5_strengthOf a0 a1 s = some (xf, sf)) : ab_Run E 1 yX5_strengthOf cX5_strengthOf 2 (some .int) [vR a0, vI a1] (some (vI xf)) s sf := by
  unfold fX5_strengthOf at H
  refine ab_intro (own := RX5) (by decide +kernel) rfl (Nat.le_of_ble_eq_true rfl) rfl (fun b G => ?_)
  refine x_iload_n (j := 1) G dX5_strengthOf_0 rfl rfl ?_
  refine x_aload_n (j := 0) G dX5_strengthOf_1 rfl rfl ?_
  refine x_iconst G dX5_strengthOf_2 (by decide) ?_
  refine x_iald G dX5_strengthOf_3 H (fun x1 hx1 H => ?_)
  refine x_icmp_lt (tgt := 18) G dX5_strengthOf_4 (by decide) (fun q2 => ?_) (fun q2 => ?_)
  · have H := if_some_t H q2
    refine x_iconst G dX5_strengthOf_18 (by decide) ?_
    cases H
    exact x_iret G dX5_strengthOf_19
  · have H := if_some_f H q2
    refine x_iload_n (j := 1) G dX5_strengthOf_7 rfl rfl ?_
    refine x_aload_n (j := 0) G dX5_strengthOf_8 rfl rfl ?_
    refine x_iconst G dX5_strengthOf_9 (by decide) ?_
    refine x_iald G dX5_strengthOf_10 H (fun x3 hx3 H => ?_)
    refine x_aload_n (j := 0) G dX5_strengthOf_11 rfl rfl ?_
    refine x_iconst G dX5_strengthOf_12 (by decide) ?_
    refine x_iald G dX5_strengthOf_13 H (fun x4 hx4 H => ?_)
    refine x_iadd G dX5_strengthOf_14 ?_
    refine x_icmp_lt (tgt := 20) G dX5_strengthOf_15 (by decide) (fun q5 => ?_) (fun q5 => ?_)
    · have H := if_some_t H q5
      refine x_aload_n (j := 0) G dX5_strengthOf_20 rfl rfl ?_
      refine x_iconst G dX5_strengthOf_21 (by decide) ?_
      refine x_iald G dX5_strengthOf_22 H (fun x6 hx6 H => ?_)
      refine x_aload_n (j := 0) G dX5_strengthOf_23 rfl rfl ?_
      refine x_iconst G dX5_strengthOf_24 (by decide) ?_
      refine x_iald G dX5_strengthOf_25 H (fun x7 hx7 H => ?_)
      refine x_iload_n (j := 1) G dX5_strengthOf_26 rfl rfl ?_
      refine x_aload_n (j := 0) G dX5_strengthOf_27 rfl rfl ?_
      refine x_iconst G dX5_strengthOf_28 (by decide) ?_
      refine x_iald G dX5_strengthOf_29 H (fun x8 hx8 H => ?_)
      refine x_isub G dX5_strengthOf_30 ?_
      refine x_iconst G dX5_strengthOf_31 (by decide) ?_
      refine x_iadd G dX5_strengthOf_32 ?_
      refine x_imul G dX5_strengthOf_33 ?_
      refine cm_463 (rest := []) G (by omega) (Nat.le_of_ble_eq_true rfl) dX5_strengthOf_34 ?_
      cases H
      exact x_iret G dX5_strengthOf_37
    · have H := if_some_f H q5
      refine x_iconst G dX5_strengthOf_18 (by decide) ?_
      cases H
      exact x_iret G dX5_strengthOf_19
def fX5_openHoursOf_65 (k34 : Int → Int → Int → Int → Int → Mem → Option (Int × Mem)) (p1 : Int) (p2 : Int) (p3 : Int) (p4 : Int) (p5 : Int) (s : Mem) : Option (Int × Mem) :=
  lt' (orI p4 (shlI 1 p5)) fun v1 =>
  lt' (w32 (p5 + 1)) fun v2 =>
  k34 p1 p2 p3 v1 v2 s
set_option maxHeartbeats 4000000 in
theorem tX5_openHoursOf_65 {E : En} {b : Bn} {xf : Int} {sf : Mem} {k34 : Int → Int → Int → Int → Int → Mem → Option (Int × Mem)} {p1 : Int} {p2 : Int} {p3 : Int} {p4 : Int} {p5 : Int} {s : Mem} (G : ab_G E b cX5_openHoursOf 6 RX5 (some .int) 0)  (K34 : ∀ {p1 : Int} {p2 : Int} {p3 : Int} {p4 : Int} {p5 : Int} {s : Mem},  k34 p1 p2 p3 p4 p5 s = some (xf, sf) → ab_X E b (ab_MQ E b (some (vI xf)) sf) 6 34 [(0, vR 21), (1, vI p1), (2, vI p2), (3, vI p3), (4, vI p4), (5, vI p5)] [] s) (H : fX5_openHoursOf_65 k34 p1 p2 p3 p4 p5 s = some (xf, sf)) : ab_X E b (ab_MQ E b (some (vI xf)) sf) 6 65 [(0, vR 21), (1, vI p1), (2, vI p2), (3, vI p3), (4, vI p4), (5, vI p5)] [] s := by
  unfold fX5_openHoursOf_65 at H
  refine x_iload (j := 4) G dX5_openHoursOf_65 rfl ?_
  refine x_iconst G dX5_openHoursOf_67 (by decide) ?_
  refine x_iload (j := 5) G dX5_openHoursOf_68 rfl ?_
  refine x_ishl G dX5_openHoursOf_70 ?_
  refine x_ior G dX5_openHoursOf_71 ?_
  refine x_let H (fun v1 hv1 H => ?_)
  refine x_istore (ls' := [(4, vI v1), (0, vR 21), (1, vI p1), (2, vI p2), (3, vI p3), (5, vI p5)]) G dX5_openHoursOf_72 (by decide) rfl ?_
  refine x_iincL (j := 5) G dX5_openHoursOf_74 rfl (by decide) H (fun v2 hv2 H => x_ls (ls' := [(5, vI v2), (4, vI v1), (0, vR 21), (1, vI p1), (2, vI p2), (3, vI p3)]) rfl ?_)
  refine x_goto (tgt := 34) G dX5_openHoursOf_77 (by decide) ?_
  exact x_subp (ls' := [(0, vR 21), (1, vI p1), (2, vI p2), (3, vI p3), (4, vI v1), (5, vI v2)]) [2, 3, 4, 5, 1, 0] rfl (K34 H)
def fX5_openHoursOf_34  : Nat → Int → Int → Int → Int → Int → Mem → Option (Int × Mem)
  | 0, _, _, _, _, _, _ => none
  | n + 1, p1, p2, p3, p4, p5, s =>
  if 24 ≤ p5 then
    some (p4, s)
  else
    if p3 = 0 then
      (rdG 48 p2).bind fun x3 =>
      (rdI s x3 p5).bind fun x4 =>
      (rdG 22 p1).bind fun x5 =>
      (rdI s x5 2).bind fun x6 =>
      if x6 ≤ x4 then
        lt' (w32 (p5 + 1)) fun v8 =>
        fX5_openHoursOf_34 n p1 p2 p3 p4 v8 s
      else
        fX5_openHoursOf_65 (fun p1 p2 p3 p4 p5 s => fX5_openHoursOf_34 n p1 p2 p3 p4 p5 s) p1 p2 p3 p4 p5 s
    else
      fX5_openHoursOf_65 (fun p1 p2 p3 p4 p5 s => fX5_openHoursOf_34 n p1 p2 p3 p4 p5 s) p1 p2 p3 p4 p5 s
set_option maxHeartbeats 4000000 in
theorem tX5_openHoursOf_34 {E : En} {b : Bn} {xf : Int} {sf : Mem}  (G : ab_G E b cX5_openHoursOf 6 RX5 (some .int) 0)  : ∀ (n : Nat) {p1 : Int} {p2 : Int} {p3 : Int} {p4 : Int} {p5 : Int} {s : Mem}, fX5_openHoursOf_34 n p1 p2 p3 p4 p5 s = some (xf, sf) → ab_X E b (ab_MQ E b (some (vI xf)) sf) 6 34 [(0, vR 21), (1, vI p1), (2, vI p2), (3, vI p3), (4, vI p4), (5, vI p5)] [] s := by
  intro n
  induction n with
  | zero => intro p1 p2 p3 p4 p5 s H; rw [fX5_openHoursOf_34] at H; cases H
  | succ n ih =>
    intro p1 p2 p3 p4 p5 s H
    rw [fX5_openHoursOf_34] at H
    refine x_iload (j := 5) G dX5_openHoursOf_34 rfl ?_
    refine x_bipush G dX5_openHoursOf_36 (by decide) (by decide) ?_
    refine x_icmp_ge (tgt := 80) G dX5_openHoursOf_38 (by decide) (fun q1 => ?_) (fun q1 => ?_)
    · have H := if_some_t H q1
      refine x_iload (j := 4) G dX5_openHoursOf_80 rfl ?_
      cases H
      exact x_iret G dX5_openHoursOf_82
    · have H := if_some_f H q1
      refine x_iload_n (j := 3) G dX5_openHoursOf_41 rfl rfl ?_
      refine x_if_ne (tgt := 65) G dX5_openHoursOf_42 (by decide) (fun q2 => ?_) (fun q2 => ?_)
      · have H := if_some_f H q2
        exact x_subp (ls' := [(0, vR 21), (1, vI p1), (2, vI p2), (3, vI p3), (4, vI p4), (5, vI p5)]) [0, 1, 2, 3, 4, 5] rfl (tX5_openHoursOf_65 G  ih H)
      · have H := if_some_t H q2
        refine x_aload_n (j := 0) G dX5_openHoursOf_45 rfl rfl ?_
        refine gf_171 G sh_21 pt_21_10 dX5_openHoursOf_46 ?_
        refine x_iload_n (j := 2) G dX5_openHoursOf_49 rfl rfl ?_
        refine x_aald G dX5_openHoursOf_50 H (fun g0 g1 x3 hx3 H => ?_)
        refine x_iload (j := 5) G dX5_openHoursOf_51 rfl ?_
        refine x_iald G dX5_openHoursOf_53 H (fun x4 hx4 H => ?_)
        refine x_aload_n (j := 0) G dX5_openHoursOf_54 rfl rfl ?_
        refine gf_151 G sh_21 pt_21_3 dX5_openHoursOf_55 ?_
        refine x_iload_n (j := 1) G dX5_openHoursOf_58 rfl rfl ?_
        refine x_aald G dX5_openHoursOf_59 H (fun g0 g1 x5 hx5 H => ?_)
        refine x_iconst G dX5_openHoursOf_60 (by decide) ?_
        refine x_iald G dX5_openHoursOf_61 H (fun x6 hx6 H => ?_)
        refine x_icmp_ge (tgt := 74) G dX5_openHoursOf_62 (by decide) (fun q7 => ?_) (fun q7 => ?_)
        · have H := if_some_t H q7
          refine x_iincL (j := 5) G dX5_openHoursOf_74 rfl (by decide) H (fun v8 hv8 H => x_ls (ls' := [(5, vI v8), (0, vR 21), (1, vI p1), (2, vI p2), (3, vI p3), (4, vI p4)]) rfl ?_)
          refine x_goto (tgt := 34) G dX5_openHoursOf_77 (by decide) ?_
          exact x_subp (ls' := [(0, vR 21), (1, vI p1), (2, vI p2), (3, vI p3), (4, vI p4), (5, vI v8)]) [1, 2, 3, 4, 5, 0] rfl (ih H)
        · have H := if_some_f H q7
          exact x_subp (ls' := [(0, vR 21), (1, vI p1), (2, vI p2), (3, vI p3), (4, vI p4), (5, vI p5)]) [0, 1, 2, 3, 4, 5] rfl (tX5_openHoursOf_65 G  ih H)
def fX5_openHoursOf_27  (p1 : Int) (p2 : Int) (t0 : Int) (s : Mem) : Option (Int × Mem) :=
  fX5_openHoursOf_34 600 p1 p2 t0 0 0 s
set_option maxHeartbeats 4000000 in
theorem tX5_openHoursOf_27 {E : En} {b : Bn} {xf : Int} {sf : Mem}  {p1 : Int} {p2 : Int} {t0 : Int} {s : Mem} (G : ab_G E b cX5_openHoursOf 6 RX5 (some .int) 0)   (H : fX5_openHoursOf_27 p1 p2 t0 s = some (xf, sf)) : ab_X E b (ab_MQ E b (some (vI xf)) sf) 6 27 [(0, vR 21), (1, vI p1), (2, vI p2)] [vI t0] s := by
  unfold fX5_openHoursOf_27 at H
  refine x_istore_n (ls' := [(3, vI t0), (0, vR 21), (1, vI p1), (2, vI p2)]) G dX5_openHoursOf_27 rfl (by decide) rfl ?_
  refine x_iconst G dX5_openHoursOf_28 (by decide) ?_
  refine x_istore (ls' := [(4, vI 0), (3, vI t0), (0, vR 21), (1, vI p1), (2, vI p2)]) G dX5_openHoursOf_29 (by decide) rfl ?_
  refine x_iconst G dX5_openHoursOf_31 (by decide) ?_
  refine x_istore (ls' := [(5, vI 0), (4, vI 0), (3, vI t0), (0, vR 21), (1, vI p1), (2, vI p2)]) G dX5_openHoursOf_32 (by decide) rfl ?_
  exact x_subp (ls' := [(0, vR 21), (1, vI p1), (2, vI p2), (3, vI t0), (4, vI 0), (5, vI 0)]) [3, 4, 5, 2, 1, 0] rfl (tX5_openHoursOf_34 G 600 H)
def fX5_openHoursOf (a1 : Int) (a2 : Int) (s : Mem) : Option (Int × Mem) :=
  (rdG 22 a1).bind fun x1 =>
  (rdI s x1 3).bind fun x2 =>
  (rdG 32 a2).bind fun x3 =>
  (rdI s x3 5).bind fun x4 =>
  if (andI (shrI x2 x4) 1) = 0 then
    fX5_openHoursOf_27 a1 a2 1 s
  else
    fX5_openHoursOf_27 a1 a2 0 s
set_option maxHeartbeats 4000000 in
theorem rX5_openHoursOf {E : En} {xf : Int} {sf : Mem} {a1 : Int} {a2 : Int} {s : Mem}  (H : fX5_openHoursOf a1 a2 s = some (xf, sf)) : ab_Run E 0 yX5_openHoursOf cX5_openHoursOf 6 (some .int) [vR 21, vI a1, vI a2] (some (vI xf)) s sf := by
  unfold fX5_openHoursOf at H
  refine ab_intro (own := RX5) (by decide +kernel) rfl (Nat.le_of_ble_eq_true rfl) rfl (fun b G => ?_)
  refine x_aload_n (j := 0) G dX5_openHoursOf_0 rfl rfl ?_
  refine gf_151 G sh_21 pt_21_3 dX5_openHoursOf_1 ?_
  refine x_iload_n (j := 1) G dX5_openHoursOf_4 rfl rfl ?_
  refine x_aald G dX5_openHoursOf_5 H (fun g0 g1 x1 hx1 H => ?_)
  refine x_iconst G dX5_openHoursOf_6 (by decide) ?_
  refine x_iald G dX5_openHoursOf_7 H (fun x2 hx2 H => ?_)
  refine x_aload_n (j := 0) G dX5_openHoursOf_8 rfl rfl ?_
  refine gf_158 G sh_21 pt_21_5 dX5_openHoursOf_9 ?_
  refine x_iload_n (j := 2) G dX5_openHoursOf_12 rfl rfl ?_
  refine x_aald G dX5_openHoursOf_13 H (fun g0 g1 x3 hx3 H => ?_)
  refine x_iconst G dX5_openHoursOf_14 (by decide) ?_
  refine x_iald G dX5_openHoursOf_15 H (fun x4 hx4 H => ?_)
  refine x_ishr G dX5_openHoursOf_16 ?_
  refine x_iconst G dX5_openHoursOf_17 (by decide) ?_
  refine x_iand G dX5_openHoursOf_18 ?_
  refine x_if_ne (tgt := 26) G dX5_openHoursOf_19 (by decide) (fun q5 => ?_) (fun q5 => ?_)
  · have H := if_some_f H q5
    refine x_iconst G dX5_openHoursOf_26 (by decide) ?_
    exact x_subp (ls' := [(0, vR 21), (1, vI a1), (2, vI a2)]) [0, 1, 2] rfl (tX5_openHoursOf_27 G  H)
  · have H := if_some_t H q5
    refine x_iconst G dX5_openHoursOf_22 (by decide) ?_
    refine x_goto (tgt := 27) G dX5_openHoursOf_23 (by decide) ?_
    exact x_subp (ls' := [(0, vR 21), (1, vI a1), (2, vI a2)]) [0, 1, 2] rfl (tX5_openHoursOf_27 G  H)
def fX5_riskOf (a1 : Int) (a2 : Int) (a3 : Int) (s : Mem) : Option (Int × Mem) :=
  (rdG 48 a2).bind fun x1 =>
  (rdI s x1 a3).bind fun x2 =>
  (rdI s 47 x2).bind fun x3 =>
  (rdG 27 a1).bind fun x4 =>
  (rdI s x4 4).bind fun x5 =>
  some (imin 999 (w32 (x3 * x5)), s)
set_option maxHeartbeats 4000000 in
theorem rX5_riskOf {E : En} {xf : Int} {sf : Mem} {a1 : Int} {a2 : Int} {a3 : Int} {s : Mem}  (H : fX5_riskOf a1 a2 a3 s = some (xf, sf)) : ab_Run E 1 yX5_riskOf cX5_riskOf 4 (some .int) [vR 21, vI a1, vI a2, vI a3] (some (vI xf)) s sf := by
  unfold fX5_riskOf at H
  refine ab_intro (own := RX5) (by decide +kernel) rfl (Nat.le_of_ble_eq_true rfl) rfl (fun b G => ?_)
  refine x_sipush G dX5_riskOf_0 (by decide) (by decide) ?_
  refine x_aload_n (j := 0) G dX5_riskOf_3 rfl rfl ?_
  refine gf_169 G sh_21 pt_21_8 dX5_riskOf_4 ?_
  refine x_aload_n (j := 0) G dX5_riskOf_7 rfl rfl ?_
  refine gf_171 G sh_21 pt_21_10 dX5_riskOf_8 ?_
  refine x_iload_n (j := 2) G dX5_riskOf_11 rfl rfl ?_
  refine x_aald G dX5_riskOf_12 H (fun g0 g1 x1 hx1 H => ?_)
  refine x_iload_n (j := 3) G dX5_riskOf_13 rfl rfl ?_
  refine x_iald G dX5_riskOf_14 H (fun x2 hx2 H => ?_)
  refine x_iald G dX5_riskOf_15 H (fun x3 hx3 H => ?_)
  refine x_aload_n (j := 0) G dX5_riskOf_16 rfl rfl ?_
  refine gf_153 G sh_21 pt_21_4 dX5_riskOf_17 ?_
  refine x_iload_n (j := 1) G dX5_riskOf_20 rfl rfl ?_
  refine x_aald G dX5_riskOf_21 H (fun g0 g1 x4 hx4 H => ?_)
  refine x_iconst G dX5_riskOf_22 (by decide) ?_
  refine x_iald G dX5_riskOf_23 H (fun x5 hx5 H => ?_)
  refine x_imul G dX5_riskOf_24 ?_
  refine cm_463 (rest := []) G (by omega) (Nat.le_of_ble_eq_true rfl) dX5_riskOf_25 ?_
  cases H
  exact x_iret G dX5_riskOf_28
def fX5_reckonBank_36  : Nat → Int → Int → Nat → Nat → Int → Mem → Option Mem
  | 0, _, _, _, _, _, _ => none
  | n + 1, p1, p2, p3, p4, p5, s =>
  if 24 ≤ p5 then
    some s
  else
    (rdL s p4 p5).bind fun x2 =>
    (rdG 27 p2).bind fun x3 =>
    (rdI s x3 2).bind fun x4 =>
    (rdI s p3 p5).bind fun x5 =>
    (wrL s p4 (w32 (p5 + 1)) (w64 (x2 + (w64 (x4 * x5))))).bind fun s6 =>
    (rdI s6 p3 p5).bind fun x7 =>
    b2 (fX5_riskOf p2 p1 p5 s6) fun r8 s9 =>
    (wrI s9 p3 (w32 (p5 + 1)) (w32 (Int.tdiv (w32 (x7 * (w32 (1000 - r8)))) 1000))).bind fun s10 =>
    lt' (w32 (p5 + 1)) fun v11 =>
    fX5_reckonBank_36 n p1 p2 p3 p4 v11 s10
set_option maxHeartbeats 4000000 in
theorem tX5_reckonBank_36 {E : En} {b : Bn} {sf : Mem}  (G : ab_G E b cX5_reckonBank 6 RX5 none 2)  : ∀ (n : Nat) {p1 : Int} {p2 : Int} {p3 : Nat} {p4 : Nat} {p5 : Int} {s : Mem}, fX5_reckonBank_36 n p1 p2 p3 p4 p5 s = some sf → ab_X E b (ab_MQ E b none sf) 6 36 [(0, vR 21), (1, vI p1), (2, vI p2), (3, vR p3), (4, vR p4), (5, vI p5)] [] s := by
  intro n
  induction n with
  | zero => intro p1 p2 p3 p4 p5 s H; rw [fX5_reckonBank_36] at H; cases H
  | succ n ih =>
    intro p1 p2 p3 p4 p5 s H
    rw [fX5_reckonBank_36] at H
    refine x_iload (j := 5) G dX5_reckonBank_36 rfl ?_
    refine x_bipush G dX5_reckonBank_38 (by decide) (by decide) ?_
    refine x_icmp_ge (tgt := 104) G dX5_reckonBank_40 (by decide) (fun q1 => ?_) (fun q1 => ?_)
    · have H := if_some_t H q1
      cases H
      exact x_vret G dX5_reckonBank_104
    · have H := if_some_f H q1
      refine x_aload (j := 4) G dX5_reckonBank_43 rfl ?_
      refine x_iload (j := 5) G dX5_reckonBank_45 rfl ?_
      refine x_iconst G dX5_reckonBank_47 (by decide) ?_
      refine x_iadd G dX5_reckonBank_48 ?_
      refine x_aload (j := 4) G dX5_reckonBank_49 rfl ?_
      refine x_iload (j := 5) G dX5_reckonBank_51 rfl ?_
      refine x_lald G dX5_reckonBank_53 H (fun x2 hx2 H => ?_)
      refine x_aload_n (j := 0) G dX5_reckonBank_54 rfl rfl ?_
      refine gf_153 G sh_21 pt_21_4 dX5_reckonBank_55 ?_
      refine x_iload_n (j := 2) G dX5_reckonBank_58 rfl rfl ?_
      refine x_aald G dX5_reckonBank_59 H (fun g0 g1 x3 hx3 H => ?_)
      refine x_iconst G dX5_reckonBank_60 (by decide) ?_
      refine x_iald G dX5_reckonBank_61 H (fun x4 hx4 H => ?_)
      refine x_i2l G dX5_reckonBank_62 ?_
      refine x_aload_n (j := 3) G dX5_reckonBank_63 rfl rfl ?_
      refine x_iload (j := 5) G dX5_reckonBank_64 rfl ?_
      refine x_iald G dX5_reckonBank_66 H (fun x5 hx5 H => ?_)
      refine x_i2l G dX5_reckonBank_67 ?_
      refine x_lmul G dX5_reckonBank_68 ?_
      refine x_ladd G dX5_reckonBank_69 ?_
      refine x_last G dX5_reckonBank_70 H (fun s6 hs6 H => ?_)
      refine x_aload_n (j := 3) G dX5_reckonBank_71 rfl rfl ?_
      refine x_iload (j := 5) G dX5_reckonBank_72 rfl ?_
      refine x_iconst G dX5_reckonBank_74 (by decide) ?_
      refine x_iadd G dX5_reckonBank_75 ?_
      refine x_aload_n (j := 3) G dX5_reckonBank_76 rfl rfl ?_
      refine x_iload (j := 5) G dX5_reckonBank_77 rfl ?_
      refine x_iald G dX5_reckonBank_79 H (fun x7 hx7 H => ?_)
      refine x_sipush G dX5_reckonBank_80 (by decide) (by decide) ?_
      refine x_aload_n (j := 0) G dX5_reckonBank_83 rfl rfl ?_
      refine x_iload_n (j := 2) G dX5_reckonBank_84 rfl rfl ?_
      refine x_iload_n (j := 1) G dX5_reckonBank_85 rfl rfl ?_
      refine x_iload (j := 5) G dX5_reckonBank_86 rfl ?_
      obtain ⟨r8, s9, c9, H⟩ := b2_some H
      refine cv_475 (As := [vI p2, vI p1, vI p5]) (rest := [vI 1000, vI x7, vI (w32 (p5 + 1)), vR p3]) G (rX5_riskOf  c9) sh_21 (by omega) rfl rfl (Nat.le_of_ble_eq_true rfl) dX5_reckonBank_88 ?_
      refine x_isub G dX5_reckonBank_91 ?_
      refine x_imul G dX5_reckonBank_92 ?_
      refine x_sipush G dX5_reckonBank_93 (by decide) (by decide) ?_
      refine x_idiv G dX5_reckonBank_96 (by decide) ?_
      refine x_iast G dX5_reckonBank_97 H (fun s10 hs10 H => ?_)
      refine x_iincL (j := 5) G dX5_reckonBank_98 rfl (by decide) H (fun v11 hv11 H => x_ls (ls' := [(5, vI v11), (0, vR 21), (1, vI p1), (2, vI p2), (3, vR p3), (4, vR p4)]) rfl ?_)
      refine x_goto (tgt := 36) G dX5_reckonBank_101 (by decide) ?_
      exact x_subp (ls' := [(0, vR 21), (1, vI p1), (2, vI p2), (3, vR p3), (4, vR p4), (5, vI v11)]) [1, 2, 3, 4, 5, 0] rfl (ih H)
def fX5_reckonBank (a1 : Int) (a2 : Int) (s : Mem) : Option Mem :=
  (rdG 58 (w32 ((w32 (a1 * 4)) + a2))).bind fun x1 =>
  (rdG 75 (w32 ((w32 (a1 * 4)) + a2))).bind fun x2 =>
  (wrI s x1 0 1000000).bind fun s3 =>
  (wrL s3 x2 0 0).bind fun s4 =>
  fX5_reckonBank_36 600 a1 a2 x1 x2 0 s4
set_option maxHeartbeats 4000000 in
theorem rX5_reckonBank {E : En} {sf : Mem} {a1 : Int} {a2 : Int} {s : Mem}  (H : fX5_reckonBank a1 a2 s = some sf) : ab_Run E 2 yX5_reckonBank cX5_reckonBank 6 none [vR 21, vI a1, vI a2] none s sf := by
  unfold fX5_reckonBank at H
  refine ab_intro (own := RX5) (by decide +kernel) rfl (Nat.le_of_ble_eq_true rfl) rfl (fun b G => ?_)
  refine x_aload_n (j := 0) G dX5_reckonBank_0 rfl rfl ?_
  refine gf_174 G sh_21 pt_21_12 dX5_reckonBank_1 ?_
  refine x_iload_n (j := 1) G dX5_reckonBank_4 rfl rfl ?_
  refine x_iconst G dX5_reckonBank_5 (by decide) ?_
  refine x_imul G dX5_reckonBank_6 ?_
  refine x_iload_n (j := 2) G dX5_reckonBank_7 rfl rfl ?_
  refine x_iadd G dX5_reckonBank_8 ?_
  refine x_aald G dX5_reckonBank_9 H (fun g0 g1 x1 hx1 H => ?_)
  refine x_astore_n (ls' := [(3, vR x1), (0, vR 21), (1, vI a1), (2, vI a2)]) G dX5_reckonBank_10 rfl (by decide) rfl ?_
  refine x_aload_n (j := 1) G dX5_reckonBank_11 rfl rfl ?_
  refine gf_175 G sh_21 pt_21_13 dX5_reckonBank_12 ?_
  refine x_iload_n (j := 2) G dX5_reckonBank_15 rfl rfl ?_
  refine x_iconst G dX5_reckonBank_16 (by decide) ?_
  refine x_imul G dX5_reckonBank_17 ?_
  refine x_iload_n (j := 3) G dX5_reckonBank_18 rfl rfl ?_
  refine x_iadd G dX5_reckonBank_19 ?_
  refine x_aald G dX5_reckonBank_20 H (fun g0 g1 x2 hx2 H => ?_)
  refine x_astore (ls' := [(4, vR x2), (3, vR x1), (0, vR 21), (1, vI a1), (2, vI a2)]) G dX5_reckonBank_21 (by decide) rfl ?_
  refine x_aload_n (j := 1) G dX5_reckonBank_23 rfl rfl ?_
  refine x_iconst G dX5_reckonBank_24 (by decide) ?_
  refine x_ldc (x := 1000000) G wd_474 dX5_reckonBank_25 (by decide) (by decide) ?_
  refine x_iast G dX5_reckonBank_27 H (fun s3 hs3 H => ?_)
  refine x_aload (j := 0) G dX5_reckonBank_28 rfl ?_
  refine x_iconst G dX5_reckonBank_30 (by decide) ?_
  refine x_lconst (x := 0) G dX5_reckonBank_31 (by decide) (by decide) ?_
  refine x_last G dX5_reckonBank_32 H (fun s4 hs4 H => ?_)
  refine x_iconst G dX5_reckonBank_33 (by decide) ?_
  refine x_istore (ls' := [(5, vI 0), (4, vR x2), (3, vR x1), (0, vR 21), (1, vI a1), (2, vI a2)]) G dX5_reckonBank_34 (by decide) rfl ?_
  exact x_subp (ls' := [(0, vR 21), (1, vI a1), (2, vI a2), (3, vR x1), (4, vR x2), (5, vI 0)]) [3, 4, 5, 2, 1, 0] rfl (tX5_reckonBank_36 G 600 H)

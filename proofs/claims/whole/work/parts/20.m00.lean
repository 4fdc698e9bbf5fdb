def fX5_arrivalAt_39 (k7 : Int → Int → Int → Int → Int → Mem → Option (Int × Mem)) (p1 : Int) (p2 : Int) (p3 : Int) (p5 : Int) (p6 : Int) (t0 : Int) (s : Mem) : Option (Int × Mem) :=
  lt' (w32 (p5 + (imax 1 (w32 (p1 - t0))))) fun v1 =>
  if v1 < p2 then
    lt' (w32 (p6 + 1)) fun v3 =>
    k7 p1 p2 p3 v1 v3 s
  else
    some (w32 (p6 + 1), s)
set_option maxHeartbeats 4000000 in
theorem tX5_arrivalAt_39 {E : En} {b : Bn} {xf : Int} {sf : Mem} {k7 : Int → Int → Int → Int → Int → Mem → Option (Int × Mem)} {p1 : Int} {p2 : Int} {p3 : Int} {p5 : Int} {p6 : Int} {t0 : Int} {s : Mem} (G : ab_G E b cX5_arrivalAt 8 RX5 (some .int) 1)  (K7 : ∀ {p1 : Int} {p2 : Int} {p3 : Int} {p5 : Int} {p6 : Int} {s : Mem},  k7 p1 p2 p3 p5 p6 s = some (xf, sf) → ab_X E b (ab_MQ E b (some (vI xf)) sf) 8 7 [(0, vR 21), (1, vI p1), (2, vI p2), (3, vI p3), (5, vI p5), (6, vI p6)] [] s) (H : fX5_arrivalAt_39 k7 p1 p2 p3 p5 p6 t0 s = some (xf, sf)) : ab_X E b (ab_MQ E b (some (vI xf)) sf) 8 39 [(0, vR 21), (1, vI p1), (2, vI p2), (3, vI p3), (5, vI p5), (6, vI p6)] [vI t0] s := by
  unfold fX5_arrivalAt_39 at H
  refine x_istore (ls' := [(7, vI t0), (0, vR 21), (1, vI p1), (2, vI p2), (3, vI p3), (5, vI p5), (6, vI p6)]) G dX5_arrivalAt_39 (by decide) rfl ?_
  refine x_iload (j := 5) G dX5_arrivalAt_41 rfl ?_
  refine x_iconst G dX5_arrivalAt_43 (by decide) ?_
  refine x_iload_n (j := 2) G dX5_arrivalAt_44 rfl rfl ?_
  refine x_iload (j := 0) G dX5_arrivalAt_45 rfl ?_
  refine x_isub G dX5_arrivalAt_47 ?_
  refine cm_487 (rest := [vI p5]) G (by omega) (Nat.le_of_ble_eq_true rfl) dX5_arrivalAt_48 ?_
  refine x_iadd G dX5_arrivalAt_51 ?_
  refine x_let H (fun v1 hv1 H => ?_)
  refine x_istore (ls' := [(5, vI v1), (7, vI t0), (0, vR 21), (1, vI p1), (2, vI p2), (3, vI p3), (6, vI p6)]) G dX5_arrivalAt_52 (by decide) rfl ?_
  refine x_iload (j := 0) G dX5_arrivalAt_54 rfl ?_
  refine x_iload_n (j := 4) G dX5_arrivalAt_56 rfl rfl ?_
  refine x_icmp_lt (tgt := 65) G dX5_arrivalAt_57 (by decide) (fun q2 => ?_) (fun q2 => ?_)
  · have H := if_some_t H q2
    refine x_iincL (j := 6) G dX5_arrivalAt_65 rfl (by decide) H (fun v3 hv3 H => x_ls (ls' := [(6, vI v3), (5, vI v1), (7, vI t0), (0, vR 21), (1, vI p1), (2, vI p2), (3, vI p3)]) rfl ?_)
    refine x_goto (tgt := 7) G dX5_arrivalAt_68 (by decide) ?_
    exact x_subp (ls' := [(0, vR 21), (1, vI p1), (2, vI p2), (3, vI p3), (5, vI v1), (6, vI v3)]) [3, 4, 5, 6, 1, 0] rfl (K7 H)
  · have H := if_some_f H q2
    refine x_iload (j := 6) G dX5_arrivalAt_60 rfl ?_
    refine x_iconst G dX5_arrivalAt_62 (by decide) ?_
    refine x_iadd G dX5_arrivalAt_63 ?_
    cases H
    exact x_iret G dX5_arrivalAt_64
def fX5_arrivalAt_7  : Nat → Int → Int → Int → Int → Int → Mem → Option (Int × Mem)
  | 0, _, _, _, _, _, _ => none
  | n + 1, p1, p2, p3, p5, p6, s =>
  if 24 ≤ p6 then
    some (24, s)
  else
    if (s 21 9) ≤ 0 then
      fX5_arrivalAt_39 (fun p1 p2 p3 p5 p6 s => fX5_arrivalAt_7 n p1 p2 p3 p5 p6 s) p1 p2 p3 p5 p6 0 s
    else
      (rdG 48 p3).bind fun x3 =>
      (rdI s x3 p6).bind fun x4 =>
      ck ((s 21 9) ≠ 0) <|
      fX5_arrivalAt_39 (fun p1 p2 p3 p5 p6 s => fX5_arrivalAt_7 n p1 p2 p3 p5 p6 s) p1 p2 p3 p5 p6 (w32 (Int.tdiv x4 (s 21 9))) s
set_option maxHeartbeats 4000000 in
theorem tX5_arrivalAt_7 {E : En} {b : Bn} {xf : Int} {sf : Mem}  (G : ab_G E b cX5_arrivalAt 8 RX5 (some .int) 1)  : ∀ (n : Nat) {p1 : Int} {p2 : Int} {p3 : Int} {p5 : Int} {p6 : Int} {s : Mem}, fX5_arrivalAt_7 n p1 p2 p3 p5 p6 s = some (xf, sf) → ab_X E b (ab_MQ E b (some (vI xf)) sf) 8 7 [(0, vR 21), (1, vI p1), (2, vI p2), (3, vI p3), (5, vI p5), (6, vI p6)] [] s := by
  intro n
  induction n with
  | zero => intro p1 p2 p3 p5 p6 s H; rw [fX5_arrivalAt_7] at H; cases H
  | succ n ih =>
    intro p1 p2 p3 p5 p6 s H
    rw [fX5_arrivalAt_7] at H
    refine x_iload (j := 5) G dX5_arrivalAt_7 rfl ?_
    refine x_bipush G dX5_arrivalAt_9 (by decide) (by decide) ?_
    refine x_icmp_ge (tgt := 71) G dX5_arrivalAt_11 (by decide) (fun q1 => ?_) (fun q1 => ?_)
    · have H := if_some_t H q1
      refine x_bipush G dX5_arrivalAt_71 (by decide) (by decide) ?_
      cases H
      exact x_iret G dX5_arrivalAt_73
    · have H := if_some_f H q1
      refine x_aload_n (j := 0) G dX5_arrivalAt_14 rfl rfl ?_
      refine gf_170 G sh_21 pt_21_9 dX5_arrivalAt_15 ?_
      refine x_if_le (tgt := 38) G dX5_arrivalAt_18 (by decide) (fun q2 => ?_) (fun q2 => ?_)
      · have H := if_some_t H q2
        refine x_iconst G dX5_arrivalAt_38 (by decide) ?_
        exact x_subp (ls' := [(0, vR 21), (1, vI p1), (2, vI p2), (3, vI p3), (5, vI p5), (6, vI p6)]) [0, 1, 2, 3, 4, 5] rfl (tX5_arrivalAt_39 G  ih H)
      · have H := if_some_f H q2
        refine x_aload_n (j := 0) G dX5_arrivalAt_21 rfl rfl ?_
        refine gf_171 G sh_21 pt_21_10 dX5_arrivalAt_22 ?_
        refine x_iload_n (j := 3) G dX5_arrivalAt_25 rfl rfl ?_
        refine x_aald G dX5_arrivalAt_26 H (fun g0 g1 x3 hx3 H => ?_)
        refine x_iload (j := 5) G dX5_arrivalAt_27 rfl ?_
        refine x_iald G dX5_arrivalAt_29 H (fun x4 hx4 H => ?_)
        refine x_aload_n (j := 0) G dX5_arrivalAt_30 rfl rfl ?_
        refine gf_170 G sh_21 pt_21_9 dX5_arrivalAt_31 ?_
        obtain ⟨hne, H⟩ := ck_some H
        refine x_idiv G dX5_arrivalAt_34 hne ?_
        refine x_goto (tgt := 39) G dX5_arrivalAt_35 (by decide) ?_
        exact x_subp (ls' := [(0, vR 21), (1, vI p1), (2, vI p2), (3, vI p3), (5, vI p5), (6, vI p6)]) [0, 1, 2, 3, 4, 5] rfl (tX5_arrivalAt_39 G  ih H)
def fX5_arrivalAt (a1 : Int) (a2 : Int) (a3 : Int) (a4 : Int) (s : Mem) : Option (Int × Mem) :=
  fX5_arrivalAt_7 600 a1 a2 a3 0 a4 s
set_option maxHeartbeats 4000000 in
theorem rX5_arrivalAt {E : En} {xf : Int} {sf : Mem} {a1 : Int} {a2 : Int} {a3 : Int} {a4 : Int} {s : Mem}  (H : fX5_arrivalAt a1 a2 a3 a4 s = some (xf, sf)) : ab_Run E 1 yX5_arrivalAt cX5_arrivalAt 8 (some .int) [vR 21, vI a1, vI a2, vI a3, vI a4] (some (vI xf)) s sf := by
  unfold fX5_arrivalAt at H
  refine ab_intro (own := RX5) (by decide +kernel) rfl (Nat.le_of_ble_eq_true rfl) rfl (fun b G => ?_)
  refine x_iconst G dX5_arrivalAt_0 (by decide) ?_
  refine x_istore (ls' := [(5, vI 0), (0, vR 21), (1, vI a1), (2, vI a2), (3, vI a3), (4, vI a4)]) G dX5_arrivalAt_1 (by decide) rfl ?_
  refine x_iload (j := 5) G dX5_arrivalAt_3 rfl ?_
  refine x_istore (ls' := [(6, vI a4), (5, vI 0), (0, vR 21), (1, vI a1), (2, vI a2), (3, vI a3), (4, vI a4)]) G dX5_arrivalAt_5 (by decide) rfl ?_
  exact x_subp (ls' := [(0, vR 21), (1, vI a1), (2, vI a2), (3, vI a3), (5, vI 0), (6, vI a4)]) [2, 3, 4, 5, 1, 0] rfl (tX5_arrivalAt_7 G 600 H)
def fX5_arrival (a1 : Int) (a2 : Int) (a3 : Int) (a4 : Int) (s : Mem) : Option (Int × Mem) :=
  if 24 ≤ a4 then
    some (24, s)
  else
    (rdG 92 (w32 ((w32 (a3 * 4)) + a1))).bind fun x2 =>
    (rdI s x2 (w32 ((w32 (a2 * 24)) + a4))).bind fun x3 =>
    some (x3, s)
set_option maxHeartbeats 4000000 in
theorem rX5_arrival {E : En} {xf : Int} {sf : Mem} {a1 : Int} {a2 : Int} {a3 : Int} {a4 : Int} {s : Mem}  (H : fX5_arrival a1 a2 a3 a4 s = some (xf, sf)) : ab_Run E 0 yX5_arrival cX5_arrival 5 (some .int) [vR 21, vI a1, vI a2, vI a3, vI a4] (some (vI xf)) s sf := by
  unfold fX5_arrival at H
  refine ab_intro (own := RX5) (by decide +kernel) rfl (Nat.le_of_ble_eq_true rfl) rfl (fun b G => ?_)
  refine x_iload (j := 4) G dX5_arrival_0 rfl ?_
  refine x_bipush G dX5_arrival_2 (by decide) (by decide) ?_
  refine x_icmp_ge (tgt := 28) G dX5_arrival_4 (by decide) (fun q1 => ?_) (fun q1 => ?_)
  · have H := if_some_t H q1
    refine x_bipush G dX5_arrival_28 (by decide) (by decide) ?_
    cases H
    exact x_iret G dX5_arrival_30
  · have H := if_some_f H q1
    refine x_aload_n (j := 0) G dX5_arrival_7 rfl rfl ?_
    refine gf_176 G sh_21 pt_21_14 dX5_arrival_8 ?_
    refine x_iload_n (j := 3) G dX5_arrival_11 rfl rfl ?_
    refine x_iconst G dX5_arrival_12 (by decide) ?_
    refine x_imul G dX5_arrival_13 ?_
    refine x_iload_n (j := 1) G dX5_arrival_14 rfl rfl ?_
    refine x_iadd G dX5_arrival_15 ?_
    refine x_aald G dX5_arrival_16 H (fun g0 g1 x2 hx2 H => ?_)
    refine x_iload_n (j := 2) G dX5_arrival_17 rfl rfl ?_
    refine x_bipush G dX5_arrival_18 (by decide) (by decide) ?_
    refine x_imul G dX5_arrival_20 ?_
    refine x_iload (j := 4) G dX5_arrival_21 rfl ?_
    refine x_iadd G dX5_arrival_23 ?_
    refine x_iald G dX5_arrival_24 H (fun x3 hx3 H => ?_)
    refine x_goto (tgt := 30) G dX5_arrival_25 (by decide) ?_
    cases H
    exact x_iret G dX5_arrival_30
def fX2_arrivalOf (a1 : Int) (a2 : Int) (a3 : Nat) (s : Mem) : Option (Int × Mem) :=
  (rdI s (ab_pt a3 0) a1).bind fun x1 =>
  (rdI s (ab_pt a3 1) a1).bind fun x2 =>
  if (andI (shrI (s 122 1) a1) 1) = 0 then
    b2 (fX5_arrival a1 x2 a2 x1 s) fun r4 s5 =>
    some (r4, s5)
  else
    (rdG 37 a1).bind fun x6 =>
    (rdI s x6 x2).bind fun x7 =>
    b2 (fX5_arrivalAt (s 122 2) x7 a2 x1 s) fun r8 s9 =>
    some (r8, s9)
set_option maxHeartbeats 4000000 in
theorem rX2_arrivalOf {E : En} {xf : Int} {sf : Mem} {a1 : Int} {a2 : Int} {a3 : Nat} {s : Mem} (q3 : ab_sh a3 = (1, 3, 0)) (H : fX2_arrivalOf a1 a2 a3 s = some (xf, sf)) : ab_Run E 2 yX2_arrivalOf cX2_arrivalOf 6 (some .int) [vR 122, vI a1, vI a2, vR a3] (some (vI xf)) s sf := by
  unfold fX2_arrivalOf at H
  refine ab_intro (own := RX2) (by decide +kernel) rfl (Nat.le_of_ble_eq_true rfl) rfl (fun b G => ?_)
  refine x_aload_n (j := 3) G dX2_arrivalOf_0 rfl rfl ?_
  refine gf_224 G q3 (pc_3_0 q3) dX2_arrivalOf_1 ?_
  refine x_iload_n (j := 1) G dX2_arrivalOf_4 rfl rfl ?_
  refine x_iald G dX2_arrivalOf_5 H (fun x1 hx1 H => ?_)
  refine x_istore (ls' := [(4, vI x1), (0, vR 122), (1, vI a1), (2, vI a2), (3, vR a3)]) G dX2_arrivalOf_6 (by decide) rfl ?_
  refine x_aload_n (j := 4) G dX2_arrivalOf_8 rfl rfl ?_
  refine gf_228 G q3 (pc_3_1 q3) dX2_arrivalOf_9 ?_
  refine x_iload_n (j := 2) G dX2_arrivalOf_12 rfl rfl ?_
  refine x_iald G dX2_arrivalOf_13 H (fun x2 hx2 H => ?_)
  refine x_istore (ls' := [(5, vI x2), (4, vI x1), (0, vR 122), (1, vI a1), (2, vI a2), (3, vR a3)]) G dX2_arrivalOf_14 (by decide) rfl ?_
  refine x_aload_n (j := 2) G dX2_arrivalOf_16 rfl rfl ?_
  refine gf_270 G sh_122 pt_122_1 dX2_arrivalOf_17 ?_
  refine x_iload_n (j := 3) G dX2_arrivalOf_20 rfl rfl ?_
  refine x_ishr G dX2_arrivalOf_21 ?_
  refine x_iconst G dX2_arrivalOf_22 (by decide) ?_
  refine x_iand G dX2_arrivalOf_23 ?_
  refine x_if_eq (tgt := 54) G dX2_arrivalOf_24 (by decide) (fun q3 => ?_) (fun q3 => ?_)
  · have H := if_some_t H q3
    refine x_aload_n (j := 2) G dX2_arrivalOf_54 rfl rfl ?_
    refine gf_269 G sh_122 pt_122_0 dX2_arrivalOf_55 ?_
    refine x_iload_n (j := 3) G dX2_arrivalOf_58 rfl rfl ?_
    refine x_iload (j := 0) G dX2_arrivalOf_59 rfl ?_
    refine x_iload_n (j := 4) G dX2_arrivalOf_61 rfl rfl ?_
    refine x_iload (j := 1) G dX2_arrivalOf_62 rfl ?_
    obtain ⟨r4, s5, c5, H⟩ := b2_some H
    refine cv_632 (As := [vI a1, vI x2, vI a2, vI x1]) (rest := []) G (rX5_arrival  c5) sh_21 (by omega) rfl rfl (Nat.le_of_ble_eq_true rfl) dX2_arrivalOf_64 ?_
    cases H
    exact x_iret G dX2_arrivalOf_67
  · have H := if_some_f H q3
    refine x_aload_n (j := 2) G dX2_arrivalOf_27 rfl rfl ?_
    refine gf_269 G sh_122 pt_122_0 dX2_arrivalOf_28 ?_
    refine x_aload_n (j := 2) G dX2_arrivalOf_31 rfl rfl ?_
    refine gf_271 G sh_122 pt_122_2 dX2_arrivalOf_32 ?_
    refine x_aload_n (j := 2) G dX2_arrivalOf_35 rfl rfl ?_
    refine gf_269 G sh_122 pt_122_0 dX2_arrivalOf_36 ?_
    refine gf_165 G sh_21 pt_21_6 dX2_arrivalOf_39 ?_
    refine x_iload_n (j := 3) G dX2_arrivalOf_42 rfl rfl ?_
    refine x_aald G dX2_arrivalOf_43 H (fun g0 g1 x6 hx6 H => ?_)
    refine x_iload (j := 0) G dX2_arrivalOf_44 rfl ?_
    refine x_iald G dX2_arrivalOf_46 H (fun x7 hx7 H => ?_)
    refine x_iload_n (j := 4) G dX2_arrivalOf_47 rfl rfl ?_
    refine x_iload (j := 1) G dX2_arrivalOf_48 rfl ?_
    obtain ⟨r8, s9, c9, H⟩ := b2_some H
    refine cv_631 (As := [vI (s 122 2), vI x7, vI a2, vI x1]) (rest := []) G (rX5_arrivalAt  c9) sh_21 (by omega) rfl rfl (Nat.le_of_ble_eq_true rfl) dX2_arrivalOf_50 ?_
    cases H
    exact x_iret G dX2_arrivalOf_53
def fX2_goesAhead_74  (p1 : Int) (p2 : Int) (s : Mem) : Option (Int × Mem) :=
  (rdI s 123 p1).bind fun x1 =>
  (rdI s 123 p2).bind fun x2 =>
  if x2 ≤ x1 then
    some (0, s)
  else
    some (1, s)
set_option maxHeartbeats 4000000 in
theorem tX2_goesAhead_74 {E : En} {b : Bn} {xf : Int} {sf : Mem}  {p1 : Int} {p2 : Int} {s : Mem} (G : ab_G E b cX2_goesAhead 5 RX2 (some .boolean) 0)   (H : fX2_goesAhead_74 p1 p2 s = some (xf, sf)) : ab_X E b (ab_MQ E b (some (vI xf)) sf) 5 74 [(0, vR 122), (1, vI p1), (2, vI p2)] [] s := by
  unfold fX2_goesAhead_74 at H
  refine x_aload_n (j := 0) G dX2_goesAhead_74 rfl rfl ?_
  refine gf_273 G sh_122 pt_122_4 dX2_goesAhead_75 ?_
  refine x_iload_n (j := 1) G dX2_goesAhead_78 rfl rfl ?_
  refine x_iald G dX2_goesAhead_79 H (fun x1 hx1 H => ?_)
  refine x_aload_n (j := 0) G dX2_goesAhead_80 rfl rfl ?_
  refine gf_273 G sh_122 pt_122_4 dX2_goesAhead_81 ?_
  refine x_iload_n (j := 2) G dX2_goesAhead_84 rfl rfl ?_
  refine x_iald G dX2_goesAhead_85 H (fun x2 hx2 H => ?_)
  refine x_icmp_ge (tgt := 93) G dX2_goesAhead_86 (by decide) (fun q3 => ?_) (fun q3 => ?_)
  · have H := if_some_t H q3
    refine x_iconst G dX2_goesAhead_93 (by decide) ?_
    cases H
    exact x_zret G (by decide) dX2_goesAhead_94
  · have H := if_some_f H q3
    refine x_iconst G dX2_goesAhead_89 (by decide) ?_
    refine x_goto (tgt := 94) G dX2_goesAhead_90 (by decide) ?_
    cases H
    exact x_zret G (by decide) dX2_goesAhead_94
def fX2_goesAhead (a1 : Int) (a2 : Int) (s : Mem) : Option (Int × Mem) :=
  if (s 122 3) = 0 then
    fX2_goesAhead_74 a1 a2 s
  else
    (rdG 27 a1).bind fun x2 =>
    (rdI s x2 3).bind fun x3 =>
    (rdG 27 a1).bind fun x4 =>
    (rdI s x4 4).bind fun x5 =>
    lt' (w32 (x3 * x5)) fun v6 =>
    (rdG 27 a2).bind fun x7 =>
    (rdI s x7 3).bind fun x8 =>
    (rdG 27 a2).bind fun x9 =>
    (rdI s x9 4).bind fun x10 =>
    lt' (w32 (x8 * x10)) fun v11 =>
    if v6 = v11 then
      fX2_goesAhead_74 a1 a2 s
    else
      if v6 ≤ v11 then
        some (0, s)
      else
        some (1, s)
set_option maxHeartbeats 4000000 in
theorem rX2_goesAhead {E : En} {xf : Int} {sf : Mem} {a1 : Int} {a2 : Int} {s : Mem}  (H : fX2_goesAhead a1 a2 s = some (xf, sf)) : ab_Run E 0 yX2_goesAhead cX2_goesAhead 5 (some .boolean) [vR 122, vI a1, vI a2] (some (vI xf)) s sf := by
  unfold fX2_goesAhead at H
  refine ab_intro (own := RX2) (by decide +kernel) rfl (Nat.le_of_ble_eq_true rfl) rfl (fun b G => ?_)
  refine x_aload_n (j := 0) G dX2_goesAhead_0 rfl rfl ?_
  refine gf_272 G sh_122 pt_122_3 dX2_goesAhead_1 ?_
  refine x_if_eq (tgt := 74) G dX2_goesAhead_4 (by decide) (fun q1 => ?_) (fun q1 => ?_)
  · have H := if_some_t H q1
    exact x_subp (ls' := [(0, vR 122), (1, vI a1), (2, vI a2)]) [0, 1, 2] rfl (tX2_goesAhead_74 G  H)
  · have H := if_some_f H q1
    refine x_aload_n (j := 0) G dX2_goesAhead_7 rfl rfl ?_
    refine gf_269 G sh_122 pt_122_0 dX2_goesAhead_8 ?_
    refine gf_156 G sh_21 pt_21_4 dX2_goesAhead_11 ?_
    refine x_iload_n (j := 1) G dX2_goesAhead_14 rfl rfl ?_
    refine x_aald G dX2_goesAhead_15 H (fun g0 g1 x2 hx2 H => ?_)
    refine x_iconst G dX2_goesAhead_16 (by decide) ?_
    refine x_iald G dX2_goesAhead_17 H (fun x3 hx3 H => ?_)
    refine x_aload_n (j := 0) G dX2_goesAhead_18 rfl rfl ?_
    refine gf_269 G sh_122 pt_122_0 dX2_goesAhead_19 ?_
    refine gf_156 G sh_21 pt_21_4 dX2_goesAhead_22 ?_
    refine x_iload_n (j := 1) G dX2_goesAhead_25 rfl rfl ?_
    refine x_aald G dX2_goesAhead_26 H (fun g0 g1 x4 hx4 H => ?_)
    refine x_iconst G dX2_goesAhead_27 (by decide) ?_
    refine x_iald G dX2_goesAhead_28 H (fun x5 hx5 H => ?_)
    refine x_imul G dX2_goesAhead_29 ?_
    refine x_let H (fun v6 hv6 H => ?_)
    refine x_istore_n (ls' := [(3, vI v6), (0, vR 122), (1, vI a1), (2, vI a2)]) G dX2_goesAhead_30 rfl (by decide) rfl ?_
    refine x_aload_n (j := 1) G dX2_goesAhead_31 rfl rfl ?_
    refine gf_269 G sh_122 pt_122_0 dX2_goesAhead_32 ?_
    refine gf_156 G sh_21 pt_21_4 dX2_goesAhead_35 ?_
    refine x_iload_n (j := 3) G dX2_goesAhead_38 rfl rfl ?_
    refine x_aald G dX2_goesAhead_39 H (fun g0 g1 x7 hx7 H => ?_)
    refine x_iconst G dX2_goesAhead_40 (by decide) ?_
    refine x_iald G dX2_goesAhead_41 H (fun x8 hx8 H => ?_)
    refine x_aload_n (j := 1) G dX2_goesAhead_42 rfl rfl ?_
    refine gf_269 G sh_122 pt_122_0 dX2_goesAhead_43 ?_
    refine gf_156 G sh_21 pt_21_4 dX2_goesAhead_46 ?_
    refine x_iload_n (j := 3) G dX2_goesAhead_49 rfl rfl ?_
    refine x_aald G dX2_goesAhead_50 H (fun g0 g1 x9 hx9 H => ?_)
    refine x_iconst G dX2_goesAhead_51 (by decide) ?_
    refine x_iald G dX2_goesAhead_52 H (fun x10 hx10 H => ?_)
    refine x_imul G dX2_goesAhead_53 ?_
    refine x_let H (fun v11 hv11 H => ?_)
    refine x_istore (ls' := [(4, vI v11), (3, vI v6), (0, vR 122), (1, vI a1), (2, vI a2)]) G dX2_goesAhead_54 (by decide) rfl ?_
    refine x_iload_n (j := 1) G dX2_goesAhead_56 rfl rfl ?_
    refine x_iload (j := 0) G dX2_goesAhead_57 rfl ?_
    refine x_icmp_eq (tgt := 74) G dX2_goesAhead_59 (by decide) (fun q12 => ?_) (fun q12 => ?_)
    · have H := if_some_t H q12
      exact x_subp (ls' := [(0, vR 122), (1, vI a1), (2, vI a2)]) [2, 3, 4] rfl (tX2_goesAhead_74 G  H)
    · have H := if_some_f H q12
      refine x_iload_n (j := 1) G dX2_goesAhead_62 rfl rfl ?_
      refine x_iload (j := 0) G dX2_goesAhead_63 rfl ?_
      refine x_icmp_le (tgt := 72) G dX2_goesAhead_65 (by decide) (fun q13 => ?_) (fun q13 => ?_)
      · have H := if_some_t H q13
        refine x_iconst G dX2_goesAhead_72 (by decide) ?_
        cases H
        exact x_zret G (by decide) dX2_goesAhead_73
      · have H := if_some_f H q13
        refine x_iconst G dX2_goesAhead_68 (by decide) ?_
        refine x_goto (tgt := 73) G dX2_goesAhead_69 (by decide) ?_
        cases H
        exact x_zret G (by decide) dX2_goesAhead_73
def fX2_putInOrder_55 (k2 : Int → Mem → Option Mem) (p1 : Int) (p2 : Int) (s : Mem) : Option Mem :=
  (wrI s 124 p2 p1).bind fun s1 =>
  lt' (w32 (p1 + 1)) fun v2 =>
  k2 v2 s1
set_option maxHeartbeats 4000000 in
theorem tX2_putInOrder_55 {E : En} {b : Bn} {sf : Mem} {k2 : Int → Mem → Option Mem} {p1 : Int} {p2 : Int} {s : Mem} (G : ab_G E b cX2_putInOrder 3 RX2 none 1)  (K2 : ∀ {p1 : Int} {s : Mem},  k2 p1 s = some sf → ab_X E b (ab_MQ E b none sf) 3 2 [(0, vR 122), (1, vI p1)] [] s) (H : fX2_putInOrder_55 k2 p1 p2 s = some sf) : ab_X E b (ab_MQ E b none sf) 3 55 [(0, vR 122), (1, vI p1), (2, vI p2)] [] s := by
  unfold fX2_putInOrder_55 at H
  refine x_aload_n (j := 0) G dX2_putInOrder_55 rfl rfl ?_
  refine gf_274 G sh_122 pt_122_5 dX2_putInOrder_56 ?_
  refine x_iload_n (j := 2) G dX2_putInOrder_59 rfl rfl ?_
  refine x_iload_n (j := 1) G dX2_putInOrder_60 rfl rfl ?_
  refine x_iast G dX2_putInOrder_61 H (fun s1 hs1 H => ?_)
  refine x_iincL (j := 1) G dX2_putInOrder_62 rfl (by decide) H (fun v2 hv2 H => x_ls (ls' := [(1, vI v2), (0, vR 122), (2, vI p2)]) rfl ?_)
  refine x_goto (tgt := 2) G dX2_putInOrder_65 (by decide) ?_
  exact x_subp (ls' := [(0, vR 122), (1, vI v2)]) [1, 0] rfl (K2 H)
def fX2_putInOrder_15 (k2 : Int → Mem → Option Mem) : Nat → Int → Int → Mem → Option Mem
  | 0, _, _, _ => none
  | n + 1, p1, p2, s =>
  if p2 ≤ 0 then
    fX2_putInOrder_55 k2 p1 p2 s
  else
    (rdI s 124 (w32 (p2 - 1))).bind fun x2 =>
    b2 (fX2_goesAhead p1 x2 s) fun r3 s4 =>
    if r3 = 0 then
      fX2_putInOrder_55 k2 p1 p2 s4
    else
      (rdI s4 124 (w32 (p2 - 1))).bind fun x6 =>
      (wrI s4 124 p2 x6).bind fun s7 =>
      lt' (w32 (p2 + (-1))) fun v8 =>
      fX2_putInOrder_15 k2 n p1 v8 s7
set_option maxHeartbeats 4000000 in
theorem tX2_putInOrder_15 {E : En} {b : Bn} {sf : Mem} {k2 : Int → Mem → Option Mem} (G : ab_G E b cX2_putInOrder 3 RX2 none 1) (K2 : ∀ {p1 : Int} {s : Mem},  k2 p1 s = some sf → ab_X E b (ab_MQ E b none sf) 3 2 [(0, vR 122), (1, vI p1)] [] s) : ∀ (n : Nat) {p1 : Int} {p2 : Int} {s : Mem}, fX2_putInOrder_15 k2 n p1 p2 s = some sf → ab_X E b (ab_MQ E b none sf) 3 15 [(0, vR 122), (1, vI p1), (2, vI p2)] [] s := by
  intro n
  induction n with
  | zero => intro p1 p2 s H; rw [fX2_putInOrder_15] at H; cases H
  | succ n ih =>
    intro p1 p2 s H
    rw [fX2_putInOrder_15] at H
    refine x_iload_n (j := 2) G dX2_putInOrder_15 rfl rfl ?_
    refine x_if_le (tgt := 55) G dX2_putInOrder_16 (by decide) (fun q1 => ?_) (fun q1 => ?_)
    · have H := if_some_t H q1
      exact x_subp (ls' := [(0, vR 122), (1, vI p1), (2, vI p2)]) [0, 1, 2] rfl (tX2_putInOrder_55 G  K2 H)
    · have H := if_some_f H q1
      refine x_aload_n (j := 0) G dX2_putInOrder_19 rfl rfl ?_
      refine x_iload_n (j := 1) G dX2_putInOrder_20 rfl rfl ?_
      refine x_aload_n (j := 0) G dX2_putInOrder_21 rfl rfl ?_
      refine gf_274 G sh_122 pt_122_5 dX2_putInOrder_22 ?_
      refine x_iload_n (j := 2) G dX2_putInOrder_25 rfl rfl ?_
      refine x_iconst G dX2_putInOrder_26 (by decide) ?_
      refine x_isub G dX2_putInOrder_27 ?_
      refine x_iald G dX2_putInOrder_28 H (fun x2 hx2 H => ?_)
      obtain ⟨r3, s4, c4, H⟩ := b2_some H
      refine cv_637 (As := [vI p1, vI x2]) (rest := []) G (rX2_goesAhead  c4) sh_122 (by omega) rfl rfl (Nat.le_of_ble_eq_true rfl) dX2_putInOrder_29 ?_
      refine x_if_eq (tgt := 55) G dX2_putInOrder_32 (by decide) (fun q5 => ?_) (fun q5 => ?_)
      · have H := if_some_t H q5
        exact x_subp (ls' := [(0, vR 122), (1, vI p1), (2, vI p2)]) [0, 1, 2] rfl (tX2_putInOrder_55 G  K2 H)
      · have H := if_some_f H q5
        refine x_aload_n (j := 0) G dX2_putInOrder_35 rfl rfl ?_
        refine gf_274 G sh_122 pt_122_5 dX2_putInOrder_36 ?_
        refine x_iload_n (j := 2) G dX2_putInOrder_39 rfl rfl ?_
        refine x_aload_n (j := 0) G dX2_putInOrder_40 rfl rfl ?_
        refine gf_274 G sh_122 pt_122_5 dX2_putInOrder_41 ?_
        refine x_iload_n (j := 2) G dX2_putInOrder_44 rfl rfl ?_
        refine x_iconst G dX2_putInOrder_45 (by decide) ?_
        refine x_isub G dX2_putInOrder_46 ?_
        refine x_iald G dX2_putInOrder_47 H (fun x6 hx6 H => ?_)
        refine x_iast G dX2_putInOrder_48 H (fun s7 hs7 H => ?_)
        refine x_iincL (j := 2) G dX2_putInOrder_49 rfl (by decide) H (fun v8 hv8 H => x_ls (ls' := [(2, vI v8), (0, vR 122), (1, vI p1)]) rfl ?_)
        refine x_goto (tgt := 15) G dX2_putInOrder_52 (by decide) ?_
        exact x_subp (ls' := [(0, vR 122), (1, vI p1), (2, vI v8)]) [1, 2, 0] rfl (ih H)
def fX2_putInOrder_2  : Nat → Int → Mem → Option Mem
  | 0, _, _ => none
  | n + 1, p1, s =>
  if (s 21 1) ≤ p1 then
    some s
  else
    fX2_putInOrder_15 (fun p1 s => fX2_putInOrder_2 n p1 s) 600 p1 p1 s
set_option maxHeartbeats 4000000 in
theorem tX2_putInOrder_2 {E : En} {b : Bn} {sf : Mem}  (G : ab_G E b cX2_putInOrder 3 RX2 none 1)  : ∀ (n : Nat) {p1 : Int} {s : Mem}, fX2_putInOrder_2 n p1 s = some sf → ab_X E b (ab_MQ E b none sf) 3 2 [(0, vR 122), (1, vI p1)] [] s := by
  intro n
  induction n with
  | zero => intro p1 s H; rw [fX2_putInOrder_2] at H; cases H
  | succ n ih =>
    intro p1 s H
    rw [fX2_putInOrder_2] at H
    refine x_iload_n (j := 1) G dX2_putInOrder_2 rfl rfl ?_
    refine x_aload_n (j := 0) G dX2_putInOrder_3 rfl rfl ?_
    refine gf_269 G sh_122 pt_122_0 dX2_putInOrder_4 ?_
    refine gf_145 G sh_21 pt_21_1 dX2_putInOrder_7 ?_
    refine x_icmp_ge (tgt := 68) G dX2_putInOrder_10 (by decide) (fun q1 => ?_) (fun q1 => ?_)
    · have H := if_some_t H q1
      cases H
      exact x_vret G dX2_putInOrder_68
    · have H := if_some_f H q1
      refine x_iload_n (j := 1) G dX2_putInOrder_13 rfl rfl ?_
      refine x_istore_n (ls' := [(2, vI p1), (0, vR 122), (1, vI p1)]) G dX2_putInOrder_14 rfl (by decide) rfl ?_
      exact x_subp (ls' := [(0, vR 122), (1, vI p1), (2, vI p1)]) [1, 2, 0] rfl (tX2_putInOrder_15 G ih 600 H)
def fX2_putInOrder  (s : Mem) : Option Mem :=
  fX2_putInOrder_2 600 0 s
set_option maxHeartbeats 4000000 in
theorem rX2_putInOrder {E : En} {sf : Mem}  {s : Mem}  (H : fX2_putInOrder  s = some sf) : ab_Run E 1 yX2_putInOrder cX2_putInOrder 3 none [vR 122] none s sf := by
  unfold fX2_putInOrder at H
  refine ab_intro (own := RX2) (by decide +kernel) rfl (Nat.le_of_ble_eq_true rfl) rfl (fun b G => ?_)
  refine x_iconst G dX2_putInOrder_0 (by decide) ?_
  refine x_istore_n (ls' := [(1, vI 0), (0, vR 122)]) G dX2_putInOrder_1 rfl (by decide) rfl ?_
  exact x_subp (ls' := [(0, vR 122), (1, vI 0)]) [1, 0] rfl (tX2_putInOrder_2 G 600 H)
def fX5_isOpen (a1 : Int) (a2 : Int) (a3 : Int) (s : Mem) : Option (Int × Mem) :=
  (rdG 53 a1).bind fun x1 =>
  (rdI s x1 a2).bind fun x2 =>
  if (andI (shrI x2 a3) 1) = 0 then
    some (0, s)
  else
    some (1, s)
set_option maxHeartbeats 4000000 in
theorem rX5_isOpen {E : En} {xf : Int} {sf : Mem} {a1 : Int} {a2 : Int} {a3 : Int} {s : Mem}  (H : fX5_isOpen a1 a2 a3 s = some (xf, sf)) : ab_Run E 0 yX5_isOpen cX5_isOpen 4 (some .boolean) [vR 21, vI a1, vI a2, vI a3] (some (vI xf)) s sf := by
  unfold fX5_isOpen at H
  refine ab_intro (own := RX5) (by decide +kernel) rfl (Nat.le_of_ble_eq_true rfl) rfl (fun b G => ?_)
  refine x_aload_n (j := 0) G dX5_isOpen_0 rfl rfl ?_
  refine gf_173 G sh_21 pt_21_11 dX5_isOpen_1 ?_
  refine x_iload_n (j := 1) G dX5_isOpen_4 rfl rfl ?_
  refine x_aald G dX5_isOpen_5 H (fun g0 g1 x1 hx1 H => ?_)
  refine x_iload_n (j := 2) G dX5_isOpen_6 rfl rfl ?_
  refine x_iald G dX5_isOpen_7 H (fun x2 hx2 H => ?_)
  refine x_iload_n (j := 3) G dX5_isOpen_8 rfl rfl ?_
  refine x_ishr G dX5_isOpen_9 ?_
  refine x_iconst G dX5_isOpen_10 (by decide) ?_
  refine x_iand G dX5_isOpen_11 ?_
  refine x_if_eq (tgt := 19) G dX5_isOpen_12 (by decide) (fun q3 => ?_) (fun q3 => ?_)
  · have H := if_some_t H q3
    refine x_iconst G dX5_isOpen_19 (by decide) ?_
    cases H
    exact x_zret G (by decide) dX5_isOpen_20
  · have H := if_some_f H q3
    refine x_iconst G dX5_isOpen_15 (by decide) ?_
    refine x_goto (tgt := 20) G dX5_isOpen_16 (by decide) ?_
    cases H
    exact x_zret G (by decide) dX5_isOpen_20
def fX2_letInAt_70 (k6 : Int → Int → Int → Nat → Int → Int → Mem → Option (Int × Mem)) : Nat → Int → Int → Int → Nat → Int → Int → Int → Int → Mem → Option (Int × Mem)
  | 0, _, _, _, _, _, _, _, _, _ => none
  | n + 1, p1, p2, p3, p4, p5, p6, p7, p8, s =>
  (rdI s 125 p7).bind fun x1 =>
  if p8 ≤ x1 then
    lt' (w32 (p6 + 1)) fun v3 =>
    k6 p1 p2 p3 p4 p5 v3 s
  else
    if p3 ≤ p5 then
      lt' (w32 (p6 + 1)) fun v5 =>
      k6 p1 p2 p3 p4 p5 v5 s
    else
      (rdG 126 p7).bind fun x6 =>
      (rdI s 125 p7).bind fun x7 =>
      (wrI s x6 x7 p2).bind fun s8 =>
      (rdI s8 125 p7).bind fun x9 =>
      (wrI s8 125 p7 (w32 (x9 + 1))).bind fun s10 =>
      lt' (w32 (p5 + 1)) fun v11 =>
      fX2_letInAt_70 k6 n p1 p2 p3 p4 v11 p6 p7 p8 s10
set_option maxHeartbeats 4000000 in
theorem tX2_letInAt_70 {E : En} {b : Bn} {xf : Int} {sf : Mem} {k6 : Int → Int → Int → Nat → Int → Int → Mem → Option (Int × Mem)} (G : ab_G E b cX2_letInAt 9 RX2 (some .int) 0) (K6 : ∀ {p1 : Int} {p2 : Int} {p3 : Int} {p4 : Nat} {p5 : Int} {p6 : Int} {s : Mem}, ab_sh p4 = (1, 3, 0) →  k6 p1 p2 p3 p4 p5 p6 s = some (xf, sf) → ab_X E b (ab_MQ E b (some (vI xf)) sf) 9 6 [(0, vR 122), (1, vI p1), (2, vI p2), (3, vI p3), (4, vR p4), (5, vI p5), (6, vI p6)] [] s) : ∀ (n : Nat) {p1 : Int} {p2 : Int} {p3 : Int} {p4 : Nat} {p5 : Int} {p6 : Int} {p7 : Int} {p8 : Int} {s : Mem} (hp4 : ab_sh p4 = (1, 3, 0)), fX2_letInAt_70 k6 n p1 p2 p3 p4 p5 p6 p7 p8 s = some (xf, sf) → ab_X E b (ab_MQ E b (some (vI xf)) sf) 9 70 [(0, vR 122), (1, vI p1), (2, vI p2), (3, vI p3), (4, vR p4), (5, vI p5), (6, vI p6), (7, vI p7), (8, vI p8)] [] s := by
  intro n
  induction n with
  | zero => intro p1 p2 p3 p4 p5 p6 p7 p8 s hp4 H; rw [fX2_letInAt_70] at H; cases H
  | succ n ih =>
    intro p1 p2 p3 p4 p5 p6 p7 p8 s hp4 H
    rw [fX2_letInAt_70] at H
    refine x_aload_n (j := 0) G dX2_letInAt_70 rfl rfl ?_
    refine gf_275 G sh_122 pt_122_6 dX2_letInAt_71 ?_
    refine x_iload (j := 7) G dX2_letInAt_74 rfl ?_
    refine x_iald G dX2_letInAt_76 H (fun x1 hx1 H => ?_)
    refine x_iload (j := 8) G dX2_letInAt_77 rfl ?_
    refine x_icmp_ge (tgt := 121) G dX2_letInAt_79 (by decide) (fun q2 => ?_) (fun q2 => ?_)
    · have H := if_some_t H q2
      refine x_iincL (j := 6) G dX2_letInAt_121 rfl (by decide) H (fun v3 hv3 H => x_ls (ls' := [(6, vI v3), (0, vR 122), (1, vI p1), (2, vI p2), (3, vI p3), (4, vR p4), (5, vI p5), (7, vI p7), (8, vI p8)]) rfl ?_)
      refine x_goto (tgt := 6) G dX2_letInAt_124 (by decide) ?_
      exact x_subp (ls' := [(0, vR 122), (1, vI p1), (2, vI p2), (3, vI p3), (4, vR p4), (5, vI p5), (6, vI v3)]) [1, 2, 3, 4, 5, 6, 0] rfl (K6 hp4 H)
    · have H := if_some_f H q2
      refine x_iload (j := 5) G dX2_letInAt_82 rfl ?_
      refine x_iload_n (j := 3) G dX2_letInAt_84 rfl rfl ?_
      refine x_icmp_ge (tgt := 121) G dX2_letInAt_85 (by decide) (fun q4 => ?_) (fun q4 => ?_)
      · have H := if_some_t H q4
        refine x_iincL (j := 6) G dX2_letInAt_121 rfl (by decide) H (fun v5 hv5 H => x_ls (ls' := [(6, vI v5), (0, vR 122), (1, vI p1), (2, vI p2), (3, vI p3), (4, vR p4), (5, vI p5), (7, vI p7), (8, vI p8)]) rfl ?_)
        refine x_goto (tgt := 6) G dX2_letInAt_124 (by decide) ?_
        exact x_subp (ls' := [(0, vR 122), (1, vI p1), (2, vI p2), (3, vI p3), (4, vR p4), (5, vI p5), (6, vI v5)]) [1, 2, 3, 4, 5, 6, 0] rfl (K6 hp4 H)
      · have H := if_some_f H q4
        refine x_aload_n (j := 0) G dX2_letInAt_88 rfl rfl ?_
        refine gf_277 G sh_122 pt_122_7 dX2_letInAt_89 ?_
        refine x_iload (j := 7) G dX2_letInAt_92 rfl ?_
        refine x_aald G dX2_letInAt_94 H (fun g0 g1 x6 hx6 H => ?_)
        refine x_aload_n (j := 0) G dX2_letInAt_95 rfl rfl ?_
        refine gf_275 G sh_122 pt_122_6 dX2_letInAt_96 ?_
        refine x_iload (j := 7) G dX2_letInAt_99 rfl ?_
        refine x_iald G dX2_letInAt_101 H (fun x7 hx7 H => ?_)
        refine x_iload_n (j := 2) G dX2_letInAt_102 rfl rfl ?_
        refine x_iast G dX2_letInAt_103 H (fun s8 hs8 H => ?_)
        refine x_aload_n (j := 0) G dX2_letInAt_104 rfl rfl ?_
        refine gf_275 G sh_122 pt_122_6 dX2_letInAt_105 ?_
        refine x_iload (j := 7) G dX2_letInAt_108 rfl ?_
        refine x_dup2 G dX2_letInAt_110 rfl rfl ?_
        refine x_iald G dX2_letInAt_111 H (fun x9 hx9 H => ?_)
        refine x_iconst G dX2_letInAt_112 (by decide) ?_
        refine x_iadd G dX2_letInAt_113 ?_
        refine x_iast G dX2_letInAt_114 H (fun s10 hs10 H => ?_)
        refine x_iincL (j := 5) G dX2_letInAt_115 rfl (by decide) H (fun v11 hv11 H => x_ls (ls' := [(5, vI v11), (0, vR 122), (1, vI p1), (2, vI p2), (3, vI p3), (4, vR p4), (6, vI p6), (7, vI p7), (8, vI p8)]) rfl ?_)
        refine x_goto (tgt := 70) G dX2_letInAt_118 (by decide) ?_
        exact x_subp (ls' := [(0, vR 122), (1, vI p1), (2, vI p2), (3, vI p3), (4, vR p4), (5, vI v11), (6, vI p6), (7, vI p7), (8, vI p8)]) [1, 2, 3, 4, 5, 0, 6, 7, 8] rfl (ih hp4 H)
def fX2_letInAt_6  : Nat → Int → Int → Int → Nat → Int → Int → Mem → Option (Int × Mem)
  | 0, _, _, _, _, _, _, _ => none
  | n + 1, p1, p2, p3, p4, p5, p6, s =>
  if (s 21 1) ≤ p6 then
    some (p5, s)
  else
    if p3 ≤ p5 then
      some (p5, s)
    else
      (rdI s 124 p6).bind fun x3 =>
      (rdI s (ab_pt p4 1) x3).bind fun x4 =>
      if x4 = p1 then
        (rdI s 123 x3).bind fun x7 =>
        if p2 < x7 then
          lt' (w32 (p6 + 1)) fun v9 =>
          fX2_letInAt_6 n p1 p2 p3 p4 p5 v9 s
        else
          (rdG 27 x3).bind fun x10 =>
          (rdI s x10 0).bind fun x11 =>
          fX2_letInAt_70 (fun p1 p2 p3 p4 p5 p6 s => fX2_letInAt_6 n p1 p2 p3 p4 p5 p6 s) 600 p1 p2 p3 p4 p5 p6 x3 x11 s
      else
        lt' (w32 (p6 + 1)) fun v6 =>
        fX2_letInAt_6 n p1 p2 p3 p4 p5 v6 s
set_option maxHeartbeats 4000000 in
theorem tX2_letInAt_6 {E : En} {b : Bn} {xf : Int} {sf : Mem}  (G : ab_G E b cX2_letInAt 9 RX2 (some .int) 0)  : ∀ (n : Nat) {p1 : Int} {p2 : Int} {p3 : Int} {p4 : Nat} {p5 : Int} {p6 : Int} {s : Mem} (hp4 : ab_sh p4 = (1, 3, 0)), fX2_letInAt_6 n p1 p2 p3 p4 p5 p6 s = some (xf, sf) → ab_X E b (ab_MQ E b (some (vI xf)) sf) 9 6 [(0, vR 122), (1, vI p1), (2, vI p2), (3, vI p3), (4, vR p4), (5, vI p5), (6, vI p6)] [] s := by
  intro n
  induction n with
  | zero => intro p1 p2 p3 p4 p5 p6 s hp4 H; rw [fX2_letInAt_6] at H; cases H
  | succ n ih =>
    intro p1 p2 p3 p4 p5 p6 s hp4 H
    rw [fX2_letInAt_6] at H
    refine x_iload (j := 6) G dX2_letInAt_6 rfl ?_
    refine x_aload_n (j := 0) G dX2_letInAt_8 rfl rfl ?_
    refine gf_269 G sh_122 pt_122_0 dX2_letInAt_9 ?_
    refine gf_145 G sh_21 pt_21_1 dX2_letInAt_12 ?_
    refine x_icmp_ge (tgt := 127) G dX2_letInAt_15 (by decide) (fun q1 => ?_) (fun q1 => ?_)
    · have H := if_some_t H q1
      refine x_iload (j := 5) G dX2_letInAt_127 rfl ?_
      cases H
      exact x_iret G dX2_letInAt_129
    · have H := if_some_f H q1
      refine x_iload (j := 5) G dX2_letInAt_18 rfl ?_
      refine x_iload_n (j := 3) G dX2_letInAt_20 rfl rfl ?_
      refine x_icmp_ge (tgt := 127) G dX2_letInAt_21 (by decide) (fun q2 => ?_) (fun q2 => ?_)
      · have H := if_some_t H q2
        refine x_iload (j := 5) G dX2_letInAt_127 rfl ?_
        cases H
        exact x_iret G dX2_letInAt_129
      · have H := if_some_f H q2
        refine x_aload_n (j := 0) G dX2_letInAt_24 rfl rfl ?_
        refine gf_274 G sh_122 pt_122_5 dX2_letInAt_25 ?_
        refine x_iload (j := 6) G dX2_letInAt_28 rfl ?_
        refine x_iald G dX2_letInAt_30 H (fun x3 hx3 H => ?_)
        refine x_istore (ls' := [(7, vI x3), (0, vR 122), (1, vI p1), (2, vI p2), (3, vI p3), (4, vR p4), (5, vI p5), (6, vI p6)]) G dX2_letInAt_31 (by decide) rfl ?_
        refine x_aload (j := 5) G dX2_letInAt_33 rfl ?_
        refine gf_228 G hp4 (pc_3_1 hp4) dX2_letInAt_35 ?_
        refine x_iload (j := 0) G dX2_letInAt_38 rfl ?_
        refine x_iald G dX2_letInAt_40 H (fun x4 hx4 H => ?_)
        refine x_iload_n (j := 2) G dX2_letInAt_41 rfl rfl ?_
        refine x_icmp_ne (tgt := 121) G dX2_letInAt_42 (by decide) (fun q5 => ?_) (fun q5 => ?_)
        · have H := if_some_f H q5
          refine x_iincL (j := 7) G dX2_letInAt_121 rfl (by decide) H (fun v6 hv6 H => x_ls (ls' := [(6, vI v6), (7, vI x3), (0, vR 122), (1, vI p1), (2, vI p2), (3, vI p3), (4, vR p4), (5, vI p5)]) rfl ?_)
          refine x_goto (tgt := 6) G dX2_letInAt_124 (by decide) ?_
          exact x_subp (ls' := [(0, vR 122), (1, vI p1), (2, vI p2), (3, vI p3), (4, vR p4), (5, vI p5), (6, vI v6)]) [2, 3, 4, 5, 6, 7, 0] rfl (ih hp4 H)
        · have H := if_some_t H q5
          refine x_aload_n (j := 1) G dX2_letInAt_45 rfl rfl ?_
          refine gf_273 G sh_122 pt_122_4 dX2_letInAt_46 ?_
          refine x_iload (j := 0) G dX2_letInAt_49 rfl ?_
          refine x_iald G dX2_letInAt_51 H (fun x7 hx7 H => ?_)
          refine x_iload_n (j := 3) G dX2_letInAt_52 rfl rfl ?_
          refine x_icmp_gt (tgt := 121) G dX2_letInAt_53 (by decide) (fun q8 => ?_) (fun q8 => ?_)
          · have H := if_some_t H q8
            refine x_iincL (j := 7) G dX2_letInAt_121 rfl (by decide) H (fun v9 hv9 H => x_ls (ls' := [(6, vI v9), (7, vI x3), (0, vR 122), (1, vI p1), (2, vI p2), (3, vI p3), (4, vR p4), (5, vI p5)]) rfl ?_)
            refine x_goto (tgt := 6) G dX2_letInAt_124 (by decide) ?_
            exact x_subp (ls' := [(0, vR 122), (1, vI p1), (2, vI p2), (3, vI p3), (4, vR p4), (5, vI p5), (6, vI v9)]) [2, 3, 4, 5, 6, 7, 0] rfl (ih hp4 H)
          · have H := if_some_f H q8
            refine x_aload_n (j := 1) G dX2_letInAt_56 rfl rfl ?_
            refine gf_269 G sh_122 pt_122_0 dX2_letInAt_57 ?_
            refine gf_156 G sh_21 pt_21_4 dX2_letInAt_60 ?_
            refine x_iload (j := 0) G dX2_letInAt_63 rfl ?_
            refine x_aald G dX2_letInAt_65 H (fun g0 g1 x10 hx10 H => ?_)
            refine x_iconst G dX2_letInAt_66 (by decide) ?_
            refine x_iald G dX2_letInAt_67 H (fun x11 hx11 H => ?_)
            refine x_istore (ls' := [(8, vI x11), (7, vI x3), (0, vR 122), (1, vI p1), (2, vI p2), (3, vI p3), (4, vR p4), (5, vI p5), (6, vI p6)]) G dX2_letInAt_68 (by decide) rfl ?_
            exact x_subp (ls' := [(0, vR 122), (1, vI p1), (2, vI p2), (3, vI p3), (4, vR p4), (5, vI p5), (6, vI p6), (7, vI x3), (8, vI x11)]) [2, 3, 4, 5, 6, 7, 8, 1, 0] rfl (tX2_letInAt_70 G ih 600 hp4 H)
def fX2_letInAt (a1 : Int) (a2 : Int) (a3 : Int) (a4 : Nat) (s : Mem) : Option (Int × Mem) :=
  fX2_letInAt_6 600 a1 a2 a3 a4 0 0 s
set_option maxHeartbeats 4000000 in
theorem rX2_letInAt {E : En} {xf : Int} {sf : Mem} {a1 : Int} {a2 : Int} {a3 : Int} {a4 : Nat} {s : Mem} (q4 : ab_sh a4 = (1, 3, 0)) (H : fX2_letInAt a1 a2 a3 a4 s = some (xf, sf)) : ab_Run E 0 yX2_letInAt cX2_letInAt 9 (some .int) [vR 122, vI a1, vI a2, vI a3, vR a4] (some (vI xf)) s sf := by
  unfold fX2_letInAt at H
  refine ab_intro (own := RX2) (by decide +kernel) rfl (Nat.le_of_ble_eq_true rfl) rfl (fun b G => ?_)
  refine x_iconst G dX2_letInAt_0 (by decide) ?_
  refine x_istore (ls' := [(5, vI 0), (0, vR 122), (1, vI a1), (2, vI a2), (3, vI a3), (4, vR a4)]) G dX2_letInAt_1 (by decide) rfl ?_
  refine x_iconst G dX2_letInAt_3 (by decide) ?_
  refine x_istore (ls' := [(6, vI 0), (5, vI 0), (0, vR 122), (1, vI a1), (2, vI a2), (3, vI a3), (4, vR a4)]) G dX2_letInAt_4 (by decide) rfl ?_
  exact x_subp (ls' := [(0, vR 122), (1, vI a1), (2, vI a2), (3, vI a3), (4, vR a4), (5, vI 0), (6, vI 0)]) [2, 3, 4, 5, 6, 1, 0] rfl (tX2_letInAt_6 G 600 q4 H)
def fX2_letIn_104  : Nat → Int → Int → Nat → Int → Int → Mem → Option Mem
  | 0, _, _, _, _, _, _ => none
  | n + 1, p1, p2, p3, p6, p7, s =>
  if 24 ≤ p7 then
    some s
  else
    if p6 ≤ 0 then
      some s
    else
      b2 (fX5_isOpen p1 p2 p7 s) fun r3 s4 =>
      if r3 = 0 then
        lt' (w32 (p7 + 1)) fun v6 =>
        fX2_letIn_104 n p1 p2 p3 p6 v6 s4
      else
        (rdG 22 p1).bind fun x7 =>
        (rdI s4 x7 1).bind fun x8 =>
        b2 (fX2_letInAt p1 p7 (imin p6 x8) p3 s4) fun r9 s10 =>
        lt' (w32 (p6 - r9)) fun v11 =>
        lt' (w32 (p7 + 1)) fun v12 =>
        fX2_letIn_104 n p1 p2 p3 v11 v12 s10
set_option maxHeartbeats 4000000 in
theorem tX2_letIn_104 {E : En} {b : Bn} {sf : Mem}  (G : ab_G E b cX2_letIn 8 RX2 none 1)  : ∀ (n : Nat) {p1 : Int} {p2 : Int} {p3 : Nat} {p6 : Int} {p7 : Int} {s : Mem} (hp3 : ab_sh p3 = (1, 3, 0)), fX2_letIn_104 n p1 p2 p3 p6 p7 s = some sf → ab_X E b (ab_MQ E b none sf) 8 104 [(0, vR 122), (1, vI p1), (2, vI p2), (3, vR p3), (6, vI p6), (7, vI p7)] [] s := by
  intro n
  induction n with
  | zero => intro p1 p2 p3 p6 p7 s hp3 H; rw [fX2_letIn_104] at H; cases H
  | succ n ih =>
    intro p1 p2 p3 p6 p7 s hp3 H
    rw [fX2_letIn_104] at H
    refine x_iload (j := 5) G dX2_letIn_104 rfl ?_
    refine x_bipush G dX2_letIn_106 (by decide) (by decide) ?_
    refine x_icmp_ge (tgt := 165) G dX2_letIn_108 (by decide) (fun q1 => ?_) (fun q1 => ?_)
    · have H := if_some_t H q1
      cases H
      exact x_vret G dX2_letIn_165
    · have H := if_some_f H q1
      refine x_iload (j := 4) G dX2_letIn_111 rfl ?_
      refine x_if_le (tgt := 165) G dX2_letIn_113 (by decide) (fun q2 => ?_) (fun q2 => ?_)
      · have H := if_some_t H q2
        cases H
        exact x_vret G dX2_letIn_165
      · have H := if_some_f H q2
        refine x_aload_n (j := 0) G dX2_letIn_116 rfl rfl ?_
        refine gf_269 G sh_122 pt_122_0 dX2_letIn_117 ?_
        refine x_iload_n (j := 1) G dX2_letIn_120 rfl rfl ?_
        refine x_iload_n (j := 2) G dX2_letIn_121 rfl rfl ?_
        refine x_iload (j := 5) G dX2_letIn_122 rfl ?_
        obtain ⟨r3, s4, c4, H⟩ := b2_some H
        refine cv_646 (As := [vI p1, vI p2, vI p7]) (rest := []) G (rX5_isOpen  c4) sh_21 (by omega) rfl rfl (Nat.le_of_ble_eq_true rfl) dX2_letIn_124 ?_
        refine x_if_eq (tgt := 159) G dX2_letIn_127 (by decide) (fun q5 => ?_) (fun q5 => ?_)
        · have H := if_some_t H q5
          refine x_iincL (j := 5) G dX2_letIn_159 rfl (by decide) H (fun v6 hv6 H => x_ls (ls' := [(7, vI v6), (0, vR 122), (1, vI p1), (2, vI p2), (3, vR p3), (6, vI p6)]) rfl ?_)
          refine x_goto (tgt := 104) G dX2_letIn_162 (by decide) ?_
          exact x_subp (ls' := [(0, vR 122), (1, vI p1), (2, vI p2), (3, vR p3), (6, vI p6), (7, vI v6)]) [1, 2, 3, 4, 5, 0] rfl (ih hp3 H)
        · have H := if_some_f H q5
          refine x_iload (j := 4) G dX2_letIn_130 rfl ?_
          refine x_aload_n (j := 0) G dX2_letIn_132 rfl rfl ?_
          refine x_iload_n (j := 1) G dX2_letIn_133 rfl rfl ?_
          refine x_iload (j := 5) G dX2_letIn_134 rfl ?_
          refine x_iload (j := 4) G dX2_letIn_136 rfl ?_
          refine x_aload_n (j := 0) G dX2_letIn_138 rfl rfl ?_
          refine gf_269 G sh_122 pt_122_0 dX2_letIn_139 ?_
          refine gf_152 G sh_21 pt_21_3 dX2_letIn_142 ?_
          refine x_iload_n (j := 1) G dX2_letIn_145 rfl rfl ?_
          refine x_aald G dX2_letIn_146 H (fun g0 g1 x7 hx7 H => ?_)
          refine x_iconst G dX2_letIn_147 (by decide) ?_
          refine x_iald G dX2_letIn_148 H (fun x8 hx8 H => ?_)
          refine cm_645 (rest := [vI p7, vI p1, vR 122, vI p6]) G (by omega) (Nat.le_of_ble_eq_true rfl) dX2_letIn_149 ?_
          refine x_aload_n (j := 3) G dX2_letIn_152 rfl rfl ?_
          obtain ⟨r9, s10, c10, H⟩ := b2_some H
          refine cv_647 (As := [vI p1, vI p7, vI (imin p6 x8), vR p3]) (rest := [vI p6]) G (rX2_letInAt hp3 c10) sh_122 (by omega) rfl rfl (Nat.le_of_ble_eq_true rfl) dX2_letIn_153 ?_
          refine x_isub G dX2_letIn_156 ?_
          refine x_let H (fun v11 hv11 H => ?_)
          refine x_istore (ls' := [(6, vI v11), (0, vR 122), (1, vI p1), (2, vI p2), (3, vR p3), (7, vI p7)]) G dX2_letIn_157 (by decide) rfl ?_
          refine x_iincL (j := 5) G dX2_letIn_159 rfl (by decide) H (fun v12 hv12 H => x_ls (ls' := [(7, vI v12), (6, vI v11), (0, vR 122), (1, vI p1), (2, vI p2), (3, vR p3)]) rfl ?_)
          refine x_goto (tgt := 104) G dX2_letIn_162 (by decide) ?_
          exact x_subp (ls' := [(0, vR 122), (1, vI p1), (2, vI p2), (3, vR p3), (6, vI v11), (7, vI v12)]) [2, 3, 4, 5, 1, 0] rfl (ih hp3 H)
def fX2_letIn_10  : Nat → Int → Int → Nat → Int → Int → Int → Mem → Option Mem
  | 0, _, _, _, _, _, _, _ => none
  | n + 1, p1, p2, p3, p4, p5, p6, s =>
  if (s 21 1) ≤ p6 then
    (rdG 22 p1).bind fun x2 =>
    (rdI s x2 0).bind fun x3 =>
    lt' (imin p5 x3) fun v4 =>
    fX2_letIn_104 600 p1 p2 p3 v4 p4 s
  else
    (rdI s (ab_pt p3 1) p6).bind fun x5 =>
    if x5 = p1 then
      (rdI s 123 p6).bind fun x8 =>
      if 24 ≤ x8 then
        lt' (w32 (p6 + 1)) fun v10 =>
        fX2_letIn_10 n p1 p2 p3 p4 p5 v10 s
      else
        (rdI s 123 p6).bind fun x11 =>
        lt' (imin p4 x11) fun v12 =>
        (rdG 27 p6).bind fun x13 =>
        (rdI s x13 0).bind fun x14 =>
        lt' (w32 (p5 + x14)) fun v15 =>
        lt' (w32 (p6 + 1)) fun v16 =>
        fX2_letIn_10 n p1 p2 p3 v12 v15 v16 s
    else
      lt' (w32 (p6 + 1)) fun v7 =>
      fX2_letIn_10 n p1 p2 p3 p4 p5 v7 s
set_option maxHeartbeats 4000000 in
theorem tX2_letIn_10 {E : En} {b : Bn} {sf : Mem}  (G : ab_G E b cX2_letIn 8 RX2 none 1)  : ∀ (n : Nat) {p1 : Int} {p2 : Int} {p3 : Nat} {p4 : Int} {p5 : Int} {p6 : Int} {s : Mem} (hp3 : ab_sh p3 = (1, 3, 0)), fX2_letIn_10 n p1 p2 p3 p4 p5 p6 s = some sf → ab_X E b (ab_MQ E b none sf) 8 10 [(0, vR 122), (1, vI p1), (2, vI p2), (3, vR p3), (4, vI p4), (5, vI p5), (6, vI p6)] [] s := by
  intro n
  induction n with
  | zero => intro p1 p2 p3 p4 p5 p6 s hp3 H; rw [fX2_letIn_10] at H; cases H
  | succ n ih =>
    intro p1 p2 p3 p4 p5 p6 s hp3 H
    rw [fX2_letIn_10] at H
    refine x_iload (j := 6) G dX2_letIn_10 rfl ?_
    refine x_aload_n (j := 0) G dX2_letIn_12 rfl rfl ?_
    refine gf_269 G sh_122 pt_122_0 dX2_letIn_13 ?_
    refine gf_145 G sh_21 pt_21_1 dX2_letIn_16 ?_
    refine x_icmp_ge (tgt := 82) G dX2_letIn_19 (by decide) (fun q1 => ?_) (fun q1 => ?_)
    · have H := if_some_t H q1
      refine x_iload (j := 5) G dX2_letIn_82 rfl ?_
      refine x_aload_n (j := 0) G dX2_letIn_84 rfl rfl ?_
      refine gf_269 G sh_122 pt_122_0 dX2_letIn_85 ?_
      refine gf_152 G sh_21 pt_21_3 dX2_letIn_88 ?_
      refine x_iload_n (j := 1) G dX2_letIn_91 rfl rfl ?_
      refine x_aald G dX2_letIn_92 H (fun g0 g1 x2 hx2 H => ?_)
      refine x_iconst G dX2_letIn_93 (by decide) ?_
      refine x_iald G dX2_letIn_94 H (fun x3 hx3 H => ?_)
      refine cm_645 (rest := []) G (by omega) (Nat.le_of_ble_eq_true rfl) dX2_letIn_95 ?_
      refine x_let H (fun v4 hv4 H => ?_)
      refine x_istore (ls' := [(6, vI v4), (0, vR 122), (1, vI p1), (2, vI p2), (3, vR p3), (4, vI p4), (5, vI p5)]) G dX2_letIn_98 (by decide) rfl ?_
      refine x_iload (j := 5) G dX2_letIn_100 rfl ?_
      refine x_istore (ls' := [(7, vI p4), (6, vI v4), (0, vR 122), (1, vI p1), (2, vI p2), (3, vR p3), (4, vI p4), (5, vI p5)]) G dX2_letIn_102 (by decide) rfl ?_
      exact x_subp (ls' := [(0, vR 122), (1, vI p1), (2, vI p2), (3, vR p3), (6, vI v4), (7, vI p4)]) [2, 3, 4, 5, 1, 0] rfl (tX2_letIn_104 G 600 hp3 H)
    · have H := if_some_f H q1
      refine x_aload_n (j := 3) G dX2_letIn_22 rfl rfl ?_
      refine gf_228 G hp3 (pc_3_1 hp3) dX2_letIn_23 ?_
      refine x_iload (j := 6) G dX2_letIn_26 rfl ?_
      refine x_iald G dX2_letIn_28 H (fun x5 hx5 H => ?_)
      refine x_iload_n (j := 1) G dX2_letIn_29 rfl rfl ?_
      refine x_icmp_ne (tgt := 76) G dX2_letIn_30 (by decide) (fun q6 => ?_) (fun q6 => ?_)
      · have H := if_some_f H q6
        refine x_iincL (j := 6) G dX2_letIn_76 rfl (by decide) H (fun v7 hv7 H => x_ls (ls' := [(6, vI v7), (0, vR 122), (1, vI p1), (2, vI p2), (3, vR p3), (4, vI p4), (5, vI p5)]) rfl ?_)
        refine x_goto (tgt := 10) G dX2_letIn_79 (by decide) ?_
        exact x_subp (ls' := [(0, vR 122), (1, vI p1), (2, vI p2), (3, vR p3), (4, vI p4), (5, vI p5), (6, vI v7)]) [1, 2, 3, 4, 5, 6, 0] rfl (ih hp3 H)
      · have H := if_some_t H q6
        refine x_aload_n (j := 0) G dX2_letIn_33 rfl rfl ?_
        refine gf_273 G sh_122 pt_122_4 dX2_letIn_34 ?_
        refine x_iload (j := 6) G dX2_letIn_37 rfl ?_
        refine x_iald G dX2_letIn_39 H (fun x8 hx8 H => ?_)
        refine x_bipush G dX2_letIn_40 (by decide) (by decide) ?_
        refine x_icmp_ge (tgt := 76) G dX2_letIn_42 (by decide) (fun q9 => ?_) (fun q9 => ?_)
        · have H := if_some_t H q9
          refine x_iincL (j := 6) G dX2_letIn_76 rfl (by decide) H (fun v10 hv10 H => x_ls (ls' := [(6, vI v10), (0, vR 122), (1, vI p1), (2, vI p2), (3, vR p3), (4, vI p4), (5, vI p5)]) rfl ?_)
          refine x_goto (tgt := 10) G dX2_letIn_79 (by decide) ?_
          exact x_subp (ls' := [(0, vR 122), (1, vI p1), (2, vI p2), (3, vR p3), (4, vI p4), (5, vI p5), (6, vI v10)]) [1, 2, 3, 4, 5, 6, 0] rfl (ih hp3 H)
        · have H := if_some_f H q9
          refine x_iload (j := 4) G dX2_letIn_45 rfl ?_
          refine x_aload_n (j := 0) G dX2_letIn_47 rfl rfl ?_
          refine gf_273 G sh_122 pt_122_4 dX2_letIn_48 ?_
          refine x_iload (j := 6) G dX2_letIn_51 rfl ?_
          refine x_iald G dX2_letIn_53 H (fun x11 hx11 H => ?_)
          refine cm_645 (rest := []) G (by omega) (Nat.le_of_ble_eq_true rfl) dX2_letIn_54 ?_
          refine x_let H (fun v12 hv12 H => ?_)
          refine x_istore (ls' := [(4, vI v12), (0, vR 122), (1, vI p1), (2, vI p2), (3, vR p3), (5, vI p5), (6, vI p6)]) G dX2_letIn_57 (by decide) rfl ?_
          refine x_iload (j := 5) G dX2_letIn_59 rfl ?_
          refine x_aload_n (j := 1) G dX2_letIn_61 rfl rfl ?_
          refine gf_269 G sh_122 pt_122_0 dX2_letIn_62 ?_
          refine gf_156 G sh_21 pt_21_4 dX2_letIn_65 ?_
          refine x_iload (j := 6) G dX2_letIn_68 rfl ?_
          refine x_aald G dX2_letIn_70 H (fun g0 g1 x13 hx13 H => ?_)
          refine x_iconst G dX2_letIn_71 (by decide) ?_
          refine x_iald G dX2_letIn_72 H (fun x14 hx14 H => ?_)
          refine x_iadd G dX2_letIn_73 ?_
          refine x_let H (fun v15 hv15 H => ?_)
          refine x_istore (ls' := [(5, vI v15), (4, vI v12), (0, vR 122), (1, vI p1), (2, vI p2), (3, vR p3), (6, vI p6)]) G dX2_letIn_74 (by decide) rfl ?_
          refine x_iincL (j := 6) G dX2_letIn_76 rfl (by decide) H (fun v16 hv16 H => x_ls (ls' := [(6, vI v16), (5, vI v15), (4, vI v12), (0, vR 122), (1, vI p1), (2, vI p2), (3, vR p3)]) rfl ?_)
          refine x_goto (tgt := 10) G dX2_letIn_79 (by decide) ?_
          exact x_subp (ls' := [(0, vR 122), (1, vI p1), (2, vI p2), (3, vR p3), (4, vI v12), (5, vI v15), (6, vI v16)]) [3, 4, 5, 6, 2, 1, 0] rfl (ih hp3 H)
def fX2_letIn (a1 : Int) (a2 : Int) (a3 : Nat) (s : Mem) : Option Mem :=
  fX2_letIn_10 600 a1 a2 a3 24 0 0 s
set_option maxHeartbeats 4000000 in
theorem rX2_letIn {E : En} {sf : Mem} {a1 : Int} {a2 : Int} {a3 : Nat} {s : Mem} (q3 : ab_sh a3 = (1, 3, 0)) (H : fX2_letIn a1 a2 a3 s = some sf) : ab_Run E 1 yX2_letIn cX2_letIn 8 none [vR 122, vI a1, vI a2, vR a3] none s sf := by
  unfold fX2_letIn at H
  refine ab_intro (own := RX2) (by decide +kernel) rfl (Nat.le_of_ble_eq_true rfl) rfl (fun b G => ?_)
  refine x_bipush G dX2_letIn_0 (by decide) (by decide) ?_
  refine x_istore (ls' := [(4, vI 24), (0, vR 122), (1, vI a1), (2, vI a2), (3, vR a3)]) G dX2_letIn_2 (by decide) rfl ?_
  refine x_iconst G dX2_letIn_4 (by decide) ?_
  refine x_istore (ls' := [(5, vI 0), (4, vI 24), (0, vR 122), (1, vI a1), (2, vI a2), (3, vR a3)]) G dX2_letIn_5 (by decide) rfl ?_
  refine x_iconst G dX2_letIn_7 (by decide) ?_
  refine x_istore (ls' := [(6, vI 0), (5, vI 0), (4, vI 24), (0, vR 122), (1, vI a1), (2, vI a2), (3, vR a3)]) G dX2_letIn_8 (by decide) rfl ?_
  exact x_subp (ls' := [(0, vR 122), (1, vI a1), (2, vI a2), (3, vR a3), (4, vI 24), (5, vI 0), (6, vI 0)]) [3, 4, 5, 6, 2, 1, 0] rfl (tX2_letIn_10 G 600 q3 H)
def fX2_sail_36 (k2 : Int → Nat → Int → Mem → Option Mem) : Nat → Int → Nat → Int → Int → Mem → Option Mem
  | 0, _, _, _, _, _ => none
  | n + 1, p1, p2, p3, p4, s =>
  (rdG 27 p3).bind fun x1 =>
  (rdI s x1 0).bind fun x2 =>
  if x2 ≤ p4 then
    lt' (w32 (p3 + 1)) fun v4 =>
    k2 p1 p2 v4 s
  else
    (rdG 126 p3).bind fun x5 =>
    (wrI s x5 p4 24).bind fun s6 =>
    lt' (w32 (p4 + 1)) fun v7 =>
    fX2_sail_36 k2 n p1 p2 p3 v7 s6
set_option maxHeartbeats 4000000 in
theorem tX2_sail_36 {E : En} {b : Bn} {sf : Mem} {k2 : Int → Nat → Int → Mem → Option Mem} (G : ab_G E b cX2_sail 5 RX2 none 3) (K2 : ∀ {p1 : Int} {p2 : Nat} {p3 : Int} {s : Mem}, ab_sh p2 = (1, 3, 0) →  k2 p1 p2 p3 s = some sf → ab_X E b (ab_MQ E b none sf) 5 2 [(0, vR 122), (1, vI p1), (2, vR p2), (3, vI p3)] [] s) : ∀ (n : Nat) {p1 : Int} {p2 : Nat} {p3 : Int} {p4 : Int} {s : Mem} (hp2 : ab_sh p2 = (1, 3, 0)), fX2_sail_36 k2 n p1 p2 p3 p4 s = some sf → ab_X E b (ab_MQ E b none sf) 5 36 [(0, vR 122), (1, vI p1), (2, vR p2), (3, vI p3), (4, vI p4)] [] s := by
  intro n
  induction n with
  | zero => intro p1 p2 p3 p4 s hp2 H; rw [fX2_sail_36] at H; cases H
  | succ n ih =>
    intro p1 p2 p3 p4 s hp2 H
    rw [fX2_sail_36] at H
    refine x_iload (j := 4) G dX2_sail_36 rfl ?_
    refine x_aload_n (j := 0) G dX2_sail_38 rfl rfl ?_
    refine gf_269 G sh_122 pt_122_0 dX2_sail_39 ?_
    refine gf_156 G sh_21 pt_21_4 dX2_sail_42 ?_
    refine x_iload_n (j := 3) G dX2_sail_45 rfl rfl ?_
    refine x_aald G dX2_sail_46 H (fun g0 g1 x1 hx1 H => ?_)
    refine x_iconst G dX2_sail_47 (by decide) ?_
    refine x_iald G dX2_sail_48 H (fun x2 hx2 H => ?_)
    refine x_icmp_ge (tgt := 69) G dX2_sail_49 (by decide) (fun q3 => ?_) (fun q3 => ?_)
    · have H := if_some_t H q3
      refine x_iincL (j := 3) G dX2_sail_69 rfl (by decide) H (fun v4 hv4 H => x_ls (ls' := [(3, vI v4), (0, vR 122), (1, vI p1), (2, vR p2), (4, vI p4)]) rfl ?_)
      refine x_goto (tgt := 2) G dX2_sail_72 (by decide) ?_
      exact x_subp (ls' := [(0, vR 122), (1, vI p1), (2, vR p2), (3, vI v4)]) [1, 2, 3, 0] rfl (K2 hp2 H)
    · have H := if_some_f H q3
      refine x_aload_n (j := 0) G dX2_sail_52 rfl rfl ?_
      refine gf_277 G sh_122 pt_122_7 dX2_sail_53 ?_
      refine x_iload_n (j := 3) G dX2_sail_56 rfl rfl ?_
      refine x_aald G dX2_sail_57 H (fun g0 g1 x5 hx5 H => ?_)
      refine x_iload (j := 4) G dX2_sail_58 rfl ?_
      refine x_bipush G dX2_sail_60 (by decide) (by decide) ?_
      refine x_iast G dX2_sail_62 H (fun s6 hs6 H => ?_)
      refine x_iincL (j := 4) G dX2_sail_63 rfl (by decide) H (fun v7 hv7 H => x_ls (ls' := [(4, vI v7), (0, vR 122), (1, vI p1), (2, vR p2), (3, vI p3)]) rfl ?_)
      refine x_goto (tgt := 36) G dX2_sail_66 (by decide) ?_
      exact x_subp (ls' := [(0, vR 122), (1, vI p1), (2, vR p2), (3, vI p3), (4, vI v7)]) [1, 2, 3, 4, 0] rfl (ih hp2 H)
def fX2_sail_81  : Nat → Int → Nat → Int → Mem → Option Mem
  | 0, _, _, _, _ => none
  | n + 1, p1, p2, p3, s =>
  if (s 21 0) ≤ p3 then
    some s
  else
    (fX2_letIn p3 p1 p2 s).bind fun s3 =>
    lt' (w32 (p3 + 1)) fun v4 =>
    fX2_sail_81 n p1 p2 v4 s3
set_option maxHeartbeats 4000000 in
theorem tX2_sail_81 {E : En} {b : Bn} {sf : Mem}  (G : ab_G E b cX2_sail 5 RX2 none 3)  : ∀ (n : Nat) {p1 : Int} {p2 : Nat} {p3 : Int} {s : Mem} (hp2 : ab_sh p2 = (1, 3, 0)), fX2_sail_81 n p1 p2 p3 s = some sf → ab_X E b (ab_MQ E b none sf) 5 81 [(0, vR 122), (1, vI p1), (2, vR p2), (3, vI p3)] [] s := by
  intro n
  induction n with
  | zero => intro p1 p2 p3 s hp2 H; rw [fX2_sail_81] at H; cases H
  | succ n ih =>
    intro p1 p2 p3 s hp2 H
    rw [fX2_sail_81] at H
    refine x_iload_n (j := 3) G dX2_sail_81 rfl rfl ?_
    refine x_aload_n (j := 0) G dX2_sail_82 rfl rfl ?_
    refine gf_269 G sh_122 pt_122_0 dX2_sail_83 ?_
    refine gf_140 G sh_21 pt_21_0 dX2_sail_86 ?_
    refine x_icmp_ge (tgt := 105) G dX2_sail_89 (by decide) (fun q1 => ?_) (fun q1 => ?_)
    · have H := if_some_t H q1
      cases H
      exact x_vret G dX2_sail_105
    · have H := if_some_f H q1
      refine x_aload_n (j := 0) G dX2_sail_92 rfl rfl ?_
      refine x_iload_n (j := 3) G dX2_sail_93 rfl rfl ?_
      refine x_iload_n (j := 1) G dX2_sail_94 rfl rfl ?_
      refine x_aload_n (j := 2) G dX2_sail_95 rfl rfl ?_
      obtain ⟨s3, c3, H⟩ := bd_some H
      refine cv_641 (As := [vI p3, vI p1, vR p2]) (rest := []) G (rX2_letIn hp2 c3) sh_122 (by omega) rfl rfl (Nat.le_of_ble_eq_true rfl) dX2_sail_96 ?_
      refine x_iincL (j := 3) G dX2_sail_99 rfl (by decide) H (fun v4 hv4 H => x_ls (ls' := [(3, vI v4), (0, vR 122), (1, vI p1), (2, vR p2)]) rfl ?_)
      refine x_goto (tgt := 81) G dX2_sail_102 (by decide) ?_
      exact x_subp (ls' := [(0, vR 122), (1, vI p1), (2, vR p2), (3, vI v4)]) [1, 2, 3, 0] rfl (ih hp2 H)
def fX2_sail_2  : Nat → Int → Nat → Int → Mem → Option Mem
  | 0, _, _, _, _ => none
  | n + 1, p1, p2, p3, s =>
  if (s 21 1) ≤ p3 then
    (fX2_putInOrder  s).bind fun s3 =>
    fX2_sail_81 600 p1 p2 0 s3
  else
    b2 (fX2_arrivalOf p3 p1 p2 s) fun r4 s5 =>
    (wrI s5 123 p3 r4).bind fun s6 =>
    (wrI s6 125 p3 0).bind fun s7 =>
    fX2_sail_36 (fun p1 p2 p3 s => fX2_sail_2 n p1 p2 p3 s) 600 p1 p2 p3 0 s7
set_option maxHeartbeats 4000000 in
theorem tX2_sail_2 {E : En} {b : Bn} {sf : Mem}  (G : ab_G E b cX2_sail 5 RX2 none 3)  : ∀ (n : Nat) {p1 : Int} {p2 : Nat} {p3 : Int} {s : Mem} (hp2 : ab_sh p2 = (1, 3, 0)), fX2_sail_2 n p1 p2 p3 s = some sf → ab_X E b (ab_MQ E b none sf) 5 2 [(0, vR 122), (1, vI p1), (2, vR p2), (3, vI p3)] [] s := by
  intro n
  induction n with
  | zero => intro p1 p2 p3 s hp2 H; rw [fX2_sail_2] at H; cases H
  | succ n ih =>
    intro p1 p2 p3 s hp2 H
    rw [fX2_sail_2] at H
    refine x_iload_n (j := 3) G dX2_sail_2 rfl rfl ?_
    refine x_aload_n (j := 0) G dX2_sail_3 rfl rfl ?_
    refine gf_269 G sh_122 pt_122_0 dX2_sail_4 ?_
    refine gf_145 G sh_21 pt_21_1 dX2_sail_7 ?_
    refine x_icmp_ge (tgt := 75) G dX2_sail_10 (by decide) (fun q1 => ?_) (fun q1 => ?_)
    · have H := if_some_t H q1
      refine x_aload_n (j := 0) G dX2_sail_75 rfl rfl ?_
      obtain ⟨s3, c3, H⟩ := bd_some H
      refine cv_633 (As := []) (rest := []) G (rX2_putInOrder  c3) sh_122 (by omega) rfl rfl (Nat.le_of_ble_eq_true rfl) dX2_sail_76 ?_
      refine x_iconst G dX2_sail_79 (by decide) ?_
      refine x_istore_n (ls' := [(3, vI 0), (0, vR 122), (1, vI p1), (2, vR p2)]) G dX2_sail_80 rfl (by decide) rfl ?_
      exact x_subp (ls' := [(0, vR 122), (1, vI p1), (2, vR p2), (3, vI 0)]) [1, 2, 3, 0] rfl (tX2_sail_81 G 600 hp2 H)
    · have H := if_some_f H q1
      refine x_aload_n (j := 0) G dX2_sail_13 rfl rfl ?_
      refine gf_273 G sh_122 pt_122_4 dX2_sail_14 ?_
      refine x_iload_n (j := 3) G dX2_sail_17 rfl rfl ?_
      refine x_aload_n (j := 0) G dX2_sail_18 rfl rfl ?_
      refine x_iload_n (j := 3) G dX2_sail_19 rfl rfl ?_
      refine x_iload_n (j := 1) G dX2_sail_20 rfl rfl ?_
      refine x_aload_n (j := 2) G dX2_sail_21 rfl rfl ?_
      obtain ⟨r4, s5, c5, H⟩ := b2_some H
      refine cv_627 (As := [vI p3, vI p1, vR p2]) (rest := [vI p3, vR 123]) G (rX2_arrivalOf hp2 c5) sh_122 (by omega) rfl rfl (Nat.le_of_ble_eq_true rfl) dX2_sail_22 ?_
      refine x_iast G dX2_sail_25 H (fun s6 hs6 H => ?_)
      refine x_aload_n (j := 0) G dX2_sail_26 rfl rfl ?_
      refine gf_275 G sh_122 pt_122_6 dX2_sail_27 ?_
      refine x_iload_n (j := 3) G dX2_sail_30 rfl rfl ?_
      refine x_iconst G dX2_sail_31 (by decide) ?_
      refine x_iast G dX2_sail_32 H (fun s7 hs7 H => ?_)
      refine x_iconst G dX2_sail_33 (by decide) ?_
      refine x_istore (ls' := [(4, vI 0), (0, vR 122), (1, vI p1), (2, vR p2), (3, vI p3)]) G dX2_sail_34 (by decide) rfl ?_
      exact x_subp (ls' := [(0, vR 122), (1, vI p1), (2, vR p2), (3, vI p3), (4, vI 0)]) [1, 2, 3, 4, 0] rfl (tX2_sail_36 G ih 600 hp2 H)
def fX2_sail (a1 : Int) (a2 : Nat) (s : Mem) : Option Mem :=
  fX2_sail_2 600 a1 a2 0 s
set_option maxHeartbeats 4000000 in
theorem rX2_sail {E : En} {sf : Mem} {a1 : Int} {a2 : Nat} {s : Mem} (q2 : ab_sh a2 = (1, 3, 0)) (H : fX2_sail a1 a2 s = some sf) : ab_Run E 3 yX2_sail cX2_sail 5 none [vR 122, vI a1, vR a2] none s sf := by
  unfold fX2_sail at H
  refine ab_intro (own := RX2) (by decide +kernel) rfl (Nat.le_of_ble_eq_true rfl) rfl (fun b G => ?_)
  refine x_iconst G dX2_sail_0 (by decide) ?_
  refine x_istore_n (ls' := [(3, vI 0), (0, vR 122), (1, vI a1), (2, vR a2)]) G dX2_sail_1 rfl (by decide) rfl ?_
  exact x_subp (ls' := [(0, vR 122), (1, vI a1), (2, vR a2), (3, vI 0)]) [1, 2, 3, 0] rfl (tX2_sail_2 G 600 q2 H)
def fX5_aliveAt (a1 : Int) (a2 : Int) (a3 : Int) (s : Mem) : Option (Int × Mem) :=
  (rdG 58 (w32 ((w32 (a1 * 4)) + a2))).bind fun x1 =>
  (rdI s x1 a3).bind fun x2 =>
  some (x2, s)
set_option maxHeartbeats 4000000 in
theorem rX5_aliveAt {E : En} {xf : Int} {sf : Mem} {a1 : Int} {a2 : Int} {a3 : Int} {s : Mem}  (H : fX5_aliveAt a1 a2 a3 s = some (xf, sf)) : ab_Run E 0 yX5_aliveAt cX5_aliveAt 4 (some .int) [vR 21, vI a1, vI a2, vI a3] (some (vI xf)) s sf := by
  unfold fX5_aliveAt at H
  refine ab_intro (own := RX5) (by decide +kernel) rfl (Nat.le_of_ble_eq_true rfl) rfl (fun b G => ?_)
  refine x_aload_n (j := 0) G dX5_aliveAt_0 rfl rfl ?_
  refine gf_174 G sh_21 pt_21_12 dX5_aliveAt_1 ?_
  refine x_iload_n (j := 1) G dX5_aliveAt_4 rfl rfl ?_
  refine x_iconst G dX5_aliveAt_5 (by decide) ?_
  refine x_imul G dX5_aliveAt_6 ?_
  refine x_iload_n (j := 2) G dX5_aliveAt_7 rfl rfl ?_
  refine x_iadd G dX5_aliveAt_8 ?_
  refine x_aald G dX5_aliveAt_9 H (fun g0 g1 x1 hx1 H => ?_)
  refine x_iload_n (j := 3) G dX5_aliveAt_10 rfl rfl ?_
  refine x_iald G dX5_aliveAt_11 H (fun x2 hx2 H => ?_)
  cases H
  exact x_iret G dX5_aliveAt_12
def fX5_fishedTill (a1 : Int) (a2 : Int) (a3 : Int) (s : Mem) : Option (Int × Mem) :=
  (rdG 75 (w32 ((w32 (a1 * 4)) + a2))).bind fun x1 =>
  (rdL s x1 a3).bind fun x2 =>
  some (x2, s)
set_option maxHeartbeats 4000000 in
theorem rX5_fishedTill {E : En} {xf : Int} {sf : Mem} {a1 : Int} {a2 : Int} {a3 : Int} {s : Mem}  (H : fX5_fishedTill a1 a2 a3 s = some (xf, sf)) : ab_Run E 0 yX5_fishedTill cX5_fishedTill 4 (some .long) [vR 21, vI a1, vI a2, vI a3] (some (vL xf)) s sf := by
  unfold fX5_fishedTill at H
  refine ab_intro (own := RX5) (by decide +kernel) rfl (Nat.le_of_ble_eq_true rfl) rfl (fun b G => ?_)
  refine x_aload_n (j := 0) G dX5_fishedTill_0 rfl rfl ?_
  refine gf_175 G sh_21 pt_21_13 dX5_fishedTill_1 ?_
  refine x_iload_n (j := 1) G dX5_fishedTill_4 rfl rfl ?_
  refine x_iconst G dX5_fishedTill_5 (by decide) ?_
  refine x_imul G dX5_fishedTill_6 ?_
  refine x_iload_n (j := 2) G dX5_fishedTill_7 rfl rfl ?_
  refine x_iadd G dX5_fishedTill_8 ?_
  refine x_aald G dX5_fishedTill_9 H (fun g0 g1 x1 hx1 H => ?_)
  refine x_iload_n (j := 3) G dX5_fishedTill_10 rfl rfl ?_
  refine x_lald G dX5_fishedTill_11 H (fun x2 hx2 H => ?_)
  cases H
  exact x_lret G dX5_fishedTill_12
def fX2_worthOfSort_19  : Nat → Int → Int → Nat → Int → Int → Int → Mem → Option (Int × Mem)
  | 0, _, _, _, _, _, _, _ => none
  | n + 1, p1, p2, p3, p4, p5, p7, s =>
  if p4 ≤ p7 then
    (rdI s (ab_pt p3 0) p2).bind fun x2 =>
    b2 (fX5_fishedTill p1 p2 x2 s) fun r3 s4 =>
    (rdG 27 p2).bind fun x5 =>
    (rdI s4 x5 3).bind fun x6 =>
    some (w64 ((w64 (p4 * r3)) - (w64 (x6 * p5))), s4)
  else
    (rdG 126 p2).bind fun x7 =>
    (rdI s x7 p7).bind fun x8 =>
    b2 (fX5_aliveAt p1 p2 x8 s) fun r9 s10 =>
    lt' (w64 (p5 + (w32 (1000000 - r9)))) fun v11 =>
    lt' (w32 (p7 + 1)) fun v12 =>
    fX2_worthOfSort_19 n p1 p2 p3 p4 v11 v12 s10
set_option maxHeartbeats 4000000 in
theorem tX2_worthOfSort_19 {E : En} {b : Bn} {xf : Int} {sf : Mem}  (G : ab_G E b cX2_worthOfSort 8 RX2 (some .long) 1)  : ∀ (n : Nat) {p1 : Int} {p2 : Int} {p3 : Nat} {p4 : Int} {p5 : Int} {p7 : Int} {s : Mem} (hp3 : ab_sh p3 = (1, 3, 0)), fX2_worthOfSort_19 n p1 p2 p3 p4 p5 p7 s = some (xf, sf) → ab_X E b (ab_MQ E b (some (vL xf)) sf) 8 19 [(0, vR 122), (1, vI p1), (2, vI p2), (3, vR p3), (4, vI p4), (5, vL p5), (7, vI p7)] [] s := by
  intro n
  induction n with
  | zero => intro p1 p2 p3 p4 p5 p7 s hp3 H; rw [fX2_worthOfSort_19] at H; cases H
  | succ n ih =>
    intro p1 p2 p3 p4 p5 p7 s hp3 H
    rw [fX2_worthOfSort_19] at H
    refine x_iload (j := 6) G dX2_worthOfSort_19 rfl ?_
    refine x_iload (j := 4) G dX2_worthOfSort_21 rfl ?_
    refine x_icmp_ge (tgt := 59) G dX2_worthOfSort_23 (by decide) (fun q1 => ?_) (fun q1 => ?_)
    · have H := if_some_t H q1
      refine x_iload (j := 4) G dX2_worthOfSort_59 rfl ?_
      refine x_i2l G dX2_worthOfSort_61 ?_
      refine x_aload_n (j := 0) G dX2_worthOfSort_62 rfl rfl ?_
      refine gf_269 G sh_122 pt_122_0 dX2_worthOfSort_63 ?_
      refine x_iload_n (j := 1) G dX2_worthOfSort_66 rfl rfl ?_
      refine x_iload_n (j := 2) G dX2_worthOfSort_67 rfl rfl ?_
      refine x_aload_n (j := 3) G dX2_worthOfSort_68 rfl rfl ?_
      refine gf_224 G hp3 (pc_3_0 hp3) dX2_worthOfSort_69 ?_
      refine x_iload_n (j := 2) G dX2_worthOfSort_72 rfl rfl ?_
      refine x_iald G dX2_worthOfSort_73 H (fun x2 hx2 H => ?_)
      obtain ⟨r3, s4, c4, H⟩ := b2_some H
      refine cv_660 (As := [vI p1, vI p2, vI x2]) (rest := [vL p4]) G (rX5_fishedTill  c4) sh_21 (by omega) rfl rfl (Nat.le_of_ble_eq_true rfl) dX2_worthOfSort_74 ?_
      refine x_lmul G dX2_worthOfSort_77 ?_
      refine x_aload_n (j := 0) G dX2_worthOfSort_78 rfl rfl ?_
      refine gf_269 G sh_122 pt_122_0 dX2_worthOfSort_79 ?_
      refine gf_156 G sh_21 pt_21_4 dX2_worthOfSort_82 ?_
      refine x_iload_n (j := 2) G dX2_worthOfSort_85 rfl rfl ?_
      refine x_aald G dX2_worthOfSort_86 H (fun g0 g1 x5 hx5 H => ?_)
      refine x_iconst G dX2_worthOfSort_87 (by decide) ?_
      refine x_iald G dX2_worthOfSort_88 H (fun x6 hx6 H => ?_)
      refine x_i2l G dX2_worthOfSort_89 ?_
      refine x_lload (j := 5) G dX2_worthOfSort_90 rfl ?_
      refine x_lmul G dX2_worthOfSort_92 ?_
      refine x_lsub G dX2_worthOfSort_93 ?_
      cases H
      exact x_lret G dX2_worthOfSort_94
    · have H := if_some_f H q1
      refine x_lload (j := 5) G dX2_worthOfSort_26 rfl ?_
      refine x_ldc (x := 1000000) G wd_655 dX2_worthOfSort_28 (by decide) (by decide) ?_
      refine x_aload_n (j := 0) G dX2_worthOfSort_30 rfl rfl ?_
      refine gf_269 G sh_122 pt_122_0 dX2_worthOfSort_31 ?_
      refine x_iload_n (j := 1) G dX2_worthOfSort_34 rfl rfl ?_
      refine x_iload_n (j := 2) G dX2_worthOfSort_35 rfl rfl ?_
      refine x_aload_n (j := 0) G dX2_worthOfSort_36 rfl rfl ?_
      refine gf_277 G sh_122 pt_122_7 dX2_worthOfSort_37 ?_
      refine x_iload_n (j := 2) G dX2_worthOfSort_40 rfl rfl ?_
      refine x_aald G dX2_worthOfSort_41 H (fun g0 g1 x7 hx7 H => ?_)
      refine x_iload (j := 6) G dX2_worthOfSort_42 rfl ?_
      refine x_iald G dX2_worthOfSort_44 H (fun x8 hx8 H => ?_)
      obtain ⟨r9, s10, c10, H⟩ := b2_some H
      refine cv_656 (As := [vI p1, vI p2, vI x8]) (rest := [vI 1000000, vL p5]) G (rX5_aliveAt  c10) sh_21 (by omega) rfl rfl (Nat.le_of_ble_eq_true rfl) dX2_worthOfSort_45 ?_
      refine x_isub G dX2_worthOfSort_48 ?_
      refine x_i2l G dX2_worthOfSort_49 ?_
      refine x_ladd G dX2_worthOfSort_50 ?_
      refine x_letL H (fun v11 hv11 H => ?_)
      refine x_lstore (ls' := [(5, vL v11), (0, vR 122), (1, vI p1), (2, vI p2), (3, vR p3), (4, vI p4), (7, vI p7)]) G dX2_worthOfSort_51 (by decide) rfl ?_
      refine x_iincL (j := 6) G dX2_worthOfSort_53 rfl (by decide) H (fun v12 hv12 H => x_ls (ls' := [(7, vI v12), (5, vL v11), (0, vR 122), (1, vI p1), (2, vI p2), (3, vR p3), (4, vI p4)]) rfl ?_)
      refine x_goto (tgt := 19) G dX2_worthOfSort_56 (by decide) ?_
      exact x_subp (ls' := [(0, vR 122), (1, vI p1), (2, vI p2), (3, vR p3), (4, vI p4), (5, vL v11), (7, vI v12)]) [2, 3, 4, 5, 6, 1, 0] rfl (ih hp3 H)
def fX2_worthOfSort (a1 : Int) (a2 : Int) (a3 : Nat) (s : Mem) : Option (Int × Mem) :=
  (rdG 27 a2).bind fun x1 =>
  (rdI s x1 0).bind fun x2 =>
  fX2_worthOfSort_19 600 a1 a2 a3 x2 0 0 s
set_option maxHeartbeats 4000000 in
theorem rX2_worthOfSort {E : En} {xf : Int} {sf : Mem} {a1 : Int} {a2 : Int} {a3 : Nat} {s : Mem} (q3 : ab_sh a3 = (1, 3, 0)) (H : fX2_worthOfSort a1 a2 a3 s = some (xf, sf)) : ab_Run E 1 yX2_worthOfSort cX2_worthOfSort 8 (some .long) [vR 122, vI a1, vI a2, vR a3] (some (vL xf)) s sf := by
  unfold fX2_worthOfSort at H
  refine ab_intro (own := RX2) (by decide +kernel) rfl (Nat.le_of_ble_eq_true rfl) rfl (fun b G => ?_)
  refine x_aload_n (j := 0) G dX2_worthOfSort_0 rfl rfl ?_
  refine gf_269 G sh_122 pt_122_0 dX2_worthOfSort_1 ?_
  refine gf_156 G sh_21 pt_21_4 dX2_worthOfSort_4 ?_
  refine x_iload_n (j := 2) G dX2_worthOfSort_7 rfl rfl ?_
  refine x_aald G dX2_worthOfSort_8 H (fun g0 g1 x1 hx1 H => ?_)
  refine x_iconst G dX2_worthOfSort_9 (by decide) ?_
  refine x_iald G dX2_worthOfSort_10 H (fun x2 hx2 H => ?_)
  refine x_istore (ls' := [(4, vI x2), (0, vR 122), (1, vI a1), (2, vI a2), (3, vR a3)]) G dX2_worthOfSort_11 (by decide) rfl ?_
  refine x_lconst (x := 0) G dX2_worthOfSort_13 (by decide) (by decide) ?_
  refine x_lstore (ls' := [(5, vL 0), (4, vI x2), (0, vR 122), (1, vI a1), (2, vI a2), (3, vR a3)]) G dX2_worthOfSort_14 (by decide) rfl ?_
  refine x_iconst G dX2_worthOfSort_16 (by decide) ?_
  refine x_istore (ls' := [(7, vI 0), (5, vL 0), (4, vI x2), (0, vR 122), (1, vI a1), (2, vI a2), (3, vR a3)]) G dX2_worthOfSort_17 (by decide) rfl ?_
  exact x_subp (ls' := [(0, vR 122), (1, vI a1), (2, vI a2), (3, vR a3), (4, vI x2), (5, vL 0), (7, vI 0)]) [3, 4, 5, 6, 2, 1, 0] rfl (tX2_worthOfSort_19 G 600 q3 H)

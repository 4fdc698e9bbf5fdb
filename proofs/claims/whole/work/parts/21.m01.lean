def fX2_worthOf_12  : Nat → Int → Nat → Int → Int → Int → Mem → Option (Int × Mem)
  | 0, _, _, _, _, _, _ => none
  | n + 1, p1, p2, p3, p4, p6, s =>
  if (s 21 1) ≤ p6 then
    some (p4, s)
  else
    if (andI (shrI p3 p6) 1) = 0 then
      lt' (w32 (p6 + 1)) fun v3 =>
      fX2_worthOf_12 n p1 p2 p3 p4 v3 s
    else
      b2 (fX2_worthOfSort p1 p6 p2 s) fun r4 s5 =>
      lt' (w64 (p4 + r4)) fun v6 =>
      lt' (w32 (p6 + 1)) fun v7 =>
      fX2_worthOf_12 n p1 p2 p3 v6 v7 s5
set_option maxHeartbeats 4000000 in
theorem tX2_worthOf_12 {E : En} {b : Bn} {xf : Int} {sf : Mem}  (G : ab_G E b cX2_worthOf 7 RX2 (some .long) 4)  : ∀ (n : Nat) {p1 : Int} {p2 : Nat} {p3 : Int} {p4 : Int} {p6 : Int} {s : Mem} (hp2 : ab_sh p2 = (1, 3, 0)), fX2_worthOf_12 n p1 p2 p3 p4 p6 s = some (xf, sf) → ab_X E b (ab_MQ E b (some (vL xf)) sf) 7 12 [(0, vR 122), (1, vI p1), (2, vR p2), (3, vI p3), (4, vL p4), (6, vI p6)] [] s := by
  intro n
  induction n with
  | zero => intro p1 p2 p3 p4 p6 s hp2 H; rw [fX2_worthOf_12] at H; cases H
  | succ n ih =>
    intro p1 p2 p3 p4 p6 s hp2 H
    rw [fX2_worthOf_12] at H
    refine x_iload (j := 5) G dX2_worthOf_12 rfl ?_
    refine x_aload_n (j := 0) G dX2_worthOf_14 rfl rfl ?_
    refine gf_269 G sh_122 pt_122_0 dX2_worthOf_15 ?_
    refine gf_145 G sh_21 pt_21_1 dX2_worthOf_18 ?_
    refine x_icmp_ge (tgt := 52) G dX2_worthOf_21 (by decide) (fun q1 => ?_) (fun q1 => ?_)
    · have H := if_some_t H q1
      refine x_lload (j := 4) G dX2_worthOf_52 rfl ?_
      cases H
      exact x_lret G dX2_worthOf_54
    · have H := if_some_f H q1
      refine x_iload_n (j := 3) G dX2_worthOf_24 rfl rfl ?_
      refine x_iload (j := 5) G dX2_worthOf_25 rfl ?_
      refine x_ishr G dX2_worthOf_27 ?_
      refine x_iconst G dX2_worthOf_28 (by decide) ?_
      refine x_iand G dX2_worthOf_29 ?_
      refine x_if_eq (tgt := 46) G dX2_worthOf_30 (by decide) (fun q2 => ?_) (fun q2 => ?_)
      · have H := if_some_t H q2
        refine x_iincL (j := 5) G dX2_worthOf_46 rfl (by decide) H (fun v3 hv3 H => x_ls (ls' := [(6, vI v3), (0, vR 122), (1, vI p1), (2, vR p2), (3, vI p3), (4, vL p4)]) rfl ?_)
        refine x_goto (tgt := 12) G dX2_worthOf_49 (by decide) ?_
        exact x_subp (ls' := [(0, vR 122), (1, vI p1), (2, vR p2), (3, vI p3), (4, vL p4), (6, vI v3)]) [1, 2, 3, 4, 5, 0] rfl (ih hp2 H)
      · have H := if_some_f H q2
        refine x_lload (j := 4) G dX2_worthOf_33 rfl ?_
        refine x_aload_n (j := 0) G dX2_worthOf_35 rfl rfl ?_
        refine x_iload_n (j := 1) G dX2_worthOf_36 rfl rfl ?_
        refine x_iload (j := 5) G dX2_worthOf_37 rfl ?_
        refine x_aload_n (j := 2) G dX2_worthOf_39 rfl rfl ?_
        obtain ⟨r4, s5, c5, H⟩ := b2_some H
        refine cv_651 (As := [vI p1, vI p6, vR p2]) (rest := [vL p4]) G (rX2_worthOfSort hp2 c5) sh_122 (by omega) rfl rfl (Nat.le_of_ble_eq_true rfl) dX2_worthOf_40 ?_
        refine x_ladd G dX2_worthOf_43 ?_
        refine x_letL H (fun v6 hv6 H => ?_)
        refine x_lstore (ls' := [(4, vL v6), (0, vR 122), (1, vI p1), (2, vR p2), (3, vI p3), (6, vI p6)]) G dX2_worthOf_44 (by decide) rfl ?_
        refine x_iincL (j := 5) G dX2_worthOf_46 rfl (by decide) H (fun v7 hv7 H => x_ls (ls' := [(6, vI v7), (4, vL v6), (0, vR 122), (1, vI p1), (2, vR p2), (3, vI p3)]) rfl ?_)
        refine x_goto (tgt := 12) G dX2_worthOf_49 (by decide) ?_
        exact x_subp (ls' := [(0, vR 122), (1, vI p1), (2, vR p2), (3, vI p3), (4, vL v6), (6, vI v7)]) [2, 3, 4, 5, 1, 0] rfl (ih hp2 H)
def fX2_worthOf (a1 : Int) (a2 : Nat) (a3 : Int) (s : Mem) : Option (Int × Mem) :=
  (fX2_sail a1 a2 s).bind fun s2 =>
  fX2_worthOf_12 600 a1 a2 a3 0 0 s2
set_option maxHeartbeats 4000000 in
theorem rX2_worthOf {E : En} {xf : Int} {sf : Mem} {a1 : Int} {a2 : Nat} {a3 : Int} {s : Mem} (q2 : ab_sh a2 = (1, 3, 0)) (H : fX2_worthOf a1 a2 a3 s = some (xf, sf)) : ab_Run E 4 yX2_worthOf cX2_worthOf 7 (some .long) [vR 122, vI a1, vR a2, vI a3] (some (vL xf)) s sf := by
  unfold fX2_worthOf at H
  refine ab_intro (own := RX2) (by decide +kernel) rfl (Nat.le_of_ble_eq_true rfl) rfl (fun b G => ?_)
  refine x_aload_n (j := 0) G dX2_worthOf_0 rfl rfl ?_
  refine x_iload_n (j := 1) G dX2_worthOf_1 rfl rfl ?_
  refine x_aload_n (j := 2) G dX2_worthOf_2 rfl rfl ?_
  obtain ⟨s2, c2, H⟩ := bd_some H
  refine cv_623 (As := [vI a1, vR a2]) (rest := []) G (rX2_sail q2 c2) sh_122 (by omega) rfl rfl (Nat.le_of_ble_eq_true rfl) dX2_worthOf_3 ?_
  refine x_lconst (x := 0) G dX2_worthOf_6 (by decide) (by decide) ?_
  refine x_lstore (ls' := [(4, vL 0), (0, vR 122), (1, vI a1), (2, vR a2), (3, vI a3)]) G dX2_worthOf_7 (by decide) rfl ?_
  refine x_iconst G dX2_worthOf_9 (by decide) ?_
  refine x_istore (ls' := [(6, vI 0), (4, vL 0), (0, vR 122), (1, vI a1), (2, vR a2), (3, vI a3)]) G dX2_worthOf_10 (by decide) rfl ?_
  exact x_subp (ls' := [(0, vR 122), (1, vI a1), (2, vR a2), (3, vI a3), (4, vL 0), (6, vI 0)]) [2, 3, 4, 5, 1, 0] rfl (tX2_worthOf_12 G 600 q2 H)
def fX2_meanOf_6  : Nat → Nat → Int → Int → Int → Int → Mem → Option (Int × Mem)
  | 0, _, _, _, _, _, _ => none
  | n + 1, p1, p2, p3, p4, p6, s =>
  if (s 21 2) ≤ p6 then
    some (p4, s)
  else
    if (andI (shrI p2 p6) 1) = 0 then
      lt' (w32 (p6 + 1)) fun v3 =>
      fX2_meanOf_6 n p1 p2 p3 p4 v3 s
    else
      (rdG 32 p6).bind fun x4 =>
      (rdI s x4 0).bind fun x5 =>
      if x5 ≤ 0 then
        lt' (w32 (p6 + 1)) fun v7 =>
        fX2_meanOf_6 n p1 p2 p3 p4 v7 s
      else
        (rdG 32 p6).bind fun x8 =>
        (rdI s x8 0).bind fun x9 =>
        b2 (fX2_worthOf p6 p1 p3 s) fun r10 s11 =>
        lt' (w64 (p4 + (w64 (x9 * r10)))) fun v12 =>
        lt' (w32 (p6 + 1)) fun v13 =>
        fX2_meanOf_6 n p1 p2 p3 v12 v13 s11
set_option maxHeartbeats 4000000 in
theorem tX2_meanOf_6 {E : En} {b : Bn} {xf : Int} {sf : Mem}  (G : ab_G E b cX2_meanOf 7 RX2 (some .long) 5)  : ∀ (n : Nat) {p1 : Nat} {p2 : Int} {p3 : Int} {p4 : Int} {p6 : Int} {s : Mem} (hp1 : ab_sh p1 = (1, 3, 0)), fX2_meanOf_6 n p1 p2 p3 p4 p6 s = some (xf, sf) → ab_X E b (ab_MQ E b (some (vL xf)) sf) 7 6 [(0, vR 122), (1, vR p1), (2, vI p2), (3, vI p3), (4, vL p4), (6, vI p6)] [] s := by
  intro n
  induction n with
  | zero => intro p1 p2 p3 p4 p6 s hp1 H; rw [fX2_meanOf_6] at H; cases H
  | succ n ih =>
    intro p1 p2 p3 p4 p6 s hp1 H
    rw [fX2_meanOf_6] at H
    refine x_iload (j := 5) G dX2_meanOf_6 rfl ?_
    refine x_aload_n (j := 0) G dX2_meanOf_8 rfl rfl ?_
    refine gf_269 G sh_122 pt_122_0 dX2_meanOf_9 ?_
    refine gf_147 G sh_21 pt_21_2 dX2_meanOf_12 ?_
    refine x_icmp_ge (tgt := 75) G dX2_meanOf_15 (by decide) (fun q1 => ?_) (fun q1 => ?_)
    · have H := if_some_t H q1
      refine x_lload (j := 4) G dX2_meanOf_75 rfl ?_
      cases H
      exact x_lret G dX2_meanOf_77
    · have H := if_some_f H q1
      refine x_iload_n (j := 2) G dX2_meanOf_18 rfl rfl ?_
      refine x_iload (j := 5) G dX2_meanOf_19 rfl ?_
      refine x_ishr G dX2_meanOf_21 ?_
      refine x_iconst G dX2_meanOf_22 (by decide) ?_
      refine x_iand G dX2_meanOf_23 ?_
      refine x_if_eq (tgt := 69) G dX2_meanOf_24 (by decide) (fun q2 => ?_) (fun q2 => ?_)
      · have H := if_some_t H q2
        refine x_iincL (j := 5) G dX2_meanOf_69 rfl (by decide) H (fun v3 hv3 H => x_ls (ls' := [(6, vI v3), (0, vR 122), (1, vR p1), (2, vI p2), (3, vI p3), (4, vL p4)]) rfl ?_)
        refine x_goto (tgt := 6) G dX2_meanOf_72 (by decide) ?_
        exact x_subp (ls' := [(0, vR 122), (1, vR p1), (2, vI p2), (3, vI p3), (4, vL p4), (6, vI v3)]) [1, 2, 3, 4, 5, 0] rfl (ih hp1 H)
      · have H := if_some_f H q2
        refine x_aload_n (j := 0) G dX2_meanOf_27 rfl rfl ?_
        refine gf_269 G sh_122 pt_122_0 dX2_meanOf_28 ?_
        refine gf_159 G sh_21 pt_21_5 dX2_meanOf_31 ?_
        refine x_iload (j := 5) G dX2_meanOf_34 rfl ?_
        refine x_aald G dX2_meanOf_36 H (fun g0 g1 x4 hx4 H => ?_)
        refine x_iconst G dX2_meanOf_37 (by decide) ?_
        refine x_iald G dX2_meanOf_38 H (fun x5 hx5 H => ?_)
        refine x_if_le (tgt := 69) G dX2_meanOf_39 (by decide) (fun q6 => ?_) (fun q6 => ?_)
        · have H := if_some_t H q6
          refine x_iincL (j := 5) G dX2_meanOf_69 rfl (by decide) H (fun v7 hv7 H => x_ls (ls' := [(6, vI v7), (0, vR 122), (1, vR p1), (2, vI p2), (3, vI p3), (4, vL p4)]) rfl ?_)
          refine x_goto (tgt := 6) G dX2_meanOf_72 (by decide) ?_
          exact x_subp (ls' := [(0, vR 122), (1, vR p1), (2, vI p2), (3, vI p3), (4, vL p4), (6, vI v7)]) [1, 2, 3, 4, 5, 0] rfl (ih hp1 H)
        · have H := if_some_f H q6
          refine x_lload (j := 4) G dX2_meanOf_42 rfl ?_
          refine x_aload_n (j := 0) G dX2_meanOf_44 rfl rfl ?_
          refine gf_269 G sh_122 pt_122_0 dX2_meanOf_45 ?_
          refine gf_159 G sh_21 pt_21_5 dX2_meanOf_48 ?_
          refine x_iload (j := 5) G dX2_meanOf_51 rfl ?_
          refine x_aald G dX2_meanOf_53 H (fun g0 g1 x8 hx8 H => ?_)
          refine x_iconst G dX2_meanOf_54 (by decide) ?_
          refine x_iald G dX2_meanOf_55 H (fun x9 hx9 H => ?_)
          refine x_i2l G dX2_meanOf_56 ?_
          refine x_aload_n (j := 0) G dX2_meanOf_57 rfl rfl ?_
          refine x_iload (j := 5) G dX2_meanOf_58 rfl ?_
          refine x_aload_n (j := 1) G dX2_meanOf_60 rfl rfl ?_
          refine x_iload_n (j := 3) G dX2_meanOf_61 rfl rfl ?_
          obtain ⟨r10, s11, c11, H⟩ := b2_some H
          refine cv_682 (As := [vI p6, vR p1, vI p3]) (rest := [vL x9, vL p4]) G (rX2_worthOf hp1 c11) sh_122 (by omega) rfl rfl (Nat.le_of_ble_eq_true rfl) dX2_meanOf_62 ?_
          refine x_lmul G dX2_meanOf_65 ?_
          refine x_ladd G dX2_meanOf_66 ?_
          refine x_letL H (fun v12 hv12 H => ?_)
          refine x_lstore (ls' := [(4, vL v12), (0, vR 122), (1, vR p1), (2, vI p2), (3, vI p3), (6, vI p6)]) G dX2_meanOf_67 (by decide) rfl ?_
          refine x_iincL (j := 5) G dX2_meanOf_69 rfl (by decide) H (fun v13 hv13 H => x_ls (ls' := [(6, vI v13), (4, vL v12), (0, vR 122), (1, vR p1), (2, vI p2), (3, vI p3)]) rfl ?_)
          refine x_goto (tgt := 6) G dX2_meanOf_72 (by decide) ?_
          exact x_subp (ls' := [(0, vR 122), (1, vR p1), (2, vI p2), (3, vI p3), (4, vL v12), (6, vI v13)]) [2, 3, 4, 5, 1, 0] rfl (ih hp1 H)
def fX2_meanOf (a1 : Nat) (a2 : Int) (a3 : Int) (s : Mem) : Option (Int × Mem) :=
  fX2_meanOf_6 600 a1 a2 a3 0 0 s
set_option maxHeartbeats 4000000 in
theorem rX2_meanOf {E : En} {xf : Int} {sf : Mem} {a1 : Nat} {a2 : Int} {a3 : Int} {s : Mem} (q1 : ab_sh a1 = (1, 3, 0)) (H : fX2_meanOf a1 a2 a3 s = some (xf, sf)) : ab_Run E 5 yX2_meanOf cX2_meanOf 7 (some .long) [vR 122, vR a1, vI a2, vI a3] (some (vL xf)) s sf := by
  unfold fX2_meanOf at H
  refine ab_intro (own := RX2) (by decide +kernel) rfl (Nat.le_of_ble_eq_true rfl) rfl (fun b G => ?_)
  refine x_lconst (x := 0) G dX2_meanOf_0 (by decide) (by decide) ?_
  refine x_lstore (ls' := [(4, vL 0), (0, vR 122), (1, vR a1), (2, vI a2), (3, vI a3)]) G dX2_meanOf_1 (by decide) rfl ?_
  refine x_iconst G dX2_meanOf_3 (by decide) ?_
  refine x_istore (ls' := [(6, vI 0), (4, vL 0), (0, vR 122), (1, vR a1), (2, vI a2), (3, vI a3)]) G dX2_meanOf_4 (by decide) rfl ?_
  exact x_subp (ls' := [(0, vR 122), (1, vR a1), (2, vI a2), (3, vI a3), (4, vL 0), (6, vI 0)]) [2, 3, 4, 5, 1, 0] rfl (tX2_meanOf_6 G 600 q1 H)
def fX3_send (a0 : Nat) (a1 : Int) (a2 : Int) (a3 : Int) (s : Mem) : Option Mem :=
  (wrI s (ab_pt a0 0) a1 a2).bind fun s1 =>
  (wrI s1 (ab_pt a0 1) a1 a3).bind fun s2 =>
  some s2
set_option maxHeartbeats 4000000 in
theorem rX3_send {E : En} {sf : Mem} {a0 : Nat} {a1 : Int} {a2 : Int} {a3 : Int} {s : Mem} (q0 : ab_sh a0 = (1, 3, 0)) (H : fX3_send a0 a1 a2 a3 s = some sf) : ab_Run E 0 yX3_send cX3_send 4 none [vR a0, vI a1, vI a2, vI a3] none s sf := by
  unfold fX3_send at H
  refine ab_intro (own := RX3) (by decide +kernel) rfl (Nat.le_of_ble_eq_true rfl) rfl (fun b G => ?_)
  refine x_aload_n (j := 0) G dX3_send_0 rfl rfl ?_
  refine gf_221 G q0 (pc_3_0 q0) dX3_send_1 ?_
  refine x_iload_n (j := 1) G dX3_send_4 rfl rfl ?_
  refine x_iload_n (j := 2) G dX3_send_5 rfl rfl ?_
  refine x_iast G dX3_send_6 H (fun s1 hs1 H => ?_)
  refine x_aload_n (j := 0) G dX3_send_7 rfl rfl ?_
  refine gf_226 G q0 (pc_3_1 q0) dX3_send_8 ?_
  refine x_iload_n (j := 1) G dX3_send_11 rfl rfl ?_
  refine x_iload_n (j := 3) G dX3_send_12 rfl rfl ?_
  refine x_iast G dX3_send_13 H (fun s2 hs2 H => ?_)
  cases H
  exact x_vret G dX3_send_14
def fX0_improves_58 (k48 : Int → Int → Int → Int → Int → Int → Int → Mem → Option (Int × Mem)) : Nat → Int → Int → Int → Int → Int → Int → Int → Int → Mem → Option (Int × Mem)
  | 0, _, _, _, _, _, _, _, _, _ => none
  | n + 1, p1, p2, p4, p5, p6, p8, p9, p10, s =>
  if (s 21 0) ≤ p10 then
    lt' (w32 (p9 + 1)) fun v2 =>
    k48 p1 p2 p4 p5 p6 p8 v2 s
  else
    (fX3_send 110 p1 p9 p10 s).bind fun s4 =>
    b2 (fX2_meanOf 110 (s4 109 4) p2 s4) fun r5 s6 =>
    if r5 ≤ p6 then
      lt' (w32 (p10 + 1)) fun v8 =>
      fX0_improves_58 k48 n p1 p2 p4 p5 p6 p8 p9 v8 s6
    else
      lt' (w32 (p10 + 1)) fun v9 =>
      fX0_improves_58 k48 n p1 p2 p9 p10 r5 1 p9 v9 s6
set_option maxHeartbeats 4000000 in
theorem tX0_improves_58 {E : En} {b : Bn} {xf : Int} {sf : Mem} {k48 : Int → Int → Int → Int → Int → Int → Int → Mem → Option (Int × Mem)} (G : ab_G E b cX0_improves 13 RX0 (some .boolean) 6) (K48 : ∀ {p1 : Int} {p2 : Int} {p4 : Int} {p5 : Int} {p6 : Int} {p8 : Int} {p9 : Int} {s : Mem},  k48 p1 p2 p4 p5 p6 p8 p9 s = some (xf, sf) → ab_X E b (ab_MQ E b (some (vI xf)) sf) 13 48 [(0, vR 133), (1, vI p1), (2, vI p2), (3, vR 110), (4, vI p4), (5, vI p5), (6, vL p6), (8, vI p8), (9, vI p9)] [] s) : ∀ (n : Nat) {p1 : Int} {p2 : Int} {p4 : Int} {p5 : Int} {p6 : Int} {p8 : Int} {p9 : Int} {p10 : Int} {s : Mem}, fX0_improves_58 k48 n p1 p2 p4 p5 p6 p8 p9 p10 s = some (xf, sf) → ab_X E b (ab_MQ E b (some (vI xf)) sf) 13 58 [(0, vR 133), (1, vI p1), (2, vI p2), (3, vR 110), (4, vI p4), (5, vI p5), (6, vL p6), (8, vI p8), (9, vI p9), (10, vI p10)] [] s := by
  intro n
  induction n with
  | zero => intro p1 p2 p4 p5 p6 p8 p9 p10 s H; rw [fX0_improves_58] at H; cases H
  | succ n ih =>
    intro p1 p2 p4 p5 p6 p8 p9 p10 s H
    rw [fX0_improves_58] at H
    refine x_iload (j := 9) G dX0_improves_58 rfl ?_
    refine x_aload_n (j := 0) G dX0_improves_60 rfl rfl ?_
    refine gf_325 G sh_133 pt_133_0 dX0_improves_61 ?_
    refine gf_138 G sh_21 pt_21_0 dX0_improves_64 ?_
    refine x_icmp_ge (tgt := 126) G dX0_improves_67 (by decide) (fun q1 => ?_) (fun q1 => ?_)
    · have H := if_some_t H q1
      refine x_iincL (j := 8) G dX0_improves_126 rfl (by decide) H (fun v2 hv2 H => x_ls (ls' := [(9, vI v2), (0, vR 133), (1, vI p1), (2, vI p2), (3, vR 110), (4, vI p4), (5, vI p5), (6, vL p6), (8, vI p8), (10, vI p10)]) rfl ?_)
      refine x_goto (tgt := 48) G dX0_improves_129 (by decide) ?_
      exact x_subp (ls' := [(0, vR 133), (1, vI p1), (2, vI p2), (3, vR 110), (4, vI p4), (5, vI p5), (6, vL p6), (8, vI p8), (9, vI v2)]) [1, 2, 3, 4, 5, 6, 7, 8, 0] rfl (K48 H)
    · have H := if_some_f H q1
      refine x_aload_n (j := 3) G dX0_improves_70 rfl rfl ?_
      refine x_iload_n (j := 1) G dX0_improves_71 rfl rfl ?_
      refine x_iload (j := 8) G dX0_improves_72 rfl ?_
      refine x_iload (j := 9) G dX0_improves_74 rfl ?_
      obtain ⟨s4, c4, H⟩ := bd_some H
      refine cv_796 (As := [vI p1, vI p9, vI p10]) (rest := []) G (rX3_send sh_110 c4) sh_110 (by omega) rfl rfl (Nat.le_of_ble_eq_true rfl) dX0_improves_76 ?_
      refine x_aload_n (j := 0) G dX0_improves_79 rfl rfl ?_
      refine gf_327 G sh_133 pt_133_2 dX0_improves_80 ?_
      refine x_aload_n (j := 3) G dX0_improves_83 rfl rfl ?_
      refine x_aload_n (j := 0) G dX0_improves_84 rfl rfl ?_
      refine gf_326 G sh_133 pt_133_1 dX0_improves_85 ?_
      refine gf_247 G sh_109 pt_109_4 dX0_improves_88 ?_
      refine x_iload_n (j := 2) G dX0_improves_91 rfl rfl ?_
      obtain ⟨r5, s6, c6, H⟩ := b2_some H
      refine cv_795 (As := [vR 110, vI (s4 109 4), vI p2]) (rest := []) G (rX2_meanOf sh_110 c6) sh_122 (by omega) rfl rfl (Nat.le_of_ble_eq_true rfl) dX0_improves_92 ?_
      refine x_lstore (ls' := [(11, vL r5), (0, vR 133), (1, vI p1), (2, vI p2), (3, vR 110), (4, vI p4), (5, vI p5), (6, vL p6), (8, vI p8), (9, vI p9), (10, vI p10)]) G dX0_improves_95 (by decide) rfl ?_
      refine x_lload (j := 0) G dX0_improves_97 rfl ?_
      refine x_lload (j := 7) G dX0_improves_99 rfl ?_
      refine x_lcmp_le (tgt := 120) G dX0_improves_101 rfl dX0_improves_102 (by decide) (fun q7 => ?_) (fun q7 => ?_)
      · have H := if_some_t H q7
        refine x_iincL (j := 10) G dX0_improves_120 rfl (by decide) H (fun v8 hv8 H => x_ls (ls' := [(10, vI v8), (11, vL r5), (0, vR 133), (1, vI p1), (2, vI p2), (3, vR 110), (4, vI p4), (5, vI p5), (6, vL p6), (8, vI p8), (9, vI p9)]) rfl ?_)
        refine x_goto (tgt := 58) G dX0_improves_123 (by decide) ?_
        exact x_subp (ls' := [(0, vR 133), (1, vI p1), (2, vI p2), (3, vR 110), (4, vI p4), (5, vI p5), (6, vL p6), (8, vI p8), (9, vI p9), (10, vI v8)]) [2, 3, 4, 5, 6, 7, 8, 9, 10, 0] rfl (ih H)
      · have H := if_some_f H q7
        refine x_lload (j := 0) G dX0_improves_105 rfl ?_
        refine x_lstore (ls' := [(6, vL r5), (11, vL r5), (0, vR 133), (1, vI p1), (2, vI p2), (3, vR 110), (4, vI p4), (5, vI p5), (8, vI p8), (9, vI p9), (10, vI p10)]) G dX0_improves_107 (by decide) rfl ?_
        refine x_iload (j := 9) G dX0_improves_109 rfl ?_
        refine x_istore (ls' := [(4, vI p9), (6, vL r5), (11, vL r5), (0, vR 133), (1, vI p1), (2, vI p2), (3, vR 110), (5, vI p5), (8, vI p8), (9, vI p9), (10, vI p10)]) G dX0_improves_111 (by decide) rfl ?_
        refine x_iload (j := 10) G dX0_improves_113 rfl ?_
        refine x_istore (ls' := [(5, vI p10), (4, vI p9), (6, vL r5), (11, vL r5), (0, vR 133), (1, vI p1), (2, vI p2), (3, vR 110), (8, vI p8), (9, vI p9), (10, vI p10)]) G dX0_improves_115 (by decide) rfl ?_
        refine x_iconst G dX0_improves_117 (by decide) ?_
        refine x_istore (ls' := [(8, vI 1), (5, vI p10), (4, vI p9), (6, vL r5), (11, vL r5), (0, vR 133), (1, vI p1), (2, vI p2), (3, vR 110), (9, vI p9), (10, vI p10)]) G dX0_improves_118 (by decide) rfl ?_
        refine x_iincL (j := 10) G dX0_improves_120 rfl (by decide) H (fun v9 hv9 H => x_ls (ls' := [(10, vI v9), (8, vI 1), (5, vI p10), (4, vI p9), (6, vL r5), (11, vL r5), (0, vR 133), (1, vI p1), (2, vI p2), (3, vR 110), (9, vI p9)]) rfl ?_)
        refine x_goto (tgt := 58) G dX0_improves_123 (by decide) ?_
        exact x_subp (ls' := [(0, vR 133), (1, vI p1), (2, vI p2), (3, vR 110), (4, vI p9), (5, vI p10), (6, vL r5), (8, vI 1), (9, vI p9), (10, vI v9)]) [6, 7, 8, 9, 3, 2, 4, 1, 10, 0] rfl (ih H)
def fX0_improves_48  : Nat → Int → Int → Int → Int → Int → Int → Int → Mem → Option (Int × Mem)
  | 0, _, _, _, _, _, _, _, _ => none
  | n + 1, p1, p2, p4, p5, p6, p8, p9, s =>
  if 24 < p9 then
    (fX3_send 110 p1 p4 p5 s).bind fun s3 =>
    ck (p8 = 0 ∨ p8 = 1) <| some (p8, s3)
  else
    fX0_improves_58 (fun p1 p2 p4 p5 p6 p8 p9 s => fX0_improves_48 n p1 p2 p4 p5 p6 p8 p9 s) 600 p1 p2 p4 p5 p6 p8 p9 0 s
set_option maxHeartbeats 4000000 in
theorem tX0_improves_48 {E : En} {b : Bn} {xf : Int} {sf : Mem}  (G : ab_G E b cX0_improves 13 RX0 (some .boolean) 6)  : ∀ (n : Nat) {p1 : Int} {p2 : Int} {p4 : Int} {p5 : Int} {p6 : Int} {p8 : Int} {p9 : Int} {s : Mem}, fX0_improves_48 n p1 p2 p4 p5 p6 p8 p9 s = some (xf, sf) → ab_X E b (ab_MQ E b (some (vI xf)) sf) 13 48 [(0, vR 133), (1, vI p1), (2, vI p2), (3, vR 110), (4, vI p4), (5, vI p5), (6, vL p6), (8, vI p8), (9, vI p9)] [] s := by
  intro n
  induction n with
  | zero => intro p1 p2 p4 p5 p6 p8 p9 s H; rw [fX0_improves_48] at H; cases H
  | succ n ih =>
    intro p1 p2 p4 p5 p6 p8 p9 s H
    rw [fX0_improves_48] at H
    refine x_iload (j := 8) G dX0_improves_48 rfl ?_
    refine x_bipush G dX0_improves_50 (by decide) (by decide) ?_
    refine x_icmp_gt (tgt := 132) G dX0_improves_52 (by decide) (fun q1 => ?_) (fun q1 => ?_)
    · have H := if_some_t H q1
      refine x_aload_n (j := 3) G dX0_improves_132 rfl rfl ?_
      refine x_iload_n (j := 1) G dX0_improves_133 rfl rfl ?_
      refine x_iload (j := 4) G dX0_improves_134 rfl ?_
      refine x_iload (j := 5) G dX0_improves_136 rfl ?_
      obtain ⟨s3, c3, H⟩ := bd_some H
      refine cv_796 (As := [vI p1, vI p4, vI p5]) (rest := []) G (rX3_send sh_110 c3) sh_110 (by omega) rfl rfl (Nat.le_of_ble_eq_true rfl) dX0_improves_138 ?_
      refine x_iload (j := 7) G dX0_improves_141 rfl ?_
      obtain ⟨h01, H⟩ := ck_some H
      cases H
      exact x_zret G h01 dX0_improves_143
    · have H := if_some_f H q1
      refine x_iconst G dX0_improves_55 (by decide) ?_
      refine x_istore (ls' := [(10, vI 0), (0, vR 133), (1, vI p1), (2, vI p2), (3, vR 110), (4, vI p4), (5, vI p5), (6, vL p6), (8, vI p8), (9, vI p9)]) G dX0_improves_56 (by decide) rfl ?_
      exact x_subp (ls' := [(0, vR 133), (1, vI p1), (2, vI p2), (3, vR 110), (4, vI p4), (5, vI p5), (6, vL p6), (8, vI p8), (9, vI p9), (10, vI 0)]) [1, 2, 3, 4, 5, 6, 7, 8, 9, 0] rfl (tX0_improves_58 G ih 600 H)
def fX0_improves (a1 : Int) (a2 : Int) (s : Mem) : Option (Int × Mem) :=
  (rdI s 111 a1).bind fun x1 =>
  (rdI s 112 a1).bind fun x2 =>
  b2 (fX2_meanOf 110 (s 109 4) a2 s) fun r3 s4 =>
  fX0_improves_48 600 a1 a2 x1 x2 r3 0 0 s4
set_option maxHeartbeats 4000000 in
theorem rX0_improves {E : En} {xf : Int} {sf : Mem} {a1 : Int} {a2 : Int} {s : Mem}  (H : fX0_improves a1 a2 s = some (xf, sf)) : ab_Run E 6 yX0_improves cX0_improves 13 (some .boolean) [vR 133, vI a1, vI a2] (some (vI xf)) s sf := by
  unfold fX0_improves at H
  refine ab_intro (own := RX0) (by decide +kernel) rfl (Nat.le_of_ble_eq_true rfl) rfl (fun b G => ?_)
  refine x_aload_n (j := 0) G dX0_improves_0 rfl rfl ?_
  refine gf_326 G sh_133 pt_133_1 dX0_improves_1 ?_
  refine gf_235 G sh_109 pt_109_0 dX0_improves_4 ?_
  refine x_astore_n (ls' := [(3, vR 110), (0, vR 133), (1, vI a1), (2, vI a2)]) G dX0_improves_7 rfl (by decide) rfl ?_
  refine x_aload_n (j := 0) G dX0_improves_8 rfl rfl ?_
  refine gf_222 G sh_110 pt_110_0 dX0_improves_9 ?_
  refine x_iload_n (j := 2) G dX0_improves_12 rfl rfl ?_
  refine x_iald G dX0_improves_13 H (fun x1 hx1 H => ?_)
  refine x_istore (ls' := [(4, vI x1), (3, vR 110), (0, vR 133), (1, vI a1), (2, vI a2)]) G dX0_improves_14 (by decide) rfl ?_
  refine x_aload_n (j := 1) G dX0_improves_16 rfl rfl ?_
  refine gf_227 G sh_110 pt_110_1 dX0_improves_17 ?_
  refine x_iload_n (j := 3) G dX0_improves_20 rfl rfl ?_
  refine x_iald G dX0_improves_21 H (fun x2 hx2 H => ?_)
  refine x_istore (ls' := [(5, vI x2), (4, vI x1), (3, vR 110), (0, vR 133), (1, vI a1), (2, vI a2)]) G dX0_improves_22 (by decide) rfl ?_
  refine x_aload_n (j := 3) G dX0_improves_24 rfl rfl ?_
  refine gf_327 G sh_133 pt_133_2 dX0_improves_25 ?_
  refine x_aload_n (j := 2) G dX0_improves_28 rfl rfl ?_
  refine x_aload_n (j := 3) G dX0_improves_29 rfl rfl ?_
  refine gf_326 G sh_133 pt_133_1 dX0_improves_30 ?_
  refine gf_247 G sh_109 pt_109_4 dX0_improves_33 ?_
  refine x_iload_n (j := 5) G dX0_improves_36 rfl rfl ?_
  obtain ⟨r3, s4, c4, H⟩ := b2_some H
  refine cv_795 (As := [vR 110, vI (s 109 4), vI a2]) (rest := []) G (rX2_meanOf sh_110 c4) sh_122 (by omega) rfl rfl (Nat.le_of_ble_eq_true rfl) dX0_improves_37 ?_
  refine x_lstore (ls' := [(6, vL r3), (5, vI x2), (4, vI x1), (3, vR 110), (0, vR 133), (1, vI a1), (2, vI a2)]) G dX0_improves_40 (by decide) rfl ?_
  refine x_iconst G dX0_improves_42 (by decide) ?_
  refine x_istore (ls' := [(8, vI 0), (6, vL r3), (5, vI x2), (4, vI x1), (3, vR 110), (0, vR 133), (1, vI a1), (2, vI a2)]) G dX0_improves_43 (by decide) rfl ?_
  refine x_iconst G dX0_improves_45 (by decide) ?_
  refine x_istore (ls' := [(9, vI 0), (8, vI 0), (6, vL r3), (5, vI x2), (4, vI x1), (3, vR 110), (0, vR 133), (1, vI a1), (2, vI a2)]) G dX0_improves_46 (by decide) rfl ?_
  exact x_subp (ls' := [(0, vR 133), (1, vI a1), (2, vI a2), (3, vR 110), (4, vI x1), (5, vI x2), (6, vL r3), (8, vI 0), (9, vI 0)]) [6, 7, 8, 5, 4, 3, 2, 1, 0] rfl (tX0_improves_48 G 600 H)
def fX5_entryAlone_11  : Nat → Int → Int → Int → Mem → Option (Int × Mem)
  | 0, _, _, _, _ => none
  | n + 1, p2, p3, p5, s =>
  if 24 ≤ p5 then
    some (24, s)
  else
    b2 (fX5_isOpen p2 p3 p5 s) fun r2 s3 =>
    if r2 = 0 then
      lt' (w32 (p5 + 1)) fun v5 =>
      fX5_entryAlone_11 n p2 p3 v5 s3
    else
      some (p5, s3)
set_option maxHeartbeats 4000000 in
theorem tX5_entryAlone_11 {E : En} {b : Bn} {xf : Int} {sf : Mem}  (G : ab_G E b cX5_entryAlone 6 RX5 (some .int) 1)  : ∀ (n : Nat) {p2 : Int} {p3 : Int} {p5 : Int} {s : Mem}, fX5_entryAlone_11 n p2 p3 p5 s = some (xf, sf) → ab_X E b (ab_MQ E b (some (vI xf)) sf) 6 11 [(0, vR 21), (2, vI p2), (3, vI p3), (5, vI p5)] [] s := by
  intro n
  induction n with
  | zero => intro p2 p3 p5 s H; rw [fX5_entryAlone_11] at H; cases H
  | succ n ih =>
    intro p2 p3 p5 s H
    rw [fX5_entryAlone_11] at H
    refine x_iload (j := 3) G dX5_entryAlone_11 rfl ?_
    refine x_bipush G dX5_entryAlone_13 (by decide) (by decide) ?_
    refine x_icmp_ge (tgt := 38) G dX5_entryAlone_15 (by decide) (fun q1 => ?_) (fun q1 => ?_)
    · have H := if_some_t H q1
      refine x_bipush G dX5_entryAlone_38 (by decide) (by decide) ?_
      cases H
      exact x_iret G dX5_entryAlone_40
    · have H := if_some_f H q1
      refine x_aload_n (j := 0) G dX5_entryAlone_18 rfl rfl ?_
      refine x_iload_n (j := 1) G dX5_entryAlone_19 rfl rfl ?_
      refine x_iload_n (j := 2) G dX5_entryAlone_20 rfl rfl ?_
      refine x_iload (j := 3) G dX5_entryAlone_21 rfl ?_
      obtain ⟨r2, s3, c3, H⟩ := b2_some H
      refine cv_740 (As := [vI p2, vI p3, vI p5]) (rest := []) G (rX5_isOpen  c3) sh_21 (by omega) rfl rfl (Nat.le_of_ble_eq_true rfl) dX5_entryAlone_23 ?_
      refine x_if_eq (tgt := 32) G dX5_entryAlone_26 (by decide) (fun q4 => ?_) (fun q4 => ?_)
      · have H := if_some_t H q4
        refine x_iincL (j := 3) G dX5_entryAlone_32 rfl (by decide) H (fun v5 hv5 H => x_ls (ls' := [(5, vI v5), (0, vR 21), (2, vI p2), (3, vI p3)]) rfl ?_)
        refine x_goto (tgt := 11) G dX5_entryAlone_35 (by decide) ?_
        exact x_subp (ls' := [(0, vR 21), (2, vI p2), (3, vI p3), (5, vI v5)]) [1, 2, 3, 0] rfl (ih H)
      · have H := if_some_f H q4
        refine x_iload (j := 3) G dX5_entryAlone_29 rfl ?_
        cases H
        exact x_iret G dX5_entryAlone_31
def fX5_entryAlone (a1 : Int) (a2 : Int) (a3 : Int) (a4 : Int) (s : Mem) : Option (Int × Mem) :=
  b2 (fX5_arrival a1 a2 a3 a4 s) fun r1 s2 =>
  fX5_entryAlone_11 600 a2 a3 r1 s2
set_option maxHeartbeats 4000000 in
theorem rX5_entryAlone {E : En} {xf : Int} {sf : Mem} {a1 : Int} {a2 : Int} {a3 : Int} {a4 : Int} {s : Mem}  (H : fX5_entryAlone a1 a2 a3 a4 s = some (xf, sf)) : ab_Run E 1 yX5_entryAlone cX5_entryAlone 6 (some .int) [vR 21, vI a1, vI a2, vI a3, vI a4] (some (vI xf)) s sf := by
  unfold fX5_entryAlone at H
  refine ab_intro (own := RX5) (by decide +kernel) rfl (Nat.le_of_ble_eq_true rfl) rfl (fun b G => ?_)
  refine x_aload_n (j := 0) G dX5_entryAlone_0 rfl rfl ?_
  refine x_iload_n (j := 1) G dX5_entryAlone_1 rfl rfl ?_
  refine x_iload_n (j := 2) G dX5_entryAlone_2 rfl rfl ?_
  refine x_iload_n (j := 3) G dX5_entryAlone_3 rfl rfl ?_
  refine x_iload (j := 4) G dX5_entryAlone_4 rfl ?_
  obtain ⟨r1, s2, c2, H⟩ := b2_some H
  refine cv_739 (As := [vI a1, vI a2, vI a3, vI a4]) (rest := []) G (rX5_arrival  c2) sh_21 (by omega) rfl rfl (Nat.le_of_ble_eq_true rfl) dX5_entryAlone_6 ?_
  refine x_istore (ls' := [(5, vI r1), (0, vR 21), (1, vI a1), (2, vI a2), (3, vI a3), (4, vI a4)]) G dX5_entryAlone_9 (by decide) rfl ?_
  exact x_subp (ls' := [(0, vR 21), (2, vI a2), (3, vI a3), (5, vI r1)]) [1, 3, 4, 0] rfl (tX5_entryAlone_11 G 600 H)
def fX1_sumOfRunning_6  : Nat → Int → Int → Int → Int → Int → Int → Mem → Option (Int × Mem)
  | 0, _, _, _, _, _, _, _ => none
  | n + 1, p1, p2, p3, p4, p5, p7, s =>
  if (s 21 2) ≤ p7 then
    some (p5, s)
  else
    if (andI (shrI p4 p7) 1) = 0 then
      lt' (w32 (p7 + 1)) fun v3 =>
      fX1_sumOfRunning_6 n p1 p2 p3 p4 p5 v3 s
    else
      b2 (fX5_entryAlone p1 p3 p7 p2 s) fun r4 s5 =>
      b2 (fX5_aliveAt p7 p1 r4 s5) fun r6 s7 =>
      lt' (w32 (1000000 - r6)) fun v8 =>
      b2 (fX5_fishedTill p7 p1 p2 s7) fun r9 s10 =>
      (rdG 27 p1).bind fun x11 =>
      (rdI s10 x11 3).bind fun x12 =>
      lt' (w64 (r9 - (w64 (x12 * v8)))) fun v13 =>
      (rdG 32 p7).bind fun x14 =>
      (rdI s10 x14 0).bind fun x15 =>
      lt' (w64 (p5 + (w64 (x15 * v13)))) fun v16 =>
      lt' (w32 (p7 + 1)) fun v17 =>
      fX1_sumOfRunning_6 n p1 p2 p3 p4 v16 v17 s10
set_option maxHeartbeats 4000000 in
theorem tX1_sumOfRunning_6 {E : En} {b : Bn} {xf : Int} {sf : Mem}  (G : ab_G E b cX1_sumOfRunning 12 RX1 (some .long) 2)  : ∀ (n : Nat) {p1 : Int} {p2 : Int} {p3 : Int} {p4 : Int} {p5 : Int} {p7 : Int} {s : Mem}, fX1_sumOfRunning_6 n p1 p2 p3 p4 p5 p7 s = some (xf, sf) → ab_X E b (ab_MQ E b (some (vL xf)) sf) 12 6 [(0, vR 132), (1, vI p1), (2, vI p2), (3, vI p3), (4, vI p4), (5, vL p5), (7, vI p7)] [] s := by
  intro n
  induction n with
  | zero => intro p1 p2 p3 p4 p5 p7 s H; rw [fX1_sumOfRunning_6] at H; cases H
  | succ n ih =>
    intro p1 p2 p3 p4 p5 p7 s H
    rw [fX1_sumOfRunning_6] at H
    refine x_iload (j := 6) G dX1_sumOfRunning_6 rfl ?_
    refine x_aload_n (j := 0) G dX1_sumOfRunning_8 rfl rfl ?_
    refine gf_315 G sh_132 pt_132_0 dX1_sumOfRunning_9 ?_
    refine gf_149 G sh_21 pt_21_2 dX1_sumOfRunning_12 ?_
    refine x_icmp_ge (tgt := 112) G dX1_sumOfRunning_15 (by decide) (fun q1 => ?_) (fun q1 => ?_)
    · have H := if_some_t H q1
      refine x_lload (j := 5) G dX1_sumOfRunning_112 rfl ?_
      cases H
      exact x_lret G dX1_sumOfRunning_114
    · have H := if_some_f H q1
      refine x_iload (j := 4) G dX1_sumOfRunning_18 rfl ?_
      refine x_iload (j := 6) G dX1_sumOfRunning_20 rfl ?_
      refine x_ishr G dX1_sumOfRunning_22 ?_
      refine x_iconst G dX1_sumOfRunning_23 (by decide) ?_
      refine x_iand G dX1_sumOfRunning_24 ?_
      refine x_if_eq (tgt := 106) G dX1_sumOfRunning_25 (by decide) (fun q2 => ?_) (fun q2 => ?_)
      · have H := if_some_t H q2
        refine x_iincL (j := 6) G dX1_sumOfRunning_106 rfl (by decide) H (fun v3 hv3 H => x_ls (ls' := [(7, vI v3), (0, vR 132), (1, vI p1), (2, vI p2), (3, vI p3), (4, vI p4), (5, vL p5)]) rfl ?_)
        refine x_goto (tgt := 6) G dX1_sumOfRunning_109 (by decide) ?_
        exact x_subp (ls' := [(0, vR 132), (1, vI p1), (2, vI p2), (3, vI p3), (4, vI p4), (5, vL p5), (7, vI v3)]) [1, 2, 3, 4, 5, 6, 0] rfl (ih H)
      · have H := if_some_f H q2
        refine x_ldc (x := 1000000) G wd_772 dX1_sumOfRunning_28 (by decide) (by decide) ?_
        refine x_aload_n (j := 0) G dX1_sumOfRunning_30 rfl rfl ?_
        refine gf_315 G sh_132 pt_132_0 dX1_sumOfRunning_31 ?_
        refine x_iload (j := 6) G dX1_sumOfRunning_34 rfl ?_
        refine x_iload_n (j := 1) G dX1_sumOfRunning_36 rfl rfl ?_
        refine x_aload_n (j := 0) G dX1_sumOfRunning_37 rfl rfl ?_
        refine gf_315 G sh_132 pt_132_0 dX1_sumOfRunning_38 ?_
        refine x_iload_n (j := 1) G dX1_sumOfRunning_41 rfl rfl ?_
        refine x_iload_n (j := 3) G dX1_sumOfRunning_42 rfl rfl ?_
        refine x_iload (j := 6) G dX1_sumOfRunning_43 rfl ?_
        refine x_iload_n (j := 2) G dX1_sumOfRunning_45 rfl rfl ?_
        obtain ⟨r4, s5, c5, H⟩ := b2_some H
        refine cv_773 (As := [vI p1, vI p3, vI p7, vI p2]) (rest := [vI p1, vI p7, vR 21, vI 1000000]) G (rX5_entryAlone  c5) sh_21 (by omega) rfl rfl (Nat.le_of_ble_eq_true rfl) dX1_sumOfRunning_46 ?_
        obtain ⟨r6, s7, c7, H⟩ := b2_some H
        refine cv_774 (As := [vI p7, vI p1, vI r4]) (rest := [vI 1000000]) G (rX5_aliveAt  c7) sh_21 (by omega) rfl rfl (Nat.le_of_ble_eq_true rfl) dX1_sumOfRunning_49 ?_
        refine x_isub G dX1_sumOfRunning_52 ?_
        refine x_i2l G dX1_sumOfRunning_53 ?_
        refine x_letL H (fun v8 hv8 H => ?_)
        refine x_lstore (ls' := [(8, vL v8), (0, vR 132), (1, vI p1), (2, vI p2), (3, vI p3), (4, vI p4), (5, vL p5), (7, vI p7)]) G dX1_sumOfRunning_54 (by decide) rfl ?_
        refine x_aload_n (j := 1) G dX1_sumOfRunning_56 rfl rfl ?_
        refine gf_315 G sh_132 pt_132_0 dX1_sumOfRunning_57 ?_
        refine x_iload (j := 7) G dX1_sumOfRunning_60 rfl ?_
        refine x_iload_n (j := 2) G dX1_sumOfRunning_62 rfl rfl ?_
        refine x_iload_n (j := 3) G dX1_sumOfRunning_63 rfl rfl ?_
        obtain ⟨r9, s10, c10, H⟩ := b2_some H
        refine cv_775 (As := [vI p7, vI p1, vI p2]) (rest := []) G (rX5_fishedTill  c10) sh_21 (by omega) rfl rfl (Nat.le_of_ble_eq_true rfl) dX1_sumOfRunning_64 ?_
        refine x_aload_n (j := 1) G dX1_sumOfRunning_67 rfl rfl ?_
        refine gf_315 G sh_132 pt_132_0 dX1_sumOfRunning_68 ?_
        refine gf_155 G sh_21 pt_21_4 dX1_sumOfRunning_71 ?_
        refine x_iload_n (j := 2) G dX1_sumOfRunning_74 rfl rfl ?_
        refine x_aald G dX1_sumOfRunning_75 H (fun g0 g1 x11 hx11 H => ?_)
        refine x_iconst G dX1_sumOfRunning_76 (by decide) ?_
        refine x_iald G dX1_sumOfRunning_77 H (fun x12 hx12 H => ?_)
        refine x_i2l G dX1_sumOfRunning_78 ?_
        refine x_lload (j := 0) G dX1_sumOfRunning_79 rfl ?_
        refine x_lmul G dX1_sumOfRunning_81 ?_
        refine x_lsub G dX1_sumOfRunning_82 ?_
        refine x_letL H (fun v13 hv13 H => ?_)
        refine x_lstore (ls' := [(10, vL v13), (8, vL v8), (0, vR 132), (1, vI p1), (2, vI p2), (3, vI p3), (4, vI p4), (5, vL p5), (7, vI p7)]) G dX1_sumOfRunning_83 (by decide) rfl ?_
        refine x_lload (j := 7) G dX1_sumOfRunning_85 rfl ?_
        refine x_aload_n (j := 2) G dX1_sumOfRunning_87 rfl rfl ?_
        refine gf_315 G sh_132 pt_132_0 dX1_sumOfRunning_88 ?_
        refine gf_161 G sh_21 pt_21_5 dX1_sumOfRunning_91 ?_
        refine x_iload (j := 8) G dX1_sumOfRunning_94 rfl ?_
        refine x_aald G dX1_sumOfRunning_96 H (fun g0 g1 x14 hx14 H => ?_)
        refine x_iconst G dX1_sumOfRunning_97 (by decide) ?_
        refine x_iald G dX1_sumOfRunning_98 H (fun x15 hx15 H => ?_)
        refine x_i2l G dX1_sumOfRunning_99 ?_
        refine x_lload (j := 0) G dX1_sumOfRunning_100 rfl ?_
        refine x_lmul G dX1_sumOfRunning_102 ?_
        refine x_ladd G dX1_sumOfRunning_103 ?_
        refine x_letL H (fun v16 hv16 H => ?_)
        refine x_lstore (ls' := [(5, vL v16), (10, vL v13), (8, vL v8), (0, vR 132), (1, vI p1), (2, vI p2), (3, vI p3), (4, vI p4), (7, vI p7)]) G dX1_sumOfRunning_104 (by decide) rfl ?_
        refine x_iincL (j := 8) G dX1_sumOfRunning_106 rfl (by decide) H (fun v17 hv17 H => x_ls (ls' := [(7, vI v17), (5, vL v16), (10, vL v13), (8, vL v8), (0, vR 132), (1, vI p1), (2, vI p2), (3, vI p3), (4, vI p4)]) rfl ?_)
        refine x_goto (tgt := 6) G dX1_sumOfRunning_109 (by decide) ?_
        exact x_subp (ls' := [(0, vR 132), (1, vI p1), (2, vI p2), (3, vI p3), (4, vI p4), (5, vL v16), (7, vI v17)]) [4, 5, 6, 7, 8, 1, 0] rfl (ih H)
def fX1_sumOfRunning (a1 : Int) (a2 : Int) (a3 : Int) (a4 : Int) (s : Mem) : Option (Int × Mem) :=
  fX1_sumOfRunning_6 600 a1 a2 a3 a4 0 0 s
set_option maxHeartbeats 4000000 in
theorem rX1_sumOfRunning {E : En} {xf : Int} {sf : Mem} {a1 : Int} {a2 : Int} {a3 : Int} {a4 : Int} {s : Mem}  (H : fX1_sumOfRunning a1 a2 a3 a4 s = some (xf, sf)) : ab_Run E 2 yX1_sumOfRunning cX1_sumOfRunning 12 (some .long) [vR 132, vI a1, vI a2, vI a3, vI a4] (some (vL xf)) s sf := by
  unfold fX1_sumOfRunning at H
  refine ab_intro (own := RX1) (by decide +kernel) rfl (Nat.le_of_ble_eq_true rfl) rfl (fun b G => ?_)
  refine x_lconst (x := 0) G dX1_sumOfRunning_0 (by decide) (by decide) ?_
  refine x_lstore (ls' := [(5, vL 0), (0, vR 132), (1, vI a1), (2, vI a2), (3, vI a3), (4, vI a4)]) G dX1_sumOfRunning_1 (by decide) rfl ?_
  refine x_iconst G dX1_sumOfRunning_3 (by decide) ?_
  refine x_istore (ls' := [(7, vI 0), (5, vL 0), (0, vR 132), (1, vI a1), (2, vI a2), (3, vI a3), (4, vI a4)]) G dX1_sumOfRunning_4 (by decide) rfl ?_
  exact x_subp (ls' := [(0, vR 132), (1, vI a1), (2, vI a2), (3, vI a3), (4, vI a4), (5, vL 0), (7, vI 0)]) [2, 3, 4, 5, 6, 1, 0] rfl (tX1_sumOfRunning_6 G 600 H)
def fX5_telling_6  : Nat → Int → Int → Int → Int → Int → Mem → Option (Int × Mem)
  | 0, _, _, _, _, _, _ => none
  | n + 1, p1, p2, p3, p4, p5, s =>
  if (s 21 2) ≤ p5 then
    some (p4, s)
  else
    if (andI (shrI p1 p5) 1) = 0 then
      lt' (w32 (p5 + 1)) fun v3 =>
      fX5_telling_6 n p1 p2 p3 p4 v3 s
    else
      (rdG 42 p5).bind fun x4 =>
      (rdI s x4 p2).bind fun x5 =>
      if x5 = p3 then
        lt' (orI p4 (shlI 1 p5)) fun v8 =>
        lt' (w32 (p5 + 1)) fun v9 =>
        fX5_telling_6 n p1 p2 p3 v8 v9 s
      else
        lt' (w32 (p5 + 1)) fun v7 =>
        fX5_telling_6 n p1 p2 p3 p4 v7 s
set_option maxHeartbeats 4000000 in
theorem tX5_telling_6 {E : En} {b : Bn} {xf : Int} {sf : Mem}  (G : ab_G E b cX5_telling 6 RX5 (some .int) 0)  : ∀ (n : Nat) {p1 : Int} {p2 : Int} {p3 : Int} {p4 : Int} {p5 : Int} {s : Mem}, fX5_telling_6 n p1 p2 p3 p4 p5 s = some (xf, sf) → ab_X E b (ab_MQ E b (some (vI xf)) sf) 6 6 [(0, vR 21), (1, vI p1), (2, vI p2), (3, vI p3), (4, vI p4), (5, vI p5)] [] s := by
  intro n
  induction n with
  | zero => intro p1 p2 p3 p4 p5 s H; rw [fX5_telling_6] at H; cases H
  | succ n ih =>
    intro p1 p2 p3 p4 p5 s H
    rw [fX5_telling_6] at H
    refine x_iload (j := 5) G dX5_telling_6 rfl ?_
    refine x_aload_n (j := 0) G dX5_telling_8 rfl rfl ?_
    refine gf_146 G sh_21 pt_21_2 dX5_telling_9 ?_
    refine x_icmp_ge (tgt := 52) G dX5_telling_12 (by decide) (fun q1 => ?_) (fun q1 => ?_)
    · have H := if_some_t H q1
      refine x_iload (j := 4) G dX5_telling_52 rfl ?_
      cases H
      exact x_iret G dX5_telling_54
    · have H := if_some_f H q1
      refine x_iload_n (j := 1) G dX5_telling_15 rfl rfl ?_
      refine x_iload (j := 5) G dX5_telling_16 rfl ?_
      refine x_ishr G dX5_telling_18 ?_
      refine x_iconst G dX5_telling_19 (by decide) ?_
      refine x_iand G dX5_telling_20 ?_
      refine x_if_eq (tgt := 46) G dX5_telling_21 (by decide) (fun q2 => ?_) (fun q2 => ?_)
      · have H := if_some_t H q2
        refine x_iincL (j := 5) G dX5_telling_46 rfl (by decide) H (fun v3 hv3 H => x_ls (ls' := [(5, vI v3), (0, vR 21), (1, vI p1), (2, vI p2), (3, vI p3), (4, vI p4)]) rfl ?_)
        refine x_goto (tgt := 6) G dX5_telling_49 (by decide) ?_
        exact x_subp (ls' := [(0, vR 21), (1, vI p1), (2, vI p2), (3, vI p3), (4, vI p4), (5, vI v3)]) [1, 2, 3, 4, 5, 0] rfl (ih H)
      · have H := if_some_f H q2
        refine x_aload_n (j := 0) G dX5_telling_24 rfl rfl ?_
        refine gf_166 G sh_21 pt_21_7 dX5_telling_25 ?_
        refine x_iload (j := 5) G dX5_telling_28 rfl ?_
        refine x_aald G dX5_telling_30 H (fun g0 g1 x4 hx4 H => ?_)
        refine x_iload_n (j := 2) G dX5_telling_31 rfl rfl ?_
        refine x_iald G dX5_telling_32 H (fun x5 hx5 H => ?_)
        refine x_iload_n (j := 3) G dX5_telling_33 rfl rfl ?_
        refine x_icmp_ne (tgt := 46) G dX5_telling_34 (by decide) (fun q6 => ?_) (fun q6 => ?_)
        · have H := if_some_f H q6
          refine x_iincL (j := 5) G dX5_telling_46 rfl (by decide) H (fun v7 hv7 H => x_ls (ls' := [(5, vI v7), (0, vR 21), (1, vI p1), (2, vI p2), (3, vI p3), (4, vI p4)]) rfl ?_)
          refine x_goto (tgt := 6) G dX5_telling_49 (by decide) ?_
          exact x_subp (ls' := [(0, vR 21), (1, vI p1), (2, vI p2), (3, vI p3), (4, vI p4), (5, vI v7)]) [1, 2, 3, 4, 5, 0] rfl (ih H)
        · have H := if_some_t H q6
          refine x_iload (j := 4) G dX5_telling_37 rfl ?_
          refine x_iconst G dX5_telling_39 (by decide) ?_
          refine x_iload (j := 5) G dX5_telling_40 rfl ?_
          refine x_ishl G dX5_telling_42 ?_
          refine x_ior G dX5_telling_43 ?_
          refine x_let H (fun v8 hv8 H => ?_)
          refine x_istore (ls' := [(4, vI v8), (0, vR 21), (1, vI p1), (2, vI p2), (3, vI p3), (5, vI p5)]) G dX5_telling_44 (by decide) rfl ?_
          refine x_iincL (j := 5) G dX5_telling_46 rfl (by decide) H (fun v9 hv9 H => x_ls (ls' := [(5, vI v9), (4, vI v8), (0, vR 21), (1, vI p1), (2, vI p2), (3, vI p3)]) rfl ?_)
          refine x_goto (tgt := 6) G dX5_telling_49 (by decide) ?_
          exact x_subp (ls' := [(0, vR 21), (1, vI p1), (2, vI p2), (3, vI p3), (4, vI v8), (5, vI v9)]) [2, 3, 4, 5, 1, 0] rfl (ih H)
def fX5_telling (a1 : Int) (a2 : Int) (a3 : Int) (s : Mem) : Option (Int × Mem) :=
  fX5_telling_6 600 a1 a2 a3 0 0 s
set_option maxHeartbeats 4000000 in
theorem rX5_telling {E : En} {xf : Int} {sf : Mem} {a1 : Int} {a2 : Int} {a3 : Int} {s : Mem}  (H : fX5_telling a1 a2 a3 s = some (xf, sf)) : ab_Run E 0 yX5_telling cX5_telling 6 (some .int) [vR 21, vI a1, vI a2, vI a3] (some (vI xf)) s sf := by
  unfold fX5_telling at H
  refine ab_intro (own := RX5) (by decide +kernel) rfl (Nat.le_of_ble_eq_true rfl) rfl (fun b G => ?_)
  refine x_iconst G dX5_telling_0 (by decide) ?_
  refine x_istore (ls' := [(4, vI 0), (0, vR 21), (1, vI a1), (2, vI a2), (3, vI a3)]) G dX5_telling_1 (by decide) rfl ?_
  refine x_iconst G dX5_telling_3 (by decide) ?_
  refine x_istore (ls' := [(5, vI 0), (4, vI 0), (0, vR 21), (1, vI a1), (2, vI a2), (3, vI a3)]) G dX5_telling_4 (by decide) rfl ?_
  exact x_subp (ls' := [(0, vR 21), (1, vI a1), (2, vI a2), (3, vI a3), (4, vI 0), (5, vI 0)]) [2, 3, 4, 5, 1, 0] rfl (tX5_telling_6 G 600 H)
def fX1_sumOfStaying (g : Int → Int → Int → Mem → Option (Int × Mem)) (a1 : Int) (a2 : Int) (a3 : Int) (s : Mem) : Option (Int × Mem) :=
  if 24 ≤ (w32 (a2 + 1)) then
    b2 (fX1_sumOfRunning a1 24 0 a3 s) fun r2 s3 =>
    some (r2, s3)
  else
    b2 (g a1 (w32 (a2 + 1)) a3 s) fun r4 s5 =>
    some (r4, s5)
set_option maxHeartbeats 4000000 in
theorem rX1_sumOfStaying {E : En} {g : Int → Int → Int → Mem → Option (Int × Mem)} {D : Nat} {xf : Int} {sf : Mem} {a1 : Int} {a2 : Int} {a3 : Int} {s : Mem} (hg : ∀ {i t q : Int} {s s' : Mem} {r : Int}, g i t q s = some (r, s') → ab_Run E D yX1_bestOfGroups cX1_bestOfGroups 8 (some .long) [vR 132, vI i, vI t, vI q] (some (vL r)) s s')  (H : fX1_sumOfStaying g a1 a2 a3 s = some (xf, sf)) : ab_Run E (D + 5) yX1_sumOfStaying cX1_sumOfStaying 4 (some .long) [vR 132, vI a1, vI a2, vI a3] (some (vL xf)) s sf := by
  unfold fX1_sumOfStaying at H
  refine ab_intro (own := RX1) (by decide +kernel) rfl (Nat.le_of_ble_eq_true rfl) rfl (fun b G => ?_)
  refine x_iload_n (j := 2) G dX1_sumOfStaying_0 rfl rfl ?_
  refine x_iconst G dX1_sumOfStaying_1 (by decide) ?_
  refine x_iadd G dX1_sumOfStaying_2 ?_
  refine x_bipush G dX1_sumOfStaying_3 (by decide) (by decide) ?_
  refine x_icmp_ge (tgt := 18) G dX1_sumOfStaying_5 (by decide) (fun q1 => ?_) (fun q1 => ?_)
  · have H := if_some_t H q1
    refine x_aload_n (j := 0) G dX1_sumOfStaying_18 rfl rfl ?_
    refine x_iload_n (j := 1) G dX1_sumOfStaying_19 rfl rfl ?_
    refine x_bipush G dX1_sumOfStaying_20 (by decide) (by decide) ?_
    refine x_iconst G dX1_sumOfStaying_22 (by decide) ?_
    refine x_iload_n (j := 3) G dX1_sumOfStaying_23 rfl rfl ?_
    obtain ⟨r2, s3, c3, H⟩ := b2_some H
    refine cv_768 (As := [vI a1, vI 24, vI 0, vI a3]) (rest := []) G (rX1_sumOfRunning  c3) sh_132 (by omega) rfl rfl (Nat.le_of_ble_eq_true rfl) dX1_sumOfStaying_24 ?_
    cases H
    exact x_lret G dX1_sumOfStaying_27
  · have H := if_some_f H q1
    refine x_aload_n (j := 0) G dX1_sumOfStaying_8 rfl rfl ?_
    refine x_iload_n (j := 1) G dX1_sumOfStaying_9 rfl rfl ?_
    refine x_iload_n (j := 2) G dX1_sumOfStaying_10 rfl rfl ?_
    refine x_iconst G dX1_sumOfStaying_11 (by decide) ?_
    refine x_iadd G dX1_sumOfStaying_12 ?_
    refine x_iload_n (j := 3) G dX1_sumOfStaying_13 rfl rfl ?_
    obtain ⟨r4, s5, c5, H⟩ := b2_some H
    refine cv_767 (As := [vI a1, vI (w32 (a2 + 1)), vI a3]) (rest := []) G (hg  c5) sh_132 (by omega) rfl rfl (Nat.le_of_ble_eq_true rfl) dX1_sumOfStaying_14 ?_
    cases H
    exact x_lret G dX1_sumOfStaying_17
def fX1_bestFrom_12 (g : Int → Int → Int → Mem → Option (Int × Mem))  : Nat → Int → Int → Int → Int → Int → Mem → Option (Int × Mem)
  | 0, _, _, _, _, _, _ => none
  | n + 1, p1, p2, p3, p4, p6, s =>
  if (s 21 0) ≤ p6 then
    some (p4, s)
  else
    b2 (fX1_sumOfRunning p1 p2 p6 p3 s) fun r2 s3 =>
    lt' (lmax p4 r2) fun v4 =>
    lt' (w32 (p6 + 1)) fun v5 =>
    fX1_bestFrom_12 g n p1 p2 p3 v4 v5 s3
set_option maxHeartbeats 4000000 in
theorem tX1_bestFrom_12 {E : En} {b : Bn} {g : Int → Int → Int → Mem → Option (Int × Mem)} {D : Nat} {xf : Int} {sf : Mem}  (G : ab_G E b cX1_bestFrom 7 RX1 (some .long) (D + 6)) (hg : ∀ {i t q : Int} {s s' : Mem} {r : Int}, g i t q s = some (r, s') → ab_Run E D yX1_bestOfGroups cX1_bestOfGroups 8 (some .long) [vR 132, vI i, vI t, vI q] (some (vL r)) s s')  : ∀ (n : Nat) {p1 : Int} {p2 : Int} {p3 : Int} {p4 : Int} {p6 : Int} {s : Mem}, fX1_bestFrom_12 g n p1 p2 p3 p4 p6 s = some (xf, sf) → ab_X E b (ab_MQ E b (some (vL xf)) sf) 7 12 [(0, vR 132), (1, vI p1), (2, vI p2), (3, vI p3), (4, vL p4), (6, vI p6)] [] s := by
  intro n
  induction n with
  | zero => intro p1 p2 p3 p4 p6 s H; rw [fX1_bestFrom_12] at H; cases H
  | succ n ih =>
    intro p1 p2 p3 p4 p6 s H
    rw [fX1_bestFrom_12] at H
    refine x_iload (j := 5) G dX1_bestFrom_12 rfl ?_
    refine x_aload_n (j := 0) G dX1_bestFrom_14 rfl rfl ?_
    refine gf_315 G sh_132 pt_132_0 dX1_bestFrom_15 ?_
    refine gf_137 G sh_21 pt_21_0 dX1_bestFrom_18 ?_
    refine x_icmp_ge (tgt := 46) G dX1_bestFrom_21 (by decide) (fun q1 => ?_) (fun q1 => ?_)
    · have H := if_some_t H q1
      refine x_lload (j := 4) G dX1_bestFrom_46 rfl ?_
      cases H
      exact x_lret G dX1_bestFrom_48
    · have H := if_some_f H q1
      refine x_lload (j := 4) G dX1_bestFrom_24 rfl ?_
      refine x_aload_n (j := 0) G dX1_bestFrom_26 rfl rfl ?_
      refine x_iload_n (j := 1) G dX1_bestFrom_27 rfl rfl ?_
      refine x_iload_n (j := 2) G dX1_bestFrom_28 rfl rfl ?_
      refine x_iload (j := 5) G dX1_bestFrom_29 rfl ?_
      refine x_iload_n (j := 3) G dX1_bestFrom_31 rfl rfl ?_
      obtain ⟨r2, s3, c3, H⟩ := b2_some H
      refine cv_768 (As := [vI p1, vI p2, vI p6, vI p3]) (rest := [vL p4]) G (rX1_sumOfRunning  c3) sh_132 (by omega) rfl rfl (Nat.le_of_ble_eq_true rfl) dX1_bestFrom_32 ?_
      refine cm_776 (rest := []) G (by omega) (Nat.le_of_ble_eq_true rfl) dX1_bestFrom_35 ?_
      refine x_letL H (fun v4 hv4 H => ?_)
      refine x_lstore (ls' := [(4, vL v4), (0, vR 132), (1, vI p1), (2, vI p2), (3, vI p3), (6, vI p6)]) G dX1_bestFrom_38 (by decide) rfl ?_
      refine x_iincL (j := 5) G dX1_bestFrom_40 rfl (by decide) H (fun v5 hv5 H => x_ls (ls' := [(6, vI v5), (4, vL v4), (0, vR 132), (1, vI p1), (2, vI p2), (3, vI p3)]) rfl ?_)
      refine x_goto (tgt := 12) G dX1_bestFrom_43 (by decide) ?_
      exact x_subp (ls' := [(0, vR 132), (1, vI p1), (2, vI p2), (3, vI p3), (4, vL v4), (6, vI v5)]) [2, 3, 4, 5, 1, 0] rfl (ih H)
def fX1_bestFrom (g : Int → Int → Int → Mem → Option (Int × Mem)) (a1 : Int) (a2 : Int) (a3 : Int) (s : Mem) : Option (Int × Mem) :=
  b2 (fX1_sumOfStaying g a1 a2 a3 s) fun r1 s2 =>
  fX1_bestFrom_12 g 600 a1 a2 a3 r1 0 s2
set_option maxHeartbeats 4000000 in
theorem rX1_bestFrom {E : En} {g : Int → Int → Int → Mem → Option (Int × Mem)} {D : Nat} {xf : Int} {sf : Mem} {a1 : Int} {a2 : Int} {a3 : Int} {s : Mem} (hg : ∀ {i t q : Int} {s s' : Mem} {r : Int}, g i t q s = some (r, s') → ab_Run E D yX1_bestOfGroups cX1_bestOfGroups 8 (some .long) [vR 132, vI i, vI t, vI q] (some (vL r)) s s')  (H : fX1_bestFrom g a1 a2 a3 s = some (xf, sf)) : ab_Run E (D + 6) yX1_bestFrom cX1_bestFrom 7 (some .long) [vR 132, vI a1, vI a2, vI a3] (some (vL xf)) s sf := by
  unfold fX1_bestFrom at H
  refine ab_intro (own := RX1) (by decide +kernel) rfl (Nat.le_of_ble_eq_true rfl) rfl (fun b G => ?_)
  refine x_aload_n (j := 0) G dX1_bestFrom_0 rfl rfl ?_
  refine x_iload_n (j := 1) G dX1_bestFrom_1 rfl rfl ?_
  refine x_iload_n (j := 2) G dX1_bestFrom_2 rfl rfl ?_
  refine x_iload_n (j := 3) G dX1_bestFrom_3 rfl rfl ?_
  obtain ⟨r1, s2, c2, H⟩ := b2_some H
  refine cv_763 (As := [vI a1, vI a2, vI a3]) (rest := []) G (rX1_sumOfStaying hg  c2) sh_132 (by omega) rfl rfl (Nat.le_of_ble_eq_true rfl) dX1_bestFrom_4 ?_
  refine x_lstore (ls' := [(4, vL r1), (0, vR 132), (1, vI a1), (2, vI a2), (3, vI a3)]) G dX1_bestFrom_7 (by decide) rfl ?_
  refine x_iconst G dX1_bestFrom_9 (by decide) ?_
  refine x_istore (ls' := [(6, vI 0), (4, vL r1), (0, vR 132), (1, vI a1), (2, vI a2), (3, vI a3)]) G dX1_bestFrom_10 (by decide) rfl ?_
  exact x_subp (ls' := [(0, vR 132), (1, vI a1), (2, vI a2), (3, vI a3), (4, vL r1), (6, vI 0)]) [2, 3, 4, 5, 1, 0] rfl (tX1_bestFrom_12 G hg 600 H)
def fX1_bestOfGroups_6 (g : Int → Int → Int → Mem → Option (Int × Mem))  : Nat → Int → Int → Int → Int → Int → Mem → Option (Int × Mem)
  | 0, _, _, _, _, _, _ => none
  | n + 1, p1, p2, p3, p4, p6, s =>
  if 9 < p6 then
    some (p4, s)
  else
    b2 (fX5_telling p3 p2 p6 s) fun r2 s3 =>
    if r2 = 0 then
      lt' (w32 (p6 + 1)) fun v5 =>
      fX1_bestOfGroups_6 g n p1 p2 p3 p4 v5 s3
    else
      b2 (fX1_bestFrom g p1 p2 r2 s3) fun r6 s7 =>
      lt' (w64 (p4 + r6)) fun v8 =>
      lt' (w32 (p6 + 1)) fun v9 =>
      fX1_bestOfGroups_6 g n p1 p2 p3 v8 v9 s7
set_option maxHeartbeats 4000000 in
theorem tX1_bestOfGroups_6 {E : En} {b : Bn} {g : Int → Int → Int → Mem → Option (Int × Mem)} {D : Nat} {xf : Int} {sf : Mem}  (G : ab_G E b cX1_bestOfGroups 8 RX1 (some .long) (D + 7)) (hg : ∀ {i t q : Int} {s s' : Mem} {r : Int}, g i t q s = some (r, s') → ab_Run E D yX1_bestOfGroups cX1_bestOfGroups 8 (some .long) [vR 132, vI i, vI t, vI q] (some (vL r)) s s')  : ∀ (n : Nat) {p1 : Int} {p2 : Int} {p3 : Int} {p4 : Int} {p6 : Int} {s : Mem}, fX1_bestOfGroups_6 g n p1 p2 p3 p4 p6 s = some (xf, sf) → ab_X E b (ab_MQ E b (some (vL xf)) sf) 8 6 [(0, vR 132), (1, vI p1), (2, vI p2), (3, vI p3), (4, vL p4), (6, vI p6)] [] s := by
  intro n
  induction n with
  | zero => intro p1 p2 p3 p4 p6 s H; rw [fX1_bestOfGroups_6] at H; cases H
  | succ n ih =>
    intro p1 p2 p3 p4 p6 s H
    rw [fX1_bestOfGroups_6] at H
    refine x_iload (j := 5) G dX1_bestOfGroups_6 rfl ?_
    refine x_bipush G dX1_bestOfGroups_8 (by decide) (by decide) ?_
    refine x_icmp_gt (tgt := 50) G dX1_bestOfGroups_10 (by decide) (fun q1 => ?_) (fun q1 => ?_)
    · have H := if_some_t H q1
      refine x_lload (j := 4) G dX1_bestOfGroups_50 rfl ?_
      cases H
      exact x_lret G dX1_bestOfGroups_52
    · have H := if_some_f H q1
      refine x_aload_n (j := 0) G dX1_bestOfGroups_13 rfl rfl ?_
      refine gf_315 G sh_132 pt_132_0 dX1_bestOfGroups_14 ?_
      refine x_iload_n (j := 3) G dX1_bestOfGroups_17 rfl rfl ?_
      refine x_iload_n (j := 2) G dX1_bestOfGroups_18 rfl rfl ?_
      refine x_iload (j := 5) G dX1_bestOfGroups_19 rfl ?_
      obtain ⟨r2, s3, c3, H⟩ := b2_some H
      refine cv_758 (As := [vI p3, vI p2, vI p6]) (rest := []) G (rX5_telling  c3) sh_21 (by omega) rfl rfl (Nat.le_of_ble_eq_true rfl) dX1_bestOfGroups_21 ?_
      refine x_istore (ls' := [(7, vI r2), (0, vR 132), (1, vI p1), (2, vI p2), (3, vI p3), (4, vL p4), (6, vI p6)]) G dX1_bestOfGroups_24 (by decide) rfl ?_
      refine x_iload (j := 0) G dX1_bestOfGroups_26 rfl ?_
      refine x_if_eq (tgt := 44) G dX1_bestOfGroups_28 (by decide) (fun q4 => ?_) (fun q4 => ?_)
      · have H := if_some_t H q4
        refine x_iincL (j := 6) G dX1_bestOfGroups_44 rfl (by decide) H (fun v5 hv5 H => x_ls (ls' := [(6, vI v5), (7, vI r2), (0, vR 132), (1, vI p1), (2, vI p2), (3, vI p3), (4, vL p4)]) rfl ?_)
        refine x_goto (tgt := 6) G dX1_bestOfGroups_47 (by decide) ?_
        exact x_subp (ls' := [(0, vR 132), (1, vI p1), (2, vI p2), (3, vI p3), (4, vL p4), (6, vI v5)]) [2, 3, 4, 5, 6, 0] rfl (ih H)
      · have H := if_some_f H q4
        refine x_lload (j := 5) G dX1_bestOfGroups_31 rfl ?_
        refine x_aload_n (j := 1) G dX1_bestOfGroups_33 rfl rfl ?_
        refine x_iload_n (j := 2) G dX1_bestOfGroups_34 rfl rfl ?_
        refine x_iload_n (j := 3) G dX1_bestOfGroups_35 rfl rfl ?_
        refine x_iload (j := 0) G dX1_bestOfGroups_36 rfl ?_
        obtain ⟨r6, s7, c7, H⟩ := b2_some H
        refine cv_759 (As := [vI p1, vI p2, vI r2]) (rest := [vL p4]) G (rX1_bestFrom hg  c7) sh_132 (by omega) rfl rfl (Nat.le_of_ble_eq_true rfl) dX1_bestOfGroups_38 ?_
        refine x_ladd G dX1_bestOfGroups_41 ?_
        refine x_letL H (fun v8 hv8 H => ?_)
        refine x_lstore (ls' := [(4, vL v8), (7, vI r2), (0, vR 132), (1, vI p1), (2, vI p2), (3, vI p3), (6, vI p6)]) G dX1_bestOfGroups_42 (by decide) rfl ?_
        refine x_iincL (j := 6) G dX1_bestOfGroups_44 rfl (by decide) H (fun v9 hv9 H => x_ls (ls' := [(6, vI v9), (4, vL v8), (7, vI r2), (0, vR 132), (1, vI p1), (2, vI p2), (3, vI p3)]) rfl ?_)
        refine x_goto (tgt := 6) G dX1_bestOfGroups_47 (by decide) ?_
        exact x_subp (ls' := [(0, vR 132), (1, vI p1), (2, vI p2), (3, vI p3), (4, vL v8), (6, vI v9)]) [3, 4, 5, 6, 1, 0] rfl (ih H)
def fX1_bestOfGroups (g : Int → Int → Int → Mem → Option (Int × Mem)) (a1 : Int) (a2 : Int) (a3 : Int) (s : Mem) : Option (Int × Mem) :=
  fX1_bestOfGroups_6 g 600 a1 a2 a3 0 0 s
set_option maxHeartbeats 4000000 in
theorem rX1_bestOfGroups {E : En} {g : Int → Int → Int → Mem → Option (Int × Mem)} {D : Nat} {xf : Int} {sf : Mem} {a1 : Int} {a2 : Int} {a3 : Int} {s : Mem} (hg : ∀ {i t q : Int} {s s' : Mem} {r : Int}, g i t q s = some (r, s') → ab_Run E D yX1_bestOfGroups cX1_bestOfGroups 8 (some .long) [vR 132, vI i, vI t, vI q] (some (vL r)) s s')  (H : fX1_bestOfGroups g a1 a2 a3 s = some (xf, sf)) : ab_Run E (D + 7) yX1_bestOfGroups cX1_bestOfGroups 8 (some .long) [vR 132, vI a1, vI a2, vI a3] (some (vL xf)) s sf := by
  unfold fX1_bestOfGroups at H
  refine ab_intro (own := RX1) (by decide +kernel) rfl (Nat.le_of_ble_eq_true rfl) rfl (fun b G => ?_)
  refine x_lconst (x := 0) G dX1_bestOfGroups_0 (by decide) (by decide) ?_
  refine x_lstore (ls' := [(4, vL 0), (0, vR 132), (1, vI a1), (2, vI a2), (3, vI a3)]) G dX1_bestOfGroups_1 (by decide) rfl ?_
  refine x_iconst G dX1_bestOfGroups_3 (by decide) ?_
  refine x_istore (ls' := [(6, vI 0), (4, vL 0), (0, vR 132), (1, vI a1), (2, vI a2), (3, vI a3)]) G dX1_bestOfGroups_4 (by decide) rfl ?_
  exact x_subp (ls' := [(0, vR 132), (1, vI a1), (2, vI a2), (3, vI a3), (4, vL 0), (6, vI 0)]) [2, 3, 4, 5, 1, 0] rfl (tX1_bestOfGroups_6 G hg 600 H)
def fBOG : Nat → Int → Int → Int → Mem → Option (Int × Mem)
  | 0, _, _, _, _ => none
  | n + 1, i, t, q, s => fX1_bestOfGroups (fun i t q s => fBOG n i t q s) i t q s
theorem rBOG {E : En} : ∀ (n : Nat) {i t q : Int} {s sf : Mem} {xf : Int}, fBOG n i t q s = some (xf, sf) → ab_Run E (7 * n) yX1_bestOfGroups cX1_bestOfGroups 8 (some .long) [vR 132, vI i, vI t, vI q] (some (vL xf)) s sf := by
  intro n
  induction n with
  | zero => intro i t q s sf xf H; rw [fBOG] at H; cases H
  | succ n ih =>
    intro i t q s sf xf H
    rw [fBOG] at H
    exact rX1_bestOfGroups (D := 7 * n) (fun h => ih h) H
def fX1_choice_15  : Nat → Int → Int → Int → Int → Int → Int → Mem → Option (Int × Mem)
  | 0, _, _, _, _, _, _, _ => none
  | n + 1, p1, p2, p3, p4, p5, p7, s =>
  if (s 21 0) ≤ p7 then
    some (p4, s)
  else
    b2 (fX1_sumOfRunning p1 p2 p7 p3 s) fun r2 s3 =>
    if r2 ≤ p5 then
      lt' (w32 (p7 + 1)) fun v5 =>
      fX1_choice_15 n p1 p2 p3 p4 p5 v5 s3
    else
      lt' (w32 (1 + p7)) fun v6 =>
      lt' (w32 (p7 + 1)) fun v7 =>
      fX1_choice_15 n p1 p2 p3 v6 r2 v7 s3
set_option maxHeartbeats 4000000 in
theorem tX1_choice_15 {E : En} {b : Bn} {xf : Int} {sf : Mem}  (G : ab_G E b cX1_choice 10 RX1 (some .int) 216)  : ∀ (n : Nat) {p1 : Int} {p2 : Int} {p3 : Int} {p4 : Int} {p5 : Int} {p7 : Int} {s : Mem}, fX1_choice_15 n p1 p2 p3 p4 p5 p7 s = some (xf, sf) → ab_X E b (ab_MQ E b (some (vI xf)) sf) 10 15 [(0, vR 132), (1, vI p1), (2, vI p2), (3, vI p3), (4, vI p4), (5, vL p5), (7, vI p7)] [] s := by
  intro n
  induction n with
  | zero => intro p1 p2 p3 p4 p5 p7 s H; rw [fX1_choice_15] at H; cases H
  | succ n ih =>
    intro p1 p2 p3 p4 p5 p7 s H
    rw [fX1_choice_15] at H
    refine x_iload (j := 6) G dX1_choice_15 rfl ?_
    refine x_aload_n (j := 0) G dX1_choice_17 rfl rfl ?_
    refine gf_315 G sh_132 pt_132_0 dX1_choice_18 ?_
    refine gf_137 G sh_21 pt_21_0 dX1_choice_21 ?_
    refine x_icmp_ge (tgt := 62) G dX1_choice_24 (by decide) (fun q1 => ?_) (fun q1 => ?_)
    · have H := if_some_t H q1
      refine x_iload (j := 4) G dX1_choice_62 rfl ?_
      cases H
      exact x_iret G dX1_choice_64
    · have H := if_some_f H q1
      refine x_aload_n (j := 0) G dX1_choice_27 rfl rfl ?_
      refine x_iload_n (j := 1) G dX1_choice_28 rfl rfl ?_
      refine x_iload_n (j := 2) G dX1_choice_29 rfl rfl ?_
      refine x_iload (j := 6) G dX1_choice_30 rfl ?_
      refine x_iload_n (j := 3) G dX1_choice_32 rfl rfl ?_
      obtain ⟨r2, s3, c3, H⟩ := b2_some H
      refine cv_768 (As := [vI p1, vI p2, vI p7, vI p3]) (rest := []) G (rX1_sumOfRunning  c3) sh_132 (by omega) rfl rfl (Nat.le_of_ble_eq_true rfl) dX1_choice_33 ?_
      refine x_lstore (ls' := [(8, vL r2), (0, vR 132), (1, vI p1), (2, vI p2), (3, vI p3), (4, vI p4), (5, vL p5), (7, vI p7)]) G dX1_choice_36 (by decide) rfl ?_
      refine x_lload (j := 0) G dX1_choice_38 rfl ?_
      refine x_lload (j := 6) G dX1_choice_40 rfl ?_
      refine x_lcmp_le (tgt := 56) G dX1_choice_42 rfl dX1_choice_43 (by decide) (fun q4 => ?_) (fun q4 => ?_)
      · have H := if_some_t H q4
        refine x_iincL (j := 7) G dX1_choice_56 rfl (by decide) H (fun v5 hv5 H => x_ls (ls' := [(7, vI v5), (8, vL r2), (0, vR 132), (1, vI p1), (2, vI p2), (3, vI p3), (4, vI p4), (5, vL p5)]) rfl ?_)
        refine x_goto (tgt := 15) G dX1_choice_59 (by decide) ?_
        exact x_subp (ls' := [(0, vR 132), (1, vI p1), (2, vI p2), (3, vI p3), (4, vI p4), (5, vL p5), (7, vI v5)]) [2, 3, 4, 5, 6, 7, 0] rfl (ih H)
      · have H := if_some_f H q4
        refine x_lload (j := 0) G dX1_choice_46 rfl ?_
        refine x_lstore (ls' := [(5, vL r2), (8, vL r2), (0, vR 132), (1, vI p1), (2, vI p2), (3, vI p3), (4, vI p4), (7, vI p7)]) G dX1_choice_48 (by decide) rfl ?_
        refine x_iconst G dX1_choice_50 (by decide) ?_
        refine x_iload (j := 7) G dX1_choice_51 rfl ?_
        refine x_iadd G dX1_choice_53 ?_
        refine x_let H (fun v6 hv6 H => ?_)
        refine x_istore (ls' := [(4, vI v6), (5, vL r2), (8, vL r2), (0, vR 132), (1, vI p1), (2, vI p2), (3, vI p3), (7, vI p7)]) G dX1_choice_54 (by decide) rfl ?_
        refine x_iincL (j := 7) G dX1_choice_56 rfl (by decide) H (fun v7 hv7 H => x_ls (ls' := [(7, vI v7), (4, vI v6), (5, vL r2), (8, vL r2), (0, vR 132), (1, vI p1), (2, vI p2), (3, vI p3)]) rfl ?_)
        refine x_goto (tgt := 15) G dX1_choice_59 (by decide) ?_
        exact x_subp (ls' := [(0, vR 132), (1, vI p1), (2, vI p2), (3, vI p3), (4, vI v6), (5, vL r2), (7, vI v7)]) [4, 5, 6, 7, 1, 2, 0] rfl (ih H)
def fX1_choice (a1 : Int) (a2 : Int) (a3 : Int) (s : Mem) : Option (Int × Mem) :=
  b2 (fX1_sumOfStaying (fun i t q s => fBOG 30 i t q s) a1 a2 a3 s) fun r1 s2 =>
  fX1_choice_15 600 a1 a2 a3 0 r1 0 s2
set_option maxHeartbeats 4000000 in
theorem rX1_choice {E : En} {xf : Int} {sf : Mem} {a1 : Int} {a2 : Int} {a3 : Int} {s : Mem}  (H : fX1_choice a1 a2 a3 s = some (xf, sf)) : ab_Run E 216 yX1_choice cX1_choice 10 (some .int) [vR 132, vI a1, vI a2, vI a3] (some (vI xf)) s sf := by
  unfold fX1_choice at H
  refine ab_intro (own := RX1) (by decide +kernel) rfl (Nat.le_of_ble_eq_true rfl) rfl (fun b G => ?_)
  refine x_iconst G dX1_choice_0 (by decide) ?_
  refine x_istore (ls' := [(4, vI 0), (0, vR 132), (1, vI a1), (2, vI a2), (3, vI a3)]) G dX1_choice_1 (by decide) rfl ?_
  refine x_aload_n (j := 1) G dX1_choice_3 rfl rfl ?_
  refine x_iload_n (j := 2) G dX1_choice_4 rfl rfl ?_
  refine x_iload_n (j := 3) G dX1_choice_5 rfl rfl ?_
  refine x_iload_n (j := 4) G dX1_choice_6 rfl rfl ?_
  obtain ⟨r1, s2, c2, H⟩ := b2_some H
  refine cv_763 (As := [vI a1, vI a2, vI a3]) (rest := []) G (rX1_sumOfStaying (fun h => rBOG 30 h)  c2) sh_132 (by omega) rfl rfl (Nat.le_of_ble_eq_true rfl) dX1_choice_7 ?_
  refine x_lstore (ls' := [(5, vL r1), (4, vI 0), (0, vR 132), (1, vI a1), (2, vI a2), (3, vI a3)]) G dX1_choice_10 (by decide) rfl ?_
  refine x_iconst G dX1_choice_12 (by decide) ?_
  refine x_istore (ls' := [(7, vI 0), (5, vL r1), (4, vI 0), (0, vR 132), (1, vI a1), (2, vI a2), (3, vI a3)]) G dX1_choice_13 (by decide) rfl ?_
  exact x_subp (ls' := [(0, vR 132), (1, vI a1), (2, vI a2), (3, vI a3), (4, vI 0), (5, vL r1), (7, vI 0)]) [3, 4, 5, 6, 2, 1, 0] rfl (tX1_choice_15 G 600 H)
def fX2_asUsual  (s : Mem) : Option Mem :=
  lt' (mu s 122 1 0) fun s1 =>
  lt' (mu s1 122 3 0) fun s2 =>
  some s2
set_option maxHeartbeats 4000000 in
theorem rX2_asUsual {E : En} {sf : Mem}  {s : Mem}  (H : fX2_asUsual  s = some sf) : ab_Run E 0 yX2_asUsual cX2_asUsual 1 none [vR 122] none s sf := by
  unfold fX2_asUsual at H
  refine ab_intro (own := RX2) (by decide +kernel) rfl (Nat.le_of_ble_eq_true rfl) rfl (fun b G => ?_)
  refine x_aload_n (j := 0) G dX2_asUsual_0 rfl rfl ?_
  refine x_iconst G dX2_asUsual_1 (by decide) ?_
  refine pf_270 G sh_122 pt_122_1 dX2_asUsual_2 H (fun s1 hs1 H => ?_)
  refine x_aload_n (j := 0) G dX2_asUsual_5 rfl rfl ?_
  refine x_iconst G dX2_asUsual_6 (by decide) ?_
  refine pf_272 (by decide) G sh_122 pt_122_3 dX2_asUsual_7 H (fun s2 hs2 H => ?_)
  cases H
  exact x_vret G dX2_asUsual_10
def fX2_inConvoy (a1 : Int) (a2 : Int) (s : Mem) : Option Mem :=
  lt' (mu s 122 1 a1) fun s1 =>
  lt' (mu s1 122 2 a2) fun s2 =>
  lt' (mu s2 122 3 0) fun s3 =>
  some s3
set_option maxHeartbeats 4000000 in
theorem rX2_inConvoy {E : En} {sf : Mem} {a1 : Int} {a2 : Int} {s : Mem}  (H : fX2_inConvoy a1 a2 s = some sf) : ab_Run E 0 yX2_inConvoy cX2_inConvoy 3 none [vR 122, vI a1, vI a2] none s sf := by
  unfold fX2_inConvoy at H
  refine ab_intro (own := RX2) (by decide +kernel) rfl (Nat.le_of_ble_eq_true rfl) rfl (fun b G => ?_)
  refine x_aload_n (j := 0) G dX2_inConvoy_0 rfl rfl ?_
  refine x_iload_n (j := 1) G dX2_inConvoy_1 rfl rfl ?_
  refine pf_270 G sh_122 pt_122_1 dX2_inConvoy_2 H (fun s1 hs1 H => ?_)
  refine x_aload_n (j := 0) G dX2_inConvoy_5 rfl rfl ?_
  refine x_iload_n (j := 2) G dX2_inConvoy_6 rfl rfl ?_
  refine pf_271 G sh_122 pt_122_2 dX2_inConvoy_7 H (fun s2 hs2 H => ?_)
  refine x_aload_n (j := 0) G dX2_inConvoy_10 rfl rfl ?_
  refine x_iconst G dX2_inConvoy_11 (by decide) ?_
  refine pf_272 (by decide) G sh_122 pt_122_3 dX2_inConvoy_12 H (fun s3 hs3 H => ?_)
  cases H
  exact x_vret G dX2_inConvoy_15
def fX2_dearestFirst  (s : Mem) : Option Mem :=
  lt' (mu s 122 1 0) fun s1 =>
  lt' (mu s1 122 3 1) fun s2 =>
  some s2
set_option maxHeartbeats 4000000 in
theorem rX2_dearestFirst {E : En} {sf : Mem}  {s : Mem}  (H : fX2_dearestFirst  s = some sf) : ab_Run E 0 yX2_dearestFirst cX2_dearestFirst 1 none [vR 122] none s sf := by
  unfold fX2_dearestFirst at H
  refine ab_intro (own := RX2) (by decide +kernel) rfl (Nat.le_of_ble_eq_true rfl) rfl (fun b G => ?_)
  refine x_aload_n (j := 0) G dX2_dearestFirst_0 rfl rfl ?_
  refine x_iconst G dX2_dearestFirst_1 (by decide) ?_
  refine pf_270 G sh_122 pt_122_1 dX2_dearestFirst_2 H (fun s1 hs1 H => ?_)
  refine x_aload_n (j := 0) G dX2_dearestFirst_5 rfl rfl ?_
  refine x_iconst G dX2_dearestFirst_6 (by decide) ?_
  refine pf_272 (by decide) G sh_122 pt_122_3 dX2_dearestFirst_7 H (fun s2 hs2 H => ?_)
  cases H
  exact x_vret G dX2_dearestFirst_10
def fX3_stayAll_2  : Nat → Nat → Int → Mem → Option Mem
  | 0, _, _, _ => none
  | n + 1, p0, p1, s =>
  if 4 ≤ p1 then
    some s
  else
    (fX3_send p0 p1 24 0 s).bind fun s3 =>
    lt' (w32 (p1 + 1)) fun v4 =>
    fX3_stayAll_2 n p0 v4 s3
set_option maxHeartbeats 4000000 in
theorem tX3_stayAll_2 {E : En} {b : Bn} {sf : Mem}  (G : ab_G E b cX3_stayAll 2 RX3 none 1)  : ∀ (n : Nat) {p0 : Nat} {p1 : Int} {s : Mem} (hp0 : ab_sh p0 = (1, 3, 0)), fX3_stayAll_2 n p0 p1 s = some sf → ab_X E b (ab_MQ E b none sf) 2 2 [(0, vR p0), (1, vI p1)] [] s := by
  intro n
  induction n with
  | zero => intro p0 p1 s hp0 H; rw [fX3_stayAll_2] at H; cases H
  | succ n ih =>
    intro p0 p1 s hp0 H
    rw [fX3_stayAll_2] at H
    refine x_iload_n (j := 1) G dX3_stayAll_2 rfl rfl ?_
    refine x_iconst G dX3_stayAll_3 (by decide) ?_
    refine x_icmp_ge (tgt := 21) G dX3_stayAll_4 (by decide) (fun q1 => ?_) (fun q1 => ?_)
    · have H := if_some_t H q1
      cases H
      exact x_vret G dX3_stayAll_21
    · have H := if_some_f H q1
      refine x_aload_n (j := 0) G dX3_stayAll_7 rfl rfl ?_
      refine x_iload_n (j := 1) G dX3_stayAll_8 rfl rfl ?_
      refine x_bipush G dX3_stayAll_9 (by decide) (by decide) ?_
      refine x_iconst G dX3_stayAll_11 (by decide) ?_
      obtain ⟨s3, c3, H⟩ := bd_some H
      refine cv_502 (As := [vI p1, vI 24, vI 0]) (rest := []) G (rX3_send hp0 c3) hp0 (by omega) rfl rfl (Nat.le_of_ble_eq_true rfl) dX3_stayAll_12 ?_
      refine x_iincL (j := 1) G dX3_stayAll_15 rfl (by decide) H (fun v4 hv4 H => x_ls (ls' := [(1, vI v4), (0, vR p0)]) rfl ?_)
      refine x_goto (tgt := 2) G dX3_stayAll_18 (by decide) ?_
      exact x_subp (ls' := [(0, vR p0), (1, vI v4)]) [1, 0] rfl (ih hp0 H)
def fX3_stayAll (a0 : Nat) (s : Mem) : Option Mem :=
  fX3_stayAll_2 600 a0 0 s
set_option maxHeartbeats 4000000 in
theorem rX3_stayAll {E : En} {sf : Mem} {a0 : Nat} {s : Mem} (q0 : ab_sh a0 = (1, 3, 0)) (H : fX3_stayAll a0 s = some sf) : ab_Run E 1 yX3_stayAll cX3_stayAll 2 none [vR a0] none s sf := by
  unfold fX3_stayAll at H
  refine ab_intro (own := RX3) (by decide +kernel) rfl (Nat.le_of_ble_eq_true rfl) rfl (fun b G => ?_)
  refine x_iconst G dX3_stayAll_0 (by decide) ?_
  refine x_istore_n (ls' := [(1, vI 0), (0, vR a0)]) G dX3_stayAll_1 rfl (by decide) rfl ?_
  exact x_subp (ls' := [(0, vR a0), (1, vI 0)]) [1, 0] rfl (tX3_stayAll_2 G 600 q0 H)
def fX3_copyFrom_2  : Nat → Nat → Nat → Int → Mem → Option Mem
  | 0, _, _, _, _ => none
  | n + 1, p0, p1, p2, s =>
  if 4 ≤ p2 then
    some s
  else
    (rdI s (ab_pt p1 0) p2).bind fun x2 =>
    (rdI s (ab_pt p1 1) p2).bind fun x3 =>
    (fX3_send p0 p2 x2 x3 s).bind fun s5 =>
    lt' (w32 (p2 + 1)) fun v6 =>
    fX3_copyFrom_2 n p0 p1 v6 s5
set_option maxHeartbeats 4000000 in
theorem tX3_copyFrom_2 {E : En} {b : Bn} {sf : Mem}  (G : ab_G E b cX3_copyFrom 3 RX3 none 1)  : ∀ (n : Nat) {p0 : Nat} {p1 : Nat} {p2 : Int} {s : Mem} (hp0 : ab_sh p0 = (1, 3, 0)) (hp1 : ab_sh p1 = (1, 3, 0)), fX3_copyFrom_2 n p0 p1 p2 s = some sf → ab_X E b (ab_MQ E b none sf) 3 2 [(0, vR p0), (1, vR p1), (2, vI p2)] [] s := by
  intro n
  induction n with
  | zero => intro p0 p1 p2 s hp0 hp1 H; rw [fX3_copyFrom_2] at H; cases H
  | succ n ih =>
    intro p0 p1 p2 s hp0 hp1 H
    rw [fX3_copyFrom_2] at H
    refine x_iload_n (j := 2) G dX3_copyFrom_2 rfl rfl ?_
    refine x_iconst G dX3_copyFrom_3 (by decide) ?_
    refine x_icmp_ge (tgt := 30) G dX3_copyFrom_4 (by decide) (fun q1 => ?_) (fun q1 => ?_)
    · have H := if_some_t H q1
      cases H
      exact x_vret G dX3_copyFrom_30
    · have H := if_some_f H q1
      refine x_aload_n (j := 0) G dX3_copyFrom_7 rfl rfl ?_
      refine x_iload_n (j := 2) G dX3_copyFrom_8 rfl rfl ?_
      refine x_aload_n (j := 1) G dX3_copyFrom_9 rfl rfl ?_
      refine gf_221 G hp1 (pc_3_0 hp1) dX3_copyFrom_10 ?_
      refine x_iload_n (j := 2) G dX3_copyFrom_13 rfl rfl ?_
      refine x_iald G dX3_copyFrom_14 H (fun x2 hx2 H => ?_)
      refine x_aload_n (j := 1) G dX3_copyFrom_15 rfl rfl ?_
      refine gf_226 G hp1 (pc_3_1 hp1) dX3_copyFrom_16 ?_
      refine x_iload_n (j := 2) G dX3_copyFrom_19 rfl rfl ?_
      refine x_iald G dX3_copyFrom_20 H (fun x3 hx3 H => ?_)
      obtain ⟨s5, c5, H⟩ := bd_some H
      refine cv_502 (As := [vI p2, vI x2, vI x3]) (rest := []) G (rX3_send hp0 c5) hp0 (by omega) rfl rfl (Nat.le_of_ble_eq_true rfl) dX3_copyFrom_21 ?_
      refine x_iincL (j := 2) G dX3_copyFrom_24 rfl (by decide) H (fun v6 hv6 H => x_ls (ls' := [(2, vI v6), (0, vR p0), (1, vR p1)]) rfl ?_)
      refine x_goto (tgt := 2) G dX3_copyFrom_27 (by decide) ?_
      exact x_subp (ls' := [(0, vR p0), (1, vR p1), (2, vI v6)]) [1, 2, 0] rfl (ih hp0 hp1 H)
def fX3_copyFrom (a0 : Nat) (a1 : Nat) (s : Mem) : Option Mem :=
  fX3_copyFrom_2 600 a0 a1 0 s
set_option maxHeartbeats 4000000 in
theorem rX3_copyFrom {E : En} {sf : Mem} {a0 : Nat} {a1 : Nat} {s : Mem} (q0 : ab_sh a0 = (1, 3, 0)) (q1 : ab_sh a1 = (1, 3, 0)) (H : fX3_copyFrom a0 a1 s = some sf) : ab_Run E 1 yX3_copyFrom cX3_copyFrom 3 none [vR a0, vR a1] none s sf := by
  unfold fX3_copyFrom at H
  refine ab_intro (own := RX3) (by decide +kernel) rfl (Nat.le_of_ble_eq_true rfl) rfl (fun b G => ?_)
  refine x_iconst G dX3_copyFrom_0 (by decide) ?_
  refine x_istore_n (ls' := [(2, vI 0), (0, vR a0), (1, vR a1)]) G dX3_copyFrom_1 rfl (by decide) rfl ?_
  exact x_subp (ls' := [(0, vR a0), (1, vR a1), (2, vI 0)]) [1, 2, 0] rfl (tX3_copyFrom_2 G 600 q0 q1 H)
def fX3_told (a0 : Nat) (a1 : Int) (s : Mem) : Option (Int × Mem) :=
  (rdI s (ab_pt a0 0) a1).bind fun x1 =>
  (rdI s (ab_pt a0 1) a1).bind fun x2 =>
  some (w32 ((w32 (10 * x1)) + x2), s)
set_option maxHeartbeats 4000000 in
theorem rX3_told {E : En} {xf : Int} {sf : Mem} {a0 : Nat} {a1 : Int} {s : Mem} (q0 : ab_sh a0 = (1, 3, 0)) (H : fX3_told a0 a1 s = some (xf, sf)) : ab_Run E 0 yX3_told cX3_told 2 (some .int) [vR a0, vI a1] (some (vI xf)) s sf := by
  unfold fX3_told at H
  refine ab_intro (own := RX3) (by decide +kernel) rfl (Nat.le_of_ble_eq_true rfl) rfl (fun b G => ?_)
  refine x_bipush G dX3_told_0 (by decide) (by decide) ?_
  refine x_aload_n (j := 0) G dX3_told_2 rfl rfl ?_
  refine gf_221 G q0 (pc_3_0 q0) dX3_told_3 ?_
  refine x_iload_n (j := 1) G dX3_told_6 rfl rfl ?_
  refine x_iald G dX3_told_7 H (fun x1 hx1 H => ?_)
  refine x_imul G dX3_told_8 ?_
  refine x_aload_n (j := 0) G dX3_told_9 rfl rfl ?_
  refine gf_226 G q0 (pc_3_1 q0) dX3_told_10 ?_
  refine x_iload_n (j := 1) G dX3_told_13 rfl rfl ?_
  refine x_iald G dX3_told_14 H (fun x2 hx2 H => ?_)
  refine x_iadd G dX3_told_15 ?_
  cases H
  exact x_iret G dX3_told_16
def fX4_boatsGone_5  : Nat → Int → Nat → Int → Int → Mem → Option (Int × Mem)
  | 0, _, _, _, _, _ => none
  | n + 1, p1, p2, p3, p4, s =>
  if (s 21 1) ≤ p4 then
    some (p3, s)
  else
    (rdI s (ab_pt p2 0) p4).bind fun x2 =>
    if p1 ≤ x2 then
      lt' (w32 (p4 + 1)) fun v4 =>
      fX4_boatsGone_5 n p1 p2 p3 v4 s
    else
      (rdG 27 p4).bind fun x5 =>
      (rdI s x5 0).bind fun x6 =>
      lt' (w32 (p3 + x6)) fun v7 =>
      lt' (w32 (p4 + 1)) fun v8 =>
      fX4_boatsGone_5 n p1 p2 v7 v8 s
set_option maxHeartbeats 4000000 in
theorem tX4_boatsGone_5 {E : En} {b : Bn} {xf : Int} {sf : Mem}  (G : ab_G E b cX4_boatsGone 5 RX4 (some .int) 0)  : ∀ (n : Nat) {p1 : Int} {p2 : Nat} {p3 : Int} {p4 : Int} {s : Mem} (hp2 : ab_sh p2 = (1, 3, 0)), fX4_boatsGone_5 n p1 p2 p3 p4 s = some (xf, sf) → ab_X E b (ab_MQ E b (some (vI xf)) sf) 5 5 [(0, vR 131), (1, vI p1), (2, vR p2), (3, vI p3), (4, vI p4)] [] s := by
  intro n
  induction n with
  | zero => intro p1 p2 p3 p4 s hp2 H; rw [fX4_boatsGone_5] at H; cases H
  | succ n ih =>
    intro p1 p2 p3 p4 s hp2 H
    rw [fX4_boatsGone_5] at H
    refine x_iload (j := 4) G dX4_boatsGone_5 rfl ?_
    refine x_aload_n (j := 0) G dX4_boatsGone_7 rfl rfl ?_
    refine gf_302 G sh_131 pt_131_0 dX4_boatsGone_8 ?_
    refine gf_143 G sh_21 pt_21_1 dX4_boatsGone_11 ?_
    refine x_icmp_ge (tgt := 49) G dX4_boatsGone_14 (by decide) (fun q1 => ?_) (fun q1 => ?_)
    · have H := if_some_t H q1
      refine x_iload_n (j := 3) G dX4_boatsGone_49 rfl rfl ?_
      cases H
      exact x_iret G dX4_boatsGone_50
    · have H := if_some_f H q1
      refine x_aload_n (j := 2) G dX4_boatsGone_17 rfl rfl ?_
      refine gf_223 G hp2 (pc_3_0 hp2) dX4_boatsGone_18 ?_
      refine x_iload (j := 4) G dX4_boatsGone_21 rfl ?_
      refine x_iald G dX4_boatsGone_23 H (fun x2 hx2 H => ?_)
      refine x_iload_n (j := 1) G dX4_boatsGone_24 rfl rfl ?_
      refine x_icmp_ge (tgt := 43) G dX4_boatsGone_25 (by decide) (fun q3 => ?_) (fun q3 => ?_)
      · have H := if_some_t H q3
        refine x_iincL (j := 4) G dX4_boatsGone_43 rfl (by decide) H (fun v4 hv4 H => x_ls (ls' := [(4, vI v4), (0, vR 131), (1, vI p1), (2, vR p2), (3, vI p3)]) rfl ?_)
        refine x_goto (tgt := 5) G dX4_boatsGone_46 (by decide) ?_
        exact x_subp (ls' := [(0, vR 131), (1, vI p1), (2, vR p2), (3, vI p3), (4, vI v4)]) [1, 2, 3, 4, 0] rfl (ih hp2 H)
      · have H := if_some_f H q3
        refine x_iload_n (j := 3) G dX4_boatsGone_28 rfl rfl ?_
        refine x_aload_n (j := 0) G dX4_boatsGone_29 rfl rfl ?_
        refine gf_302 G sh_131 pt_131_0 dX4_boatsGone_30 ?_
        refine gf_154 G sh_21 pt_21_4 dX4_boatsGone_33 ?_
        refine x_iload (j := 4) G dX4_boatsGone_36 rfl ?_
        refine x_aald G dX4_boatsGone_38 H (fun g0 g1 x5 hx5 H => ?_)
        refine x_iconst G dX4_boatsGone_39 (by decide) ?_
        refine x_iald G dX4_boatsGone_40 H (fun x6 hx6 H => ?_)
        refine x_iadd G dX4_boatsGone_41 ?_
        refine x_let H (fun v7 hv7 H => ?_)
        refine x_istore_n (ls' := [(3, vI v7), (0, vR 131), (1, vI p1), (2, vR p2), (4, vI p4)]) G dX4_boatsGone_42 rfl (by decide) rfl ?_
        refine x_iincL (j := 4) G dX4_boatsGone_43 rfl (by decide) H (fun v8 hv8 H => x_ls (ls' := [(4, vI v8), (3, vI v7), (0, vR 131), (1, vI p1), (2, vR p2)]) rfl ?_)
        refine x_goto (tgt := 5) G dX4_boatsGone_46 (by decide) ?_
        exact x_subp (ls' := [(0, vR 131), (1, vI p1), (2, vR p2), (3, vI v7), (4, vI v8)]) [2, 3, 4, 1, 0] rfl (ih hp2 H)
def fX4_boatsGone (a1 : Int) (a2 : Nat) (s : Mem) : Option (Int × Mem) :=
  fX4_boatsGone_5 600 a1 a2 0 0 s
set_option maxHeartbeats 4000000 in
theorem rX4_boatsGone {E : En} {xf : Int} {sf : Mem} {a1 : Int} {a2 : Nat} {s : Mem} (q2 : ab_sh a2 = (1, 3, 0)) (H : fX4_boatsGone a1 a2 s = some (xf, sf)) : ab_Run E 0 yX4_boatsGone cX4_boatsGone 5 (some .int) [vR 131, vI a1, vR a2] (some (vI xf)) s sf := by
  unfold fX4_boatsGone at H
  refine ab_intro (own := RX4) (by decide +kernel) rfl (Nat.le_of_ble_eq_true rfl) rfl (fun b G => ?_)
  refine x_iconst G dX4_boatsGone_0 (by decide) ?_
  refine x_istore_n (ls' := [(3, vI 0), (0, vR 131), (1, vI a1), (2, vR a2)]) G dX4_boatsGone_1 rfl (by decide) rfl ?_
  refine x_iconst G dX4_boatsGone_2 (by decide) ?_
  refine x_istore (ls' := [(4, vI 0), (3, vI 0), (0, vR 131), (1, vI a1), (2, vR a2)]) G dX4_boatsGone_3 (by decide) rfl ?_
  exact x_subp (ls' := [(0, vR 131), (1, vI a1), (2, vR a2), (3, vI 0), (4, vI 0)]) [2, 3, 4, 1, 0] rfl (tX4_boatsGone_5 G 600 q2 H)
def fX4_runs_33  (p2 : Int) (p3 : Int) (s : Mem) : Option (Int × Mem) :=
  (rdG 42 p2).bind fun x1 =>
  (rdI s x1 p3).bind fun x2 =>
  if x2 < (s 109 1) then
    some (0, s)
  else
    some (1, s)
set_option maxHeartbeats 4000000 in
theorem tX4_runs_33 {E : En} {b : Bn} {xf : Int} {sf : Mem}  {p2 : Int} {p3 : Int} {s : Mem} (G : ab_G E b cX4_runs 6 RX4 (some .boolean) 1)   (H : fX4_runs_33 p2 p3 s = some (xf, sf)) : ab_X E b (ab_MQ E b (some (vI xf)) sf) 6 33 [(0, vR 131), (2, vI p2), (3, vI p3)] [] s := by
  unfold fX4_runs_33 at H
  refine x_aload_n (j := 0) G dX4_runs_33 rfl rfl ?_
  refine gf_302 G sh_131 pt_131_0 dX4_runs_34 ?_
  refine gf_167 G sh_21 pt_21_7 dX4_runs_37 ?_
  refine x_iload_n (j := 1) G dX4_runs_40 rfl rfl ?_
  refine x_aald G dX4_runs_41 H (fun g0 g1 x1 hx1 H => ?_)
  refine x_iload_n (j := 2) G dX4_runs_42 rfl rfl ?_
  refine x_iald G dX4_runs_43 H (fun x2 hx2 H => ?_)
  refine x_aload_n (j := 0) G dX4_runs_44 rfl rfl ?_
  refine gf_303 G sh_131 pt_131_1 dX4_runs_45 ?_
  refine gf_239 G sh_109 pt_109_1 dX4_runs_48 ?_
  refine x_icmp_lt (tgt := 58) G dX4_runs_51 (by decide) (fun q3 => ?_) (fun q3 => ?_)
  · have H := if_some_t H q3
    refine x_iconst G dX4_runs_58 (by decide) ?_
    cases H
    exact x_zret G (by decide) dX4_runs_59
  · have H := if_some_f H q3
    refine x_iconst G dX4_runs_54 (by decide) ?_
    refine x_goto (tgt := 59) G dX4_runs_55 (by decide) ?_
    cases H
    exact x_zret G (by decide) dX4_runs_59
def fX4_runs (a1 : Int) (a2 : Int) (a3 : Int) (a4 : Int) (a5 : Nat) (s : Mem) : Option (Int × Mem) :=
  if a1 = 2 then
    if a4 ≤ 0 then
      fX4_runs_33 a2 a3 s
    else
      b2 (fX4_boatsGone a3 a5 s) fun r3 s4 =>
      if r3 < (s4 109 2) then
        some (0, s4)
      else
        some (1, s4)
  else
    fX4_runs_33 a2 a3 s
set_option maxHeartbeats 4000000 in
theorem rX4_runs {E : En} {xf : Int} {sf : Mem} {a1 : Int} {a2 : Int} {a3 : Int} {a4 : Int} {a5 : Nat} {s : Mem} (q5 : ab_sh a5 = (1, 3, 0)) (H : fX4_runs a1 a2 a3 a4 a5 s = some (xf, sf)) : ab_Run E 1 yX4_runs cX4_runs 6 (some .boolean) [vR 131, vI a1, vI a2, vI a3, vI a4, vR a5] (some (vI xf)) s sf := by
  unfold fX4_runs at H
  refine ab_intro (own := RX4) (by decide +kernel) rfl (Nat.le_of_ble_eq_true rfl) rfl (fun b G => ?_)
  refine x_iload_n (j := 1) G dX4_runs_0 rfl rfl ?_
  refine x_iconst G dX4_runs_1 (by decide) ?_
  refine x_icmp_ne (tgt := 33) G dX4_runs_2 (by decide) (fun q1 => ?_) (fun q1 => ?_)
  · have H := if_some_f H q1
    exact x_subp (ls' := [(0, vR 131), (2, vI a2), (3, vI a3)]) [0, 2, 3] rfl (tX4_runs_33 G  H)
  · have H := if_some_t H q1
    refine x_iload (j := 4) G dX4_runs_5 rfl ?_
    refine x_if_le (tgt := 33) G dX4_runs_7 (by decide) (fun q2 => ?_) (fun q2 => ?_)
    · have H := if_some_t H q2
      exact x_subp (ls' := [(0, vR 131), (2, vI a2), (3, vI a3)]) [0, 2, 3] rfl (tX4_runs_33 G  H)
    · have H := if_some_f H q2
      refine x_aload_n (j := 0) G dX4_runs_10 rfl rfl ?_
      refine x_iload_n (j := 3) G dX4_runs_11 rfl rfl ?_
      refine x_aload (j := 5) G dX4_runs_12 rfl ?_
      obtain ⟨r3, s4, c4, H⟩ := b2_some H
      refine cv_727 (As := [vI a3, vR a5]) (rest := []) G (rX4_boatsGone q5 c4) sh_131 (by omega) rfl rfl (Nat.le_of_ble_eq_true rfl) dX4_runs_14 ?_
      refine x_aload_n (j := 0) G dX4_runs_17 rfl rfl ?_
      refine gf_303 G sh_131 pt_131_1 dX4_runs_18 ?_
      refine gf_242 G sh_109 pt_109_2 dX4_runs_21 ?_
      refine x_icmp_lt (tgt := 31) G dX4_runs_24 (by decide) (fun q5 => ?_) (fun q5 => ?_)
      · have H := if_some_t H q5
        refine x_iconst G dX4_runs_31 (by decide) ?_
        cases H
        exact x_zret G (by decide) dX4_runs_32
      · have H := if_some_f H q5
        refine x_iconst G dX4_runs_27 (by decide) ?_
        refine x_goto (tgt := 32) G dX4_runs_28 (by decide) ?_
        cases H
        exact x_zret G (by decide) dX4_runs_32

def fX9_ruled_173 (k35 : Int → Int → Int → Int → Mem → Option Mem) (k53 : Int → Int → Int → Int → Int → Int → Mem → Option Mem) (p1 : Int) (p2 : Int) (p3 : Int) (p4 : Int) (p5 : Int) (p6 : Int) (t1 : Int) (t2 : Int) (s : Mem) : Option Mem :=
  (wrI s 6 t1 t2).bind fun s1 =>
  (rdI s1 1 (w32 (16 + (w32 (5 * p6))))).bind fun x2 =>
  lt' (w32 (p5 + x2)) fun v3 =>
  lt' (w32 (p6 + 1)) fun v4 =>
  k53 p1 p2 p3 p4 v3 v4 s1
set_option maxHeartbeats 4000000 in
theorem tX9_ruled_173 {E : En} {b : Bn} {sf : Mem} {k35 : Int → Int → Int → Int → Mem → Option Mem} {k53 : Int → Int → Int → Int → Int → Int → Mem → Option Mem} {p1 : Int} {p2 : Int} {p3 : Int} {p4 : Int} {p5 : Int} {p6 : Int} {t1 : Int} {t2 : Int} {s : Mem} (G : ab_G E b cX9_ruled 8 RX9 none 5)  (K35 : ∀ {p1 : Int} {p2 : Int} {p3 : Int} {p4 : Int} {s : Mem},  k35 p1 p2 p3 p4 s = some sf → ab_X E b (ab_MQ E b none sf) 8 35 [(0, vR 0), (1, vI p1), (2, vI p2), (3, vI p3), (4, vI p4)] [] s) (K53 : ∀ {p1 : Int} {p2 : Int} {p3 : Int} {p4 : Int} {p5 : Int} {p6 : Int} {s : Mem},  k53 p1 p2 p3 p4 p5 p6 s = some sf → ab_X E b (ab_MQ E b none sf) 8 53 [(0, vR 0), (1, vI p1), (2, vI p2), (3, vI p3), (4, vI p4), (5, vI p5), (6, vI p6)] [] s) (H : fX9_ruled_173 k35 k53 p1 p2 p3 p4 p5 p6 t1 t2 s = some sf) : ab_X E b (ab_MQ E b none sf) 8 173 [(0, vR 0), (1, vI p1), (2, vI p2), (3, vI p3), (4, vI p4), (5, vI p5), (6, vI p6)] [vI t2, vI t1, vR 6] s := by
  unfold fX9_ruled_173 at H
  refine x_iast G dX9_ruled_173 H (fun s1 hs1 H => ?_)
  refine x_iload (j := 5) G dX9_ruled_174 rfl ?_
  refine x_aload_n (j := 0) G dX9_ruled_176 rfl rfl ?_
  refine gf_878 G sh_0 pt_0_1 dX9_ruled_177 ?_
  refine x_bipush G dX9_ruled_180 (by decide) (by decide) ?_
  refine x_iconst G dX9_ruled_182 (by decide) ?_
  refine x_iload (j := 6) G dX9_ruled_183 rfl ?_
  refine x_imul G dX9_ruled_185 ?_
  refine x_iadd G dX9_ruled_186 ?_
  refine x_iald G dX9_ruled_187 H (fun x2 hx2 H => ?_)
  refine x_iadd G dX9_ruled_188 ?_
  refine x_let H (fun v3 hv3 H => ?_)
  refine x_istore (ls' := [(5, vI v3), (0, vR 0), (1, vI p1), (2, vI p2), (3, vI p3), (4, vI p4), (6, vI p6)]) G dX9_ruled_189 (by decide) rfl ?_
  refine x_iincL (j := 6) G dX9_ruled_191 rfl (by decide) H (fun v4 hv4 H => x_ls (ls' := [(6, vI v4), (5, vI v3), (0, vR 0), (1, vI p1), (2, vI p2), (3, vI p3), (4, vI p4)]) rfl ?_)
  refine x_goto (tgt := 53) G dX9_ruled_194 (by decide) ?_
  exact x_subp (ls' := [(0, vR 0), (1, vI p1), (2, vI p2), (3, vI p3), (4, vI p4), (5, vI v3), (6, vI v4)]) [2, 3, 4, 5, 6, 1, 0] rfl (K53 H)
def fX9_ruled_117 (k35 : Int → Int → Int → Int → Mem → Option Mem) (k53 : Int → Int → Int → Int → Int → Int → Mem → Option Mem) (p1 : Int) (p2 : Int) (p3 : Int) (p4 : Int) (p5 : Int) (p6 : Int) (t0 : Int) (s : Mem) : Option Mem :=
  if t0 = 0 then
    lt' (w32 (p6 + 1)) fun v2 =>
    k53 p1 p2 p3 p4 p5 v2 s
  else
    (rdI s 5 p6).bind fun x3 =>
    if x3 = 24 then
      (wrI s 5 p6 p4).bind fun s6 =>
      if p1 = 3 then
        b2 (fX9_openest p6 p4 s6) fun r10 s11 =>
        fX9_ruled_173 k35 k53 p1 p2 p3 p4 p5 p6 p6 r10 s11
      else
        b2 (fX9_nearest p6 s6) fun r8 s9 =>
        fX9_ruled_173 k35 k53 p1 p2 p3 p4 p5 p6 p6 r8 s9
    else
      lt' (w32 (p6 + 1)) fun v5 =>
      k53 p1 p2 p3 p4 p5 v5 s
set_option maxHeartbeats 4000000 in
theorem tX9_ruled_117 {E : En} {b : Bn} {sf : Mem} {k35 : Int → Int → Int → Int → Mem → Option Mem} {k53 : Int → Int → Int → Int → Int → Int → Mem → Option Mem} {p1 : Int} {p2 : Int} {p3 : Int} {p4 : Int} {p5 : Int} {p6 : Int} {t0 : Int} {s : Mem} (G : ab_G E b cX9_ruled 8 RX9 none 5)  (K35 : ∀ {p1 : Int} {p2 : Int} {p3 : Int} {p4 : Int} {s : Mem},  k35 p1 p2 p3 p4 s = some sf → ab_X E b (ab_MQ E b none sf) 8 35 [(0, vR 0), (1, vI p1), (2, vI p2), (3, vI p3), (4, vI p4)] [] s) (K53 : ∀ {p1 : Int} {p2 : Int} {p3 : Int} {p4 : Int} {p5 : Int} {p6 : Int} {s : Mem},  k53 p1 p2 p3 p4 p5 p6 s = some sf → ab_X E b (ab_MQ E b none sf) 8 53 [(0, vR 0), (1, vI p1), (2, vI p2), (3, vI p3), (4, vI p4), (5, vI p5), (6, vI p6)] [] s) (H : fX9_ruled_117 k35 k53 p1 p2 p3 p4 p5 p6 t0 s = some sf) : ab_X E b (ab_MQ E b none sf) 8 117 [(0, vR 0), (1, vI p1), (2, vI p2), (3, vI p3), (4, vI p4), (5, vI p5), (6, vI p6)] [vI t0] s := by
  unfold fX9_ruled_117 at H
  refine x_istore (ls' := [(7, vI t0), (0, vR 0), (1, vI p1), (2, vI p2), (3, vI p3), (4, vI p4), (5, vI p5), (6, vI p6)]) G dX9_ruled_117 (by decide) rfl ?_
  refine x_iload (j := 0) G dX9_ruled_119 rfl ?_
  refine x_if_eq (tgt := 191) G dX9_ruled_121 (by decide) (fun q1 => ?_) (fun q1 => ?_)
  · have H := if_some_t H q1
    refine x_iincL (j := 7) G dX9_ruled_191 rfl (by decide) H (fun v2 hv2 H => x_ls (ls' := [(6, vI v2), (7, vI t0), (0, vR 0), (1, vI p1), (2, vI p2), (3, vI p3), (4, vI p4), (5, vI p5)]) rfl ?_)
    refine x_goto (tgt := 53) G dX9_ruled_194 (by decide) ?_
    exact x_subp (ls' := [(0, vR 0), (1, vI p1), (2, vI p2), (3, vI p3), (4, vI p4), (5, vI p5), (6, vI v2)]) [2, 3, 4, 5, 6, 7, 0] rfl (K53 H)
  · have H := if_some_f H q1
    refine x_aload_n (j := 1) G dX9_ruled_124 rfl rfl ?_
    refine gf_886 G sh_0 pt_0_9 dX9_ruled_125 ?_
    refine x_iload (j := 7) G dX9_ruled_128 rfl ?_
    refine x_iald G dX9_ruled_130 H (fun x3 hx3 H => ?_)
    refine x_bipush G dX9_ruled_131 (by decide) (by decide) ?_
    refine x_icmp_ne (tgt := 191) G dX9_ruled_133 (by decide) (fun q4 => ?_) (fun q4 => ?_)
    · have H := if_some_f H q4
      refine x_iincL (j := 7) G dX9_ruled_191 rfl (by decide) H (fun v5 hv5 H => x_ls (ls' := [(6, vI v5), (7, vI t0), (0, vR 0), (1, vI p1), (2, vI p2), (3, vI p3), (4, vI p4), (5, vI p5)]) rfl ?_)
      refine x_goto (tgt := 53) G dX9_ruled_194 (by decide) ?_
      exact x_subp (ls' := [(0, vR 0), (1, vI p1), (2, vI p2), (3, vI p3), (4, vI p4), (5, vI p5), (6, vI v5)]) [2, 3, 4, 5, 6, 7, 0] rfl (K53 H)
    · have H := if_some_t H q4
      refine x_aload_n (j := 1) G dX9_ruled_136 rfl rfl ?_
      refine gf_886 G sh_0 pt_0_9 dX9_ruled_137 ?_
      refine x_iload (j := 7) G dX9_ruled_140 rfl ?_
      refine x_iload (j := 5) G dX9_ruled_142 rfl ?_
      refine x_iast G dX9_ruled_144 H (fun s6 hs6 H => ?_)
      refine x_aload_n (j := 1) G dX9_ruled_145 rfl rfl ?_
      refine gf_887 G sh_0 pt_0_10 dX9_ruled_146 ?_
      refine x_iload (j := 7) G dX9_ruled_149 rfl ?_
      refine x_iload_n (j := 2) G dX9_ruled_151 rfl rfl ?_
      refine x_iconst G dX9_ruled_152 (by decide) ?_
      refine x_icmp_ne (tgt := 167) G dX9_ruled_153 (by decide) (fun q7 => ?_) (fun q7 => ?_)
      · have H := if_some_f H q7
        refine x_aload_n (j := 1) G dX9_ruled_167 rfl rfl ?_
        refine x_iload (j := 7) G dX9_ruled_168 rfl ?_
        obtain ⟨r8, s9, c9, H⟩ := b2_some H
        refine cv_1152 (As := [vI p6]) (rest := [vI p6, vR 6]) G (rX9_nearest  c9) sh_0 (by omega) rfl rfl (Nat.le_of_ble_eq_true rfl) dX9_ruled_170 ?_
        exact x_subp (ls' := [(0, vR 0), (1, vI p1), (2, vI p2), (3, vI p3), (4, vI p4), (5, vI p5), (6, vI p6)]) [1, 2, 3, 4, 5, 6, 7] rfl (tX9_ruled_173 G  K35 K53 H)
      · have H := if_some_t H q7
        refine x_aload_n (j := 1) G dX9_ruled_156 rfl rfl ?_
        refine x_iload (j := 7) G dX9_ruled_157 rfl ?_
        refine x_iload (j := 5) G dX9_ruled_159 rfl ?_
        obtain ⟨r10, s11, c11, H⟩ := b2_some H
        refine cv_1144 (As := [vI p6, vI p4]) (rest := [vI p6, vR 6]) G (rX9_openest  c11) sh_0 (by omega) rfl rfl (Nat.le_of_ble_eq_true rfl) dX9_ruled_161 ?_
        refine x_goto (tgt := 173) G dX9_ruled_164 (by decide) ?_
        exact x_subp (ls' := [(0, vR 0), (1, vI p1), (2, vI p2), (3, vI p3), (4, vI p4), (5, vI p5), (6, vI p6)]) [1, 2, 3, 4, 5, 6, 7] rfl (tX9_ruled_173 G  K35 K53 H)
def fX9_ruled_95 (k35 : Int → Int → Int → Int → Mem → Option Mem) (k53 : Int → Int → Int → Int → Int → Int → Mem → Option Mem) (p1 : Int) (p2 : Int) (p3 : Int) (p4 : Int) (p5 : Int) (p6 : Int) (s : Mem) : Option Mem :=
  b2 (fX9_glass p2 p4 s) fun r1 s2 =>
  (rdI s2 2 8).bind fun x3 =>
  if r1 < x3 then
    fX9_ruled_117 k35 k53 p1 p2 p3 p4 p5 p6 0 s2
  else
    fX9_ruled_117 k35 k53 p1 p2 p3 p4 p5 p6 1 s2
set_option maxHeartbeats 4000000 in
theorem tX9_ruled_95 {E : En} {b : Bn} {sf : Mem} {k35 : Int → Int → Int → Int → Mem → Option Mem} {k53 : Int → Int → Int → Int → Int → Int → Mem → Option Mem} {p1 : Int} {p2 : Int} {p3 : Int} {p4 : Int} {p5 : Int} {p6 : Int} {s : Mem} (G : ab_G E b cX9_ruled 8 RX9 none 5)  (K35 : ∀ {p1 : Int} {p2 : Int} {p3 : Int} {p4 : Int} {s : Mem},  k35 p1 p2 p3 p4 s = some sf → ab_X E b (ab_MQ E b none sf) 8 35 [(0, vR 0), (1, vI p1), (2, vI p2), (3, vI p3), (4, vI p4)] [] s) (K53 : ∀ {p1 : Int} {p2 : Int} {p3 : Int} {p4 : Int} {p5 : Int} {p6 : Int} {s : Mem},  k53 p1 p2 p3 p4 p5 p6 s = some sf → ab_X E b (ab_MQ E b none sf) 8 53 [(0, vR 0), (1, vI p1), (2, vI p2), (3, vI p3), (4, vI p4), (5, vI p5), (6, vI p6)] [] s) (H : fX9_ruled_95 k35 k53 p1 p2 p3 p4 p5 p6 s = some sf) : ab_X E b (ab_MQ E b none sf) 8 95 [(0, vR 0), (1, vI p1), (2, vI p2), (3, vI p3), (4, vI p4), (5, vI p5), (6, vI p6)] [] s := by
  unfold fX9_ruled_95 at H
  refine x_aload_n (j := 0) G dX9_ruled_95 rfl rfl ?_
  refine x_iload_n (j := 2) G dX9_ruled_96 rfl rfl ?_
  refine x_iload (j := 4) G dX9_ruled_97 rfl ?_
  obtain ⟨r1, s2, c2, H⟩ := b2_some H
  refine cv_1010 (As := [vI p2, vI p4]) (rest := []) G (rX9_glass  c2) sh_0 (by omega) rfl rfl (Nat.le_of_ble_eq_true rfl) dX9_ruled_99 ?_
  refine x_aload_n (j := 0) G dX9_ruled_102 rfl rfl ?_
  refine gf_879 G sh_0 pt_0_2 dX9_ruled_103 ?_
  refine x_bipush G dX9_ruled_106 (by decide) (by decide) ?_
  refine x_iald G dX9_ruled_108 H (fun x3 hx3 H => ?_)
  refine x_icmp_lt (tgt := 116) G dX9_ruled_109 (by decide) (fun q4 => ?_) (fun q4 => ?_)
  · have H := if_some_t H q4
    refine x_iconst G dX9_ruled_116 (by decide) ?_
    exact x_subp (ls' := [(0, vR 0), (1, vI p1), (2, vI p2), (3, vI p3), (4, vI p4), (5, vI p5), (6, vI p6)]) [0, 1, 2, 3, 4, 5, 6] rfl (tX9_ruled_117 G  K35 K53 H)
  · have H := if_some_f H q4
    refine x_iconst G dX9_ruled_112 (by decide) ?_
    refine x_goto (tgt := 117) G dX9_ruled_113 (by decide) ?_
    exact x_subp (ls' := [(0, vR 0), (1, vI p1), (2, vI p2), (3, vI p3), (4, vI p4), (5, vI p5), (6, vI p6)]) [0, 1, 2, 3, 4, 5, 6] rfl (tX9_ruled_117 G  K35 K53 H)
def fX9_ruled_53 (k35 : Int → Int → Int → Int → Mem → Option Mem) : Nat → Int → Int → Int → Int → Int → Int → Mem → Option Mem
  | 0, _, _, _, _, _, _, _ => none
  | n + 1, p1, p2, p3, p4, p5, p6, s =>
  (rdI s 1 184).bind fun x1 =>
  if x1 ≤ p6 then
    lt' (w32 (p3 + p5)) fun v3 =>
    lt' (w32 (p4 + 1)) fun v4 =>
    k35 p1 p2 v3 v4 s
  else
    if p1 = 2 then
      if p6 ≤ 0 then
        fX9_ruled_95 k35 (fun p1 p2 p3 p4 p5 p6 s => fX9_ruled_53 k35 n p1 p2 p3 p4 p5 p6 s) p1 p2 p3 p4 p5 p6 s
      else
        (rdI s 2 9).bind fun x7 =>
        if p3 < x7 then
          fX9_ruled_117 k35 (fun p1 p2 p3 p4 p5 p6 s => fX9_ruled_53 k35 n p1 p2 p3 p4 p5 p6 s) p1 p2 p3 p4 p5 p6 0 s
        else
          fX9_ruled_117 k35 (fun p1 p2 p3 p4 p5 p6 s => fX9_ruled_53 k35 n p1 p2 p3 p4 p5 p6 s) p1 p2 p3 p4 p5 p6 1 s
    else
      fX9_ruled_95 k35 (fun p1 p2 p3 p4 p5 p6 s => fX9_ruled_53 k35 n p1 p2 p3 p4 p5 p6 s) p1 p2 p3 p4 p5 p6 s
set_option maxHeartbeats 4000000 in
theorem tX9_ruled_53 {E : En} {b : Bn} {sf : Mem} {k35 : Int → Int → Int → Int → Mem → Option Mem} (G : ab_G E b cX9_ruled 8 RX9 none 5) (K35 : ∀ {p1 : Int} {p2 : Int} {p3 : Int} {p4 : Int} {s : Mem},  k35 p1 p2 p3 p4 s = some sf → ab_X E b (ab_MQ E b none sf) 8 35 [(0, vR 0), (1, vI p1), (2, vI p2), (3, vI p3), (4, vI p4)] [] s) : ∀ (n : Nat) {p1 : Int} {p2 : Int} {p3 : Int} {p4 : Int} {p5 : Int} {p6 : Int} {s : Mem}, fX9_ruled_53 k35 n p1 p2 p3 p4 p5 p6 s = some sf → ab_X E b (ab_MQ E b none sf) 8 53 [(0, vR 0), (1, vI p1), (2, vI p2), (3, vI p3), (4, vI p4), (5, vI p5), (6, vI p6)] [] s := by
  intro n
  induction n with
  | zero => intro p1 p2 p3 p4 p5 p6 s H; rw [fX9_ruled_53] at H; cases H
  | succ n ih =>
    intro p1 p2 p3 p4 p5 p6 s H
    rw [fX9_ruled_53] at H
    refine x_iload (j := 6) G dX9_ruled_53 rfl ?_
    refine x_aload_n (j := 0) G dX9_ruled_55 rfl rfl ?_
    refine gf_878 G sh_0 pt_0_1 dX9_ruled_56 ?_
    refine x_sipush G dX9_ruled_59 (by decide) (by decide) ?_
    refine x_iald G dX9_ruled_62 H (fun x1 hx1 H => ?_)
    refine x_icmp_ge (tgt := 197) G dX9_ruled_63 (by decide) (fun q2 => ?_) (fun q2 => ?_)
    · have H := if_some_t H q2
      refine x_iload_n (j := 3) G dX9_ruled_197 rfl rfl ?_
      refine x_iload (j := 5) G dX9_ruled_198 rfl ?_
      refine x_iadd G dX9_ruled_200 ?_
      refine x_let H (fun v3 hv3 H => ?_)
      refine x_istore_n (ls' := [(3, vI v3), (0, vR 0), (1, vI p1), (2, vI p2), (4, vI p4), (5, vI p5), (6, vI p6)]) G dX9_ruled_201 rfl (by decide) rfl ?_
      refine x_iincL (j := 4) G dX9_ruled_202 rfl (by decide) H (fun v4 hv4 H => x_ls (ls' := [(4, vI v4), (3, vI v3), (0, vR 0), (1, vI p1), (2, vI p2), (5, vI p5), (6, vI p6)]) rfl ?_)
      refine x_goto (tgt := 35) G dX9_ruled_205 (by decide) ?_
      exact x_subp (ls' := [(0, vR 0), (1, vI p1), (2, vI p2), (3, vI v3), (4, vI v4)]) [2, 3, 4, 1, 0] rfl (K35 H)
    · have H := if_some_f H q2
      refine x_iload_n (j := 1) G dX9_ruled_66 rfl rfl ?_
      refine x_iconst G dX9_ruled_67 (by decide) ?_
      refine x_icmp_ne (tgt := 95) G dX9_ruled_68 (by decide) (fun q5 => ?_) (fun q5 => ?_)
      · have H := if_some_f H q5
        exact x_subp (ls' := [(0, vR 0), (1, vI p1), (2, vI p2), (3, vI p3), (4, vI p4), (5, vI p5), (6, vI p6)]) [0, 1, 2, 3, 4, 5, 6] rfl (tX9_ruled_95 G  K35 ih H)
      · have H := if_some_t H q5
        refine x_iload (j := 6) G dX9_ruled_71 rfl ?_
        refine x_if_le (tgt := 95) G dX9_ruled_73 (by decide) (fun q6 => ?_) (fun q6 => ?_)
        · have H := if_some_t H q6
          exact x_subp (ls' := [(0, vR 0), (1, vI p1), (2, vI p2), (3, vI p3), (4, vI p4), (5, vI p5), (6, vI p6)]) [0, 1, 2, 3, 4, 5, 6] rfl (tX9_ruled_95 G  K35 ih H)
        · have H := if_some_f H q6
          refine x_iload_n (j := 3) G dX9_ruled_76 rfl rfl ?_
          refine x_aload_n (j := 0) G dX9_ruled_77 rfl rfl ?_
          refine gf_879 G sh_0 pt_0_2 dX9_ruled_78 ?_
          refine x_bipush G dX9_ruled_81 (by decide) (by decide) ?_
          refine x_iald G dX9_ruled_83 H (fun x7 hx7 H => ?_)
          refine x_icmp_lt (tgt := 91) G dX9_ruled_84 (by decide) (fun q8 => ?_) (fun q8 => ?_)
          · have H := if_some_t H q8
            refine x_iconst G dX9_ruled_91 (by decide) ?_
            refine x_goto (tgt := 117) G dX9_ruled_92 (by decide) ?_
            exact x_subp (ls' := [(0, vR 0), (1, vI p1), (2, vI p2), (3, vI p3), (4, vI p4), (5, vI p5), (6, vI p6)]) [0, 1, 2, 3, 4, 5, 6] rfl (tX9_ruled_117 G  K35 ih H)
          · have H := if_some_f H q8
            refine x_iconst G dX9_ruled_87 (by decide) ?_
            refine x_goto (tgt := 117) G dX9_ruled_88 (by decide) ?_
            exact x_subp (ls' := [(0, vR 0), (1, vI p1), (2, vI p2), (3, vI p3), (4, vI p4), (5, vI p5), (6, vI p6)]) [0, 1, 2, 3, 4, 5, 6] rfl (tX9_ruled_117 G  K35 ih H)
def fX9_ruled_35  : Nat → Int → Int → Int → Int → Mem → Option Mem
  | 0, _, _, _, _, _ => none
  | n + 1, p1, p2, p3, p4, s =>
  if 24 ≤ p4 then
    some s
  else
    if 4 ≤ p1 then
      some s
    else
      fX9_ruled_53 (fun p1 p2 p3 p4 s => fX9_ruled_35 n p1 p2 p3 p4 s) 600 p1 p2 p3 p4 0 0 s
set_option maxHeartbeats 4000000 in
theorem tX9_ruled_35 {E : En} {b : Bn} {sf : Mem}  (G : ab_G E b cX9_ruled 8 RX9 none 5)  : ∀ (n : Nat) {p1 : Int} {p2 : Int} {p3 : Int} {p4 : Int} {s : Mem}, fX9_ruled_35 n p1 p2 p3 p4 s = some sf → ab_X E b (ab_MQ E b none sf) 8 35 [(0, vR 0), (1, vI p1), (2, vI p2), (3, vI p3), (4, vI p4)] [] s := by
  intro n
  induction n with
  | zero => intro p1 p2 p3 p4 s H; rw [fX9_ruled_35] at H; cases H
  | succ n ih =>
    intro p1 p2 p3 p4 s H
    rw [fX9_ruled_35] at H
    refine x_iload (j := 4) G dX9_ruled_35 rfl ?_
    refine x_bipush G dX9_ruled_37 (by decide) (by decide) ?_
    refine x_icmp_ge (tgt := 208) G dX9_ruled_39 (by decide) (fun q1 => ?_) (fun q1 => ?_)
    · have H := if_some_t H q1
      cases H
      exact x_vret G dX9_ruled_208
    · have H := if_some_f H q1
      refine x_iload_n (j := 1) G dX9_ruled_42 rfl rfl ?_
      refine x_iconst G dX9_ruled_43 (by decide) ?_
      refine x_icmp_ge (tgt := 208) G dX9_ruled_44 (by decide) (fun q2 => ?_) (fun q2 => ?_)
      · have H := if_some_t H q2
        cases H
        exact x_vret G dX9_ruled_208
      · have H := if_some_f H q2
        refine x_iconst G dX9_ruled_47 (by decide) ?_
        refine x_istore (ls' := [(5, vI 0), (0, vR 0), (1, vI p1), (2, vI p2), (3, vI p3), (4, vI p4)]) G dX9_ruled_48 (by decide) rfl ?_
        refine x_iconst G dX9_ruled_50 (by decide) ?_
        refine x_istore (ls' := [(6, vI 0), (5, vI 0), (0, vR 0), (1, vI p1), (2, vI p2), (3, vI p3), (4, vI p4)]) G dX9_ruled_51 (by decide) rfl ?_
        exact x_subp (ls' := [(0, vR 0), (1, vI p1), (2, vI p2), (3, vI p3), (4, vI p4), (5, vI 0), (6, vI 0)]) [2, 3, 4, 5, 6, 1, 0] rfl (tX9_ruled_53 G ih 600 H)
def fX9_ruled_11  : Nat → Int → Int → Int → Mem → Option Mem
  | 0, _, _, _, _ => none
  | n + 1, p1, p2, p3, s =>
  if 4 ≤ p3 then
    fX9_ruled_35 600 p1 p2 0 0 s
  else
    (wrI s 5 p3 24).bind fun s2 =>
    lt' (w32 (p3 + 1)) fun v3 =>
    fX9_ruled_11 n p1 p2 v3 s2
set_option maxHeartbeats 4000000 in
theorem tX9_ruled_11 {E : En} {b : Bn} {sf : Mem}  (G : ab_G E b cX9_ruled 8 RX9 none 5)  : ∀ (n : Nat) {p1 : Int} {p2 : Int} {p3 : Int} {s : Mem}, fX9_ruled_11 n p1 p2 p3 s = some sf → ab_X E b (ab_MQ E b none sf) 8 11 [(0, vR 0), (1, vI p1), (2, vI p2), (3, vI p3)] [] s := by
  intro n
  induction n with
  | zero => intro p1 p2 p3 s H; rw [fX9_ruled_11] at H; cases H
  | succ n ih =>
    intro p1 p2 p3 s H
    rw [fX9_ruled_11] at H
    refine x_iload_n (j := 3) G dX9_ruled_11 rfl rfl ?_
    refine x_iconst G dX9_ruled_12 (by decide) ?_
    refine x_icmp_ge (tgt := 30) G dX9_ruled_13 (by decide) (fun q1 => ?_) (fun q1 => ?_)
    · have H := if_some_t H q1
      refine x_iconst G dX9_ruled_30 (by decide) ?_
      refine x_istore_n (ls' := [(3, vI 0), (0, vR 0), (1, vI p1), (2, vI p2)]) G dX9_ruled_31 rfl (by decide) rfl ?_
      refine x_iconst G dX9_ruled_32 (by decide) ?_
      refine x_istore (ls' := [(4, vI 0), (3, vI 0), (0, vR 0), (1, vI p1), (2, vI p2)]) G dX9_ruled_33 (by decide) rfl ?_
      exact x_subp (ls' := [(0, vR 0), (1, vI p1), (2, vI p2), (3, vI 0), (4, vI 0)]) [2, 3, 4, 1, 0] rfl (tX9_ruled_35 G 600 H)
    · have H := if_some_f H q1
      refine x_aload_n (j := 0) G dX9_ruled_16 rfl rfl ?_
      refine gf_886 G sh_0 pt_0_9 dX9_ruled_17 ?_
      refine x_iload_n (j := 3) G dX9_ruled_20 rfl rfl ?_
      refine x_bipush G dX9_ruled_21 (by decide) (by decide) ?_
      refine x_iast G dX9_ruled_23 H (fun s2 hs2 H => ?_)
      refine x_iincL (j := 3) G dX9_ruled_24 rfl (by decide) H (fun v3 hv3 H => x_ls (ls' := [(3, vI v3), (0, vR 0), (1, vI p1), (2, vI p2)]) rfl ?_)
      refine x_goto (tgt := 11) G dX9_ruled_27 (by decide) ?_
      exact x_subp (ls' := [(0, vR 0), (1, vI p1), (2, vI p2), (3, vI v3)]) [1, 2, 3, 0] rfl (ih H)
def fX9_ruled (a1 : Int) (a2 : Int) (s : Mem) : Option Mem :=
  (fX9_asPlanned  s).bind fun s2 =>
  if a1 = 0 then
    some s2
  else
    fX9_ruled_11 600 a1 a2 0 s2
set_option maxHeartbeats 4000000 in
theorem rX9_ruled {E : En} {sf : Mem} {a1 : Int} {a2 : Int} {s : Mem}  (H : fX9_ruled a1 a2 s = some sf) : ab_Run E 5 yX9_ruled cX9_ruled 8 none [vR 0, vI a1, vI a2] none s sf := by
  unfold fX9_ruled at H
  refine ab_intro (own := RX9) (by decide +kernel) rfl (Nat.le_of_ble_eq_true rfl) rfl (fun b G => ?_)
  refine x_aload_n (j := 0) G dX9_ruled_0 rfl rfl ?_
  obtain ⟨s2, c2, H⟩ := bd_some H
  refine cv_1063 (As := []) (rest := []) G (rX9_asPlanned  c2) sh_0 (by omega) rfl rfl (Nat.le_of_ble_eq_true rfl) dX9_ruled_1 ?_
  refine x_iload_n (j := 1) G dX9_ruled_4 rfl rfl ?_
  refine x_if_ne (tgt := 9) G dX9_ruled_5 (by decide) (fun q3 => ?_) (fun q3 => ?_)
  · have H := if_some_f H q3
    refine x_iconst G dX9_ruled_9 (by decide) ?_
    refine x_istore_n (ls' := [(3, vI 0), (0, vR 0), (1, vI a1), (2, vI a2)]) G dX9_ruled_10 rfl (by decide) rfl ?_
    exact x_subp (ls' := [(0, vR 0), (1, vI a1), (2, vI a2), (3, vI 0)]) [1, 2, 3, 0] rfl (tX9_ruled_11 G 600 H)
  · have H := if_some_t H q3
    cases H
    exact x_vret G dX9_ruled_8
def fX9_isRule (a0 : Int) (s : Mem) : Option (Int × Mem) :=
  b2 (fX9_isIn a0 0 4 s) fun r1 s2 =>
  ck (r1 = 0 ∨ r1 = 1) <| some (r1, s2)
set_option maxHeartbeats 4000000 in
theorem rX9_isRule {E : En} {xf : Int} {sf : Mem} {a0 : Int} {s : Mem}  (H : fX9_isRule a0 s = some (xf, sf)) : ab_Run E 1 yX9_isRule cX9_isRule 1 (some .boolean) [vI a0] (some (vI xf)) s sf := by
  unfold fX9_isRule at H
  refine ab_intro (own := RX9) (by decide +kernel) rfl (Nat.le_of_ble_eq_true rfl) rfl (fun b G => ?_)
  refine x_iload_n (j := 0) G dX9_isRule_0 rfl rfl ?_
  refine x_iconst G dX9_isRule_1 (by decide) ?_
  refine x_iconst G dX9_isRule_2 (by decide) ?_
  obtain ⟨r1, s2, c2, H⟩ := b2_some H
  refine cs_946 (As := [vI a0, vI 0, vI 4]) (rest := []) G (rX9_isIn  c2) (by omega) rfl rfl (Nat.le_of_ble_eq_true rfl) dX9_isRule_3 ?_
  obtain ⟨h01, H⟩ := ck_some H
  cases H
  exact x_zret G h01 dX9_isRule_6
def fX9_by_21  : Nat → Int → Int → Int → Mem → Option (Int × Mem)
  | 0, _, _, _, _ => none
  | n + 1, p1, p2, p4, s =>
  (rdI s 1 185).bind fun x1 =>
  if x1 ≤ p4 then
    some (p2, s)
  else
    b2 (fX9_isThought p4 s) fun r3 s4 =>
    if r3 = 0 then
      lt' (w32 (p4 + 1)) fun v6 =>
      fX9_by_21 n p1 p2 v6 s4
    else
      (fX9_ruled p1 p4 s4).bind fun s8 =>
      b2 (fX9_tenths p4 s8) fun r9 s10 =>
      b2 (fX9_goesBy p4 0 s10) fun r11 s12 =>
      lt' (w64 (p2 + (w64 (r9 * r11)))) fun v13 =>
      lt' (w32 (p4 + 1)) fun v14 =>
      fX9_by_21 n p1 v13 v14 s12
set_option maxHeartbeats 4000000 in
theorem tX9_by_21 {E : En} {b : Bn} {xf : Int} {sf : Mem}  (G : ab_G E b cX9_by 5 RX9 (some .long) 6)  : ∀ (n : Nat) {p1 : Int} {p2 : Int} {p4 : Int} {s : Mem}, fX9_by_21 n p1 p2 p4 s = some (xf, sf) → ab_X E b (ab_MQ E b (some (vL xf)) sf) 5 21 [(0, vR 0), (1, vI p1), (2, vL p2), (4, vI p4)] [] s := by
  intro n
  induction n with
  | zero => intro p1 p2 p4 s H; rw [fX9_by_21] at H; cases H
  | succ n ih =>
    intro p1 p2 p4 s H
    rw [fX9_by_21] at H
    refine x_iload (j := 3) G dX9_by_21 rfl ?_
    refine x_aload_n (j := 0) G dX9_by_23 rfl rfl ?_
    refine gf_878 G sh_0 pt_0_1 dX9_by_24 ?_
    refine x_sipush G dX9_by_27 (by decide) (by decide) ?_
    refine x_iald G dX9_by_30 H (fun x1 hx1 H => ?_)
    refine x_icmp_ge (tgt := 74) G dX9_by_31 (by decide) (fun q2 => ?_) (fun q2 => ?_)
    · have H := if_some_t H q2
      refine x_lload_n (j := 2) G dX9_by_74 rfl rfl ?_
      cases H
      exact x_lret G dX9_by_75
    · have H := if_some_f H q2
      refine x_aload_n (j := 0) G dX9_by_34 rfl rfl ?_
      refine x_iload (j := 3) G dX9_by_35 rfl ?_
      obtain ⟨r3, s4, c4, H⟩ := b2_some H
      refine cv_1109 (As := [vI p4]) (rest := []) G (rX9_isThought  c4) sh_0 (by omega) rfl rfl (Nat.le_of_ble_eq_true rfl) dX9_by_37 ?_
      refine x_if_eq (tgt := 68) G dX9_by_40 (by decide) (fun q5 => ?_) (fun q5 => ?_)
      · have H := if_some_t H q5
        refine x_iincL (j := 3) G dX9_by_68 rfl (by decide) H (fun v6 hv6 H => x_ls (ls' := [(4, vI v6), (0, vR 0), (1, vI p1), (2, vL p2)]) rfl ?_)
        refine x_goto (tgt := 21) G dX9_by_71 (by decide) ?_
        exact x_subp (ls' := [(0, vR 0), (1, vI p1), (2, vL p2), (4, vI v6)]) [1, 2, 3, 0] rfl (ih H)
      · have H := if_some_f H q5
        refine x_aload_n (j := 0) G dX9_by_43 rfl rfl ?_
        refine x_iload_n (j := 1) G dX9_by_44 rfl rfl ?_
        refine x_iload (j := 3) G dX9_by_45 rfl ?_
        obtain ⟨s8, c8, H⟩ := bd_some H
        refine cv_1140 (As := [vI p1, vI p4]) (rest := []) G (rX9_ruled  c8) sh_0 (by omega) rfl rfl (Nat.le_of_ble_eq_true rfl) dX9_by_47 ?_
        refine x_lload_n (j := 2) G dX9_by_50 rfl rfl ?_
        refine x_aload_n (j := 0) G dX9_by_51 rfl rfl ?_
        refine x_iload (j := 3) G dX9_by_52 rfl ?_
        obtain ⟨r9, s10, c10, H⟩ := b2_some H
        refine cv_1113 (As := [vI p4]) (rest := [vL p2]) G (rX9_tenths  c10) sh_0 (by omega) rfl rfl (Nat.le_of_ble_eq_true rfl) dX9_by_54 ?_
        refine x_i2l G dX9_by_57 ?_
        refine x_aload_n (j := 0) G dX9_by_58 rfl rfl ?_
        refine x_iload (j := 3) G dX9_by_59 rfl ?_
        refine x_iconst G dX9_by_61 (by decide) ?_
        obtain ⟨r11, s12, c12, H⟩ := b2_some H
        refine cv_1067 (As := [vI p4, vI 0]) (rest := [vL r9, vL p2]) G (rX9_goesBy  c12) sh_0 (by omega) rfl rfl (Nat.le_of_ble_eq_true rfl) dX9_by_62 ?_
        refine x_lmul G dX9_by_65 ?_
        refine x_ladd G dX9_by_66 ?_
        refine x_letL H (fun v13 hv13 H => ?_)
        refine x_lstore_n (ls' := [(2, vL v13), (0, vR 0), (1, vI p1), (4, vI p4)]) G dX9_by_67 rfl (by decide) rfl ?_
        refine x_iincL (j := 3) G dX9_by_68 rfl (by decide) H (fun v14 hv14 H => x_ls (ls' := [(4, vI v14), (2, vL v13), (0, vR 0), (1, vI p1)]) rfl ?_)
        refine x_goto (tgt := 21) G dX9_by_71 (by decide) ?_
        exact x_subp (ls' := [(0, vR 0), (1, vI p1), (2, vL v13), (4, vI v14)]) [2, 3, 1, 0] rfl (ih H)
def fX9_by (a1 : Int) (s : Mem) : Option (Int × Mem) :=
  lt' (mu s 0 0 0) fun s1 =>
  b2 (fX9_isRule a1 s1) fun r2 s3 =>
  if r2 = 0 then
    some ((-9223372036854775808), s3)
  else
    fX9_by_21 600 a1 0 0 s3
set_option maxHeartbeats 4000000 in
theorem rX9_by {E : En} {xf : Int} {sf : Mem} {a1 : Int} {s : Mem}  (H : fX9_by a1 s = some (xf, sf)) : ab_Run E 6 yX9_by cX9_by 5 (some .long) [vR 0, vI a1] (some (vL xf)) s sf := by
  unfold fX9_by at H
  refine ab_intro (own := RX9) (by decide +kernel) rfl (Nat.le_of_ble_eq_true rfl) rfl (fun b G => ?_)
  refine x_aload_n (j := 0) G dX9_by_0 rfl rfl ?_
  refine x_iconst G dX9_by_1 (by decide) ?_
  refine pf_877 G sh_0 pt_0_0 dX9_by_2 H (fun s1 hs1 H => ?_)
  refine x_iload_n (j := 1) G dX9_by_5 rfl rfl ?_
  obtain ⟨r2, s3, c3, H⟩ := b2_some H
  refine cs_1137 (As := [vI a1]) (rest := []) G (rX9_isRule  c3) (by omega) rfl rfl (Nat.le_of_ble_eq_true rfl) dX9_by_6 ?_
  refine x_if_ne (tgt := 16) G dX9_by_9 (by decide) (fun q4 => ?_) (fun q4 => ?_)
  · have H := if_some_f H q4
    refine x_lconst (x := 0) G dX9_by_16 (by decide) (by decide) ?_
    refine x_lstore_n (ls' := [(2, vL 0), (0, vR 0), (1, vI a1)]) G dX9_by_17 rfl (by decide) rfl ?_
    refine x_iconst G dX9_by_18 (by decide) ?_
    refine x_istore (ls' := [(4, vI 0), (2, vL 0), (0, vR 0), (1, vI a1)]) G dX9_by_19 (by decide) rfl ?_
    exact x_subp (ls' := [(0, vR 0), (1, vI a1), (2, vL 0), (4, vI 0)]) [2, 3, 1, 0] rfl (tX9_by_21 G 600 H)
  · have H := if_some_t H q4
    refine x_ldc2 (x := (-9223372036854775808)) G wd_1062 dX9_by_12 (by decide) (by decide) ?_
    cases H
    exact x_lret G dX9_by_15
def fX9_ran (a1 : Int) (a2 : Int) (a3 : Int) (s : Mem) : Option (Int × Mem) :=
  lt' (mu s 0 0 0) fun s1 =>
  b2 (fX9_isRule a1 s1) fun r2 s3 =>
  if r2 = 0 then
    some ((-1), s3)
  else
    b2 (fX9_isStorm a2 s3) fun r5 s6 =>
    if r5 = 0 then
      some ((-1), s6)
    else
      b2 (fX9_isSort a3 s6) fun r8 s9 =>
      if r8 = 0 then
        some ((-1), s9)
      else
        (fX9_ruled a1 a2 s9).bind fun s12 =>
        (rdI s12 5 a3).bind fun x13 =>
        if x13 = 24 then
          some (240, s12)
        else
          (rdI s12 5 a3).bind fun x15 =>
          (rdI s12 6 a3).bind fun x16 =>
          some (w32 ((w32 (10 * x15)) + x16), s12)
set_option maxHeartbeats 4000000 in
theorem rX9_ran {E : En} {xf : Int} {sf : Mem} {a1 : Int} {a2 : Int} {a3 : Int} {s : Mem}  (H : fX9_ran a1 a2 a3 s = some (xf, sf)) : ab_Run E 6 yX9_ran cX9_ran 4 (some .int) [vR 0, vI a1, vI a2, vI a3] (some (vI xf)) s sf := by
  unfold fX9_ran at H
  refine ab_intro (own := RX9) (by decide +kernel) rfl (Nat.le_of_ble_eq_true rfl) rfl (fun b G => ?_)
  refine x_aload_n (j := 0) G dX9_ran_0 rfl rfl ?_
  refine x_iconst G dX9_ran_1 (by decide) ?_
  refine pf_877 G sh_0 pt_0_0 dX9_ran_2 H (fun s1 hs1 H => ?_)
  refine x_iload_n (j := 1) G dX9_ran_5 rfl rfl ?_
  obtain ⟨r2, s3, c3, H⟩ := b2_some H
  refine cs_1137 (As := [vI a1]) (rest := []) G (rX9_isRule  c3) (by omega) rfl rfl (Nat.le_of_ble_eq_true rfl) dX9_ran_6 ?_
  refine x_if_eq (tgt := 28) G dX9_ran_9 (by decide) (fun q4 => ?_) (fun q4 => ?_)
  · have H := if_some_t H q4
    refine x_iconst G dX9_ran_28 (by decide) ?_
    cases H
    exact x_iret G dX9_ran_29
  · have H := if_some_f H q4
    refine x_aload_n (j := 0) G dX9_ran_12 rfl rfl ?_
    refine x_iload_n (j := 2) G dX9_ran_13 rfl rfl ?_
    obtain ⟨r5, s6, c6, H⟩ := b2_some H
    refine cv_1002 (As := [vI a2]) (rest := []) G (rX9_isStorm  c6) sh_0 (by omega) rfl rfl (Nat.le_of_ble_eq_true rfl) dX9_ran_14 ?_
    refine x_if_eq (tgt := 28) G dX9_ran_17 (by decide) (fun q7 => ?_) (fun q7 => ?_)
    · have H := if_some_t H q7
      refine x_iconst G dX9_ran_28 (by decide) ?_
      cases H
      exact x_iret G dX9_ran_29
    · have H := if_some_f H q7
      refine x_aload_n (j := 0) G dX9_ran_20 rfl rfl ?_
      refine x_iload_n (j := 3) G dX9_ran_21 rfl rfl ?_
      obtain ⟨r8, s9, c9, H⟩ := b2_some H
      refine cv_1030 (As := [vI a3]) (rest := []) G (rX9_isSort  c9) sh_0 (by omega) rfl rfl (Nat.le_of_ble_eq_true rfl) dX9_ran_22 ?_
      refine x_if_ne (tgt := 30) G dX9_ran_25 (by decide) (fun q10 => ?_) (fun q10 => ?_)
      · have H := if_some_f H q10
        refine x_aload_n (j := 0) G dX9_ran_30 rfl rfl ?_
        refine x_iload_n (j := 1) G dX9_ran_31 rfl rfl ?_
        refine x_iload_n (j := 2) G dX9_ran_32 rfl rfl ?_
        obtain ⟨s12, c12, H⟩ := bd_some H
        refine cv_1140 (As := [vI a1, vI a2]) (rest := []) G (rX9_ruled  c12) sh_0 (by omega) rfl rfl (Nat.le_of_ble_eq_true rfl) dX9_ran_33 ?_
        refine x_aload_n (j := 0) G dX9_ran_36 rfl rfl ?_
        refine gf_886 G sh_0 pt_0_9 dX9_ran_37 ?_
        refine x_iload_n (j := 3) G dX9_ran_40 rfl rfl ?_
        refine x_iald G dX9_ran_41 H (fun x13 hx13 H => ?_)
        refine x_bipush G dX9_ran_42 (by decide) (by decide) ?_
        refine x_icmp_ne (tgt := 53) G dX9_ran_44 (by decide) (fun q14 => ?_) (fun q14 => ?_)
        · have H := if_some_f H q14
          refine x_bipush G dX9_ran_53 (by decide) (by decide) ?_
          refine x_aload_n (j := 0) G dX9_ran_55 rfl rfl ?_
          refine gf_886 G sh_0 pt_0_9 dX9_ran_56 ?_
          refine x_iload_n (j := 3) G dX9_ran_59 rfl rfl ?_
          refine x_iald G dX9_ran_60 H (fun x15 hx15 H => ?_)
          refine x_imul G dX9_ran_61 ?_
          refine x_aload_n (j := 0) G dX9_ran_62 rfl rfl ?_
          refine gf_887 G sh_0 pt_0_10 dX9_ran_63 ?_
          refine x_iload_n (j := 3) G dX9_ran_66 rfl rfl ?_
          refine x_iald G dX9_ran_67 H (fun x16 hx16 H => ?_)
          refine x_iadd G dX9_ran_68 ?_
          cases H
          exact x_iret G dX9_ran_69
        · have H := if_some_t H q14
          refine x_sipush G dX9_ran_47 (by decide) (by decide) ?_
          refine x_goto (tgt := 69) G dX9_ran_50 (by decide) ?_
          cases H
          exact x_iret G dX9_ran_69
      · have H := if_some_t H q10
        refine x_iconst G dX9_ran_28 (by decide) ?_
        cases H
        exact x_iret G dX9_ran_29
def fX9_wayOf_108 (k35 : Int → Int → Int → Int → Int → Int → Int → Int → Int → Mem → Option (Int × Mem)) (p1 : Int) (p2 : Int) (p3 : Int) (p4 : Int) (p7 : Int) (p8 : Int) (p9 : Int) (p10 : Int) (t0 : Int) (t1 : Int) (s : Mem) : Option (Int × Mem) :=
  lt' (w64 (t0 + t1)) fun v1 =>
  b2 (fX9_riskOf p1 p2 p10 s) fun r2 s3 =>
  lt' (w32 (w64 (Int.tdiv (w64 (p7 * (w32 (1000 - r2)))) 1000))) fun v4 =>
  lt' (w32 (p10 + 1)) fun v5 =>
  k35 p1 p2 p3 p4 v1 v4 p8 p9 v5 s3
set_option maxHeartbeats 4000000 in
theorem tX9_wayOf_108 {E : En} {b : Bn} {xf : Int} {sf : Mem} {k35 : Int → Int → Int → Int → Int → Int → Int → Int → Int → Mem → Option (Int × Mem)} {p1 : Int} {p2 : Int} {p3 : Int} {p4 : Int} {p7 : Int} {p8 : Int} {p9 : Int} {p10 : Int} {t0 : Int} {t1 : Int} {s : Mem} (G : ab_G E b cX9_wayOf 11 RX9 (some .long) 3)  (K35 : ∀ {p1 : Int} {p2 : Int} {p3 : Int} {p4 : Int} {p5 : Int} {p7 : Int} {p8 : Int} {p9 : Int} {p10 : Int} {s : Mem},  k35 p1 p2 p3 p4 p5 p7 p8 p9 p10 s = some (xf, sf) → ab_X E b (ab_MQ E b (some (vL xf)) sf) 11 35 [(0, vR 0), (1, vI p1), (2, vI p2), (3, vI p3), (4, vI p4), (5, vL p5), (7, vI p7), (8, vI p8), (9, vI p9), (10, vI p10)] [] s) (H : fX9_wayOf_108 k35 p1 p2 p3 p4 p7 p8 p9 p10 t0 t1 s = some (xf, sf)) : ab_X E b (ab_MQ E b (some (vL xf)) sf) 11 108 [(0, vR 0), (1, vI p1), (2, vI p2), (3, vI p3), (4, vI p4), (7, vI p7), (8, vI p8), (9, vI p9), (10, vI p10)] [vL t1, vL t0] s := by
  unfold fX9_wayOf_108 at H
  refine x_ladd G dX9_wayOf_108 ?_
  refine x_letL H (fun v1 hv1 H => ?_)
  refine x_lstore (ls' := [(5, vL v1), (0, vR 0), (1, vI p1), (2, vI p2), (3, vI p3), (4, vI p4), (7, vI p7), (8, vI p8), (9, vI p9), (10, vI p10)]) G dX9_wayOf_109 (by decide) rfl ?_
  refine x_iload (j := 6) G dX9_wayOf_111 rfl ?_
  refine x_i2l G dX9_wayOf_113 ?_
  refine x_sipush G dX9_wayOf_114 (by decide) (by decide) ?_
  refine x_aload_n (j := 1) G dX9_wayOf_117 rfl rfl ?_
  refine x_iload_n (j := 2) G dX9_wayOf_118 rfl rfl ?_
  refine x_iload_n (j := 3) G dX9_wayOf_119 rfl rfl ?_
  refine x_iload (j := 9) G dX9_wayOf_120 rfl ?_
  obtain ⟨r2, s3, c3, H⟩ := b2_some H
  refine cv_1034 (As := [vI p1, vI p2, vI p10]) (rest := [vI 1000, vL p7]) G (rX9_riskOf  c3) sh_0 (by omega) rfl rfl (Nat.le_of_ble_eq_true rfl) dX9_wayOf_122 ?_
  refine x_isub G dX9_wayOf_125 ?_
  refine x_i2l G dX9_wayOf_126 ?_
  refine x_lmul G dX9_wayOf_127 ?_
  refine x_ldc2 (x := 1000) G wd_1084 dX9_wayOf_128 (by decide) (by decide) ?_
  refine x_ldiv G dX9_wayOf_131 (by decide) ?_
  refine x_l2i G dX9_wayOf_132 ?_
  refine x_let H (fun v4 hv4 H => ?_)
  refine x_istore (ls' := [(7, vI v4), (5, vL v1), (0, vR 0), (1, vI p1), (2, vI p2), (3, vI p3), (4, vI p4), (8, vI p8), (9, vI p9), (10, vI p10)]) G dX9_wayOf_133 (by decide) rfl ?_
  refine x_iincL (j := 9) G dX9_wayOf_135 rfl (by decide) H (fun v5 hv5 H => x_ls (ls' := [(10, vI v5), (7, vI v4), (5, vL v1), (0, vR 0), (1, vI p1), (2, vI p2), (3, vI p3), (4, vI p4), (8, vI p8), (9, vI p9)]) rfl ?_)
  refine x_goto (tgt := 35) G dX9_wayOf_138 (by decide) ?_
  exact x_subp (ls' := [(0, vR 0), (1, vI p1), (2, vI p2), (3, vI p3), (4, vI p4), (5, vL v1), (7, vI v4), (8, vI p8), (9, vI p9), (10, vI v5)]) [3, 4, 5, 6, 7, 2, 1, 8, 9, 0] rfl (K35 H)
def fX9_wayOf_71 (k35 : Int → Int → Int → Int → Int → Int → Int → Int → Int → Mem → Option (Int × Mem)) (p1 : Int) (p2 : Int) (p3 : Int) (p4 : Int) (p5 : Int) (p7 : Int) (p8 : Int) (p10 : Int) (t0 : Int) (s : Mem) : Option (Int × Mem) :=
  if t0 = 0 then
    if p3 ≤ p10 then
      fX9_wayOf_108 k35 p1 p2 p3 p4 p7 p8 t0 p10 p5 0 s
    else
      (rdI s 1 (w32 ((w32 (16 + (w32 (5 * p1)))) + 2))).bind fun x4 =>
      fX9_wayOf_108 k35 p1 p2 p3 p4 p7 p8 t0 p10 p5 (w64 (x4 * p7)) s
  else
    lt' (w32 (p10 + 1)) fun v2 =>
    k35 p1 p2 p3 p4 p5 p7 p8 t0 v2 s
set_option maxHeartbeats 4000000 in
theorem tX9_wayOf_71 {E : En} {b : Bn} {xf : Int} {sf : Mem} {k35 : Int → Int → Int → Int → Int → Int → Int → Int → Int → Mem → Option (Int × Mem)} {p1 : Int} {p2 : Int} {p3 : Int} {p4 : Int} {p5 : Int} {p7 : Int} {p8 : Int} {p10 : Int} {t0 : Int} {s : Mem} (G : ab_G E b cX9_wayOf 11 RX9 (some .long) 3)  (K35 : ∀ {p1 : Int} {p2 : Int} {p3 : Int} {p4 : Int} {p5 : Int} {p7 : Int} {p8 : Int} {p9 : Int} {p10 : Int} {s : Mem},  k35 p1 p2 p3 p4 p5 p7 p8 p9 p10 s = some (xf, sf) → ab_X E b (ab_MQ E b (some (vL xf)) sf) 11 35 [(0, vR 0), (1, vI p1), (2, vI p2), (3, vI p3), (4, vI p4), (5, vL p5), (7, vI p7), (8, vI p8), (9, vI p9), (10, vI p10)] [] s) (H : fX9_wayOf_71 k35 p1 p2 p3 p4 p5 p7 p8 p10 t0 s = some (xf, sf)) : ab_X E b (ab_MQ E b (some (vL xf)) sf) 11 71 [(0, vR 0), (1, vI p1), (2, vI p2), (3, vI p3), (4, vI p4), (5, vL p5), (7, vI p7), (8, vI p8), (10, vI p10)] [vI t0] s := by
  unfold fX9_wayOf_71 at H
  refine x_istore (ls' := [(9, vI t0), (0, vR 0), (1, vI p1), (2, vI p2), (3, vI p3), (4, vI p4), (5, vL p5), (7, vI p7), (8, vI p8), (10, vI p10)]) G dX9_wayOf_71 (by decide) rfl ?_
  refine x_iload (j := 0) G dX9_wayOf_73 rfl ?_
  refine x_if_ne (tgt := 135) G dX9_wayOf_75 (by decide) (fun q1 => ?_) (fun q1 => ?_)
  · have H := if_some_f H q1
    refine x_iincL (j := 9) G dX9_wayOf_135 rfl (by decide) H (fun v2 hv2 H => x_ls (ls' := [(10, vI v2), (9, vI t0), (0, vR 0), (1, vI p1), (2, vI p2), (3, vI p3), (4, vI p4), (5, vL p5), (7, vI p7), (8, vI p8)]) rfl ?_)
    refine x_goto (tgt := 35) G dX9_wayOf_138 (by decide) ?_
    exact x_subp (ls' := [(0, vR 0), (1, vI p1), (2, vI p2), (3, vI p3), (4, vI p4), (5, vL p5), (7, vI p7), (8, vI p8), (9, vI t0), (10, vI v2)]) [2, 3, 4, 5, 6, 7, 8, 9, 1, 0] rfl (K35 H)
  · have H := if_some_t H q1
    refine x_lload (j := 6) G dX9_wayOf_78 rfl ?_
    refine x_iload (j := 9) G dX9_wayOf_80 rfl ?_
    refine x_iload_n (j := 4) G dX9_wayOf_82 rfl rfl ?_
    refine x_icmp_ge (tgt := 107) G dX9_wayOf_83 (by decide) (fun q3 => ?_) (fun q3 => ?_)
    · have H := if_some_t H q3
      refine x_lconst (x := 0) G dX9_wayOf_107 (by decide) (by decide) ?_
      exact x_subp (ls' := [(0, vR 0), (1, vI p1), (2, vI p2), (3, vI p3), (4, vI p4), (7, vI p7), (8, vI p8), (9, vI t0), (10, vI p10)]) [1, 2, 3, 4, 5, 7, 8, 0, 9] rfl (tX9_wayOf_108 G  K35 H)
    · have H := if_some_f H q3
      refine x_aload_n (j := 1) G dX9_wayOf_86 rfl rfl ?_
      refine gf_878 G sh_0 pt_0_1 dX9_wayOf_87 ?_
      refine x_bipush G dX9_wayOf_90 (by decide) (by decide) ?_
      refine x_iconst G dX9_wayOf_92 (by decide) ?_
      refine x_iload_n (j := 2) G dX9_wayOf_93 rfl rfl ?_
      refine x_imul G dX9_wayOf_94 ?_
      refine x_iadd G dX9_wayOf_95 ?_
      refine x_iconst G dX9_wayOf_96 (by decide) ?_
      refine x_iadd G dX9_wayOf_97 ?_
      refine x_iald G dX9_wayOf_98 H (fun x4 hx4 H => ?_)
      refine x_i2l G dX9_wayOf_99 ?_
      refine x_iload (j := 7) G dX9_wayOf_100 rfl ?_
      refine x_i2l G dX9_wayOf_102 ?_
      refine x_lmul G dX9_wayOf_103 ?_
      refine x_goto (tgt := 108) G dX9_wayOf_104 (by decide) ?_
      exact x_subp (ls' := [(0, vR 0), (1, vI p1), (2, vI p2), (3, vI p3), (4, vI p4), (7, vI p7), (8, vI p8), (9, vI t0), (10, vI p10)]) [1, 2, 3, 4, 5, 7, 8, 0, 9] rfl (tX9_wayOf_108 G  K35 H)
def fX9_wayOf_66 (k35 : Int → Int → Int → Int → Int → Int → Int → Int → Int → Mem → Option (Int × Mem)) (p1 : Int) (p2 : Int) (p3 : Int) (p4 : Int) (p5 : Int) (p7 : Int) (p8 : Int) (p10 : Int) (s : Mem) : Option (Int × Mem) :=
  fX9_wayOf_71 k35 p1 p2 p3 p4 p5 p7 p8 p10 1 s
set_option maxHeartbeats 4000000 in
theorem tX9_wayOf_66 {E : En} {b : Bn} {xf : Int} {sf : Mem} {k35 : Int → Int → Int → Int → Int → Int → Int → Int → Int → Mem → Option (Int × Mem)} {p1 : Int} {p2 : Int} {p3 : Int} {p4 : Int} {p5 : Int} {p7 : Int} {p8 : Int} {p10 : Int} {s : Mem} (G : ab_G E b cX9_wayOf 11 RX9 (some .long) 3)  (K35 : ∀ {p1 : Int} {p2 : Int} {p3 : Int} {p4 : Int} {p5 : Int} {p7 : Int} {p8 : Int} {p9 : Int} {p10 : Int} {s : Mem},  k35 p1 p2 p3 p4 p5 p7 p8 p9 p10 s = some (xf, sf) → ab_X E b (ab_MQ E b (some (vL xf)) sf) 11 35 [(0, vR 0), (1, vI p1), (2, vI p2), (3, vI p3), (4, vI p4), (5, vL p5), (7, vI p7), (8, vI p8), (9, vI p9), (10, vI p10)] [] s) (H : fX9_wayOf_66 k35 p1 p2 p3 p4 p5 p7 p8 p10 s = some (xf, sf)) : ab_X E b (ab_MQ E b (some (vL xf)) sf) 11 66 [(0, vR 0), (1, vI p1), (2, vI p2), (3, vI p3), (4, vI p4), (5, vL p5), (7, vI p7), (8, vI p8), (10, vI p10)] [] s := by
  unfold fX9_wayOf_66 at H
  refine x_iconst G dX9_wayOf_66 (by decide) ?_
  refine x_goto (tgt := 71) G dX9_wayOf_67 (by decide) ?_
  exact x_subp (ls' := [(0, vR 0), (1, vI p1), (2, vI p2), (3, vI p3), (4, vI p4), (5, vL p5), (7, vI p7), (8, vI p8), (10, vI p10)]) [0, 1, 2, 3, 4, 5, 6, 7, 8] rfl (tX9_wayOf_71 G  K35 H)
def fX9_wayOf_70 (k35 : Int → Int → Int → Int → Int → Int → Int → Int → Int → Mem → Option (Int × Mem)) (p1 : Int) (p2 : Int) (p3 : Int) (p4 : Int) (p5 : Int) (p7 : Int) (p8 : Int) (p10 : Int) (s : Mem) : Option (Int × Mem) :=
  fX9_wayOf_71 k35 p1 p2 p3 p4 p5 p7 p8 p10 0 s
set_option maxHeartbeats 4000000 in
theorem tX9_wayOf_70 {E : En} {b : Bn} {xf : Int} {sf : Mem} {k35 : Int → Int → Int → Int → Int → Int → Int → Int → Int → Mem → Option (Int × Mem)} {p1 : Int} {p2 : Int} {p3 : Int} {p4 : Int} {p5 : Int} {p7 : Int} {p8 : Int} {p10 : Int} {s : Mem} (G : ab_G E b cX9_wayOf 11 RX9 (some .long) 3)  (K35 : ∀ {p1 : Int} {p2 : Int} {p3 : Int} {p4 : Int} {p5 : Int} {p7 : Int} {p8 : Int} {p9 : Int} {p10 : Int} {s : Mem},  k35 p1 p2 p3 p4 p5 p7 p8 p9 p10 s = some (xf, sf) → ab_X E b (ab_MQ E b (some (vL xf)) sf) 11 35 [(0, vR 0), (1, vI p1), (2, vI p2), (3, vI p3), (4, vI p4), (5, vL p5), (7, vI p7), (8, vI p8), (9, vI p9), (10, vI p10)] [] s) (H : fX9_wayOf_70 k35 p1 p2 p3 p4 p5 p7 p8 p10 s = some (xf, sf)) : ab_X E b (ab_MQ E b (some (vL xf)) sf) 11 70 [(0, vR 0), (1, vI p1), (2, vI p2), (3, vI p3), (4, vI p4), (5, vL p5), (7, vI p7), (8, vI p8), (10, vI p10)] [] s := by
  unfold fX9_wayOf_70 at H
  refine x_iconst G dX9_wayOf_70 (by decide) ?_
  exact x_subp (ls' := [(0, vR 0), (1, vI p1), (2, vI p2), (3, vI p3), (4, vI p4), (5, vL p5), (7, vI p7), (8, vI p8), (10, vI p10)]) [0, 1, 2, 3, 4, 5, 6, 7, 8] rfl (tX9_wayOf_71 G  K35 H)
def fX9_wayOf_35  : Nat → Int → Int → Int → Int → Int → Int → Int → Int → Int → Mem → Option (Int × Mem)
  | 0, _, _, _, _, _, _, _, _, _, _ => none
  | n + 1, p1, p2, p3, p4, p5, p7, p8, p9, p10, s =>
  if 24 ≤ p10 then
    (rdI s 1 (w32 ((w32 (16 + (w32 (5 * p1)))) + 3))).bind fun x2 =>
    some (w64 (p5 - (w64 (x2 * (w32 (1000000 - p7))))), s)
  else
    if p9 = 0 then
      if p10 < p8 then
        fX9_wayOf_70 (fun p1 p2 p3 p4 p5 p7 p8 p9 p10 s => fX9_wayOf_35 n p1 p2 p3 p4 p5 p7 p8 p9 p10 s) p1 p2 p3 p4 p5 p7 p8 p10 s
      else
        b2 (fX9_isOpen p4 p2 p10 s) fun r5 s6 =>
        if r5 = 0 then
          fX9_wayOf_70 (fun p1 p2 p3 p4 p5 p7 p8 p9 p10 s => fX9_wayOf_35 n p1 p2 p3 p4 p5 p7 p8 p9 p10 s) p1 p2 p3 p4 p5 p7 p8 p10 s6
        else
          fX9_wayOf_66 (fun p1 p2 p3 p4 p5 p7 p8 p9 p10 s => fX9_wayOf_35 n p1 p2 p3 p4 p5 p7 p8 p9 p10 s) p1 p2 p3 p4 p5 p7 p8 p10 s6
    else
      fX9_wayOf_66 (fun p1 p2 p3 p4 p5 p7 p8 p9 p10 s => fX9_wayOf_35 n p1 p2 p3 p4 p5 p7 p8 p9 p10 s) p1 p2 p3 p4 p5 p7 p8 p10 s
set_option maxHeartbeats 4000000 in
theorem tX9_wayOf_35 {E : En} {b : Bn} {xf : Int} {sf : Mem}  (G : ab_G E b cX9_wayOf 11 RX9 (some .long) 3)  : ∀ (n : Nat) {p1 : Int} {p2 : Int} {p3 : Int} {p4 : Int} {p5 : Int} {p7 : Int} {p8 : Int} {p9 : Int} {p10 : Int} {s : Mem}, fX9_wayOf_35 n p1 p2 p3 p4 p5 p7 p8 p9 p10 s = some (xf, sf) → ab_X E b (ab_MQ E b (some (vL xf)) sf) 11 35 [(0, vR 0), (1, vI p1), (2, vI p2), (3, vI p3), (4, vI p4), (5, vL p5), (7, vI p7), (8, vI p8), (9, vI p9), (10, vI p10)] [] s := by
  intro n
  induction n with
  | zero => intro p1 p2 p3 p4 p5 p7 p8 p9 p10 s H; rw [fX9_wayOf_35] at H; cases H
  | succ n ih =>
    intro p1 p2 p3 p4 p5 p7 p8 p9 p10 s H
    rw [fX9_wayOf_35] at H
    refine x_iload (j := 9) G dX9_wayOf_35 rfl ?_
    refine x_bipush G dX9_wayOf_37 (by decide) (by decide) ?_
    refine x_icmp_ge (tgt := 141) G dX9_wayOf_39 (by decide) (fun q1 => ?_) (fun q1 => ?_)
    · have H := if_some_t H q1
      refine x_lload (j := 5) G dX9_wayOf_141 rfl ?_
      refine x_aload_n (j := 0) G dX9_wayOf_143 rfl rfl ?_
      refine gf_878 G sh_0 pt_0_1 dX9_wayOf_144 ?_
      refine x_bipush G dX9_wayOf_147 (by decide) (by decide) ?_
      refine x_iconst G dX9_wayOf_149 (by decide) ?_
      refine x_iload_n (j := 1) G dX9_wayOf_150 rfl rfl ?_
      refine x_imul G dX9_wayOf_151 ?_
      refine x_iadd G dX9_wayOf_152 ?_
      refine x_iconst G dX9_wayOf_153 (by decide) ?_
      refine x_iadd G dX9_wayOf_154 ?_
      refine x_iald G dX9_wayOf_155 H (fun x2 hx2 H => ?_)
      refine x_i2l G dX9_wayOf_156 ?_
      refine x_ldc (x := 1000000) G wd_1071 dX9_wayOf_157 (by decide) (by decide) ?_
      refine x_iload (j := 6) G dX9_wayOf_159 rfl ?_
      refine x_isub G dX9_wayOf_161 ?_
      refine x_i2l G dX9_wayOf_162 ?_
      refine x_lmul G dX9_wayOf_163 ?_
      refine x_lsub G dX9_wayOf_164 ?_
      cases H
      exact x_lret G dX9_wayOf_165
    · have H := if_some_f H q1
      refine x_iload (j := 8) G dX9_wayOf_42 rfl ?_
      refine x_if_ne (tgt := 66) G dX9_wayOf_44 (by decide) (fun q3 => ?_) (fun q3 => ?_)
      · have H := if_some_f H q3
        exact x_subp (ls' := [(0, vR 0), (1, vI p1), (2, vI p2), (3, vI p3), (4, vI p4), (5, vL p5), (7, vI p7), (8, vI p8), (10, vI p10)]) [0, 1, 2, 3, 4, 5, 6, 7, 9] rfl (tX9_wayOf_66 G  ih H)
      · have H := if_some_t H q3
        refine x_iload (j := 9) G dX9_wayOf_47 rfl ?_
        refine x_iload (j := 7) G dX9_wayOf_49 rfl ?_
        refine x_icmp_lt (tgt := 70) G dX9_wayOf_51 (by decide) (fun q4 => ?_) (fun q4 => ?_)
        · have H := if_some_t H q4
          exact x_subp (ls' := [(0, vR 0), (1, vI p1), (2, vI p2), (3, vI p3), (4, vI p4), (5, vL p5), (7, vI p7), (8, vI p8), (10, vI p10)]) [0, 1, 2, 3, 4, 5, 6, 7, 9] rfl (tX9_wayOf_70 G  ih H)
        · have H := if_some_f H q4
          refine x_aload_n (j := 0) G dX9_wayOf_54 rfl rfl ?_
          refine x_iload (j := 4) G dX9_wayOf_55 rfl ?_
          refine x_iload_n (j := 2) G dX9_wayOf_57 rfl rfl ?_
          refine x_iload (j := 9) G dX9_wayOf_58 rfl ?_
          obtain ⟨r5, s6, c6, H⟩ := b2_some H
          refine cv_1022 (As := [vI p4, vI p2, vI p10]) (rest := []) G (rX9_isOpen  c6) sh_0 (by omega) rfl rfl (Nat.le_of_ble_eq_true rfl) dX9_wayOf_60 ?_
          refine x_if_eq (tgt := 70) G dX9_wayOf_63 (by decide) (fun q7 => ?_) (fun q7 => ?_)
          · have H := if_some_t H q7
            exact x_subp (ls' := [(0, vR 0), (1, vI p1), (2, vI p2), (3, vI p3), (4, vI p4), (5, vL p5), (7, vI p7), (8, vI p8), (10, vI p10)]) [0, 1, 2, 3, 4, 5, 6, 7, 9] rfl (tX9_wayOf_70 G  ih H)
          · have H := if_some_f H q7
            exact x_subp (ls' := [(0, vR 0), (1, vI p1), (2, vI p2), (3, vI p3), (4, vI p4), (5, vL p5), (7, vI p7), (8, vI p8), (10, vI p10)]) [0, 1, 2, 3, 4, 5, 6, 7, 9] rfl (tX9_wayOf_66 G  ih H)
def fX9_wayOf_27  (p1 : Int) (p2 : Int) (p3 : Int) (p4 : Int) (p5 : Int) (p7 : Int) (t0 : Int) (s : Mem) : Option (Int × Mem) :=
  fX9_wayOf_35 600 p1 p2 p3 p4 p5 p7 t0 0 0 s
set_option maxHeartbeats 4000000 in
theorem tX9_wayOf_27 {E : En} {b : Bn} {xf : Int} {sf : Mem}  {p1 : Int} {p2 : Int} {p3 : Int} {p4 : Int} {p5 : Int} {p7 : Int} {t0 : Int} {s : Mem} (G : ab_G E b cX9_wayOf 11 RX9 (some .long) 3)   (H : fX9_wayOf_27 p1 p2 p3 p4 p5 p7 t0 s = some (xf, sf)) : ab_X E b (ab_MQ E b (some (vL xf)) sf) 11 27 [(0, vR 0), (1, vI p1), (2, vI p2), (3, vI p3), (4, vI p4), (5, vL p5), (7, vI p7)] [vI t0] s := by
  unfold fX9_wayOf_27 at H
  refine x_istore (ls' := [(8, vI t0), (0, vR 0), (1, vI p1), (2, vI p2), (3, vI p3), (4, vI p4), (5, vL p5), (7, vI p7)]) G dX9_wayOf_27 (by decide) rfl ?_
  refine x_iconst G dX9_wayOf_29 (by decide) ?_
  refine x_istore (ls' := [(9, vI 0), (8, vI t0), (0, vR 0), (1, vI p1), (2, vI p2), (3, vI p3), (4, vI p4), (5, vL p5), (7, vI p7)]) G dX9_wayOf_30 (by decide) rfl ?_
  refine x_iconst G dX9_wayOf_32 (by decide) ?_
  refine x_istore (ls' := [(10, vI 0), (9, vI 0), (8, vI t0), (0, vR 0), (1, vI p1), (2, vI p2), (3, vI p3), (4, vI p4), (5, vL p5), (7, vI p7)]) G dX9_wayOf_33 (by decide) rfl ?_
  exact x_subp (ls' := [(0, vR 0), (1, vI p1), (2, vI p2), (3, vI p3), (4, vI p4), (5, vL p5), (7, vI p7), (8, vI t0), (9, vI 0), (10, vI 0)]) [3, 4, 5, 6, 7, 8, 9, 2, 1, 0] rfl (tX9_wayOf_35 G 600 H)
def fX9_wayOf (a1 : Int) (a2 : Int) (a3 : Int) (a4 : Int) (s : Mem) : Option (Int × Mem) :=
  if 24 ≤ a3 then
    fX9_wayOf_27 a1 a2 a3 a4 0 1000000 99 s
  else
    b2 (fX9_reachOf a1 a4 a2 a3 s) fun r2 s3 =>
    fX9_wayOf_27 a1 a2 a3 a4 0 1000000 r2 s3
set_option maxHeartbeats 4000000 in
theorem rX9_wayOf {E : En} {xf : Int} {sf : Mem} {a1 : Int} {a2 : Int} {a3 : Int} {a4 : Int} {s : Mem}  (H : fX9_wayOf a1 a2 a3 a4 s = some (xf, sf)) : ab_Run E 3 yX9_wayOf cX9_wayOf 11 (some .long) [vR 0, vI a1, vI a2, vI a3, vI a4] (some (vL xf)) s sf := by
  unfold fX9_wayOf at H
  refine ab_intro (own := RX9) (by decide +kernel) rfl (Nat.le_of_ble_eq_true rfl) rfl (fun b G => ?_)
  refine x_lconst (x := 0) G dX9_wayOf_0 (by decide) (by decide) ?_
  refine x_lstore (ls' := [(5, vL 0), (0, vR 0), (1, vI a1), (2, vI a2), (3, vI a3), (4, vI a4)]) G dX9_wayOf_1 (by decide) rfl ?_
  refine x_ldc (x := 1000000) G wd_1071 dX9_wayOf_3 (by decide) (by decide) ?_
  refine x_istore (ls' := [(7, vI 1000000), (5, vL 0), (0, vR 0), (1, vI a1), (2, vI a2), (3, vI a3), (4, vI a4)]) G dX9_wayOf_5 (by decide) rfl ?_
  refine x_iload_n (j := 5) G dX9_wayOf_7 rfl rfl ?_
  refine x_bipush G dX9_wayOf_8 (by decide) (by decide) ?_
  refine x_icmp_ge (tgt := 25) G dX9_wayOf_10 (by decide) (fun q1 => ?_) (fun q1 => ?_)
  · have H := if_some_t H q1
    refine x_bipush G dX9_wayOf_25 (by decide) (by decide) ?_
    exact x_subp (ls' := [(0, vR 0), (1, vI a1), (2, vI a2), (3, vI a3), (4, vI a4), (5, vL 0), (7, vI 1000000)]) [2, 3, 4, 5, 6, 1, 0] rfl (tX9_wayOf_27 G  H)
  · have H := if_some_f H q1
    refine x_aload_n (j := 2) G dX9_wayOf_13 rfl rfl ?_
    refine x_iload_n (j := 3) G dX9_wayOf_14 rfl rfl ?_
    refine x_iload (j := 6) G dX9_wayOf_15 rfl ?_
    refine x_iload_n (j := 4) G dX9_wayOf_17 rfl rfl ?_
    refine x_iload_n (j := 5) G dX9_wayOf_18 rfl rfl ?_
    obtain ⟨r2, s3, c3, H⟩ := b2_some H
    refine cv_1042 (As := [vI a1, vI a4, vI a2, vI a3]) (rest := []) G (rX9_reachOf  c3) sh_0 (by omega) rfl rfl (Nat.le_of_ble_eq_true rfl) dX9_wayOf_19 ?_
    refine x_goto (tgt := 27) G dX9_wayOf_22 (by decide) ?_
    exact x_subp (ls' := [(0, vR 0), (1, vI a1), (2, vI a2), (3, vI a3), (4, vI a4), (5, vL 0), (7, vI 1000000)]) [2, 3, 4, 5, 6, 1, 0] rfl (tX9_wayOf_27 G  H)
def fX9_running_51 (k6 : Int → Int → Int → Int → Int → Mem → Option (Int × Mem)) (p1 : Int) (p2 : Int) (p3 : Int) (p6 : Int) (t0 : Int) (t1 : Int) (s : Mem) : Option (Int × Mem) :=
  lt' (w64 (t0 + t1)) fun v1 =>
  lt' (w32 (p6 + 1)) fun v2 =>
  k6 p1 p2 p3 v1 v2 s
set_option maxHeartbeats 4000000 in
theorem tX9_running_51 {E : En} {b : Bn} {xf : Int} {sf : Mem} {k6 : Int → Int → Int → Int → Int → Mem → Option (Int × Mem)} {p1 : Int} {p2 : Int} {p3 : Int} {p6 : Int} {t0 : Int} {t1 : Int} {s : Mem} (G : ab_G E b cX9_running 7 RX9 (some .long) 0)  (K6 : ∀ {p1 : Int} {p2 : Int} {p3 : Int} {p4 : Int} {p6 : Int} {s : Mem},  k6 p1 p2 p3 p4 p6 s = some (xf, sf) → ab_X E b (ab_MQ E b (some (vL xf)) sf) 7 6 [(0, vR 0), (1, vI p1), (2, vI p2), (3, vI p3), (4, vL p4), (6, vI p6)] [] s) (H : fX9_running_51 k6 p1 p2 p3 p6 t0 t1 s = some (xf, sf)) : ab_X E b (ab_MQ E b (some (vL xf)) sf) 7 51 [(0, vR 0), (1, vI p1), (2, vI p2), (3, vI p3), (6, vI p6)] [vL t1, vL t0] s := by
  unfold fX9_running_51 at H
  refine x_ladd G dX9_running_51 ?_
  refine x_letL H (fun v1 hv1 H => ?_)
  refine x_lstore (ls' := [(4, vL v1), (0, vR 0), (1, vI p1), (2, vI p2), (3, vI p3), (6, vI p6)]) G dX9_running_52 (by decide) rfl ?_
  refine x_iincL (j := 5) G dX9_running_54 rfl (by decide) H (fun v2 hv2 H => x_ls (ls' := [(6, vI v2), (4, vL v1), (0, vR 0), (1, vI p1), (2, vI p2), (3, vI p3)]) rfl ?_)
  refine x_goto (tgt := 6) G dX9_running_57 (by decide) ?_
  exact x_subp (ls' := [(0, vR 0), (1, vI p1), (2, vI p2), (3, vI p3), (4, vL v1), (6, vI v2)]) [2, 3, 4, 5, 1, 0] rfl (K6 H)
def fX9_running_6  : Nat → Int → Int → Int → Int → Int → Mem → Option (Int × Mem)
  | 0, _, _, _, _, _, _ => none
  | n + 1, p1, p2, p3, p4, p6, s =>
  (rdI s 1 185).bind fun x1 =>
  if x1 ≤ p6 then
    some (p4, s)
  else
    if (andI (shrI p2 p6) 1) = 1 then
      (rdL s 15 (w32 ((w32 ((w32 (120 * p6)) + (w32 (4 * p1)))) + p3))).bind fun x4 =>
      fX9_running_51 (fun p1 p2 p3 p4 p6 s => fX9_running_6 n p1 p2 p3 p4 p6 s) p1 p2 p3 p6 p4 x4 s
    else
      fX9_running_51 (fun p1 p2 p3 p4 p6 s => fX9_running_6 n p1 p2 p3 p4 p6 s) p1 p2 p3 p6 p4 0 s
set_option maxHeartbeats 4000000 in
theorem tX9_running_6 {E : En} {b : Bn} {xf : Int} {sf : Mem}  (G : ab_G E b cX9_running 7 RX9 (some .long) 0)  : ∀ (n : Nat) {p1 : Int} {p2 : Int} {p3 : Int} {p4 : Int} {p6 : Int} {s : Mem}, fX9_running_6 n p1 p2 p3 p4 p6 s = some (xf, sf) → ab_X E b (ab_MQ E b (some (vL xf)) sf) 7 6 [(0, vR 0), (1, vI p1), (2, vI p2), (3, vI p3), (4, vL p4), (6, vI p6)] [] s := by
  intro n
  induction n with
  | zero => intro p1 p2 p3 p4 p6 s H; rw [fX9_running_6] at H; cases H
  | succ n ih =>
    intro p1 p2 p3 p4 p6 s H
    rw [fX9_running_6] at H
    refine x_iload (j := 5) G dX9_running_6 rfl ?_
    refine x_aload_n (j := 0) G dX9_running_8 rfl rfl ?_
    refine gf_878 G sh_0 pt_0_1 dX9_running_9 ?_
    refine x_sipush G dX9_running_12 (by decide) (by decide) ?_
    refine x_iald G dX9_running_15 H (fun x1 hx1 H => ?_)
    refine x_icmp_ge (tgt := 60) G dX9_running_16 (by decide) (fun q2 => ?_) (fun q2 => ?_)
    · have H := if_some_t H q2
      refine x_lload (j := 4) G dX9_running_60 rfl ?_
      cases H
      exact x_lret G dX9_running_62
    · have H := if_some_f H q2
      refine x_lload (j := 4) G dX9_running_19 rfl ?_
      refine x_iload_n (j := 2) G dX9_running_21 rfl rfl ?_
      refine x_iload (j := 5) G dX9_running_22 rfl ?_
      refine x_ishr G dX9_running_24 ?_
      refine x_iconst G dX9_running_25 (by decide) ?_
      refine x_iand G dX9_running_26 ?_
      refine x_iconst G dX9_running_27 (by decide) ?_
      refine x_icmp_ne (tgt := 50) G dX9_running_28 (by decide) (fun q3 => ?_) (fun q3 => ?_)
      · have H := if_some_f H q3
        refine x_lconst (x := 0) G dX9_running_50 (by decide) (by decide) ?_
        exact x_subp (ls' := [(0, vR 0), (1, vI p1), (2, vI p2), (3, vI p3), (6, vI p6)]) [0, 1, 2, 3, 5] rfl (tX9_running_51 G  ih H)
      · have H := if_some_t H q3
        refine x_aload_n (j := 0) G dX9_running_31 rfl rfl ?_
        refine gf_896 G sh_0 pt_0_19 dX9_running_32 ?_
        refine x_bipush G dX9_running_35 (by decide) (by decide) ?_
        refine x_iload (j := 5) G dX9_running_37 rfl ?_
        refine x_imul G dX9_running_39 ?_
        refine x_iconst G dX9_running_40 (by decide) ?_
        refine x_iload_n (j := 1) G dX9_running_41 rfl rfl ?_
        refine x_imul G dX9_running_42 ?_
        refine x_iadd G dX9_running_43 ?_
        refine x_iload_n (j := 3) G dX9_running_44 rfl rfl ?_
        refine x_iadd G dX9_running_45 ?_
        refine x_lald G dX9_running_46 H (fun x4 hx4 H => ?_)
        refine x_goto (tgt := 51) G dX9_running_47 (by decide) ?_
        exact x_subp (ls' := [(0, vR 0), (1, vI p1), (2, vI p2), (3, vI p3), (6, vI p6)]) [0, 1, 2, 3, 5] rfl (tX9_running_51 G  ih H)
def fX9_running (a1 : Int) (a2 : Int) (a3 : Int) (s : Mem) : Option (Int × Mem) :=
  fX9_running_6 600 a1 a2 a3 0 0 s
set_option maxHeartbeats 4000000 in
theorem rX9_running {E : En} {xf : Int} {sf : Mem} {a1 : Int} {a2 : Int} {a3 : Int} {s : Mem}  (H : fX9_running a1 a2 a3 s = some (xf, sf)) : ab_Run E 0 yX9_running cX9_running 7 (some .long) [vR 0, vI a1, vI a2, vI a3] (some (vL xf)) s sf := by
  unfold fX9_running at H
  refine ab_intro (own := RX9) (by decide +kernel) rfl (Nat.le_of_ble_eq_true rfl) rfl (fun b G => ?_)
  refine x_lconst (x := 0) G dX9_running_0 (by decide) (by decide) ?_
  refine x_lstore (ls' := [(4, vL 0), (0, vR 0), (1, vI a1), (2, vI a2), (3, vI a3)]) G dX9_running_1 (by decide) rfl ?_
  refine x_iconst G dX9_running_3 (by decide) ?_
  refine x_istore (ls' := [(6, vI 0), (4, vL 0), (0, vR 0), (1, vI a1), (2, vI a2), (3, vI a3)]) G dX9_running_4 (by decide) rfl ?_
  exact x_subp (ls' := [(0, vR 0), (1, vI a1), (2, vI a2), (3, vI a3), (4, vL 0), (6, vI 0)]) [2, 3, 4, 5, 1, 0] rfl (tX9_running_6 G 600 H)
def fX9_seeing_63 (k5 : Int → Int → Int → Int → Mem → Option (Int × Mem)) (k18 : Int → Int → Int → Int → Int → Int → Mem → Option (Int × Mem)) (p1 : Int) (p2 : Int) (p3 : Int) (p5 : Int) (p7 : Int) (t0 : Int) (t1 : Int) (s : Mem) : Option (Int × Mem) :=
  lt' (orI t0 t1) fun v1 =>
  lt' (w32 (p7 + 1)) fun v2 =>
  k18 p1 p2 p3 p5 v1 v2 s
set_option maxHeartbeats 4000000 in
theorem tX9_seeing_63 {E : En} {b : Bn} {xf : Int} {sf : Mem} {k5 : Int → Int → Int → Int → Mem → Option (Int × Mem)} {k18 : Int → Int → Int → Int → Int → Int → Mem → Option (Int × Mem)} {p1 : Int} {p2 : Int} {p3 : Int} {p5 : Int} {p7 : Int} {t0 : Int} {t1 : Int} {s : Mem} (G : ab_G E b cX9_seeing 8 RX9 (some .long) 1)  (K5 : ∀ {p1 : Int} {p2 : Int} {p3 : Int} {p5 : Int} {s : Mem},  k5 p1 p2 p3 p5 s = some (xf, sf) → ab_X E b (ab_MQ E b (some (vL xf)) sf) 8 5 [(0, vR 0), (1, vI p1), (2, vI p2), (3, vL p3), (5, vI p5)] [] s) (K18 : ∀ {p1 : Int} {p2 : Int} {p3 : Int} {p5 : Int} {p6 : Int} {p7 : Int} {s : Mem},  k18 p1 p2 p3 p5 p6 p7 s = some (xf, sf) → ab_X E b (ab_MQ E b (some (vL xf)) sf) 8 18 [(0, vR 0), (1, vI p1), (2, vI p2), (3, vL p3), (5, vI p5), (6, vI p6), (7, vI p7)] [] s) (H : fX9_seeing_63 k5 k18 p1 p2 p3 p5 p7 t0 t1 s = some (xf, sf)) : ab_X E b (ab_MQ E b (some (vL xf)) sf) 8 63 [(0, vR 0), (1, vI p1), (2, vI p2), (3, vL p3), (5, vI p5), (7, vI p7)] [vI t1, vI t0] s := by
  unfold fX9_seeing_63 at H
  refine x_ior G dX9_seeing_63 ?_
  refine x_let H (fun v1 hv1 H => ?_)
  refine x_istore (ls' := [(6, vI v1), (0, vR 0), (1, vI p1), (2, vI p2), (3, vL p3), (5, vI p5), (7, vI p7)]) G dX9_seeing_64 (by decide) rfl ?_
  refine x_iincL (j := 6) G dX9_seeing_66 rfl (by decide) H (fun v2 hv2 H => x_ls (ls' := [(7, vI v2), (6, vI v1), (0, vR 0), (1, vI p1), (2, vI p2), (3, vL p3), (5, vI p5)]) rfl ?_)
  refine x_goto (tgt := 18) G dX9_seeing_69 (by decide) ?_
  exact x_subp (ls' := [(0, vR 0), (1, vI p1), (2, vI p2), (3, vL p3), (5, vI p5), (6, vI v1), (7, vI v2)]) [2, 3, 4, 5, 6, 1, 0] rfl (K18 H)
def fX9_seeing_62 (k5 : Int → Int → Int → Int → Mem → Option (Int × Mem)) (k18 : Int → Int → Int → Int → Int → Int → Mem → Option (Int × Mem)) (p1 : Int) (p2 : Int) (p3 : Int) (p5 : Int) (p7 : Int) (t0 : Int) (s : Mem) : Option (Int × Mem) :=
  fX9_seeing_63 k5 k18 p1 p2 p3 p5 p7 t0 0 s
set_option maxHeartbeats 4000000 in
theorem tX9_seeing_62 {E : En} {b : Bn} {xf : Int} {sf : Mem} {k5 : Int → Int → Int → Int → Mem → Option (Int × Mem)} {k18 : Int → Int → Int → Int → Int → Int → Mem → Option (Int × Mem)} {p1 : Int} {p2 : Int} {p3 : Int} {p5 : Int} {p7 : Int} {t0 : Int} {s : Mem} (G : ab_G E b cX9_seeing 8 RX9 (some .long) 1)  (K5 : ∀ {p1 : Int} {p2 : Int} {p3 : Int} {p5 : Int} {s : Mem},  k5 p1 p2 p3 p5 s = some (xf, sf) → ab_X E b (ab_MQ E b (some (vL xf)) sf) 8 5 [(0, vR 0), (1, vI p1), (2, vI p2), (3, vL p3), (5, vI p5)] [] s) (K18 : ∀ {p1 : Int} {p2 : Int} {p3 : Int} {p5 : Int} {p6 : Int} {p7 : Int} {s : Mem},  k18 p1 p2 p3 p5 p6 p7 s = some (xf, sf) → ab_X E b (ab_MQ E b (some (vL xf)) sf) 8 18 [(0, vR 0), (1, vI p1), (2, vI p2), (3, vL p3), (5, vI p5), (6, vI p6), (7, vI p7)] [] s) (H : fX9_seeing_62 k5 k18 p1 p2 p3 p5 p7 t0 s = some (xf, sf)) : ab_X E b (ab_MQ E b (some (vL xf)) sf) 8 62 [(0, vR 0), (1, vI p1), (2, vI p2), (3, vL p3), (5, vI p5), (7, vI p7)] [vI t0] s := by
  unfold fX9_seeing_62 at H
  refine x_iconst G dX9_seeing_62 (by decide) ?_
  exact x_subp (ls' := [(0, vR 0), (1, vI p1), (2, vI p2), (3, vL p3), (5, vI p5), (7, vI p7)]) [0, 1, 2, 3, 4, 5] rfl (tX9_seeing_63 G  K5 K18 H)
def fX9_seeing_94 (k5 : Int → Int → Int → Int → Mem → Option (Int × Mem)) (p1 : Int) (p2 : Int) (p5 : Int) (t0 : Int) (t1 : Int) (s : Mem) : Option (Int × Mem) :=
  lt' (w64 (t0 + t1)) fun v1 =>
  lt' (w32 (p5 + 1)) fun v2 =>
  k5 p1 p2 v1 v2 s
set_option maxHeartbeats 4000000 in
theorem tX9_seeing_94 {E : En} {b : Bn} {xf : Int} {sf : Mem} {k5 : Int → Int → Int → Int → Mem → Option (Int × Mem)} {p1 : Int} {p2 : Int} {p5 : Int} {t0 : Int} {t1 : Int} {s : Mem} (G : ab_G E b cX9_seeing 8 RX9 (some .long) 1)  (K5 : ∀ {p1 : Int} {p2 : Int} {p3 : Int} {p5 : Int} {s : Mem},  k5 p1 p2 p3 p5 s = some (xf, sf) → ab_X E b (ab_MQ E b (some (vL xf)) sf) 8 5 [(0, vR 0), (1, vI p1), (2, vI p2), (3, vL p3), (5, vI p5)] [] s) (H : fX9_seeing_94 k5 p1 p2 p5 t0 t1 s = some (xf, sf)) : ab_X E b (ab_MQ E b (some (vL xf)) sf) 8 94 [(0, vR 0), (1, vI p1), (2, vI p2), (5, vI p5)] [vL t1, vL t0] s := by
  unfold fX9_seeing_94 at H
  refine x_ladd G dX9_seeing_94 ?_
  refine x_letL H (fun v1 hv1 H => ?_)
  refine x_lstore_n (ls' := [(3, vL v1), (0, vR 0), (1, vI p1), (2, vI p2), (5, vI p5)]) G dX9_seeing_95 rfl (by decide) rfl ?_
  refine x_iincL (j := 4) G dX9_seeing_96 rfl (by decide) H (fun v2 hv2 H => x_ls (ls' := [(5, vI v2), (3, vL v1), (0, vR 0), (1, vI p1), (2, vI p2)]) rfl ?_)
  refine x_goto (tgt := 5) G dX9_seeing_99 (by decide) ?_
  exact x_subp (ls' := [(0, vR 0), (1, vI p1), (2, vI p2), (3, vL v1), (5, vI v2)]) [2, 3, 4, 1, 0] rfl (K5 H)
def fX9_seeing_18 (k5 : Int → Int → Int → Int → Mem → Option (Int × Mem)) : Nat → Int → Int → Int → Int → Int → Int → Mem → Option (Int × Mem)
  | 0, _, _, _, _, _, _, _ => none
  | n + 1, p1, p2, p3, p5, p6, p7, s =>
  (rdI s 1 185).bind fun x1 =>
  if x1 ≤ p7 then
    if p6 = 0 then
      fX9_seeing_94 k5 p1 p2 p5 p3 0 s
    else
      (rdL s 16 (w32 ((w32 (16 * p1)) + p6))).bind fun x4 =>
      fX9_seeing_94 k5 p1 p2 p5 p3 x4 s
  else
    if (andI (shrI p2 p7) 1) = 1 then
      b2 (fX9_glass p7 p1 s) fun r6 s7 =>
      if r6 = p5 then
        fX9_seeing_63 k5 (fun p1 p2 p3 p5 p6 p7 s => fX9_seeing_18 k5 n p1 p2 p3 p5 p6 p7 s) p1 p2 p3 p5 p7 p6 (shlI 1 p7) s7
      else
        fX9_seeing_62 k5 (fun p1 p2 p3 p5 p6 p7 s => fX9_seeing_18 k5 n p1 p2 p3 p5 p6 p7 s) p1 p2 p3 p5 p7 p6 s7
    else
      fX9_seeing_62 k5 (fun p1 p2 p3 p5 p6 p7 s => fX9_seeing_18 k5 n p1 p2 p3 p5 p6 p7 s) p1 p2 p3 p5 p7 p6 s
set_option maxHeartbeats 4000000 in
theorem tX9_seeing_18 {E : En} {b : Bn} {xf : Int} {sf : Mem} {k5 : Int → Int → Int → Int → Mem → Option (Int × Mem)} (G : ab_G E b cX9_seeing 8 RX9 (some .long) 1) (K5 : ∀ {p1 : Int} {p2 : Int} {p3 : Int} {p5 : Int} {s : Mem},  k5 p1 p2 p3 p5 s = some (xf, sf) → ab_X E b (ab_MQ E b (some (vL xf)) sf) 8 5 [(0, vR 0), (1, vI p1), (2, vI p2), (3, vL p3), (5, vI p5)] [] s) : ∀ (n : Nat) {p1 : Int} {p2 : Int} {p3 : Int} {p5 : Int} {p6 : Int} {p7 : Int} {s : Mem}, fX9_seeing_18 k5 n p1 p2 p3 p5 p6 p7 s = some (xf, sf) → ab_X E b (ab_MQ E b (some (vL xf)) sf) 8 18 [(0, vR 0), (1, vI p1), (2, vI p2), (3, vL p3), (5, vI p5), (6, vI p6), (7, vI p7)] [] s := by
  intro n
  induction n with
  | zero => intro p1 p2 p3 p5 p6 p7 s H; rw [fX9_seeing_18] at H; cases H
  | succ n ih =>
    intro p1 p2 p3 p5 p6 p7 s H
    rw [fX9_seeing_18] at H
    refine x_iload (j := 6) G dX9_seeing_18 rfl ?_
    refine x_aload_n (j := 0) G dX9_seeing_20 rfl rfl ?_
    refine gf_878 G sh_0 pt_0_1 dX9_seeing_21 ?_
    refine x_sipush G dX9_seeing_24 (by decide) (by decide) ?_
    refine x_iald G dX9_seeing_27 H (fun x1 hx1 H => ?_)
    refine x_icmp_ge (tgt := 72) G dX9_seeing_28 (by decide) (fun q2 => ?_) (fun q2 => ?_)
    · have H := if_some_t H q2
      refine x_lload_n (j := 3) G dX9_seeing_72 rfl rfl ?_
      refine x_iload (j := 5) G dX9_seeing_73 rfl ?_
      refine x_if_ne (tgt := 82) G dX9_seeing_75 (by decide) (fun q3 => ?_) (fun q3 => ?_)
      · have H := if_some_f H q3
        refine x_aload_n (j := 0) G dX9_seeing_82 rfl rfl ?_
        refine gf_897 G sh_0 pt_0_20 dX9_seeing_83 ?_
        refine x_bipush G dX9_seeing_86 (by decide) (by decide) ?_
        refine x_iload_n (j := 1) G dX9_seeing_88 rfl rfl ?_
        refine x_imul G dX9_seeing_89 ?_
        refine x_iload (j := 5) G dX9_seeing_90 rfl ?_
        refine x_iadd G dX9_seeing_92 ?_
        refine x_lald G dX9_seeing_93 H (fun x4 hx4 H => ?_)
        exact x_subp (ls' := [(0, vR 0), (1, vI p1), (2, vI p2), (5, vI p5)]) [0, 1, 2, 4] rfl (tX9_seeing_94 G  K5 H)
      · have H := if_some_t H q3
        refine x_lconst (x := 0) G dX9_seeing_78 (by decide) (by decide) ?_
        refine x_goto (tgt := 94) G dX9_seeing_79 (by decide) ?_
        exact x_subp (ls' := [(0, vR 0), (1, vI p1), (2, vI p2), (5, vI p5)]) [0, 1, 2, 4] rfl (tX9_seeing_94 G  K5 H)
    · have H := if_some_f H q2
      refine x_iload (j := 5) G dX9_seeing_31 rfl ?_
      refine x_iload_n (j := 2) G dX9_seeing_33 rfl rfl ?_
      refine x_iload (j := 6) G dX9_seeing_34 rfl ?_
      refine x_ishr G dX9_seeing_36 ?_
      refine x_iconst G dX9_seeing_37 (by decide) ?_
      refine x_iand G dX9_seeing_38 ?_
      refine x_iconst G dX9_seeing_39 (by decide) ?_
      refine x_icmp_ne (tgt := 62) G dX9_seeing_40 (by decide) (fun q5 => ?_) (fun q5 => ?_)
      · have H := if_some_f H q5
        exact x_subp (ls' := [(0, vR 0), (1, vI p1), (2, vI p2), (3, vL p3), (5, vI p5), (7, vI p7)]) [0, 1, 2, 3, 4, 6] rfl (tX9_seeing_62 G  K5 ih H)
      · have H := if_some_t H q5
        refine x_aload_n (j := 0) G dX9_seeing_43 rfl rfl ?_
        refine x_iload (j := 6) G dX9_seeing_44 rfl ?_
        refine x_iload_n (j := 1) G dX9_seeing_46 rfl rfl ?_
        obtain ⟨r6, s7, c7, H⟩ := b2_some H
        refine cv_1010 (As := [vI p7, vI p1]) (rest := [vI p6]) G (rX9_glass  c7) sh_0 (by omega) rfl rfl (Nat.le_of_ble_eq_true rfl) dX9_seeing_47 ?_
        refine x_iload (j := 4) G dX9_seeing_50 rfl ?_
        refine x_icmp_ne (tgt := 62) G dX9_seeing_52 (by decide) (fun q8 => ?_) (fun q8 => ?_)
        · have H := if_some_f H q8
          exact x_subp (ls' := [(0, vR 0), (1, vI p1), (2, vI p2), (3, vL p3), (5, vI p5), (7, vI p7)]) [0, 1, 2, 3, 4, 6] rfl (tX9_seeing_62 G  K5 ih H)
        · have H := if_some_t H q8
          refine x_iconst G dX9_seeing_55 (by decide) ?_
          refine x_iload (j := 6) G dX9_seeing_56 rfl ?_
          refine x_ishl G dX9_seeing_58 ?_
          refine x_goto (tgt := 63) G dX9_seeing_59 (by decide) ?_
          exact x_subp (ls' := [(0, vR 0), (1, vI p1), (2, vI p2), (3, vL p3), (5, vI p5), (7, vI p7)]) [0, 1, 2, 3, 4, 6] rfl (tX9_seeing_63 G  K5 ih H)
def fX9_seeing_5  : Nat → Int → Int → Int → Int → Mem → Option (Int × Mem)
  | 0, _, _, _, _, _ => none
  | n + 1, p1, p2, p3, p5, s =>
  if 10 ≤ p5 then
    some (p3, s)
  else
    fX9_seeing_18 (fun p1 p2 p3 p5 s => fX9_seeing_5 n p1 p2 p3 p5 s) 600 p1 p2 p3 p5 0 0 s
set_option maxHeartbeats 4000000 in
theorem tX9_seeing_5 {E : En} {b : Bn} {xf : Int} {sf : Mem}  (G : ab_G E b cX9_seeing 8 RX9 (some .long) 1)  : ∀ (n : Nat) {p1 : Int} {p2 : Int} {p3 : Int} {p5 : Int} {s : Mem}, fX9_seeing_5 n p1 p2 p3 p5 s = some (xf, sf) → ab_X E b (ab_MQ E b (some (vL xf)) sf) 8 5 [(0, vR 0), (1, vI p1), (2, vI p2), (3, vL p3), (5, vI p5)] [] s := by
  intro n
  induction n with
  | zero => intro p1 p2 p3 p5 s H; rw [fX9_seeing_5] at H; cases H
  | succ n ih =>
    intro p1 p2 p3 p5 s H
    rw [fX9_seeing_5] at H
    refine x_iload (j := 4) G dX9_seeing_5 rfl ?_
    refine x_bipush G dX9_seeing_7 (by decide) (by decide) ?_
    refine x_icmp_ge (tgt := 102) G dX9_seeing_9 (by decide) (fun q1 => ?_) (fun q1 => ?_)
    · have H := if_some_t H q1
      refine x_lload_n (j := 3) G dX9_seeing_102 rfl rfl ?_
      cases H
      exact x_lret G dX9_seeing_103
    · have H := if_some_f H q1
      refine x_iconst G dX9_seeing_12 (by decide) ?_
      refine x_istore (ls' := [(6, vI 0), (0, vR 0), (1, vI p1), (2, vI p2), (3, vL p3), (5, vI p5)]) G dX9_seeing_13 (by decide) rfl ?_
      refine x_iconst G dX9_seeing_15 (by decide) ?_
      refine x_istore (ls' := [(7, vI 0), (6, vI 0), (0, vR 0), (1, vI p1), (2, vI p2), (3, vL p3), (5, vI p5)]) G dX9_seeing_16 (by decide) rfl ?_
      exact x_subp (ls' := [(0, vR 0), (1, vI p1), (2, vI p2), (3, vL p3), (5, vI p5), (6, vI 0), (7, vI 0)]) [2, 3, 4, 5, 6, 1, 0] rfl (tX9_seeing_18 G ih 600 H)
def fX9_seeing (a1 : Int) (a2 : Int) (s : Mem) : Option (Int × Mem) :=
  fX9_seeing_5 600 a1 a2 0 0 s
set_option maxHeartbeats 4000000 in
theorem rX9_seeing {E : En} {xf : Int} {sf : Mem} {a1 : Int} {a2 : Int} {s : Mem}  (H : fX9_seeing a1 a2 s = some (xf, sf)) : ab_Run E 1 yX9_seeing cX9_seeing 8 (some .long) [vR 0, vI a1, vI a2] (some (vL xf)) s sf := by
  unfold fX9_seeing at H
  refine ab_intro (own := RX9) (by decide +kernel) rfl (Nat.le_of_ble_eq_true rfl) rfl (fun b G => ?_)
  refine x_lconst (x := 0) G dX9_seeing_0 (by decide) (by decide) ?_
  refine x_lstore_n (ls' := [(3, vL 0), (0, vR 0), (1, vI a1), (2, vI a2)]) G dX9_seeing_1 rfl (by decide) rfl ?_
  refine x_iconst G dX9_seeing_2 (by decide) ?_
  refine x_istore (ls' := [(5, vI 0), (3, vL 0), (0, vR 0), (1, vI a1), (2, vI a2)]) G dX9_seeing_3 (by decide) rfl ?_
  exact x_subp (ls' := [(0, vR 0), (1, vI a1), (2, vI a2), (3, vL 0), (5, vI 0)]) [2, 3, 4, 1, 0] rfl (tX9_seeing_5 G 600 H)
def fX9_staying (a1 : Int) (a2 : Int) (s : Mem) : Option (Int × Mem) :=
  if a1 = 23 then
    b2 (fX9_running 24 a2 0 s) fun r4 s5 =>
    some (r4, s5)
  else
    b2 (fX9_seeing (w32 (a1 + 1)) a2 s) fun r2 s3 =>
    some (r2, s3)
set_option maxHeartbeats 4000000 in
theorem rX9_staying {E : En} {xf : Int} {sf : Mem} {a1 : Int} {a2 : Int} {s : Mem}  (H : fX9_staying a1 a2 s = some (xf, sf)) : ab_Run E 2 yX9_staying cX9_staying 3 (some .long) [vR 0, vI a1, vI a2] (some (vL xf)) s sf := by
  unfold fX9_staying at H
  refine ab_intro (own := RX9) (by decide +kernel) rfl (Nat.le_of_ble_eq_true rfl) rfl (fun b G => ?_)
  refine x_iload_n (j := 1) G dX9_staying_0 rfl rfl ?_
  refine x_bipush G dX9_staying_1 (by decide) (by decide) ?_
  refine x_icmp_ne (tgt := 17) G dX9_staying_3 (by decide) (fun q1 => ?_) (fun q1 => ?_)
  · have H := if_some_f H q1
    refine x_aload_n (j := 0) G dX9_staying_17 rfl rfl ?_
    refine x_iload_n (j := 1) G dX9_staying_18 rfl rfl ?_
    refine x_iconst G dX9_staying_19 (by decide) ?_
    refine x_iadd G dX9_staying_20 ?_
    refine x_iload_n (j := 2) G dX9_staying_21 rfl rfl ?_
    obtain ⟨r2, s3, c3, H⟩ := b2_some H
    refine cv_1180 (As := [vI (w32 (a1 + 1)), vI a2]) (rest := []) G (rX9_seeing  c3) sh_0 (by omega) rfl rfl (Nat.le_of_ble_eq_true rfl) dX9_staying_22 ?_
    cases H
    exact x_lret G dX9_staying_25
  · have H := if_some_t H q1
    refine x_aload_n (j := 0) G dX9_staying_6 rfl rfl ?_
    refine x_bipush G dX9_staying_7 (by decide) (by decide) ?_
    refine x_iload_n (j := 2) G dX9_staying_9 rfl rfl ?_
    refine x_iconst G dX9_staying_10 (by decide) ?_
    obtain ⟨r4, s5, c5, H⟩ := b2_some H
    refine cv_1176 (As := [vI 24, vI a2, vI 0]) (rest := []) G (rX9_running  c5) sh_0 (by omega) rfl rfl (Nat.le_of_ble_eq_true rfl) dX9_staying_11 ?_
    refine x_goto (tgt := 25) G dX9_staying_14 (by decide) ?_
    cases H
    exact x_lret G dX9_staying_25
def fX9_laysAlone_25 (k2 : Int → Int → Mem → Option Mem) (k16 : Int → Int → Int → Mem → Option Mem) : Nat → Int → Int → Int → Int → Mem → Option Mem
  | 0, _, _, _, _, _ => none
  | n + 1, p1, p2, p3, p4, s =>
  (rdI s 1 183).bind fun x1 =>
  if x1 ≤ p4 then
    lt' (w32 (p3 + 1)) fun v3 =>
    k16 p1 p2 v3 s
  else
    b2 (fX9_tenths p2 s) fun r4 s5 =>
    b2 (fX9_wayOf p1 p2 p3 p4 s5) fun r6 s7 =>
    (wrL s7 15 (w32 ((w32 ((w32 (120 * p2)) + (w32 (4 * p3)))) + p4)) (w64 (r4 * r6))).bind fun s8 =>
    lt' (w32 (p4 + 1)) fun v9 =>
    fX9_laysAlone_25 k2 k16 n p1 p2 p3 v9 s8
set_option maxHeartbeats 4000000 in
theorem tX9_laysAlone_25 {E : En} {b : Bn} {sf : Mem} {k2 : Int → Int → Mem → Option Mem} {k16 : Int → Int → Int → Mem → Option Mem} (G : ab_G E b cX9_laysAlone 9 RX9 none 4) (K2 : ∀ {p1 : Int} {p2 : Int} {s : Mem},  k2 p1 p2 s = some sf → ab_X E b (ab_MQ E b none sf) 9 2 [(0, vR 0), (1, vI p1), (2, vI p2)] [] s) (K16 : ∀ {p1 : Int} {p2 : Int} {p3 : Int} {s : Mem},  k16 p1 p2 p3 s = some sf → ab_X E b (ab_MQ E b none sf) 9 16 [(0, vR 0), (1, vI p1), (2, vI p2), (3, vI p3)] [] s) : ∀ (n : Nat) {p1 : Int} {p2 : Int} {p3 : Int} {p4 : Int} {s : Mem}, fX9_laysAlone_25 k2 k16 n p1 p2 p3 p4 s = some sf → ab_X E b (ab_MQ E b none sf) 9 25 [(0, vR 0), (1, vI p1), (2, vI p2), (3, vI p3), (4, vI p4)] [] s := by
  intro n
  induction n with
  | zero => intro p1 p2 p3 p4 s H; rw [fX9_laysAlone_25] at H; cases H
  | succ n ih =>
    intro p1 p2 p3 p4 s H
    rw [fX9_laysAlone_25] at H
    refine x_iload (j := 4) G dX9_laysAlone_25 rfl ?_
    refine x_aload_n (j := 0) G dX9_laysAlone_27 rfl rfl ?_
    refine gf_878 G sh_0 pt_0_1 dX9_laysAlone_28 ?_
    refine x_sipush G dX9_laysAlone_31 (by decide) (by decide) ?_
    refine x_iald G dX9_laysAlone_34 H (fun x1 hx1 H => ?_)
    refine x_icmp_ge (tgt := 76) G dX9_laysAlone_35 (by decide) (fun q2 => ?_) (fun q2 => ?_)
    · have H := if_some_t H q2
      refine x_iincL (j := 3) G dX9_laysAlone_76 rfl (by decide) H (fun v3 hv3 H => x_ls (ls' := [(3, vI v3), (0, vR 0), (1, vI p1), (2, vI p2), (4, vI p4)]) rfl ?_)
      refine x_goto (tgt := 16) G dX9_laysAlone_79 (by decide) ?_
      exact x_subp (ls' := [(0, vR 0), (1, vI p1), (2, vI p2), (3, vI v3)]) [1, 2, 3, 0] rfl (K16 H)
    · have H := if_some_f H q2
      refine x_aload_n (j := 0) G dX9_laysAlone_38 rfl rfl ?_
      refine gf_896 G sh_0 pt_0_19 dX9_laysAlone_39 ?_
      refine x_bipush G dX9_laysAlone_42 (by decide) (by decide) ?_
      refine x_iload_n (j := 2) G dX9_laysAlone_44 rfl rfl ?_
      refine x_imul G dX9_laysAlone_45 ?_
      refine x_iconst G dX9_laysAlone_46 (by decide) ?_
      refine x_iload_n (j := 3) G dX9_laysAlone_47 rfl rfl ?_
      refine x_imul G dX9_laysAlone_48 ?_
      refine x_iadd G dX9_laysAlone_49 ?_
      refine x_iload (j := 4) G dX9_laysAlone_50 rfl ?_
      refine x_iadd G dX9_laysAlone_52 ?_
      refine x_aload_n (j := 0) G dX9_laysAlone_53 rfl rfl ?_
      refine x_iload_n (j := 2) G dX9_laysAlone_54 rfl rfl ?_
      obtain ⟨r4, s5, c5, H⟩ := b2_some H
      refine cv_1113 (As := [vI p2]) (rest := [vI (w32 ((w32 ((w32 (120 * p2)) + (w32 (4 * p3)))) + p4)), vR 15]) G (rX9_tenths  c5) sh_0 (by omega) rfl rfl (Nat.le_of_ble_eq_true rfl) dX9_laysAlone_55 ?_
      refine x_i2l G dX9_laysAlone_58 ?_
      refine x_aload_n (j := 0) G dX9_laysAlone_59 rfl rfl ?_
      refine x_iload_n (j := 1) G dX9_laysAlone_60 rfl rfl ?_
      refine x_iload_n (j := 2) G dX9_laysAlone_61 rfl rfl ?_
      refine x_iload_n (j := 3) G dX9_laysAlone_62 rfl rfl ?_
      refine x_iload (j := 4) G dX9_laysAlone_63 rfl ?_
      obtain ⟨r6, s7, c7, H⟩ := b2_some H
      refine cv_1168 (As := [vI p1, vI p2, vI p3, vI p4]) (rest := [vL r4, vI (w32 ((w32 ((w32 (120 * p2)) + (w32 (4 * p3)))) + p4)), vR 15]) G (rX9_wayOf  c7) sh_0 (by omega) rfl rfl (Nat.le_of_ble_eq_true rfl) dX9_laysAlone_65 ?_
      refine x_lmul G dX9_laysAlone_68 ?_
      refine x_last G dX9_laysAlone_69 H (fun s8 hs8 H => ?_)
      refine x_iincL (j := 4) G dX9_laysAlone_70 rfl (by decide) H (fun v9 hv9 H => x_ls (ls' := [(4, vI v9), (0, vR 0), (1, vI p1), (2, vI p2), (3, vI p3)]) rfl ?_)
      refine x_goto (tgt := 25) G dX9_laysAlone_73 (by decide) ?_
      exact x_subp (ls' := [(0, vR 0), (1, vI p1), (2, vI p2), (3, vI p3), (4, vI v9)]) [1, 2, 3, 4, 0] rfl (ih H)
def fX9_laysAlone_16 (k2 : Int → Int → Mem → Option Mem) : Nat → Int → Int → Int → Mem → Option Mem
  | 0, _, _, _, _ => none
  | n + 1, p1, p2, p3, s =>
  if 25 ≤ p3 then
    lt' (w32 (p2 + 1)) fun v2 =>
    k2 p1 v2 s
  else
    fX9_laysAlone_25 k2 (fun p1 p2 p3 s => fX9_laysAlone_16 k2 n p1 p2 p3 s) 600 p1 p2 p3 0 s
set_option maxHeartbeats 4000000 in
theorem tX9_laysAlone_16 {E : En} {b : Bn} {sf : Mem} {k2 : Int → Int → Mem → Option Mem} (G : ab_G E b cX9_laysAlone 9 RX9 none 4) (K2 : ∀ {p1 : Int} {p2 : Int} {s : Mem},  k2 p1 p2 s = some sf → ab_X E b (ab_MQ E b none sf) 9 2 [(0, vR 0), (1, vI p1), (2, vI p2)] [] s) : ∀ (n : Nat) {p1 : Int} {p2 : Int} {p3 : Int} {s : Mem}, fX9_laysAlone_16 k2 n p1 p2 p3 s = some sf → ab_X E b (ab_MQ E b none sf) 9 16 [(0, vR 0), (1, vI p1), (2, vI p2), (3, vI p3)] [] s := by
  intro n
  induction n with
  | zero => intro p1 p2 p3 s H; rw [fX9_laysAlone_16] at H; cases H
  | succ n ih =>
    intro p1 p2 p3 s H
    rw [fX9_laysAlone_16] at H
    refine x_iload_n (j := 3) G dX9_laysAlone_16 rfl rfl ?_
    refine x_bipush G dX9_laysAlone_17 (by decide) (by decide) ?_
    refine x_icmp_ge (tgt := 82) G dX9_laysAlone_19 (by decide) (fun q1 => ?_) (fun q1 => ?_)
    · have H := if_some_t H q1
      refine x_iincL (j := 2) G dX9_laysAlone_82 rfl (by decide) H (fun v2 hv2 H => x_ls (ls' := [(2, vI v2), (0, vR 0), (1, vI p1), (3, vI p3)]) rfl ?_)
      refine x_goto (tgt := 2) G dX9_laysAlone_85 (by decide) ?_
      exact x_subp (ls' := [(0, vR 0), (1, vI p1), (2, vI v2)]) [1, 2, 0] rfl (K2 H)
    · have H := if_some_f H q1
      refine x_iconst G dX9_laysAlone_22 (by decide) ?_
      refine x_istore (ls' := [(4, vI 0), (0, vR 0), (1, vI p1), (2, vI p2), (3, vI p3)]) G dX9_laysAlone_23 (by decide) rfl ?_
      exact x_subp (ls' := [(0, vR 0), (1, vI p1), (2, vI p2), (3, vI p3), (4, vI 0)]) [1, 2, 3, 4, 0] rfl (tX9_laysAlone_25 G K2 ih 600 H)
def fX9_laysAlone_160 (k91 : Int → Mem → Option Mem) (k97 : Int → Int → Mem → Option Mem) (k122 : Int → Int → Int → Int → Mem → Option Mem) (p2 : Int) (p3 : Int) (p6 : Int) (t0 : Int) (s : Mem) : Option Mem :=
  lt' (w32 (p6 + 1)) fun v1 =>
  k122 p2 p3 t0 v1 s
set_option maxHeartbeats 4000000 in
theorem tX9_laysAlone_160 {E : En} {b : Bn} {sf : Mem} {k91 : Int → Mem → Option Mem} {k97 : Int → Int → Mem → Option Mem} {k122 : Int → Int → Int → Int → Mem → Option Mem} {p2 : Int} {p3 : Int} {p6 : Int} {t0 : Int} {s : Mem} (G : ab_G E b cX9_laysAlone 9 RX9 none 4)  (K91 : ∀ {p2 : Int} {s : Mem},  k91 p2 s = some sf → ab_X E b (ab_MQ E b none sf) 9 91 [(0, vR 0), (2, vI p2)] [] s) (K97 : ∀ {p2 : Int} {p3 : Int} {s : Mem},  k97 p2 p3 s = some sf → ab_X E b (ab_MQ E b none sf) 9 97 [(0, vR 0), (2, vI p2), (3, vI p3)] [] s) (K122 : ∀ {p2 : Int} {p3 : Int} {p4 : Int} {p6 : Int} {s : Mem},  k122 p2 p3 p4 p6 s = some sf → ab_X E b (ab_MQ E b none sf) 9 122 [(0, vR 0), (2, vI p2), (3, vI p3), (4, vL p4), (6, vI p6)] [] s) (H : fX9_laysAlone_160 k91 k97 k122 p2 p3 p6 t0 s = some sf) : ab_X E b (ab_MQ E b none sf) 9 160 [(0, vR 0), (2, vI p2), (3, vI p3), (6, vI p6)] [vL t0] s := by
  unfold fX9_laysAlone_160 at H
  refine x_lstore (ls' := [(4, vL t0), (0, vR 0), (2, vI p2), (3, vI p3), (6, vI p6)]) G dX9_laysAlone_160 (by decide) rfl ?_
  refine x_iincL (j := 4) G dX9_laysAlone_162 rfl (by decide) H (fun v1 hv1 H => x_ls (ls' := [(6, vI v1), (4, vL t0), (0, vR 0), (2, vI p2), (3, vI p3)]) rfl ?_)
  refine x_goto (tgt := 122) G dX9_laysAlone_165 (by decide) ?_
  exact x_subp (ls' := [(0, vR 0), (2, vI p2), (3, vI p3), (4, vL t0), (6, vI v1)]) [2, 3, 4, 1, 0] rfl (K122 H)
def fX9_laysAlone_122 (k91 : Int → Mem → Option Mem) (k97 : Int → Int → Mem → Option Mem) : Nat → Int → Int → Int → Int → Mem → Option Mem
  | 0, _, _, _, _, _ => none
  | n + 1, p2, p3, p4, p6, s =>
  (rdI s 1 183).bind fun x1 =>
  if x1 ≤ p6 then
    (wrL s 16 (w32 ((w32 (16 * p2)) + p3)) p4).bind fun s3 =>
    lt' (w32 (p3 + 1)) fun v4 =>
    k97 p2 v4 s3
  else
    b2 (fX9_running p2 p3 p6 s) fun r5 s6 =>
    if r5 ≤ p4 then
      fX9_laysAlone_160 k91 k97 (fun p2 p3 p4 p6 s => fX9_laysAlone_122 k91 k97 n p2 p3 p4 p6 s) p2 p3 p6 p4 s6
    else
      fX9_laysAlone_160 k91 k97 (fun p2 p3 p4 p6 s => fX9_laysAlone_122 k91 k97 n p2 p3 p4 p6 s) p2 p3 p6 r5 s6
set_option maxHeartbeats 4000000 in
theorem tX9_laysAlone_122 {E : En} {b : Bn} {sf : Mem} {k91 : Int → Mem → Option Mem} {k97 : Int → Int → Mem → Option Mem} (G : ab_G E b cX9_laysAlone 9 RX9 none 4) (K91 : ∀ {p2 : Int} {s : Mem},  k91 p2 s = some sf → ab_X E b (ab_MQ E b none sf) 9 91 [(0, vR 0), (2, vI p2)] [] s) (K97 : ∀ {p2 : Int} {p3 : Int} {s : Mem},  k97 p2 p3 s = some sf → ab_X E b (ab_MQ E b none sf) 9 97 [(0, vR 0), (2, vI p2), (3, vI p3)] [] s) : ∀ (n : Nat) {p2 : Int} {p3 : Int} {p4 : Int} {p6 : Int} {s : Mem}, fX9_laysAlone_122 k91 k97 n p2 p3 p4 p6 s = some sf → ab_X E b (ab_MQ E b none sf) 9 122 [(0, vR 0), (2, vI p2), (3, vI p3), (4, vL p4), (6, vI p6)] [] s := by
  intro n
  induction n with
  | zero => intro p2 p3 p4 p6 s H; rw [fX9_laysAlone_122] at H; cases H
  | succ n ih =>
    intro p2 p3 p4 p6 s H
    rw [fX9_laysAlone_122] at H
    refine x_iload (j := 4) G dX9_laysAlone_122 rfl ?_
    refine x_aload_n (j := 0) G dX9_laysAlone_124 rfl rfl ?_
    refine gf_878 G sh_0 pt_0_1 dX9_laysAlone_125 ?_
    refine x_sipush G dX9_laysAlone_128 (by decide) (by decide) ?_
    refine x_iald G dX9_laysAlone_131 H (fun x1 hx1 H => ?_)
    refine x_icmp_ge (tgt := 168) G dX9_laysAlone_132 (by decide) (fun q2 => ?_) (fun q2 => ?_)
    · have H := if_some_t H q2
      refine x_aload_n (j := 0) G dX9_laysAlone_168 rfl rfl ?_
      refine gf_897 G sh_0 pt_0_20 dX9_laysAlone_169 ?_
      refine x_bipush G dX9_laysAlone_172 (by decide) (by decide) ?_
      refine x_iload_n (j := 1) G dX9_laysAlone_174 rfl rfl ?_
      refine x_imul G dX9_laysAlone_175 ?_
      refine x_iload_n (j := 2) G dX9_laysAlone_176 rfl rfl ?_
      refine x_iadd G dX9_laysAlone_177 ?_
      refine x_lload (j := 3) G dX9_laysAlone_178 rfl ?_
      refine x_last G dX9_laysAlone_180 H (fun s3 hs3 H => ?_)
      refine x_iincL (j := 2) G dX9_laysAlone_181 rfl (by decide) H (fun v4 hv4 H => x_ls (ls' := [(3, vI v4), (0, vR 0), (2, vI p2), (4, vL p4), (6, vI p6)]) rfl ?_)
      refine x_goto (tgt := 97) G dX9_laysAlone_184 (by decide) ?_
      exact x_subp (ls' := [(0, vR 0), (2, vI p2), (3, vI v4)]) [1, 2, 0] rfl (K97 H)
    · have H := if_some_f H q2
      refine x_aload_n (j := 0) G dX9_laysAlone_135 rfl rfl ?_
      refine x_iload_n (j := 1) G dX9_laysAlone_136 rfl rfl ?_
      refine x_iload_n (j := 2) G dX9_laysAlone_137 rfl rfl ?_
      refine x_iload (j := 4) G dX9_laysAlone_138 rfl ?_
      obtain ⟨r5, s6, c6, H⟩ := b2_some H
      refine cv_1176 (As := [vI p2, vI p3, vI p6]) (rest := []) G (rX9_running  c6) sh_0 (by omega) rfl rfl (Nat.le_of_ble_eq_true rfl) dX9_laysAlone_140 ?_
      refine x_lstore (ls' := [(7, vL r5), (0, vR 0), (2, vI p2), (3, vI p3), (4, vL p4), (6, vI p6)]) G dX9_laysAlone_143 (by decide) rfl ?_
      refine x_lload (j := 0) G dX9_laysAlone_145 rfl ?_
      refine x_lload (j := 4) G dX9_laysAlone_147 rfl ?_
      refine x_lcmp_le (tgt := 158) G dX9_laysAlone_149 rfl dX9_laysAlone_150 (by decide) (fun q7 => ?_) (fun q7 => ?_)
      · have H := if_some_t H q7
        refine x_lload (j := 4) G dX9_laysAlone_158 rfl ?_
        exact x_subp (ls' := [(0, vR 0), (2, vI p2), (3, vI p3), (6, vI p6)]) [1, 2, 3, 5] rfl (tX9_laysAlone_160 G  K91 K97 ih H)
      · have H := if_some_f H q7
        refine x_lload (j := 0) G dX9_laysAlone_153 rfl ?_
        refine x_goto (tgt := 160) G dX9_laysAlone_155 (by decide) ?_
        exact x_subp (ls' := [(0, vR 0), (2, vI p2), (3, vI p3), (6, vI p6)]) [1, 2, 3, 5] rfl (tX9_laysAlone_160 G  K91 K97 ih H)
def fX9_laysAlone_97 (k91 : Int → Mem → Option Mem) : Nat → Int → Int → Mem → Option Mem
  | 0, _, _, _ => none
  | n + 1, p2, p3, s =>
  (rdI s 1 185).bind fun x1 =>
  if (shlI 1 x1) ≤ p3 then
    lt' (w32 (p2 + (-1))) fun v3 =>
    k91 v3 s
  else
    b2 (fX9_staying p2 p3 s) fun r4 s5 =>
    fX9_laysAlone_122 k91 (fun p2 p3 s => fX9_laysAlone_97 k91 n p2 p3 s) 600 p2 p3 r4 0 s5
set_option maxHeartbeats 4000000 in
theorem tX9_laysAlone_97 {E : En} {b : Bn} {sf : Mem} {k91 : Int → Mem → Option Mem} (G : ab_G E b cX9_laysAlone 9 RX9 none 4) (K91 : ∀ {p2 : Int} {s : Mem},  k91 p2 s = some sf → ab_X E b (ab_MQ E b none sf) 9 91 [(0, vR 0), (2, vI p2)] [] s) : ∀ (n : Nat) {p2 : Int} {p3 : Int} {s : Mem}, fX9_laysAlone_97 k91 n p2 p3 s = some sf → ab_X E b (ab_MQ E b none sf) 9 97 [(0, vR 0), (2, vI p2), (3, vI p3)] [] s := by
  intro n
  induction n with
  | zero => intro p2 p3 s H; rw [fX9_laysAlone_97] at H; cases H
  | succ n ih =>
    intro p2 p3 s H
    rw [fX9_laysAlone_97] at H
    refine x_iload_n (j := 2) G dX9_laysAlone_97 rfl rfl ?_
    refine x_iconst G dX9_laysAlone_98 (by decide) ?_
    refine x_aload_n (j := 0) G dX9_laysAlone_99 rfl rfl ?_
    refine gf_878 G sh_0 pt_0_1 dX9_laysAlone_100 ?_
    refine x_sipush G dX9_laysAlone_103 (by decide) (by decide) ?_
    refine x_iald G dX9_laysAlone_106 H (fun x1 hx1 H => ?_)
    refine x_ishl G dX9_laysAlone_107 ?_
    refine x_icmp_ge (tgt := 187) G dX9_laysAlone_108 (by decide) (fun q2 => ?_) (fun q2 => ?_)
    · have H := if_some_t H q2
      refine x_iincL (j := 1) G dX9_laysAlone_187 rfl (by decide) H (fun v3 hv3 H => x_ls (ls' := [(2, vI v3), (0, vR 0), (3, vI p3)]) rfl ?_)
      refine x_goto (tgt := 91) G dX9_laysAlone_190 (by decide) ?_
      exact x_subp (ls' := [(0, vR 0), (2, vI v3)]) [1, 0] rfl (K91 H)
    · have H := if_some_f H q2
      refine x_aload_n (j := 0) G dX9_laysAlone_111 rfl rfl ?_
      refine x_iload_n (j := 1) G dX9_laysAlone_112 rfl rfl ?_
      refine x_iload_n (j := 2) G dX9_laysAlone_113 rfl rfl ?_
      obtain ⟨r4, s5, c5, H⟩ := b2_some H
      refine cv_1172 (As := [vI p2, vI p3]) (rest := []) G (rX9_staying  c5) sh_0 (by omega) rfl rfl (Nat.le_of_ble_eq_true rfl) dX9_laysAlone_114 ?_
      refine x_lstore (ls' := [(4, vL r4), (0, vR 0), (2, vI p2), (3, vI p3)]) G dX9_laysAlone_117 (by decide) rfl ?_
      refine x_iconst G dX9_laysAlone_119 (by decide) ?_
      refine x_istore (ls' := [(6, vI 0), (4, vL r4), (0, vR 0), (2, vI p2), (3, vI p3)]) G dX9_laysAlone_120 (by decide) rfl ?_
      exact x_subp (ls' := [(0, vR 0), (2, vI p2), (3, vI p3), (4, vL r4), (6, vI 0)]) [2, 3, 4, 1, 0] rfl (tX9_laysAlone_122 G K91 ih 600 H)
def fX9_laysAlone_91  : Nat → Int → Mem → Option Mem
  | 0, _, _ => none
  | n + 1, p2, s =>
  if p2 < 0 then
    some s
  else
    fX9_laysAlone_97 (fun p2 s => fX9_laysAlone_91 n p2 s) 600 p2 1 s
set_option maxHeartbeats 4000000 in
theorem tX9_laysAlone_91 {E : En} {b : Bn} {sf : Mem}  (G : ab_G E b cX9_laysAlone 9 RX9 none 4)  : ∀ (n : Nat) {p2 : Int} {s : Mem}, fX9_laysAlone_91 n p2 s = some sf → ab_X E b (ab_MQ E b none sf) 9 91 [(0, vR 0), (2, vI p2)] [] s := by
  intro n
  induction n with
  | zero => intro p2 s H; rw [fX9_laysAlone_91] at H; cases H
  | succ n ih =>
    intro p2 s H
    rw [fX9_laysAlone_91] at H
    refine x_iload_n (j := 1) G dX9_laysAlone_91 rfl rfl ?_
    refine x_if_lt (tgt := 193) G dX9_laysAlone_92 (by decide) (fun q1 => ?_) (fun q1 => ?_)
    · have H := if_some_t H q1
      cases H
      exact x_vret G dX9_laysAlone_193
    · have H := if_some_f H q1
      refine x_iconst G dX9_laysAlone_95 (by decide) ?_
      refine x_istore_n (ls' := [(3, vI 1), (0, vR 0), (2, vI p2)]) G dX9_laysAlone_96 rfl (by decide) rfl ?_
      exact x_subp (ls' := [(0, vR 0), (2, vI p2), (3, vI 1)]) [1, 2, 0] rfl (tX9_laysAlone_97 G ih 600 H)
def fX9_laysAlone_2  : Nat → Int → Int → Mem → Option Mem
  | 0, _, _, _ => none
  | n + 1, p1, p2, s =>
  (rdI s 1 185).bind fun x1 =>
  if x1 ≤ p2 then
    fX9_laysAlone_91 600 23 s
  else
    fX9_laysAlone_16 (fun p1 p2 s => fX9_laysAlone_2 n p1 p2 s) 600 p1 p2 0 s
set_option maxHeartbeats 4000000 in
theorem tX9_laysAlone_2 {E : En} {b : Bn} {sf : Mem}  (G : ab_G E b cX9_laysAlone 9 RX9 none 4)  : ∀ (n : Nat) {p1 : Int} {p2 : Int} {s : Mem}, fX9_laysAlone_2 n p1 p2 s = some sf → ab_X E b (ab_MQ E b none sf) 9 2 [(0, vR 0), (1, vI p1), (2, vI p2)] [] s := by
  intro n
  induction n with
  | zero => intro p1 p2 s H; rw [fX9_laysAlone_2] at H; cases H
  | succ n ih =>
    intro p1 p2 s H
    rw [fX9_laysAlone_2] at H
    refine x_iload_n (j := 2) G dX9_laysAlone_2 rfl rfl ?_
    refine x_aload_n (j := 0) G dX9_laysAlone_3 rfl rfl ?_
    refine gf_878 G sh_0 pt_0_1 dX9_laysAlone_4 ?_
    refine x_sipush G dX9_laysAlone_7 (by decide) (by decide) ?_
    refine x_iald G dX9_laysAlone_10 H (fun x1 hx1 H => ?_)
    refine x_icmp_ge (tgt := 88) G dX9_laysAlone_11 (by decide) (fun q2 => ?_) (fun q2 => ?_)
    · have H := if_some_t H q2
      refine x_bipush G dX9_laysAlone_88 (by decide) (by decide) ?_
      refine x_istore_n (ls' := [(2, vI 23), (0, vR 0), (1, vI p1)]) G dX9_laysAlone_90 rfl (by decide) rfl ?_
      exact x_subp (ls' := [(0, vR 0), (2, vI 23)]) [1, 0] rfl (tX9_laysAlone_91 G 600 H)
    · have H := if_some_f H q2
      refine x_iconst G dX9_laysAlone_14 (by decide) ?_
      refine x_istore_n (ls' := [(3, vI 0), (0, vR 0), (1, vI p1), (2, vI p2)]) G dX9_laysAlone_15 rfl (by decide) rfl ?_
      exact x_subp (ls' := [(0, vR 0), (1, vI p1), (2, vI p2), (3, vI 0)]) [1, 2, 3, 0] rfl (tX9_laysAlone_16 G ih 600 H)
def fX9_laysAlone (a1 : Int) (s : Mem) : Option Mem :=
  fX9_laysAlone_2 600 a1 0 s
set_option maxHeartbeats 4000000 in
theorem rX9_laysAlone {E : En} {sf : Mem} {a1 : Int} {s : Mem}  (H : fX9_laysAlone a1 s = some sf) : ab_Run E 4 yX9_laysAlone cX9_laysAlone 9 none [vR 0, vI a1] none s sf := by
  unfold fX9_laysAlone at H
  refine ab_intro (own := RX9) (by decide +kernel) rfl (Nat.le_of_ble_eq_true rfl) rfl (fun b G => ?_)
  refine x_iconst G dX9_laysAlone_0 (by decide) ?_
  refine x_istore_n (ls' := [(2, vI 0), (0, vR 0), (1, vI a1)]) G dX9_laysAlone_1 rfl (by decide) rfl ?_
  exact x_subp (ls' := [(0, vR 0), (1, vI a1), (2, vI 0)]) [1, 2, 0] rfl (tX9_laysAlone_2 G 600 H)

def fX9_readsItem_109  (p4 : Int) (t1 : Int) (t2 : Int) (s : Mem) : Option Mem :=
  (fX9_puts (w32 (t1 + t2)) p4 s).bind fun s2 =>
  some s2
set_option maxHeartbeats 4000000 in
theorem tX9_readsItem_109 {E : En} {b : Bn} {sf : Mem}  {p4 : Int} {t1 : Int} {t2 : Int} {s : Mem} (G : ab_G E b cX9_readsItem 5 RX9 none 3)   (H : fX9_readsItem_109 p4 t1 t2 s = some sf) : ab_X E b (ab_MQ E b none sf) 5 109 [(4, vI p4)] [vI t2, vI t1, vR 0] s := by
  unfold fX9_readsItem_109 at H
  refine x_iadd G dX9_readsItem_109 ?_
  refine x_iload (j := 0) G dX9_readsItem_110 rfl ?_
  obtain ⟨s2, c2, H⟩ := bd_some H
  refine cv_982 (As := [vI (w32 (t1 + t2)), vI p4]) (rest := []) G (rX9_puts  c2) sh_0 (by omega) rfl rfl (Nat.le_of_ble_eq_true rfl) dX9_readsItem_112 ?_
  refine x_goto (tgt := 263) G dX9_readsItem_115 (by decide) ?_
  cases H
  exact x_vret G dX9_readsItem_263
def fX9_readsItem_182  (p4 : Int) (t1 : Int) (t2 : Int) (s : Mem) : Option Mem :=
  (fX9_puts (w32 (t1 + t2)) p4 s).bind fun s2 =>
  some s2
set_option maxHeartbeats 4000000 in
theorem tX9_readsItem_182 {E : En} {b : Bn} {sf : Mem}  {p4 : Int} {t1 : Int} {t2 : Int} {s : Mem} (G : ab_G E b cX9_readsItem 5 RX9 none 3)   (H : fX9_readsItem_182 p4 t1 t2 s = some sf) : ab_X E b (ab_MQ E b none sf) 5 182 [(4, vI p4)] [vI t2, vI t1, vR 0] s := by
  unfold fX9_readsItem_182 at H
  refine x_iadd G dX9_readsItem_182 ?_
  refine x_iload (j := 0) G dX9_readsItem_183 rfl ?_
  obtain ⟨s2, c2, H⟩ := bd_some H
  refine cv_982 (As := [vI (w32 (t1 + t2)), vI p4]) (rest := []) G (rX9_puts  c2) sh_0 (by omega) rfl rfl (Nat.le_of_ble_eq_true rfl) dX9_readsItem_185 ?_
  refine x_goto (tgt := 263) G dX9_readsItem_188 (by decide) ?_
  cases H
  exact x_vret G dX9_readsItem_263
def fX9_readsItem (a1 : Int) (s : Mem) : Option Mem :=
  if a1 = 104 then
    (fX9_readsHarbour  s).bind fun s44 =>
    some s44
  else
    if a1 = 98 then
      (fX9_readsSort  s).bind fun s42 =>
      some s42
    else
      if a1 = 115 then
        (fX9_readsStorm  s).bind fun s40 =>
        some s40
      else
        if a1 = 100 then
          b2 (fX9_draft 184 s) fun r28 s29 =>
          b2 (fX9_number 0 (w32 (r28 - 1)) 44 s29) fun r30 s31 =>
          b2 (fX9_draft 183 s31) fun r32 s33 =>
          b2 (fX9_number 0 (w32 (r32 - 1)) 44 s33) fun r34 s35 =>
          b2 (fX9_number 1 99 59 s35) fun r36 s37 =>
          if (s37 0 8) = 0 then
            fX9_readsItem_109 r36 36 0 s37
          else
            fX9_readsItem_109 r36 36 (w32 ((w32 (4 * r30)) + r34)) s37
        else
          if a1 = 103 then
            b2 (fX9_draft 185 s) fun r19 s20 =>
            b2 (fX9_number 0 (w32 (r19 - 1)) 44 s20) fun r21 s22 =>
            b2 (fX9_number 0 23 44 s22) fun r23 s24 =>
            b2 (fX9_number 0 9 59 s24) fun r25 s26 =>
            if (s26 0 8) = 0 then
              fX9_readsItem_182 r25 76 0 s26
            else
              fX9_readsItem_182 r25 76 (w32 ((w32 (24 * r21)) + r23)) s26
          else
            if a1 = 114 then
              b2 (fX9_number 1 9 44 s) fun r13 s14 =>
              b2 (fX9_number 0 200 59 s14) fun r15 s16 =>
              (fX9_puts (w32 (172 + r13)) r15 s16).bind fun s18 =>
              some s18
            else
              if a1 = 119 then
                b2 (fX9_number 1 9 59 s) fun r9 s10 =>
                (fX9_puts 182 r9 s10).bind fun s12 =>
                some s12
              else
                lt' (mu s 0 8 0) fun s8 =>
                some s8
set_option maxHeartbeats 4000000 in
theorem rX9_readsItem {E : En} {sf : Mem} {a1 : Int} {s : Mem}  (H : fX9_readsItem a1 s = some sf) : ab_Run E 3 yX9_readsItem cX9_readsItem 5 none [vR 0, vI a1] none s sf := by
  unfold fX9_readsItem at H
  refine ab_intro (own := RX9) (by decide +kernel) rfl (Nat.le_of_ble_eq_true rfl) rfl (fun b G => ?_)
  refine x_iload_n (j := 1) G dX9_readsItem_0 rfl rfl ?_
  refine x_bipush G dX9_readsItem_1 (by decide) (by decide) ?_
  refine x_icmp_ne (tgt := 13) G dX9_readsItem_3 (by decide) (fun q1 => ?_) (fun q1 => ?_)
  · have H := if_some_f H q1
    refine x_iload_n (j := 1) G dX9_readsItem_13 rfl rfl ?_
    refine x_bipush G dX9_readsItem_14 (by decide) (by decide) ?_
    refine x_icmp_ne (tgt := 26) G dX9_readsItem_16 (by decide) (fun q2 => ?_) (fun q2 => ?_)
    · have H := if_some_f H q2
      refine x_iload_n (j := 1) G dX9_readsItem_26 rfl rfl ?_
      refine x_bipush G dX9_readsItem_27 (by decide) (by decide) ?_
      refine x_icmp_ne (tgt := 39) G dX9_readsItem_29 (by decide) (fun q3 => ?_) (fun q3 => ?_)
      · have H := if_some_f H q3
        refine x_iload_n (j := 1) G dX9_readsItem_39 rfl rfl ?_
        refine x_bipush G dX9_readsItem_40 (by decide) (by decide) ?_
        refine x_icmp_ne (tgt := 118) G dX9_readsItem_42 (by decide) (fun q4 => ?_) (fun q4 => ?_)
        · have H := if_some_f H q4
          refine x_iload_n (j := 1) G dX9_readsItem_118 rfl rfl ?_
          refine x_bipush G dX9_readsItem_119 (by decide) (by decide) ?_
          refine x_icmp_ne (tgt := 191) G dX9_readsItem_121 (by decide) (fun q5 => ?_) (fun q5 => ?_)
          · have H := if_some_f H q5
            refine x_iload_n (j := 1) G dX9_readsItem_191 rfl rfl ?_
            refine x_bipush G dX9_readsItem_192 (by decide) (by decide) ?_
            refine x_icmp_ne (tgt := 231) G dX9_readsItem_194 (by decide) (fun q6 => ?_) (fun q6 => ?_)
            · have H := if_some_f H q6
              refine x_iload_n (j := 1) G dX9_readsItem_231 rfl rfl ?_
              refine x_bipush G dX9_readsItem_232 (by decide) (by decide) ?_
              refine x_icmp_ne (tgt := 258) G dX9_readsItem_234 (by decide) (fun q7 => ?_) (fun q7 => ?_)
              · have H := if_some_f H q7
                refine x_aload_n (j := 0) G dX9_readsItem_258 rfl rfl ?_
                refine x_iconst G dX9_readsItem_259 (by decide) ?_
                refine pf_885 (by decide) G sh_0 pt_0_8 dX9_readsItem_260 H (fun s8 hs8 H => ?_)
                cases H
                exact x_vret G dX9_readsItem_263
              · have H := if_some_t H q7
                refine x_aload_n (j := 0) G dX9_readsItem_237 rfl rfl ?_
                refine x_iconst G dX9_readsItem_238 (by decide) ?_
                refine x_bipush G dX9_readsItem_239 (by decide) (by decide) ?_
                refine x_bipush G dX9_readsItem_241 (by decide) (by decide) ?_
                obtain ⟨r9, s10, c10, H⟩ := b2_some H
                refine cv_978 (As := [vI 1, vI 9, vI 59]) (rest := []) G (rX9_number  c10) sh_0 (by omega) rfl rfl (Nat.le_of_ble_eq_true rfl) dX9_readsItem_243 ?_
                refine x_istore_n (ls' := [(2, vI r9), (0, vR 0), (1, vI a1)]) G dX9_readsItem_246 rfl (by decide) rfl ?_
                refine x_aload_n (j := 1) G dX9_readsItem_247 rfl rfl ?_
                refine x_sipush G dX9_readsItem_248 (by decide) (by decide) ?_
                refine x_iload_n (j := 0) G dX9_readsItem_251 rfl rfl ?_
                obtain ⟨s12, c12, H⟩ := bd_some H
                refine cv_982 (As := [vI 182, vI r9]) (rest := []) G (rX9_puts  c12) sh_0 (by omega) rfl rfl (Nat.le_of_ble_eq_true rfl) dX9_readsItem_252 ?_
                refine x_goto (tgt := 263) G dX9_readsItem_255 (by decide) ?_
                cases H
                exact x_vret G dX9_readsItem_263
            · have H := if_some_t H q6
              refine x_aload_n (j := 0) G dX9_readsItem_197 rfl rfl ?_
              refine x_iconst G dX9_readsItem_198 (by decide) ?_
              refine x_bipush G dX9_readsItem_199 (by decide) (by decide) ?_
              refine x_bipush G dX9_readsItem_201 (by decide) (by decide) ?_
              obtain ⟨r13, s14, c14, H⟩ := b2_some H
              refine cv_978 (As := [vI 1, vI 9, vI 44]) (rest := []) G (rX9_number  c14) sh_0 (by omega) rfl rfl (Nat.le_of_ble_eq_true rfl) dX9_readsItem_203 ?_
              refine x_istore_n (ls' := [(2, vI r13), (0, vR 0), (1, vI a1)]) G dX9_readsItem_206 rfl (by decide) rfl ?_
              refine x_aload_n (j := 1) G dX9_readsItem_207 rfl rfl ?_
              refine x_iconst G dX9_readsItem_208 (by decide) ?_
              refine x_sipush G dX9_readsItem_209 (by decide) (by decide) ?_
              refine x_bipush G dX9_readsItem_212 (by decide) (by decide) ?_
              obtain ⟨r15, s16, c16, H⟩ := b2_some H
              refine cv_978 (As := [vI 0, vI 200, vI 59]) (rest := []) G (rX9_number  c16) sh_0 (by omega) rfl rfl (Nat.le_of_ble_eq_true rfl) dX9_readsItem_214 ?_
              refine x_istore_n (ls' := [(3, vI r15), (2, vI r13), (0, vR 0), (1, vI a1)]) G dX9_readsItem_217 rfl (by decide) rfl ?_
              refine x_aload_n (j := 2) G dX9_readsItem_218 rfl rfl ?_
              refine x_sipush G dX9_readsItem_219 (by decide) (by decide) ?_
              refine x_iload_n (j := 1) G dX9_readsItem_222 rfl rfl ?_
              refine x_iadd G dX9_readsItem_223 ?_
              refine x_iload_n (j := 0) G dX9_readsItem_224 rfl rfl ?_
              obtain ⟨s18, c18, H⟩ := bd_some H
              refine cv_982 (As := [vI (w32 (172 + r13)), vI r15]) (rest := []) G (rX9_puts  c18) sh_0 (by omega) rfl rfl (Nat.le_of_ble_eq_true rfl) dX9_readsItem_225 ?_
              refine x_goto (tgt := 263) G dX9_readsItem_228 (by decide) ?_
              cases H
              exact x_vret G dX9_readsItem_263
          · have H := if_some_t H q5
            refine x_aload_n (j := 0) G dX9_readsItem_124 rfl rfl ?_
            refine x_iconst G dX9_readsItem_125 (by decide) ?_
            refine x_aload_n (j := 0) G dX9_readsItem_126 rfl rfl ?_
            refine x_sipush G dX9_readsItem_127 (by decide) (by decide) ?_
            obtain ⟨r19, s20, c20, H⟩ := b2_some H
            refine cv_974 (As := [vI 185]) (rest := [vI 0, vR 0]) G (rX9_draft  c20) sh_0 (by omega) rfl rfl (Nat.le_of_ble_eq_true rfl) dX9_readsItem_130 ?_
            refine x_iconst G dX9_readsItem_133 (by decide) ?_
            refine x_isub G dX9_readsItem_134 ?_
            refine x_bipush G dX9_readsItem_135 (by decide) (by decide) ?_
            obtain ⟨r21, s22, c22, H⟩ := b2_some H
            refine cv_978 (As := [vI 0, vI (w32 (r19 - 1)), vI 44]) (rest := []) G (rX9_number  c22) sh_0 (by omega) rfl rfl (Nat.le_of_ble_eq_true rfl) dX9_readsItem_137 ?_
            refine x_istore_n (ls' := [(2, vI r21), (0, vR 0), (1, vI a1)]) G dX9_readsItem_140 rfl (by decide) rfl ?_
            refine x_aload_n (j := 1) G dX9_readsItem_141 rfl rfl ?_
            refine x_iconst G dX9_readsItem_142 (by decide) ?_
            refine x_bipush G dX9_readsItem_143 (by decide) (by decide) ?_
            refine x_bipush G dX9_readsItem_145 (by decide) (by decide) ?_
            obtain ⟨r23, s24, c24, H⟩ := b2_some H
            refine cv_978 (As := [vI 0, vI 23, vI 44]) (rest := []) G (rX9_number  c24) sh_0 (by omega) rfl rfl (Nat.le_of_ble_eq_true rfl) dX9_readsItem_147 ?_
            refine x_istore_n (ls' := [(3, vI r23), (2, vI r21), (0, vR 0), (1, vI a1)]) G dX9_readsItem_150 rfl (by decide) rfl ?_
            refine x_aload_n (j := 2) G dX9_readsItem_151 rfl rfl ?_
            refine x_iconst G dX9_readsItem_152 (by decide) ?_
            refine x_bipush G dX9_readsItem_153 (by decide) (by decide) ?_
            refine x_bipush G dX9_readsItem_155 (by decide) (by decide) ?_
            obtain ⟨r25, s26, c26, H⟩ := b2_some H
            refine cv_978 (As := [vI 0, vI 9, vI 59]) (rest := []) G (rX9_number  c26) sh_0 (by omega) rfl rfl (Nat.le_of_ble_eq_true rfl) dX9_readsItem_157 ?_
            refine x_istore (ls' := [(4, vI r25), (3, vI r23), (2, vI r21), (0, vR 0), (1, vI a1)]) G dX9_readsItem_160 (by decide) rfl ?_
            refine x_aload_n (j := 3) G dX9_readsItem_162 rfl rfl ?_
            refine x_bipush G dX9_readsItem_163 (by decide) (by decide) ?_
            refine x_aload_n (j := 3) G dX9_readsItem_165 rfl rfl ?_
            refine gf_885 G sh_0 pt_0_8 dX9_readsItem_166 ?_
            refine x_if_eq (tgt := 181) G dX9_readsItem_169 (by decide) (fun q27 => ?_) (fun q27 => ?_)
            · have H := if_some_t H q27
              refine x_iconst G dX9_readsItem_181 (by decide) ?_
              exact x_subp (ls' := [(4, vI r25)]) [0] rfl (tX9_readsItem_182 G  H)
            · have H := if_some_f H q27
              refine x_bipush G dX9_readsItem_172 (by decide) (by decide) ?_
              refine x_iload_n (j := 2) G dX9_readsItem_174 rfl rfl ?_
              refine x_imul G dX9_readsItem_175 ?_
              refine x_iload_n (j := 1) G dX9_readsItem_176 rfl rfl ?_
              refine x_iadd G dX9_readsItem_177 ?_
              refine x_goto (tgt := 182) G dX9_readsItem_178 (by decide) ?_
              exact x_subp (ls' := [(4, vI r25)]) [0] rfl (tX9_readsItem_182 G  H)
        · have H := if_some_t H q4
          refine x_aload_n (j := 0) G dX9_readsItem_45 rfl rfl ?_
          refine x_iconst G dX9_readsItem_46 (by decide) ?_
          refine x_aload_n (j := 0) G dX9_readsItem_47 rfl rfl ?_
          refine x_sipush G dX9_readsItem_48 (by decide) (by decide) ?_
          obtain ⟨r28, s29, c29, H⟩ := b2_some H
          refine cv_974 (As := [vI 184]) (rest := [vI 0, vR 0]) G (rX9_draft  c29) sh_0 (by omega) rfl rfl (Nat.le_of_ble_eq_true rfl) dX9_readsItem_51 ?_
          refine x_iconst G dX9_readsItem_54 (by decide) ?_
          refine x_isub G dX9_readsItem_55 ?_
          refine x_bipush G dX9_readsItem_56 (by decide) (by decide) ?_
          obtain ⟨r30, s31, c31, H⟩ := b2_some H
          refine cv_978 (As := [vI 0, vI (w32 (r28 - 1)), vI 44]) (rest := []) G (rX9_number  c31) sh_0 (by omega) rfl rfl (Nat.le_of_ble_eq_true rfl) dX9_readsItem_58 ?_
          refine x_istore_n (ls' := [(2, vI r30), (0, vR 0), (1, vI a1)]) G dX9_readsItem_61 rfl (by decide) rfl ?_
          refine x_aload_n (j := 1) G dX9_readsItem_62 rfl rfl ?_
          refine x_iconst G dX9_readsItem_63 (by decide) ?_
          refine x_aload_n (j := 1) G dX9_readsItem_64 rfl rfl ?_
          refine x_sipush G dX9_readsItem_65 (by decide) (by decide) ?_
          obtain ⟨r32, s33, c33, H⟩ := b2_some H
          refine cv_974 (As := [vI 183]) (rest := [vI 0, vR 0]) G (rX9_draft  c33) sh_0 (by omega) rfl rfl (Nat.le_of_ble_eq_true rfl) dX9_readsItem_68 ?_
          refine x_iconst G dX9_readsItem_71 (by decide) ?_
          refine x_isub G dX9_readsItem_72 ?_
          refine x_bipush G dX9_readsItem_73 (by decide) (by decide) ?_
          obtain ⟨r34, s35, c35, H⟩ := b2_some H
          refine cv_978 (As := [vI 0, vI (w32 (r32 - 1)), vI 44]) (rest := []) G (rX9_number  c35) sh_0 (by omega) rfl rfl (Nat.le_of_ble_eq_true rfl) dX9_readsItem_75 ?_
          refine x_istore_n (ls' := [(3, vI r34), (2, vI r30), (0, vR 0), (1, vI a1)]) G dX9_readsItem_78 rfl (by decide) rfl ?_
          refine x_aload_n (j := 2) G dX9_readsItem_79 rfl rfl ?_
          refine x_iconst G dX9_readsItem_80 (by decide) ?_
          refine x_bipush G dX9_readsItem_81 (by decide) (by decide) ?_
          refine x_bipush G dX9_readsItem_83 (by decide) (by decide) ?_
          obtain ⟨r36, s37, c37, H⟩ := b2_some H
          refine cv_978 (As := [vI 1, vI 99, vI 59]) (rest := []) G (rX9_number  c37) sh_0 (by omega) rfl rfl (Nat.le_of_ble_eq_true rfl) dX9_readsItem_85 ?_
          refine x_istore (ls' := [(4, vI r36), (3, vI r34), (2, vI r30), (0, vR 0), (1, vI a1)]) G dX9_readsItem_88 (by decide) rfl ?_
          refine x_aload_n (j := 3) G dX9_readsItem_90 rfl rfl ?_
          refine x_bipush G dX9_readsItem_91 (by decide) (by decide) ?_
          refine x_aload_n (j := 3) G dX9_readsItem_93 rfl rfl ?_
          refine gf_885 G sh_0 pt_0_8 dX9_readsItem_94 ?_
          refine x_if_eq (tgt := 108) G dX9_readsItem_97 (by decide) (fun q38 => ?_) (fun q38 => ?_)
          · have H := if_some_t H q38
            refine x_iconst G dX9_readsItem_108 (by decide) ?_
            exact x_subp (ls' := [(4, vI r36)]) [0] rfl (tX9_readsItem_109 G  H)
          · have H := if_some_f H q38
            refine x_iconst G dX9_readsItem_100 (by decide) ?_
            refine x_iload_n (j := 2) G dX9_readsItem_101 rfl rfl ?_
            refine x_imul G dX9_readsItem_102 ?_
            refine x_iload_n (j := 1) G dX9_readsItem_103 rfl rfl ?_
            refine x_iadd G dX9_readsItem_104 ?_
            refine x_goto (tgt := 109) G dX9_readsItem_105 (by decide) ?_
            exact x_subp (ls' := [(4, vI r36)]) [0] rfl (tX9_readsItem_109 G  H)
      · have H := if_some_t H q3
        refine x_aload_n (j := 0) G dX9_readsItem_32 rfl rfl ?_
        obtain ⟨s40, c40, H⟩ := bd_some H
        refine cv_990 (As := []) (rest := []) G (rX9_readsStorm  c40) sh_0 (by omega) rfl rfl (Nat.le_of_ble_eq_true rfl) dX9_readsItem_33 ?_
        refine x_goto (tgt := 263) G dX9_readsItem_36 (by decide) ?_
        cases H
        exact x_vret G dX9_readsItem_263
    · have H := if_some_t H q2
      refine x_aload_n (j := 0) G dX9_readsItem_19 rfl rfl ?_
      obtain ⟨s42, c42, H⟩ := bd_some H
      refine cv_986 (As := []) (rest := []) G (rX9_readsSort  c42) sh_0 (by omega) rfl rfl (Nat.le_of_ble_eq_true rfl) dX9_readsItem_20 ?_
      refine x_goto (tgt := 263) G dX9_readsItem_23 (by decide) ?_
      cases H
      exact x_vret G dX9_readsItem_263
  · have H := if_some_t H q1
    refine x_aload_n (j := 0) G dX9_readsItem_6 rfl rfl ?_
    obtain ⟨s44, c44, H⟩ := bd_some H
    refine cv_970 (As := []) (rest := []) G (rX9_readsHarbour  c44) sh_0 (by omega) rfl rfl (Nat.le_of_ble_eq_true rfl) dX9_readsItem_7 ?_
    refine x_goto (tgt := 263) G dX9_readsItem_10 (by decide) ?_
    cases H
    exact x_vret G dX9_readsItem_263
def fX9_reads_17  : Nat → Mem → Option (Int × Mem)
  | 0, _ => none
  | n + 1, s =>
  if (s 0 6) ≤ (s 0 7) then
    some ((-4), s)
  else
    lt' (s 0 7) fun v2 =>
    b2 (fX9_byteAt (s 0 7) s) fun r3 s4 =>
    lt' (mu s4 0 7 (w32 ((s4 0 7) + 1))) fun s5 =>
    (fX9_readsItem r3 s5).bind fun s7 =>
    if (s7 0 8) = 0 then
      some (v2, s7)
    else
      fX9_reads_17 n  s7
set_option maxHeartbeats 4000000 in
theorem tX9_reads_17 {E : En} {b : Bn} {xf : Int} {sf : Mem}  (G : ab_G E b cX9_reads 3 RX9 (some .int) 4)  : ∀ (n : Nat)  {s : Mem}, fX9_reads_17 n  s = some (xf, sf) → ab_X E b (ab_MQ E b (some (vI xf)) sf) 3 17 [(0, vR 0)] [] s := by
  intro n
  induction n with
  | zero => intro s H; rw [fX9_reads_17] at H; cases H
  | succ n ih =>
    intro s H
    rw [fX9_reads_17] at H
    refine x_aload_n (j := 0) G dX9_reads_17 rfl rfl ?_
    refine gf_884 G sh_0 pt_0_7 dX9_reads_18 ?_
    refine x_aload_n (j := 0) G dX9_reads_21 rfl rfl ?_
    refine gf_883 G sh_0 pt_0_6 dX9_reads_22 ?_
    refine x_icmp_ge (tgt := 69) G dX9_reads_25 (by decide) (fun q1 => ?_) (fun q1 => ?_)
    · have H := if_some_t H q1
      refine x_bipush G dX9_reads_69 (by decide) (by decide) ?_
      cases H
      exact x_iret G dX9_reads_71
    · have H := if_some_f H q1
      refine x_aload_n (j := 0) G dX9_reads_28 rfl rfl ?_
      refine gf_884 G sh_0 pt_0_7 dX9_reads_29 ?_
      refine x_let H (fun v2 hv2 H => ?_)
      refine x_istore_n (ls' := [(1, vI v2), (0, vR 0)]) G dX9_reads_32 rfl (by decide) rfl ?_
      refine x_aload_n (j := 1) G dX9_reads_33 rfl rfl ?_
      refine x_aload_n (j := 1) G dX9_reads_34 rfl rfl ?_
      refine gf_884 G sh_0 pt_0_7 dX9_reads_35 ?_
      obtain ⟨r3, s4, c4, H⟩ := b2_some H
      refine cv_962 (As := [vI (s 0 7)]) (rest := []) G (rX9_byteAt  c4) sh_0 (by omega) rfl rfl (Nat.le_of_ble_eq_true rfl) dX9_reads_38 ?_
      refine x_istore_n (ls' := [(2, vI r3), (1, vI v2), (0, vR 0)]) G dX9_reads_41 rfl (by decide) rfl ?_
      refine x_aload_n (j := 2) G dX9_reads_42 rfl rfl ?_
      refine x_dup G dX9_reads_43 rfl ?_
      refine gf_884 G sh_0 pt_0_7 dX9_reads_44 ?_
      refine x_iconst G dX9_reads_47 (by decide) ?_
      refine x_iadd G dX9_reads_48 ?_
      refine pf_884 G sh_0 pt_0_7 dX9_reads_49 H (fun s5 hs5 H => ?_)
      refine x_aload_n (j := 2) G dX9_reads_52 rfl rfl ?_
      refine x_iload_n (j := 0) G dX9_reads_53 rfl rfl ?_
      obtain ⟨s7, c7, H⟩ := bd_some H
      refine cv_966 (As := [vI r3]) (rest := []) G (rX9_readsItem  c7) sh_0 (by omega) rfl rfl (Nat.le_of_ble_eq_true rfl) dX9_reads_54 ?_
      refine x_aload_n (j := 2) G dX9_reads_57 rfl rfl ?_
      refine gf_885 G sh_0 pt_0_8 dX9_reads_58 ?_
      refine x_if_ne (tgt := 66) G dX9_reads_61 (by decide) (fun q8 => ?_) (fun q8 => ?_)
      · have H := if_some_f H q8
        refine x_goto (tgt := 17) G dX9_reads_66 (by decide) ?_
        exact x_subp (ls' := [(0, vR 0)]) [2] rfl (ih H)
      · have H := if_some_t H q8
        refine x_iload_n (j := 1) G dX9_reads_64 rfl rfl ?_
        cases H
        exact x_iret G dX9_reads_65
def fX9_reads  (s : Mem) : Option (Int × Mem) :=
  (fX9_begins 186 s).bind fun s2 =>
  lt' (mu s2 0 7 0) fun s3 =>
  lt' (mu s3 0 8 1) fun s4 =>
  fX9_reads_17 600  s4
set_option maxHeartbeats 4000000 in
theorem rX9_reads {E : En} {xf : Int} {sf : Mem}  {s : Mem}  (H : fX9_reads  s = some (xf, sf)) : ab_Run E 4 yX9_reads cX9_reads 3 (some .int) [vR 0] (some (vI xf)) s sf := by
  unfold fX9_reads at H
  refine ab_intro (own := RX9) (by decide +kernel) rfl (Nat.le_of_ble_eq_true rfl) rfl (fun b G => ?_)
  refine x_aload_n (j := 0) G dX9_reads_0 rfl rfl ?_
  refine x_sipush G dX9_reads_1 (by decide) (by decide) ?_
  obtain ⟨s2, c2, H⟩ := bd_some H
  refine cv_869 (As := [vI 186]) (rest := []) G (rX9_begins  c2) sh_0 (by omega) rfl rfl (Nat.le_of_ble_eq_true rfl) dX9_reads_4 ?_
  refine x_aload_n (j := 0) G dX9_reads_7 rfl rfl ?_
  refine x_iconst G dX9_reads_8 (by decide) ?_
  refine pf_884 G sh_0 pt_0_7 dX9_reads_9 H (fun s3 hs3 H => ?_)
  refine x_aload_n (j := 0) G dX9_reads_12 rfl rfl ?_
  refine x_iconst G dX9_reads_13 (by decide) ?_
  refine pf_885 (by decide) G sh_0 pt_0_8 dX9_reads_14 H (fun s4 hs4 H => ?_)
  exact x_subp (ls' := [(0, vR 0)]) [0] rfl (tX9_reads_17 G 600 H)
def fX9_fault  (s : Mem) : Option (Int × Mem) :=
  lt' (mu s 0 0 0) fun s1 =>
  b2 (fX9_reads  s1) fun r2 s3 =>
  some (r2, s3)
set_option maxHeartbeats 4000000 in
theorem rX9_fault {E : En} {xf : Int} {sf : Mem}  {s : Mem}  (H : fX9_fault  s = some (xf, sf)) : ab_Run E 5 yX9_fault cX9_fault 1 (some .int) [vR 0] (some (vI xf)) s sf := by
  unfold fX9_fault at H
  refine ab_intro (own := RX9) (by decide +kernel) rfl (Nat.le_of_ble_eq_true rfl) rfl (fun b G => ?_)
  refine x_aload_n (j := 0) G dX9_fault_0 rfl rfl ?_
  refine x_iconst G dX9_fault_1 (by decide) ?_
  refine pf_877 G sh_0 pt_0_0 dX9_fault_2 H (fun s1 hs1 H => ?_)
  refine x_aload_n (j := 0) G dX9_fault_5 rfl rfl ?_
  obtain ⟨r2, s3, c3, H⟩ := b2_some H
  refine cv_958 (As := []) (rest := []) G (rX9_reads  c3) sh_0 (by omega) rfl rfl (Nat.le_of_ble_eq_true rfl) dX9_fault_6 ?_
  cases H
  exact x_iret G dX9_fault_9
def fX9_lay_94  : Nat → Int → Mem → Option (Int × Mem)
  | 0, _, _ => none
  | n + 1, p3, s =>
  if 186 ≤ p3 then
    (fX9_anew  s).bind fun s3 =>
    (rdI s3 1 184).bind fun x4 =>
    some (x4, s3)
  else
    (rdI s 1 (w32 (186 + p3))).bind fun x5 =>
    (wrI s 1 p3 x5).bind fun s6 =>
    lt' (w32 (p3 + 1)) fun v7 =>
    fX9_lay_94 n v7 s6
set_option maxHeartbeats 4000000 in
theorem tX9_lay_94 {E : En} {b : Bn} {xf : Int} {sf : Mem}  (G : ab_G E b cX9_lay 4 RX9 (some .int) 5)  : ∀ (n : Nat) {p3 : Int} {s : Mem}, fX9_lay_94 n p3 s = some (xf, sf) → ab_X E b (ab_MQ E b (some (vI xf)) sf) 4 94 [(0, vR 0), (3, vI p3)] [] s := by
  intro n
  induction n with
  | zero => intro p3 s H; rw [fX9_lay_94] at H; cases H
  | succ n ih =>
    intro p3 s H
    rw [fX9_lay_94] at H
    refine x_iload_n (j := 1) G dX9_lay_94 rfl rfl ?_
    refine x_sipush G dX9_lay_95 (by decide) (by decide) ?_
    refine x_icmp_ge (tgt := 123) G dX9_lay_98 (by decide) (fun q1 => ?_) (fun q1 => ?_)
    · have H := if_some_t H q1
      refine x_aload_n (j := 0) G dX9_lay_123 rfl rfl ?_
      obtain ⟨s3, c3, H⟩ := bd_some H
      refine cv_873 (As := []) (rest := []) G (rX9_anew  c3) sh_0 (by omega) rfl rfl (Nat.le_of_ble_eq_true rfl) dX9_lay_124 ?_
      refine x_aload_n (j := 0) G dX9_lay_127 rfl rfl ?_
      refine gf_878 G sh_0 pt_0_1 dX9_lay_128 ?_
      refine x_sipush G dX9_lay_131 (by decide) (by decide) ?_
      refine x_iald G dX9_lay_134 H (fun x4 hx4 H => ?_)
      cases H
      exact x_iret G dX9_lay_135
    · have H := if_some_f H q1
      refine x_aload_n (j := 0) G dX9_lay_101 rfl rfl ?_
      refine gf_878 G sh_0 pt_0_1 dX9_lay_102 ?_
      refine x_iload_n (j := 1) G dX9_lay_105 rfl rfl ?_
      refine x_aload_n (j := 0) G dX9_lay_106 rfl rfl ?_
      refine gf_878 G sh_0 pt_0_1 dX9_lay_107 ?_
      refine x_sipush G dX9_lay_110 (by decide) (by decide) ?_
      refine x_iload_n (j := 1) G dX9_lay_113 rfl rfl ?_
      refine x_iadd G dX9_lay_114 ?_
      refine x_iald G dX9_lay_115 H (fun x5 hx5 H => ?_)
      refine x_iast G dX9_lay_116 H (fun s6 hs6 H => ?_)
      refine x_iincL (j := 1) G dX9_lay_117 rfl (by decide) H (fun v7 hv7 H => x_ls (ls' := [(3, vI v7), (0, vR 0)]) rfl ?_)
      refine x_goto (tgt := 94) G dX9_lay_120 (by decide) ?_
      exact x_subp (ls' := [(0, vR 0), (3, vI v7)]) [1, 0] rfl (ih H)
def fX9_lay_79  (p1 : Int) (p2 : Int) (s : Mem) : Option (Int × Mem) :=
  if p1 = 0 then
    some ((-2), s)
  else
    if p2 = 10 then
      fX9_lay_94 600 0 s
    else
      some ((-2), s)
set_option maxHeartbeats 4000000 in
theorem tX9_lay_79 {E : En} {b : Bn} {xf : Int} {sf : Mem}  {p1 : Int} {p2 : Int} {s : Mem} (G : ab_G E b cX9_lay 4 RX9 (some .int) 5)   (H : fX9_lay_79 p1 p2 s = some (xf, sf)) : ab_X E b (ab_MQ E b (some (vI xf)) sf) 4 79 [(0, vR 0), (1, vI p1), (2, vI p2)] [] s := by
  unfold fX9_lay_79 at H
  refine x_iload_n (j := 1) G dX9_lay_79 rfl rfl ?_
  refine x_if_eq (tgt := 89) G dX9_lay_80 (by decide) (fun q1 => ?_) (fun q1 => ?_)
  · have H := if_some_t H q1
    refine x_bipush G dX9_lay_89 (by decide) (by decide) ?_
    cases H
    exact x_iret G dX9_lay_91
  · have H := if_some_f H q1
    refine x_iload_n (j := 2) G dX9_lay_83 rfl rfl ?_
    refine x_bipush G dX9_lay_84 (by decide) (by decide) ?_
    refine x_icmp_eq (tgt := 92) G dX9_lay_86 (by decide) (fun q2 => ?_) (fun q2 => ?_)
    · have H := if_some_t H q2
      refine x_iconst G dX9_lay_92 (by decide) ?_
      refine x_istore_n (ls' := [(3, vI 0), (0, vR 0), (1, vI p1), (2, vI p2)]) G dX9_lay_93 rfl (by decide) rfl ?_
      exact x_subp (ls' := [(0, vR 0), (3, vI 0)]) [1, 0] rfl (tX9_lay_94 G 600 H)
    · have H := if_some_f H q2
      refine x_bipush G dX9_lay_89 (by decide) (by decide) ?_
      cases H
      exact x_iret G dX9_lay_91
def fX9_lay_44  : Nat → Int → Int → Int → Mem → Option (Int × Mem)
  | 0, _, _, _, _ => none
  | n + 1, p1, p2, p3, s =>
  b2 (fX9_draft 185 s) fun r1 s2 =>
  if r1 ≤ p3 then
    fX9_lay_79 p1 p2 s2
  else
    if p1 = 0 then
      fX9_lay_79 p1 p2 s2
    else
      b2 (fX9_draft (w32 (52 + (w32 (6 * p3)))) s2) fun r5 s6 =>
      lt' (w32 (p2 + r5)) fun v7 =>
      lt' (w32 (p3 + 1)) fun v8 =>
      fX9_lay_44 n p1 v7 v8 s6
set_option maxHeartbeats 4000000 in
theorem tX9_lay_44 {E : En} {b : Bn} {xf : Int} {sf : Mem}  (G : ab_G E b cX9_lay 4 RX9 (some .int) 5)  : ∀ (n : Nat) {p1 : Int} {p2 : Int} {p3 : Int} {s : Mem}, fX9_lay_44 n p1 p2 p3 s = some (xf, sf) → ab_X E b (ab_MQ E b (some (vI xf)) sf) 4 44 [(0, vR 0), (1, vI p1), (2, vI p2), (3, vI p3)] [] s := by
  intro n
  induction n with
  | zero => intro p1 p2 p3 s H; rw [fX9_lay_44] at H; cases H
  | succ n ih =>
    intro p1 p2 p3 s H
    rw [fX9_lay_44] at H
    refine x_iload_n (j := 3) G dX9_lay_44 rfl rfl ?_
    refine x_aload_n (j := 0) G dX9_lay_45 rfl rfl ?_
    refine x_sipush G dX9_lay_46 (by decide) (by decide) ?_
    obtain ⟨r1, s2, c2, H⟩ := b2_some H
    refine cv_974 (As := [vI 185]) (rest := [vI p3]) G (rX9_draft  c2) sh_0 (by omega) rfl rfl (Nat.le_of_ble_eq_true rfl) dX9_lay_49 ?_
    refine x_icmp_ge (tgt := 79) G dX9_lay_52 (by decide) (fun q3 => ?_) (fun q3 => ?_)
    · have H := if_some_t H q3
      exact x_subp (ls' := [(0, vR 0), (1, vI p1), (2, vI p2)]) [0, 1, 2] rfl (tX9_lay_79 G  H)
    · have H := if_some_f H q3
      refine x_iload_n (j := 1) G dX9_lay_55 rfl rfl ?_
      refine x_if_eq (tgt := 79) G dX9_lay_56 (by decide) (fun q4 => ?_) (fun q4 => ?_)
      · have H := if_some_t H q4
        exact x_subp (ls' := [(0, vR 0), (1, vI p1), (2, vI p2)]) [0, 1, 2] rfl (tX9_lay_79 G  H)
      · have H := if_some_f H q4
        refine x_iload_n (j := 2) G dX9_lay_59 rfl rfl ?_
        refine x_aload_n (j := 0) G dX9_lay_60 rfl rfl ?_
        refine x_bipush G dX9_lay_61 (by decide) (by decide) ?_
        refine x_bipush G dX9_lay_63 (by decide) (by decide) ?_
        refine x_iload_n (j := 3) G dX9_lay_65 rfl rfl ?_
        refine x_imul G dX9_lay_66 ?_
        refine x_iadd G dX9_lay_67 ?_
        obtain ⟨r5, s6, c6, H⟩ := b2_some H
        refine cv_974 (As := [vI (w32 (52 + (w32 (6 * p3))))]) (rest := [vI p2]) G (rX9_draft  c6) sh_0 (by omega) rfl rfl (Nat.le_of_ble_eq_true rfl) dX9_lay_68 ?_
        refine x_iadd G dX9_lay_71 ?_
        refine x_let H (fun v7 hv7 H => ?_)
        refine x_istore_n (ls' := [(2, vI v7), (0, vR 0), (1, vI p1), (3, vI p3)]) G dX9_lay_72 rfl (by decide) rfl ?_
        refine x_iincL (j := 3) G dX9_lay_73 rfl (by decide) H (fun v8 hv8 H => x_ls (ls' := [(3, vI v8), (2, vI v7), (0, vR 0), (1, vI p1)]) rfl ?_)
        refine x_goto (tgt := 44) G dX9_lay_76 (by decide) ?_
        exact x_subp (ls' := [(0, vR 0), (1, vI p1), (2, vI v7), (3, vI v8)]) [2, 3, 1, 0] rfl (ih H)
def fX9_lay_39  (t0 : Int) (s : Mem) : Option (Int × Mem) :=
  fX9_lay_44 600 t0 0 0 s
set_option maxHeartbeats 4000000 in
theorem tX9_lay_39 {E : En} {b : Bn} {xf : Int} {sf : Mem}  {t0 : Int} {s : Mem} (G : ab_G E b cX9_lay 4 RX9 (some .int) 5)   (H : fX9_lay_39 t0 s = some (xf, sf)) : ab_X E b (ab_MQ E b (some (vI xf)) sf) 4 39 [(0, vR 0)] [vI t0] s := by
  unfold fX9_lay_39 at H
  refine x_istore_n (ls' := [(1, vI t0), (0, vR 0)]) G dX9_lay_39 rfl (by decide) rfl ?_
  refine x_iconst G dX9_lay_40 (by decide) ?_
  refine x_istore_n (ls' := [(2, vI 0), (1, vI t0), (0, vR 0)]) G dX9_lay_41 rfl (by decide) rfl ?_
  refine x_iconst G dX9_lay_42 (by decide) ?_
  refine x_istore_n (ls' := [(3, vI 0), (2, vI 0), (1, vI t0), (0, vR 0)]) G dX9_lay_43 rfl (by decide) rfl ?_
  exact x_subp (ls' := [(0, vR 0), (1, vI t0), (2, vI 0), (3, vI 0)]) [3, 2, 1, 0] rfl (tX9_lay_44 G 600 H)
def fX9_lay_38   (s : Mem) : Option (Int × Mem) :=
  fX9_lay_39 0 s
set_option maxHeartbeats 4000000 in
theorem tX9_lay_38 {E : En} {b : Bn} {xf : Int} {sf : Mem}   {s : Mem} (G : ab_G E b cX9_lay 4 RX9 (some .int) 5)   (H : fX9_lay_38  s = some (xf, sf)) : ab_X E b (ab_MQ E b (some (vI xf)) sf) 4 38 [(0, vR 0)] [] s := by
  unfold fX9_lay_38 at H
  refine x_iconst G dX9_lay_38 (by decide) ?_
  exact x_subp (ls' := [(0, vR 0)]) [0] rfl (tX9_lay_39 G  H)
def fX9_lay  (s : Mem) : Option (Int × Mem) :=
  lt' (mu s 0 0 0) fun s1 =>
  b2 (fX9_reads  s1) fun r2 s3 =>
  if r2 = ((-4)) then
    b2 (fX9_draft 183 s3) fun r5 s6 =>
    if r5 ≤ 0 then
      fX9_lay_38  s6
    else
      b2 (fX9_draft 184 s6) fun r8 s9 =>
      if r8 ≤ 0 then
        fX9_lay_38  s9
      else
        fX9_lay_39 1 s9
  else
    fX9_lay_38  s3
set_option maxHeartbeats 4000000 in
theorem rX9_lay {E : En} {xf : Int} {sf : Mem}  {s : Mem}  (H : fX9_lay  s = some (xf, sf)) : ab_Run E 5 yX9_lay cX9_lay 4 (some .int) [vR 0] (some (vI xf)) s sf := by
  unfold fX9_lay at H
  refine ab_intro (own := RX9) (by decide +kernel) rfl (Nat.le_of_ble_eq_true rfl) rfl (fun b G => ?_)
  refine x_aload_n (j := 0) G dX9_lay_0 rfl rfl ?_
  refine x_iconst G dX9_lay_1 (by decide) ?_
  refine pf_877 G sh_0 pt_0_0 dX9_lay_2 H (fun s1 hs1 H => ?_)
  refine x_aload_n (j := 0) G dX9_lay_5 rfl rfl ?_
  obtain ⟨r2, s3, c3, H⟩ := b2_some H
  refine cv_958 (As := []) (rest := []) G (rX9_reads  c3) sh_0 (by omega) rfl rfl (Nat.le_of_ble_eq_true rfl) dX9_lay_6 ?_
  refine x_bipush G dX9_lay_9 (by decide) (by decide) ?_
  refine x_icmp_ne (tgt := 38) G dX9_lay_11 (by decide) (fun q4 => ?_) (fun q4 => ?_)
  · have H := if_some_f H q4
    exact x_subp (ls' := [(0, vR 0)]) [0] rfl (tX9_lay_38 G  H)
  · have H := if_some_t H q4
    refine x_aload_n (j := 0) G dX9_lay_14 rfl rfl ?_
    refine x_sipush G dX9_lay_15 (by decide) (by decide) ?_
    obtain ⟨r5, s6, c6, H⟩ := b2_some H
    refine cv_974 (As := [vI 183]) (rest := []) G (rX9_draft  c6) sh_0 (by omega) rfl rfl (Nat.le_of_ble_eq_true rfl) dX9_lay_18 ?_
    refine x_if_le (tgt := 38) G dX9_lay_21 (by decide) (fun q7 => ?_) (fun q7 => ?_)
    · have H := if_some_t H q7
      exact x_subp (ls' := [(0, vR 0)]) [0] rfl (tX9_lay_38 G  H)
    · have H := if_some_f H q7
      refine x_aload_n (j := 0) G dX9_lay_24 rfl rfl ?_
      refine x_sipush G dX9_lay_25 (by decide) (by decide) ?_
      obtain ⟨r8, s9, c9, H⟩ := b2_some H
      refine cv_974 (As := [vI 184]) (rest := []) G (rX9_draft  c9) sh_0 (by omega) rfl rfl (Nat.le_of_ble_eq_true rfl) dX9_lay_28 ?_
      refine x_if_le (tgt := 38) G dX9_lay_31 (by decide) (fun q10 => ?_) (fun q10 => ?_)
      · have H := if_some_t H q10
        exact x_subp (ls' := [(0, vR 0)]) [0] rfl (tX9_lay_38 G  H)
      · have H := if_some_f H q10
        refine x_iconst G dX9_lay_34 (by decide) ?_
        refine x_goto (tgt := 39) G dX9_lay_35 (by decide) ?_
        exact x_subp (ls' := [(0, vR 0)]) [0] rfl (tX9_lay_39 G  H)
def fX9_isStorm (a1 : Int) (s : Mem) : Option (Int × Mem) :=
  (rdI s 1 185).bind fun x1 =>
  b2 (fX9_isIn a1 0 (w32 (x1 - 1)) s) fun r2 s3 =>
  ck (r2 = 0 ∨ r2 = 1) <| some (r2, s3)
set_option maxHeartbeats 4000000 in
theorem rX9_isStorm {E : En} {xf : Int} {sf : Mem} {a1 : Int} {s : Mem}  (H : fX9_isStorm a1 s = some (xf, sf)) : ab_Run E 1 yX9_isStorm cX9_isStorm 2 (some .boolean) [vR 0, vI a1] (some (vI xf)) s sf := by
  unfold fX9_isStorm at H
  refine ab_intro (own := RX9) (by decide +kernel) rfl (Nat.le_of_ble_eq_true rfl) rfl (fun b G => ?_)
  refine x_iload_n (j := 1) G dX9_isStorm_0 rfl rfl ?_
  refine x_iconst G dX9_isStorm_1 (by decide) ?_
  refine x_aload_n (j := 0) G dX9_isStorm_2 rfl rfl ?_
  refine gf_878 G sh_0 pt_0_1 dX9_isStorm_3 ?_
  refine x_sipush G dX9_isStorm_6 (by decide) (by decide) ?_
  refine x_iald G dX9_isStorm_9 H (fun x1 hx1 H => ?_)
  refine x_iconst G dX9_isStorm_10 (by decide) ?_
  refine x_isub G dX9_isStorm_11 ?_
  obtain ⟨r2, s3, c3, H⟩ := b2_some H
  refine cs_946 (As := [vI a1, vI 0, vI (w32 (x1 - 1))]) (rest := []) G (rX9_isIn  c3) (by omega) rfl rfl (Nat.le_of_ble_eq_true rfl) dX9_isStorm_12 ?_
  obtain ⟨h01, H⟩ := ck_some H
  cases H
  exact x_zret G h01 dX9_isStorm_15
def fX9_isSort (a1 : Int) (s : Mem) : Option (Int × Mem) :=
  (rdI s 1 184).bind fun x1 =>
  b2 (fX9_isIn a1 0 (w32 (x1 - 1)) s) fun r2 s3 =>
  ck (r2 = 0 ∨ r2 = 1) <| some (r2, s3)
set_option maxHeartbeats 4000000 in
theorem rX9_isSort {E : En} {xf : Int} {sf : Mem} {a1 : Int} {s : Mem}  (H : fX9_isSort a1 s = some (xf, sf)) : ab_Run E 1 yX9_isSort cX9_isSort 2 (some .boolean) [vR 0, vI a1] (some (vI xf)) s sf := by
  unfold fX9_isSort at H
  refine ab_intro (own := RX9) (by decide +kernel) rfl (Nat.le_of_ble_eq_true rfl) rfl (fun b G => ?_)
  refine x_iload_n (j := 1) G dX9_isSort_0 rfl rfl ?_
  refine x_iconst G dX9_isSort_1 (by decide) ?_
  refine x_aload_n (j := 0) G dX9_isSort_2 rfl rfl ?_
  refine gf_878 G sh_0 pt_0_1 dX9_isSort_3 ?_
  refine x_sipush G dX9_isSort_6 (by decide) (by decide) ?_
  refine x_iald G dX9_isSort_9 H (fun x1 hx1 H => ?_)
  refine x_iconst G dX9_isSort_10 (by decide) ?_
  refine x_isub G dX9_isSort_11 ?_
  obtain ⟨r2, s3, c3, H⟩ := b2_some H
  refine cs_946 (As := [vI a1, vI 0, vI (w32 (x1 - 1))]) (rest := []) G (rX9_isIn  c3) (by omega) rfl rfl (Nat.le_of_ble_eq_true rfl) dX9_isSort_12 ?_
  obtain ⟨h01, H⟩ := ck_some H
  cases H
  exact x_zret G h01 dX9_isSort_15
def fX9_isHarbour (a1 : Int) (s : Mem) : Option (Int × Mem) :=
  (rdI s 1 183).bind fun x1 =>
  b2 (fX9_isIn a1 0 (w32 (x1 - 1)) s) fun r2 s3 =>
  ck (r2 = 0 ∨ r2 = 1) <| some (r2, s3)
set_option maxHeartbeats 4000000 in
theorem rX9_isHarbour {E : En} {xf : Int} {sf : Mem} {a1 : Int} {s : Mem}  (H : fX9_isHarbour a1 s = some (xf, sf)) : ab_Run E 1 yX9_isHarbour cX9_isHarbour 2 (some .boolean) [vR 0, vI a1] (some (vI xf)) s sf := by
  unfold fX9_isHarbour at H
  refine ab_intro (own := RX9) (by decide +kernel) rfl (Nat.le_of_ble_eq_true rfl) rfl (fun b G => ?_)
  refine x_iload_n (j := 1) G dX9_isHarbour_0 rfl rfl ?_
  refine x_iconst G dX9_isHarbour_1 (by decide) ?_
  refine x_aload_n (j := 0) G dX9_isHarbour_2 rfl rfl ?_
  refine gf_878 G sh_0 pt_0_1 dX9_isHarbour_3 ?_
  refine x_sipush G dX9_isHarbour_6 (by decide) (by decide) ?_
  refine x_iald G dX9_isHarbour_9 H (fun x1 hx1 H => ?_)
  refine x_iconst G dX9_isHarbour_10 (by decide) ?_
  refine x_isub G dX9_isHarbour_11 ?_
  obtain ⟨r2, s3, c3, H⟩ := b2_some H
  refine cs_946 (As := [vI a1, vI 0, vI (w32 (x1 - 1))]) (rest := []) G (rX9_isIn  c3) (by omega) rfl rfl (Nat.le_of_ble_eq_true rfl) dX9_isHarbour_12 ?_
  obtain ⟨h01, H⟩ := ck_some H
  cases H
  exact x_zret G h01 dX9_isHarbour_15
def fX9_strength (a1 : Int) (a2 : Int) (s : Mem) : Option (Int × Mem) :=
  lt' (w32 (52 + (w32 (6 * a1)))) fun v1 =>
  (rdI s 1 (w32 (v1 + 1))).bind fun x2 =>
  lt' (w32 (a2 - x2)) fun v3 =>
  if v3 < 0 then
    some (0, s)
  else
    (rdI s 1 (w32 (v1 + 4))).bind fun x5 =>
    if v3 < x5 then
      (rdI s 1 (w32 (v1 + 2))).bind fun x7 =>
      lt' (w32 (x7 * (w32 (v3 + 1)))) fun v8 =>
      (rdI s 1 (w32 (v1 + 3))).bind fun x9 =>
      if x9 ≤ v8 then
        (rdI s 1 (w32 (v1 + 3))).bind fun x11 =>
        some (x11, s)
      else
        some (v8, s)
    else
      some (0, s)
set_option maxHeartbeats 4000000 in
theorem rX9_strength {E : En} {xf : Int} {sf : Mem} {a1 : Int} {a2 : Int} {s : Mem}  (H : fX9_strength a1 a2 s = some (xf, sf)) : ab_Run E 0 yX9_strength cX9_strength 6 (some .int) [vR 0, vI a1, vI a2] (some (vI xf)) s sf := by
  unfold fX9_strength at H
  refine ab_intro (own := RX9) (by decide +kernel) rfl (Nat.le_of_ble_eq_true rfl) rfl (fun b G => ?_)
  refine x_bipush G dX9_strength_0 (by decide) (by decide) ?_
  refine x_bipush G dX9_strength_2 (by decide) (by decide) ?_
  refine x_iload_n (j := 1) G dX9_strength_4 rfl rfl ?_
  refine x_imul G dX9_strength_5 ?_
  refine x_iadd G dX9_strength_6 ?_
  refine x_let H (fun v1 hv1 H => ?_)
  refine x_istore_n (ls' := [(3, vI v1), (0, vR 0), (1, vI a1), (2, vI a2)]) G dX9_strength_7 rfl (by decide) rfl ?_
  refine x_iload_n (j := 3) G dX9_strength_8 rfl rfl ?_
  refine x_aload_n (j := 1) G dX9_strength_9 rfl rfl ?_
  refine gf_878 G sh_0 pt_0_1 dX9_strength_10 ?_
  refine x_iload_n (j := 0) G dX9_strength_13 rfl rfl ?_
  refine x_iconst G dX9_strength_14 (by decide) ?_
  refine x_iadd G dX9_strength_15 ?_
  refine x_iald G dX9_strength_16 H (fun x2 hx2 H => ?_)
  refine x_isub G dX9_strength_17 ?_
  refine x_let H (fun v3 hv3 H => ?_)
  refine x_istore (ls' := [(4, vI v3), (3, vI v1), (0, vR 0), (1, vI a1), (2, vI a2)]) G dX9_strength_18 (by decide) rfl ?_
  refine x_iload (j := 0) G dX9_strength_20 rfl ?_
  refine x_if_lt (tgt := 38) G dX9_strength_22 (by decide) (fun q4 => ?_) (fun q4 => ?_)
  · have H := if_some_t H q4
    refine x_iconst G dX9_strength_38 (by decide) ?_
    cases H
    exact x_iret G dX9_strength_39
  · have H := if_some_f H q4
    refine x_iload (j := 0) G dX9_strength_25 rfl ?_
    refine x_aload_n (j := 2) G dX9_strength_27 rfl rfl ?_
    refine gf_878 G sh_0 pt_0_1 dX9_strength_28 ?_
    refine x_iload_n (j := 1) G dX9_strength_31 rfl rfl ?_
    refine x_iconst G dX9_strength_32 (by decide) ?_
    refine x_iadd G dX9_strength_33 ?_
    refine x_iald G dX9_strength_34 H (fun x5 hx5 H => ?_)
    refine x_icmp_lt (tgt := 40) G dX9_strength_35 (by decide) (fun q6 => ?_) (fun q6 => ?_)
    · have H := if_some_t H q6
      refine x_aload_n (j := 2) G dX9_strength_40 rfl rfl ?_
      refine gf_878 G sh_0 pt_0_1 dX9_strength_41 ?_
      refine x_iload_n (j := 1) G dX9_strength_44 rfl rfl ?_
      refine x_iconst G dX9_strength_45 (by decide) ?_
      refine x_iadd G dX9_strength_46 ?_
      refine x_iald G dX9_strength_47 H (fun x7 hx7 H => ?_)
      refine x_iload (j := 0) G dX9_strength_48 rfl ?_
      refine x_iconst G dX9_strength_50 (by decide) ?_
      refine x_iadd G dX9_strength_51 ?_
      refine x_imul G dX9_strength_52 ?_
      refine x_let H (fun v8 hv8 H => ?_)
      refine x_istore (ls' := [(5, vI v8), (4, vI v3), (3, vI v1), (0, vR 0), (1, vI a1), (2, vI a2)]) G dX9_strength_53 (by decide) rfl ?_
      refine x_iload (j := 0) G dX9_strength_55 rfl ?_
      refine x_aload_n (j := 3) G dX9_strength_57 rfl rfl ?_
      refine gf_878 G sh_0 pt_0_1 dX9_strength_58 ?_
      refine x_iload_n (j := 2) G dX9_strength_61 rfl rfl ?_
      refine x_iconst G dX9_strength_62 (by decide) ?_
      refine x_iadd G dX9_strength_63 ?_
      refine x_iald G dX9_strength_64 H (fun x9 hx9 H => ?_)
      refine x_icmp_ge (tgt := 73) G dX9_strength_65 (by decide) (fun q10 => ?_) (fun q10 => ?_)
      · have H := if_some_t H q10
        refine x_aload_n (j := 3) G dX9_strength_73 rfl rfl ?_
        refine gf_878 G sh_0 pt_0_1 dX9_strength_74 ?_
        refine x_iload_n (j := 2) G dX9_strength_77 rfl rfl ?_
        refine x_iconst G dX9_strength_78 (by decide) ?_
        refine x_iadd G dX9_strength_79 ?_
        refine x_iald G dX9_strength_80 H (fun x11 hx11 H => ?_)
        cases H
        exact x_iret G dX9_strength_81
      · have H := if_some_f H q10
        refine x_iload (j := 0) G dX9_strength_68 rfl ?_
        refine x_goto (tgt := 81) G dX9_strength_70 (by decide) ?_
        cases H
        exact x_iret G dX9_strength_81
    · have H := if_some_f H q6
      refine x_iconst G dX9_strength_38 (by decide) ?_
      cases H
      exact x_iret G dX9_strength_39
def fX9_glass (a1 : Int) (a2 : Int) (s : Mem) : Option (Int × Mem) :=
  (rdI s 1 (w32 ((w32 (76 + (w32 (24 * a1)))) + a2))).bind fun x1 =>
  some (x1, s)
set_option maxHeartbeats 4000000 in
theorem rX9_glass {E : En} {xf : Int} {sf : Mem} {a1 : Int} {a2 : Int} {s : Mem}  (H : fX9_glass a1 a2 s = some (xf, sf)) : ab_Run E 0 yX9_glass cX9_glass 3 (some .int) [vR 0, vI a1, vI a2] (some (vI xf)) s sf := by
  unfold fX9_glass at H
  refine ab_intro (own := RX9) (by decide +kernel) rfl (Nat.le_of_ble_eq_true rfl) rfl (fun b G => ?_)
  refine x_aload_n (j := 0) G dX9_glass_0 rfl rfl ?_
  refine gf_878 G sh_0 pt_0_1 dX9_glass_1 ?_
  refine x_bipush G dX9_glass_4 (by decide) (by decide) ?_
  refine x_bipush G dX9_glass_6 (by decide) (by decide) ?_
  refine x_iload_n (j := 1) G dX9_glass_8 rfl rfl ?_
  refine x_imul G dX9_glass_9 ?_
  refine x_iadd G dX9_glass_10 ?_
  refine x_iload_n (j := 2) G dX9_glass_11 rfl rfl ?_
  refine x_iadd G dX9_glass_12 ?_
  refine x_iald G dX9_glass_13 H (fun x1 hx1 H => ?_)
  cases H
  exact x_iret G dX9_glass_14
def fX9_isOpen_53   (s : Mem) : Option (Int × Mem) :=
  some (1, s)
set_option maxHeartbeats 4000000 in
theorem tX9_isOpen_53 {E : En} {b : Bn} {xf : Int} {sf : Mem}   {s : Mem} (G : ab_G E b cX9_isOpen 4 RX9 (some .boolean) 1)   (H : fX9_isOpen_53  s = some (xf, sf)) : ab_X E b (ab_MQ E b (some (vI xf)) sf) 4 53 [] [] s := by
  unfold fX9_isOpen_53 at H
  refine x_iconst G dX9_isOpen_53 (by decide) ?_
  refine x_goto (tgt := 58) G dX9_isOpen_54 (by decide) ?_
  cases H
  exact x_zret G (by decide) dX9_isOpen_58
def fX9_isOpen (a1 : Int) (a2 : Int) (a3 : Int) (s : Mem) : Option (Int × Mem) :=
  b2 (fX9_strength a2 a3 s) fun r1 s2 =>
  (rdI s2 1 (w32 ((w32 (0 + (w32 (4 * a1)))) + 2))).bind fun x3 =>
  if r1 < x3 then
    fX9_isOpen_53  s2
  else
    (rdI s2 1 (w32 ((w32 (0 + (w32 (4 * a1)))) + 3))).bind fun x5 =>
    (rdI s2 1 (w32 ((w32 (52 + (w32 (6 * a2)))) + 5))).bind fun x6 =>
    if (andI (shrI x5 x6) 1) = 0 then
      fX9_isOpen_53  s2
    else
      some (0, s2)
set_option maxHeartbeats 4000000 in
theorem rX9_isOpen {E : En} {xf : Int} {sf : Mem} {a1 : Int} {a2 : Int} {a3 : Int} {s : Mem}  (H : fX9_isOpen a1 a2 a3 s = some (xf, sf)) : ab_Run E 1 yX9_isOpen cX9_isOpen 4 (some .boolean) [vR 0, vI a1, vI a2, vI a3] (some (vI xf)) s sf := by
  unfold fX9_isOpen at H
  refine ab_intro (own := RX9) (by decide +kernel) rfl (Nat.le_of_ble_eq_true rfl) rfl (fun b G => ?_)
  refine x_aload_n (j := 0) G dX9_isOpen_0 rfl rfl ?_
  refine x_iload_n (j := 2) G dX9_isOpen_1 rfl rfl ?_
  refine x_iload_n (j := 3) G dX9_isOpen_2 rfl rfl ?_
  obtain ⟨r1, s2, c2, H⟩ := b2_some H
  refine cv_1006 (As := [vI a2, vI a3]) (rest := []) G (rX9_strength  c2) sh_0 (by omega) rfl rfl (Nat.le_of_ble_eq_true rfl) dX9_isOpen_3 ?_
  refine x_aload_n (j := 0) G dX9_isOpen_6 rfl rfl ?_
  refine gf_878 G sh_0 pt_0_1 dX9_isOpen_7 ?_
  refine x_iconst G dX9_isOpen_10 (by decide) ?_
  refine x_iconst G dX9_isOpen_11 (by decide) ?_
  refine x_iload_n (j := 1) G dX9_isOpen_12 rfl rfl ?_
  refine x_imul G dX9_isOpen_13 ?_
  refine x_iadd G dX9_isOpen_14 ?_
  refine x_iconst G dX9_isOpen_15 (by decide) ?_
  refine x_iadd G dX9_isOpen_16 ?_
  refine x_iald G dX9_isOpen_17 H (fun x3 hx3 H => ?_)
  refine x_icmp_lt (tgt := 53) G dX9_isOpen_18 (by decide) (fun q4 => ?_) (fun q4 => ?_)
  · have H := if_some_t H q4
    exact x_subp (ls' := []) [] rfl (tX9_isOpen_53 G  H)
  · have H := if_some_f H q4
    refine x_aload_n (j := 0) G dX9_isOpen_21 rfl rfl ?_
    refine gf_878 G sh_0 pt_0_1 dX9_isOpen_22 ?_
    refine x_iconst G dX9_isOpen_25 (by decide) ?_
    refine x_iconst G dX9_isOpen_26 (by decide) ?_
    refine x_iload_n (j := 1) G dX9_isOpen_27 rfl rfl ?_
    refine x_imul G dX9_isOpen_28 ?_
    refine x_iadd G dX9_isOpen_29 ?_
    refine x_iconst G dX9_isOpen_30 (by decide) ?_
    refine x_iadd G dX9_isOpen_31 ?_
    refine x_iald G dX9_isOpen_32 H (fun x5 hx5 H => ?_)
    refine x_aload_n (j := 0) G dX9_isOpen_33 rfl rfl ?_
    refine gf_878 G sh_0 pt_0_1 dX9_isOpen_34 ?_
    refine x_bipush G dX9_isOpen_37 (by decide) (by decide) ?_
    refine x_bipush G dX9_isOpen_39 (by decide) (by decide) ?_
    refine x_iload_n (j := 2) G dX9_isOpen_41 rfl rfl ?_
    refine x_imul G dX9_isOpen_42 ?_
    refine x_iadd G dX9_isOpen_43 ?_
    refine x_iconst G dX9_isOpen_44 (by decide) ?_
    refine x_iadd G dX9_isOpen_45 ?_
    refine x_iald G dX9_isOpen_46 H (fun x6 hx6 H => ?_)
    refine x_ishr G dX9_isOpen_47 ?_
    refine x_iconst G dX9_isOpen_48 (by decide) ?_
    refine x_iand G dX9_isOpen_49 ?_
    refine x_if_ne (tgt := 57) G dX9_isOpen_50 (by decide) (fun q7 => ?_) (fun q7 => ?_)
    · have H := if_some_f H q7
      refine x_iconst G dX9_isOpen_57 (by decide) ?_
      cases H
      exact x_zret G (by decide) dX9_isOpen_58
    · have H := if_some_t H q7
      exact x_subp (ls' := []) [] rfl (tX9_isOpen_53 G  H)
def fX9_riskOf (a1 : Int) (a2 : Int) (a3 : Int) (s : Mem) : Option (Int × Mem) :=
  b2 (fX9_strength a2 a3 s) fun r1 s2 =>
  (rdI s2 1 (w32 (172 + r1))).bind fun x3 =>
  (rdI s2 1 (w32 ((w32 (16 + (w32 (5 * a1)))) + 4))).bind fun x4 =>
  lt' (w32 (x3 * x4)) fun v5 =>
  if v5 ≤ 999 then
    some (v5, s2)
  else
    some (999, s2)
set_option maxHeartbeats 4000000 in
theorem rX9_riskOf {E : En} {xf : Int} {sf : Mem} {a1 : Int} {a2 : Int} {a3 : Int} {s : Mem}  (H : fX9_riskOf a1 a2 a3 s = some (xf, sf)) : ab_Run E 1 yX9_riskOf cX9_riskOf 5 (some .int) [vR 0, vI a1, vI a2, vI a3] (some (vI xf)) s sf := by
  unfold fX9_riskOf at H
  refine ab_intro (own := RX9) (by decide +kernel) rfl (Nat.le_of_ble_eq_true rfl) rfl (fun b G => ?_)
  refine x_aload_n (j := 0) G dX9_riskOf_0 rfl rfl ?_
  refine gf_878 G sh_0 pt_0_1 dX9_riskOf_1 ?_
  refine x_sipush G dX9_riskOf_4 (by decide) (by decide) ?_
  refine x_aload_n (j := 0) G dX9_riskOf_7 rfl rfl ?_
  refine x_iload_n (j := 2) G dX9_riskOf_8 rfl rfl ?_
  refine x_iload_n (j := 3) G dX9_riskOf_9 rfl rfl ?_
  obtain ⟨r1, s2, c2, H⟩ := b2_some H
  refine cv_1006 (As := [vI a2, vI a3]) (rest := [vI 172, vR 1]) G (rX9_strength  c2) sh_0 (by omega) rfl rfl (Nat.le_of_ble_eq_true rfl) dX9_riskOf_10 ?_
  refine x_iadd G dX9_riskOf_13 ?_
  refine x_iald G dX9_riskOf_14 H (fun x3 hx3 H => ?_)
  refine x_aload_n (j := 0) G dX9_riskOf_15 rfl rfl ?_
  refine gf_878 G sh_0 pt_0_1 dX9_riskOf_16 ?_
  refine x_bipush G dX9_riskOf_19 (by decide) (by decide) ?_
  refine x_iconst G dX9_riskOf_21 (by decide) ?_
  refine x_iload_n (j := 1) G dX9_riskOf_22 rfl rfl ?_
  refine x_imul G dX9_riskOf_23 ?_
  refine x_iadd G dX9_riskOf_24 ?_
  refine x_iconst G dX9_riskOf_25 (by decide) ?_
  refine x_iadd G dX9_riskOf_26 ?_
  refine x_iald G dX9_riskOf_27 H (fun x4 hx4 H => ?_)
  refine x_imul G dX9_riskOf_28 ?_
  refine x_let H (fun v5 hv5 H => ?_)
  refine x_istore (ls' := [(4, vI v5), (0, vR 0), (1, vI a1), (2, vI a2), (3, vI a3)]) G dX9_riskOf_29 (by decide) rfl ?_
  refine x_iload (j := 0) G dX9_riskOf_31 rfl ?_
  refine x_sipush G dX9_riskOf_33 (by decide) (by decide) ?_
  refine x_icmp_le (tgt := 45) G dX9_riskOf_36 (by decide) (fun q6 => ?_) (fun q6 => ?_)
  · have H := if_some_t H q6
    refine x_iload (j := 0) G dX9_riskOf_45 rfl ?_
    cases H
    exact x_iret G dX9_riskOf_47
  · have H := if_some_f H q6
    refine x_sipush G dX9_riskOf_39 (by decide) (by decide) ?_
    refine x_goto (tgt := 47) G dX9_riskOf_42 (by decide) ?_
    cases H
    exact x_iret G dX9_riskOf_47
def fX9_away (a1 : Int) (a2 : Int) (s : Mem) : Option (Int × Mem) :=
  (rdI s 1 (w32 ((w32 (36 + (w32 (4 * a1)))) + a2))).bind fun x1 =>
  some (x1, s)
set_option maxHeartbeats 4000000 in
theorem rX9_away {E : En} {xf : Int} {sf : Mem} {a1 : Int} {a2 : Int} {s : Mem}  (H : fX9_away a1 a2 s = some (xf, sf)) : ab_Run E 0 yX9_away cX9_away 3 (some .int) [vR 0, vI a1, vI a2] (some (vI xf)) s sf := by
  unfold fX9_away at H
  refine ab_intro (own := RX9) (by decide +kernel) rfl (Nat.le_of_ble_eq_true rfl) rfl (fun b G => ?_)
  refine x_aload_n (j := 0) G dX9_away_0 rfl rfl ?_
  refine gf_878 G sh_0 pt_0_1 dX9_away_1 ?_
  refine x_bipush G dX9_away_4 (by decide) (by decide) ?_
  refine x_iconst G dX9_away_6 (by decide) ?_
  refine x_iload_n (j := 1) G dX9_away_7 rfl rfl ?_
  refine x_imul G dX9_away_8 ?_
  refine x_iadd G dX9_away_9 ?_
  refine x_iload_n (j := 2) G dX9_away_10 rfl rfl ?_
  refine x_iadd G dX9_away_11 ?_
  refine x_iald G dX9_away_12 H (fun x1 hx1 H => ?_)
  cases H
  exact x_iret G dX9_away_13
def fX9_madeBy (a1 : Int) (a2 : Int) (a3 : Int) (s : Mem) : Option (Int × Mem) :=
  b2 (fX9_strength a2 a3 s) fun r1 s2 =>
  (rdI s2 1 182).bind fun x3 =>
  ck (x3 ≠ 0) <|
  lt' (w32 (a1 - (w32 (Int.tdiv r1 x3)))) fun v4 =>
  if 1 ≤ v4 then
    some (v4, s2)
  else
    some (1, s2)
set_option maxHeartbeats 4000000 in
theorem rX9_madeBy {E : En} {xf : Int} {sf : Mem} {a1 : Int} {a2 : Int} {a3 : Int} {s : Mem}  (H : fX9_madeBy a1 a2 a3 s = some (xf, sf)) : ab_Run E 1 yX9_madeBy cX9_madeBy 5 (some .int) [vR 0, vI a1, vI a2, vI a3] (some (vI xf)) s sf := by
  unfold fX9_madeBy at H
  refine ab_intro (own := RX9) (by decide +kernel) rfl (Nat.le_of_ble_eq_true rfl) rfl (fun b G => ?_)
  refine x_iload_n (j := 1) G dX9_madeBy_0 rfl rfl ?_
  refine x_aload_n (j := 0) G dX9_madeBy_1 rfl rfl ?_
  refine x_iload_n (j := 2) G dX9_madeBy_2 rfl rfl ?_
  refine x_iload_n (j := 3) G dX9_madeBy_3 rfl rfl ?_
  obtain ⟨r1, s2, c2, H⟩ := b2_some H
  refine cv_1006 (As := [vI a2, vI a3]) (rest := [vI a1]) G (rX9_strength  c2) sh_0 (by omega) rfl rfl (Nat.le_of_ble_eq_true rfl) dX9_madeBy_4 ?_
  refine x_aload_n (j := 0) G dX9_madeBy_7 rfl rfl ?_
  refine gf_878 G sh_0 pt_0_1 dX9_madeBy_8 ?_
  refine x_sipush G dX9_madeBy_11 (by decide) (by decide) ?_
  refine x_iald G dX9_madeBy_14 H (fun x3 hx3 H => ?_)
  obtain ⟨hne, H⟩ := ck_some H
  refine x_idiv G dX9_madeBy_15 hne ?_
  refine x_isub G dX9_madeBy_16 ?_
  refine x_let H (fun v4 hv4 H => ?_)
  refine x_istore (ls' := [(4, vI v4), (0, vR 0), (1, vI a1), (2, vI a2), (3, vI a3)]) G dX9_madeBy_17 (by decide) rfl ?_
  refine x_iload (j := 0) G dX9_madeBy_19 rfl ?_
  refine x_iconst G dX9_madeBy_21 (by decide) ?_
  refine x_icmp_ge (tgt := 29) G dX9_madeBy_22 (by decide) (fun q5 => ?_) (fun q5 => ?_)
  · have H := if_some_t H q5
    refine x_iload (j := 0) G dX9_madeBy_29 rfl ?_
    cases H
    exact x_iret G dX9_madeBy_31
  · have H := if_some_f H q5
    refine x_iconst G dX9_madeBy_25 (by decide) ?_
    refine x_goto (tgt := 31) G dX9_madeBy_26 (by decide) ?_
    cases H
    exact x_iret G dX9_madeBy_31
def fX9_storm_32   (s : Mem) : Option (Int × Mem) :=
  some ((-1), s)
set_option maxHeartbeats 4000000 in
theorem tX9_storm_32 {E : En} {b : Bn} {xf : Int} {sf : Mem}   {s : Mem} (G : ab_G E b cX9_storm 4 RX9 (some .int) 2)   (H : fX9_storm_32  s = some (xf, sf)) : ab_X E b (ab_MQ E b (some (vI xf)) sf) 4 32 [] [] s := by
  unfold fX9_storm_32 at H
  refine x_iconst G dX9_storm_32 (by decide) ?_
  refine x_goto (tgt := 55) G dX9_storm_33 (by decide) ?_
  cases H
  exact x_iret G dX9_storm_55
def fX9_storm (a1 : Int) (a2 : Int) (a3 : Int) (s : Mem) : Option (Int × Mem) :=
  lt' (mu s 0 0 0) fun s1 =>
  b2 (fX9_isStorm a1 s1) fun r2 s3 =>
  if r2 = 0 then
    fX9_storm_32  s3
  else
    b2 (fX9_isIn a2 0 23 s3) fun r5 s6 =>
    if r5 = 0 then
      fX9_storm_32  s6
    else
      b2 (fX9_isIn a3 0 1 s6) fun r8 s9 =>
      if r8 = 0 then
        fX9_storm_32  s9
      else
        if a3 = 0 then
          b2 (fX9_strength a1 a2 s9) fun r14 s15 =>
          some (r14, s15)
        else
          b2 (fX9_glass a1 a2 s9) fun r12 s13 =>
          some (r12, s13)
set_option maxHeartbeats 4000000 in
theorem rX9_storm {E : En} {xf : Int} {sf : Mem} {a1 : Int} {a2 : Int} {a3 : Int} {s : Mem}  (H : fX9_storm a1 a2 a3 s = some (xf, sf)) : ab_Run E 2 yX9_storm cX9_storm 4 (some .int) [vR 0, vI a1, vI a2, vI a3] (some (vI xf)) s sf := by
  unfold fX9_storm at H
  refine ab_intro (own := RX9) (by decide +kernel) rfl (Nat.le_of_ble_eq_true rfl) rfl (fun b G => ?_)
  refine x_aload_n (j := 0) G dX9_storm_0 rfl rfl ?_
  refine x_iconst G dX9_storm_1 (by decide) ?_
  refine pf_877 G sh_0 pt_0_0 dX9_storm_2 H (fun s1 hs1 H => ?_)
  refine x_aload_n (j := 0) G dX9_storm_5 rfl rfl ?_
  refine x_iload_n (j := 1) G dX9_storm_6 rfl rfl ?_
  obtain ⟨r2, s3, c3, H⟩ := b2_some H
  refine cv_1002 (As := [vI a1]) (rest := []) G (rX9_isStorm  c3) sh_0 (by omega) rfl rfl (Nat.le_of_ble_eq_true rfl) dX9_storm_7 ?_
  refine x_if_eq (tgt := 32) G dX9_storm_10 (by decide) (fun q4 => ?_) (fun q4 => ?_)
  · have H := if_some_t H q4
    exact x_subp (ls' := []) [] rfl (tX9_storm_32 G  H)
  · have H := if_some_f H q4
    refine x_iload_n (j := 2) G dX9_storm_13 rfl rfl ?_
    refine x_iconst G dX9_storm_14 (by decide) ?_
    refine x_bipush G dX9_storm_15 (by decide) (by decide) ?_
    obtain ⟨r5, s6, c6, H⟩ := b2_some H
    refine cs_946 (As := [vI a2, vI 0, vI 23]) (rest := []) G (rX9_isIn  c6) (by omega) rfl rfl (Nat.le_of_ble_eq_true rfl) dX9_storm_17 ?_
    refine x_if_eq (tgt := 32) G dX9_storm_20 (by decide) (fun q7 => ?_) (fun q7 => ?_)
    · have H := if_some_t H q7
      exact x_subp (ls' := []) [] rfl (tX9_storm_32 G  H)
    · have H := if_some_f H q7
      refine x_iload_n (j := 3) G dX9_storm_23 rfl rfl ?_
      refine x_iconst G dX9_storm_24 (by decide) ?_
      refine x_iconst G dX9_storm_25 (by decide) ?_
      obtain ⟨r8, s9, c9, H⟩ := b2_some H
      refine cs_946 (As := [vI a3, vI 0, vI 1]) (rest := []) G (rX9_isIn  c9) (by omega) rfl rfl (Nat.le_of_ble_eq_true rfl) dX9_storm_26 ?_
      refine x_if_ne (tgt := 36) G dX9_storm_29 (by decide) (fun q10 => ?_) (fun q10 => ?_)
      · have H := if_some_f H q10
        refine x_iload_n (j := 3) G dX9_storm_36 rfl rfl ?_
        refine x_if_ne (tgt := 49) G dX9_storm_37 (by decide) (fun q11 => ?_) (fun q11 => ?_)
        · have H := if_some_f H q11
          refine x_aload_n (j := 0) G dX9_storm_49 rfl rfl ?_
          refine x_iload_n (j := 1) G dX9_storm_50 rfl rfl ?_
          refine x_iload_n (j := 2) G dX9_storm_51 rfl rfl ?_
          obtain ⟨r12, s13, c13, H⟩ := b2_some H
          refine cv_1010 (As := [vI a1, vI a2]) (rest := []) G (rX9_glass  c13) sh_0 (by omega) rfl rfl (Nat.le_of_ble_eq_true rfl) dX9_storm_52 ?_
          cases H
          exact x_iret G dX9_storm_55
        · have H := if_some_t H q11
          refine x_aload_n (j := 0) G dX9_storm_40 rfl rfl ?_
          refine x_iload_n (j := 1) G dX9_storm_41 rfl rfl ?_
          refine x_iload_n (j := 2) G dX9_storm_42 rfl rfl ?_
          obtain ⟨r14, s15, c15, H⟩ := b2_some H
          refine cv_1006 (As := [vI a1, vI a2]) (rest := []) G (rX9_strength  c15) sh_0 (by omega) rfl rfl (Nat.le_of_ble_eq_true rfl) dX9_storm_43 ?_
          refine x_goto (tgt := 55) G dX9_storm_46 (by decide) ?_
          cases H
          exact x_iret G dX9_storm_55
      · have H := if_some_t H q10
        exact x_subp (ls' := []) [] rfl (tX9_storm_32 G  H)
def fX9_open_31   (s : Mem) : Option (Int × Mem) :=
  some ((-1), s)
set_option maxHeartbeats 4000000 in
theorem tX9_open_31 {E : En} {b : Bn} {xf : Int} {sf : Mem}   {s : Mem} (G : ab_G E b cX9_open 4 RX9 (some .int) 2)   (H : fX9_open_31  s = some (xf, sf)) : ab_X E b (ab_MQ E b (some (vI xf)) sf) 4 31 [] [] s := by
  unfold fX9_open_31 at H
  refine x_iconst G dX9_open_31 (by decide) ?_
  refine x_goto (tgt := 50) G dX9_open_32 (by decide) ?_
  cases H
  exact x_iret G dX9_open_50
def fX9_open (a1 : Int) (a2 : Int) (a3 : Int) (s : Mem) : Option (Int × Mem) :=
  lt' (mu s 0 0 0) fun s1 =>
  b2 (fX9_isHarbour a1 s1) fun r2 s3 =>
  if r2 = 0 then
    fX9_open_31  s3
  else
    b2 (fX9_isStorm a2 s3) fun r5 s6 =>
    if r5 = 0 then
      fX9_open_31  s6
    else
      b2 (fX9_isIn a3 0 23 s6) fun r8 s9 =>
      if r8 = 0 then
        fX9_open_31  s9
      else
        b2 (fX9_isOpen a1 a2 a3 s9) fun r11 s12 =>
        if r11 = 0 then
          some (0, s12)
        else
          some (1, s12)
set_option maxHeartbeats 4000000 in
theorem rX9_open {E : En} {xf : Int} {sf : Mem} {a1 : Int} {a2 : Int} {a3 : Int} {s : Mem}  (H : fX9_open a1 a2 a3 s = some (xf, sf)) : ab_Run E 2 yX9_open cX9_open 4 (some .int) [vR 0, vI a1, vI a2, vI a3] (some (vI xf)) s sf := by
  unfold fX9_open at H
  refine ab_intro (own := RX9) (by decide +kernel) rfl (Nat.le_of_ble_eq_true rfl) rfl (fun b G => ?_)
  refine x_aload_n (j := 0) G dX9_open_0 rfl rfl ?_
  refine x_iconst G dX9_open_1 (by decide) ?_
  refine pf_877 G sh_0 pt_0_0 dX9_open_2 H (fun s1 hs1 H => ?_)
  refine x_aload_n (j := 0) G dX9_open_5 rfl rfl ?_
  refine x_iload_n (j := 1) G dX9_open_6 rfl rfl ?_
  obtain ⟨r2, s3, c3, H⟩ := b2_some H
  refine cv_1018 (As := [vI a1]) (rest := []) G (rX9_isHarbour  c3) sh_0 (by omega) rfl rfl (Nat.le_of_ble_eq_true rfl) dX9_open_7 ?_
  refine x_if_eq (tgt := 31) G dX9_open_10 (by decide) (fun q4 => ?_) (fun q4 => ?_)
  · have H := if_some_t H q4
    exact x_subp (ls' := []) [] rfl (tX9_open_31 G  H)
  · have H := if_some_f H q4
    refine x_aload_n (j := 0) G dX9_open_13 rfl rfl ?_
    refine x_iload_n (j := 2) G dX9_open_14 rfl rfl ?_
    obtain ⟨r5, s6, c6, H⟩ := b2_some H
    refine cv_1002 (As := [vI a2]) (rest := []) G (rX9_isStorm  c6) sh_0 (by omega) rfl rfl (Nat.le_of_ble_eq_true rfl) dX9_open_15 ?_
    refine x_if_eq (tgt := 31) G dX9_open_18 (by decide) (fun q7 => ?_) (fun q7 => ?_)
    · have H := if_some_t H q7
      exact x_subp (ls' := []) [] rfl (tX9_open_31 G  H)
    · have H := if_some_f H q7
      refine x_iload_n (j := 3) G dX9_open_21 rfl rfl ?_
      refine x_iconst G dX9_open_22 (by decide) ?_
      refine x_bipush G dX9_open_23 (by decide) (by decide) ?_
      obtain ⟨r8, s9, c9, H⟩ := b2_some H
      refine cs_946 (As := [vI a3, vI 0, vI 23]) (rest := []) G (rX9_isIn  c9) (by omega) rfl rfl (Nat.le_of_ble_eq_true rfl) dX9_open_25 ?_
      refine x_if_ne (tgt := 35) G dX9_open_28 (by decide) (fun q10 => ?_) (fun q10 => ?_)
      · have H := if_some_f H q10
        refine x_aload_n (j := 0) G dX9_open_35 rfl rfl ?_
        refine x_iload_n (j := 1) G dX9_open_36 rfl rfl ?_
        refine x_iload_n (j := 2) G dX9_open_37 rfl rfl ?_
        refine x_iload_n (j := 3) G dX9_open_38 rfl rfl ?_
        obtain ⟨r11, s12, c12, H⟩ := b2_some H
        refine cv_1022 (As := [vI a1, vI a2, vI a3]) (rest := []) G (rX9_isOpen  c12) sh_0 (by omega) rfl rfl (Nat.le_of_ble_eq_true rfl) dX9_open_39 ?_
        refine x_if_eq (tgt := 49) G dX9_open_42 (by decide) (fun q13 => ?_) (fun q13 => ?_)
        · have H := if_some_t H q13
          refine x_iconst G dX9_open_49 (by decide) ?_
          cases H
          exact x_iret G dX9_open_50
        · have H := if_some_f H q13
          refine x_iconst G dX9_open_45 (by decide) ?_
          refine x_goto (tgt := 50) G dX9_open_46 (by decide) ?_
          cases H
          exact x_iret G dX9_open_50
      · have H := if_some_t H q10
        exact x_subp (ls' := []) [] rfl (tX9_open_31 G  H)

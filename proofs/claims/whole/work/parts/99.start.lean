/-! ===== the claim ===== -/
section LN
variable {E : En} {p : Program} {l : Launch} {e : Env} {R : Room} {s0 : State} {m : MethodId} {args : Array Value} {below : List Frame} {meth : Method} {cd : Code} {H : Heap} {locs : List Loc} {cells slots : Nat} {Q : State → Prop} {a : Array Slot} {st : List Value} {pc n : Nat} {cc : ByteArray} {own : String} {s : Mem} {φ : Wf}
theorem l_new (hx : p.tables.exec = Jvm.exec) (hb : cd.code = cc) (hown : s0.vm.findClass own = some m.cls) (hC : ab_C E s0) (hE : nw_E E) (hR : nw_R E s φ n H) (hS : va_S (eA E) s0.heap H locs) {idx k ci N : Nat} {C : String} {T : u_T} (ty : Nat → FieldType) (hty : ∀ j, j < N → parseFieldDescriptor (T j).2.2.1 = some (ty j)) (hc : vwCl[ci]? = some (C, T, N)) (hN : ab_nf.getD ci 0 = N) (hu : ∀ w ∈ u_ws C T N, w ∈ ab_TW) (w1 : Cond.classLink own idx C ∈ ab_TW) (w2 : Cond.instantiable C N ∈ ab_TW) (w3 : Cond.initialized C ∈ ab_TW) (hk : nw_i n = k) (hsh : ab_sh k = (1, ci, 0)) (hz : ∀ f, s k f = 0) (hφ : ∀ f, f < N → φ.contains (k, f) = false) (hdf : ∀ f, f < N → defaultValue (ty f) = if ab_ptr k f = none then .int 0 else .null) (hm : cells + 1 ≤ R.cells ∧ slots + N ≤ R.slots) (hn : n < 137) (hd : decode cc pc = .ok (.new idx, 3)) (kk : ∀ H1 : Heap, nw_R E s φ (n + 1) H1 → va_S (eA E) s0.heap H1 locs → W p l e R s0 m args below meth cd H1 locs (cells + 1) (slots + N) Q (F0 m (pc + 3) a (.ref (eAd E k) :: st))) : W p l e R s0 m args below meth cd H locs cells slots Q (F0 m pc a st) := by
  have hts := hC.1.use args
  have hKn := hC.2.1.1 ci _ hc
  have hk137 := (nw_oi n hn).2
  have hok := (nw_oi n hn).1
  rw [hk] at hk137 hok
  have had : eAd E k = eS0 E + n := by rw [hE k hk137, hok]
  refine W.newcK hx hb hown (hts _ w1) (hts _ w2) (hts _ w3) rfl hd (by omega) (by omega) hKn.2.1 hR.2 fun H1 kC hkC e1 z1 o1 => ?_
  have hR1 : nw_R E s φ (n + 1) H1 := by
    refine hR.grow (by rw [z1, hR.2]) (fun q hq => o1 q (by rw [← hR.2]; exact hq)) ?_
    rw [hk, nw_entO E s φ hsh, hN]
    refine ⟨_, hc, (u_born ty hts hu hKn hkC e1 hty).to (fun j hj => ?_)⟩
    rw [hdf j hj]
    unfold vp_V
    rw [List.getD_eq_getElem?_getD, nf_at E s φ k hj]
    show _ = nw_fv E s φ k j
    unfold nw_fv
    cases hp : ab_ptr k j with
    | none => rw [if_pos rfl, hz j]; rfl
    | some t => dsimp only; rw [if_neg (by simp), if_neg (by rw [hφ j hj]; decide)]
  have hS1 : va_S (eA E) s0.heap H1 locs := ⟨Nat.le_trans hS.1 (by rw [hR.2, z1]; omega), fun q h1 h2 => (o1 q (by rw [← hR.2]; exact Nat.lt_of_lt_of_le h1 hS.1)).trans (hS.2.1 q h1 h2), hS.2.2⟩
  have := kk H1 hR1 hS1
  rw [had] at this
  exact this
theorem l_go {lo mc' ms' : Nat} {s' : Mem} {av : Array Value} {st0 rest : List Value} (hS : va_S (eA E) s0.heap H locs) (hr : va_Run p l e R s0 m args below meth cd H locs cells slots mc' ms' (F0 m pc a st0) rest (ab_Q (eL lo E) none s' av) (eA E)) (kk : ∀ (H1 : Heap) (locs1 : List Loc), ab_R (eL lo E) s' H1 → va_S (eA E) s0.heap H1 locs1 → W p l e R s0 m args below meth cd H1 locs1 (cells + mc') (slots + ms') Q (F0 m (pc + 3) a rest)) : W p l e R s0 m args below meth cd H locs cells slots Q (F0 m pc a st0) := by
  intro T hT X
  obtain ⟨v, st₀, t, T', L, h0, X', hL, e1, e2, ⟨hv, hR', -, hz, hk⟩, stp⟩ := hr T hT X
  have hv := Outcome.returned.inj hv
  subst hv
  rw [h0] at hz hk
  obtain ⟨t2, a1, b1⟩ := kk T'.heap (locs ++ L) (by rw [e1]; exact hR') ⟨Nat.le_trans hS.1 (by rw [e1]; exact hz), fun q h1 h2 => by rw [e1, hk q (Nat.lt_of_lt_of_le h1 hS.1) h2]; exact hS.2.1 q h1 h2, fun q hq => by
      rcases List.mem_append.mp hq with h | h
      · exact hS.2.2 q h
      · exact hL q h⟩ T' rfl X'
  exact ⟨t2, stp t2 a1, b1⟩
theorem l_call {lo mc' ms' d' maxL idx k : Nat} {s' : Mem} {y : MethodName} {cc' : ByteArray} {Pp : Array Value → State → Prop} (hx : p.tables.exec = Jvm.exec) (hb : cd.code = cc) (hnl : cd.maxLocals = 4) (hsz : a.size = 4) (hown : s0.vm.findClass own = some m.cls) (hC : ab_C E s0) (hS : va_S (eA E) s0.heap H locs) (w1 : Cond.methodLink own idx y ∈ ab_TW) (w2 : Cond.instanceMethod y ∈ ab_TW) (w4 : Cond.code y cc' maxL none ∈ ab_TW) (w5 : Cond.initialized y.cls ∈ ab_TW) (hy : y.cls ≠ "java/lang/invoke/MethodHandle" ∧ y.cls ≠ "java/lang/invoke/VarHandle" ∧ (parseMethodDescriptor y.desc).map (fun d => d.parameters.length) = some 0) (hyn : y.name = "<init>") (hM : Met l y [Cond.code y cc' maxL none] (nw_rm d' mc' ms') Pp (ab_Q (eL lo E) none s') mc' ms' (eA E)) (hfr : d' + 1 ≤ R.frames ∧ 8 + (maxL + 11) + 40 * d' ≤ R.locals) (hPb : FrameBlind Pp) (hP : ∀ U : State, U.heap = H → s0.WarmedH U.vm → Pp #[Value.ref (eAd E k)] U) (hm : cells + mc' ≤ R.cells ∧ slots + ms' ≤ R.slots) (hd : decode cc pc = .ok (.invokespecial idx, 3)) (kk : ∀ (H1 : Heap) (locs1 : List Loc), ab_R (eL lo E) s' H1 → va_S (eA E) s0.heap H1 locs1 → W p l e R s0 m args below meth cd H1 locs1 (cells + mc') (slots + ms') Q (F0 m (pc + 3) a [.ref (eAd E k)])) : W p l e R s0 m args below meth cd H locs cells slots Q (F0 m pc a [.ref (eAd E k), .ref (eAd E k)]) := by
  have hts := hC.1.use args
  have hnn : ∀ sig, parseMethodDescriptor y.desc = some sig → 0 = sig.parameters.length := fun sig h => by
    have h2 := hy.2.2
    rw [h] at h2
    exact (Option.some.inj h2).symm
  refine l_go (lo := lo) (av := #[Value.ref (eAd E k)]) (rest := [.ref (eAd E k)]) hS (va_runI (As := []) (Ts := ab_TW) (nL := 4) (n := 0) (bytes := cc') (maxL := maxL) ⟨hx, hb, hnl, hown, hts⟩ hM ⟨⟨rfl, rfl, hfr.1, hfr.2, ?_, List.mem_cons_self, hts _ w4, hts _ w5, ⟨hy.1, hy.2.1⟩, hnn, hts _ w1⟩, hyn, hts _ w2⟩ ⟨hPb, hP⟩ rfl rfl hsz rfl (lv_room (Nat.le_of_ble_eq_true rfl)) hd hm) kk
  intro w hw a' U hU
  rcases List.mem_cons.mp hw with rfl | hw
  · exact (hC.1.warm hU).use a' _ w4
  · cases hw
end LN
theorem nwC_0 : ∀ f, f < 21 → nwC.contains (0, f) = false := by decide +kernel
theorem df_8 : ∀ f, f < 10 → defaultValue (tyX8 f) = if ab_ptr 17 f = none then .int 0 else .null := fun f hf => by rcases (show f = 0 ∨ f = 1 ∨ f = 2 ∨ f = 3 ∨ f = 4 ∨ f = 5 ∨ f = 6 ∨ f = 7 ∨ f = 8 ∨ f = 9 by omega) with rfl | rfl | rfl | rfl | rfl | rfl | rfl | rfl | rfl | rfl <;> rfl
theorem df_9 : ∀ f, f < 21 → defaultValue (tyX9 f) = if ab_ptr 0 f = none then .int 0 else .null := fun f hf => by rcases (show f = 0 ∨ f = 1 ∨ f = 2 ∨ f = 3 ∨ f = 4 ∨ f = 5 ∨ f = 6 ∨ f = 7 ∨ f = 8 ∨ f = 9 ∨ f = 10 ∨ f = 11 ∨ f = 12 ∨ f = 13 ∨ f = 14 ∨ f = 15 ∨ f = 16 ∨ f = 17 ∨ f = 18 ∨ f = 19 ∨ f = 20 by omega) with rfl | rfl | rfl | rfl | rfl | rfl | rfl | rfl | rfl | rfl | rfl | rfl | rfl | rfl | rfl | rfl | rfl | rfl | rfl | rfl | rfl <;> rfl
theorem nw_PC_blind (E : En) : FrameBlind (nw_P' E) := fun a U g mk h => ⟨nw_blind E _ _ _ _ a U g mk h.1, h.2.blind (V := U.calling g mk a) rfl rfl⟩
theorem nw_PM_blind (E : En) : FrameBlind (nw_PM E) := fun a U g mk h => ⟨nw_blind E _ _ _ _ a U g mk h.1, h.2⟩
theorem whole_start {p : Program} {e : Env} {s : State} {m : MethodId} {below : List Frame} {meth : Method} {c : Code} (l : Launch) {b L : Nat} {xs : Nat → Int32} (hL : L ≤ 2560) (C0 : lw_At p s m meth c b L xs) : W p l e room_1 s m #[Value.ref b] below meth c s.heap [] 0 0 (lw_Z below #[Value.ref b] s) (entryFrame m ([Value.ref b] : List Value).toArray 4) := by
  obtain ⟨E, ⟨hC, hE, h0⟩, hN, hT, hz, h148⟩ := lw_env C0
  obtain ⟨hx, hb, hr, hml, hown, -, hX, hbl, hlk, -⟩ := C0
  have hl := lv_entry [Value.ref b] (n := 4) (Nat.le_of_ble_eq_true rfl)
  rw [lg_entry_eq]
  generalize (lg_sl [Value.ref b] ++ List.replicate (4 - (lg_sl [Value.ref b]).length) Slot.unset).toArray = a at hl ⊢
  have hl : lv_has a 4 [(0, .ref b)] := hl
  have hR0 : nw_R E s00 [] 0 s.heap := ⟨fun k q hq => (by cases hq), by rw [hz]; rfl⟩
  have hS0 : va_S (eA E) s.heap s.heap [] := va_S.rf
  have hok0 : ∀ k, eLo E ≤ k := fun k => by rw [h0]; omega
  refine l_new (k := 17) (ci := 8) (C := RX8) (T := TX8) (N := 10) (own := RL) hx hb hown hC hE hR0 hS0 tyX8 tyX8_ok rfl rfl uw_8 wd_81 wi_82 wd_66 (by decide +kernel) sh_17 (fun _ => rfl) (fun _ _ => rfl) df_8 (by decide) (by decide) dL_law_0 (fun H1 hR1 hS1 => ?_)
  refine lv_dup hx hb dL_law_3 rfl ?_
  refine l_call (k := 17) (lo := 17) (own := RL) (d' := 5) (maxL := 2) (mc' := 119) (ms' := 3355) hx hb hml hl.1 hown hC hS1 wd_83 wd_84 wd_85 wd_66 (by decide +kernel) rfl (mk_C (E := E) l) (by decide) (nw_PC_blind E) (fun U hU hW => ⟨⟨rfl, ⟨hC.call hS1 hU hW, hE, h0⟩, by rw [hU]; exact hR1, fun v hv => by cases List.mem_singleton.mp hv; exact hok0 17, hT.warm hW⟩, hN.call hS1 hU hW⟩) (by decide) dL_law_4 (fun H2 locs2 hR2 hS2 => ?_)
  refine lv_astore_n hx hb dL_law_7 rfl hl (by decide) rfl (fun a1 hl1 => ?_)
  refine W_size (fun hz2 => ?_)
  have hRC : nw_R E sC nwC 120 H2 := nw_back (lo := 17) hE (by decide +kernel) nwC_dn hR2 (by rw [hz]; exact hz2) (by decide)
  refine l_new (k := 0) (ci := 9) (C := RX9) (T := TX9) (N := 21) (own := RL) hx hb hown hC hE hRC hS2 tyX9 tyX9_ok rfl rfl uw_9 wd_863 wi_864 wd_80 (by decide +kernel) sh_0 (fun f => by rw [sC_born.1 0 (by decide)]; rfl) nwC_0 df_9 (by decide) (by decide) dL_law_8 (fun H3 hR3 hS3 => ?_)
  refine lv_dup hx hb dL_law_11 rfl ?_
  refine l_call (k := 0) (lo := 0) (own := RL) (d' := 1) (maxL := 1) (mc' := 16) (ms' := 1968) hx hb hml hl1.1 hown hC hS3 wd_865 wd_866 wd_867 wd_80 (by decide +kernel) rfl (mk_M (E := E) l) (by decide) (nw_PM_blind E) (fun U hU hW => ⟨⟨rfl, ⟨hC.call hS3 hU hW, hE, h0⟩, by rw [hU]; exact hR3, fun v hv => by cases List.mem_singleton.mp hv; exact hok0 0, hT.warm hW⟩, hR2.2⟩) (by decide) dL_law_12 (fun H4 locs4 hR4 hS4 => ?_)
  refine lv_astore_n hx hb dL_law_15 rfl hl1 (by decide) rfl (fun a2 hl2 => ?_)
  have hEE : eL 0 E = E := by
    obtain ⟨D, ad, cA, lo, sz⟩ := E
    cases h0
    rfl
  rw [hEE] at hR4
  have G : ab_G E (p, l, e, room_1, s, m, #[Value.ref b], below, meth, c, 0 + 1 + 119 + 1 + 16, 0 + 10 + 3355 + 21 + 1968) code 4 RL (some .boolean) 2048 := ⟨hx, hb, hml, hown, hC, hr, hlk, by decide, by decide, by decide, by decide⟩
  have B : lw_B E (p, l, e, room_1, s, m, #[Value.ref b], below, meth, c, 0 + 1 + 119 + 1 + 16, 0 + 10 + 3355 + 21 + 1968) L xs := ⟨by rw [h148]; exact hX, by rw [h148]; exact hbl, hz⟩
  have key : ab_X E (p, l, e, room_1, s, m, #[Value.ref b], below, meth, c, 0 + 1 + 119 + 1 + 16, 0 + 10 + 3355 + 21 + 1968) (lw_Z below #[Value.ref b] s) 4 16 [(2, vR 0), (1, vR 17), (0, vR 148)] [] sM := by
    refine x_iconst G dL_law_16 (by decide) ?_
    refine x_istore_n G dL_law_17 rfl (by decide) rfl ?_
    refine lw_loop G B hL (fun s' ls => ?_) 2561 0 sM (by omega) (by omega) sM_inv
    intro H locs a' hR hS hl' ho hs
    refine lv_iconst (v := 1) hx hb dL_law_1078 (by decide) ?_
    refine va_forget (fun q hq => by have := hS.2.2 q hq; have : eS0 E ≤ q.base := this; omega) ?_
    exact W.widen (by decide) (by decide) (lw_ret hx hb hr hlk dL_law_1079)
  refine key H4 locs4 a2 hR4 hS4 ?_ (fun q hq => ?_) (fun v hv => by cases hv)
  · show lv_has a2 4 [(2, Value.ref (eAd E 0)), (1, Value.ref (eAd E 17)), (0, Value.ref (eAd E 148))]
    rw [h148]
    exact hl2
  · rcases List.mem_cons.mp hq with rfl | hq
    · exact hok0 0
    · rcases List.mem_cons.mp hq with rfl | hq
      · exact hok0 17
      · rcases List.mem_cons.mp hq with rfl | hq
        · exact hok0 148
        · cases hq
set_option maxHeartbeats 4000000 in
theorem lw_walk (l : Launch) (b : Addr) (xs : List Int32) : MetFree l x (headSpec (Jvm.Cond.code x code maxLocals ret :: tables_1) room_1) (lw_P b xs) (fun _ _ _ _ _ => True) lw_Q := by
  refine MetFree.of_bodyS (code := code) (maxLocals := maxLocals) (ret := ret) (by decide) ?_ ?_
  · intro args s m h hn
    obtain ⟨meth, c, h1, h2, h3, h4, h5, h6, -, -⟩ := Cond.code_spec hn (atoms_spec (ws := Jvm.Cond.code x code maxLocals ret :: tables_1) h _ List.mem_cons_self)
    exact ⟨meth, c, h1, h2, h3, h4, h5, h6⟩
  · intro p e s m args below meth c s₁ B hml0 hP _
    obtain ⟨rfl, hx, hbd, hgv⟩ := hP
    obtain ⟨scr, harrAt, hlist, hof, hsmall⟩ := hx
    obtain ⟨hcb, hkn, -, -⟩ := State.arrayAt?_spec harrAt
    have hown : s.vm.findClass R_law = some m.cls := findClass_of_methodNamed B.named
    have hts0 : ∀ c ∈ (Jvm.Cond.code x code maxLocals ret :: tables_1), c.before #[Value.ref b] s = true := atoms_spec (ws := Jvm.Cond.code x code maxLocals ret :: tables_1) B.pre
    have hts : ∀ w ∈ lw_tbl, w.before #[Value.ref b] s = true := k2_hts_sels lw_privs (fun w hw => hts0 w (List.mem_cons_of_mem _ hw)) lw_privs_ok
    have hml : c.maxLocals = 4 := B.maxLocals_eq (hts0 _ List.mem_cons_self)
    have X₀ : Stand p l e room_1 s m #[Value.ref b] below meth c s₁ [] 0 0 := Stand.of_body B
    have hh0 : s₁.heap = s.heap := by rw [B.state]; rfl
    have hsz : scr.slots.size = xs.length := by rw [← Array.length_toList, hlist, List.length_map]
    have hval : ∀ j : Nat, j < xs.length → scr.slots[j]? = some (.int (xs.getD j 0)) := fun j hj => by
      rw [← Array.getElem?_toList, hlist]
      simp [hj]
    have hbl : b < s.heap.size := (Array.getElem?_eq_some_iff.mp hcb).1
    have hX : va_X b xs.length (fun j => xs.getD j 0) s s.heap := ⟨scr, hcb, hof, hkn, hsz, hval⟩
    have K : W p l e room_1 s m #[Value.ref b] below meth c s₁.heap [] 0 0 (lw_Z below #[Value.ref b] s) (entryFrame m ([Value.ref b] : List Value).toArray 4) := by
      rw [hh0]
      exact whole_start l hbd ⟨B.exec, B.bytes, B.returns, hml, hown, hts, hX, hbl, B.notSynchronized, hgv⟩
    obtain ⟨t, a1, o, b1, b2, b3⟩ := K s₁ rfl X₀
    exact ⟨t, o, a1, b1, b2, b3⟩
theorem lw_pre_spec {args : Array Value} {s : State} (h : (Jvm.Cond.and given_1 narrow_1).before args s = true) (hr : rest_1_c.before args s = true) : ∃ (b : Addr) (xs : List Int32), lw_P b xs args s := by
  have hs := flat_of_before _ h
  have hq := flat_of_before _ hr
  have hc : (Cond.count 1).before args s = true := hs _ (by decide +kernel)
  have harr : (Cond.arrayOf (.arg 0) .int).before args s = true := hs _ (by decide +kernel)
  have hle : (Cond.le (.length (.arg 0)) (.int 2560)).before args s = true := hs _ (by decide +kernel)
  have hlen : (Cond.isInt (.length (.arg 0))).before args s = true := hq _ (by decide +kernel)
  have hall : (Cond.all (.arg 0) (.isInt (.elem (.arg 0) (.index 0)))).before args s = true := hq _ (by decide +kernel)
  obtain ⟨b, xs, hb, hx⟩ := State.ints_of_pre rfl harr hlen hall
  have hsm : xs.length < 2 ^ 31 := hx.choose_spec.2.2.2
  have hev : (Term.length (.arg 0)).eval args s none [] s = some (.int xs.length.toInt32) := hx.length_eval hb
  have hv := Cond.le_ints hev (show (Term.int 2560).eval args s none [] s = some (.int 2560) from rfl)
  have hd : xs.length.toInt32 ≤ 2560 := by
    simpa [Cond.before, Cond.holds, hv] using hle
  have hN : xs.length ≤ 2560 := (Int32.ofNat_le_ofNat hsm (by decide)).mp (show Int32.ofNat xs.length ≤ Int32.ofNat 2560 from hd)
  exact ⟨b, xs, Cond.one_arg hc (show args[0]? = some (.ref b) from hb), hx, hN, h⟩
theorem lw_comes (l : Launch) : Comes l x (Jvm.Cond.code x code maxLocals ret :: tables_1) room_1 (fun tb e args s => Calls_1 tb e args s ∧ rest_1 tb e args s ∧ Pre_1 tb e args s)
    (fun _ _ args s o t => lw_Q args s o t) := by
  intro p e ha hc hk s m args below hf hfit hheap happ hpre
  obtain ⟨b, xs, hP⟩ := lw_pre_spec hpre.2.2 hpre.2.1
  obtain ⟨k, o, h1, h2, h3, hQ⟩ := lw_walk l b xs p e ha hc hk s m args below hf ((Spec.applies_iff_loose hf).mp happ).1 hP trivial
  exact ⟨k, o, h1, h2, h3, hQ⟩
theorem lw_frame {s t : State} {o : Outcome} {args : Array Value} (h : Framed s o t [] 600000 7302250) :
    Framed s o t (fieldLocs frame_1_writes args s ++ arrayLocs frame_1_arrays args s ++ staticLocs frame_1_statics s) 600000 7302250 := h
theorem lw_limb (L : Cond) (hL : ∀ (args : Array Value) (s t : State), L.after args s (.returned (some (.int 1))) t = true) :
    ArmFor flags0 classFile x code maxLocals ret World_1 tables_1 room_1 Calls_1 rest_1 Pre_1
      (fun tb e a s o t => postC L tb e a s o t ∧ Framed s o t (fieldLocs frame_1_writes a s ++ arrayLocs frame_1_arrays a s ++ staticLocs frame_1_statics s) 600000 7302250) := by
  intro l _ _ _ p e ha hc hk s m args below hf hfit hheap happ hpre
  obtain ⟨k, o, h1, h2, h3, rfl, hF⟩ := lw_comes l p e ha hc hk s m args below hf hfit hheap happ hpre
  exact ⟨k, _, h1, h2, h3, hL args s _, lw_frame hF⟩
theorem i_vc : Claimed_1_1 ∧ Claimed_1_2 := ⟨lw_limb limb_1_1 (fun args s t => by simp [limb_1_1, Cond.after, Cond.holds, Cond.value]), lw_limb limb_1_2 (fun args s t => Cond.after_iff.mpr (by
  first | (rw [show limb_1_2 = Cond.eq .result (.int 1) from rfl, Cond.eq_ints (x := 1) (y := 1) rfl rfl]; simp; done) | (simp [limb_1_2, Cond.value, Term.eval]; done)))⟩


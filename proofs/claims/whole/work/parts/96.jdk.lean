/-! ===== the JDK's own methods of the text constant ===== -/
def tx0 : List Int32 := [104, 57, 44, 57, 44, 49, 48, 44, 48, 59, 98, 49, 44, 53, 44, 49, 44, 49, 48, 44, 49, 59, 115, 49, 48, 44, 48, 44, 49, 44, 48, 44, 48, 44, 48, 59]
def txS : String := "h9,9,10,0;b1,5,1,10,1;s10,0,1,0,0,0;"
def nw_S (E : En) (U : State) : Prop := (vk_S 1 [36] [tx0] (fun _ => eAd E 145) (fun _ => eAd E 146) (eA E) U U.heap ∧ vk_R RX8 77 txS (eAd E 145) U) ∧ (va_Z RJ0 "COMPACT_STRINGS" "Z" (.int 1) (eA E) U U.heap ∧ va_Zq RJ3 "SIOOBE_FORMATTER" "Ljava/util/function/BiFunction;" (eA E) U U.heap)
theorem nw_S.move {E : En} {u U : State} (h : nw_S E u) (hW : u.WarmedH U.vm) (hq : ∀ a : Nat, a < u.heap.size → ¬ eA E a → U.heap[a]? = u.heap[a]?) : nw_S E U :=
  ⟨⟨(h.1.1.moved hW.alike).kept hq, h.1.2.warm hW⟩, ((h.2.1.moved hW.alike).kept hq), ((h.2.2.moved hW.alike).kept hq)⟩
theorem nw_S.call {E : En} {s U : State} {H : Heap} {locs : List Loc} (h : nw_S E s) (hS : va_S (eA E) s.heap H locs) (hU : U.heap = H) (hW : s.WarmedH U.vm) : nw_S E U := h.move hW (fun a h1 h2 => by rw [hU]; exact hS.2.1 a h1 h2)
theorem nw_S.blind {E : En} {U V : State} (e1 : U.vm = V.vm) (e2 : U.heap = V.heap) (h : nw_S E U) : nw_S E V := by
  have hA : U.vm.Alike V.vm := by rw [e1]; exact Vm.Alike.refl _
  exact ⟨⟨(h.1.1.moved hA).kept (fun a _ _ => by rw [e2]), h.1.2.same e1.symm⟩, ((h.2.1.moved hA).kept (fun a _ _ => by rw [e2])), ((h.2.2.moved hA).kept (fun a _ _ => by rw [e2]))⟩
def js_P (E : En) (av : List Value) : Array Value → State → Prop := fun v U => v = av.toArray ∧ ab_Ws U ∧ nw_S E U
def js_Q (r : Option Value) : Array Value → State → Outcome → State → Prop := fun _ st oc t => oc = .returned r ∧ t.heap = st.heap
def js_Run (E : En) (d : Nat) (y : MethodName) (cc : ByteArray) (maxL : Nat) (ret : Option FieldType) (av : List Value) (r : Option Value) : Prop :=
  ∀ l : Launch, Met l y [Cond.code y cc maxL ret] (ab_rm d) (js_P E av) (js_Q r) 0 0 (fun _ => False)
theorem js_blind (E : En) (av : List Value) : FrameBlind (js_P E av) := fun a U g mk h => ⟨h.1, h.2.1.same (U := U.calling g mk a) rfl, h.2.2.blind (V := U.calling g mk a) rfl rfl⟩
section JS
variable {E : En} {p : Program} {l : Launch} {e : Env} {R : Room} {s : State} {m : MethodId} {args : Array Value} {below : List Frame} {meth : Method} {c : Code} {H : Heap} {locs : List Loc} {cells slots : Nat} {Q : State → Prop} {cc cc' : ByteArray} {nL pc d d' idx maxL n : Nat} {own : String} {y : MethodName} {ret : Option FieldType} {a : Array Slot} {As rest : List Value} {r : Option Value} {av : Array Value} {st0 : List Value}
theorem j_go (hr : va_Run p l e R s m args below meth c H locs cells slots 0 0 (F0 m pc a st0) rest (js_Q r av) (fun _ => False)) (kk : W p l e R s m args below meth c H locs cells slots Q (F0 m (pc + 3) a (r.toList ++ rest))) : W p l e R s m args below meth c H locs cells slots Q (F0 m pc a st0) := by
  intro T hT X
  obtain ⟨v, st₀, t, T', L, h0, X', hL, e1, e2, ⟨hv, hh⟩, stp⟩ := hr T hT X
  have hv := Outcome.returned.inj hv
  subst hv
  have hL0 : L = [] := List.eq_nil_iff_forall_not_mem.mpr (fun q hq => hL q hq)
  subst hL0
  rw [List.append_nil] at X'
  obtain ⟨t2, a1, b1⟩ := kk T' (by rw [e1, hh, h0]) X'
  exact ⟨t2, stp t2 a1, b1⟩
def j_C (p : Program) (R : Room) (s : State) (m : MethodId) (c : Code) (cells slots : Nat) (E : En) (cc : ByteArray) (nL : Nat) (own : String) (d : Nat) : Prop := (p.tables.exec = Jvm.exec ∧ c.code = cc ∧ c.maxLocals = nL ∧ s.vm.findClass own = some m.cls) ∧ (ab_Ws s ∧ nw_S E s) ∧ (d ≤ R.frames ∧ 40 * d ≤ R.locals) ∧ cells ≤ R.cells ∧ slots ≤ R.slots
theorem j_callV (G : j_C p R s m c cells slots E cc nL own d) (hS : va_S (eA E) s.heap H locs) (w1 : Cond.methodLink own idx y ∈ ab_TW) (w2 : Cond.instanceMethod y ∈ ab_TW) (w3 : Cond.selects RJ0 y y ∈ ab_TW) (w4 : Cond.code y cc' maxL ret ∈ ab_TW) (w5 : Cond.initialized y.cls ∈ ab_TW) (hy : y.cls ≠ "java/lang/invoke/MethodHandle" ∧ y.cls ≠ "java/lang/invoke/VarHandle" ∧ (parseMethodDescriptor y.desc).map (fun d => d.parameters.length) = some n) (hm : maxL ≤ 21) (hM : js_Run E d' y cc' maxL ret (.ref (eAd E 145) :: As) r) (hdd : d' + 1 ≤ d) (hAs : As.length = n) (hsz : a.size = nL) (hrest : (rest.map fun v => v.category).sum ≤ 8) (hst : st0 = As.reverse ++ .ref (eAd E 145) :: rest) (hd : decode cc pc = .ok (.invokevirtual idx, 3)) (kk : W p l e R s m args below meth c H locs cells slots Q (F0 m (pc + 3) a (r.toList ++ rest))) : W p l e R s m args below meth c H locs cells slots Q (F0 m pc a st0) := by
  subst hst
  have hts := G.2.1.1.use args
  have hn : ∀ sig, parseMethodDescriptor y.desc = some sig → n = sig.parameters.length := fun sig h => by
    have h2 := hy.2.2
    rw [h] at h2
    exact (Option.some.inj h2).symm
  exact j_go (va_runV (C := RJ0) (As := As) (Ts := ab_TW) (nL := nL) ⟨G.1.1, G.1.2.1, G.1.2.2.1, G.1.2.2.2, hts⟩ (hM l) ⟨ab_callB (p := p) (m := m) hts G.2.1.1 w4 w5 ⟨hy.1, hy.2.1⟩ hn hm G.2.2.1 hdd w1, hts _ w2, hts _ w3⟩ ⟨js_blind _ _, vk_recv (i := 0) G.2.1.2.1.1 (by decide) hS, fun U hU hW => ⟨rfl, G.2.1.1.warm hW, G.2.1.2.call hS hU hW⟩⟩ rfl hAs hsz rfl (lv_room hrest) hd ⟨G.2.2.2.1, G.2.2.2.2⟩) kk
theorem j_callS (G : j_C p R s m c cells slots E cc nL own d) (hS : va_S (eA E) s.heap H locs) (w1 : Cond.methodLink own idx y ∈ ab_TW) (w2 : Cond.static y ∈ ab_TW) (w4 : Cond.code y cc' maxL ret ∈ ab_TW) (w5 : Cond.initialized y.cls ∈ ab_TW) (hy : y.cls ≠ "java/lang/invoke/MethodHandle" ∧ y.cls ≠ "java/lang/invoke/VarHandle" ∧ (parseMethodDescriptor y.desc).map (fun d => d.parameters.length) = some n) (hm : maxL ≤ 21) (hM : js_Run E d' y cc' maxL ret As r) (hdd : d' + 1 ≤ d) (hAs : As.length = n) (hsz : a.size = nL) (hrest : (rest.map fun v => v.category).sum ≤ 8) (hst : st0 = As.reverse ++ rest) (hd : decode cc pc = .ok (.invokestatic idx, 3)) (kk : W p l e R s m args below meth c H locs cells slots Q (F0 m (pc + 3) a (r.toList ++ rest))) : W p l e R s m args below meth c H locs cells slots Q (F0 m pc a st0) := by
  subst hst
  have hts := G.2.1.1.use args
  have hn : ∀ sig, parseMethodDescriptor y.desc = some sig → n = sig.parameters.length := fun sig h => by
    have h2 := hy.2.2
    rw [h] at h2
    exact (Option.some.inj h2).symm
  exact j_go (va_runS (As := As) (Ts := ab_TW) (nL := nL) ⟨G.1.1, G.1.2.1, G.1.2.2.1, G.1.2.2.2, hts⟩ (hM l) ⟨ab_callB (p := p) (m := m) hts G.2.1.1 w4 w5 ⟨hy.1, hy.2.1⟩ hn hm G.2.2.1 hdd w1, hts _ w2⟩ ⟨js_blind _ _, fun U hU hW => ⟨rfl, G.2.1.1.warm hW, G.2.1.2.call hS hU hW⟩⟩ rfl hAs hsz rfl (lv_room hrest) hd ⟨G.2.2.2.1, G.2.2.2.2⟩) kk
end JS
section JM
variable {E : En}
theorem js_intro {d maxL : Nat} {y : MethodName} {cc : ByteArray} {ret : Option FieldType} {av : List Value} {r : Option Value} {own : String} (hy : plainName y.cls = true) (hown : y.cls = own) (hlen : (lg_sl av).length ≤ maxL) (body : ∀ (p : Program) (l : Launch) (e : Env) (R : Room) (s : State) (m : MethodId) (below : List Frame) (meth : Method) (c : Code) (a : Array Slot), j_C p R s m c 0 0 E cc maxL own d → meth.sig.returnType = ret → meth.locks = false → lv_has a maxL (lv_args 0 av) → W p l e R s m av.toArray below meth c s.heap [] 0 0 (MQ below (js_Q r) av.toArray s 0 0 (fun _ => False)) (F0 m 0 a [])) : js_Run E d y cc maxL ret av r := by
  intro l
  subst hown
  refine Met.ofW (cc := cc) (maxL := maxL) (ret := ret) hy rfl ?_
  intro p e s m args below meth c s₁ B hml hv
  obtain ⟨rfl, hW, hN⟩ := hv
  have hl := lv_entry av (n := maxL) hlen
  rw [lg_entry_eq]
  exact body p l e _ s m below meth c _ ⟨⟨B.exec, B.bytes, hml, findClass_of_methodNamed B.named⟩, ⟨hW, hN⟩, ⟨Nat.le_refl _, Nat.le_refl _⟩, Nat.le_refl _, Nat.le_refl _⟩ B.returns B.notSynchronized hl
theorem j_coder : js_Run E 0 yJ0_coder_7d493 cJ0_coder_7d493 1 (some .byte) [.ref (eAd E 145)] (some (.int 0)) := by
  refine js_intro (own := RJ0) rfl rfl (Nat.le_of_ble_eq_true rfl) (fun p l e R s m below meth c a G hr hlk hl => ?_)
  have hl : lv_has a 1 [(0, .ref (eAd E 145))] := hl
  have hts := G.2.1.1.use #[Value.ref (eAd E 145)]
  have hS : va_S (eA E) s.heap s.heap [] := va_S.rf
  refine va_gets G.1.1 G.1.2.1 G.2.1.2.2.1 hS G.1.2.2.2 (hts _ wd_346) (fun _ h => h) dJ0_coder_7d493_0 ?_
  refine lv_if_eq (tgt := 13) G.1.1 G.1.2.1 dJ0_coder_7d493_3 (by decide) (fun h => absurd h (by decide)) (fun _ => ?_)
  refine lv_aload_n G.1.1 G.1.2.1 dJ0_coder_7d493_6 rfl (lv_at hl 0 rfl) ?_
  refine vk_getf G.1.1 G.1.2.1 (G.2.1.2.1.1.1 0 (by decide)).2.1 hS G.1.2.2.2 (hts _ wd_1237) (fun _ h => h) dJ0_coder_7d493_7 ?_
  refine lv_goto (tgt := 14) G.1.1 G.1.2.1 dJ0_coder_7d493_10 (by decide) ?_
  exact W.zret (ty := .byte) (hlocks := hlk) G.1.1 G.1.2.1 hr (by decide) (fun t ht hW => ⟨rfl, ht⟩) (fun q hq => by cases hq) dJ0_coder_7d493_14
theorem j_isLatin1 : js_Run E 0 yJ0_isLatin1_aae02 cJ0_isLatin1_aae02 1 (some .boolean) [.ref (eAd E 145)] (some (.int 1)) := by
  refine js_intro (own := RJ0) rfl rfl (Nat.le_of_ble_eq_true rfl) (fun p l e R s m below meth c a G hr hlk hl => ?_)
  have hl : lv_has a 1 [(0, .ref (eAd E 145))] := hl
  have hts := G.2.1.1.use #[Value.ref (eAd E 145)]
  have hS : va_S (eA E) s.heap s.heap [] := va_S.rf
  refine va_gets G.1.1 G.1.2.1 G.2.1.2.2.1 hS G.1.2.2.2 (hts _ wd_346) (fun _ h => h) dJ0_isLatin1_aae02_0 ?_
  refine lv_if_eq (tgt := 17) G.1.1 G.1.2.1 dJ0_isLatin1_aae02_3 (by decide) (fun h => absurd h (by decide)) (fun _ => ?_)
  refine lv_aload_n G.1.1 G.1.2.1 dJ0_isLatin1_aae02_6 rfl (lv_at hl 0 rfl) ?_
  refine vk_getf G.1.1 G.1.2.1 (G.2.1.2.1.1.1 0 (by decide)).2.1 hS G.1.2.2.2 (hts _ wd_1237) (fun _ h => h) dJ0_isLatin1_aae02_7 ?_
  refine lv_if_ne (tgt := 17) G.1.1 G.1.2.1 dJ0_isLatin1_aae02_10 (by decide) (fun h => absurd rfl h) (fun _ => ?_)
  refine lv_iconst (v := 1) G.1.1 G.1.2.1 dJ0_isLatin1_aae02_13 (by decide) ?_
  refine lv_goto (tgt := 18) G.1.1 G.1.2.1 dJ0_isLatin1_aae02_14 (by decide) ?_
  exact W.zret (ty := .boolean) (hlocks := hlk) G.1.1 G.1.2.1 hr (by decide) (fun t ht hW => ⟨rfl, ht⟩) (fun q hq => by cases hq) dJ0_isLatin1_aae02_18
theorem j_length : js_Run E 1 yJ0_length_8abf5 cJ0_length_8abf5 1 (some .int) [.ref (eAd E 145)] (some (.int 36)) := by
  refine js_intro (own := RJ0) rfl rfl (Nat.le_of_ble_eq_true rfl) (fun p l e R s m below meth c a G hr hlk hl => ?_)
  have hl : lv_has a 1 [(0, .ref (eAd E 145))] := hl
  have hts := G.2.1.1.use #[Value.ref (eAd E 145)]
  have hS : va_S (eA E) s.heap s.heap [] := va_S.rf
  refine lv_aload_n G.1.1 G.1.2.1 dJ0_length_8abf5_0 rfl (lv_at hl 0 rfl) ?_
  refine vk_getf G.1.1 G.1.2.1 (G.2.1.2.1.1.1 0 (by decide)).2.2.1 hS G.1.2.2.2 (hts _ wd_1236) (fun _ h => h) dJ0_length_8abf5_1 ?_
  refine va_tlen (v := 36) G.1.1 G.1.2.1 (G.2.1.2.1.1.1 0 (by decide)).2.2.2 hS (by decide) dJ0_length_8abf5_4 ?_
  refine lv_aload_n G.1.1 G.1.2.1 dJ0_length_8abf5_5 rfl (lv_at hl 0 rfl) ?_
  refine j_callV (n := 0) (As := []) (rest := [.int 36]) G hS wd_342 wd_343 wd_344 wd_345 wd_75 (by decide +kernel) (by decide) j_coder (by decide) rfl hl.1 (by decide) rfl dJ0_length_8abf5_6 ?_
  refine lv_ishr G.1.1 G.1.2.1 dJ0_length_8abf5_9 ?_
  exact W.iret (v := 36) (hlocks := hlk) G.1.1 G.1.2.1 hr (fun t ht hW => ⟨rfl, ht⟩) (fun q hq => by cases hq) dJ0_length_8abf5_10
theorem j_ckP {j n : Nat} (hj : j < n) (hn : n < 1000) {f : Nat} : js_Run E 0 yJ3_checkIndex_8e157 cJ3_checkIndex_8e157 3 (some .int) [.int (nI j), .int (nI n), .ref f] (some (.int (nI j))) := by
  refine js_intro (own := RJ3) rfl rfl (Nat.le_of_ble_eq_true rfl) (fun p l e R s m below meth c a G hr hlk hl => ?_)
  have hl : lv_has a 3 [(0, .int (nI j)), (1, .int (nI n)), (2, .ref f)] := hl
  refine lv_iload_n G.1.1 G.1.2.1 dJ3_checkIndex_8e157_0 rfl (lv_at hl 0 rfl) ?_
  refine lv_if_lt (tgt := 9) G.1.1 G.1.2.1 dJ3_checkIndex_8e157_1 (by decide) (fun h => absurd h (nI_pos (by omega))) (fun _ => ?_)
  refine lv_iload_n G.1.1 G.1.2.1 dJ3_checkIndex_8e157_4 rfl (lv_at hl 0 rfl) ?_
  refine lv_iload_n G.1.1 G.1.2.1 dJ3_checkIndex_8e157_5 rfl (lv_at hl 1 rfl) ?_
  refine lv_icmp_lt (tgt := 16) G.1.1 G.1.2.1 dJ3_checkIndex_8e157_6 (by decide) (fun _ => ?_) (fun h => absurd (nI_lt hj (by omega)) h)
  refine lv_iload_n G.1.1 G.1.2.1 dJ3_checkIndex_8e157_16 rfl (lv_at hl 0 rfl) ?_
  exact W.iret (v := nI j) (hlocks := hlk) G.1.1 G.1.2.1 hr (fun t ht hW => ⟨rfl, ht⟩) (fun q hq => by cases hq) dJ3_checkIndex_8e157_17
theorem j_ckN {j n : Nat} (hj : j < n) (hn : n < 1000) : js_Run E 0 yJ3_checkIndex_8e157 cJ3_checkIndex_8e157 3 (some .int) [.int (nI j), .int (nI n), .null] (some (.int (nI j))) := by
  refine js_intro (own := RJ3) rfl rfl (Nat.le_of_ble_eq_true rfl) (fun p l e R s m below meth c a G hr hlk hl => ?_)
  have hl : lv_has a 3 [(0, .int (nI j)), (1, .int (nI n)), (2, .null)] := hl
  refine lv_iload_n G.1.1 G.1.2.1 dJ3_checkIndex_8e157_0 rfl (lv_at hl 0 rfl) ?_
  refine lv_if_lt (tgt := 9) G.1.1 G.1.2.1 dJ3_checkIndex_8e157_1 (by decide) (fun h => absurd h (nI_pos (by omega))) (fun _ => ?_)
  refine lv_iload_n G.1.1 G.1.2.1 dJ3_checkIndex_8e157_4 rfl (lv_at hl 0 rfl) ?_
  refine lv_iload_n G.1.1 G.1.2.1 dJ3_checkIndex_8e157_5 rfl (lv_at hl 1 rfl) ?_
  refine lv_icmp_lt (tgt := 16) G.1.1 G.1.2.1 dJ3_checkIndex_8e157_6 (by decide) (fun _ => ?_) (fun h => absurd (nI_lt hj (by omega)) h)
  refine lv_iload_n G.1.1 G.1.2.1 dJ3_checkIndex_8e157_16 rfl (lv_at hl 0 rfl) ?_
  exact W.iret (v := nI j) (hlocks := hlk) G.1.1 G.1.2.1 hr (fun t ht hW => ⟨rfl, ht⟩) (fun q hq => by cases hq) dJ3_checkIndex_8e157_17
theorem j_ckS {j n : Nat} (hj : j < n) (hn : n < 1000) : js_Run E 1 yJ0_checkIndex_df160 cJ0_checkIndex_df160 2 none [.int (nI j), .int (nI n)] none := by
  refine js_intro (own := RJ0) rfl rfl (Nat.le_of_ble_eq_true rfl) (fun p l e R s m below meth c a G hr hlk hl => ?_)
  have hl : lv_has a 2 [(0, .int (nI j)), (1, .int (nI n))] := hl
  have hts := G.2.1.1.use #[Value.int (nI j), Value.int (nI n)]
  have hS : va_S (eA E) s.heap s.heap [] := va_S.rf
  refine lv_iload_n G.1.1 G.1.2.1 dJ0_checkIndex_df160_0 rfl (lv_at hl 0 rfl) ?_
  refine lv_iload_n G.1.1 G.1.2.1 dJ0_checkIndex_df160_1 rfl (lv_at hl 1 rfl) ?_
  rcases G.2.1.2.2.2 with hz | ⟨t, hz⟩
  · refine va_gets G.1.1 G.1.2.1 hz hS G.1.2.2.2 (hts _ wd_362) (fun _ h => h) dJ0_checkIndex_df160_2 ?_
    refine j_callS (n := 3) (As := [.int (nI j), .int (nI n), .null]) (rest := []) G hS wd_364 wd_365 wd_366 wd_77 (by decide +kernel) (by decide) (j_ckN hj hn) (by decide) rfl hl.1 (by decide) rfl dJ0_checkIndex_df160_5 ?_
    refine lv_pop G.1.1 G.1.2.1 dJ0_checkIndex_df160_8 rfl ?_
    exact W.vret (hlocks := hlk) G.1.1 G.1.2.1 hr (fun t ht hW => ⟨rfl, ht⟩) (fun q hq => by cases hq) dJ0_checkIndex_df160_9
  · refine va_gets G.1.1 G.1.2.1 hz hS G.1.2.2.2 (hts _ wd_362) (fun _ h => h) dJ0_checkIndex_df160_2 ?_
    refine j_callS (n := 3) (As := [.int (nI j), .int (nI n), .ref t]) (rest := []) G hS wd_364 wd_365 wd_366 wd_77 (by decide +kernel) (by decide) (j_ckP hj hn) (by decide) rfl hl.1 (by decide) rfl dJ0_checkIndex_df160_5 ?_
    refine lv_pop G.1.1 G.1.2.1 dJ0_checkIndex_df160_8 rfl ?_
    exact W.vret (hlocks := hlk) G.1.1 G.1.2.1 hr (fun t ht hW => ⟨rfl, ht⟩) (fun q hq => by cases hq) dJ0_checkIndex_df160_9
theorem tx0_ch : ∀ j, j < 36 → ((tx0.getD j 0 &&& 255).toUInt32 % 65536).toInt32 = tx0.getD j 0 ∧ narrow .char (.int (tx0.getD j 0)) = .int (tx0.getD j 0) := by decide +kernel
theorem j_char1 {j : Nat} (hj : j < 36) : js_Run E 2 yJ1_charAt_3b067 cJ1_charAt_3b067 2 (some .char) [.ref (eAd E 146), .int (nI j)] (some (.int (tx0.getD j 0))) := by
  refine js_intro (own := RJ1) rfl rfl (Nat.le_of_ble_eq_true rfl) (fun p l e R s m below meth c a G hr hlk hl => ?_)
  have hl : lv_has a 2 [(0, .ref (eAd E 146)), (1, .int (nI j))] := hl
  have hS : va_S (eA E) s.heap s.heap [] := va_S.rf
  have hT := (G.2.1.2.1.1.1 0 (by decide)).2.2.2
  refine lv_iload_n G.1.1 G.1.2.1 dJ1_charAt_3b067_0 rfl (lv_at hl 1 rfl) ?_
  refine lv_aload_n G.1.1 G.1.2.1 dJ1_charAt_3b067_1 rfl (lv_at hl 0 rfl) ?_
  refine va_tlen (v := nI 36) G.1.1 G.1.2.1 hT hS (by decide) dJ1_charAt_3b067_2 ?_
  refine j_callS (n := 2) (As := [.int (nI j), .int (nI 36)]) (rest := []) G hS wd_359 wd_360 wd_361 wd_75 (by decide +kernel) (by decide) (j_ckS hj (by decide)) (by decide) rfl hl.1 (by decide) rfl dJ1_charAt_3b067_3 ?_
  refine lv_aload_n G.1.1 G.1.2.1 dJ1_charAt_3b067_6 rfl (lv_at hl 0 rfl) ?_
  refine lv_iload_n G.1.1 G.1.2.1 dJ1_charAt_3b067_7 rfl (lv_at hl 1 rfl) ?_
  refine va_tb (v := .int (tx0.getD j 0)) G.1.1 G.1.2.1 hT hS (vp_in_nI hj (by decide)) (by rw [nI_clamp (by omega)]; rfl) dJ1_charAt_3b067_8 ?_
  refine lv_sipush (v := 255) G.1.1 G.1.2.1 dJ1_charAt_3b067_9 (by decide) ?_
  refine lv_iand G.1.1 G.1.2.1 dJ1_charAt_3b067_12 ?_
  refine lv_i2c G.1.1 G.1.2.1 dJ1_charAt_3b067_13 (tx0_ch j hj).1 ?_
  exact W.zret (ty := .char) (hlocks := hlk) G.1.1 G.1.2.1 hr (tx0_ch j hj).2 (fun t ht hW => ⟨rfl, ht⟩) (fun q hq => by cases hq) dJ1_charAt_3b067_14
theorem j_charAt {j : Nat} (hj : j < 36) : js_Run E 3 yJ0_charAt_5068e cJ0_charAt_5068e 2 (some .char) [.ref (eAd E 145), .int (nI j)] (some (.int (tx0.getD j 0))) := by
  refine js_intro (own := RJ0) rfl rfl (Nat.le_of_ble_eq_true rfl) (fun p l e R s m below meth c a G hr hlk hl => ?_)
  have hl : lv_has a 2 [(0, .ref (eAd E 145)), (1, .int (nI j))] := hl
  have hts := G.2.1.1.use #[Value.ref (eAd E 145), Value.int (nI j)]
  have hS : va_S (eA E) s.heap s.heap [] := va_S.rf
  refine lv_aload_n G.1.1 G.1.2.1 dJ0_charAt_5068e_0 rfl (lv_at hl 0 rfl) ?_
  refine j_callV (n := 0) (As := []) (rest := []) G hS wd_352 wd_353 wd_354 wd_355 wd_75 (by decide +kernel) (by decide) j_isLatin1 (by decide) rfl hl.1 (by decide) rfl dJ0_charAt_5068e_1 ?_
  refine lv_if_eq (x := 1) (rest := []) (tgt := 16) G.1.1 G.1.2.1 dJ0_charAt_5068e_4 (by decide) (fun h => absurd h (by decide)) (fun _ => ?_)
  refine lv_aload_n G.1.1 G.1.2.1 dJ0_charAt_5068e_7 rfl (lv_at hl 0 rfl) ?_
  refine vk_getf G.1.1 G.1.2.1 (G.2.1.2.1.1.1 0 (by decide)).2.2.1 hS G.1.2.2.2 (hts _ wd_1236) (fun _ h => h) dJ0_charAt_5068e_8 ?_
  refine lv_iload_n G.1.1 G.1.2.1 dJ0_charAt_5068e_11 rfl (lv_at hl 1 rfl) ?_
  refine j_callS (n := 2) (As := [.ref (eAd E 146), .int (nI j)]) (rest := []) G hS wd_356 wd_357 wd_358 wd_76 (by decide +kernel) (by decide) (j_char1 hj) (by decide) rfl hl.1 (by decide) rfl dJ0_charAt_5068e_12 ?_
  exact W.zret (ty := .char) (hlocks := hlk) G.1.1 G.1.2.1 hr (tx0_ch j hj).2 (fun t ht hW => ⟨rfl, ht⟩) (fun q hq => by cases hq) dJ0_charAt_5068e_15
end JM

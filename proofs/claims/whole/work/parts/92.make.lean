/-! ===== makings ===== -/
theorem av_cg {cA : ClassId} {N : Nat} {f g : Nat → Value} (h : ∀ j, j < N → f j = g j) : arrV cA N f = arrV cA N g := by
  unfold arrV
  congr 1
  apply Array.ext
  · simp
  · intro i h1 h2
    simp only [Array.getElem_ofFn]
    exact h i (by simpa using h1)
section NM
variable {E : En} {b : Bn} {Q : State → Prop} {nL pc : Nat} {ls : List (Nat × AV)} {st : List AV} {s : Mem} {φ : Wf} {n u c : Nat} {cc : ByteArray} {own : String} {d mc ms : Nat}
theorem n_new (G : nw_G E b cc nL own d mc ms) {idx k ci N : Nat} {C : String} {T : u_T} (ty : Nat → FieldType) (hty : ∀ j, j < N → parseFieldDescriptor (T j).2.2.1 = some (ty j)) (hc : vwCl[ci]? = some (C, T, N)) (hN : ab_nf.getD ci 0 = N) (hu : ∀ w ∈ u_ws C T N, w ∈ ab_TW) (w1 : Cond.classLink own idx C ∈ ab_TW) (w2 : Cond.instantiable C N ∈ ab_TW) (w3 : Cond.initialized C ∈ ab_TW) (hk : nw_i n = k) (hsh : ab_sh k = (1, ci, 0)) (hz : ∀ f, s k f = 0) (hφ : ∀ f, f < N → φ.contains (k, f) = false) (hdf : ∀ f, f < N → defaultValue (ty f) = if ab_ptr k f = none then .int 0 else .null) (hm : u + 1 ≤ mc ∧ c + N ≤ ms) (hn : n < 137) (hd : decode cc pc = .ok (.new idx, 3)) (kk : nw_X E b Q nL (pc + 3) ls (vR k :: st) s φ (n + 1) (u + 1) (c + N)) : nw_X E b Q nL pc ls st s φ n u c := by
  obtain ⟨p, l, e, R, s0, m, args, below, meth, cd, cells, slots⟩ := b
  intro H locs a hcn hR hS hl ho hs
  have hts := G.2.1.1.1.use args
  have hKn := G.2.1.1.2.1.1 ci _ hc
  have hk137 := (nw_oi n hn).2
  have hok := (nw_oi n hn).1
  rw [hk] at hk137 hok
  have had : eAd E k = eS0 E + n := by rw [G.2.1.2.1 k hk137, hok]
  have hmm := G.2.2.2.1
  refine W.newcK G.1.1 G.1.2.1 G.1.2.2.2 (hts _ w1) (hts _ w2) (hts _ w3) rfl hd (by omega) (by omega) hKn.2.1 hR.2 fun H1 kC hkC e1 z1 o1 => ?_
  have hR1 : nw_R E s φ (n + 1) H1 := by
    refine hR.grow (by rw [z1, hR.2]) (fun q hq => o1 q (by rw [← hR.2]; exact hq)) ?_
    rw [hk, nw_entO E s φ hsh, hN]
    refine ⟨_, hc, (u_born ty hts hu hKn hkC e1 hty).to (fun j hj => ?_)⟩
    rw [hdf j hj]
    unfold vp_V
    rw [List.getD_eq_getElem?_getD, nf_at E s φ k hj]
    show _ = nw_fv E s φ k j
    unfold nw_fv
    cases hp : ab_ptr k j with
    | none => rw [if_pos rfl, hz j]; rfl
    | some t => dsimp only; rw [if_neg (by simp), if_neg (by rw [hφ j hj]; decide)]
  have hS1 : va_S (eA E) s0.heap H1 locs := ⟨Nat.le_trans hS.1 (by rw [hR.2, z1]; omega), fun q h1 h2 => (o1 q (by rw [← hR.2]; exact Nat.lt_of_lt_of_le h1 hS.1)).trans (hS.2.1 q h1 h2), hS.2.2⟩
  have := kk H1 locs a (by omega) hR1 hS1 hl ho (okc (show eLo E ≤ k by rw [G.2.1.2.2]; omega) hs)
  rw [show ((vR k :: st).map (ab_c E)) = .ref (eAd E k) :: st.map (ab_c E) from rfl, had, ← Nat.add_assoc cells u 1, ← Nat.add_assoc slots c N] at this
  exact this
theorem n_newa (G : nw_G E b cc nL own d mc ms) {k len : Nat} {at' : ArrayType} {ty : FieldType} {x : Int} (hty : newarray.typeOf at' = ty) (w1 : ∀ U, nw_T U → (Cond.arrayClass ty).before #[] U = true) (hk : nw_i n = k) (hft : ab_ft k = ty) (hsh : (ab_sh k).2.1 = len) (hkd : ((ab_sh k).1 = 5 ∧ ty = .long) ∨ (((ab_sh k).1 = 2 ∨ (ab_sh k).1 = 3 ∨ (ab_sh k).1 = 4) ∧ (ty = .int ∨ ty = .byte ∨ ty = .boolean))) (hz : ∀ f, s k f = 0) (hx : x = len) (hlen : len < 1000) (hm : u + 1 ≤ mc ∧ c + len ≤ ms) (hn : n < 137) (hd : decode cc pc = .ok (.newarray at', 2)) (kk : nw_X E b Q nL (pc + 2) ls (vR k :: st) s φ (n + 1) (u + 1) (c + len)) : nw_X E b Q nL pc ls (vI x :: st) s φ n u c := by
  obtain ⟨p, l, e, R, s0, m, args, below, meth, cd, cells, slots⟩ := b
  intro H locs a hcn hR hS hl ho hs
  have hts := G.2.1.1.1.use args
  have hk137 := (nw_oi n hn).2
  have hok := (nw_oi n hn).1
  rw [hk] at hk137 hok
  have had : eAd E k = eS0 E + n := by rw [G.2.1.2.1 k hk137, hok]
  have hmm := G.2.2.2.1
  have hne : (ab_sh k).1 ≠ 1 := by omega
  have hCk := G.2.1.1.2.2.1 k (by rw [G.2.1.2.2]; omega) hk137 hne
  rw [hft] at hCk
  subst hty
  have hxn : Int32.ofInt x = nI len := by rw [hx]; rfl
  refine va_newaK (N := len) G.1.1 G.1.2.1 (ac_args (w1 s0 G.2.2.2.2.1.2)) rfl hd rfl (by show ¬ Int32.ofInt x < 0; rw [hxn]; exact nI_pos (by omega)) (by show (Int32.ofInt x).toNatClampNeg = len; rw [hxn]; exact nI_clamp (by omega)) (by cases at' <;> simp [newarray.typeOf, componentBytes] <;> omega) (by omega) (by omega) hR.2 fun H1 cA e1 z1 o1 hAr hNm => ?_
  have hcA : cA = eCA E k := by
    have h2 := hCk.2
    have : s0.vm.findClass ("[" ++ (newarray.typeOf at').toString) = some (eCA E k) := by
      rcases hkd with ⟨-, h3⟩ | ⟨-, h3⟩
      · rw [h3] at h2 ⊢; exact h2
      · rcases h3 with h3 | h3 | h3 <;> rw [h3] at h2 ⊢ <;> exact h2
    exact Option.some.inj (hNm.symm.trans this)
  have hR1 : nw_R E s φ (n + 1) H1 := by
    refine hR.grow (by rw [z1, hR.2]) (fun q hq => o1 q (by rw [← hR.2]; exact hq)) ?_
    rw [hk]
    unfold nw_ent
    rw [if_neg hne, if_pos (by omega)]
    rcases hkd with ⟨h3, h4⟩ | ⟨h3, h4⟩
    · rw [ent_L h3]
      show H1[eS0 E + n]? = some (vp_cell (eCA E k) ((ab_sh k).2.1, .inr (.inl (fun j => Int64.ofInt (s k j)))))
      rw [e1, hsh, vp_cell_l, hcA, h4]
      exact congrArg some (av_cg (fun j _ => by rw [hz j]; rfl))
    · rw [ent_I h3]
      show H1[eS0 E + n]? = some (vp_cell (eCA E k) ((ab_sh k).2.1, .inl (fun j => Int32.ofInt (s k j))))
      rw [e1, hsh, vp_cell_i, hcA]
      refine congrArg some (av_cg (fun j _ => ?_))
      rw [hz j]
      rcases h4 with h4 | h4 | h4 <;> rw [h4] <;> rfl
  have hS1 : va_S (eA E) s0.heap H1 locs := ⟨Nat.le_trans hS.1 (by rw [hR.2, z1]; omega), fun q h1 h2 => (o1 q (by rw [← hR.2]; exact Nat.lt_of_lt_of_le h1 hS.1)).trans (hS.2.1 q h1 h2), hS.2.2⟩
  have := kk H1 locs a (by omega) hR1 hS1 hl ho (okc (show eLo E ≤ k by rw [G.2.1.2.2]; omega) (oks hs).2)
  rw [show ((vR k :: st).map (ab_c E)) = .ref (eAd E k) :: st.map (ab_c E) from rfl, had, ← Nat.add_assoc cells u 1, ← Nat.add_assoc slots c len] at this
  exact this
theorem n_putF (G : nw_G E b cc nL own d mc ms) {idx k t ci N f : Nat} {C : String} {T : u_T} {ty0 : Nat → FieldType} {ty : FieldType} (hc : vwCl[ci]? = some (C, T, N)) (hN : ab_nf.getD ci 0 = N) (hu : ∀ w ∈ u_ws C T N, w ∈ ab_TW) (hty : ∀ k, k < N → parseFieldDescriptor (T k).2.2.1 = some (ty0 k)) (hnm : ∀ a, a < N → ∀ b, b < N → a ≠ b → (T a).2.1 ≠ (T b).2.1) (hf : f < N) (hw : Cond.fieldLink own idx (T f).1 (T f).2.1 (T f).2.2.1 ∈ ab_TW) (hfin : (T f).2.2.2 = true) (hdecl : (T f).1 = own) (hpd : parseFieldDescriptor (T f).2.2.1 = some ty) (hnr : ∀ x, narrow ty (.ref x) = .ref x) (hft : ∀ x, fits ty (.ref x) = true) (hsh : ab_sh k = (1, ci, 0)) (hp : ab_ptr k f = some t) (hkn : nw_o k < n) (hn : n ≤ 137) (hd : decode cc pc = .ok (.putfield idx, 3)) (kk : nw_X E b Q nL (pc + 3) ls st s ((k, f) :: φ) n u c) : nw_X E b Q nL pc ls (vR t :: vR k :: st) s φ n u c := by
  have hk137 := sh_lt hsh
  obtain ⟨p, l, e, R, s0, m, args, below, meth, cd, cells, slots⟩ := b
  intro H locs a hcn hR hS hl ho hs
  have hts := G.2.1.1.1.use args
  refine va_putF (D := eD E) (ci := ci) (v := .ref (eAd E t)) (ty := ty) (C := C) (T := T) (N := N) (tys := []) G.1.1 G.1.2.1 hts hu ty0 hty hnm G.1.2.2.2 G.2.1.1.2.1 hR.1 (nw_D E s φ n) hS (nw_o k) (by rw [nw_atk G.2.1.2.1 s φ hk137 hkn, nw_entO E s φ hsh]) hc f hf (hts _ hw) (fun _ h9 => h9) hfin G.2.2.2.2.1.1 hdecl hpd (hnr _) (hft _) (by rw [List.length_map, List.length_range, hN]; exact hf) hd (fun H1 locs1 hP hD hS1 => ?_)
  rw [nf_set E s φ k (by rw [hN]; exact hf) hp, ← nw_entO E s ((k, f) :: φ) hsh, nw_set G.2.1.2.1 s φ f hk137 hkn hn] at hP
  exact W_size (fun hz => kk H1 locs1 a hcn (nw_R.of hP (by omega) (by omega)) hS1 hl ho (oks (oks hs).2).2)
theorem n_get (G : nw_G E b cc nL own d mc ms) {idx k t ci N f : Nat} {C : String} {T : u_T} (hc : vwCl[ci]? = some (C, T, N)) (hN : ab_nf.getD ci 0 = N) (hu : ∀ w ∈ u_ws C T N, w ∈ ab_TW) (hf : f < N) (hw : Cond.fieldLink own idx (T f).1 (T f).2.1 (T f).2.2.1 ∈ ab_TW) (hsh : ab_sh k = (1, ci, 0)) (hp : ab_ptr k f = some t) (hφ : φ.contains (k, f) = true) (hkn : nw_o k < n) (hd : decode cc pc = .ok (.getfield idx, 3)) (kk : nw_X E b Q nL (pc + 3) ls (vR t :: st) s φ n u c) : nw_X E b Q nL pc ls (vR k :: st) s φ n u c := by
  have hk137 := sh_lt hsh
  obtain ⟨p, l, e, R, s0, m, args, below, meth, cd, cells, slots⟩ := b
  intro H locs a hcn hR hS hl ho hs
  have hts := G.2.1.1.1.use args
  refine va_get (D := eD E) (ci := ci) (v := .ref (eAd E t)) (C := C) (T := T) (N := N) (tys := []) G.1.1 G.1.2.1 hts hu G.1.2.2.2 G.2.1.1.2.1 hR.1 (nw_o k) (by rw [nw_atk G.2.1.2.1 s φ hk137 hkn, nw_entO E s φ hsh]) hc f hf (hts _ hw) (fun _ h9 => h9) (by
    rw [hN, nf_at E s φ k hf]
    unfold nw_fv
    rw [hp]
    dsimp only
    rw [if_pos hφ]) hd ?_
  exact kk H locs a hcn hR hS hl ho (okc (show eLo E ≤ t by rw [G.2.1.2.2]; omega) (oks hs).2)
/-- a contract of a making method -/
def nw_P (E : En) (av : List AV) (s : Mem) (φ : Wf) (n : Nat) : Array Value → State → Prop := fun v U => v = (av.map (ab_c E)).toArray ∧ (ab_C E U ∧ nw_E E ∧ eLo E = 0) ∧ nw_R E s φ n U.heap ∧ (∀ v ∈ av, ab_ok E v) ∧ nw_T U
def nw_Q (E : En) (s : Mem) (φ : Wf) (n : Nat) : Array Value → State → Outcome → State → Prop := fun _ st oc t => oc = .returned none ∧ nw_R E s φ n t.heap ∧ va_F (eA E) st t
def nw_rm (d mc ms : Nat) : Room := { frames := d, cells := mc, slots := ms, locals := 40 * d }
def nw_Run (E : En) (d : Nat) (y : MethodName) (cc : ByteArray) (maxL : Nat) (av : List AV) (s : Mem) (φ : Wf) (n : Nat) (φ' : Wf) (n' mc ms : Nat) : Prop :=
  ∀ l : Launch, Met l y [Cond.code y cc maxL none] (nw_rm d mc ms) (nw_P E av s φ n) (nw_Q E s φ' n') mc ms (eA E)
theorem nw_blind (E : En) (av : List AV) (s : Mem) (φ : Wf) (n : Nat) : FrameBlind (nw_P E av s φ n) := fun a U g mk h => ⟨h.1, ⟨ab_C.blind (U := U) (V := U.calling g mk a) rfl rfl h.2.1.1, h.2.1.2⟩, h.2.2.1, h.2.2.2.1, h.2.2.2.2⟩
theorem n_go {p : Program} {l : Launch} {e : Env} {R : Room} {s0 : State} {m : MethodId} {args : Array Value} {below : List Frame} {meth : Method} {cd : Code} {cells slots mc' ms' : Nat} {H : Heap} {locs : List Loc} {a : Array Slot} {av : Array Value} {st0 rest : List Value} {φ' : Wf} {n' : Nat} (hS : va_S (eA E) s0.heap H locs) (hr : va_Run p l e R s0 m args below meth cd H locs cells slots mc' ms' (F0 m pc a st0) rest (nw_Q E s φ' n' av) (eA E)) (kk : ∀ (H1 : Heap) (locs1 : List Loc), nw_R E s φ' n' H1 → va_S (eA E) s0.heap H1 locs1 → W p l e R s0 m args below meth cd H1 locs1 (cells + mc') (slots + ms') Q (F0 m (pc + 3) a rest)) : W p l e R s0 m args below meth cd H locs cells slots Q (F0 m pc a st0) := by
  intro T hT X
  obtain ⟨v, st₀, t, T', L, h0, X', hL, e1, e2, ⟨hv, hR', hz, hk⟩, stp⟩ := hr T hT X
  have hv := Outcome.returned.inj hv
  subst hv
  rw [h0] at hz hk
  obtain ⟨t2, a1, b1⟩ := kk T'.heap (locs ++ L) (by rw [e1]; exact hR') ⟨Nat.le_trans hS.1 (by rw [e1]; exact hz), fun q h1 h2 => by rw [e1, hk q (Nat.lt_of_lt_of_le h1 hS.1) h2]; exact hS.2.1 q h1 h2, fun q hq => by
      rcases List.mem_append.mp hq with h | h
      · exact hS.2.2 q h
      · exact hL q h⟩ T' rfl X'
  exact ⟨t2, stp t2 a1, b1⟩
theorem n_callI (G : nw_G E b cc nL own d mc ms) {idx k d' maxL mc' ms' n' na : Nat} {y : MethodName} {cc' : ByteArray} {As rest st0 : List AV} {φ' : Wf} (w1 : Cond.methodLink own idx y ∈ ab_TW) (w2 : Cond.instanceMethod y ∈ ab_TW) (w4 : Cond.code y cc' maxL none ∈ ab_TW) (w5 : Cond.initialized y.cls ∈ ab_TW) (hy : y.cls ≠ "java/lang/invoke/MethodHandle" ∧ y.cls ≠ "java/lang/invoke/VarHandle" ∧ (parseMethodDescriptor y.desc).map (fun d => d.parameters.length) = some na) (hyn : y.name = "<init>") (hml : maxL ≤ 21) (hM : nw_Run E d' y cc' maxL (vR k :: As) s φ n φ' n' mc' ms') (hdd : d' + 1 ≤ d) (hAs : As.length = na) (hst : st0 = As.reverse ++ vR k :: rest) (hrest : (rest.map ab_cat).sum ≤ 8) (hm : u + mc' ≤ mc ∧ c + ms' ≤ ms) (hn' : n' = n + mc') (hd : decode cc pc = .ok (.invokespecial idx, 3)) (kk : nw_X E b Q nL (pc + 3) ls rest s φ' n' (u + mc') (c + ms')) : nw_X E b Q nL pc ls st0 s φ n u c := by
  subst hst
  obtain ⟨p, l, e, R, s0, m, args, below, meth, cd, cells, slots⟩ := b
  intro H locs a hcn hR hS hl ho hs
  have hts := G.2.1.1.1.use args
  have hk1 : eLo E ≤ k := by rw [G.2.1.2.2]; omega
  have hsA : ∀ v ∈ vR k :: As, ab_ok E v := okc hk1 (fun v hv => hs v (List.mem_append_left _ (List.mem_reverse.mpr hv)))
  have hsR : ∀ v ∈ rest, ab_ok E v := fun v hv => hs v (List.mem_append_right _ (List.mem_cons_of_mem _ hv))
  have hnn : ∀ sig, parseMethodDescriptor y.desc = some sig → na = sig.parameters.length := fun sig h => by
    have h2 := hy.2.2
    rw [h] at h2
    exact (Option.some.inj h2).symm
  have hfr := G.2.2.1
  have hmm := G.2.2.2.1
  rw [List.map_append, List.map_cons]
  refine n_go (av := (Value.ref (eAd E k) :: As.map (ab_c E)).toArray) (rest := rest.map (ab_c E)) hS (va_runI (As := As.map (ab_c E)) (Ts := ab_TW) (nL := nL) (n := na) (bytes := cc') (maxL := maxL) ⟨G.1.1, G.1.2.1, G.1.2.2.1, G.1.2.2.2, hts⟩ (hM l) ⟨⟨rfl, rfl, by show d' + 1 ≤ R.frames; omega, by show 8 + (maxL + 11) + 40 * d' ≤ R.locals; omega, ?_, List.mem_cons_self, hts _ w4, hts _ w5, ⟨hy.1, hy.2.1⟩, hnn, hts _ w1⟩, hyn, hts _ w2⟩ ⟨nw_blind _ _ _ _ _, fun U hU hW => ⟨rfl, ⟨G.2.1.1.call hS hU hW, G.2.1.2⟩, by rw [hU]; exact hR, hsA, G.2.2.2.2.1.2.warm hW⟩⟩ rfl (by rw [List.length_map]; exact hAs) hl.1 (by rw [List.map_reverse]; rfl) (lv_room (by rw [cat_sum]; exact hrest)) hd (by omega)) (fun H1 locs1 hR1 hS1 => ?_)
  · intro w hw a' U hU
    rcases List.mem_cons.mp hw with rfl | hw
    · exact (G.2.1.1.1.warm hU).use a' _ w4
    · cases hw
  · have := kk H1 locs1 a (by omega) hR1 hS1 hl ho hsR
    rw [← Nat.add_assoc, ← Nat.add_assoc] at this
    exact this
theorem n_callIN (G : nw_G E b cc nL own d mc ms) {host : String} {idx k d' maxL mc' ms' n' na : Nat} {y : MethodName} {cc' : ByteArray} {As rest st0 : List AV} {φ' : Wf} (w1 : Cond.methodLinkNest own idx y host ∈ ab_TW) (w2 : Cond.instanceMethod y ∈ ab_TW) (w4 : Cond.code y cc' maxL none ∈ ab_TW) (w5 : Cond.initialized y.cls ∈ ab_TW) (hy : y.cls ≠ "java/lang/invoke/MethodHandle" ∧ y.cls ≠ "java/lang/invoke/VarHandle" ∧ (parseMethodDescriptor y.desc).map (fun d => d.parameters.length) = some na) (hyn : y.name = "<init>") (hml : maxL ≤ 21) (hM : nw_Run E d' y cc' maxL (vR k :: As) s φ n φ' n' mc' ms') (hdd : d' + 1 ≤ d) (hAs : As.length = na) (hst : st0 = As.reverse ++ vR k :: rest) (hrest : (rest.map ab_cat).sum ≤ 8) (hm : u + mc' ≤ mc ∧ c + ms' ≤ ms) (hn' : n' = n + mc') (hd : decode cc pc = .ok (.invokespecial idx, 3)) (kk : nw_X E b Q nL (pc + 3) ls rest s φ' n' (u + mc') (c + ms')) : nw_X E b Q nL pc ls st0 s φ n u c := by
  subst hst
  obtain ⟨p, l, e, R, s0, m, args, below, meth, cd, cells, slots⟩ := b
  intro H locs a hcn hR hS hl ho hs
  have hts := G.2.1.1.1.use args
  have hk1 : eLo E ≤ k := by rw [G.2.1.2.2]; omega
  have hsA : ∀ v ∈ vR k :: As, ab_ok E v := okc hk1 (fun v hv => hs v (List.mem_append_left _ (List.mem_reverse.mpr hv)))
  have hsR : ∀ v ∈ rest, ab_ok E v := fun v hv => hs v (List.mem_append_right _ (List.mem_cons_of_mem _ hv))
  have hfr := G.2.2.1
  have hmm := G.2.2.2.1
  have cn : va_CN R s0 args own idx y host cc' maxL none [Cond.code y cc' maxL none] (nw_rm d' mc' ms') mc' ms' na := by
    refine va_cnB (Ts := ab_TW) na hts ?_ rfl rfl rfl (G.2.1.1.1 _ w1) (hts _ w5) hy ?_
    · intro w hw
      rcases List.mem_cons.mp hw with rfl | hw
      · exact ⟨w4, Or.inl (by rfl)⟩
      · cases hw
    · constructor
      · show d' + 1 ≤ R.frames; omega
      · show 8 + (maxL + 11) + 40 * d' ≤ R.locals; omega
  rw [List.map_append, List.map_cons]
  refine n_go (av := (Value.ref (eAd E k) :: As.map (ab_c E)).toArray) (rest := rest.map (ab_c E)) hS (va_runIN (As := As.map (ab_c E)) (Ts := ab_TW) (nL := nL) (n := na) (bytes := cc') (maxL := maxL) ⟨G.1.1, G.1.2.1, G.1.2.2.1, G.1.2.2.2, hts⟩ (hM l) ⟨cn, hyn, hts _ w2⟩ ⟨nw_blind _ _ _ _ _, fun U hU hW => ⟨rfl, ⟨G.2.1.1.call hS hU hW, G.2.1.2⟩, by rw [hU]; exact hR, hsA, G.2.2.2.2.1.2.warm hW⟩⟩ rfl (by rw [List.length_map]; exact hAs) hl.1 (by rw [List.map_reverse]; rfl) (lv_room (by rw [cat_sum]; exact hrest)) hd (by omega)) (fun H1 locs1 hR1 hS1 => ?_)
  have := kk H1 locs1 a (by omega) hR1 hS1 hl ho hsR
  rw [← Nat.add_assoc, ← Nat.add_assoc] at this
  exact this
def nw_MQ (E : En) (b : Bn) (s : Mem) (φ : Wf) (n mc ms : Nat) : State → Prop :=
  match b with
  | (_, _, _, _, s0, _, args, below, _, _, cells, slots) => MQ below (nw_Q E s φ n) args s0 (cells + mc) (slots + ms) (eA E)
theorem n_vret (G : nw_G E b cc nL own d mc ms) (hd : decode cc pc = .ok (.return_, 1)) (hu : u = mc) (hc : c = ms) : nw_X E b (nw_MQ E b s φ n mc ms) nL pc ls [] s φ n u c := by
  obtain ⟨p, l, e, R, s0, m, args, below, meth, cd, cells, slots⟩ := b
  intro H locs a hcn hR hS hl ho hs
  subst hu
  subst hc
  exact W.vret (hlocks := G.2.2.2.2.2.2) G.1.1 G.1.2.1 G.2.2.2.2.2.1 (fun t ht hW => ⟨rfl, by rw [ht]; exact hR, hS.F ht⟩) hS.2.2 hd
theorem n_intro {y : MethodName} {maxL n' : Nat} {av : List AV} {φ' : Wf} {ls0 : List (Nat × AV)} (hy : plainName y.cls = true) (hyn : y.name = "<init>") (hown : y.cls = own) (hlen : (av.map ab_cat).sum ≤ maxL) (hls : ab_args 0 av = ls0) (body : ∀ b : Bn, nw_G E b cc maxL own d mc ms → nw_X E b (nw_MQ E b s φ' n' mc ms) maxL 0 ls0 [] s φ n 0 0) : nw_Run E d y cc maxL av s φ n φ' n' mc ms := by
  intro l
  subst hls
  subst hown
  refine Met.ofW (cc := cc) (maxL := maxL) (ret := none) hy rfl ?_
  intro p e s0 m args below meth cd s₁ B hml hv
  obtain ⟨rfl, hC, hR, hok, hT⟩ := hv
  have hown : s0.vm.findClass y.cls = some m.cls := findClass_of_methodNamed B.named
  have hnm : meth.name = "<init>" := by rw [(name_of_methodNamed B.named B.method).1]; exact hyn
  have G : nw_G E (p, l, e, (headSpec [Cond.code y cc maxL none] (nw_rm d mc ms)).room, s0, m, (av.map (ab_c E)).toArray, below, meth, cd, 0, 0) cc maxL y.cls d mc ms := ⟨⟨B.exec, B.bytes, hml, hown⟩, hC, ⟨Nat.le_refl _, Nat.le_refl _⟩, ⟨by show 0 + mc ≤ mc; omega, by show 0 + ms ≤ ms; omega⟩, ⟨hnm, hT⟩, B.returns, B.notSynchronized⟩
  have hl := lv_entry (av.map (ab_c E)) (n := maxL) (by rw [ab_slots]; exact hlen)
  rw [lg_entry_eq]
  rw [ab_args_c] at hl
  have := body _ G s0.heap [] _ (by rw [hR.2]; rfl) hR va_S.rf hl (ab_args_ok 0 av hok) (fun v hv => by cases hv)
  unfold nw_MQ at this
  dsimp only at this
  rw [Nat.zero_add mc, Nat.zero_add ms] at this
  exact this
end NM

/-! ===== fields ===== -/
def ab_pt (k f : Nat) : Nat := (ab_ptr k f).getD 0
section FW
variable {E : En} {b : Bn} {Q : State → Prop} {nL pc : Nat} {ls : List (Nat × AV)} {st : List AV} {s : Mem} {cc : ByteArray} {own : String} {ret : Option FieldType} {d : Nat} {γ : Type} {z : γ}
variable {ci k f idx N t : Nat} {C : String} {T : u_T}
theorem fs_at (E : En) (s : Mem) (k : Nat) {n f : Nat} (h : f < n) : ((List.range n).map (ab_fv E s k))[f]? = some (ab_fv E s k f) := by
  rw [List.getElem?_map, List.getElem?_range h]; rfl
theorem fv_I {E : En} {s : Mem} (h : ab_ptr k f = none) : ab_fv E s k f = .int (Int32.ofInt (s k f)) := by unfold ab_fv; rw [h]
theorem fv_R {E : En} {s : Mem} (h : ab_ptr k f = some t) : ab_fv E s k f = .ref (eAd E t) := by unfold ab_fv; rw [h]
theorem sh_lt (hk : ab_sh k = (1, ci, 0)) : k < 137 := ab_lt_of (n := 1) (by rw [hk]) (by decide) (by decide)
theorem x_getI (hc : vwCl[ci]? = some (C, T, N)) (hN : ab_nf.getD ci 0 = N) (hu : ∀ w ∈ u_ws C T N, w ∈ ab_TW) (hf : f < N) (hw : Cond.fieldLink own idx (T f).1 (T f).2.1 (T f).2.2.1 ∈ ab_TW) (G : ab_G E b cc nL own ret d) (hk : ab_sh k = (1, ci, 0)) (hp : ab_ptr k f = none) (hd : decode cc pc = .ok (.getfield idx, 3)) (kk : ab_X E b Q nL (pc + 3) ls (vI (s k f) :: st) s) : ab_X E b Q nL pc ls (vR k :: st) s := by
  have hkN := sh_lt hk
  obtain ⟨p, l, e, R, s0, m, args, below, meth, c, cells, slots⟩ := b
  intro H locs a hR hS hl ho hs
  have hk1 := (oks hs).1
  have hts := G.2.2.2.2.1.1.use args
  refine va_get (D := eD E) (ci := ci) (v := .int (Int32.ofInt (s k f))) (C := C) (T := T) (N := N) (tys := []) G.1 G.2.1 hts hu G.2.2.2.1 G.2.2.2.2.1.2.1 hR.1 (k - eLo E) (by rw [ab_ws_at E s hk1 hkN, ent_O hk]) hc f hf (hts _ hw) (fun _ h9 => h9) (by rw [hN, fs_at E s k hf, fv_I hp]) hd ?_
  exact kk H locs a hR hS hl ho (okc (hR.rg (by rw [hk]; show (1 : Nat) ≠ 5; decide) _) (oks hs).2)
theorem x_getR (hc : vwCl[ci]? = some (C, T, N)) (hN : ab_nf.getD ci 0 = N) (hu : ∀ w ∈ u_ws C T N, w ∈ ab_TW) (hf : f < N) (hw : Cond.fieldLink own idx (T f).1 (T f).2.1 (T f).2.2.1 ∈ ab_TW) (G : ab_G E b cc nL own ret d) (hk : ab_sh k = (1, ci, 0)) (hp : ab_ptr k f = some t) (hd : decode cc pc = .ok (.getfield idx, 3)) (kk : ab_X E b Q nL (pc + 3) ls (vR t :: st) s) : ab_X E b Q nL pc ls (vR k :: st) s := by
  have hkN := sh_lt hk
  obtain ⟨p, l, e, R, s0, m, args, below, meth, c, cells, slots⟩ := b
  intro H locs a hR hS hl ho hs
  have hk1 := (oks hs).1
  have hts := G.2.2.2.2.1.1.use args
  refine va_get (D := eD E) (ci := ci) (v := .ref (eAd E t)) (C := C) (T := T) (N := N) (tys := []) G.1 G.2.1 hts hu G.2.2.2.1 G.2.2.2.2.1.2.1 hR.1 (k - eLo E) (by rw [ab_ws_at E s hk1 hkN, ent_O hk]) hc f hf (hts _ hw) (fun _ h9 => h9) (by rw [hN, fs_at E s k hf, fv_R hp]) hd ?_
  exact kk H locs a hR hS hl ho (okc (ab_ptr_ok hkN hp G.2.2.2.2.1 hk1) (oks hs).2)
theorem x_getIN {host : String} (hc : vwCl[ci]? = some (C, T, N)) (hN : ab_nf.getD ci 0 = N) (hu : ∀ w ∈ u_ws C T N, w ∈ ab_TW) (hf : f < N) (hw : Cond.fieldLinkNest own idx (T f).1 (T f).2.1 (T f).2.2.1 host ∈ ab_TW) (G : ab_G E b cc nL own ret d) (hk : ab_sh k = (1, ci, 0)) (hp : ab_ptr k f = none) (hd : decode cc pc = .ok (.getfield idx, 3)) (kk : ab_X E b Q nL (pc + 3) ls (vI (s k f) :: st) s) : ab_X E b Q nL pc ls (vR k :: st) s := by
  have hkN := sh_lt hk
  obtain ⟨p, l, e, R, s0, m, args, below, meth, c, cells, slots⟩ := b
  intro H locs a hR hS hl ho hs
  have hk1 := (oks hs).1
  have hts := G.2.2.2.2.1.1.use args
  refine va_getN (D := eD E) (ci := ci) (v := .int (Int32.ofInt (s k f))) (C := C) (T := T) (N := N) (tys := []) G.1 G.2.1 hts hu G.2.2.2.1 G.2.2.2.2.1.2.1 hR.1 (k - eLo E) (by rw [ab_ws_at E s hk1 hkN, ent_O hk]) hc f hf (hts _ hw) (fun _ h9 => h9) (by rw [hN, fs_at E s k hf, fv_I hp]) hd ?_
  exact kk H locs a hR hS hl ho (okc (hR.rg (by rw [hk]; show (1 : Nat) ≠ 5; decide) _) (oks hs).2)
theorem x_getRN {host : String} (hc : vwCl[ci]? = some (C, T, N)) (hN : ab_nf.getD ci 0 = N) (hu : ∀ w ∈ u_ws C T N, w ∈ ab_TW) (hf : f < N) (hw : Cond.fieldLinkNest own idx (T f).1 (T f).2.1 (T f).2.2.1 host ∈ ab_TW) (G : ab_G E b cc nL own ret d) (hk : ab_sh k = (1, ci, 0)) (hp : ab_ptr k f = some t) (hd : decode cc pc = .ok (.getfield idx, 3)) (kk : ab_X E b Q nL (pc + 3) ls (vR t :: st) s) : ab_X E b Q nL pc ls (vR k :: st) s := by
  have hkN := sh_lt hk
  obtain ⟨p, l, e, R, s0, m, args, below, meth, c, cells, slots⟩ := b
  intro H locs a hR hS hl ho hs
  have hk1 := (oks hs).1
  have hts := G.2.2.2.2.1.1.use args
  refine va_getN (D := eD E) (ci := ci) (v := .ref (eAd E t)) (C := C) (T := T) (N := N) (tys := []) G.1 G.2.1 hts hu G.2.2.2.1 G.2.2.2.2.1.2.1 hR.1 (k - eLo E) (by rw [ab_ws_at E s hk1 hkN, ent_O hk]) hc f hf (hts _ hw) (fun _ h9 => h9) (by rw [hN, fs_at E s k hf, fv_R hp]) hd ?_
  exact kk H locs a hR hS hl ho (okc (ab_ptr_ok hkN hp G.2.2.2.2.1 hk1) (oks hs).2)
theorem fs_set (E : En) (s : Mem) (k : Nat) {n f : Nat} (x : Int) (h : f < n) (hp : ab_ptr k f = none) : ((List.range n).map (ab_fv E s k)).set f (.int (Int32.ofInt x)) = (List.range n).map (ab_fv E (mu s k f x) k) := by
  apply List.ext_getElem?
  intro i
  rw [List.getElem?_set]
  by_cases hi : f = i
  · subst hi
    rw [if_pos rfl, if_pos (by rw [List.length_map, List.length_range]; exact h), fs_at E _ k h, fv_I hp, mu_same, fu_same]
  · rw [if_neg hi, List.getElem?_map, List.getElem?_map]
    cases hq : (List.range n)[i]? with
    | none => rfl
    | some v =>
      obtain ⟨hlt, hv⟩ := List.getElem?_eq_some_iff.mp hq
      rw [List.getElem_range] at hv
      subst hv
      simp only [Option.map_some]
      unfold ab_fv
      rw [mu_same, fu_ne _ x (Ne.symm hi)]
theorem x_put {ty0 : Nat → FieldType} {ty : FieldType} {x : Int} {g : Mem → Option γ} (hc : vwCl[ci]? = some (C, T, N)) (hN : ab_nf.getD ci 0 = N) (hu : ∀ w ∈ u_ws C T N, w ∈ ab_TW) (hty : ∀ k, k < N → parseFieldDescriptor (T k).2.2.1 = some (ty0 k)) (hnm : ∀ a, a < N → ∀ b, b < N → a ≠ b → (T a).2.1 ≠ (T b).2.1) (hf : f < N) (hw : Cond.fieldLink own idx (T f).1 (T f).2.1 (T f).2.2.1 ∈ ab_TW) (hfin : (T f).2.2.2 = false) (hpd : parseFieldDescriptor (T f).2.2.1 = some ty) (hn : narrow ty (.int (Int32.ofInt x)) = .int (Int32.ofInt x)) (hft : fits ty (.int (Int32.ofInt x)) = true) (G : ab_G E b cc nL own ret d) (hk : ab_sh k = (1, ci, 0)) (hp : ab_ptr k f = none) (hd : decode cc pc = .ok (.putfield idx, 3)) (h : lt' (mu s k f x) g = some z) (kk : ∀ s', s' = mu s k f x → g s' = some z → ab_X E b Q nL (pc + 3) ls st s') : ab_X E b Q nL pc ls (vI x :: vR k :: st) s := by
  have hkN := sh_lt hk
  have kk := kk _ rfl h
  obtain ⟨p, l, e, R, s0, m, args, below, meth, c, cells, slots⟩ := b
  intro H locs a hR hS hl ho hs
  have hx := (oks hs).1
  have hk1 := (oks (oks hs).2).1
  have hts := G.2.2.2.2.1.1.use args
  refine va_put (D := eD E) (ci := ci) (v := .int (Int32.ofInt x)) (ty := ty) (C := C) (T := T) (N := N) (tys := []) G.1 G.2.1 hts hu ty0 hty hnm G.2.2.2.1 G.2.2.2.2.1.2.1 hR.1 (ab_ws_D s G.2.2.2.2.1) hS (k - eLo E) (by rw [ab_ws_at E s hk1 hkN, ent_O hk]) hc f hf (hts _ hw) (fun _ h9 => h9) hfin hpd hn hft (by rw [List.length_map, List.length_range, hN]; exact hf) hd (fun H1 locs1 hP _ hS1 => ?_)
  rw [fs_set E s k x (by rw [hN]; exact hf) hp, ← ent_O (E := E) (s := mu s k f x) hk, ab_ws_set E s f x hk1 hkN] at hP
  exact kk H1 locs1 a ⟨hP, rg_mu hR.2 (by unfold ab_rg; rw [if_neg (by rw [hk]; show ¬ (1 : Nat) = 5; decide)]; exact hx)⟩ hS1 hl ho (oks (oks hs).2).2
theorem x_putN {host : String} {ty0 : Nat → FieldType} {ty : FieldType} {x : Int} {g : Mem → Option γ} (hc : vwCl[ci]? = some (C, T, N)) (hN : ab_nf.getD ci 0 = N) (hu : ∀ w ∈ u_ws C T N, w ∈ ab_TW) (hty : ∀ k, k < N → parseFieldDescriptor (T k).2.2.1 = some (ty0 k)) (hnm : ∀ a, a < N → ∀ b, b < N → a ≠ b → (T a).2.1 ≠ (T b).2.1) (hf : f < N) (hw : Cond.fieldLinkNest own idx (T f).1 (T f).2.1 (T f).2.2.1 host ∈ ab_TW) (hfin : (T f).2.2.2 = false) (hpd : parseFieldDescriptor (T f).2.2.1 = some ty) (hn : narrow ty (.int (Int32.ofInt x)) = .int (Int32.ofInt x)) (hft : fits ty (.int (Int32.ofInt x)) = true) (G : ab_G E b cc nL own ret d) (hk : ab_sh k = (1, ci, 0)) (hp : ab_ptr k f = none) (hd : decode cc pc = .ok (.putfield idx, 3)) (h : lt' (mu s k f x) g = some z) (kk : ∀ s', s' = mu s k f x → g s' = some z → ab_X E b Q nL (pc + 3) ls st s') : ab_X E b Q nL pc ls (vI x :: vR k :: st) s := by
  have hkN := sh_lt hk
  have kk := kk _ rfl h
  obtain ⟨p, l, e, R, s0, m, args, below, meth, c, cells, slots⟩ := b
  intro H locs a hR hS hl ho hs
  have hx := (oks hs).1
  have hk1 := (oks (oks hs).2).1
  have hts := G.2.2.2.2.1.1.use args
  refine va_putN (D := eD E) (ci := ci) (v := .int (Int32.ofInt x)) (ty := ty) (C := C) (T := T) (N := N) (tys := []) G.1 G.2.1 hts hu ty0 hty hnm G.2.2.2.1 G.2.2.2.2.1.2.1 hR.1 (ab_ws_D s G.2.2.2.2.1) hS (k - eLo E) (by rw [ab_ws_at E s hk1 hkN, ent_O hk]) hc f hf (hts _ hw) (fun _ h9 => h9) hfin hpd hn hft (by rw [List.length_map, List.length_range, hN]; exact hf) hd (fun H1 locs1 hP _ hS1 => ?_)
  rw [fs_set E s k x (by rw [hN]; exact hf) hp, ← ent_O (E := E) (s := mu s k f x) hk, ab_ws_set E s f x hk1 hkN] at hP
  exact kk H1 locs1 a ⟨hP, rg_mu hR.2 (by unfold ab_rg; rw [if_neg (by rw [hk]; show ¬ (1 : Nat) = 5; decide)]; exact hx)⟩ hS1 hl ho (oks (oks hs).2).2
theorem fit_z {x : Int} (h : x = 0 ∨ x = 1) : fits .boolean (.int (Int32.ofInt x)) = true := by rcases h with rfl | rfl <;> decide
theorem x_getsN {j : Nat} {nm : String} (hj : j < 8) (hnm : st_nm.getD j "" = nm) (hw : Cond.fieldLinkNest own idx RX8 nm "[I" "StormHarbours" ∈ ab_TW) (G : ab_G E b cc nL own ret d) (hd : decode cc pc = .ok (.getstatic idx, 3)) (kk : ab_X E b Q nL (pc + 3) ls (vR (137 + j) :: st) s) : ab_X E b Q nL pc ls st s := by
  obtain ⟨p, l, e, R, s0, m, args, below, meth, c, cells, slots⟩ := b
  intro H locs a hR hS hl ho hs
  have hts := G.2.2.2.2.1.1.use args
  have hZ := (G.2.2.2.2.1.2.2.2.1 j hj).1
  rw [hnm] at hZ
  exact va_getsN G.1 G.2.1 hZ hS G.2.2.2.1 (hts _ hw) (fun _ h9 => h9) hd (kk H locs a hR hS hl ho (okc (by show eLo E ≤ 137 + j; rcases G.2.2.2.2.1.2.2.2.2.1 with q | q <;> omega) hs))
end FW
/-! ===== calls ===== -/
section CW
variable {E : En} {b : Bn} {Q : State → Prop} {nL pc : Nat} {ls : List (Nat × AV)} {st0 rest As : List AV} {s s' : Mem} {cc cc' : ByteArray} {own C : String} {ret ret' : Option FieldType} {d d' n idx k ci N maxL : Nat} {y : MethodName} {T : u_T} {r : Option AV}
theorem ab_blind (E : En) (av : List AV) (s : Mem) : FrameBlind (ab_P E av s) := fun a U g mk h => ⟨h.1, ab_C.blind (U := U) (V := U.calling g mk a) rfl rfl h.2.1, h.2.2.1, h.2.2.2⟩
theorem ab_callB {p : Program} {R : Room} {s0 : State} {m : MethodId} {args : Array Value} (hts : ∀ w ∈ ab_TW, w.before args s0 = true) (hW : ab_Ws s0) (w4 : Cond.code y cc' maxL ret' ∈ ab_TW) (w5 : Cond.initialized y.cls ∈ ab_TW) (hy : y.cls ≠ "java/lang/invoke/MethodHandle" ∧ y.cls ≠ "java/lang/invoke/VarHandle") (hn : ∀ sig, parseMethodDescriptor y.desc = some sig → n = sig.parameters.length) (hm : maxL ≤ 21) (hR : d ≤ R.frames ∧ 40 * d ≤ R.locals) (hdd : d' + 1 ≤ d) (w1 : Cond.methodLink own idx y ∈ ab_TW) : CallB R s0 args own idx y cc' maxL ret' [Cond.code y cc' maxL ret'] (ab_rm d') 0 0 n := by
  refine ⟨rfl, rfl, ?_, ?_, ?_, List.mem_cons_self, hts _ w4, hts _ w5, hy, hn, hts _ w1⟩
  · show d' + 1 ≤ R.frames; omega
  · show 8 + (maxL + 11) + 40 * d' ≤ R.locals; omega
  · intro w hw a' U hU
    rcases List.mem_cons.mp hw with rfl | hw
    · exact (hW.warm hU).use a' _ w4
    · cases hw
theorem ab_callN {R : Room} {s0 : State} {args : Array Value} {host : String} (hts : ∀ w ∈ ab_TW, w.before args s0 = true) (hW : ab_Ws s0) (w4 : Cond.code y cc' maxL ret' ∈ ab_TW) (w5 : Cond.initialized y.cls ∈ ab_TW) (hy : y.cls ≠ "java/lang/invoke/MethodHandle" ∧ y.cls ≠ "java/lang/invoke/VarHandle" ∧ (parseMethodDescriptor y.desc).map (fun d => d.parameters.length) = some n) (hm : maxL ≤ 21) (hR : d ≤ R.frames ∧ 40 * d ≤ R.locals) (hdd : d' + 1 ≤ d) (w1 : Cond.methodLinkNest own idx y host ∈ ab_TW) : va_CN R s0 args own idx y host cc' maxL ret' [Cond.code y cc' maxL ret'] (ab_rm d') 0 0 n := by
  refine va_cnB (Ts := ab_TW) n hts ?_ rfl rfl rfl (hW _ w1) (hts _ w5) hy ?_
  · intro w hw
    rcases List.mem_cons.mp hw with rfl | hw
    · exact ⟨w4, Or.inl (by rfl)⟩
    · cases hw
  · constructor
    · show d' + 1 ≤ R.frames; omega
    · show 8 + (maxL + 11) + 40 * d' ≤ R.locals; omega
theorem ab_go {p : Program} {l : Launch} {e : Env} {R : Room} {s0 : State} {m : MethodId} {args : Array Value} {below : List Frame} {meth : Method} {c : Code} {cells slots : Nat} {H : Heap} {locs : List Loc} {a : Array Slot} {av : Array Value} {st0 rest : List Value} (hS : va_S (eA E) s0.heap H locs) (hr : va_Run p l e R s0 m args below meth c H locs cells slots 0 0 (F0 m pc a st0) rest (ab_Q E r s' av) (eA E)) (kk : ∀ (H1 : Heap) (locs1 : List Loc), ab_R E s' H1 → va_S (eA E) s0.heap H1 locs1 → (∀ v, r = some v → ab_ok E v) → W p l e R s0 m args below meth c H1 locs1 cells slots Q (F0 m (pc + 3) a (r.toList.map (ab_c E) ++ rest))) : W p l e R s0 m args below meth c H locs cells slots Q (F0 m pc a st0) := by
  intro T hT X
  obtain ⟨v, st₀, t, T', L, h0, X', hL, e1, e2, ⟨hv, hR', hok, hz, hk⟩, stp⟩ := hr T hT X
  have hv := Outcome.returned.inj hv
  subst hv
  rw [h0] at hz hk
  obtain ⟨t2, a1, b1⟩ := kk T'.heap (locs ++ L) (by rw [e1]; exact hR') ⟨Nat.le_trans hS.1 (by rw [e1]; exact hz), fun q h1 h2 => by rw [e1, hk q (Nat.lt_of_lt_of_le h1 hS.1) h2]; exact hS.2.1 q h1 h2, fun q hq => by
      rcases List.mem_append.mp hq with h | h
      · exact hS.2.2 q h
      · exact hL q h⟩ hok T' rfl X'
  refine ⟨t2, stp t2 ?_, b1⟩
  have e : (Option.map (ab_c E) r).toList = r.toList.map (ab_c E) := by cases r <;> rfl
  rw [e]
  exact a1
theorem cat_sum (E : En) (rest : List AV) : ((rest.map (ab_c E)).map fun v => v.category).sum = (rest.map ab_cat).sum := by
  rw [List.map_map]
  congr 1
  apply List.map_congr_left
  intro v _
  exact ab_cat_c E v
theorem ok_app {E : En} {r : Option AV} {rest : List AV} (h1 : ∀ v, r = some v → ab_ok E v) (h2 : ∀ v ∈ rest, ab_ok E v) : ∀ v ∈ r.toList ++ rest, ab_ok E v := by
  intro v hv
  rcases List.mem_append.mp hv with h | h
  · exact h1 v (by cases r with | none => cases h | some u => exact congrArg some (by simpa using h : v = u).symm)
  · exact h2 v h
theorem recv (G : ab_G E b cc nL own ret d) (hcl : vwCl[ci]? = some (C, T, N)) (hk : ab_sh k = (1, ci, 0)) {H : Heap} (hR : ab_R E s H) (hk1 : eLo E ≤ k) : ∃ cellB : Cell, H[eAd E k]? = some cellB ∧ cellB.vm.isStatics = false ∧ b.2.2.2.2.1.vm.findClass C = some cellB.cls := by
  obtain ⟨p, l, e, R, s0, m, args, below, meth, c, cells, slots⟩ := b
  exact va_recv (tys := []) G.2.2.2.2.1.2.1 hR.1 hcl (q0 := k - eLo E) (by rw [ab_ws_at E s hk1 (sh_lt hk), ent_O hk])
theorem x_callV (hcl : vwCl[ci]? = some (C, T, N)) (w1 : Cond.methodLink own idx y ∈ ab_TW) (w2 : Cond.instanceMethod y ∈ ab_TW) (w3 : Cond.selects C y y ∈ ab_TW) (w4 : Cond.code y cc' maxL ret' ∈ ab_TW) (w5 : Cond.initialized y.cls ∈ ab_TW) (hy : y.cls ≠ "java/lang/invoke/MethodHandle" ∧ y.cls ≠ "java/lang/invoke/VarHandle" ∧ (parseMethodDescriptor y.desc).map (fun d => d.parameters.length) = some n) (hm : maxL ≤ 21)
    (G : ab_G E b cc nL own ret d) (hM : ab_Run E d' y cc' maxL ret' (vR k :: As) r s s') (hk : ab_sh k = (1, ci, 0)) (hdd : d' + 1 ≤ d) (hAs : As.length = n) (hst : st0 = As.reverse ++ vR k :: rest) (hrest : (rest.map ab_cat).sum ≤ 8) (hd : decode cc pc = .ok (.invokevirtual idx, 3)) (kk : ab_X E b Q nL (pc + 3) ls (r.toList ++ rest) s') : ab_X E b Q nL pc ls st0 s := by
  subst hst
  have hrv := fun H (hR : ab_R E s H) hk1 => recv (H := H) G hcl hk hR hk1
  obtain ⟨p, l, e, R, s0, m, args, below, meth, c, cells, slots⟩ := b
  intro H locs a hR hS hl ho hs
  have hts := G.2.2.2.2.1.1.use args
  have hk1 : eLo E ≤ k := hs (vR k) (List.mem_append_right _ List.mem_cons_self)
  have hsA : ∀ v ∈ vR k :: As, ab_ok E v := okc hk1 (fun v hv => hs v (List.mem_append_left _ (List.mem_reverse.mpr hv)))
  have hsR : ∀ v ∈ rest, ab_ok E v := fun v hv => hs v (List.mem_append_right _ (List.mem_cons_of_mem _ hv))
  have hn : ∀ sig, parseMethodDescriptor y.desc = some sig → n = sig.parameters.length := fun sig h => by
    have h2 := hy.2.2
    rw [h] at h2
    exact (Option.some.inj h2).symm
  rw [List.map_append, List.map_cons]
  refine ab_go (av := (Value.ref (eAd E k) :: As.map (ab_c E)).toArray) (rest := rest.map (ab_c E)) hS (va_runV (As := As.map (ab_c E)) (Ts := ab_TW) (nL := nL) ⟨G.1, G.2.1, G.2.2.1, G.2.2.2.1, hts⟩ (hM l) ⟨ab_callB (p := p) (m := m) hts G.2.2.2.2.1.1 w4 w5 ⟨hy.1, hy.2.1⟩ hn hm ⟨G.2.2.2.2.2.2.2.1, G.2.2.2.2.2.2.2.2.1⟩ hdd w1, hts _ w2, hts _ w3⟩ ⟨ab_blind _ _ _, hrv H hR hk1, fun U hU hW => ⟨rfl, G.2.2.2.2.1.call hS hU hW, by rw [hU]; exact hR, hsA⟩⟩ rfl (by rw [List.length_map]; exact hAs) hl.1 (by rw [List.map_reverse]; rfl) (lv_room (by rw [cat_sum]; exact hrest)) hd ⟨G.2.2.2.2.2.2.2.2.2.1, G.2.2.2.2.2.2.2.2.2.2⟩) (fun H1 locs1 hR1 hS1 hok => ?_)
  rw [← List.map_append]
  exact kk H1 locs1 a hR1 hS1 hl ho (ok_app hok hsR)
theorem x_callVN {host : String} (hcl : vwCl[ci]? = some (C, T, N)) (w1 : Cond.methodLinkNest own idx y host ∈ ab_TW) (w2 : Cond.instanceMethod y ∈ ab_TW) (w3 : Cond.selects C y y ∈ ab_TW) (w4 : Cond.code y cc' maxL ret' ∈ ab_TW) (w5 : Cond.initialized y.cls ∈ ab_TW) (hy : y.cls ≠ "java/lang/invoke/MethodHandle" ∧ y.cls ≠ "java/lang/invoke/VarHandle" ∧ (parseMethodDescriptor y.desc).map (fun d => d.parameters.length) = some n) (hm : maxL ≤ 21)
    (G : ab_G E b cc nL own ret d) (hM : ab_Run E d' y cc' maxL ret' (vR k :: As) r s s') (hk : ab_sh k = (1, ci, 0)) (hdd : d' + 1 ≤ d) (hAs : As.length = n) (hst : st0 = As.reverse ++ vR k :: rest) (hrest : (rest.map ab_cat).sum ≤ 8) (hd : decode cc pc = .ok (.invokevirtual idx, 3)) (kk : ab_X E b Q nL (pc + 3) ls (r.toList ++ rest) s') : ab_X E b Q nL pc ls st0 s := by
  subst hst
  have hrv := fun H (hR : ab_R E s H) hk1 => recv (H := H) G hcl hk hR hk1
  obtain ⟨p, l, e, R, s0, m, args, below, meth, c, cells, slots⟩ := b
  intro H locs a hR hS hl ho hs
  have hts := G.2.2.2.2.1.1.use args
  have hk1 : eLo E ≤ k := hs (vR k) (List.mem_append_right _ List.mem_cons_self)
  have hsA : ∀ v ∈ vR k :: As, ab_ok E v := okc hk1 (fun v hv => hs v (List.mem_append_left _ (List.mem_reverse.mpr hv)))
  have hsR : ∀ v ∈ rest, ab_ok E v := fun v hv => hs v (List.mem_append_right _ (List.mem_cons_of_mem _ hv))
  rw [List.map_append, List.map_cons]
  refine ab_go (av := (Value.ref (eAd E k) :: As.map (ab_c E)).toArray) (rest := rest.map (ab_c E)) hS (va_runVN (As := As.map (ab_c E)) (Ts := ab_TW) (nL := nL) ⟨G.1, G.2.1, G.2.2.1, G.2.2.2.1, hts⟩ (hM l) ⟨ab_callN hts G.2.2.2.2.1.1 w4 w5 hy hm ⟨G.2.2.2.2.2.2.2.1, G.2.2.2.2.2.2.2.2.1⟩ hdd w1, hts _ w2, hts _ w3⟩ ⟨ab_blind _ _ _, hrv H hR hk1, fun U hU hW => ⟨rfl, G.2.2.2.2.1.call hS hU hW, by rw [hU]; exact hR, hsA⟩⟩ rfl (by rw [List.length_map]; exact hAs) hl.1 (by rw [List.map_reverse]; rfl) (lv_room (by rw [cat_sum]; exact hrest)) hd ⟨G.2.2.2.2.2.2.2.2.2.1, G.2.2.2.2.2.2.2.2.2.2⟩) (fun H1 locs1 hR1 hS1 hok => ?_)
  rw [← List.map_append]
  exact kk H1 locs1 a hR1 hS1 hl ho (ok_app hok hsR)
theorem x_callS (w1 : Cond.methodLink own idx y ∈ ab_TW) (w2 : Cond.static y ∈ ab_TW) (w4 : Cond.code y cc' maxL ret' ∈ ab_TW) (w5 : Cond.initialized y.cls ∈ ab_TW) (hy : y.cls ≠ "java/lang/invoke/MethodHandle" ∧ y.cls ≠ "java/lang/invoke/VarHandle" ∧ (parseMethodDescriptor y.desc).map (fun d => d.parameters.length) = some n) (hm : maxL ≤ 21)
    (G : ab_G E b cc nL own ret d) (hM : ab_Run E d' y cc' maxL ret' As r s s') (hdd : d' + 1 ≤ d) (hAs : As.length = n) (hst : st0 = As.reverse ++ rest) (hrest : (rest.map ab_cat).sum ≤ 8) (hd : decode cc pc = .ok (.invokestatic idx, 3)) (kk : ab_X E b Q nL (pc + 3) ls (r.toList ++ rest) s') : ab_X E b Q nL pc ls st0 s := by
  subst hst
  obtain ⟨p, l, e, R, s0, m, args, below, meth, c, cells, slots⟩ := b
  intro H locs a hR hS hl ho hs
  have hts := G.2.2.2.2.1.1.use args
  have hsA : ∀ v ∈ As, ab_ok E v := fun v hv => hs v (List.mem_append_left _ (List.mem_reverse.mpr hv))
  have hsR : ∀ v ∈ rest, ab_ok E v := fun v hv => hs v (List.mem_append_right _ hv)
  have hn : ∀ sig, parseMethodDescriptor y.desc = some sig → n = sig.parameters.length := fun sig h => by
    have h2 := hy.2.2
    rw [h] at h2
    exact (Option.some.inj h2).symm
  rw [List.map_append]
  refine ab_go (av := (As.map (ab_c E)).toArray) (rest := rest.map (ab_c E)) hS (va_runS (As := As.map (ab_c E)) (Ts := ab_TW) (nL := nL) ⟨G.1, G.2.1, G.2.2.1, G.2.2.2.1, hts⟩ (hM l) ⟨ab_callB (p := p) (m := m) hts G.2.2.2.2.1.1 w4 w5 ⟨hy.1, hy.2.1⟩ hn hm ⟨G.2.2.2.2.2.2.2.1, G.2.2.2.2.2.2.2.2.1⟩ hdd w1, hts _ w2⟩ ⟨ab_blind _ _ _, fun U hU hW => ⟨rfl, G.2.2.2.2.1.call hS hU hW, by rw [hU]; exact hR, hsA⟩⟩ rfl (by rw [List.length_map]; exact hAs) hl.1 (by rw [List.map_reverse]) (lv_room (by rw [cat_sum]; exact hrest)) hd ⟨G.2.2.2.2.2.2.2.2.2.1, G.2.2.2.2.2.2.2.2.2.2⟩) (fun H1 locs1 hR1 hS1 hok => ?_)
  rw [← List.map_append]
  exact kk H1 locs1 a hR1 hS1 hl ho (ok_app hok hsR)
def imin (x y : Int) : Int := if y < x then y else x
def imax (x y : Int) : Int := if x < y then y else x
def lmax (x y : Int) : Int := if y < x then x else y
theorem x_mmin {x y : Int} {rest : List AV} (w1 : Cond.methodLink own idx Lib.Math.min.name ∈ ab_TW) (w2 : Cond.static Lib.Math.min.name ∈ ab_TW) (w3 : Cond.initialized "java/lang/Math" ∈ ab_TW) (w4 : Cond.code Lib.Math.min.name Lib.Math.min.code 2 (some .int) ∈ ab_TW) (G : ab_G E b cc nL own ret d) (hdd : 1 ≤ d) (hrest : (rest.map ab_cat).sum ≤ 8) (hd : decode cc pc = .ok (.invokestatic idx, 3)) (kk : ab_X E b Q nL (pc + 3) ls (vI (imin x y) :: rest) s) : ab_X E b Q nL pc ls (vI y :: vI x :: rest) s := by
  obtain ⟨p, l, e, R, s0, m, args, below, meth, c, cells, slots⟩ := b
  intro H locs a hR hS hl ho hs
  have hts := G.2.2.2.2.1.1.use args
  have hy := (oks hs).1
  have hx := (oks (oks hs).2).1
  have hf := G.2.2.2.2.2.2.2.1
  have hlo := G.2.2.2.2.2.2.2.2.1
  refine va_mmin G.1 G.2.1 (G.2.2.1.trans hl.1.symm) G.2.2.2.1 (hts _ w1) (hts _ w2) (hts _ w3) (hts _ w4) (by omega) (by rw [cat_sum]; omega) G.2.2.2.2.2.2.2.2.2.1 G.2.2.2.2.2.2.2.2.2.2 hd ?_
  have e1 : (if Int32.ofInt y < Int32.ofInt x then Int32.ofInt y else Int32.ofInt x) = Int32.ofInt (imin x y) := by
    unfold imin
    by_cases q : y < x
    · rw [if_pos q, if_pos ((oi_lt hy hx).mpr q)]
    · rw [if_neg q, if_neg (fun z => q ((oi_lt hy hx).mp z))]
  rw [e1]
  exact kk H locs a hR hS hl ho (okc (by show r32 _; unfold imin; split; exact hy; exact hx) (oks (oks hs).2).2)
theorem x_mmax {x y : Int} {rest : List AV} (w1 : Cond.methodLink own idx Lib.Math.max.name ∈ ab_TW) (w2 : Cond.static Lib.Math.max.name ∈ ab_TW) (w3 : Cond.initialized "java/lang/Math" ∈ ab_TW) (w4 : Cond.code Lib.Math.max.name Lib.Math.max.code 2 (some .int) ∈ ab_TW) (G : ab_G E b cc nL own ret d) (hdd : 1 ≤ d) (hrest : (rest.map ab_cat).sum ≤ 8) (hd : decode cc pc = .ok (.invokestatic idx, 3)) (kk : ab_X E b Q nL (pc + 3) ls (vI (imax x y) :: rest) s) : ab_X E b Q nL pc ls (vI y :: vI x :: rest) s := by
  obtain ⟨p, l, e, R, s0, m, args, below, meth, c, cells, slots⟩ := b
  intro H locs a hR hS hl ho hs
  have hts := G.2.2.2.2.1.1.use args
  have hy := (oks hs).1
  have hx := (oks (oks hs).2).1
  have hf := G.2.2.2.2.2.2.2.1
  have hlo := G.2.2.2.2.2.2.2.2.1
  refine va_mmax G.1 G.2.1 (G.2.2.1.trans hl.1.symm) G.2.2.2.1 (hts _ w1) (hts _ w2) (hts _ w3) (hts _ w4) (by omega) (by rw [cat_sum]; omega) G.2.2.2.2.2.2.2.2.2.1 G.2.2.2.2.2.2.2.2.2.2 hd ?_
  have e1 : (if Int32.ofInt x < Int32.ofInt y then Int32.ofInt y else Int32.ofInt x) = Int32.ofInt (imax x y) := by
    unfold imax
    by_cases q : x < y
    · rw [if_pos q, if_pos ((oi_lt hx hy).mpr q)]
    · rw [if_neg q, if_neg (fun z => q ((oi_lt hx hy).mp z))]
  rw [e1]
  exact kk H locs a hR hS hl ho (okc (by show r32 _; unfold imax; split; exact hy; exact hx) (oks (oks hs).2).2)
theorem x_mmaxL {x y : Int} {rest : List AV} (w1 : Cond.methodLink own idx Lib.MathLoose.max_long.x ∈ ab_TW) (w2 : Cond.static Lib.MathLoose.max_long.x ∈ ab_TW) (w3 : Cond.initialized "java/lang/Math" ∈ ab_TW) (w4 : Cond.code Lib.MathLoose.max_long.x Lib.MathLoose.max_long.code 4 (some .long) ∈ ab_TW) (G : ab_G E b cc nL own ret d) (hdd : 1 ≤ d) (hrest : (rest.map ab_cat).sum ≤ 8) (hd : decode cc pc = .ok (.invokestatic idx, 3)) (kk : ab_X E b Q nL (pc + 3) ls (vL (lmax x y) :: rest) s) : ab_X E b Q nL pc ls (vL y :: vL x :: rest) s := by
  obtain ⟨p, l, e, R, s0, m, args, below, meth, c, cells, slots⟩ := b
  intro H locs a hR hS hl ho hs
  have hts := G.2.2.2.2.1.1.use args
  have hy := (oks hs).1
  have hx := (oks (oks hs).2).1
  have hf := G.2.2.2.2.2.2.2.1
  have hlo := G.2.2.2.2.2.2.2.2.1
  refine va_mmax_long G.1 G.2.1 (G.2.2.1.trans hl.1.symm) G.2.2.2.1 (hts _ w1) (hts _ w2) (hts _ w3) (hts _ w4) (by omega) (by rw [cat_sum]; omega) G.2.2.2.2.2.2.2.2.2.1 G.2.2.2.2.2.2.2.2.2.2 hd ?_
  have e1 : (if Int64.ofInt y < Int64.ofInt x then Int64.ofInt x else Int64.ofInt y) = Int64.ofInt (lmax x y) := by
    unfold lmax
    by_cases q : y < x
    · rw [if_pos q, if_pos ((ol_lt hy hx).mpr q)]
    · rw [if_neg q, if_neg (fun z => q ((ol_lt hy hx).mp z))]
  rw [e1]
  exact kk H locs a hR hS hl ho (okc (by show r64 _; unfold lmax; split; exact hx; exact hy) (oks (oks hs).2).2)
theorem x_table {dflt lo hi : Int} {offs : Array Int} {len : Nat} {x : Int} {tgt : Nat} {st : List AV} (G : ab_G E b cc nL own ret d) (hd : decode cc pc = .ok (.tableswitch dflt lo hi offs, len)) (ht : (pc : Int) + (if x < lo ∨ hi < x then dflt else offs.getD (x - lo).toNat dflt) = (tgt : Int)) (hz : (offs.size : Int) = hi - lo + 1) (kk : ab_X E b Q nL tgt ls st s) : ab_X E b Q nL pc ls (vI x :: st) s := by
  obtain ⟨p, l, e, R, s0, m, args, below, meth, c, cells, slots⟩ := b
  intro H locs a hR hS hl ho hs
  have hx := oi_tr (oks hs).1
  by_cases q : x < lo ∨ hi < x
  · rw [if_pos q] at ht
    exact lv_tableOut G.1 G.2.1 hd (by rw [hx]; exact q) ht (kk H locs a hR hS hl ho (oks hs).2)
  · rw [if_neg q] at ht
    refine lv_tableIn (off := offs.getD (x - lo).toNat dflt) G.1 G.2.1 hd (by rw [hx]; omega) (by rw [hx]; omega) ?_ ht (kk H locs a hR hS hl ho (oks hs).2)
    rw [hx]
    have hlt : (x - lo).toNat < offs.size := by omega
    rw [Array.getD_eq_getD_getElem?, Array.getElem?_eq_getElem hlt]
    rfl
def lsw : List (Int × Int) → Int → Int → Int
  | [], df, _ => df
  | (a, o) :: r, df, x => if x = a then o else lsw r df x
theorem lsw_eq (df x : Int) : ∀ ps : List (Int × Int), Op.lookupswitch.offset ps df x = lsw ps df x
  | [] => by rfl
  | (a, o) :: r => by
    rw [Op.lookupswitch.offset_cons, lsw, lsw_eq df x r]
    by_cases q : x = a
    · rw [if_pos q, if_pos q.symm]
    · rw [if_neg q, if_neg (fun z => q z.symm)]
theorem x_lookup {dflt : Int} {ps : Array (Int × Int)} {len : Nat} {x : Int} {tgt : Nat} {st : List AV} (G : ab_G E b cc nL own ret d) (hd : decode cc pc = .ok (.lookupswitch dflt ps, len)) (hp : (ps.toList.zip (ps.toList.drop 1)).all (fun (a, next) => a.1 < next.1) = true) (ht : (pc : Int) + lsw ps.toList dflt x = (tgt : Int)) (kk : ab_X E b Q nL tgt ls st s) : ab_X E b Q nL pc ls (vI x :: st) s := by
  obtain ⟨p, l, e, R, s0, m, args, below, meth, c, cells, slots⟩ := b
  intro H locs a hR hS hl ho hs
  exact lv_lookup (off := lsw ps.toList dflt x) G.1 G.2.1 hd hp (by rw [oi_tr (oks hs).1, lsw_eq]) ht (kk H locs a hR hS hl ho (oks hs).2)
end CW
/-! ===== ends ===== -/
section EW
variable {E : En} {b : Bn} {nL pc : Nat} {ls : List (Nat × AV)} {s : Mem} {cc : ByteArray} {own : String} {d : Nat}
theorem x_iret {x : Int} (G : ab_G E b cc nL own (some .int) d) (hd : decode cc pc = .ok (.ireturn, 1)) : ab_X E b (ab_MQ E b (some (vI x)) s) nL pc ls [vI x] s := by
  obtain ⟨p, l, e, R, s0, m, args, below, meth, c, cells, slots⟩ := b
  intro H locs a hR hS hl ho hs
  have hlocks := G.2.2.2.2.2.2.1
  exact W.iret (v := Int32.ofInt x) G.1 G.2.1 G.2.2.2.2.2.1 (fun t ht hW => ⟨rfl, by rw [ht]; exact hR, fun v hv => by cases hv; exact (oks hs).1, hS.F ht⟩) hS.2.2 hd hlocks
theorem x_zret {x : Int} (G : ab_G E b cc nL own (some .boolean) d) (h : x = 0 ∨ x = 1) (hd : decode cc pc = .ok (.ireturn, 1)) : ab_X E b (ab_MQ E b (some (vI x)) s) nL pc ls [vI x] s := by
  obtain ⟨p, l, e, R, s0, m, args, below, meth, c, cells, slots⟩ := b
  intro H locs a hR hS hl ho hs
  have hlocks := G.2.2.2.2.2.2.1
  exact W.zret (v := Int32.ofInt x) G.1 G.2.1 G.2.2.2.2.2.1 (nar_z h) (fun t ht hW => ⟨rfl, by rw [ht]; exact hR, fun v hv => by cases hv; exact (oks hs).1, hS.F ht⟩) hS.2.2 hd hlocks
theorem x_lret {x : Int} (G : ab_G E b cc nL own (some .long) d) (hd : decode cc pc = .ok (.lreturn, 1)) : ab_X E b (ab_MQ E b (some (vL x)) s) nL pc ls [vL x] s := by
  obtain ⟨p, l, e, R, s0, m, args, below, meth, c, cells, slots⟩ := b
  intro H locs a hR hS hl ho hs
  have hlocks := G.2.2.2.2.2.2.1
  exact W.lret (v := Int64.ofInt x) G.1 G.2.1 G.2.2.2.2.2.1 (fun t ht hW => ⟨rfl, by rw [ht]; exact hR, fun v hv => by cases hv; exact (oks hs).1, hS.F ht⟩) hS.2.2 hd hlocks
theorem x_vret (G : ab_G E b cc nL own none d) (hd : decode cc pc = .ok (.return_, 1)) : ab_X E b (ab_MQ E b none s) nL pc ls [] s := by
  obtain ⟨p, l, e, R, s0, m, args, below, meth, c, cells, slots⟩ := b
  intro H locs a hR hS hl ho hs
  have hlocks := G.2.2.2.2.2.2.1
  exact W.vret G.1 G.2.1 G.2.2.2.2.2.1 (fun t ht hW => ⟨rfl, by rw [ht]; exact hR, fun v hv => (by cases hv), hS.F ht⟩) hS.2.2 hd hlocks
theorem x_aret {k : Nat} {ty : FieldType} (G : ab_G E b cc nL own (some (.array ty)) d) (hd : decode cc pc = .ok (.areturn, 1)) : ab_X E b (ab_MQ E b (some (vR k)) s) nL pc ls [vR k] s := by
  obtain ⟨p, l, e, R, s0, m, args, below, meth, c, cells, slots⟩ := b
  intro H locs a hR hS hl ho hs
  have hlocks := G.2.2.2.2.2.2.1
  exact W.aret (v := .ref (eAd E k)) G.1 G.2.1 G.2.2.2.2.2.1 (Or.inr ⟨_, rfl⟩) (Or.inr ⟨_, rfl⟩) (fun t ht hW => ⟨rfl, by rw [ht]; exact hR, fun v hv => by cases hv; exact (oks hs).1, hS.F ht⟩) hS.2.2 hd hlocks
end EW
theorem ab_args_c (E : En) : ∀ (i : Nat) (av : List AV), lv_args i (av.map (ab_c E)) = (ab_args i av).map (ab_c2 E)
  | _, [] => rfl
  | i, v :: vs => by
    rw [List.map_cons, lv_args, ab_args, List.map_cons, ab_args_c E _ vs, ab_cat_c]
    have h : (if ab_cat v = 2 then i + 2 else i + 1) = i + ab_cat v := by
      rcases v with x | x | k <;> rfl
    rw [h]
theorem ab_args_ok {E : En} : ∀ (i : Nat) (av : List AV), (∀ v ∈ av, ab_ok E v) → ∀ q ∈ ab_args i av, ab_ok E q.2
  | _, [], _, q, hq => by cases hq
  | i, v :: vs, h, q, hq => by
    rcases List.mem_cons.mp hq with rfl | hq
    · exact (oks h).1
    · exact ab_args_ok _ vs (oks h).2 q hq
theorem ab_slots (E : En) (av : List AV) : (lg_sl (av.map (ab_c E))).length = (av.map ab_cat).sum := by
  induction av with
  | nil => rfl
  | cons v vs ih =>
    unfold lg_sl at *
    rw [List.map_cons, List.flatMap_cons, List.length_append, ih, List.map_cons, List.sum_cons, ab_cat_c]
    rcases v with x | x | k <;> rfl
theorem ab_intro {E : En} {d : Nat} {y : MethodName} {cc : ByteArray} {maxL : Nat} {ret : Option FieldType} {av : List AV} {r : Option AV} {s s' : Mem} {own : String} {ls0 : List (Nat × AV)} (hy : plainName y.cls = true) (hown : y.cls = own) (hlen : (av.map ab_cat).sum ≤ maxL) (hls : ab_args 0 av = ls0) (body : ∀ b : Bn, ab_G E b cc maxL own ret d → ab_X E b (ab_MQ E b r s') maxL 0 ls0 [] s) : ab_Run E d y cc maxL ret av r s s' := by
  intro l
  subst hls
  subst hown
  refine Met.ofW (cc := cc) (maxL := maxL) (ret := ret) hy rfl ?_
  intro p e s0 m args below meth c s₁ B hml hv
  obtain ⟨rfl, hC, hR, hok⟩ := hv
  have hown : s0.vm.findClass y.cls = some m.cls := findClass_of_methodNamed B.named
  have G : ab_G E (p, l, e, (headSpec [Cond.code y cc maxL ret] (ab_rm d)).room, s0, m, (av.map (ab_c E)).toArray, below, meth, c, 0, 0) cc maxL y.cls ret d := ⟨B.exec, B.bytes, hml, hown, hC, B.returns, B.notSynchronized, Nat.le_refl _, Nat.le_refl _, Nat.le_refl _, Nat.le_refl _⟩
  have hl := lv_entry (av.map (ab_c E)) (n := maxL) (by rw [ab_slots]; exact hlen)
  rw [lg_entry_eq]
  rw [ab_args_c] at hl
  exact body _ G s0.heap [] _ hR va_S.rf hl (ab_args_ok 0 av hok) (fun v hv => by cases hv)

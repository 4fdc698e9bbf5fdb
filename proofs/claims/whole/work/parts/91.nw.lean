/-! ===== making: the cells in the order in which they are made, each at its address ===== -/
def nw_full : List Nat := [17, 18, 19, 20, 21, 22, 23, 24, 25, 26, 27, 28, 29, 30, 31, 32, 33, 34, 35, 36, 37, 38, 39, 40, 41, 42, 43, 44, 45, 46, 47, 48, 49, 50, 51, 52, 53, 54, 55, 56, 57, 58, 59, 60, 61, 62, 63, 64, 65, 66, 67, 68, 69, 70, 71, 72, 73, 74, 75, 76, 77, 78, 79, 80, 81, 82, 83, 84, 85, 86, 87, 88, 89, 90, 91, 92, 93, 94, 95, 96, 97, 98, 99, 100, 101, 102, 103, 104, 105, 106, 107, 108, 109, 110, 111, 112, 113, 114, 116, 117, 118, 115, 119, 120, 121, 122, 123, 124, 125, 126, 127, 128, 129, 130, 131, 132, 133, 134, 135, 136, 0, 1, 2, 3, 4, 5, 6, 7, 8, 9, 10, 11, 12, 13, 14, 15, 16]
def nw_i (i : Nat) : Nat := nw_full.getD i 0
def nw_o (k : Nat) : Nat := if k < 17 then 120 + k else if k = 115 then 101 else if 116 ≤ k ∧ k ≤ 118 then k - 18 else k - 17
theorem nw_io : ∀ k, k < 137 → nw_i (nw_o k) = k ∧ nw_o k < 137 := by decide +kernel
theorem nw_oi : ∀ i, i < 137 → nw_o (nw_i i) = i ∧ nw_i i < 137 := by decide +kernel
def nw_E (E : En) : Prop := ∀ k, k < 137 → eAd E k = eS0 E + nw_o k
abbrev Wf : Type := List (Nat × Nat)
def nw_fv (E : En) (s : Mem) (φ : Wf) (k f : Nat) : Value := match ab_ptr k f with
  | some t => if φ.contains (k, f) = true then .ref (eAd E t) else .null
  | none => .int (Int32.ofInt (s k f))
def nw_gr (E : En) (φ : Wf) (k n r j : Nat) : Option Nat := if j < n ∧ φ.contains (k, j) = false then none else some (eAd E (r + j))
def nw_ent (E : En) (s : Mem) (φ : Wf) (k : Nat) : va_E :=
  if (ab_sh k).1 = 1 then .inr ((ab_sh k).2.1, (List.range (ab_nf.getD (ab_sh k).2.1 0)).map (nw_fv E s φ k))
  else if (ab_sh k).1 < 6 then ab_ent E s k
  else .inl (eCA E k, (ab_sh k).2.1, .inr (.inr (.inr (.inr (nw_gr E φ k (ab_sh k).2.1 (ab_sh k).2.2)))))
def nw_ws (E : En) (s : Mem) (φ : Wf) (n : Nat) : va_W := (List.range n).map (fun i => (eS0 E + i, nw_ent E s φ (nw_i i)))
def nw_R (E : En) (s : Mem) (φ : Wf) (n : Nat) (H : Heap) : Prop := va_P (eD E) vwCl (nw_ws E s φ n) H ∧ H.size = eS0 E + n
section NW
variable {E : En} {s : Mem} {φ : Wf} {n : Nat}
theorem nw_at (E : En) (s : Mem) (φ : Wf) {n i : Nat} (h : i < n) : (nw_ws E s φ n)[i]? = some (eS0 E + i, nw_ent E s φ (nw_i i)) := by
  unfold nw_ws
  rw [List.getElem?_map, List.getElem?_range h]; rfl
theorem nw_atk (hE : nw_E E) (s : Mem) (φ : Wf) {n k : Nat} (hk : k < 137) (h : nw_o k < n) : (nw_ws E s φ n)[nw_o k]? = some (eAd E k, nw_ent E s φ k) := by
  rw [nw_at E s φ h, (nw_io k hk).1, hE k hk]
theorem nw_get {q : Nat × va_E} {i : Nat} (h : (nw_ws E s φ n)[i]? = some q) : i < n ∧ q = (eS0 E + i, nw_ent E s φ (nw_i i)) := by
  have hl : i < n := by
    have := (List.getElem?_eq_some_iff.mp h).1
    unfold nw_ws at this
    rw [List.length_map, List.length_range] at this
    exact this
  rw [nw_at E s φ hl] at h
  exact ⟨hl, (Option.some.inj h).symm⟩
theorem nw_D (E : En) (s : Mem) (φ : Wf) (n : Nat) : va_D (eA E) (nw_ws E s φ n) := by
  refine ⟨fun i j p q hi hj e => ?_, fun i q hi => ?_⟩
  · have h1 := nw_get hi
    have h2 := nw_get hj
    rw [h1.2, h2.2] at e
    dsimp only at e
    omega
  · rw [(nw_get hi).2]
    show eS0 E ≤ eS0 E + i
    omega
theorem nw_push (E : En) (s : Mem) (φ : Wf) (n : Nat) : nw_ws E s φ (n + 1) = nw_ws E s φ n ++ [(eS0 E + n, nw_ent E s φ (nw_i n))] := by
  unfold nw_ws
  rw [List.range_succ, List.map_append]; rfl
theorem nw_R.grow {H H1 : Heap} (h : nw_R E s φ n H) (hz : H1.size = H.size + 1) (ho : ∀ q, q < H.size → H1[q]? = H[q]?) (hat : va_at (eD E) vwCl (eS0 E + n, nw_ent E s φ (nw_i n)) H1) : nw_R E s φ (n + 1) H1 := by
  refine ⟨?_, by rw [hz, h.2]; omega⟩
  rw [nw_push]
  refine (h.1.kept (fun k x hx => ho x.1 ((h.1 k x hx).lt))).app (fun k x hx => ?_)
  have hz : k < 1 := (List.getElem?_eq_some_iff.mp hx).1
  rw [show k = 0 by omega] at hx
  cases hx
  exact hat
theorem ct_ne {φ : Wf} {k f a g : Nat} (h : a ≠ k) : ((k, f) :: φ).contains (a, g) = φ.contains (a, g) := by
  rw [List.contains_cons]
  have : ((a, g) == (k, f)) = false := by
    rw [beq_eq_false_iff_ne]
    intro e
    exact h (congrArg Prod.fst e)
  rw [this, Bool.false_or]
theorem ct_ne2 {φ : Wf} {k f g : Nat} (h : g ≠ f) : ((k, f) :: φ).contains (k, g) = φ.contains (k, g) := by
  rw [List.contains_cons]
  have : ((k, g) == (k, f)) = false := by
    rw [beq_eq_false_iff_ne]
    intro e
    exact h (congrArg Prod.snd e)
  rw [this, Bool.false_or]
theorem ct_self {φ : Wf} {k f : Nat} : ((k, f) :: φ).contains (k, f) = true := by
  rw [List.contains_cons, beq_self_eq_true, Bool.true_or]
theorem nw_ent_ne (E : En) (s : Mem) (φ : Wf) {k f a : Nat} (h : a ≠ k) : nw_ent E s ((k, f) :: φ) a = nw_ent E s φ a := by
  have e1 : nw_fv E s ((k, f) :: φ) a = nw_fv E s φ a := by
    funext g
    unfold nw_fv
    rw [ct_ne h]
  have e2 : ∀ m r, nw_gr E ((k, f) :: φ) a m r = nw_gr E φ a m r := fun m r => by
    funext j
    unfold nw_gr
    rw [ct_ne h]
  unfold nw_ent
  rw [e1, e2]
theorem nw_set (hE : nw_E E) (s : Mem) (φ : Wf) {n k : Nat} (f : Nat) (hk : k < 137) (h : nw_o k < n) (hn : n ≤ 137) : (nw_ws E s φ n).set (nw_o k) (eAd E k, nw_ent E s ((k, f) :: φ) k) = nw_ws E s ((k, f) :: φ) n := by
  apply List.ext_getElem?
  intro i
  rw [List.getElem?_set]
  by_cases hi : nw_o k = i
  · subst hi
    rw [if_pos rfl, nw_atk hE s _ hk h, if_pos (by unfold nw_ws; rw [List.length_map, List.length_range]; exact h)]
  · rw [if_neg hi]
    unfold nw_ws
    rw [List.getElem?_map, List.getElem?_map]
    cases hq : (List.range n)[i]? with
    | none => rfl
    | some v =>
      obtain ⟨hlt, hv⟩ := List.getElem?_eq_some_iff.mp hq
      rw [List.length_range] at hlt
      rw [List.getElem_range] at hv
      subst hv
      simp only [Option.map_some]
      rw [nw_ent_ne E s φ (fun e => hi (by rw [← e, (nw_oi i (by omega)).1]))]
theorem nf_at (E : En) (s : Mem) (φ : Wf) (k : Nat) {n f : Nat} (h : f < n) : ((List.range n).map (nw_fv E s φ k))[f]? = some (nw_fv E s φ k f) := by
  rw [List.getElem?_map, List.getElem?_range h]; rfl
theorem nf_set (E : En) (s : Mem) (φ : Wf) (k : Nat) {n f t : Nat} (h : f < n) (hp : ab_ptr k f = some t) : ((List.range n).map (nw_fv E s φ k)).set f (.ref (eAd E t)) = (List.range n).map (nw_fv E s ((k, f) :: φ) k) := by
  apply List.ext_getElem?
  intro i
  rw [List.getElem?_set]
  by_cases hi : f = i
  · subst hi
    rw [if_pos rfl, if_pos (by rw [List.length_map, List.length_range]; exact h), nf_at E _ _ k h]
    unfold nw_fv
    rw [hp]
    dsimp only
    rw [if_pos ct_self]
  · rw [if_neg hi, List.getElem?_map, List.getElem?_map]
    cases hq : (List.range n)[i]? with
    | none => rfl
    | some v =>
      obtain ⟨hlt, hv⟩ := List.getElem?_eq_some_iff.mp hq
      rw [List.getElem_range] at hv
      subst hv
      simp only [Option.map_some]
      unfold nw_fv
      rw [ct_ne2 (Ne.symm hi)]
theorem nw_entO (E : En) (s : Mem) (φ : Wf) {k ci : Nat} (h : ab_sh k = (1, ci, 0)) : nw_ent E s φ k = .inr (ci, (List.range (ab_nf.getD ci 0)).map (nw_fv E s φ k)) := by
  unfold nw_ent; rw [h]; rfl
/-- the array classes stand -/
def nw_T (U : State) : Prop := ((Cond.arrayClass .byte).before #[] U = true ∧ (Cond.arrayClass .int).before #[] U = true ∧ (Cond.arrayClass .long).before #[] U = true ∧ (Cond.arrayClass .boolean).before #[] U = true) ∧ ((Cond.arrayOver (.array .int)).before #[] U = true ∧ (Cond.arrayOver (.array .long)).before #[] U = true ∧ (Cond.arrayOver (.object "StormHarbours$Watch")).before #[] U = true)
theorem ao_moved {s U : State} {ty : FieldType} {a a' : Array Value} (hal : s.vm.Alike U.vm) (h : (Cond.arrayOver ty).before a s = true) : (Cond.arrayOver ty).before a' U = true := by
  have h1 : (Cond.arrayOver ty).before a (s.setVm U.vm) = true := by rw [Cond.arrayOver_setVmC hal]; exact h
  exact h1
theorem ac_args {ty : FieldType} {a : Array Value} {s : State} (h : (Cond.arrayClass ty).before #[] s = true) : (Cond.arrayClass ty).before a s = true := h
theorem ao_args {ty : FieldType} {a : Array Value} {s : State} (h : (Cond.arrayOver ty).before #[] s = true) : (Cond.arrayOver ty).before a s = true := h
theorem nw_T.warm {s U : State} (h : nw_T s) (hW : s.WarmedH U.vm) : nw_T U := by
  obtain ⟨⟨h1, h2, h3, h4⟩, h5, h6, h7⟩ := h
  exact ⟨⟨word_at hW (Or.inr ⟨_, rfl⟩) h1, word_at hW (Or.inr ⟨_, rfl⟩) h2, word_at hW (Or.inr ⟨_, rfl⟩) h3, word_at hW (Or.inr ⟨_, rfl⟩) h4⟩, ao_moved hW.alike h5, ao_moved hW.alike h6, ao_moved hW.alike h7⟩
/-! the walk of a making method: u cells of c slots are made so far -/
def nw_X (E : En) (b : Bn) (Q : State → Prop) (nL pc : Nat) (ls : List (Nat × AV)) (st : List AV) (s : Mem) (φ : Wf) (n u c : Nat) : Prop :=
  match b with
  | (p, l, e, R, s0, m, args, below, meth, cd, cells, slots) => ∀ (H : Heap) (locs : List Loc) (a : Array Slot), s0.heap.size + (cells + u) = eS0 E + n → nw_R E s φ n H → va_S (eA E) s0.heap H locs → lv_has a nL (ls.map (ab_c2 E)) → (∀ q ∈ ls, ab_ok E q.2) → (∀ v ∈ st, ab_ok E v) → W p l e R s0 m args below meth cd H locs (cells + u) (slots + c) Q (F0 m pc a (st.map (ab_c E)))
def nw_G (E : En) (b : Bn) (cc : ByteArray) (nL : Nat) (own : String) (d mc ms : Nat) : Prop :=
  match b with
  | (p, _, _, R, s0, m, _, _, meth, c, cells, slots) => (p.tables.exec = Jvm.exec ∧ c.code = cc ∧ c.maxLocals = nL ∧ s0.vm.findClass own = some m.cls) ∧ (ab_C E s0 ∧ nw_E E ∧ eLo E = 0) ∧ (d ≤ R.frames ∧ 40 * d ≤ R.locals) ∧ (cells + mc ≤ R.cells ∧ slots + ms ≤ R.slots) ∧ (meth.name = "<init>" ∧ nw_T s0) ∧ meth.sig.returnType = none ∧ meth.locks = false
theorem W_size {p : Program} {l : Launch} {e : Env} {R : Room} {s : State} {m : MethodId} {args : Array Value} {below : List Frame} {meth : Method} {c : Code} {H : Heap} {locs : List Loc} {cells slots : Nat} {Q : State → Prop} {g : JFrame} (k : H.size ≤ s.heap.size + cells → W p l e R s m args below meth c H locs cells slots Q g) : W p l e R s m args below meth c H locs cells slots Q g := fun T hT X => k (by rw [← hT]; exact X.heapSize) T hT X
theorem nw_R.of {H : Heap} (hP : va_P (eD E) vwCl (nw_ws E s φ n) H) (h0 : 0 < n) (hle : H.size ≤ eS0 E + n) : nw_R E s φ n H := by
  have h1 := (hP (n - 1) _ (nw_at E s φ (by omega))).lt
  dsimp only at h1
  exact ⟨hP, by omega⟩
end NW
section NR
variable {E : En} {b : Bn} {Q : State → Prop} {nL pc : Nat} {ls : List (Nat × AV)} {st : List AV} {s : Mem} {φ : Wf} {n u c : Nat} {cc : ByteArray} {own : String} {d mc ms : Nat}
theorem n_aload_n (G : nw_G E b cc nL own d mc ms) {i : Fin 4} {x : Nat} {j i' : Nat} (hd : decode cc pc = .ok (.aload_n i, 1)) (hi : (i : Nat) = i') (hj : ls[j]? = some (i', vR x)) (k : nw_X E b Q nL (pc + 1) ls (vR x :: st) s φ n u c) : nw_X E b Q nL pc ls st s φ n u c := by
  obtain ⟨p, l, e, R, s0, m, args, below, meth, cd, cells, slots⟩ := b
  intro H locs a hcn hR hS hl ho hs
  exact lv_aload_n G.1.1 G.1.2.1 hd hi (ls_at hl hj) (k H locs a hcn hR hS hl ho (okc (ho _ (List.mem_of_getElem? hj)) hs))
theorem n_iload_n (G : nw_G E b cc nL own d mc ms) {i : Fin 4} {x : Int} {j i' : Nat} (hd : decode cc pc = .ok (.iload_n i, 1)) (hi : (i : Nat) = i') (hj : ls[j]? = some (i', vI x)) (k : nw_X E b Q nL (pc + 1) ls (vI x :: st) s φ n u c) : nw_X E b Q nL pc ls st s φ n u c := by
  obtain ⟨p, l, e, R, s0, m, args, below, meth, cd, cells, slots⟩ := b
  intro H locs a hcn hR hS hl ho hs
  exact lv_iload_n G.1.1 G.1.2.1 hd hi (ls_at hl hj) (k H locs a hcn hR hS hl ho (okc (ho _ (List.mem_of_getElem? hj)) hs))
theorem n_iconst (G : nw_G E b cc nL own d mc ms) {x : Int} (hd : decode cc pc = .ok (.iconst x, 1)) (hr : -2147483648 ≤ x ∧ x < 2147483648) (k : nw_X E b Q nL (pc + 1) ls (vI x :: st) s φ n u c) : nw_X E b Q nL pc ls st s φ n u c := by
  obtain ⟨p, l, e, R, s0, m, args, below, meth, cd, cells, slots⟩ := b
  intro H locs a hcn hR hS hl ho hs
  exact lv_iconst G.1.1 G.1.2.1 hd rfl (k H locs a hcn hR hS hl ho (okc hr hs))
theorem n_bipush (G : nw_G E b cc nL own d mc ms) {x : Int} (hd : decode cc pc = .ok (.bipush x, 2)) (hv : (Int8.ofInt x).toInt32 = Int32.ofInt x) (hr : -2147483648 ≤ x ∧ x < 2147483648) (k : nw_X E b Q nL (pc + 2) ls (vI x :: st) s φ n u c) : nw_X E b Q nL pc ls st s φ n u c := by
  obtain ⟨p, l, e, R, s0, m, args, below, meth, cd, cells, slots⟩ := b
  intro H locs a hcn hR hS hl ho hs
  exact lv_bipush G.1.1 G.1.2.1 hd hv (k H locs a hcn hR hS hl ho (okc hr hs))
theorem n_sipush (G : nw_G E b cc nL own d mc ms) {x : Int} (hd : decode cc pc = .ok (.sipush x, 3)) (hv : (Int16.ofInt x).toInt32 = Int32.ofInt x) (hr : -2147483648 ≤ x ∧ x < 2147483648) (k : nw_X E b Q nL (pc + 3) ls (vI x :: st) s φ n u c) : nw_X E b Q nL pc ls st s φ n u c := by
  obtain ⟨p, l, e, R, s0, m, args, below, meth, cd, cells, slots⟩ := b
  intro H locs a hcn hR hS hl ho hs
  exact lv_sipush G.1.1 G.1.2.1 hd hv (k H locs a hcn hR hS hl ho (okc hr hs))
theorem n_dup (G : nw_G E b cc nL own d mc ms) {v : AV} (hd : decode cc pc = .ok (.dup, 1)) (hv : ab_cat v = 1) (k : nw_X E b Q nL (pc + 1) ls (v :: v :: st) s φ n u c) : nw_X E b Q nL pc ls (v :: st) s φ n u c := by
  obtain ⟨p, l, e, R, s0, m, args, below, meth, cd, cells, slots⟩ := b
  intro H locs a hcn hR hS hl ho hs
  exact lv_dup G.1.1 G.1.2.1 hd (by rw [ab_cat_c]; exact hv) (k H locs a hcn hR hS hl ho (okc (oks hs).1 hs))
theorem n_istore_n (G : nw_G E b cc nL own d mc ms) {i : Fin 4} {x : Int} {i' : Nat} {ls' : List (Nat × AV)} (hd : decode cc pc = .ok (.istore_n i, 1)) (hi : (i : Nat) = i') (hn : i' < nL) (hl' : ls_st1 i' (vI x) ls = ls') (k : nw_X E b Q nL (pc + 1) ls' st s φ n u c) : nw_X E b Q nL pc ls (vI x :: st) s φ n u c := by
  obtain ⟨p, l, e, R, s0, m, args, below, meth, cd, cells, slots⟩ := b
  intro H locs a hcn hR hS hl ho hs
  subst hl'
  exact lv_istore_n G.1.1 G.1.2.1 hd hi hl hn (ls_m1 E i' (vI x) ls) (fun a' hl' => k H locs a' hcn hR hS hl' (ls_o1 (oks hs).1 ho) (oks hs).2)
theorem n_iinc (G : nw_G E b cc nL own d mc ms) {i j : Nat} {y x : Int} {ls' : List (Nat × AV)} (hd : decode cc pc = .ok (.iinc i y, 3)) (hj : ls[j]? = some (i, vI x)) (hn : i < nL) (hl' : ls_st1 i (vI (w32 (x + y))) ls = ls') (k : nw_X E b Q nL (pc + 3) ls' st s φ n u c) : nw_X E b Q nL pc ls st s φ n u c := by
  obtain ⟨p, l, e, R, s0, m, args, below, meth, cd, cells, slots⟩ := b
  intro H locs a hcn hR hS hl ho hs
  subst hl'
  exact lv_iinc (k := j) G.1.1 G.1.2.1 hd hl (by rw [List.getElem?_map, hj]; rfl) (oi_add x y) hn (ls_m1 E i (vI (w32 (x + y))) ls) (fun a' hl' => k H locs a' hcn hR hS hl' (ls_o1 (r32_w _) ho) hs)
theorem n_goto (G : nw_G E b cc nL own d mc ms) {off : Int} {tgt : Nat} (hd : decode cc pc = .ok (.goto off, 3)) (ht : (pc : Int) + off = (tgt : Int)) (k : nw_X E b Q nL tgt ls st s φ n u c) : nw_X E b Q nL pc ls st s φ n u c := by
  obtain ⟨p, l, e, R, s0, m, args, below, meth, cd, cells, slots⟩ := b
  intro H locs a hcn hR hS hl ho hs
  exact lv_goto G.1.1 G.1.2.1 hd ht (k H locs a hcn hR hS hl ho hs)
theorem n_icmp_ge (G : nw_G E b cc nL own d mc ms) {x y : Int} {off : Int} {tgt : Nat} (hd : decode cc pc = .ok (.if_icmp .ge off, 3)) (ht : (pc : Int) + off = (tgt : Int)) (kt : y ≤ x → nw_X E b Q nL tgt ls st s φ n u c) (kf : (¬ y ≤ x) → nw_X E b Q nL (pc + 3) ls st s φ n u c) : nw_X E b Q nL pc ls (vI y :: vI x :: st) s φ n u c := by
  obtain ⟨p, l, e, R, s0, m, args, below, meth, cd, cells, slots⟩ := b
  intro H locs a hcn hR hS hl ho hs
  have hy := (oks hs).1
  have hx := (oks (oks hs).2).1
  have hs2 := (oks (oks hs).2).2
  exact lv_icmp_ge G.1.1 G.1.2.1 hd ht (fun q => kt ((oi_le hy hx).mp q) H locs a hcn hR hS hl ho hs2) (fun q => kf (fun z => q ((oi_le hy hx).mpr z)) H locs a hcn hR hS hl ho hs2)
theorem n_obj (G : nw_G E b cc nL own d mc ms) {idx x : Nat} (w1 : Cond.methodLink own idx Lib.objectInit ∈ ab_TW) (w2 : Cond.instanceMethod Lib.objectInit ∈ ab_TW) (w3 : Cond.code Lib.objectInit ⟨#[0xb1]⟩ 1 none ∈ ab_TW) (hdd : 1 ≤ d) (hrest : (st.map ab_cat).sum ≤ 8) (hd : decode cc pc = .ok (.invokespecial idx, 3)) (k : nw_X E b Q nL (pc + 3) ls st s φ n u c) : nw_X E b Q nL pc ls (vR x :: st) s φ n u c := by
  obtain ⟨p, l, e, R, s0, m, args, below, meth, cd, cells, slots⟩ := b
  intro H locs a hcn hR hS hl ho hs
  have hts := G.2.1.1.1.use args
  have hfr := G.2.2.1
  refine W.objInit G.1.1 G.1.2.1 G.1.2.2.2 (hts _ w1) (hts _ w2) (hts _ w3) rfl (by rw [G.1.2.2.1]; exact hl.1) rfl hd (by omega) ?_ (k H locs a hcn hR hS hl ho (oks hs).2)
  have h9 := lv_room (m := m) (pc := pc) (ls := a) (st := st.map (ab_c E)) (rest := (vR x :: st).map (ab_c E)) (by rw [cat_sum]; exact hrest)
  omega
end NR

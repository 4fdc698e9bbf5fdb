/-! ===== 'multianewarray' of two dimensions, walked from the model's own words ===== -/
section MU
/-- the links of a grid whose first i rows stand, its own cell at a -/
def mu_f (a : Nat) : Nat → Nat → Value
  | 0 => fun _ => .null
  | i + 1 => updV (mu_f a i) i (.ref (a + 1 + i))
theorem mu_f_lt (a : Nat) : ∀ (i j : Nat), j < i → mu_f a i j = .ref (a + 1 + j)
  | 0, _, h => absurd h (by omega)
  | i + 1, j, h => by
    show updV (mu_f a i) i _ j = _
    unfold updV
    by_cases c : j = i
    · rw [if_pos c, c]
    · rw [if_neg c]; exact mu_f_lt a i j (by omega)
theorem av_cgV {cA : ClassId} {N : Nat} {f g : Nat → Value} (h : ∀ j, j < N → f j = g j) : arrV cA N f = arrV cA N g := by
  have e : (Array.ofFn (n := N) fun j => f j.val) = Array.ofFn (n := N) fun j => g j.val := by
    congr 1
    funext j
    exact h j.val j.isLt
  unfold arrV
  rw [e]
/-- the machine when i rows of the grid stand -/
def mu_s (T : State) (cA comp : ClassId) (N M : Nat) (dv : Value) : Nat → State
  | 0 => T.pushCell (arrV cA N (mu_f T.heap.size 0))
  | i + 1 => ((mu_s T cA comp N M dv i).pushCell (arrV comp M (fun _ => dv))).setCell T.heap.size (arrV cA N (mu_f T.heap.size (i + 1)))
theorem mu_push {H : Heap} {x : Cell} {q : Nat} (h : q < H.size) : (H.push x)[q]? = H[q]? := by
  rw [Array.getElem?_push, if_neg (by omega)]
theorem mu_set {H : Heap} {x : Cell} {a q : Nat} (h : a ≠ q) : (H.setIfInBounds a x)[q]? = H[q]? := by
  rw [Array.getElem?_setIfInBounds, if_neg h]
theorem mu_size (T : State) (cA comp : ClassId) (N M : Nat) (dv : Value) : ∀ i, (mu_s T cA comp N M dv i).heap.size = T.heap.size + 1 + i
  | 0 => Array.size_push ..
  | i + 1 => by
    show (((mu_s T cA comp N M dv i).heap.push _).setIfInBounds _ _).size = _
    rw [Array.size_setIfInBounds, Array.size_push, mu_size T cA comp N M dv i]
    omega
theorem mu_self (T : State) (cA comp : ClassId) (N M : Nat) (dv : Value) : ∀ i, (mu_s T cA comp N M dv i).heap[T.heap.size]? = some (arrV cA N (mu_f T.heap.size i))
  | 0 => Array.getElem?_push_size
  | i + 1 => by
    show (((mu_s T cA comp N M dv i).heap.push _).setIfInBounds _ _)[T.heap.size]? = _
    have h := mu_size T cA comp N M dv i
    rw [Array.getElem?_setIfInBounds_self_of_lt (by rw [Array.size_push]; omega)]
theorem mu_old (T : State) (cA comp : ClassId) (N M : Nat) (dv : Value) {q : Nat} (hq : q < T.heap.size) : ∀ i, (mu_s T cA comp N M dv i).heap[q]? = T.heap[q]?
  | 0 => mu_push hq
  | i + 1 => by
    show (((mu_s T cA comp N M dv i).heap.push _).setIfInBounds _ _)[q]? = _
    have h := mu_size T cA comp N M dv i
    rw [mu_set (by omega), mu_push (by omega)]
    exact mu_old T cA comp N M dv hq i
theorem mu_row (T : State) (cA comp : ClassId) (N M : Nat) (dv : Value) {j : Nat} : ∀ i, j < i → (mu_s T cA comp N M dv i).heap[T.heap.size + 1 + j]? = some (arrV comp M (fun _ => dv))
  | 0, h => absurd h (by omega)
  | i + 1, hj => by
    show (((mu_s T cA comp N M dv i).heap.push _).setIfInBounds _ _)[T.heap.size + 1 + j]? = _
    have h := mu_size T cA comp N M dv i
    rw [mu_set (by omega)]
    by_cases c : j = i
    · subst c
      rw [← h]
      exact Array.getElem?_push_size
    · rw [mu_push (by omega)]
      exact mu_row T cA comp N M dv i (by omega)
theorem mu_used (T : State) (cA comp : ClassId) (N M : Nat) (dv : Value) : ∀ i, (mu_s T cA comp N M dv i).slotsUsed = T.slotsUsed + (N + i * M)
  | 0 => by
    show T.slotsUsed + (arrV cA N _).slots.size = _
    rw [arrV_size]; omega
  | i + 1 => by
    show (mu_s T cA comp N M dv i).slotsUsed + (arrV comp M _).slots.size = _
    rw [arrV_size, mu_used T cA comp N M dv i, Nat.succ_mul]; omega
theorem mu_vm (T : State) (cA comp : ClassId) (N M : Nat) (dv : Value) : ∀ i, (mu_s T cA comp N M dv i).vm = T.vm
  | 0 => rfl
  | i + 1 => mu_vm T cA comp N M dv i
theorem mu_top (T : State) (cA comp : ClassId) (N M : Nat) (dv : Value) (f : JFrame) : ∀ i, mu_s (T.setTop f) cA comp N M dv i = (mu_s T cA comp N M dv i).setTop f
  | 0 => rfl
  | i + 1 => by
    show ((mu_s (T.setTop f) cA comp N M dv i).pushCell _).setCell _ _ = _
    rw [mu_top T cA comp N M dv f i]
    rfl
/-- what 'arrayOver' tells of an array of arrays -/
theorem mu_over {s : State} {args : Array Value} {t : FieldType} (h : (Cond.arrayOver (.array t)).before args s = true) : ∃ cA comp kA, s.vm.findClass ("[" ++ (FieldType.array t).toString) = some cA ∧ s.vm.findClass (FieldType.array t).toString = some comp ∧ s.vm.classes[cA]? = some kA ∧ kA.kind = .array comp (.array t) := by
  have h1 := eq_of_beq h
  obtain ⟨comp, hcomp, h2⟩ := Option.bind_eq_some_iff.mp h1
  obtain ⟨cA, hidx, h3⟩ := Option.bind_eq_some_iff.mp h2
  obtain ⟨k, hk, h4⟩ := Option.map_eq_some_iff.mp h3
  obtain ⟨hlt, hp, -⟩ := Array.findIdx?_eq_some_iff_getElem.mp hidx
  have ek : s.vm.classes[cA] = k := Option.some.inj ((Array.getElem?_eq_getElem hlt).symm.trans hk)
  rw [ek] at hp
  cases hkd : k.kind with
  | array c1 t1 =>
    rw [hkd] at hp h4
    obtain ⟨h5, h6⟩ := (Bool.and_eq_true_iff.mp h4)
    have h7 := of_decide_eq_true h5
    have h8 := eq_of_beq hp
    exact ⟨cA, comp, k, of_decide_eq_true h6, hcomp, hk, by rw [hkd, h7, h8]⟩
  | _ => rw [hkd] at hp; exact absurd (show false = true from hp) (by decide)
section MS
variable {p : Program} {l : Launch} {e : Env} {R : Room} {s : State} {m : MethodId} {args : Array Value} {below : List Frame} {meth : Method} {c : Code} {T : State} {locs : List Loc} {cells slots : Nat}
/-- a place in a cell that the walk itself has made needs no note -/
theorem mu_drop {a i : Nat} (X : Stand p l e R s m args below meth c T (locs ++ [⟨a, i⟩]) cells slots) (h : s.heap.size ≤ a) : Stand p l e R s m args below meth c T locs cells slots :=
  ⟨X.admits, X.cas, X.clock, X.frames, X.room, X.hears, X.method, X.code, X.here, X.tail, X.warmed, X.limits, X.bytes, X.same.weaken (fun x hx hb => by
    rcases List.mem_append.mp hx with h1 | h1
    · exact h1
    · rw [List.mem_singleton.mp h1] at hb
      exact absurd hb (Nat.not_lt.mpr h)) (Nat.le_refl _) (Nat.le_refl _)⟩
theorem mu_stand (X : Stand p l e R s m args below meth c T locs cells slots) (cA comp : ClassId) (N M : Nat) (dv : Value) : ∀ i, Stand p l e R s m args below meth c (mu_s T cA comp N M dv i) locs (cells + (1 + i)) (slots + (N + i * M))
  | 0 => by
    have h := X.pushed (arrV cA N (mu_f T.heap.size 0))
    rw [arrV_size] at h
    rw [Nat.zero_mul]
    exact h
  | i + 1 => by
    have h := (mu_stand X cA comp N M dv i).pushed (arrV comp M (fun _ => dv))
    have hz := mu_size T cA comp N M dv i
    have hc : ((mu_s T cA comp N M dv i).pushCell (arrV comp M (fun _ => dv))).heap[T.heap.size]? = some (arrV cA N (mu_f T.heap.size i)) := by
      show ((mu_s T cA comp N M dv i).heap.push _)[T.heap.size]? = _
      rw [mu_push (by omega)]
      exact mu_self T cA comp N M dv i
    have h2 := h.stored hc i (.ref (T.heap.size + 1 + i))
    rw [arrV_store, arrV_size] at h2
    have h3 := mu_drop h2 X.same.2.1
    rw [Nat.succ_mul, show cells + (1 + (i + 1)) = cells + (1 + i) + 1 by omega, show slots + (N + (i * M + M)) = slots + (N + i * M) + M by omega]
    exact h3
end MS
section MW
variable {E : CtlPost} {e : Env} {d : Bool} {acts : List Action} {s : State}
theorem mu_one {Q : Addr → Pre} {comp c0 : ClassId} {k : Class} {ty : FieldType} {n : Int32} (hk : s.vm.classes[comp]? = some k) (hkind : k.kind = .array c0 ty) (hn : ¬ n < 0) (hlimit : ¬ n.toNatClampNeg > e.platform.arrayLengthLimit) (hheap : ¬ n.toNatClampNeg * componentBytes ty > e.platform.maxHeapBytes) (hcells : s.heap.size < e.platform.maxCells) (hslots : s.slotsUsed + n.toNatClampNeg ≤ e.platform.maxSlots) (hfit : fits ty (defaultValue ty) = true)
    (hq : ∀ acts', Q s.heap.size d acts' (s.pushCell (arrV comp n.toNatClampNeg (fun _ => defaultValue ty)))) : wp (Op.multianewarray.make comp [n]) Q E e d acts s := by
  simp only [Op.multianewarray.make, wp_bind', W.ite, hn, if_false, W.theClass, hk, Option.some.injEq, exists_eq_left', hkind, wp_pure']
  refine W.newArray_of hk hkind hlimit hheap hcells hslots hfit (fun acts' => ?_)
  have := hq acts'
  rw [← arrV_new] at this
  exact this
theorem mu_two {Q : Addr → Pre} {cA comp c0 : ClassId} {kA k : Class} {ty : FieldType} {N M : Nat} (hkA : s.vm.classes[cA]? = some kA) (hkindA : kA.kind = .array comp (.array ty)) (hk : s.vm.classes[comp]? = some k) (hkind : k.kind = .array c0 ty) (h0 : 0 < N) (hN : N < 1000) (hM : M < 1000) (hcb : componentBytes ty ≤ 8) (hlim : 1000 ≤ e.platform.arrayLengthLimit) (hhp : 8000 ≤ e.platform.maxHeapBytes) (hcells : s.heap.size + (1 + N) ≤ e.platform.maxCells) (hslots : s.slotsUsed + (N + N * M) ≤ e.platform.maxSlots) (hfit : fits ty (defaultValue ty) = true)
    (hq : ∀ d' acts', Q s.heap.size d' acts' (mu_s s cA comp N M (defaultValue ty) N)) : wp (Op.multianewarray.make cA [nI N, nI M]) Q E e d acts s := by
  have eN : (nI N).toNatClampNeg = N := nI_clamp (by omega)
  have eM : (nI M).toNatClampNeg = M := nI_clamp (by omega)
  have hNn : ¬ nI N < 0 := nI_pos (by omega)
  have hcbM : M * componentBytes ty ≤ 1000 * 8 := Nat.mul_le_mul (by omega) hcb
  have hz : (nI N == 0) = false := by
    cases c : (nI N == 0) with
    | false => rfl
    | true =>
      have h := congrArg Int32.toNatClampNeg (eq_of_beq c)
      rw [eN] at h
      have : (0 : Int32).toNatClampNeg = 0 := by decide
      omega
  rw [Op.multianewarray.make]
  simp only [wp_bind', W.ite, hNn, if_false, W.theClass, hkA, Option.some.injEq, exists_eq_left', hkindA, wp_pure', eN, hz, Bool.false_eq_true]
  refine W.newArray_of hkA hkindA (by omega) (by show ¬ N * 4 > _; omega) (by omega) (by omega) rfl (fun acts1 => ?_)
  rw [show (({ cls := cA, slots := Array.replicate N Value.null } : Cell)) = arrV cA N (mu_f s.heap.size 0) from arrV_new cA N .null]
  rw [wp_bind', Std.Legacy.Range.forIn_eq_forIn_range']
  refine wp_forIn_inv (fun rest u => ∃ i, i ≤ N ∧ rest = List.range' i (N - i) ∧ u = mu_s s cA comp N M (defaultValue ty) i) _ _ ⟨0, Nat.zero_le _, by simp [Std.Legacy.Range.size], rfl⟩ (fun x rest u d1 acts2 Q1 hI hn => ?_) (fun u d1 acts2 hI => ?_)
  · obtain ⟨i, hi, hr, rfl⟩ := hI
    obtain ⟨j, hj⟩ : ∃ j, N - i = j + 1 := by
      cases c : N - i with
      | zero => rw [c] at hr; exact absurd hr (by simp)
      | succ j => exact ⟨j, rfl⟩
    rw [hj, List.range'_succ] at hr
    obtain ⟨rfl, rfl⟩ := List.cons.inj hr
    have hsz := mu_size s cA comp N M (defaultValue ty) x
    have hus := mu_used s cA comp N M (defaultValue ty) x
    have hvm := mu_vm s cA comp N M (defaultValue ty) x
    have hxM : x * M + M ≤ N * M := by
      rw [← Nat.succ_mul]
      exact Nat.mul_le_mul_right M (by omega)
    rw [wp_bind']
    refine mu_one (k := k) (c0 := c0) (ty := ty) (by rw [hvm]; exact hk) hkind (nI_pos (by omega)) (by rw [eM]; omega) (by rw [eM]; omega) (by rw [hsz]; omega) (by rw [eM, hus]; omega) hfit (fun acts3 => ?_)
    rw [eM, wp_bind', W.writeLoc]
    refine ⟨arrV cA N (mu_f s.heap.size x), ?_, (by intro h; cases h), (by rw [arrV_size]; omega), ?_, ?_⟩
    · show ((mu_s s cA comp N M (defaultValue ty) x).heap.push _)[s.heap.size]? = _
      rw [mu_push (by omega)]
      exact mu_self s cA comp N M (defaultValue ty) x
    · show State.fitsSlot _ cA .none x _ = true
      simp [State.fitsSlot, State.slotType?, State.pushCell, hvm, hkA, hkindA, fits]
    · rw [wp_pure']
      refine hn _ _ _ ⟨x + 1, by omega, ?_, ?_⟩
      · rw [show N - (x + 1) = j by omega]
      · rw [arrV_store, hsz]
        rfl
  · obtain ⟨i, hi, hr, rfl⟩ := hI
    have e : i = N := by
      cases c : N - i with
      | zero => omega
      | succ j => rw [c, List.range'_succ] at hr; exact absurd hr (by simp)
    rw [wp_pure', e]
    exact hq _ _
theorem mu_cold {Q : Unit → Pre} {f : JFrame} {index c : Nat} {vm' : Vm} (hs : s.topJava?.isSome) (hg : (Jvm.resolveClass f.method.cls index).Gives e.toSetting s.vm (.ok c) vm') (hr : vm'.classReady f.method.cls index c) (hsz : vm'.classes.size ≤ s.vm.classes.size) : wp (Op.multianewarray.sem index 2) Q E e d acts (s.setTop f) ↔ wp (Op.multianewarray.sem index 2) Q E e d acts ((s.setVm vm').setTop f) := by
  simp only [Op.multianewarray.sem, wp_bind']
  exact W.resolveClassAt_transfer (s := s.setTop f) (State.method?_setTop f hs) hg hr hsz
theorem mu_sem {Q : Unit → Pre} {f : JFrame} {index : Nat} {cA comp c0 : ClassId} {kA k : Class} {ty : FieldType} {N M : Nat} {rest : List Value} (hs : s.topJava?.isSome) (hr : s.vm.classReady f.method.cls index cA) (hstack : f.stack = .int (nI M) :: .int (nI N) :: rest) (hkA : s.vm.classes[cA]? = some kA) (hkindA : kA.kind = .array comp (.array ty)) (hk : s.vm.classes[comp]? = some k) (hkind : k.kind = .array c0 ty) (h0 : 0 < N) (hN : N < 1000) (hM : M < 1000) (hcb : componentBytes ty ≤ 8) (hlim : 1000 ≤ e.platform.arrayLengthLimit) (hhp : 8000 ≤ e.platform.maxHeapBytes) (hcells : s.heap.size + (1 + N) ≤ e.platform.maxCells) (hslots : s.slotsUsed + (N + N * M) ≤ e.platform.maxSlots) (hfit : fits ty (defaultValue ty) = true)
    (hq : ∀ acts', Q () true acts' ((mu_s s cA comp N M (defaultValue ty) N).setTop { f with stack := .ref s.heap.size :: rest })) : wp (Op.multianewarray.sem index 2) Q E e d acts (s.setTop f) := by
  simp only [Op.multianewarray.sem, wp_bind', W.resolveClassAt_ready (State.method?_setTop f hs) hr]
  rw [show (2 : Nat) = [Value.int (nI N), Value.int (nI M)].length from rfl, Op.popN_top hs (args := [Value.int (nI N), Value.int (nI M)]) (rest := rest) (by rw [hstack]; rfl)]
  simp only [List.mapM_cons, List.mapM_nil, wp_bind', wp_pure']
  refine mu_two (s := s.setTop { f with stack := rest }) (kA := kA) (k := k) hkA hkindA hk hkind h0 hN hM hcb hlim hhp hcells hslots hfit (fun d' acts' => ?_)
  rw [mu_top]
  obtain ⟨x, hx⟩ := Option.isSome_iff_exists.mp hs
  have hx2 : (mu_s s cA comp N M (defaultValue ty) N).topJava?.isSome := by
    have : ∀ i, (mu_s s cA comp N M (defaultValue ty) i).topJava? = s.topJava? := fun i => by
      induction i with
      | zero => rfl
      | succ i ih => exact ih
    rw [this]; exact hs
  simp only [wp_bind', W.mark, W.pushRef, State.topJava?_setTop' _ hx2, Option.some.injEq, exists_eq_left', State.setTop_setTop]
  exact hq _
end MW
theorem W.multi2 {p : Program} {l : Launch} {e : Env} {R : Room} {s : State} {m : MethodId} {args : Array Value} {below : List Frame} {meth : Method} {c : Code} {H : Heap} {locs : List Loc} {cells slots : Nat} {Q : State → Prop} {cc : ByteArray} (hexec : p.tables.exec = Jvm.exec) (hb : c.code = cc) {own : String} {index : Nat} {ty : FieldType} (hown : s.vm.findClass own = some m.cls) (hclink : (Cond.classLink own index ("[" ++ (FieldType.array ty).toString)).before args s = true) (hover : (Cond.arrayOver (.array ty)).before args s = true) (harr : (Cond.arrayClass ty).before args s = true) {g : JFrame} (hg : g.method = m) (hdg : decode cc g.pc = .ok (.multianewarray index 2, 4)) {N M : Nat} {rest : List Value} (hstack : g.stack = .int (nI M) :: .int (nI N) :: rest) (h0 : 0 < N) (hN : N < 1000) (hM : M < 1000) (hcb : componentBytes ty ≤ 8) (hdf : fits ty (defaultValue ty) = true) (hcells : cells + (1 + N) ≤ R.cells) (hslots : slots + (N + N * M) ≤ R.slots)
    (kk : ∀ (H1 : Heap) (cA comp : ClassId), s.vm.findClass ("[" ++ (FieldType.array ty).toString) = some cA → s.vm.findClass (FieldType.array ty).toString = some comp → H1.size = H.size + 1 + N → (∀ q, q < H.size → H1[q]? = H[q]?) → H1[H.size]? = some (arrV cA N (fun j => .ref (H.size + 1 + j))) → (∀ j, j < N → H1[H.size + 1 + j]? = some (arrV comp M (fun _ => defaultValue ty))) → W p l e R s m args below meth c H1 locs (cells + (1 + N)) (slots + (N + N * M)) Q { g with pc := g.pc + 4, stack := .ref H.size :: rest }) : W p l e R s m args below meth c H locs cells slots Q g := by
  intro T hT X
  subst hT
  subst hb
  subst hg
  have hpl : e.platform.magicAccessors = ({} : Platform).magicAccessors := by rw [X.admits.platform]
  obtain ⟨cA, hfA, hcl⟩ := Cond.classLink_spec hown hclink e.platform hpl
  obtain ⟨cA', comp, kA, hfA', hfC, hkA, hkindA⟩ := mu_over hover
  cases hfA.symm.trans hfA'
  obtain ⟨cB, kC, c0, hfB, hkC, hkindC⟩ := Cond.arrayClass_spec harr
  have e1 : "[" ++ ty.toString = (FieldType.array ty).toString := rfl
  rw [e1] at hfB
  cases hfC.symm.trans hfB
  obtain ⟨hg₁, hwarm₁, hready₁⟩ := State.classEntry (e := e) X.warmed hcl
  generalize T.vm.noted g.method.cls index (.cls cA) = vm₁ at hg₁ hwarm₁ hready₁
  have hal : s.vm.Alike vm₁ := hwarm₁.alike
  obtain ⟨kA₁, hkA₁, heA⟩ := hal.2.2 _ _ hkA
  have hkindA₁ : kA₁.kind = .array comp (.array ty) := by rw [heA]; exact hkindA
  obtain ⟨kC₁, hkC₁, heC⟩ := hal.2.2 _ _ hkC
  have hkindC₁ : kC₁.kind = .array c0 ty := by rw [heC]; exact hkindC
  have hlim : 1000 ≤ e.platform.arrayLengthLimit := by rw [Launch.admits_arrayLengthLimit X.admits]; omega
  have hhp : 8000 ≤ e.platform.maxHeapBytes := by rw [Launch.admits_maxHeapBytes X.admits]; omega
  have X₁ := X.noted hwarm₁
  obtain ⟨hr1, hr2⟩ := X.roomAbove hcells hslots
  obtain ⟨t, a1, b1⟩ := kk (mu_s (T.setVm vm₁) cA comp N M (defaultValue ty) N).heap cA comp hfA hfC (mu_size (T.setVm vm₁) cA comp N M _ N) (fun q hq => mu_old (T.setVm vm₁) cA comp N M _ hq N) ((mu_self (T.setVm vm₁) cA comp N M _ N).trans (congrArg some (av_cgV (fun j hj => mu_f_lt _ N j hj)))) (fun j hj => mu_row (T.setVm vm₁) cA comp N M _ N hj) _ rfl (mu_stand X₁ cA comp N M (defaultValue ty) N)
  refine ⟨t, ?_, b1⟩
  refine Steps.instr (c := c) (by simpa using X.here) ?_
  rw [hdg]
  show wpRun (p.tables.exec _) _ _ e (T.setTop g)
  rw [hexec]
  unfold wpRun
  show wp (Op.multianewarray.sem index 2) _ _ e _ _ (T.setTop g)
  refine (mu_cold X.here.top hg₁ hready₁ (X.warmed.alike.symm.trans hal).size_le).mpr ?_
  refine mu_sem (s := T.setVm vm₁) (kA := kA₁) (k := kC₁) X.here.top hready₁ hstack hkA₁ hkindA₁ hkC₁ hkindC₁ h0 hN hM hcb hlim hhp hr1 hr2 hdf (fun acts' => ?_)
  intro acts2
  rw [afterInstr_ok]
  exact a1
end MU

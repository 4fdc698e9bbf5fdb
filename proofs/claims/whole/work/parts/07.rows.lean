/-! ===== rows: one instruction each, over abstract values ===== -/
theorem okc {E : En} {v : AV} {st : List AV} (h1 : ab_ok E v) (h2 : ∀ v ∈ st, ab_ok E v) : ∀ u ∈ v :: st, ab_ok E u := List.forall_mem_cons.mpr ⟨h1, h2⟩
theorem oks {E : En} {v : AV} {st : List AV} (h : ∀ u ∈ v :: st, ab_ok E u) : ab_ok E v ∧ ∀ u ∈ st, ab_ok E u := List.forall_mem_cons.mp h
theorem lcm_lt {x y : Int64} : lg_cmp x y < 0 ↔ x < y := by
  unfold lg_cmp
  simp only [gt_iff_lt, Int64.lt_iff_toInt_lt, Int64.le_iff_toInt_le, ← Int64.toInt_inj]
  repeat' split
  all_goals (constructor <;> intro hh <;> first | omega | decide | exact absurd hh (by decide))
theorem lcm_ge {x y : Int64} : 0 ≤ lg_cmp x y ↔ y ≤ x := by
  unfold lg_cmp
  simp only [gt_iff_lt, Int64.lt_iff_toInt_lt, Int64.le_iff_toInt_le, ← Int64.toInt_inj]
  repeat' split
  all_goals (constructor <;> intro hh <;> first | omega | decide | exact absurd hh (by decide))
theorem lcm_gt {x y : Int64} : 0 < lg_cmp x y ↔ y < x := by
  unfold lg_cmp
  simp only [gt_iff_lt, Int64.lt_iff_toInt_lt, Int64.le_iff_toInt_le, ← Int64.toInt_inj]
  repeat' split
  all_goals (constructor <;> intro hh <;> first | omega | decide | exact absurd hh (by decide))
theorem lcm_le {x y : Int64} : lg_cmp x y ≤ 0 ↔ x ≤ y := by
  unfold lg_cmp
  simp only [gt_iff_lt, Int64.lt_iff_toInt_lt, Int64.le_iff_toInt_le, ← Int64.toInt_inj]
  repeat' split
  all_goals (constructor <;> intro hh <;> first | omega | decide | exact absurd hh (by decide))
theorem lcm_eq {x y : Int64} : lg_cmp x y = 0 ↔ x = y := by
  unfold lg_cmp
  simp only [gt_iff_lt, Int64.lt_iff_toInt_lt, Int64.le_iff_toInt_le, ← Int64.toInt_inj]
  repeat' split
  all_goals (constructor <;> intro hh <;> first | omega | decide | exact absurd hh (by decide))
section RW
variable {E : En} {b : Bn} {Q : State → Prop} {nL pc : Nat} {ls : List (Nat × AV)} {st : List AV} {s : Mem} {cc : ByteArray} {own : String} {ret : Option FieldType} {d : Nat}
theorem x_sub {ls' : List (Nat × AV)} (h : ∀ q ∈ ls', q ∈ ls) (k : ab_X E b Q nL pc ls' st s) : ab_X E b Q nL pc ls st s := by
  obtain ⟨p, l, e, R, s0, m, args, below, meth, c, cells, slots⟩ := b
  intro H locs a hR hS hl ho hs
  refine k H locs a hR hS ⟨hl.1, hl.2.1, fun q hq => ?_⟩ (fun q hq => ho q (h q hq)) hs
  obtain ⟨q', h1, rfl⟩ := List.mem_map.mp hq
  exact hl.2.2 _ (List.mem_map.mpr ⟨q', h q' h1, rfl⟩)
theorem x_eq {st' : List AV} {s' : Mem} (h : st' = st) (h2 : s' = s) (k : ab_X E b Q nL pc ls st' s') : ab_X E b Q nL pc ls st s := by subst h; subst h2; exact k
/-- the range of a value on top -/
theorem x_top {x : Int} (k : r32 x → ab_X E b Q nL pc ls (vI x :: st) s) : ab_X E b Q nL pc ls (vI x :: st) s := by
  obtain ⟨p, l, e, R, s0, m, args, below, meth, c, cells, slots⟩ := b
  intro H locs a hR hS hl ho hs
  exact k (oks hs).1 H locs a hR hS hl ho hs
theorem x_topL {x : Int} (k : r64 x → ab_X E b Q nL pc ls (vL x :: st) s) : ab_X E b Q nL pc ls (vL x :: st) s := by
  obtain ⟨p, l, e, R, s0, m, args, below, meth, c, cells, slots⟩ := b
  intro H locs a hR hS hl ho hs
  exact k (oks hs).1 H locs a hR hS hl ho hs
theorem ls_at {a : Array Slot} (hl : lv_has a nL (ls.map (ab_c2 E))) {j i : Nat} {v : AV} (h : ls[j]? = some (i, v)) : a[i]? = some (.val (ab_c E v)) :=
  hl.2.2 (i, ab_c E v) (List.mem_map.mpr ⟨(i, v), List.mem_of_getElem? h, rfl⟩)
theorem x_iconst (G : ab_G E b cc nL own ret d) {x : Int} (hd : decode cc pc = .ok (.iconst x, 1)) (hr : -2147483648 ≤ x ∧ x < 2147483648) (k : ab_X E b Q nL (pc + 1) ls (vI x :: st) s) : ab_X E b Q nL pc ls st s := by
  obtain ⟨p, l, e, R, s0, m, args, below, meth, c, cells, slots⟩ := b
  intro H locs a hR hS hl ho hs
  exact lv_iconst G.1 G.2.1 hd rfl (k H locs a hR hS hl ho (okc hr hs))
theorem x_bipush (G : ab_G E b cc nL own ret d) {x : Int} (hd : decode cc pc = .ok (.bipush x, 2)) (hv : (Int8.ofInt x).toInt32 = Int32.ofInt x) (hr : -2147483648 ≤ x ∧ x < 2147483648) (k : ab_X E b Q nL (pc + 2) ls (vI x :: st) s) : ab_X E b Q nL pc ls st s := by
  obtain ⟨p, l, e, R, s0, m, args, below, meth, c, cells, slots⟩ := b
  intro H locs a hR hS hl ho hs
  exact lv_bipush G.1 G.2.1 hd hv (k H locs a hR hS hl ho (okc hr hs))
theorem x_sipush (G : ab_G E b cc nL own ret d) {x : Int} (hd : decode cc pc = .ok (.sipush x, 3)) (hv : (Int16.ofInt x).toInt32 = Int32.ofInt x) (hr : -2147483648 ≤ x ∧ x < 2147483648) (k : ab_X E b Q nL (pc + 3) ls (vI x :: st) s) : ab_X E b Q nL pc ls st s := by
  obtain ⟨p, l, e, R, s0, m, args, below, meth, c, cells, slots⟩ := b
  intro H locs a hR hS hl ho hs
  exact lv_sipush G.1 G.2.1 hd hv (k H locs a hR hS hl ho (okc hr hs))
theorem x_lconst (G : ab_G E b cc nL own ret d) {n : Fin 2} {x : Int} (hd : decode cc pc = .ok (.lconst n, 1)) (hv : Int64.ofNat (n : Nat) = Int64.ofInt x) (hr : -9223372036854775808 ≤ x ∧ x < 9223372036854775808) (k : ab_X E b Q nL (pc + 1) ls (vL x :: st) s) : ab_X E b Q nL pc ls st s := by
  obtain ⟨p, l, e, R, s0, m, args, below, meth, c, cells, slots⟩ := b
  intro H locs a hR hS hl ho hs
  exact lv_lconst G.1 G.2.1 hd hv (k H locs a hR hS hl ho (okc hr hs))
theorem x_ldc (G : ab_G E b cc nL own ret d) {i : Nat} {v : Int32} {x : Int} (hw : Cond.constant own i v ∈ ab_TW) (hd : decode cc pc = .ok (.ldc i, 2)) (hv : v = Int32.ofInt x) (hr : -2147483648 ≤ x ∧ x < 2147483648) (k : ab_X E b Q nL (pc + 2) ls (vI x :: st) s) : ab_X E b Q nL pc ls st s := by
  obtain ⟨p, l, e, R, s0, m, args, below, meth, c, cells, slots⟩ := b
  intro H locs a hR hS hl ho hs
  subst hv
  exact lv_ldc G.1 G.2.1 G.2.2.2.1 (G.2.2.2.2.1.1.use args _ hw) hd (k H locs a hR hS hl ho (okc hr hs))
theorem x_ldc2 (G : ab_G E b cc nL own ret d) {i : Nat} {v : Int64} {x : Int} (hw : Cond.constantLong own i v ∈ ab_TW) (hd : decode cc pc = .ok (.ldc2_w i, 3)) (hv : v = Int64.ofInt x) (hr : -9223372036854775808 ≤ x ∧ x < 9223372036854775808) (k : ab_X E b Q nL (pc + 3) ls (vL x :: st) s) : ab_X E b Q nL pc ls st s := by
  obtain ⟨p, l, e, R, s0, m, args, below, meth, c, cells, slots⟩ := b
  intro H locs a hR hS hl ho hs
  subst hv
  exact lv_ldc2 G.1 G.2.1 G.2.2.2.1 (G.2.2.2.2.1.1.use args _ hw) hd (k H locs a hR hS hl ho (okc hr hs))
theorem x_iload_n (G : ab_G E b cc nL own ret d) {i : Fin 4} {x : Int} {j i' : Nat} (hd : decode cc pc = .ok (.iload_n i, 1)) (hi : (i : Nat) = i') (hj : ls[j]? = some (i', vI x)) (k : ab_X E b Q nL (pc + 1) ls (vI x :: st) s) : ab_X E b Q nL pc ls st s := by
  obtain ⟨p, l, e, R, s0, m, args, below, meth, c, cells, slots⟩ := b
  intro H locs a hR hS hl ho hs
  exact lv_iload_n G.1 G.2.1 hd hi (ls_at hl hj) (k H locs a hR hS hl ho (okc (ho _ (List.mem_of_getElem? hj)) hs))
theorem x_iload (G : ab_G E b cc nL own ret d) {i : Nat} {x : Int} {j : Nat} (hd : decode cc pc = .ok (.iload i, 2)) (hj : ls[j]? = some (i, vI x)) (k : ab_X E b Q nL (pc + 2) ls (vI x :: st) s) : ab_X E b Q nL pc ls st s := by
  obtain ⟨p, l, e, R, s0, m, args, below, meth, c, cells, slots⟩ := b
  intro H locs a hR hS hl ho hs
  exact lv_iload G.1 G.2.1 hd (ls_at hl hj) (k H locs a hR hS hl ho (okc (ho _ (List.mem_of_getElem? hj)) hs))
theorem x_lload_n (G : ab_G E b cc nL own ret d) {i : Fin 4} {x : Int} {j i' : Nat} (hd : decode cc pc = .ok (.lload_n i, 1)) (hi : (i : Nat) = i') (hj : ls[j]? = some (i', vL x)) (k : ab_X E b Q nL (pc + 1) ls (vL x :: st) s) : ab_X E b Q nL pc ls st s := by
  obtain ⟨p, l, e, R, s0, m, args, below, meth, c, cells, slots⟩ := b
  intro H locs a hR hS hl ho hs
  exact lv_lload_n G.1 G.2.1 hd hi (ls_at hl hj) (k H locs a hR hS hl ho (okc (ho _ (List.mem_of_getElem? hj)) hs))
theorem x_lload (G : ab_G E b cc nL own ret d) {i : Nat} {x : Int} {j : Nat} (hd : decode cc pc = .ok (.lload i, 2)) (hj : ls[j]? = some (i, vL x)) (k : ab_X E b Q nL (pc + 2) ls (vL x :: st) s) : ab_X E b Q nL pc ls st s := by
  obtain ⟨p, l, e, R, s0, m, args, below, meth, c, cells, slots⟩ := b
  intro H locs a hR hS hl ho hs
  exact lv_lload G.1 G.2.1 hd (ls_at hl hj) (k H locs a hR hS hl ho (okc (ho _ (List.mem_of_getElem? hj)) hs))
theorem x_aload_n (G : ab_G E b cc nL own ret d) {i : Fin 4} {x : Nat} {j i' : Nat} (hd : decode cc pc = .ok (.aload_n i, 1)) (hi : (i : Nat) = i') (hj : ls[j]? = some (i', vR x)) (k : ab_X E b Q nL (pc + 1) ls (vR x :: st) s) : ab_X E b Q nL pc ls st s := by
  obtain ⟨p, l, e, R, s0, m, args, below, meth, c, cells, slots⟩ := b
  intro H locs a hR hS hl ho hs
  exact lv_aload_n G.1 G.2.1 hd hi (ls_at hl hj) (k H locs a hR hS hl ho (okc (ho _ (List.mem_of_getElem? hj)) hs))
theorem x_aload (G : ab_G E b cc nL own ret d) {i : Nat} {x : Nat} {j : Nat} (hd : decode cc pc = .ok (.aload i, 2)) (hj : ls[j]? = some (i, vR x)) (k : ab_X E b Q nL (pc + 2) ls (vR x :: st) s) : ab_X E b Q nL pc ls st s := by
  obtain ⟨p, l, e, R, s0, m, args, below, meth, c, cells, slots⟩ := b
  intro H locs a hR hS hl ho hs
  exact lv_aload G.1 G.2.1 hd (ls_at hl hj) (k H locs a hR hS hl ho (okc (ho _ (List.mem_of_getElem? hj)) hs))
/-- a store of one word; of two -/
def ls_st1 (i : Nat) (v : AV) (ls : List (Nat × AV)) : List (Nat × AV) := (i, v) :: ls.filter (fun q => !(q.1 == i) && !(q.1 + 1 == i && ab_cat q.2 == 2))
def ls_st2 (i : Nat) (v : AV) (ls : List (Nat × AV)) : List (Nat × AV) := (i, v) :: ls.filter (fun q => !(q.1 == i) && (!(q.1 == i + 1) && !(q.1 + 1 == i && ab_cat q.2 == 2)))
theorem ls_m1 (E : En) (i : Nat) (v : AV) (ls : List (Nat × AV)) : (i, ab_c E v) :: (ls.map (ab_c2 E)).filter (fun q => !(q.1 == i) && !(q.1 + 1 == i && q.2.category == 2)) = (ls_st1 i v ls).map (ab_c2 E) := by
  unfold ls_st1
  rw [List.map_cons, List.filter_map]
  congr 2
  apply List.filter_congr
  intro q _
  simp only [Function.comp, ab_cat_c]
theorem ls_m2 (E : En) (i : Nat) (v : AV) (ls : List (Nat × AV)) : (i, ab_c E v) :: (ls.map (ab_c2 E)).filter (fun q => !(q.1 == i) && (!(q.1 == i + 1) && !(q.1 + 1 == i && q.2.category == 2))) = (ls_st2 i v ls).map (ab_c2 E) := by
  unfold ls_st2
  rw [List.map_cons, List.filter_map]
  congr 2
  apply List.filter_congr
  intro q _
  simp only [Function.comp, ab_cat_c]
theorem ls_o1 {i : Nat} {v : AV} (h : ab_ok E v) (ho : ∀ q ∈ ls, ab_ok E q.2) : ∀ q ∈ ls_st1 i v ls, ab_ok E q.2 := by
  intro q hq
  rcases List.mem_cons.mp hq with rfl | hq
  · exact h
  · exact ho q (List.mem_filter.mp hq).1
theorem ls_o2 {i : Nat} {v : AV} (h : ab_ok E v) (ho : ∀ q ∈ ls, ab_ok E q.2) : ∀ q ∈ ls_st2 i v ls, ab_ok E q.2 := by
  intro q hq
  rcases List.mem_cons.mp hq with rfl | hq
  · exact h
  · exact ho q (List.mem_filter.mp hq).1
theorem x_istore_n (G : ab_G E b cc nL own ret d) {i : Fin 4} {x : Int} {i' : Nat} {ls' : List (Nat × AV)} (hd : decode cc pc = .ok (.istore_n i, 1)) (hi : (i : Nat) = i') (hn : i' < nL) (hl' : ls_st1 i' (vI x) ls = ls') (k : ab_X E b Q nL (pc + 1) ls' st s) : ab_X E b Q nL pc ls (vI x :: st) s := by
  obtain ⟨p, l, e, R, s0, m, args, below, meth, c, cells, slots⟩ := b
  intro H locs a hR hS hl ho hs
  subst hl'
  exact lv_istore_n G.1 G.2.1 hd hi hl hn (ls_m1 E i' (vI x) ls) (fun a' hl' => k H locs a' hR hS hl' (ls_o1 (oks hs).1 ho) (oks hs).2)
theorem x_istore (G : ab_G E b cc nL own ret d) {i : Nat} {x : Int} {ls' : List (Nat × AV)} (hd : decode cc pc = .ok (.istore i, 2)) (hn : i < nL) (hl' : ls_st1 i (vI x) ls = ls') (k : ab_X E b Q nL (pc + 2) ls' st s) : ab_X E b Q nL pc ls (vI x :: st) s := by
  obtain ⟨p, l, e, R, s0, m, args, below, meth, c, cells, slots⟩ := b
  intro H locs a hR hS hl ho hs
  subst hl'
  exact lv_istore G.1 G.2.1 hd hl hn (ls_m1 E i (vI x) ls) (fun a' hl' => k H locs a' hR hS hl' (ls_o1 (oks hs).1 ho) (oks hs).2)
theorem x_astore_n (G : ab_G E b cc nL own ret d) {i : Fin 4} {x : Nat} {i' : Nat} {ls' : List (Nat × AV)} (hd : decode cc pc = .ok (.astore_n i, 1)) (hi : (i : Nat) = i') (hn : i' < nL) (hl' : ls_st1 i' (vR x) ls = ls') (k : ab_X E b Q nL (pc + 1) ls' st s) : ab_X E b Q nL pc ls (vR x :: st) s := by
  obtain ⟨p, l, e, R, s0, m, args, below, meth, c, cells, slots⟩ := b
  intro H locs a hR hS hl ho hs
  subst hl'
  exact lv_astore_n G.1 G.2.1 hd hi hl hn (ls_m1 E i' (vR x) ls) (fun a' hl' => k H locs a' hR hS hl' (ls_o1 (oks hs).1 ho) (oks hs).2)
theorem x_astore (G : ab_G E b cc nL own ret d) {i : Nat} {x : Nat} {ls' : List (Nat × AV)} (hd : decode cc pc = .ok (.astore i, 2)) (hn : i < nL) (hl' : ls_st1 i (vR x) ls = ls') (k : ab_X E b Q nL (pc + 2) ls' st s) : ab_X E b Q nL pc ls (vR x :: st) s := by
  obtain ⟨p, l, e, R, s0, m, args, below, meth, c, cells, slots⟩ := b
  intro H locs a hR hS hl ho hs
  subst hl'
  exact lv_astore G.1 G.2.1 hd hl hn (ls_m1 E i (vR x) ls) (fun a' hl' => k H locs a' hR hS hl' (ls_o1 (oks hs).1 ho) (oks hs).2)
theorem x_lstore_n (G : ab_G E b cc nL own ret d) {i : Fin 4} {x : Int} {i' : Nat} {ls' : List (Nat × AV)} (hd : decode cc pc = .ok (.lstore_n i, 1)) (hi : (i : Nat) = i') (hn : i' + 1 < nL) (hl' : ls_st2 i' (vL x) ls = ls') (k : ab_X E b Q nL (pc + 1) ls' st s) : ab_X E b Q nL pc ls (vL x :: st) s := by
  obtain ⟨p, l, e, R, s0, m, args, below, meth, c, cells, slots⟩ := b
  intro H locs a hR hS hl ho hs
  subst hl'
  exact lv_lstore_n G.1 G.2.1 hd hi hl hn (ls_m2 E i' (vL x) ls) (fun a' hl' => k H locs a' hR hS hl' (ls_o2 (oks hs).1 ho) (oks hs).2)
theorem x_lstore (G : ab_G E b cc nL own ret d) {i : Nat} {x : Int} {ls' : List (Nat × AV)} (hd : decode cc pc = .ok (.lstore i, 2)) (hn : i + 1 < nL) (hl' : ls_st2 i (vL x) ls = ls') (k : ab_X E b Q nL (pc + 2) ls' st s) : ab_X E b Q nL pc ls (vL x :: st) s := by
  obtain ⟨p, l, e, R, s0, m, args, below, meth, c, cells, slots⟩ := b
  intro H locs a hR hS hl ho hs
  subst hl'
  exact lv_lstore G.1 G.2.1 hd hl hn (ls_m2 E i (vL x) ls) (fun a' hl' => k H locs a' hR hS hl' (ls_o2 (oks hs).1 ho) (oks hs).2)
theorem x_iinc (G : ab_G E b cc nL own ret d) {i j : Nat} {n x : Int} {ls' : List (Nat × AV)} (hd : decode cc pc = .ok (.iinc i n, 3)) (hj : ls[j]? = some (i, vI x)) (hn : i < nL) (hl' : ls_st1 i (vI (w32 (x + n))) ls = ls') (k : ab_X E b Q nL (pc + 3) ls' st s) : ab_X E b Q nL pc ls st s := by
  obtain ⟨p, l, e, R, s0, m, args, below, meth, c, cells, slots⟩ := b
  intro H locs a hR hS hl ho hs
  subst hl'
  exact lv_iinc (k := j) G.1 G.2.1 hd hl (by rw [List.getElem?_map, hj]; rfl) (oi_add x n) hn (ls_m1 E i (vI (w32 (x + n))) ls) (fun a' hl' => k H locs a' hR hS hl' (ls_o1 (r32_w _) ho) hs)
theorem x_iadd (G : ab_G E b cc nL own ret d) {x y : Int} (hd : decode cc pc = .ok (.iadd, 1)) (k : ab_X E b Q nL (pc + 1) ls (vI (w32 (x + y)) :: st) s) : ab_X E b Q nL pc ls (vI y :: vI x :: st) s := by
  obtain ⟨p, l, e, R, s0, m, args, below, meth, c, cells, slots⟩ := b
  intro H locs a hR hS hl ho hs
  exact lv_iadd G.1 G.2.1 hd (by rw [oi_add]; exact k H locs a hR hS hl ho (okc (r32_w _) (oks (oks hs).2).2))
theorem x_isub (G : ab_G E b cc nL own ret d) {x y : Int} (hd : decode cc pc = .ok (.isub, 1)) (k : ab_X E b Q nL (pc + 1) ls (vI (w32 (x - y)) :: st) s) : ab_X E b Q nL pc ls (vI y :: vI x :: st) s := by
  obtain ⟨p, l, e, R, s0, m, args, below, meth, c, cells, slots⟩ := b
  intro H locs a hR hS hl ho hs
  exact lv_isub G.1 G.2.1 hd (by rw [oi_sub]; exact k H locs a hR hS hl ho (okc (r32_w _) (oks (oks hs).2).2))
theorem x_imul (G : ab_G E b cc nL own ret d) {x y : Int} (hd : decode cc pc = .ok (.imul, 1)) (k : ab_X E b Q nL (pc + 1) ls (vI (w32 (x * y)) :: st) s) : ab_X E b Q nL pc ls (vI y :: vI x :: st) s := by
  obtain ⟨p, l, e, R, s0, m, args, below, meth, c, cells, slots⟩ := b
  intro H locs a hR hS hl ho hs
  exact lv_imul G.1 G.2.1 hd (by rw [oi_mul]; exact k H locs a hR hS hl ho (okc (r32_w _) (oks (oks hs).2).2))
theorem x_idiv (G : ab_G E b cc nL own ret d) {x y : Int} (hd : decode cc pc = .ok (.idiv, 1)) (hy : y ≠ 0) (k : ab_X E b Q nL (pc + 1) ls (vI (w32 (x.tdiv y)) :: st) s) : ab_X E b Q nL pc ls (vI y :: vI x :: st) s := by
  obtain ⟨p, l, e, R, s0, m, args, below, meth, c, cells, slots⟩ := b
  intro H locs a hR hS hl ho hs
  have hy2 := (oks hs).1
  have hx2 := (oks (oks hs).2).1
  exact lv_idiv G.1 G.2.1 hd (by rw [oi_0, oi_eq hy2 (by unfold r32; omega)]; exact hy) (by rw [oi_div hx2 hy2]; exact k H locs a hR hS hl ho (okc (r32_w _) (oks (oks hs).2).2))
theorem x_iand (G : ab_G E b cc nL own ret d) {x y : Int} (hd : decode cc pc = .ok (.iand, 1)) (k : ab_X E b Q nL (pc + 1) ls (vI (andI x y) :: st) s) : ab_X E b Q nL pc ls (vI y :: vI x :: st) s := by
  obtain ⟨p, l, e, R, s0, m, args, below, meth, c, cells, slots⟩ := b
  intro H locs a hR hS hl ho hs
  exact lv_iand G.1 G.2.1 hd (by rw [oi_of (Int32.ofInt x &&& Int32.ofInt y) rfl]; exact k H locs a hR hS hl ho (okc (oi_rt _) (oks (oks hs).2).2))
theorem x_ior (G : ab_G E b cc nL own ret d) {x y : Int} (hd : decode cc pc = .ok (.ior, 1)) (k : ab_X E b Q nL (pc + 1) ls (vI (orI x y) :: st) s) : ab_X E b Q nL pc ls (vI y :: vI x :: st) s := by
  obtain ⟨p, l, e, R, s0, m, args, below, meth, c, cells, slots⟩ := b
  intro H locs a hR hS hl ho hs
  exact lv_ior G.1 G.2.1 hd (by rw [oi_of (Int32.ofInt x ||| Int32.ofInt y) rfl]; exact k H locs a hR hS hl ho (okc (oi_rt _) (oks (oks hs).2).2))
theorem x_ishl (G : ab_G E b cc nL own ret d) {x y : Int} (hd : decode cc pc = .ok (.ishl, 1)) (k : ab_X E b Q nL (pc + 1) ls (vI (shlI x y) :: st) s) : ab_X E b Q nL pc ls (vI y :: vI x :: st) s := by
  obtain ⟨p, l, e, R, s0, m, args, below, meth, c, cells, slots⟩ := b
  intro H locs a hR hS hl ho hs
  exact lv_ishl G.1 G.2.1 hd (by rw [oi_of (Int32.ofInt x <<< (Int32.ofInt y &&& 31)) rfl]; exact k H locs a hR hS hl ho (okc (oi_rt _) (oks (oks hs).2).2))
theorem x_ishr (G : ab_G E b cc nL own ret d) {x y : Int} (hd : decode cc pc = .ok (.ishr, 1)) (k : ab_X E b Q nL (pc + 1) ls (vI (shrI x y) :: st) s) : ab_X E b Q nL pc ls (vI y :: vI x :: st) s := by
  obtain ⟨p, l, e, R, s0, m, args, below, meth, c, cells, slots⟩ := b
  intro H locs a hR hS hl ho hs
  exact lv_ishr G.1 G.2.1 hd (by rw [oi_of (Int32.ofInt x >>> (Int32.ofInt y &&& 31)) rfl]; exact k H locs a hR hS hl ho (okc (oi_rt _) (oks (oks hs).2).2))
theorem x_ladd (G : ab_G E b cc nL own ret d) {x y : Int} (hd : decode cc pc = .ok (.ladd, 1)) (k : ab_X E b Q nL (pc + 1) ls (vL (w64 (x + y)) :: st) s) : ab_X E b Q nL pc ls (vL y :: vL x :: st) s := by
  obtain ⟨p, l, e, R, s0, m, args, below, meth, c, cells, slots⟩ := b
  intro H locs a hR hS hl ho hs
  exact lv_ladd G.1 G.2.1 hd (by rw [ol_add]; exact k H locs a hR hS hl ho (okc (r64_w _) (oks (oks hs).2).2))
theorem x_lsub (G : ab_G E b cc nL own ret d) {x y : Int} (hd : decode cc pc = .ok (.lsub, 1)) (k : ab_X E b Q nL (pc + 1) ls (vL (w64 (x - y)) :: st) s) : ab_X E b Q nL pc ls (vL y :: vL x :: st) s := by
  obtain ⟨p, l, e, R, s0, m, args, below, meth, c, cells, slots⟩ := b
  intro H locs a hR hS hl ho hs
  exact lv_lsub G.1 G.2.1 hd (by rw [ol_sub]; exact k H locs a hR hS hl ho (okc (r64_w _) (oks (oks hs).2).2))
theorem x_lmul (G : ab_G E b cc nL own ret d) {x y : Int} (hd : decode cc pc = .ok (.lmul, 1)) (k : ab_X E b Q nL (pc + 1) ls (vL (w64 (x * y)) :: st) s) : ab_X E b Q nL pc ls (vL y :: vL x :: st) s := by
  obtain ⟨p, l, e, R, s0, m, args, below, meth, c, cells, slots⟩ := b
  intro H locs a hR hS hl ho hs
  exact lv_lmul G.1 G.2.1 hd (by rw [ol_mul]; exact k H locs a hR hS hl ho (okc (r64_w _) (oks (oks hs).2).2))
theorem x_ldiv (G : ab_G E b cc nL own ret d) {x y : Int} (hd : decode cc pc = .ok (.ldiv, 1)) (hy : y ≠ 0) (k : ab_X E b Q nL (pc + 1) ls (vL (w64 (x.tdiv y)) :: st) s) : ab_X E b Q nL pc ls (vL y :: vL x :: st) s := by
  obtain ⟨p, l, e, R, s0, m, args, below, meth, c, cells, slots⟩ := b
  intro H locs a hR hS hl ho hs
  have hy2 := (oks hs).1
  have hx2 := (oks (oks hs).2).1
  exact lv_ldiv G.1 G.2.1 hd (by rw [show (0 : Int64) = Int64.ofInt 0 by decide, ol_eq hy2 (by unfold r64; omega)]; exact hy) (by rw [ol_div hx2 hy2]; exact k H locs a hR hS hl ho (okc (r64_w _) (oks (oks hs).2).2))
theorem x_lrem (G : ab_G E b cc nL own ret d) {x y : Int} (hd : decode cc pc = .ok (.lrem, 1)) (hy : y ≠ 0) (k : ab_X E b Q nL (pc + 1) ls (vL (w64 (x - w64 (w64 (x.tdiv y) * y))) :: st) s) : ab_X E b Q nL pc ls (vL y :: vL x :: st) s := by
  obtain ⟨p, l, e, R, s0, m, args, below, meth, c, cells, slots⟩ := b
  intro H locs a hR hS hl ho hs
  have hy2 := (oks hs).1
  have hx2 := (oks (oks hs).2).1
  exact lv_lrem G.1 G.2.1 hd (by rw [show (0 : Int64) = Int64.ofInt 0 by decide, ol_eq hy2 (by unfold r64; omega)]; exact hy) (by rw [ol_rem hx2 hy2]; exact k H locs a hR hS hl ho (okc (r64_w _) (oks (oks hs).2).2))
theorem x_land (G : ab_G E b cc nL own ret d) {x y : Int} (hd : decode cc pc = .ok (.land, 1)) (k : ab_X E b Q nL (pc + 1) ls (vL (andL x y) :: st) s) : ab_X E b Q nL pc ls (vL y :: vL x :: st) s := by
  obtain ⟨p, l, e, R, s0, m, args, below, meth, c, cells, slots⟩ := b
  intro H locs a hR hS hl ho hs
  exact lv_land G.1 G.2.1 hd (by rw [ol_of (Int64.ofInt x &&& Int64.ofInt y) rfl]; exact k H locs a hR hS hl ho (okc (ol_rt _) (oks (oks hs).2).2))
theorem x_lor (G : ab_G E b cc nL own ret d) {x y : Int} (hd : decode cc pc = .ok (.lor, 1)) (k : ab_X E b Q nL (pc + 1) ls (vL (orL x y) :: st) s) : ab_X E b Q nL pc ls (vL y :: vL x :: st) s := by
  obtain ⟨p, l, e, R, s0, m, args, below, meth, c, cells, slots⟩ := b
  intro H locs a hR hS hl ho hs
  exact lv_lor G.1 G.2.1 hd (by rw [ol_of (Int64.ofInt x ||| Int64.ofInt y) rfl]; exact k H locs a hR hS hl ho (okc (ol_rt _) (oks (oks hs).2).2))
theorem x_lshl (G : ab_G E b cc nL own ret d) {x y : Int} (hd : decode cc pc = .ok (.lshl, 1)) (k : ab_X E b Q nL (pc + 1) ls (vL (shlL x y) :: st) s) : ab_X E b Q nL pc ls (vI y :: vL x :: st) s := by
  obtain ⟨p, l, e, R, s0, m, args, below, meth, c, cells, slots⟩ := b
  intro H locs a hR hS hl ho hs
  exact lv_lshl G.1 G.2.1 hd (ol_of _ rfl) (k H locs a hR hS hl ho (okc (ol_rt _) (oks (oks hs).2).2))
theorem x_lshr (G : ab_G E b cc nL own ret d) {x y : Int} (hd : decode cc pc = .ok (.lshr, 1)) (k : ab_X E b Q nL (pc + 1) ls (vL (shrL x y) :: st) s) : ab_X E b Q nL pc ls (vI y :: vL x :: st) s := by
  obtain ⟨p, l, e, R, s0, m, args, below, meth, c, cells, slots⟩ := b
  intro H locs a hR hS hl ho hs
  exact lv_lshr G.1 G.2.1 hd (ol_of _ rfl) (k H locs a hR hS hl ho (okc (ol_rt _) (oks (oks hs).2).2))
theorem x_lushr (G : ab_G E b cc nL own ret d) {x y : Int} (hd : decode cc pc = .ok (.lushr, 1)) (k : ab_X E b Q nL (pc + 1) ls (vL (ushrL x y) :: st) s) : ab_X E b Q nL pc ls (vI y :: vL x :: st) s := by
  obtain ⟨p, l, e, R, s0, m, args, below, meth, c, cells, slots⟩ := b
  intro H locs a hR hS hl ho hs
  exact lv_lushr G.1 G.2.1 hd (ol_of _ rfl) (k H locs a hR hS hl ho (okc (ol_rt _) (oks (oks hs).2).2))
theorem x_i2l (G : ab_G E b cc nL own ret d) {x : Int} (hd : decode cc pc = .ok (.i2l, 1)) (k : ab_X E b Q nL (pc + 1) ls (vL x :: st) s) : ab_X E b Q nL pc ls (vI x :: st) s := by
  obtain ⟨p, l, e, R, s0, m, args, below, meth, c, cells, slots⟩ := b
  intro H locs a hR hS hl ho hs
  exact lv_i2l G.1 G.2.1 hd (oi_i2l (oks hs).1) (k H locs a hR hS hl ho (okc (r64_of (oks hs).1) (oks hs).2))
theorem x_l2i (G : ab_G E b cc nL own ret d) {x : Int} (hd : decode cc pc = .ok (.l2i, 1)) (k : ab_X E b Q nL (pc + 1) ls (vI (w32 x) :: st) s) : ab_X E b Q nL pc ls (vL x :: st) s := by
  obtain ⟨p, l, e, R, s0, m, args, below, meth, c, cells, slots⟩ := b
  intro H locs a hR hS hl ho hs
  exact lv_l2i G.1 G.2.1 hd (ol_l2i x) (k H locs a hR hS hl ho (okc (r32_w _) (oks hs).2))
theorem r32_w8 (x : Int) : r32 (w8 x) := by unfold r32 w8; omega
theorem x_i2b (G : ab_G E b cc nL own ret d) {x : Int} (hd : decode cc pc = .ok (.i2b, 1)) (k : ab_X E b Q nL (pc + 1) ls (vI (w8 x) :: st) s) : ab_X E b Q nL pc ls (vI x :: st) s := by
  obtain ⟨p, l, e, R, s0, m, args, below, meth, c, cells, slots⟩ := b
  intro H locs a hR hS hl ho hs
  exact lv_i2b G.1 G.2.1 hd (oi_i2b x) (k H locs a hR hS hl ho (okc (r32_w8 _) (oks hs).2))
theorem x_dup (G : ab_G E b cc nL own ret d) {v : AV} (hd : decode cc pc = .ok (.dup, 1)) (hv : ab_cat v = 1) (k : ab_X E b Q nL (pc + 1) ls (v :: v :: st) s) : ab_X E b Q nL pc ls (v :: st) s := by
  obtain ⟨p, l, e, R, s0, m, args, below, meth, c, cells, slots⟩ := b
  intro H locs a hR hS hl ho hs
  exact lv_dup G.1 G.2.1 hd (by rw [ab_cat_c]; exact hv) (k H locs a hR hS hl ho (okc (oks hs).1 hs))
theorem x_dup2 (G : ab_G E b cc nL own ret d) {v u : AV} (hd : decode cc pc = .ok (.dup2, 1)) (hv : ab_cat v = 1) (hu : ab_cat u = 1) (k : ab_X E b Q nL (pc + 1) ls (v :: u :: v :: u :: st) s) : ab_X E b Q nL pc ls (v :: u :: st) s := by
  obtain ⟨p, l, e, R, s0, m, args, below, meth, c, cells, slots⟩ := b
  intro H locs a hR hS hl ho hs
  exact lv_dup2_11 G.1 G.2.1 hd (by rw [ab_cat_c]; exact hv) (by rw [ab_cat_c]; exact hu) (k H locs a hR hS hl ho (okc (oks hs).1 (okc (oks (oks hs).2).1 hs)))
theorem x_pop (G : ab_G E b cc nL own ret d) {v : AV} (hd : decode cc pc = .ok (.pop, 1)) (hv : ab_cat v = 1) (k : ab_X E b Q nL (pc + 1) ls st s) : ab_X E b Q nL pc ls (v :: st) s := by
  obtain ⟨p, l, e, R, s0, m, args, below, meth, c, cells, slots⟩ := b
  intro H locs a hR hS hl ho hs
  exact lv_pop G.1 G.2.1 hd (by rw [ab_cat_c]; exact hv) (k H locs a hR hS hl ho (oks hs).2)
theorem x_pop2 (G : ab_G E b cc nL own ret d) {v : AV} (hd : decode cc pc = .ok (.pop2, 1)) (hv : ab_cat v = 2) (k : ab_X E b Q nL (pc + 1) ls st s) : ab_X E b Q nL pc ls (v :: st) s := by
  obtain ⟨p, l, e, R, s0, m, args, below, meth, c, cells, slots⟩ := b
  intro H locs a hR hS hl ho hs
  exact lv_pop2_2 G.1 G.2.1 hd (by rw [ab_cat_c]; exact hv) (k H locs a hR hS hl ho (oks hs).2)
theorem x_goto (G : ab_G E b cc nL own ret d) {off : Int} {tgt : Nat} (hd : decode cc pc = .ok (.goto off, 3)) (ht : (pc : Int) + off = (tgt : Int)) (k : ab_X E b Q nL tgt ls st s) : ab_X E b Q nL pc ls st s := by
  obtain ⟨p, l, e, R, s0, m, args, below, meth, c, cells, slots⟩ := b
  intro H locs a hR hS hl ho hs
  exact lv_goto G.1 G.2.1 hd ht (k H locs a hR hS hl ho hs)
theorem x_icmp_lt (G : ab_G E b cc nL own ret d) {x y : Int} {off : Int} {tgt : Nat} (hd : decode cc pc = .ok (.if_icmp .lt off, 3)) (ht : (pc : Int) + off = (tgt : Int)) (kt : x < y → ab_X E b Q nL tgt ls st s) (kf : (¬ x < y) → ab_X E b Q nL (pc + 3) ls st s) : ab_X E b Q nL pc ls (vI y :: vI x :: st) s := by
  obtain ⟨p, l, e, R, s0, m, args, below, meth, c, cells, slots⟩ := b
  intro H locs a hR hS hl ho hs
  have hy := (oks hs).1
  have hx := (oks (oks hs).2).1
  have hs2 := (oks (oks hs).2).2
  exact lv_icmp_lt G.1 G.2.1 hd ht (fun q => kt ((oi_lt hx hy).mp q) H locs a hR hS hl ho hs2) (fun q => kf (fun z => q ((oi_lt hx hy).mpr z)) H locs a hR hS hl ho hs2)
theorem x_if_lt (G : ab_G E b cc nL own ret d) {x : Int} {off : Int} {tgt : Nat} (hd : decode cc pc = .ok (.ifCond .lt off, 3)) (ht : (pc : Int) + off = (tgt : Int)) (kt : x < 0 → ab_X E b Q nL tgt ls st s) (kf : (¬ x < 0) → ab_X E b Q nL (pc + 3) ls st s) : ab_X E b Q nL pc ls (vI x :: st) s := by
  obtain ⟨p, l, e, R, s0, m, args, below, meth, c, cells, slots⟩ := b
  intro H locs a hR hS hl ho hs
  have hx := (oks hs).1
  have hy : r32 0 := by unfold r32; omega
  have hs2 := (oks hs).2
  exact lv_if_lt G.1 G.2.1 hd ht (fun q => kt ((oi_lt hx hy).mp q) H locs a hR hS hl ho hs2) (fun q => kf (fun z => q ((oi_lt hx hy).mpr z)) H locs a hR hS hl ho hs2)
theorem x_lcmp_lt (G : ab_G E b cc nL own ret d) {x y : Int} {off : Int} {tgt pc1 : Nat} (hd0 : decode cc pc = .ok (.lcmp, 1)) (h1 : pc + 1 = pc1) (hd : decode cc pc1 = .ok (.ifCond .lt off, 3)) (ht : (pc1 : Int) + off = (tgt : Int)) (kt : x < y → ab_X E b Q nL tgt ls st s) (kf : (¬ x < y) → ab_X E b Q nL (pc1 + 3) ls st s) : ab_X E b Q nL pc ls (vL y :: vL x :: st) s := by
  obtain ⟨p, l, e, R, s0, m, args, below, meth, c, cells, slots⟩ := b
  intro H locs a hR hS hl ho hs
  have hy := (oks hs).1
  have hx := (oks (oks hs).2).1
  have hs2 := (oks (oks hs).2).2
  subst h1
  exact W.lcmp G.1 G.2.1 hd0 (lv_if_lt G.1 G.2.1 hd ht (fun q => kt ((ol_lt hx hy).mp (lcm_lt.mp q)) H locs a hR hS hl ho hs2) (fun q => kf (fun z => q (lcm_lt.mpr ((ol_lt hx hy).mpr z))) H locs a hR hS hl ho hs2))
theorem x_icmp_ge (G : ab_G E b cc nL own ret d) {x y : Int} {off : Int} {tgt : Nat} (hd : decode cc pc = .ok (.if_icmp .ge off, 3)) (ht : (pc : Int) + off = (tgt : Int)) (kt : y ≤ x → ab_X E b Q nL tgt ls st s) (kf : (¬ y ≤ x) → ab_X E b Q nL (pc + 3) ls st s) : ab_X E b Q nL pc ls (vI y :: vI x :: st) s := by
  obtain ⟨p, l, e, R, s0, m, args, below, meth, c, cells, slots⟩ := b
  intro H locs a hR hS hl ho hs
  have hy := (oks hs).1
  have hx := (oks (oks hs).2).1
  have hs2 := (oks (oks hs).2).2
  exact lv_icmp_ge G.1 G.2.1 hd ht (fun q => kt ((oi_le hy hx).mp q) H locs a hR hS hl ho hs2) (fun q => kf (fun z => q ((oi_le hy hx).mpr z)) H locs a hR hS hl ho hs2)
theorem x_if_ge (G : ab_G E b cc nL own ret d) {x : Int} {off : Int} {tgt : Nat} (hd : decode cc pc = .ok (.ifCond .ge off, 3)) (ht : (pc : Int) + off = (tgt : Int)) (kt : 0 ≤ x → ab_X E b Q nL tgt ls st s) (kf : (¬ 0 ≤ x) → ab_X E b Q nL (pc + 3) ls st s) : ab_X E b Q nL pc ls (vI x :: st) s := by
  obtain ⟨p, l, e, R, s0, m, args, below, meth, c, cells, slots⟩ := b
  intro H locs a hR hS hl ho hs
  have hx := (oks hs).1
  have hy : r32 0 := by unfold r32; omega
  have hs2 := (oks hs).2
  exact lv_if_ge G.1 G.2.1 hd ht (fun q => kt ((oi_le hy hx).mp q) H locs a hR hS hl ho hs2) (fun q => kf (fun z => q ((oi_le hy hx).mpr z)) H locs a hR hS hl ho hs2)
theorem x_lcmp_ge (G : ab_G E b cc nL own ret d) {x y : Int} {off : Int} {tgt pc1 : Nat} (hd0 : decode cc pc = .ok (.lcmp, 1)) (h1 : pc + 1 = pc1) (hd : decode cc pc1 = .ok (.ifCond .ge off, 3)) (ht : (pc1 : Int) + off = (tgt : Int)) (kt : y ≤ x → ab_X E b Q nL tgt ls st s) (kf : (¬ y ≤ x) → ab_X E b Q nL (pc1 + 3) ls st s) : ab_X E b Q nL pc ls (vL y :: vL x :: st) s := by
  obtain ⟨p, l, e, R, s0, m, args, below, meth, c, cells, slots⟩ := b
  intro H locs a hR hS hl ho hs
  have hy := (oks hs).1
  have hx := (oks (oks hs).2).1
  have hs2 := (oks (oks hs).2).2
  subst h1
  exact W.lcmp G.1 G.2.1 hd0 (lv_if_ge G.1 G.2.1 hd ht (fun q => kt ((ol_le hy hx).mp (lcm_ge.mp q)) H locs a hR hS hl ho hs2) (fun q => kf (fun z => q (lcm_ge.mpr ((ol_le hy hx).mpr z))) H locs a hR hS hl ho hs2))
theorem x_icmp_gt (G : ab_G E b cc nL own ret d) {x y : Int} {off : Int} {tgt : Nat} (hd : decode cc pc = .ok (.if_icmp .gt off, 3)) (ht : (pc : Int) + off = (tgt : Int)) (kt : y < x → ab_X E b Q nL tgt ls st s) (kf : (¬ y < x) → ab_X E b Q nL (pc + 3) ls st s) : ab_X E b Q nL pc ls (vI y :: vI x :: st) s := by
  obtain ⟨p, l, e, R, s0, m, args, below, meth, c, cells, slots⟩ := b
  intro H locs a hR hS hl ho hs
  have hy := (oks hs).1
  have hx := (oks (oks hs).2).1
  have hs2 := (oks (oks hs).2).2
  exact lv_icmp_gt G.1 G.2.1 hd ht (fun q => kt ((oi_lt hy hx).mp q) H locs a hR hS hl ho hs2) (fun q => kf (fun z => q ((oi_lt hy hx).mpr z)) H locs a hR hS hl ho hs2)
theorem x_if_gt (G : ab_G E b cc nL own ret d) {x : Int} {off : Int} {tgt : Nat} (hd : decode cc pc = .ok (.ifCond .gt off, 3)) (ht : (pc : Int) + off = (tgt : Int)) (kt : 0 < x → ab_X E b Q nL tgt ls st s) (kf : (¬ 0 < x) → ab_X E b Q nL (pc + 3) ls st s) : ab_X E b Q nL pc ls (vI x :: st) s := by
  obtain ⟨p, l, e, R, s0, m, args, below, meth, c, cells, slots⟩ := b
  intro H locs a hR hS hl ho hs
  have hx := (oks hs).1
  have hy : r32 0 := by unfold r32; omega
  have hs2 := (oks hs).2
  exact lv_if_gt G.1 G.2.1 hd ht (fun q => kt ((oi_lt hy hx).mp q) H locs a hR hS hl ho hs2) (fun q => kf (fun z => q ((oi_lt hy hx).mpr z)) H locs a hR hS hl ho hs2)
theorem x_lcmp_gt (G : ab_G E b cc nL own ret d) {x y : Int} {off : Int} {tgt pc1 : Nat} (hd0 : decode cc pc = .ok (.lcmp, 1)) (h1 : pc + 1 = pc1) (hd : decode cc pc1 = .ok (.ifCond .gt off, 3)) (ht : (pc1 : Int) + off = (tgt : Int)) (kt : y < x → ab_X E b Q nL tgt ls st s) (kf : (¬ y < x) → ab_X E b Q nL (pc1 + 3) ls st s) : ab_X E b Q nL pc ls (vL y :: vL x :: st) s := by
  obtain ⟨p, l, e, R, s0, m, args, below, meth, c, cells, slots⟩ := b
  intro H locs a hR hS hl ho hs
  have hy := (oks hs).1
  have hx := (oks (oks hs).2).1
  have hs2 := (oks (oks hs).2).2
  subst h1
  exact W.lcmp G.1 G.2.1 hd0 (lv_if_gt G.1 G.2.1 hd ht (fun q => kt ((ol_lt hy hx).mp (lcm_gt.mp q)) H locs a hR hS hl ho hs2) (fun q => kf (fun z => q (lcm_gt.mpr ((ol_lt hy hx).mpr z))) H locs a hR hS hl ho hs2))
theorem x_icmp_le (G : ab_G E b cc nL own ret d) {x y : Int} {off : Int} {tgt : Nat} (hd : decode cc pc = .ok (.if_icmp .le off, 3)) (ht : (pc : Int) + off = (tgt : Int)) (kt : x ≤ y → ab_X E b Q nL tgt ls st s) (kf : (¬ x ≤ y) → ab_X E b Q nL (pc + 3) ls st s) : ab_X E b Q nL pc ls (vI y :: vI x :: st) s := by
  obtain ⟨p, l, e, R, s0, m, args, below, meth, c, cells, slots⟩ := b
  intro H locs a hR hS hl ho hs
  have hy := (oks hs).1
  have hx := (oks (oks hs).2).1
  have hs2 := (oks (oks hs).2).2
  exact lv_icmp_le G.1 G.2.1 hd ht (fun q => kt ((oi_le hx hy).mp q) H locs a hR hS hl ho hs2) (fun q => kf (fun z => q ((oi_le hx hy).mpr z)) H locs a hR hS hl ho hs2)
theorem x_if_le (G : ab_G E b cc nL own ret d) {x : Int} {off : Int} {tgt : Nat} (hd : decode cc pc = .ok (.ifCond .le off, 3)) (ht : (pc : Int) + off = (tgt : Int)) (kt : x ≤ 0 → ab_X E b Q nL tgt ls st s) (kf : (¬ x ≤ 0) → ab_X E b Q nL (pc + 3) ls st s) : ab_X E b Q nL pc ls (vI x :: st) s := by
  obtain ⟨p, l, e, R, s0, m, args, below, meth, c, cells, slots⟩ := b
  intro H locs a hR hS hl ho hs
  have hx := (oks hs).1
  have hy : r32 0 := by unfold r32; omega
  have hs2 := (oks hs).2
  exact lv_if_le G.1 G.2.1 hd ht (fun q => kt ((oi_le hx hy).mp q) H locs a hR hS hl ho hs2) (fun q => kf (fun z => q ((oi_le hx hy).mpr z)) H locs a hR hS hl ho hs2)
theorem x_lcmp_le (G : ab_G E b cc nL own ret d) {x y : Int} {off : Int} {tgt pc1 : Nat} (hd0 : decode cc pc = .ok (.lcmp, 1)) (h1 : pc + 1 = pc1) (hd : decode cc pc1 = .ok (.ifCond .le off, 3)) (ht : (pc1 : Int) + off = (tgt : Int)) (kt : x ≤ y → ab_X E b Q nL tgt ls st s) (kf : (¬ x ≤ y) → ab_X E b Q nL (pc1 + 3) ls st s) : ab_X E b Q nL pc ls (vL y :: vL x :: st) s := by
  obtain ⟨p, l, e, R, s0, m, args, below, meth, c, cells, slots⟩ := b
  intro H locs a hR hS hl ho hs
  have hy := (oks hs).1
  have hx := (oks (oks hs).2).1
  have hs2 := (oks (oks hs).2).2
  subst h1
  exact W.lcmp G.1 G.2.1 hd0 (lv_if_le G.1 G.2.1 hd ht (fun q => kt ((ol_le hx hy).mp (lcm_le.mp q)) H locs a hR hS hl ho hs2) (fun q => kf (fun z => q (lcm_le.mpr ((ol_le hx hy).mpr z))) H locs a hR hS hl ho hs2))
theorem x_icmp_eq (G : ab_G E b cc nL own ret d) {x y : Int} {off : Int} {tgt : Nat} (hd : decode cc pc = .ok (.if_icmp .eq off, 3)) (ht : (pc : Int) + off = (tgt : Int)) (kt : x = y → ab_X E b Q nL tgt ls st s) (kf : (¬ x = y) → ab_X E b Q nL (pc + 3) ls st s) : ab_X E b Q nL pc ls (vI y :: vI x :: st) s := by
  obtain ⟨p, l, e, R, s0, m, args, below, meth, c, cells, slots⟩ := b
  intro H locs a hR hS hl ho hs
  have hy := (oks hs).1
  have hx := (oks (oks hs).2).1
  have hs2 := (oks (oks hs).2).2
  exact lv_icmp_eq G.1 G.2.1 hd ht (fun q => kt ((oi_eq hx hy).mp q) H locs a hR hS hl ho hs2) (fun q => kf (fun z => q ((oi_eq hx hy).mpr z)) H locs a hR hS hl ho hs2)
theorem x_if_eq (G : ab_G E b cc nL own ret d) {x : Int} {off : Int} {tgt : Nat} (hd : decode cc pc = .ok (.ifCond .eq off, 3)) (ht : (pc : Int) + off = (tgt : Int)) (kt : x = 0 → ab_X E b Q nL tgt ls st s) (kf : (¬ x = 0) → ab_X E b Q nL (pc + 3) ls st s) : ab_X E b Q nL pc ls (vI x :: st) s := by
  obtain ⟨p, l, e, R, s0, m, args, below, meth, c, cells, slots⟩ := b
  intro H locs a hR hS hl ho hs
  have hx := (oks hs).1
  have hy : r32 0 := by unfold r32; omega
  have hs2 := (oks hs).2
  exact lv_if_eq G.1 G.2.1 hd ht (fun q => kt ((oi_eq hx hy).mp q) H locs a hR hS hl ho hs2) (fun q => kf (fun z => q ((oi_eq hx hy).mpr z)) H locs a hR hS hl ho hs2)
theorem x_lcmp_eq (G : ab_G E b cc nL own ret d) {x y : Int} {off : Int} {tgt pc1 : Nat} (hd0 : decode cc pc = .ok (.lcmp, 1)) (h1 : pc + 1 = pc1) (hd : decode cc pc1 = .ok (.ifCond .eq off, 3)) (ht : (pc1 : Int) + off = (tgt : Int)) (kt : x = y → ab_X E b Q nL tgt ls st s) (kf : (¬ x = y) → ab_X E b Q nL (pc1 + 3) ls st s) : ab_X E b Q nL pc ls (vL y :: vL x :: st) s := by
  obtain ⟨p, l, e, R, s0, m, args, below, meth, c, cells, slots⟩ := b
  intro H locs a hR hS hl ho hs
  have hy := (oks hs).1
  have hx := (oks (oks hs).2).1
  have hs2 := (oks (oks hs).2).2
  subst h1
  exact W.lcmp G.1 G.2.1 hd0 (lv_if_eq G.1 G.2.1 hd ht (fun q => kt ((ol_eq hx hy).mp (lcm_eq.mp q)) H locs a hR hS hl ho hs2) (fun q => kf (fun z => q (lcm_eq.mpr ((ol_eq hx hy).mpr z))) H locs a hR hS hl ho hs2))
theorem x_icmp_ne (G : ab_G E b cc nL own ret d) {x y : Int} {off : Int} {tgt : Nat} (hd : decode cc pc = .ok (.if_icmp .ne off, 3)) (ht : (pc : Int) + off = (tgt : Int)) (kt : (¬ x = y) → ab_X E b Q nL tgt ls st s) (kf : x = y → ab_X E b Q nL (pc + 3) ls st s) : ab_X E b Q nL pc ls (vI y :: vI x :: st) s := by
  obtain ⟨p, l, e, R, s0, m, args, below, meth, c, cells, slots⟩ := b
  intro H locs a hR hS hl ho hs
  have hy := (oks hs).1
  have hx := (oks (oks hs).2).1
  have hs2 := (oks (oks hs).2).2
  exact lv_icmp_ne G.1 G.2.1 hd ht (fun q => kt (fun z => q ((oi_eq hx hy).mpr z)) H locs a hR hS hl ho hs2) (fun q => kf ((oi_eq hx hy).mp q) H locs a hR hS hl ho hs2)
theorem x_if_ne (G : ab_G E b cc nL own ret d) {x : Int} {off : Int} {tgt : Nat} (hd : decode cc pc = .ok (.ifCond .ne off, 3)) (ht : (pc : Int) + off = (tgt : Int)) (kt : (¬ x = 0) → ab_X E b Q nL tgt ls st s) (kf : x = 0 → ab_X E b Q nL (pc + 3) ls st s) : ab_X E b Q nL pc ls (vI x :: st) s := by
  obtain ⟨p, l, e, R, s0, m, args, below, meth, c, cells, slots⟩ := b
  intro H locs a hR hS hl ho hs
  have hx := (oks hs).1
  have hy : r32 0 := by unfold r32; omega
  have hs2 := (oks hs).2
  exact lv_if_ne G.1 G.2.1 hd ht (fun q => kt (fun z => q ((oi_eq hx hy).mpr z)) H locs a hR hS hl ho hs2) (fun q => kf ((oi_eq hx hy).mp q) H locs a hR hS hl ho hs2)
theorem x_lcmp_ne (G : ab_G E b cc nL own ret d) {x y : Int} {off : Int} {tgt pc1 : Nat} (hd0 : decode cc pc = .ok (.lcmp, 1)) (h1 : pc + 1 = pc1) (hd : decode cc pc1 = .ok (.ifCond .ne off, 3)) (ht : (pc1 : Int) + off = (tgt : Int)) (kt : (¬ x = y) → ab_X E b Q nL tgt ls st s) (kf : x = y → ab_X E b Q nL (pc1 + 3) ls st s) : ab_X E b Q nL pc ls (vL y :: vL x :: st) s := by
  obtain ⟨p, l, e, R, s0, m, args, below, meth, c, cells, slots⟩ := b
  intro H locs a hR hS hl ho hs
  have hy := (oks hs).1
  have hx := (oks (oks hs).2).1
  have hs2 := (oks (oks hs).2).2
  subst h1
  exact W.lcmp G.1 G.2.1 hd0 (lv_if_ne G.1 G.2.1 hd ht (fun q => kt (fun z => q (lcm_eq.mpr ((ol_eq hx hy).mpr z))) H locs a hR hS hl ho hs2) (fun q => kf ((ol_eq hx hy).mp (lcm_eq.mp q)) H locs a hR hS hl ho hs2))
end RW

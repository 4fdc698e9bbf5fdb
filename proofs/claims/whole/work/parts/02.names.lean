/-! ===== BEGIN words of one list among another's, by their places ===== -/
theorem goodIn_r {big : List Cond} (ws : List Cond) (ps : List Nat) (hp : ws = ps.filterMap (fun i => big[i]?)) (h : ws.all goodWord = true) : GoodIn big ws := by
  intro w hw
  have h1 := List.all_eq_true.mp h w hw
  rw [hp] at hw
  obtain ⟨i, -, hi⟩ := List.mem_filterMap.mp hw
  have hm : w ∈ big := by first | exact List.mem_of_getElem? hi | exact List.getElem?_mem hi
  exact ⟨hm, good_of_word h1⟩
theorem goodIn_app {big a b : List Cond} (ha : GoodIn big a) (hb : GoodIn big b) : GoodIn big (a ++ b) := fun w h => (List.mem_append.mp h).elim (ha w) (hb w)
theorem goodIn_ca {big a b : List Cond} {c : Cond} (ha : GoodIn big (c :: a)) (hb : GoodIn big b) : GoodIn big (c :: (a ++ b)) := fun w h => (List.mem_cons.mp h).elim (fun e => ha w (List.mem_cons.mpr (Or.inl e))) (fun h => (List.mem_append.mp h).elim (fun h => ha w (List.mem_cons.mpr (Or.inr h))) (hb w))
theorem goodIn_sub {big ws : List Cond} (hm : ∀ w ∈ ws, w ∈ big) (h : ws.all goodWord = true) : GoodIn big ws := fun w hw => ⟨hm w hw, good_of_word (List.all_eq_true.mp h w hw)⟩
/-! ===== END ===== -/

/-! ===== BEGIN new T[n][m]: the outer array a place, the inner ones among the pooled ===== -/
/-- f, but v at every address of l -/
def vr_up {α : Type} (f : Nat → α) (l : List Nat) (v : α) : Nat → α := fun a => if a ∈ l then v else f a
theorem vr_up_in {α : Type} {f : Nat → α} {l : List Nat} {v : α} {a : Nat} (h : a ∈ l) : vr_up f l v a = v := if_pos h
theorem vr_up_ne {α : Type} {f : Nat → α} {l : List Nat} {v : α} {a : Nat} (h : a ∉ l) : vr_up f l v a = f a := if_neg h
theorem vr_rows {L l : List Nat} {f : Nat → va_E} {e : va_E} (h : ∀ a, a ∈ l → a ∉ L) : va_pl L f ++ l.map (fun a => (a, e)) = va_pl (L ++ l) (vr_up f l e) := by
  unfold va_pl
  rw [List.map_append]
  congr 1
  · apply List.map_congr_left
    intro a ha
    rw [vr_up_ne (fun q => h a q ha)]
  · apply List.map_congr_left
    intro a ha
    rw [vr_up_in ha]
theorem vr_lay {X rows : va_W} {x : Nat × va_E} {pl : va_W} {D : va_G} {cl : List vw_C} {H : Heap} (hP : va_P D cl (((X ++ pl) ++ [x]) ++ rows) H) : va_P D cl ((X ++ [x]) ++ (pl ++ rows)) H := by
  rw [List.append_assoc (X ++ pl)] at hP
  have h := va_P.swap hP
  rw [← List.append_assoc X] at h
  have h2 := va_P.swap h
  rw [List.append_assoc (X ++ [x])] at h2
  exact h2
theorem vr_layD {X rows : va_W} {x : Nat × va_E} {pl : va_W} {A : Nat → Prop} (hD : va_D A (((X ++ pl) ++ [x]) ++ rows)) : va_D A ((X ++ [x]) ++ (pl ++ rows)) := by
  rw [List.append_assoc (X ++ pl)] at hD
  have h := va_D.swap hD
  rw [← List.append_assoc X] at h
  have h2 := va_D.swap h
  rw [List.append_assoc (X ++ [x])] at h2
  exact h2
theorem vr_outer (c : ClassId) (N h0 : Nat) : ∀ i : Nat, Jvm.Free.Multi.outerC c N h0 i = arrV c N (fun j => va_rf (if j < i then some (h0 + 1 + j) else none))
  | 0 => by
    show ({ cls := c, slots := Array.replicate N .null, vm := .none } : Cell) = _
    rw [arrV_new]
    refine congrArg (arrV c N) (funext fun j => ?_)
    simp [va_rf]
  | i + 1 => by
    show (Jvm.Free.Multi.outerC c N h0 i).setSlot i (.ref (h0 + 1 + i)) = _
    rw [vr_outer c N h0 i, arrV_store]
    refine congrArg (arrV c N) (funext fun j => ?_)
    by_cases e : j = i
    · subst e
      simp [updV, va_rf]
    · by_cases h : j < i
      · simp [updV, e, h, Nat.lt_succ_of_lt h]
      · simp [updV, e, h, show ¬ j < i + 1 by omega]
def va_AOA (ty : FieldType) (U : State) : Prop := (Cond.arrayOver (.array ty)).before #[] U = true
theorem va_AOA.use {ty : FieldType} {A : Array Value} {U : State} (h : va_AOA ty U) : (Cond.arrayOver (.array ty)).before A U = true := h
section VGM
variable {p : Program} {l : Launch} {e : Env} {R : Room} {s : State} {m : MethodId} {args : Array Value} {below : List Frame} {meth : Method} {c : Code} {H : Heap} {locs : List Loc} {cells slots : Nat} {Q : State → Prop}
variable {cc : ByteArray} {pc : Nat} {ls : Array Slot} {rest : List Value} {D : va_G} {cl : List vw_C} {A : Nat → Prop} {a : Nat} {tys : List (ClassId × FieldType)} {ws : va_W} {H0 : Heap}
theorem va_mna {X : va_W} {L : List Nat} {f : Nat → va_E} {cc : ByteArray} (hexec : p.tables.exec = Jvm.exec) (hb : c.code = cc) {own : String} {index : Nat} {ty : FieldType} {cy : ClassId} (hown : s.vm.findClass own = some m.cls) (hclink : (Cond.classLink own index ("[" ++ (FieldType.array ty).toString)).before args s = true) (hover : va_AOA ty s) (harr : (Cond.arrayClass ty).before args s = true) (hcy : s.vm.findClass (FieldType.array ty).toString = some cy)
    (hK : va_K D cl tys s) (hP : va_P D cl (X ++ va_pl L f) H) (hD : va_D A (X ++ va_pl L f)) (hS : va_S A H0 H locs) (hA : ∀ q, H0.size ≤ q → A q) {n k : Int32} {N' K' : Nat} {z : vp_A} (hn : ¬ n < 0) (hk : ¬ k < 0) (hN : n.toNatClampNeg = N') (hM : k.toNatClampNeg = K')
    (hb1 : N' * 4 ≤ 536870912) (hb2 : K' * componentBytes ty ≤ 536870912) (hb3 : K' ≤ 536870912) (hdf : fits ty (defaultValue ty) = true) (hdd : (defaultValue ty).isDefault = true) (hcells : cells + (1 + N') ≤ R.cells) (hslots : slots + (N' + N' * K') ≤ R.slots) (hz : ∀ c : ClassId, Jvm.Free.Multi.innerC c K' (defaultValue ty) = vp_cell c z) (hdg : decode cc pc = .ok (.multianewarray index 2, 4))
    (kk : ∀ (q : Nat) (r : Nat → Nat) (cA : ClassId) (H1 : Heap), (∀ i j : Nat, i < N' → j < N' → r i = r j → i = j) → (∀ i : Nat, i < N' → r i ∉ L) → va_K D cl (tys ++ [(cA, .array ty)]) s →
      va_P D cl ((X ++ [(q, .inl (cA, N', .inr (.inr (.inr (.inr (fun i => if i < N' then some (r i) else none))))))]) ++ va_pl (L ++ (List.range N').map r) (vr_up f ((List.range N').map r) (.inl (cy, z)))) H1 → va_D A ((X ++ [(q, .inl (cA, N', .inr (.inr (.inr (.inr (fun i => if i < N' then some (r i) else none))))))]) ++ va_pl (L ++ (List.range N').map r) (vr_up f ((List.range N').map r) (.inl (cy, z)))) → va_S A H0 H1 locs →
      W p l e R s m args below meth c H1 locs (cells + 1 + N') (slots + N' + N' * K') Q (F0 m (pc + 4) ls (.ref q :: rest))) : W p l e R s m args below meth c H locs cells slots Q (F0 m pc ls (.int k :: .int n :: rest)) := by
  subst hN
  subst hM
  intro T hT Xs
  obtain ⟨vm₁, cA, comp, -, fA, fC, hO, -, X', step⟩ := Xs.multianewarray2F hexec hown hclink (va_AOA.use hover) harr (g := F0 m pc ls (.int k :: .int n :: rest)) rfl (by rw [hb]; exact hdg) rfl hn hk hb1 hb2 hb3 hdf hdd hcells hslots
  have ec : some cy = some comp := hcy.symm.trans fC
  cases ec
  generalize hF : Jvm.Free.Multi.fill (T.setVm vm₁) cA cy n.toNatClampNeg k.toNatClampNeg (defaultValue ty) n.toNatClampNeg = F at X' step
  have hTh : (T.setVm vm₁).heap = H := hT
  obtain ⟨f1, f2, -, -⟩ := Jvm.Free.Multi.fill_facts (T.setVm vm₁) cA cy n.toNatClampNeg k.toNatClampNeg (defaultValue ty) n.toNatClampNeg
  rw [hF, hTh] at f1 f2
  have hold : ∀ x : Nat, x < H.size → F.heap[x]? = H[x]? := fun x hx => by
    have := Jvm.Free.Multi.fill_old (T.setVm vm₁) cA cy n.toNatClampNeg k.toNatClampNeg (defaultValue ty) (a := x) (by rw [hTh]; exact hx) n.toNatClampNeg
    rw [hF, hTh] at this
    exact this
  have hrow : ∀ j : Nat, j < n.toNatClampNeg → F.heap[H.size + 1 + j]? = some (vp_cell cy z) := fun j hj => by
    have := Jvm.Free.Multi.fill_inner (T.setVm vm₁) cA cy n.toNatClampNeg k.toNatClampNeg (defaultValue ty) n.toNatClampNeg j hj
    rw [hF, hTh, hz] at this
    exact this
  have hout : Jvm.Free.Multi.outerC cA n.toNatClampNeg H.size n.toNatClampNeg = vp_cell cA (n.toNatClampNeg, .inr (.inr (.inr (.inr (fun i => if i < n.toNatClampNeg then some (H.size + 1 + i) else none))))) := by
    rw [vp_cell_q]
    exact vr_outer cA n.toNatClampNeg H.size n.toNatClampNeg
  rw [hout] at f2
  have hlt : ∀ a, a ∈ L → a < H.size := fun a ha => by
    obtain ⟨k9, hk9⟩ := va_pl_get (X := X) (f := f) ha
    exact (hP k9 _ hk9).lt
  have hnl : ∀ i : Nat, i < n.toNatClampNeg → H.size + 1 + i ∉ L := fun i _ h => by
    have := hlt _ h
    omega
  have hnm : ∀ a, a ∈ (List.range n.toNatClampNeg).map (fun i => H.size + 1 + i) → a ∉ L := fun a ha h => by
    obtain ⟨i, -, rfl⟩ := List.mem_map.mp ha
    have := hlt _ h
    omega
  have hP0 : va_P D cl (X ++ va_pl L f) F.heap := hP.kept (fun k9 x hx => hold x.1 ((hP k9 x hx).lt))
  have hP1 : va_P D cl ((X ++ va_pl L f) ++ [(H.size, .inl (cA, n.toNatClampNeg, .inr (.inr (.inr (.inr (fun i => if i < n.toNatClampNeg then some (H.size + 1 + i) else none))))))]) F.heap := hP0.app (fun k9 x hx => by
    have h0 : k9 < 1 := (List.getElem?_eq_some_iff.mp hx).1
    rw [show k9 = 0 by omega] at hx
    cases hx
    exact f2)
  have hP2 : va_P D cl (((X ++ va_pl L f) ++ [(H.size, .inl (cA, n.toNatClampNeg, .inr (.inr (.inr (.inr (fun i => if i < n.toNatClampNeg then some (H.size + 1 + i) else none))))))]) ++ ((List.range n.toNatClampNeg).map (fun i => H.size + 1 + i)).map (fun a => (a, .inl (cy, z)))) F.heap := hP1.app (fun k9 x hx => by
    obtain ⟨a, ha, rfl⟩ := List.mem_map.mp (List.mem_of_getElem? hx)
    obtain ⟨i, hi, rfl⟩ := List.mem_map.mp ha
    exact hrow i (List.mem_range.mp hi))
  have hD2 : va_D A (((X ++ va_pl L f) ++ [(H.size, .inl (cA, n.toNatClampNeg, .inr (.inr (.inr (.inr (fun i => if i < n.toNatClampNeg then some (H.size + 1 + i) else none))))))]) ++ ((List.range n.toNatClampNeg).map (fun i => H.size + 1 + i)).map (fun a => (a, .inl (cy, z)))) := by
    have hD1 := hD.push (e := .inl (cA, n.toNatClampNeg, .inr (.inr (.inr (.inr (fun i => if i < n.toNatClampNeg then some (H.size + 1 + i) else none)))))) hP rfl (hA _ hS.1)
    generalize hW1 : (X ++ va_pl L f) ++ [(H.size, .inl (cA, n.toNatClampNeg, .inr (.inr (.inr (.inr (fun i => if i < n.toNatClampNeg then some (H.size + 1 + i) else none))))))] = W1 at hD1 hP1 ⊢
    have hle : ∀ (k9 : Nat) (x : Nat × va_E), W1[k9]? = some x → x.1 ≤ H.size := fun k9 x hx => by
      rw [← hW1] at hx
      by_cases hl : k9 < (X ++ va_pl L f).length
      · rw [List.getElem?_append_left hl] at hx
        exact Nat.le_of_lt ((hP k9 x hx).lt)
      · rw [List.getElem?_append_right (by omega)] at hx
        have h0 : k9 - (X ++ va_pl L f).length < 1 := (List.getElem?_eq_some_iff.mp hx).1
        rw [show k9 - (X ++ va_pl L f).length = 0 by omega] at hx
        cases hx
        exact Nat.le_refl _
    have hr : ∀ (k9 : Nat) (x : Nat × va_E), (((List.range n.toNatClampNeg).map (fun i => H.size + 1 + i)).map (fun a => ((a, .inl (cy, z)) : Nat × va_E)))[k9]? = some x → x.1 = H.size + 1 + k9 := fun k9 x hx => by
      rw [List.getElem?_map, List.getElem?_map] at hx
      by_cases h9 : k9 < n.toNatClampNeg
      · rw [List.getElem?_range h9] at hx
        cases hx
        rfl
      · have hn0 : (List.range n.toNatClampNeg)[k9]? = none := List.getElem?_eq_none (by rw [List.length_range]; omega)
        rw [hn0] at hx
        cases hx
    refine ⟨fun i j x y hi hj hxy => ?_, fun k9 x hx => ?_⟩
    · by_cases h1 : i < W1.length <;> by_cases h2 : j < W1.length
      · rw [List.getElem?_append_left h1] at hi
        rw [List.getElem?_append_left h2] at hj
        exact hD1.1 i j x y hi hj hxy
      · rw [List.getElem?_append_left h1] at hi
        rw [List.getElem?_append_right (by omega)] at hj
        have := hle _ _ hi
        have := hr _ _ hj
        omega
      · rw [List.getElem?_append_right (by omega)] at hi
        rw [List.getElem?_append_left h2] at hj
        have := hle _ _ hj
        have := hr _ _ hi
        omega
      · rw [List.getElem?_append_right (by omega)] at hi hj
        have := hr _ _ hi
        have := hr _ _ hj
        omega
    · by_cases h1 : k9 < W1.length
      · rw [List.getElem?_append_left h1] at hx
        exact hD1.2 k9 x hx
      · rw [List.getElem?_append_right (by omega)] at hx
        have := hr _ _ hx
        exact hA _ (by have := hS.1; omega)
  have hAr : ArrOfT s cA (.array ty) := fun N9 z9 => by
    obtain ⟨-, k9, hk9, cm9, hkk9⟩ := (hO 0 0 0).1
    exact ⟨(fun q hq => by cases hq), k9, hk9, cm9, hkk9⟩
  have hK2 : va_K D cl (tys ++ [(cA, .array ty)]) s := ⟨hK.1, fun k9 x hx => by
    by_cases hl : k9 < tys.length
    · rw [List.getElem?_append_left hl] at hx
      exact hK.2 k9 x hx
    · rw [List.getElem?_append_right (by omega)] at hx
      have h0 : k9 - tys.length < 1 := (List.getElem?_eq_some_iff.mp hx).1
      rw [show k9 - tys.length = 0 by omega] at hx
      cases hx
      exact ⟨hAr, fA⟩⟩
  obtain ⟨t, a1, b1⟩ := kk H.size (fun i => H.size + 1 + i) cA F.heap (fun i j _ _ h => by have h9 : H.size + 1 + i = H.size + 1 + j := h; omega) hnl hK2 (by rw [← vr_rows hnm]; exact vr_lay hP2) (by rw [← vr_rows hnm]; exact vr_layD hD2) ⟨by rw [f1]; have := hS.1; omega, fun x h1 h2 => (hold x (Nat.lt_of_lt_of_le h1 hS.1)).trans (hS.2.1 x h1 h2), hS.2.2⟩ F rfl X'
  refine ⟨t, step t ?_, b1⟩
  have e : T.heap.size = H.size := by rw [hT]
  rw [e]
  exact a1
end VGM
/-! ===== END ===== -/

/-! ===== BEGIN printed: names, fields, word lists, decode rows ===== -/
def RX0 : String := "StormHarbours$Council"
def TX0 : u_T := fun k => match k with
  | 0 => ("StormHarbours$Council", "sea", "LStormHarbours$Sea;", true)
  | 1 => ("StormHarbours$Council", "watch", "LStormHarbours$Watch;", true)
  | _ => ("StormHarbours$Council", "passage", "LStormHarbours$Passage;", true)
def tyX0 : Nat → FieldType := fun k => match k with
  | 0 => .object "StormHarbours$Sea"
  | 1 => .object "StormHarbours$Watch"
  | _ => .object "StormHarbours$Passage"
abbrev wsX00 : List Cond := u_ws RX0 TX0 3
theorem nmX0 : ∀ a, a < 3 → ∀ b, b < 3 → a ≠ b → (TX0 a).2.1 ≠ (TX0 b).2.1 := by decide +kernel
theorem tyX0_ok : ∀ k, k < 3 → parseFieldDescriptor (TX0 k).2.2.1 = some (tyX0 k) := by decide +kernel
abbrev cX0_init : ByteArray := prog_2_method_1_code
def yX0_init : MethodName := ⟨RX0, "<init>", "(LStormHarbours$Sea;LStormHarbours$Watch;LStormHarbours$Passage;)V"⟩
abbrev cX0_improves : ByteArray := prog_2_method_2_code
def yX0_improves : MethodName := ⟨RX0, "improves", "(II)Z"⟩
def RX1 : String := "StormHarbours$Lone"
def TX1 : u_T := fun k => match k with
  | _ => ("StormHarbours$Lone", "sea", "LStormHarbours$Sea;", true)
def tyX1 : Nat → FieldType := fun k => match k with
  | _ => .object "StormHarbours$Sea"
abbrev wsX10 : List Cond := u_ws RX1 TX1 1
theorem nmX1 : ∀ a, a < 1 → ∀ b, b < 1 → a ≠ b → (TX1 a).2.1 ≠ (TX1 b).2.1 := by decide +kernel
theorem tyX1_ok : ∀ k, k < 1 → parseFieldDescriptor (TX1 k).2.2.1 = some (tyX1 k) := by decide +kernel
abbrev cX1_init : ByteArray := prog_3_method_1_code
def yX1_init : MethodName := ⟨RX1, "<init>", "(LStormHarbours$Sea;)V"⟩
abbrev cX1_choice : ByteArray := prog_3_method_2_code
def yX1_choice : MethodName := ⟨RX1, "choice", "(III)I"⟩
abbrev cX1_bestOfGroups : ByteArray := prog_3_method_3_code
def yX1_bestOfGroups : MethodName := ⟨RX1, "bestOfGroups", "(III)J"⟩
abbrev cX1_bestFrom : ByteArray := prog_3_method_4_code
def yX1_bestFrom : MethodName := ⟨RX1, "bestFrom", "(III)J"⟩
abbrev cX1_sumOfStaying : ByteArray := prog_3_method_5_code
def yX1_sumOfStaying : MethodName := ⟨RX1, "sumOfStaying", "(III)J"⟩
abbrev cX1_sumOfRunning : ByteArray := prog_3_method_6_code
def yX1_sumOfRunning : MethodName := ⟨RX1, "sumOfRunning", "(IIII)J"⟩
def RX2 : String := "StormHarbours$Passage"
def TX2 : u_T := fun k => match k with
  | 0 => ("StormHarbours$Passage", "sea", "LStormHarbours$Sea;", true)
  | 1 => ("StormHarbours$Passage", "slowed", "I", false)
  | 2 => ("StormHarbours$Passage", "slowSpeed", "I", false)
  | 3 => ("StormHarbours$Passage", "dearFirst", "Z", false)
  | 4 => ("StormHarbours$Passage", "arrival", "[I", true)
  | 5 => ("StormHarbours$Passage", "order", "[I", true)
  | 6 => ("StormHarbours$Passage", "inside", "[I", true)
  | _ => ("StormHarbours$Passage", "entry", "[[I", true)
def tyX2 : Nat → FieldType := fun k => match k with
  | 0 => .object "StormHarbours$Sea"
  | 1 => .int
  | 2 => .int
  | 3 => .boolean
  | 4 => .array .int
  | 5 => .array .int
  | 6 => .array .int
  | _ => .array (.array .int)
abbrev wsX20 : List Cond := u_ws RX2 TX2 8
theorem nmX2 : ∀ a, a < 8 → ∀ b, b < 8 → a ≠ b → (TX2 a).2.1 ≠ (TX2 b).2.1 := by decide +kernel
theorem tyX2_ok : ∀ k, k < 8 → parseFieldDescriptor (TX2 k).2.2.1 = some (tyX2 k) := by decide +kernel
abbrev cX2_init : ByteArray := prog_4_method_1_code
def yX2_init : MethodName := ⟨RX2, "<init>", "(LStormHarbours$Sea;)V"⟩
abbrev cX2_asUsual : ByteArray := prog_4_method_2_code
def yX2_asUsual : MethodName := ⟨RX2, "asUsual", "()V"⟩
abbrev cX2_inConvoy : ByteArray := prog_4_method_3_code
def yX2_inConvoy : MethodName := ⟨RX2, "inConvoy", "(II)V"⟩
abbrev cX2_dearestFirst : ByteArray := prog_4_method_4_code
def yX2_dearestFirst : MethodName := ⟨RX2, "dearestFirst", "()V"⟩
abbrev cX2_meanOf : ByteArray := prog_4_method_5_code
def yX2_meanOf : MethodName := ⟨RX2, "meanOf", "(LStormHarbours$Plans;II)J"⟩
abbrev cX2_worthOf : ByteArray := prog_4_method_6_code
def yX2_worthOf : MethodName := ⟨RX2, "worthOf", "(ILStormHarbours$Plans;I)J"⟩
abbrev cX2_worthOfSort : ByteArray := prog_4_method_7_code
def yX2_worthOfSort : MethodName := ⟨RX2, "worthOfSort", "(IILStormHarbours$Plans;)J"⟩
abbrev cX2_sail : ByteArray := prog_4_method_8_code
def yX2_sail : MethodName := ⟨RX2, "sail", "(ILStormHarbours$Plans;)V"⟩
abbrev cX2_arrivalOf : ByteArray := prog_4_method_9_code
def yX2_arrivalOf : MethodName := ⟨RX2, "arrivalOf", "(IILStormHarbours$Plans;)I"⟩
abbrev cX2_putInOrder : ByteArray := prog_4_method_10_code
def yX2_putInOrder : MethodName := ⟨RX2, "putInOrder", "()V"⟩
abbrev cX2_goesAhead : ByteArray := prog_4_method_11_code
def yX2_goesAhead : MethodName := ⟨RX2, "goesAhead", "(II)Z"⟩
abbrev cX2_letIn : ByteArray := prog_4_method_12_code
def yX2_letIn : MethodName := ⟨RX2, "letIn", "(IILStormHarbours$Plans;)V"⟩
abbrev cX2_letInAt : ByteArray := prog_4_method_13_code
def yX2_letInAt : MethodName := ⟨RX2, "letInAt", "(IIILStormHarbours$Plans;)I"⟩
def RX3 : String := "StormHarbours$Plans"
def TX3 : u_T := fun k => match k with
  | 0 => ("StormHarbours$Plans", "hour", "[I", true)
  | _ => ("StormHarbours$Plans", "harbour", "[I", true)
def tyX3 : Nat → FieldType := fun k => match k with
  | 0 => .array .int
  | _ => .array .int
abbrev wsX30 : List Cond := u_ws RX3 TX3 2
theorem nmX3 : ∀ a, a < 2 → ∀ b, b < 2 → a ≠ b → (TX3 a).2.1 ≠ (TX3 b).2.1 := by decide +kernel
theorem tyX3_ok : ∀ k, k < 2 → parseFieldDescriptor (TX3 k).2.2.1 = some (tyX3 k) := by decide +kernel
abbrev cX3_init : ByteArray := prog_5_method_1_code
def yX3_init : MethodName := ⟨RX3, "<init>", "()V"⟩
abbrev cX3_send : ByteArray := prog_5_method_2_code
def yX3_send : MethodName := ⟨RX3, "send", "(III)V"⟩
abbrev cX3_stayAll : ByteArray := prog_5_method_3_code
def yX3_stayAll : MethodName := ⟨RX3, "stayAll", "()V"⟩
abbrev cX3_copyFrom : ByteArray := prog_5_method_4_code
def yX3_copyFrom : MethodName := ⟨RX3, "copyFrom", "(LStormHarbours$Plans;)V"⟩
abbrev cX3_told : ByteArray := prog_5_method_5_code
def yX3_told : MethodName := ⟨RX3, "told", "(I)I"⟩
def RX4 : String := "StormHarbours$Rules"
def TX4 : u_T := fun k => match k with
  | 0 => ("StormHarbours$Rules", "sea", "LStormHarbours$Sea;", true)
  | _ => ("StormHarbours$Rules", "watch", "LStormHarbours$Watch;", true)
def tyX4 : Nat → FieldType := fun k => match k with
  | 0 => .object "StormHarbours$Sea"
  | _ => .object "StormHarbours$Watch"
abbrev wsX40 : List Cond := u_ws RX4 TX4 2
theorem nmX4 : ∀ a, a < 2 → ∀ b, b < 2 → a ≠ b → (TX4 a).2.1 ≠ (TX4 b).2.1 := by decide +kernel
theorem tyX4_ok : ∀ k, k < 2 → parseFieldDescriptor (TX4 k).2.2.1 = some (tyX4 k) := by decide +kernel
abbrev cX4_init : ByteArray := prog_6_method_1_code
def yX4_init : MethodName := ⟨RX4, "<init>", "(LStormHarbours$Sea;LStormHarbours$Watch;)V"⟩
abbrev cX4_follow : ByteArray := prog_6_method_2_code
def yX4_follow : MethodName := ⟨RX4, "follow", "(IILStormHarbours$Plans;)V"⟩
abbrev cX4_runs : ByteArray := prog_6_method_3_code
def yX4_runs : MethodName := ⟨RX4, "runs", "(IIIILStormHarbours$Plans;)Z"⟩
abbrev cX4_boatsGone : ByteArray := prog_6_method_4_code
def yX4_boatsGone : MethodName := ⟨RX4, "boatsGone", "(ILStormHarbours$Plans;)I"⟩
abbrev cX4_likeliest : ByteArray := prog_6_method_5_code
def yX4_likeliest : MethodName := ⟨RX4, "likeliest", "(II)I"⟩
def RX5 : String := "StormHarbours$Sea"
def TX5 : u_T := fun k => match k with
  | 0 => ("StormHarbours$Sea", "harbourCount", "I", false)
  | 1 => ("StormHarbours$Sea", "sortCount", "I", false)
  | 2 => ("StormHarbours$Sea", "stormCount", "I", false)
  | 3 => ("StormHarbours$Sea", "harbours", "[[I", true)
  | 4 => ("StormHarbours$Sea", "sorts", "[[I", true)
  | 5 => ("StormHarbours$Sea", "storms", "[[I", true)
  | 6 => ("StormHarbours$Sea", "miles", "[[I", true)
  | 7 => ("StormHarbours$Sea", "glass", "[[I", true)
  | 8 => ("StormHarbours$Sea", "loss", "[I", true)
  | 9 => ("StormHarbours$Sea", "slow", "I", false)
  | 10 => ("StormHarbours$Sea", "strength", "[[I", true)
  | 11 => ("StormHarbours$Sea", "openHours", "[[I", true)
  | 12 => ("StormHarbours$Sea", "alive", "[[I", true)
  | 13 => ("StormHarbours$Sea", "fished", "[[J", true)
  | _ => ("StormHarbours$Sea", "arrivals", "[[I", true)
def tyX5 : Nat → FieldType := fun k => match k with
  | 0 => .int
  | 1 => .int
  | 2 => .int
  | 3 => .array (.array .int)
  | 4 => .array (.array .int)
  | 5 => .array (.array .int)
  | 6 => .array (.array .int)
  | 7 => .array (.array .int)
  | 8 => .array .int
  | 9 => .int
  | 10 => .array (.array .int)
  | 11 => .array (.array .int)
  | 12 => .array (.array .int)
  | 13 => .array (.array .long)
  | _ => .array (.array .int)
abbrev wsX50 : List Cond := u_ws RX5 TX5 15
theorem nmX5 : ∀ a, a < 15 → ∀ b, b < 15 → a ≠ b → (TX5 a).2.1 ≠ (TX5 b).2.1 := by decide +kernel
theorem tyX5_ok : ∀ k, k < 15 → parseFieldDescriptor (TX5 k).2.2.1 = some (tyX5 k) := by decide +kernel
abbrev cX5_init : ByteArray := prog_7_method_1_code
def yX5_init : MethodName := ⟨RX5, "<init>", "()V"⟩
abbrev cX5_clear : ByteArray := prog_7_method_2_code
def yX5_clear : MethodName := ⟨RX5, "clear", "()V"⟩
abbrev cX5_take : ByteArray := prog_7_method_3_code
def yX5_take : MethodName := ⟨RX5, "take", "(I[I)V"⟩
abbrev cX5_copyRow : ByteArray := prog_7_method_4_code
def yX5_copyRow : MethodName := ⟨RX5, "copyRow", "([I[I)V"⟩
abbrev cX5_reckon : ByteArray := prog_7_method_5_code
def yX5_reckon : MethodName := ⟨RX5, "reckon", "()V"⟩
abbrev cX5_strengthOf : ByteArray := prog_7_method_6_code
def yX5_strengthOf : MethodName := ⟨RX5, "strengthOf", "([II)I"⟩
abbrev cX5_openHoursOf : ByteArray := prog_7_method_7_code
def yX5_openHoursOf : MethodName := ⟨RX5, "openHoursOf", "(II)I"⟩
abbrev cX5_reckonBank : ByteArray := prog_7_method_8_code
def yX5_reckonBank : MethodName := ⟨RX5, "reckonBank", "(II)V"⟩
abbrev cX5_reckonArrivals : ByteArray := prog_7_method_9_code
def yX5_reckonArrivals : MethodName := ⟨RX5, "reckonArrivals", "(II)V"⟩
abbrev cX5_arrivalAt : ByteArray := prog_7_method_10_code
def yX5_arrivalAt : MethodName := ⟨RX5, "arrivalAt", "(IIII)I"⟩
abbrev cX5_arrival : ByteArray := prog_7_method_11_code
def yX5_arrival : MethodName := ⟨RX5, "arrival", "(IIII)I"⟩
abbrev cX5_entryAlone : ByteArray := prog_7_method_12_code
def yX5_entryAlone : MethodName := ⟨RX5, "entryAlone", "(IIII)I"⟩
abbrev cX5_aliveAt : ByteArray := prog_7_method_13_code
def yX5_aliveAt : MethodName := ⟨RX5, "aliveAt", "(III)I"⟩
abbrev cX5_fishedTill : ByteArray := prog_7_method_14_code
def yX5_fishedTill : MethodName := ⟨RX5, "fishedTill", "(III)J"⟩
abbrev cX5_isOpen : ByteArray := prog_7_method_15_code
def yX5_isOpen : MethodName := ⟨RX5, "isOpen", "(III)Z"⟩
abbrev cX5_riskOf : ByteArray := prog_7_method_16_code
def yX5_riskOf : MethodName := ⟨RX5, "riskOf", "(III)I"⟩
abbrev cX5_nearest : ByteArray := prog_7_method_17_code
def yX5_nearest : MethodName := ⟨RX5, "nearest", "(I)I"⟩
abbrev cX5_leastSpeed : ByteArray := prog_7_method_18_code
def yX5_leastSpeed : MethodName := ⟨RX5, "leastSpeed", "(I)I"⟩
abbrev cX5_allBoats : ByteArray := prog_7_method_19_code
def yX5_allBoats : MethodName := ⟨RX5, "allBoats", "()I"⟩
abbrev cX5_allSorts : ByteArray := prog_7_method_20_code
def yX5_allSorts : MethodName := ⟨RX5, "allSorts", "()I"⟩
abbrev cX5_allStorms : ByteArray := prog_7_method_21_code
def yX5_allStorms : MethodName := ⟨RX5, "allStorms", "()I"⟩
abbrev cX5_telling : ByteArray := prog_7_method_22_code
def yX5_telling : MethodName := ⟨RX5, "telling", "(III)I"⟩
abbrev cX5_drawnBy : ByteArray := prog_7_method_23_code
def yX5_drawnBy : MethodName := ⟨RX5, "drawnBy", "(I)I"⟩
abbrev cX5_isHarbour : ByteArray := prog_7_method_24_code
def yX5_isHarbour : MethodName := ⟨RX5, "isHarbour", "(I)Z"⟩
abbrev cX5_isSort : ByteArray := prog_7_method_25_code
def yX5_isSort : MethodName := ⟨RX5, "isSort", "(I)Z"⟩
abbrev cX5_isStorm : ByteArray := prog_7_method_26_code
def yX5_isStorm : MethodName := ⟨RX5, "isStorm", "(I)Z"⟩
def RX6 : String := "StormHarbours$Text"
def TX6 : u_T := fun k => match k with
  | 0 => ("StormHarbours$Text", "bytes", "[B", true)
  | 1 => ("StormHarbours$Text", "length", "I", false)
  | 2 => ("StormHarbours$Text", "at", "I", false)
  | 3 => ("StormHarbours$Text", "letter", "I", false)
  | 4 => ("StormHarbours$Text", "numbers", "[I", true)
  | 5 => ("StormHarbours$Text", "harbours", "I", false)
  | 6 => ("StormHarbours$Text", "sorts", "I", false)
  | 7 => ("StormHarbours$Text", "storms", "I", false)
  | _ => ("StormHarbours$Text", "tenths", "I", false)
def tyX6 : Nat → FieldType := fun k => match k with
  | 0 => .array .byte
  | 1 => .int
  | 2 => .int
  | 3 => .int
  | 4 => .array .int
  | 5 => .int
  | 6 => .int
  | 7 => .int
  | _ => .int
abbrev wsX60 : List Cond := u_ws RX6 TX6 9
theorem nmX6 : ∀ a, a < 9 → ∀ b, b < 9 → a ≠ b → (TX6 a).2.1 ≠ (TX6 b).2.1 := by decide +kernel
theorem tyX6_ok : ∀ k, k < 9 → parseFieldDescriptor (TX6 k).2.2.1 = some (tyX6 k) := by decide +kernel
abbrev cX6_init : ByteArray := prog_8_method_1_code
def yX6_init : MethodName := ⟨RX6, "<init>", "()V"⟩
abbrev cX6_append : ByteArray := prog_8_method_2_code
def yX6_append : MethodName := ⟨RX6, "append", "(B)V"⟩
abbrev cX6_clear : ByteArray := prog_8_method_3_code
def yX6_clear : MethodName := ⟨RX6, "clear", "()V"⟩
abbrev cX6_firstFault : ByteArray := prog_8_method_4_code
def yX6_firstFault : MethodName := ⟨RX6, "firstFault", "()I"⟩
abbrev cX6_isWhole : ByteArray := prog_8_method_5_code
def yX6_isWhole : MethodName := ⟨RX6, "isWhole", "()Z"⟩
abbrev cX6_fill : ByteArray := prog_8_method_6_code
def yX6_fill : MethodName := ⟨RX6, "fill", "(LStormHarbours$Sea;)V"⟩
abbrev cX6_toBegin : ByteArray := prog_8_method_7_code
def yX6_toBegin : MethodName := ⟨RX6, "toBegin", "()V"⟩
abbrev cX6_readItem : ByteArray := prog_8_method_8_code
def yX6_readItem : MethodName := ⟨RX6, "readItem", "()Z"⟩
abbrev cX6_readNumber : ByteArray := prog_8_method_9_code
def yX6_readNumber : MethodName := ⟨RX6, "readNumber", "(II)Z"⟩
abbrev cX6_isSound : ByteArray := prog_8_method_10_code
def yX6_isSound : MethodName := ⟨RX6, "isSound", "()Z"⟩
abbrev cX6_tally : ByteArray := prog_8_method_11_code
def yX6_tally : MethodName := ⟨RX6, "tally", "()V"⟩
abbrev cX6_limitsOf : ByteArray := prog_8_method_12_code
def yX6_limitsOf : MethodName := ⟨RX6, "limitsOf", "(I)[I"⟩
def RX7 : String := "StormHarbours$Watch"
def TX7 : u_T := fun k => match k with
  | 0 => ("StormHarbours$Watch", "plans", "LStormHarbours$Plans;", true)
  | 1 => ("StormHarbours$Watch", "glassAt", "I", false)
  | 2 => ("StormHarbours$Watch", "herdAt", "I", false)
  | 3 => ("StormHarbours$Watch", "hour", "I", false)
  | _ => ("StormHarbours$Watch", "thought", "I", false)
def tyX7 : Nat → FieldType := fun k => match k with
  | 0 => .object "StormHarbours$Plans"
  | 1 => .int
  | 2 => .int
  | 3 => .int
  | _ => .int
abbrev wsX70 : List Cond := u_ws RX7 TX7 5
theorem nmX7 : ∀ a, a < 5 → ∀ b, b < 5 → a ≠ b → (TX7 a).2.1 ≠ (TX7 b).2.1 := by decide +kernel
theorem tyX7_ok : ∀ k, k < 5 → parseFieldDescriptor (TX7 k).2.2.1 = some (tyX7 k) := by decide +kernel
abbrev cX7_init : ByteArray := prog_9_method_1_code
def yX7_init : MethodName := ⟨RX7, "<init>", "()V"⟩
abbrev cX7_begin : ByteArray := prog_9_method_2_code
def yX7_begin : MethodName := ⟨RX7, "begin", "(I)V"⟩
abbrev cX7_copyFrom : ByteArray := prog_9_method_3_code
def yX7_copyFrom : MethodName := ⟨RX7, "copyFrom", "(LStormHarbours$Watch;)V"⟩
def RX8 : String := "StormHarbours"
def TX8 : u_T := fun k => match k with
  | 0 => ("StormHarbours", "text", "LStormHarbours$Text;", true)
  | 1 => ("StormHarbours", "sea", "LStormHarbours$Sea;", true)
  | 2 => ("StormHarbours", "watch", "LStormHarbours$Watch;", true)
  | 3 => ("StormHarbours", "kept", "[LStormHarbours$Watch;", true)
  | 4 => ("StormHarbours", "keptCount", "I", false)
  | 5 => ("StormHarbours", "passage", "LStormHarbours$Passage;", true)
  | 6 => ("StormHarbours", "rules", "LStormHarbours$Rules;", true)
  | 7 => ("StormHarbours", "lone", "LStormHarbours$Lone;", true)
  | 8 => ("StormHarbours", "council", "LStormHarbours$Council;", true)
  | _ => ("StormHarbours", "trial", "LStormHarbours$Plans;", true)
def tyX8 : Nat → FieldType := fun k => match k with
  | 0 => .object "StormHarbours$Text"
  | 1 => .object "StormHarbours$Sea"
  | 2 => .object "StormHarbours$Watch"
  | 3 => .array (.object "StormHarbours$Watch")
  | 4 => .int
  | 5 => .object "StormHarbours$Passage"
  | 6 => .object "StormHarbours$Rules"
  | 7 => .object "StormHarbours$Lone"
  | 8 => .object "StormHarbours$Council"
  | _ => .object "StormHarbours$Plans"
abbrev wsX80 : List Cond := u_ws RX8 TX8 10
theorem nmX8 : ∀ a, a < 10 → ∀ b, b < 10 → a ≠ b → (TX8 a).2.1 ≠ (TX8 b).2.1 := by decide +kernel
theorem tyX8_ok : ∀ k, k < 10 → parseFieldDescriptor (TX8 k).2.2.1 = some (tyX8 k) := by decide +kernel
abbrev cX8_init : ByteArray := prog_1_method_1_code
def yX8_init : MethodName := ⟨RX8, "<init>", "()V"⟩
abbrev cX8_write : ByteArray := prog_1_method_2_code
def yX8_write : MethodName := ⟨RX8, "write", "(IJ)I"⟩
abbrev cX8_wipe : ByteArray := prog_1_method_3_code
def yX8_wipe : MethodName := ⟨RX8, "wipe", "()I"⟩
abbrev cX8_fault : ByteArray := prog_1_method_4_code
def yX8_fault : MethodName := ⟨RX8, "fault", "()I"⟩
abbrev cX8_lay : ByteArray := prog_1_method_5_code
def yX8_lay : MethodName := ⟨RX8, "lay", "()I"⟩
abbrev cX8_storm : ByteArray := prog_1_method_6_code
def yX8_storm : MethodName := ⟨RX8, "storm", "(III)I"⟩
abbrev cX8_open : ByteArray := prog_1_method_7_code
def yX8_open : MethodName := ⟨RX8, "open", "(III)I"⟩
abbrev cX8_risk : ByteArray := prog_1_method_8_code
def yX8_risk : MethodName := ⟨RX8, "risk", "(III)I"⟩
abbrev cX8_reach : ByteArray := prog_1_method_9_code
def yX8_reach : MethodName := ⟨RX8, "reach", "(IIII)I"⟩
abbrev cX8_plan : ByteArray := prog_1_method_10_code
def yX8_plan : MethodName := ⟨RX8, "plan", "(III)I"⟩
abbrev cX8_value : ByteArray := prog_1_method_11_code
def yX8_value : MethodName := ⟨RX8, "value", "(I)J"⟩
abbrev cX8_in : ByteArray := prog_1_method_12_code
def yX8_in : MethodName := ⟨RX8, "in", "(II)I"⟩
abbrev cX8_lives : ByteArray := prog_1_method_13_code
def yX8_lives : MethodName := ⟨RX8, "lives", "(III)I"⟩
abbrev cX8_mean : ByteArray := prog_1_method_14_code
def yX8_mean : MethodName := ⟨RX8, "mean", "()J"⟩
abbrev cX8_shut : ByteArray := prog_1_method_15_code
def yX8_shut : MethodName := ⟨RX8, "shut", "(I)I"⟩
abbrev cX8_sign : ByteArray := prog_1_method_16_code
def yX8_sign : MethodName := ⟨RX8, "sign", "(I)I"⟩
abbrev cX8_now : ByteArray := prog_1_method_17_code
def yX8_now : MethodName := ⟨RX8, "now", "(I)I"⟩
abbrev cX8_set : ByteArray := prog_1_method_18_code
def yX8_set : MethodName := ⟨RX8, "set", "(II)I"⟩
abbrev cX8_by : ByteArray := prog_1_method_19_code
def yX8_by : MethodName := ⟨RX8, "by", "(I)J"⟩
abbrev cX8_ran : ByteArray := prog_1_method_20_code
def yX8_ran : MethodName := ⟨RX8, "ran", "(III)I"⟩
abbrev cX8_alone : ByteArray := prog_1_method_21_code
def yX8_alone : MethodName := ⟨RX8, "alone", "(I)J"⟩
abbrev cX8_does : ByteArray := prog_1_method_22_code
def yX8_does : MethodName := ⟨RX8, "does", "(III)I"⟩
abbrev cX8_better : ByteArray := prog_1_method_23_code
def yX8_better : MethodName := ⟨RX8, "better", "(Z)I"⟩
abbrev cX8_gun : ByteArray := prog_1_method_24_code
def yX8_gun : MethodName := ⟨RX8, "gun", "(I)J"⟩
abbrev cX8_bestGun : ByteArray := prog_1_method_25_code
def yX8_bestGun : MethodName := ⟨RX8, "bestGun", "()I"⟩
abbrev cX8_convoy : ByteArray := prog_1_method_26_code
def yX8_convoy : MethodName := ⟨RX8, "convoy", "(III)J"⟩
abbrev cX8_first : ByteArray := prog_1_method_27_code
def yX8_first : MethodName := ⟨RX8, "first", "()J"⟩
abbrev cX8_night : ByteArray := prog_1_method_28_code
def yX8_night : MethodName := ⟨RX8, "night", "(III)J"⟩
abbrev cX8_keep : ByteArray := prog_1_method_29_code
def yX8_keep : MethodName := ⟨RX8, "keep", "()I"⟩
abbrev cX8_back : ByteArray := prog_1_method_30_code
def yX8_back : MethodName := ⟨RX8, "back", "()I"⟩
abbrev cX8_count : ByteArray := prog_1_method_31_code
def yX8_count : MethodName := ⟨RX8, "count", "(I)I"⟩
abbrev cX8_worthByRule : ByteArray := prog_1_method_32_code
def yX8_worthByRule : MethodName := ⟨RX8, "worthByRule", "(II)J"⟩
abbrev cX8_meanOfGun : ByteArray := prog_1_method_33_code
def yX8_meanOfGun : MethodName := ⟨RX8, "meanOfGun", "(I)J"⟩
abbrev cX8_isHour : ByteArray := prog_1_method_34_code
def yX8_isHour : MethodName := ⟨RX8, "isHour", "(I)Z"⟩
abbrev cX8_isHourOrNever : ByteArray := prog_1_method_35_code
def yX8_isHourOrNever : MethodName := ⟨RX8, "isHourOrNever", "(I)Z"⟩
abbrev cX8_isRule : ByteArray := prog_1_method_36_code
def yX8_isRule : MethodName := ⟨RX8, "isRule", "(I)Z"⟩
def RX9 : String := "StormHarboursModel"
def TX9 : u_T := fun k => match k with
  | 0 => ("StormHarboursModel", "thrown", "I", false)
  | 1 => ("StormHarboursModel", "sea", "[I", true)
  | 2 => ("StormHarboursModel", "now", "[I", true)
  | 3 => ("StormHarboursModel", "kept", "[I", true)
  | 4 => ("StormHarboursModel", "keptMany", "I", false)
  | 5 => ("StormHarboursModel", "text", "[I", true)
  | 6 => ("StormHarboursModel", "typed", "I", false)
  | 7 => ("StormHarboursModel", "at", "I", false)
  | 8 => ("StormHarboursModel", "isWell", "Z", false)
  | 9 => ("StormHarboursModel", "hours", "[I", true)
  | 10 => ("StormHarboursModel", "goals", "[I", true)
  | 11 => ("StormHarboursModel", "speeds", "[I", true)
  | 12 => ("StormHarboursModel", "boatSort", "[I", true)
  | 13 => ("StormHarboursModel", "came", "[I", true)
  | 14 => ("StormHarboursModel", "miles", "[I", true)
  | 15 => ("StormHarboursModel", "lives", "[I", true)
  | 16 => ("StormHarboursModel", "isSafe", "[Z", true)
  | 17 => ("StormHarboursModel", "inside", "[I", true)
  | 18 => ("StormHarboursModel", "valueOf", "[J", true)
  | 19 => ("StormHarboursModel", "ways", "[J", true)
  | _ => ("StormHarboursModel", "bests", "[J", true)
def tyX9 : Nat → FieldType := fun k => match k with
  | 0 => .int
  | 1 => .array .int
  | 2 => .array .int
  | 3 => .array .int
  | 4 => .int
  | 5 => .array .int
  | 6 => .int
  | 7 => .int
  | 8 => .boolean
  | 9 => .array .int
  | 10 => .array .int
  | 11 => .array .int
  | 12 => .array .int
  | 13 => .array .int
  | 14 => .array .int
  | 15 => .array .int
  | 16 => .array .boolean
  | 17 => .array .int
  | 18 => .array .long
  | 19 => .array .long
  | _ => .array .long
abbrev wsX90 : List Cond := u_ws RX9 TX9 21
theorem nmX9 : ∀ a, a < 21 → ∀ b, b < 21 → a ≠ b → (TX9 a).2.1 ≠ (TX9 b).2.1 := by decide +kernel
theorem tyX9_ok : ∀ k, k < 21 → parseFieldDescriptor (TX9 k).2.2.1 = some (tyX9 k) := by decide +kernel
abbrev cX9_init : ByteArray := prog_11_method_1_code
def yX9_init : MethodName := ⟨RX9, "<init>", "()V"⟩
abbrev cX9_isIn : ByteArray := prog_11_method_3_code
def yX9_isIn : MethodName := ⟨RX9, "isIn", "(III)Z"⟩
abbrev cX9_begins : ByteArray := prog_11_method_4_code
def yX9_begins : MethodName := ⟨RX9, "begins", "(I)V"⟩
abbrev cX9_anew : ByteArray := prog_11_method_5_code
def yX9_anew : MethodName := ⟨RX9, "anew", "()V"⟩
abbrev cX9_write : ByteArray := prog_11_method_6_code
def yX9_write : MethodName := ⟨RX9, "write", "(IJ)I"⟩
abbrev cX9_wipe : ByteArray := prog_11_method_7_code
def yX9_wipe : MethodName := ⟨RX9, "wipe", "()I"⟩
abbrev cX9_byteAt : ByteArray := prog_11_method_8_code
def yX9_byteAt : MethodName := ⟨RX9, "byteAt", "(I)I"⟩
abbrev cX9_number : ByteArray := prog_11_method_9_code
def yX9_number : MethodName := ⟨RX9, "number", "(III)I"⟩
abbrev cX9_draft : ByteArray := prog_11_method_10_code
def yX9_draft : MethodName := ⟨RX9, "draft", "(I)I"⟩
abbrev cX9_puts : ByteArray := prog_11_method_11_code
def yX9_puts : MethodName := ⟨RX9, "puts", "(II)V"⟩
abbrev cX9_readsHarbour : ByteArray := prog_11_method_12_code
def yX9_readsHarbour : MethodName := ⟨RX9, "readsHarbour", "()V"⟩
abbrev cX9_readsSort : ByteArray := prog_11_method_13_code
def yX9_readsSort : MethodName := ⟨RX9, "readsSort", "()V"⟩
abbrev cX9_readsStorm : ByteArray := prog_11_method_14_code
def yX9_readsStorm : MethodName := ⟨RX9, "readsStorm", "()V"⟩
abbrev cX9_readsItem : ByteArray := prog_11_method_15_code
def yX9_readsItem : MethodName := ⟨RX9, "readsItem", "(I)V"⟩
abbrev cX9_reads : ByteArray := prog_11_method_16_code
def yX9_reads : MethodName := ⟨RX9, "reads", "()I"⟩
abbrev cX9_fault : ByteArray := prog_11_method_17_code
def yX9_fault : MethodName := ⟨RX9, "fault", "()I"⟩
abbrev cX9_lay : ByteArray := prog_11_method_18_code
def yX9_lay : MethodName := ⟨RX9, "lay", "()I"⟩
abbrev cX9_isStorm : ByteArray := prog_11_method_19_code
def yX9_isStorm : MethodName := ⟨RX9, "isStorm", "(I)Z"⟩
abbrev cX9_isSort : ByteArray := prog_11_method_20_code
def yX9_isSort : MethodName := ⟨RX9, "isSort", "(I)Z"⟩
abbrev cX9_isHarbour : ByteArray := prog_11_method_21_code
def yX9_isHarbour : MethodName := ⟨RX9, "isHarbour", "(I)Z"⟩
abbrev cX9_strength : ByteArray := prog_11_method_22_code
def yX9_strength : MethodName := ⟨RX9, "strength", "(II)I"⟩
abbrev cX9_glass : ByteArray := prog_11_method_23_code
def yX9_glass : MethodName := ⟨RX9, "glass", "(II)I"⟩
abbrev cX9_isOpen : ByteArray := prog_11_method_24_code
def yX9_isOpen : MethodName := ⟨RX9, "isOpen", "(III)Z"⟩
abbrev cX9_riskOf : ByteArray := prog_11_method_25_code
def yX9_riskOf : MethodName := ⟨RX9, "riskOf", "(III)I"⟩
abbrev cX9_away : ByteArray := prog_11_method_26_code
def yX9_away : MethodName := ⟨RX9, "away", "(II)I"⟩
abbrev cX9_madeBy : ByteArray := prog_11_method_27_code
def yX9_madeBy : MethodName := ⟨RX9, "madeBy", "(III)I"⟩
abbrev cX9_storm : ByteArray := prog_11_method_28_code
def yX9_storm : MethodName := ⟨RX9, "storm", "(III)I"⟩
abbrev cX9_open : ByteArray := prog_11_method_29_code
def yX9_open : MethodName := ⟨RX9, "open", "(III)I"⟩
abbrev cX9_risk : ByteArray := prog_11_method_30_code
def yX9_risk : MethodName := ⟨RX9, "risk", "(III)I"⟩
abbrev cX9_reachOf : ByteArray := prog_11_method_31_code
def yX9_reachOf : MethodName := ⟨RX9, "reachOf", "(IIII)I"⟩
abbrev cX9_reach : ByteArray := prog_11_method_32_code
def yX9_reach : MethodName := ⟨RX9, "reach", "(IIII)I"⟩
abbrev cX9_plan : ByteArray := prog_11_method_33_code
def yX9_plan : MethodName := ⟨RX9, "plan", "(III)I"⟩
abbrev cX9_asPlanned : ByteArray := prog_11_method_34_code
def yX9_asPlanned : MethodName := ⟨RX9, "asPlanned", "()V"⟩
abbrev cX9_boats : ByteArray := prog_11_method_35_code
def yX9_boats : MethodName := ⟨RX9, "boats", "()I"⟩
abbrev cX9_weightOf : ByteArray := prog_11_method_36_code
def yX9_weightOf : MethodName := ⟨RX9, "weightOf", "(I)I"⟩
abbrev cX9_nextIn : ByteArray := prog_11_method_37_code
def yX9_nextIn : MethodName := ⟨RX9, "nextIn", "(IIIZ)I"⟩
abbrev cX9_goesBy : ByteArray := prog_11_method_38_code
def yX9_goesBy : MethodName := ⟨RX9, "goesBy", "(IZ)J"⟩
abbrev cX9_hour : ByteArray := prog_11_method_39_code
def yX9_hour : MethodName := ⟨RX9, "hour", "(III)V"⟩
abbrev cX9_value : ByteArray := prog_11_method_40_code
def yX9_value : MethodName := ⟨RX9, "value", "(I)J"⟩
abbrev cX9_in : ByteArray := prog_11_method_41_code
def yX9_in : MethodName := ⟨RX9, "in", "(II)I"⟩
abbrev cX9_firstOf : ByteArray := prog_11_method_42_code
def yX9_firstOf : MethodName := ⟨RX9, "firstOf", "(I)I"⟩
abbrev cX9_lives : ByteArray := prog_11_method_43_code
def yX9_lives : MethodName := ⟨RX9, "lives", "(III)I"⟩
abbrev cX9_isThought : ByteArray := prog_11_method_44_code
def yX9_isThought : MethodName := ⟨RX9, "isThought", "(I)Z"⟩
abbrev cX9_tenths : ByteArray := prog_11_method_45_code
def yX9_tenths : MethodName := ⟨RX9, "tenths", "(I)I"⟩
abbrev cX9_meanOf : ByteArray := prog_11_method_46_code
def yX9_meanOf : MethodName := ⟨RX9, "meanOf", "(ZI)J"⟩
abbrev cX9_mean : ByteArray := prog_11_method_47_code
def yX9_mean : MethodName := ⟨RX9, "mean", "()J"⟩
abbrev cX9_shut : ByteArray := prog_11_method_48_code
def yX9_shut : MethodName := ⟨RX9, "shut", "(I)I"⟩
abbrev cX9_sign : ByteArray := prog_11_method_49_code
def yX9_sign : MethodName := ⟨RX9, "sign", "(I)I"⟩
abbrev cX9_now : ByteArray := prog_11_method_50_code
def yX9_now : MethodName := ⟨RX9, "now", "(I)I"⟩
abbrev cX9_set : ByteArray := prog_11_method_51_code
def yX9_set : MethodName := ⟨RX9, "set", "(II)I"⟩
abbrev cX9_nearest : ByteArray := prog_11_method_52_code
def yX9_nearest : MethodName := ⟨RX9, "nearest", "(I)I"⟩
abbrev cX9_getsIn : ByteArray := prog_11_method_53_code
def yX9_getsIn : MethodName := ⟨RX9, "getsIn", "(III)I"⟩
abbrev cX9_openest : ByteArray := prog_11_method_54_code
def yX9_openest : MethodName := ⟨RX9, "openest", "(II)I"⟩
abbrev cX9_ruled : ByteArray := prog_11_method_55_code
def yX9_ruled : MethodName := ⟨RX9, "ruled", "(II)V"⟩
abbrev cX9_isRule : ByteArray := prog_11_method_56_code
def yX9_isRule : MethodName := ⟨RX9, "isRule", "(I)Z"⟩
abbrev cX9_by : ByteArray := prog_11_method_57_code
def yX9_by : MethodName := ⟨RX9, "by", "(I)J"⟩
abbrev cX9_ran : ByteArray := prog_11_method_58_code
def yX9_ran : MethodName := ⟨RX9, "ran", "(III)I"⟩
abbrev cX9_wayOf : ByteArray := prog_11_method_59_code
def yX9_wayOf : MethodName := ⟨RX9, "wayOf", "(IIII)J"⟩
abbrev cX9_laysAlone : ByteArray := prog_11_method_60_code
def yX9_laysAlone : MethodName := ⟨RX9, "laysAlone", "(I)V"⟩
abbrev cX9_running : ByteArray := prog_11_method_61_code
def yX9_running : MethodName := ⟨RX9, "running", "(III)J"⟩
abbrev cX9_staying : ByteArray := prog_11_method_62_code
def yX9_staying : MethodName := ⟨RX9, "staying", "(II)J"⟩
abbrev cX9_seeing : ByteArray := prog_11_method_63_code
def yX9_seeing : MethodName := ⟨RX9, "seeing", "(II)J"⟩
abbrev cX9_alone : ByteArray := prog_11_method_64_code
def yX9_alone : MethodName := ⟨RX9, "alone", "(I)J"⟩
abbrev cX9_does : ByteArray := prog_11_method_65_code
def yX9_does : MethodName := ⟨RX9, "does", "(III)I"⟩
abbrev cX9_betters : ByteArray := prog_11_method_66_code
def yX9_betters : MethodName := ⟨RX9, "betters", "(IZ)Z"⟩
abbrev cX9_better : ByteArray := prog_11_method_67_code
def yX9_better : MethodName := ⟨RX9, "better", "(Z)I"⟩
abbrev cX9_gunAt : ByteArray := prog_11_method_68_code
def yX9_gunAt : MethodName := ⟨RX9, "gunAt", "(I)J"⟩
abbrev cX9_gun : ByteArray := prog_11_method_69_code
def yX9_gun : MethodName := ⟨RX9, "gun", "(I)J"⟩
abbrev cX9_bestGun : ByteArray := prog_11_method_70_code
def yX9_bestGun : MethodName := ⟨RX9, "bestGun", "()I"⟩
abbrev cX9_convoy : ByteArray := prog_11_method_71_code
def yX9_convoy : MethodName := ⟨RX9, "convoy", "(III)J"⟩
abbrev cX9_first : ByteArray := prog_11_method_72_code
def yX9_first : MethodName := ⟨RX9, "first", "()J"⟩
abbrev cX9_night : ByteArray := prog_11_method_73_code
def yX9_night : MethodName := ⟨RX9, "night", "(III)J"⟩
abbrev cX9_keep : ByteArray := prog_11_method_74_code
def yX9_keep : MethodName := ⟨RX9, "keep", "()I"⟩
abbrev cX9_back : ByteArray := prog_11_method_75_code
def yX9_back : MethodName := ⟨RX9, "back", "()I"⟩
abbrev cX9_count : ByteArray := prog_11_method_76_code
def yX9_count : MethodName := ⟨RX9, "count", "(I)I"⟩
def RJ9 : String := "java/lang/Math"
def TJ9 : u_T := fun k => match k with
  | _ => ("", "", "", false)
def tyJ9 : Nat → FieldType := fun k => match k with
  | _ => .int
abbrev wsJ90 : List Cond := u_ws RJ9 TJ9 0
theorem nmJ9 : ∀ a, a < 0 → ∀ b, b < 0 → a ≠ b → (TJ9 a).2.1 ≠ (TJ9 b).2.1 := by decide +kernel
theorem tyJ9_ok : ∀ k, k < 0 → parseFieldDescriptor (TJ9 k).2.2.1 = some (tyJ9 k) := by decide +kernel
abbrev cJ9_max_7cf53 : ByteArray := prog_12_method_65_code
def yJ9_max_7cf53 : MethodName := ⟨RJ9, "max", "(II)I"⟩
abbrev cJ9_max_f86c9 : ByteArray := prog_12_method_66_code
def yJ9_max_f86c9 : MethodName := ⟨RJ9, "max", "(JJ)J"⟩
abbrev cJ9_min_7cf53 : ByteArray := prog_12_method_69_code
def yJ9_min_7cf53 : MethodName := ⟨RJ9, "min", "(II)I"⟩
def RJ0 : String := "java/lang/String"
def TJ0 : u_T := fun k => match k with
  | _ => ("", "", "", false)
def tyJ0 : Nat → FieldType := fun k => match k with
  | _ => .int
abbrev wsJ00 : List Cond := u_ws RJ0 TJ0 0
theorem nmJ0 : ∀ a, a < 0 → ∀ b, b < 0 → a ≠ b → (TJ0 a).2.1 ≠ (TJ0 b).2.1 := by decide +kernel
theorem tyJ0_ok : ∀ k, k < 0 → parseFieldDescriptor (TJ0 k).2.2.1 = some (tyJ0 k) := by decide +kernel
abbrev cJ0_length_8abf5 : ByteArray := prog_13_method_54_code
def yJ0_length_8abf5 : MethodName := ⟨RJ0, "length", "()I"⟩
abbrev cJ0_charAt_5068e : ByteArray := prog_13_method_56_code
def yJ0_charAt_5068e : MethodName := ⟨RJ0, "charAt", "(I)C"⟩
abbrev cJ0_coder_7d493 : ByteArray := prog_13_method_152_code
def yJ0_coder_7d493 : MethodName := ⟨RJ0, "coder", "()B"⟩
abbrev cJ0_isLatin1_aae02 : ByteArray := prog_13_method_154_code
def yJ0_isLatin1_aae02 : MethodName := ⟨RJ0, "isLatin1", "()Z"⟩
abbrev cJ0_checkIndex_df160 : ByteArray := prog_13_method_155_code
def yJ0_checkIndex_df160 : MethodName := ⟨RJ0, "checkIndex", "(II)V"⟩
def RJ1 : String := "java/lang/StringLatin1"
def TJ1 : u_T := fun k => match k with
  | _ => ("", "", "", false)
def tyJ1 : Nat → FieldType := fun k => match k with
  | _ => .int
abbrev wsJ10 : List Cond := u_ws RJ1 TJ1 0
theorem nmJ1 : ∀ a, a < 0 → ∀ b, b < 0 → a ≠ b → (TJ1 a).2.1 ≠ (TJ1 b).2.1 := by decide +kernel
theorem tyJ1_ok : ∀ k, k < 0 → parseFieldDescriptor (TJ1 k).2.2.1 = some (tyJ1 k) := by decide +kernel
abbrev cJ1_charAt_3b067 : ByteArray := prog_14_method_2_code
def yJ1_charAt_3b067 : MethodName := ⟨RJ1, "charAt", "([BI)C"⟩
def RJ2 : String := "java/lang/StringUTF16"
def TJ2 : u_T := fun k => match k with
  | _ => ("", "", "", false)
def tyJ2 : Nat → FieldType := fun k => match k with
  | _ => .int
abbrev wsJ20 : List Cond := u_ws RJ2 TJ2 0
theorem nmJ2 : ∀ a, a < 0 → ∀ b, b < 0 → a ≠ b → (TJ2 a).2.1 ≠ (TJ2 b).2.1 := by decide +kernel
theorem tyJ2_ok : ∀ k, k < 0 → parseFieldDescriptor (TJ2 k).2.2.1 = some (tyJ2 k) := by decide +kernel
abbrev cJ2_getChar_3b067 : ByteArray := prog_15_method_5_code
def yJ2_getChar_3b067 : MethodName := ⟨RJ2, "getChar", "([BI)C"⟩
abbrev cJ2_length_9d52b : ByteArray := prog_15_method_6_code
def yJ2_length_9d52b : MethodName := ⟨RJ2, "length", "([B)I"⟩
abbrev cJ2_charAt_3b067 : ByteArray := prog_15_method_83_code
def yJ2_charAt_3b067 : MethodName := ⟨RJ2, "charAt", "([BI)C"⟩
abbrev cJ2_checkIndex_2214a : ByteArray := prog_15_method_91_code
def yJ2_checkIndex_2214a : MethodName := ⟨RJ2, "checkIndex", "(I[B)V"⟩
def RJ3 : String := "jdk/internal/util/Preconditions"
def TJ3 : u_T := fun k => match k with
  | _ => ("", "", "", false)
def tyJ3 : Nat → FieldType := fun k => match k with
  | _ => .int
abbrev wsJ30 : List Cond := u_ws RJ3 TJ3 0
theorem nmJ3 : ∀ a, a < 0 → ∀ b, b < 0 → a ≠ b → (TJ3 a).2.1 ≠ (TJ3 b).2.1 := by decide +kernel
theorem tyJ3_ok : ∀ k, k < 0 → parseFieldDescriptor (TJ3 k).2.2.1 = some (tyJ3 k) := by decide +kernel
abbrev cJ3_checkIndex_8e157 : ByteArray := prog_16_method_11_code
def yJ3_checkIndex_8e157 : MethodName := ⟨RJ3, "checkIndex", "(IILjava/util/function/BiFunction;)I"⟩
def RL : String := "StormHarboursLaw"
abbrev cL_law : ByteArray := code
def yL_law : MethodName := ⟨RL, "law", "([I)Z"⟩
abbrev vwCl : List vw_C := [(RX0, TX0, 3), (RX1, TX1, 1), (RX2, TX2, 8), (RX3, TX3, 2), (RX4, TX4, 2), (RX5, TX5, 15), (RX6, TX6, 9), (RX7, TX7, 5), (RX8, TX8, 10), (RX9, TX9, 21)]

section MO
variable {E : En} {b : Bn} {Q : State → Prop} {nL pc : Nat} {ls : List (Nat × AV)} {st : List AV} {s : Mem} {cc : ByteArray} {own : String} {ret : Option FieldType} {d : Nat} {γ : Type} {z : γ}
theorem x_subp {ls' : List (Nat × AV)} (is : List Nat) (h : is.filterMap (fun i => ls[i]?) = ls') (k : ab_X E b Q nL pc ls' st s) : ab_X E b Q nL pc ls st s := by
  refine x_sub (fun q hq => ?_) k
  rw [← h] at hq
  obtain ⟨i, -, hi⟩ := List.mem_filterMap.mp hq
  exact List.mem_of_getElem? hi
theorem x_let {e : Int} {g : Int → Option γ} (h : lt' e g = some z) (kk : ∀ v, v = e → g v = some z → ab_X E b Q nL pc ls (vI v :: st) s) : ab_X E b Q nL pc ls (vI e :: st) s := kk e rfl h
theorem x_letL {e : Int} {g : Int → Option γ} (h : lt' e g = some z) (kk : ∀ v, v = e → g v = some z → ab_X E b Q nL pc ls (vL v :: st) s) : ab_X E b Q nL pc ls (vL e :: st) s := kk e rfl h
theorem x_iincL (G : ab_G E b cc nL own ret d) {i j : Nat} {n x : Int} {g : Int → Option γ} (hd : decode cc pc = .ok (.iinc i n, 3)) (hj : ls[j]? = some (i, vI x)) (hn : i < nL) (h : lt' (w32 (x + n)) g = some z) (kk : ∀ v, v = w32 (x + n) → g v = some z → ab_X E b Q nL (pc + 3) (ls_st1 i (vI v) ls) st s) : ab_X E b Q nL pc ls st s := x_iinc G hd hj hn rfl (kk _ rfl h)
theorem x_ls {ls' : List (Nat × AV)} (h : ls = ls') (k : ab_X E b Q nL pc ls' st s) : ab_X E b Q nL pc ls st s := h ▸ k
end MO

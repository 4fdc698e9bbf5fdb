/-! ===== the cells and their relation to a heap ===== -/
def ab_tb : List (Nat × Nat × Nat) := [(1, 9, 0), (2, 372, 0), (2, 12, 0), (2, 24, 0), (2, 500, 0), (2, 4, 0), (2, 4, 0), (2, 4, 0), (2, 32, 0), (2, 32, 0), (2, 32, 0), (2, 32, 0), (4, 32, 0), (2, 4, 0), (5, 4, 0), (5, 480, 0), (5, 400, 0), (1, 8, 0), (1, 6, 0), (3, 500, 0), (2, 6, 0), (1, 5, 0), (6, 4, 23), (2, 4, 0), (2, 4, 0), (2, 4, 0), (2, 4, 0), (6, 4, 28), (2, 5, 0), (2, 5, 0), (2, 5, 0), (2, 5, 0), (6, 4, 33), (2, 6, 0), (2, 6, 0), (2, 6, 0), (2, 6, 0), (6, 4, 38), (2, 4, 0), (2, 4, 0), (2, 4, 0), (2, 4, 0), (6, 4, 43), (2, 24, 0), (2, 24, 0), (2, 24, 0), (2, 24, 0), (2, 10, 0), (6, 4, 49), (2, 24, 0), (2, 24, 0), (2, 24, 0), (2, 24, 0), (6, 4, 54), (2, 4, 0), (2, 4, 0), (2, 4, 0), (2, 4, 0), (6, 16, 59), (2, 25, 0), (2, 25, 0), (2, 25, 0), (2, 25, 0), (2, 25, 0), (2, 25, 0), (2, 25, 0), (2, 25, 0), (2, 25, 0), (2, 25, 0), (2, 25, 0), (2, 25, 0), (2, 25, 0), (2, 25, 0), (2, 25, 0), (2, 25, 0), (7, 16, 76), (5, 25, 0), (5, 25, 0), (5, 25, 0), (5, 25, 0), (5, 25, 0), (5, 25, 0), (5, 25, 0), (5, 25, 0), (5, 25, 0), (5, 25, 0), (5, 25, 0), (5, 25, 0), (5, 25, 0), (5, 25, 0), (5, 25, 0), (5, 25, 0), (6, 16, 93), (2, 96, 0), (2, 96, 0), (2, 96, 0), (2, 96, 0), (2, 96, 0), (2, 96, 0), (2, 96, 0), (2, 96, 0), (2, 96, 0), (2, 96, 0), (2, 96, 0), (2, 96, 0), (2, 96, 0), (2, 96, 0), (2, 96, 0), (2, 96, 0), (1, 7, 0), (1, 3, 0), (2, 4, 0), (2, 4, 0), (8, 2, 114), (1, 7, 0), (1, 7, 0), (1, 3, 0), (2, 4, 0), (2, 4, 0), (1, 3, 0), (2, 4, 0), (2, 4, 0), (1, 2, 0), (2, 4, 0), (2, 4, 0), (2, 4, 0), (6, 4, 127), (2, 8, 0), (2, 8, 0), (2, 8, 0), (2, 8, 0), (1, 4, 0), (1, 1, 0), (1, 0, 0), (1, 3, 0), (2, 4, 0), (2, 4, 0), (9, 8, 0), (9, 10, 0), (9, 6, 0), (9, 12, 0), (9, 6, 0), (9, 4, 0), (9, 2, 0), (9, 0, 0)]
def ab_sh (k : Nat) : Nat × Nat × Nat := ab_tb.getD k (0, 0, 0)
def ab_pl : List (List (Option Nat)) := [[none, some 1, some 2, some 3, none, some 4, none, none, none, some 5, some 6, some 7, some 8, some 9, some 10, some 11, some 12, some 13, some 14, some 15, some 16], [], [], [], [], [], [], [], [], [], [], [], [], [], [], [], [], [some 18, some 21, some 109, some 113, none, some 122, some 131, some 132, some 133, some 134], [some 19, none, none, none, some 20, none, none, none, none], [], [], [none, none, none, some 22, some 27, some 32, some 37, some 42, some 47, none, some 48, some 53, some 58, some 75, some 92], [], [], [], [], [], [], [], [], [], [], [], [], [], [], [], [], [], [], [], [], [], [], [], [], [], [], [], [], [], [], [], [], [], [], [], [], [], [], [], [], [], [], [], [], [], [], [], [], [], [], [], [], [], [], [], [], [], [], [], [], [], [], [], [], [], [], [], [], [], [], [], [], [], [], [], [], [], [], [], [], [], [], [], [], [], [], [], [some 110, none, none, none, none], [some 111, some 112], [], [], [], [some 116, none, none, none, none], [some 119, none, none, none, none], [some 117, some 118], [], [], [some 120, some 121], [], [], [some 21, none, none, none, some 123, some 124, some 125, some 126], [], [], [], [], [], [], [], [], [some 21, some 109], [some 21], [some 21, some 109, some 122], [some 135, some 136], [], [], [], [], [], [], [], [], [], []]
def ab_ptr (k f : Nat) : Option Nat := (ab_pl.getD k []).getD f none
def ab_nf : List Nat := [3, 1, 8, 2, 2, 15, 9, 5, 10, 21]
def st_l (k : Nat) : Nat := if (ab_sh k).1 = 9 then (ab_sh k).2.1 else 0
def st_tb : List (List Int) := [[1, 99, 1, 9, 1, 10, 0, 15], [1, 8, 1, 9, 0, 99, 0, 999, 0, 9], [0, 3, 0, 3, 1, 99], [0, 10, 0, 23, 1, 9, 0, 9, 0, 24, 0, 3], [0, 3, 0, 23, 0, 9], [1, 9, 0, 200], [1, 9], []]
def st_c (k i : Nat) : Int := (st_tb.getD (k - 137) []).getD i 0
def st_nm : List String := ["HARBOUR_LIMITS", "SORT_LIMITS", "MILES_LIMITS", "STORM_LIMITS", "GLASS_LIMITS", "LOSS_LIMITS", "SLOW_LIMITS", "NO_LIMITS"]
def lenI (k : Nat) : Nat := if (ab_sh k).1 = 2 then (ab_sh k).2.1 else 0
def lenB (k : Nat) : Nat := if (ab_sh k).1 = 3 then (ab_sh k).2.1 else 0
def lenZ (k : Nat) : Nat := if (ab_sh k).1 = 4 then (ab_sh k).2.1 else 0
def lenL (k : Nat) : Nat := if (ab_sh k).1 = 5 then (ab_sh k).2.1 else 0
def lenG (k : Nat) : Nat := if 6 ≤ (ab_sh k).1 ∧ (ab_sh k).1 ≤ 8 then (ab_sh k).2.1 else 0
def rowG (k : Nat) : Nat := (ab_sh k).2.2
def ab_ft (k : Nat) : FieldType := match (ab_sh k).1 with
  | 2 => .int
  | 3 => .byte
  | 4 => .boolean
  | 5 => .long
  | 6 => .array .int
  | 7 => .array .long
  | _ => .object "StormHarbours$Watch"
/-- D, addresses, array classes, the first cell that there is, the heap's size at the law's start -/
abbrev En : Type := va_G × (Nat → Nat) × (Nat → ClassId) × Nat × Nat
abbrev eD (E : En) : va_G := E.1
abbrev eAd (E : En) : Nat → Nat := E.2.1
abbrev eCA (E : En) : Nat → ClassId := E.2.2.1
abbrev eLo (E : En) : Nat := E.2.2.2.1
abbrev eS0 (E : En) : Nat := E.2.2.2.2
def eA (E : En) : Nat → Prop := fun q => eS0 E ≤ q
def ab_fv (E : En) (s : Mem) (k f : Nat) : Value := match ab_ptr k f with
  | some t => .ref (eAd E t)
  | none => .int (Int32.ofInt (s k f))
def ab_ent (E : En) (s : Mem) (k : Nat) : va_E :=
  if (ab_sh k).1 = 1 then .inr ((ab_sh k).2.1, (List.range (ab_nf.getD (ab_sh k).2.1 0)).map (ab_fv E s k))
  else if (ab_sh k).1 = 5 then .inl (eCA E k, (ab_sh k).2.1, .inr (.inl (fun j => Int64.ofInt (s k j))))
  else if (ab_sh k).1 < 5 then .inl (eCA E k, (ab_sh k).2.1, .inl (fun j => Int32.ofInt (s k j)))
  else .inl (eCA E k, (ab_sh k).2.1, .inr (.inr (.inr (.inr (fun j => some (eAd E ((ab_sh k).2.2 + j)))))))
def ab_ws (E : En) (s : Mem) : va_W := (List.range (137 - eLo E)).map (fun i => (eAd E (eLo E + i), ab_ent E s (eLo E + i)))
def ab_rg (k : Nat) (x : Int) : Prop := if (ab_sh k).1 = 5 then r64 x else r32 x
def ab_R (E : En) (s : Mem) (H : Heap) : Prop := va_P (eD E) vwCl (ab_ws E s) H ∧ ∀ k j, ab_rg k (s k j)
/-- what holds of the tables, the statics and the addresses at a method's start -/
def ab_C (E : En) (U : State) : Prop :=
  ab_Ws U ∧ va_K (eD E) vwCl [] U ∧ (∀ k, eLo E ≤ k → k < 137 → (ab_sh k).1 ≠ 1 → ArrOfT U (eCA E k) (ab_ft k) ∧ va_RA U (eCA E k) (ab_ft k)) ∧
  (∀ j, j < 8 → va_Z RX8 (st_nm.getD j "") "[I" (.ref (eAd E (137 + j))) (eA E) U U.heap ∧ va_T .int (eAd E (137 + j)) (st_l (137 + j)) (fun i => .int (Int32.ofInt (st_c (137 + j) i))) (eA E) U U.heap) ∧
  (eLo E = 0 ∨ eLo E = 17) ∧ (∀ i j, eLo E ≤ i → i < 137 → eLo E ≤ j → j < 137 → eAd E i = eAd E j → i = j) ∧ (∀ i, eLo E ≤ i → i < 137 → eA E (eAd E i)) ∧ eS0 E ≤ U.heap.size
theorem ab_K.same {E : En} {u U : State} (hA : u.vm.Alike U.vm) (hW : ab_Ws u → ab_Ws U) (hq : ∀ a : Nat, a < u.heap.size → ¬ eA E a → U.heap[a]? = u.heap[a]?) (hz : u.heap.size ≤ U.heap.size) (h : ab_C E u) : ab_C E U := by
  obtain ⟨h1, h2, h3, h4, h5, h6, h7, h8⟩ := h
  refine ⟨hW h1, va_K.moved hA h2, fun k a b c => ⟨arrOfT_moved hA (h3 k a b c).1, (h3 k a b c).2.moved hA⟩, fun j hj => ?_, h5, h6, h7, Nat.le_trans h8 hz⟩
  exact ⟨((h4 j hj).1.moved hA).kept hq, ((h4 j hj).2.moved hA).kept hq⟩
theorem ab_C.call {E : En} {s U : State} {H : Heap} {locs : List Loc} (h : ab_C E s) (hS : va_S (eA E) s.heap H locs) (hU : U.heap = H) (hW : s.WarmedH U.vm) : ab_C E U := by
  refine ab_K.same hW.alike (fun q => q.warm hW) (fun a h1 h2 => ?_) ?_ h
  · rw [hU]; exact hS.2.1 a h1 h2
  · rw [hU]; exact hS.1
theorem ab_C.blind {E : En} {U V : State} (e1 : U.vm = V.vm) (e2 : U.heap = V.heap) (h : ab_C E U) : ab_C E V :=
  ab_K.same (by rw [e1]; exact Vm.Alike.refl _) (fun q => q.same e1) (fun a _ _ => by rw [e2]) (by rw [e2]; exact Nat.le_refl _) h
theorem ab_ws_at (E : En) (s : Mem) {k : Nat} (h1 : eLo E ≤ k) (h2 : k < 137) : (ab_ws E s)[k - eLo E]? = some (eAd E k, ab_ent E s k) := by
  unfold ab_ws
  rw [List.getElem?_map, List.getElem?_range (by omega)]
  simp only [Option.map_some]
  rw [show eLo E + (k - eLo E) = k by omega]
theorem ab_ws_D {E : En} {U : State} (s : Mem) (h : ab_C E U) : va_D (eA E) (ab_ws E s) := by
  obtain ⟨-, -, -, -, -, h6, h7, -⟩ := h
  have key : ∀ (i : Nat) (q : Nat × va_E), (ab_ws E s)[i]? = some q → eLo E + i < 137 ∧ q.1 = eAd E (eLo E + i) := by
    intro i q hq
    unfold ab_ws at hq
    rw [List.getElem?_map] at hq
    obtain ⟨j, hj, rfl⟩ := Option.map_eq_some_iff.mp hq
    obtain ⟨hlt, hv⟩ := List.getElem?_eq_some_iff.mp hj
    rw [List.length_range] at hlt
    rw [List.getElem_range] at hv
    subst hv
    exact ⟨by omega, rfl⟩
  refine ⟨fun i j p q hi hj e => ?_, fun i q hi => ?_⟩
  · obtain ⟨a1, a2⟩ := key i p hi
    obtain ⟨b1, b2⟩ := key j q hj
    rw [a2, b2] at e
    have := h6 _ _ (Nat.le_add_right _ _) a1 (Nat.le_add_right _ _) b1 e
    omega
  · obtain ⟨a1, a2⟩ := key i q hi
    rw [a2]
    exact h7 _ (Nat.le_add_right _ _) a1
theorem ab_ent_ne (E : En) (s : Mem) {k a j : Nat} (x : Int) (h : a ≠ k) : ab_ent E (mu s k j x) a = ab_ent E s a := by
  unfold ab_ent ab_fv
  rw [mu_ne s j x h]
theorem ab_ws_set (E : En) (s : Mem) {k : Nat} (j : Nat) (x : Int) (h1 : eLo E ≤ k) (h2 : k < 137) : (ab_ws E s).set (k - eLo E) (eAd E k, ab_ent E (mu s k j x) k) = ab_ws E (mu s k j x) := by
  apply List.ext_getElem?
  intro i
  rw [List.getElem?_set]
  by_cases hi : k - eLo E = i
  · subst hi
    rw [if_pos rfl, ab_ws_at E _ h1 h2, if_pos (by unfold ab_ws; rw [List.length_map, List.length_range]; omega)]
  · rw [if_neg hi]
    unfold ab_ws
    rw [List.getElem?_map, List.getElem?_map]
    cases hq : (List.range (137 - eLo E))[i]? with
    | none => rfl
    | some v =>
      obtain ⟨hlt, hv⟩ := List.getElem?_eq_some_iff.mp hq
      rw [List.getElem_range] at hv
      subst hv
      simp only [Option.map_some]
      rw [ab_ent_ne E s x (by omega)]
/-! ===== values, frames, the walk's predicate ===== -/
def ab_c (E : En) (v : AV) : Value := match v with
  | .inl x => .int (Int32.ofInt x)
  | .inr (.inl x) => .long (Int64.ofInt x)
  | .inr (.inr k) => .ref (eAd E k)
def ab_ok (E : En) (v : AV) : Prop := match v with
  | .inl x => r32 x
  | .inr (.inl x) => r64 x
  | .inr (.inr k) => eLo E ≤ k
def ab_cat (v : AV) : Nat := match v with
  | .inl _ => 1
  | .inr (.inl _) => 2
  | .inr (.inr _) => 1
theorem ab_cat_c (E : En) (v : AV) : (ab_c E v).category = ab_cat v := by
  rcases v with x | x | k <;> rfl
abbrev ab_c2 (E : En) (q : Nat × AV) : Nat × Value := (q.1, ab_c E q.2)
abbrev Bn : Type := Program × Launch × Env × Room × State × MethodId × Array Value × List Frame × Method × Code × Nat × Nat
def ab_X (E : En) (b : Bn) (Q : State → Prop) (nL pc : Nat) (ls : List (Nat × AV)) (st : List AV) (s : Mem) : Prop :=
  match b with
  | (p, l, e, R, s0, m, args, below, meth, c, cells, slots) => ∀ (H : Heap) (locs : List Loc) (a : Array Slot), ab_R E s H → va_S (eA E) s0.heap H locs → lv_has a nL (ls.map (ab_c2 E)) → (∀ q ∈ ls, ab_ok E q.2) → (∀ v ∈ st, ab_ok E v) → W p l e R s0 m args below meth c H locs cells slots Q (F0 m pc a (st.map (ab_c E)))
def ab_G (E : En) (b : Bn) (cc : ByteArray) (nL : Nat) (own : String) (ret : Option FieldType) (d : Nat) : Prop :=
  match b with
  | (p, _, _, R, s0, m, _, _, meth, c, cells, slots) => p.tables.exec = Jvm.exec ∧ c.code = cc ∧ c.maxLocals = nL ∧ s0.vm.findClass own = some m.cls ∧ ab_C E s0 ∧ meth.sig.returnType = ret ∧ meth.locks = false ∧ d ≤ R.frames ∧ 40 * d ≤ R.locals ∧ cells ≤ R.cells ∧ slots ≤ R.slots
def ab_P (E : En) (av : List AV) (s : Mem) : Array Value → State → Prop := fun v U => v = (av.map (ab_c E)).toArray ∧ ab_C E U ∧ ab_R E s U.heap ∧ ∀ v ∈ av, ab_ok E v
def ab_Q (E : En) (r : Option AV) (s : Mem) : Array Value → State → Outcome → State → Prop := fun _ st oc t => oc = .returned (r.map (ab_c E)) ∧ ab_R E s t.heap ∧ (∀ v, r = some v → ab_ok E v) ∧ va_F (eA E) st t
def ab_rm (d : Nat) : Room := { frames := d, cells := 0, slots := 0, locals := 40 * d }
/-- a method's contract: from these arguments and this memory it comes back with this answer and that memory -/
def ab_Run (E : En) (d : Nat) (y : MethodName) (cc : ByteArray) (maxL : Nat) (ret : Option FieldType) (av : List AV) (r : Option AV) (s s' : Mem) : Prop :=
  ∀ l : Launch, Met l y [Cond.code y cc maxL ret] (ab_rm d) (ab_P E av s) (ab_Q E r s') 0 0 (eA E)
def ab_MQ (E : En) (b : Bn) (r : Option AV) (s : Mem) : State → Prop :=
  match b with
  | (_, _, _, _, s0, _, args, below, _, _, cells, slots) => MQ below (ab_Q E r s) args s0 cells slots (eA E)
def ab_args : Nat → List AV → List (Nat × AV)
  | _, [] => []
  | i, v :: vs => (i, v) :: ab_args (i + ab_cat v) vs

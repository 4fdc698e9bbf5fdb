/-! ===== the law's start ===== -/
/-! THE CLAIM OUT OF ONE WALK OF THE LAW'S BODY. Your part is whole_start (and what it stands on); all else here is the same for every law, but numbers. -/
def R_law : String := "StormHarboursLaw"
def lw_P (b : Addr) (xs : List Int32) (args : Array Value) (s : State) : Prop := args = #[.ref b] ∧ s.IntsAt b xs ∧ xs.length ≤ 2560 ∧ (Jvm.Cond.and given_1 narrow_1).before args s = true
def lw_Q (_ : Array Value) (s : State) (o : Outcome) (t : State) : Prop := o = .returned (some (.int 1)) ∧ Framed s o t [] 600000 7302250
def lw_Z (below : List Frame) (a : Array Value) (s : State) : State → Prop := fun t => ∃ o, t.status = .running ∧ Ended t below o ∧ lw_Q a s o t
/-- the law's own end, with 1 on the stack, nothing written that was there before, its room as the claim has it -/
theorem lw_ret {p : Program} {l : Launch} {e : Env} {s : State} {m : MethodId} {below : List Frame} {meth : Method} {c : Code} {b : Nat} (hx : p.tables.exec = Jvm.exec) (hb : c.code = code) (hr : meth.sig.returnType = ret) (hlocks : meth.locks = false) {pc : Nat} {H : Heap} {ls : Array Slot} (hdg : decode code pc = .ok (.ireturn, 1)) : W p l e room_1 s m #[Value.ref b] below meth c H [] 600000 7302250 (lw_Z below #[Value.ref b] s) (F0 m pc ls [.int 1]) := by
  intro T hT X
  obtain ⟨fs, hret, hrun, hended, hW, hframe⟩ := X.leave (v := some (.int 1)) (hlocks := hlocks) (fun h => by rw [hr] at h; cases h)
  have hmeth' : T.vm.method? m = some meth := X.method'
  refine ⟨T.setFrames fs, ?_, .returned (some (.int 1)), hrun, hended, rfl, ⟨_, rfl⟩, hW, hframe⟩
  jvm_step X.here [X.here.top, hx, hb, hdg, hmeth', hr, ret, narrow_b1]
  (try refine ⟨rfl, ?_⟩); (try refine ⟨rfl, ?_⟩)
  first | (intro acts; rw [hret _ acts rfl rfl rfl]) | rw [hret _ _ rfl rfl rfl]
  exact Steps.refl _
/-- what holds at the law's entry: the machine, the code, the tables' words (any of lw_tbl by 'hts w (by decide +kernel)'), the script of L ints xs at the cell b, what the Statement gives of the start (any of its parts by flat_of_before) -/
def lw_At (p : Program) (s : State) (m : MethodId) (meth : Method) (c : Code) (b L : Nat) (xs : Nat → Int32) : Prop :=
  p.tables.exec = Jvm.exec ∧ c.code = code ∧ meth.sig.returnType = ret ∧ c.maxLocals = 4 ∧ s.vm.findClass R_law = some m.cls ∧ (∀ w ∈ lw_tbl, w.before #[Value.ref b] s = true) ∧ va_X b L xs s s.heap ∧ b < s.heap.size ∧ meth.locks = false ∧ (Jvm.Cond.and given_1 narrow_1).before #[Value.ref b] s = true

theorem ar_of {s : State} {cA : ClassId} {kA : Class} {comp : ClassId} {ty : FieldType} (h2 : s.vm.classes[cA]? = some kA) (h3 : kA.kind = .array comp ty) : ArrOfT s cA ty := fun n z => ⟨fun k h => (by cases h), kA, h2, comp, h3⟩
theorem ca_of {s : State} {A : Array Value} {ty : FieldType} (hty : ty = .byte ∨ ty = .int ∨ ty = .long ∨ ty = .boolean) (h : (Cond.arrayClass ty).before A s = true) : ∃ c, ArrOfT s c ty ∧ va_RA s c ty := by
  obtain ⟨c, k, comp, h1, h2, h3⟩ := Cond.arrayClass_spec h
  refine ⟨c, ar_of h2 h3, ?_⟩
  rcases hty with rfl | rfl | rfl | rfl <;> exact h1
theorem ca_ofA {s : State} {A : Array Value} {t : FieldType} (h : (Cond.arrayOver (.array t)).before A s = true) : ∃ c, ArrOfT s c (.array t) ∧ va_RA s c (.array t) := by
  obtain ⟨c, comp, k, h5, h1, h3, h4⟩ := mu_over h
  exact ⟨c, ar_of h3 h4, h5⟩
theorem ca_ofO {s : State} {A : Array Value} {C : String} (h : (Cond.arrayOver (.object C)).before A s = true) : ∃ c, ArrOfT s c (.object C) ∧ va_RA s c (.object C) := by
  obtain ⟨comp, c, k, h1, h2, h3, h4, h5⟩ := Cond.arrayOver_spec h
  exact ⟨c, ar_of h3 h4, k, comp, h3, h4, h1, h5⟩
theorem lw_T {s : State} {A : Array Value} (hts : ∀ w ∈ lw_tbl, w.before A s = true) : nw_T s :=
  ⟨⟨hts (.arrayClass .byte) (List.mem_of_getElem? (i := 124) (by decide +kernel)), hts (.arrayClass .int) (List.mem_of_getElem? (i := 125) (by decide +kernel)), hts (.arrayClass .long) (List.mem_of_getElem? (i := 208) (by decide +kernel)), hts (.arrayClass .boolean) (List.mem_of_getElem? (i := 941) (by decide +kernel))⟩, hts (.arrayOver (.array .int)) (List.mem_of_getElem? (i := 133) (by decide +kernel)), hts (.arrayOver (.array .long)) (List.mem_of_getElem? (i := 135) (by decide +kernel)), hts (.arrayOver (.object "StormHarbours$Watch")) (List.mem_of_getElem? (i := 261) (by decide +kernel))⟩
theorem lw_CA {s : State} (h : nw_T s) : ∃ cA : Nat → ClassId, ∀ k, ArrOfT s (cA k) (ab_ft k) ∧ va_RA s (cA k) (ab_ft k) := by
  refine Classical.axiomOfChoice (r := fun k c => ArrOfT s c (ab_ft k) ∧ va_RA s c (ab_ft k)) (fun k => ?_)
  obtain ⟨⟨h1, h2, h3, h4⟩, h5, h6, h7⟩ := h
  unfold ab_ft
  split
  · exact ca_of (Or.inr (Or.inl rfl)) h2
  · exact ca_of (Or.inl rfl) h1
  · exact ca_of (Or.inr (Or.inr (Or.inr rfl))) h4
  · exact ca_of (Or.inr (Or.inr (Or.inl rfl))) h3
  · exact ca_ofA h5
  · exact ca_ofA h6
  · exact ca_ofO h7
theorem cl_known {s : State} {A : Array Value} (hts : ∀ w ∈ ab_TW, w.before A s = true) : ∃ D : va_G, va_K D vwCl [] s := by
  have key : ∀ {C : String} {T : u_T} {N n : Nat}, (∀ w ∈ u_ws C T N, w ∈ ab_TW) → Cond.instantiable C n ∈ ab_TW → ∃ q : ClassId × (Nat → Nat), u_Kn s C T N q.1 q.2 := fun hu hi => by
    obtain ⟨cC, iS, h⟩ := u_known hts hu (hts _ hi)
    exact ⟨(cC, iS), h⟩
  obtain ⟨q0, h0⟩ := key uw_0 wi_320
  obtain ⟨q1, h1⟩ := key uw_1 wi_310
  obtain ⟨q2, h2⟩ := key uw_2 wi_263
  obtain ⟨q3, h3⟩ := key uw_3 wi_216
  obtain ⟨q4, h4⟩ := key uw_4 wi_297
  obtain ⟨q5, h5⟩ := key uw_5 wi_127
  obtain ⟨q6, h6⟩ := key uw_6 wi_90
  obtain ⟨q7, h7⟩ := key uw_7 wi_210
  obtain ⟨q8, h8⟩ := key uw_8 wi_82
  obtain ⟨q9, h9⟩ := key uw_9 wi_864
  refine ⟨(fun c => ([q0, q1, q2, q3, q4, q5, q6, q7, q8, q9].getD c q0).1, fun c => ([q0, q1, q2, q3, q4, q5, q6, q7, q8, q9].getD c q0).2), fun c q hq => ?_, fun k q hk => by cases hk⟩
  match c, hq with
  | 0, hq => cases hq; exact h0
  | 1, hq => cases hq; exact h1
  | 2, hq => cases hq; exact h2
  | 3, hq => cases hq; exact h3
  | 4, hq => cases hq; exact h4
  | 5, hq => cases hq; exact h5
  | 6, hq => cases hq; exact h6
  | 7, hq => cases hq; exact h7
  | 8, hq => cases hq; exact h8
  | 9, hq => cases hq; exact h9
  | n + 10, hq => cases hq
abbrev lw_fl : List Cond := flatC (Jvm.Cond.and given_1 narrow_1)
abbrev st_tm (j : Nat) : Term := .static RX8 (st_nm.getD j "") "[I"
theorem st_w1 : ∀ j, j < 8 → lw_tbl[410 + 2 * j]? = some (Cond.laysStatic RX8 (st_nm.getD j "") "[I") := by decide +kernel
theorem st_w2 : ∀ j, j < 8 → Cond.arrayOf (st_tm j) .int ∈ lw_fl := by decide +kernel
theorem st_w3 : ∀ j, j < 8 → Cond.eq (.length (st_tm j)) (.int (Int32.ofNat (st_l (137 + j)))) ∈ lw_fl := by decide +kernel
theorem st_w4 : ∀ j, j < 8 → ∀ i, i < st_l (137 + j) → Cond.eq (.elem (st_tm j) (.int (Int32.ofNat i))) (.int (Int32.ofInt (st_c (137 + j) i))) ∈ lw_fl := by decide +kernel
theorem st_w5 : ∀ j, j < 8 → st_l (137 + j) < 2 ^ 31 := by decide +kernel
theorem st_known {s : State} {A : Array Value} {P : Nat → Prop} (hts : ∀ w ∈ lw_tbl, w.before A s = true) (hs : ∀ w ∈ lw_fl, w.before A s = true) (hA : ∀ a : Nat, a < s.heap.size → ¬ P a) : ∃ ad : Nat → Nat, ∀ j, j < 8 → va_Z RX8 (st_nm.getD j "") "[I" (.ref (ad j)) P s s.heap ∧ va_T .int (ad j) (st_l (137 + j)) (fun i => .int (Int32.ofInt (st_c (137 + j) i))) P s s.heap := by
  refine Classical.axiomOfChoice (r := fun j t => j < 8 → va_Z RX8 (st_nm.getD j "") "[I" (.ref t) P s s.heap ∧ va_T .int t (st_l (137 + j)) (fun i => .int (Int32.ofInt (st_c (137 + j) i))) P s s.heap) (fun j => ?_)
  by_cases hj : j < 8
  · obtain ⟨t, ht, hT⟩ := va_Tof (tm := st_tm j) (f := fun i => .int (Int32.ofInt (st_c (137 + j) i))) (st_w5 j hj) (hs _ (st_w2 j hj)) (va_eqt (hs _ (st_w3 j hj))) (fun i hi => va_eqt (hs _ (st_w4 j hj i hi))) hA
    exact ⟨t, fun _ => ⟨va_Zref (hts _ (List.mem_of_getElem? (st_w1 j hj))) (hts _ (List.mem_of_getElem? (i := 66) (by decide +kernel))) ht hA, hT⟩⟩
  · exact ⟨0, fun h => absurd h hj⟩
abbrev tx_tm : Term := .string RX8 77
theorem tx_w1 : Cond.exactly tx_tm "java/lang/String" ∈ lw_fl ∧ Cond.eq (.field tx_tm "java/lang/String" "coder" "B") (.int 0) ∈ lw_fl ∧ Cond.arrayOf (.field tx_tm "java/lang/String" "value" "[B") .byte ∈ lw_fl ∧ Cond.eq (.length (.field tx_tm "java/lang/String" "value" "[B")) (.int (Int32.ofNat 36)) ∈ lw_fl := by decide +kernel
theorem tx_w2 : ∀ j, j < 36 → Cond.eq (.elem (.field tx_tm "java/lang/String" "value" "[B") (.int (Int32.ofNat j))) (.int (tx0.getD j 0)) ∈ lw_fl := by decide +kernel
theorem tx_known {s : State} {A : Array Value} {P : Nat → Prop} (hs : ∀ w ∈ lw_fl, w.before A s = true) (hA : ∀ a : Nat, a < s.heap.size → ¬ P a) : ∃ x y : Nat, vk_S 1 [36] [tx0] (fun _ => x) (fun _ => y) P s s.heap ∧ tx_tm.eval A s none [] s = some (.ref x) := by
  obtain ⟨adK, adV, h1, h2⟩ := vk_Sof (N := 1) (tm := fun _ => tx_tm) (len := [36]) (byt := [tx0]) (A := P) (args := A) (s := s) (fun i hi => by rw [show i = 0 by omega]; decide) (fun i hi => hs _ tx_w1.1) (fun i hi => hs _ tx_w1.2.1) (fun i hi => hs _ tx_w1.2.2.1) (fun i hi => by rw [show i = 0 by omega]; exact hs _ tx_w1.2.2.2) (fun i hi => by rw [show i = 0 by omega]; exact fun j hj => hs _ (tx_w2 j hj)) (fun i j hi hj hn => absurd (show i = j by omega) hn) hA
  exact ⟨adK 0, adV 0, ⟨fun i hi => by rw [show i = 0 by omega]; exact h1.1 0 (by decide), fun i j hi hj _ => by omega⟩, h2 0 (by decide)⟩
theorem lw_env {p : Program} {s : State} {m : MethodId} {meth : Method} {c : Code} {b L : Nat} {xs : Nat → Int32} (C0 : lw_At p s m meth c b L xs) : ∃ E : En, (ab_C E s ∧ nw_E E ∧ eLo E = 0) ∧ nw_S E s ∧ nw_T s ∧ eS0 E = s.heap.size ∧ eAd E 148 = b := by
  have hts := C0.2.2.2.2.2.1
  have hs : ∀ w ∈ lw_fl, w.before #[Value.ref b] s = true := flat_of_before _ C0.2.2.2.2.2.2.2.2.2
  have hA : ∀ a : Nat, a < s.heap.size → ¬ (fun q => s.heap.size ≤ q) a := fun a h1 h2 => absurd h2 (by dsimp only; omega)
  have hW : ab_Ws s := fun w hw => va_Nw.of (ab_onT hw) (hts w (List.mem_filter.mp hw).1)
  have hT := lw_T hts
  obtain ⟨D, hD⟩ := cl_known (hW.use #[Value.ref b])
  obtain ⟨cA, hcA⟩ := lw_CA hT
  obtain ⟨ad, had⟩ := st_known (P := fun q => s.heap.size ≤ q) hts hs hA
  obtain ⟨x, y, hx, hxe⟩ := tx_known (P := fun q => s.heap.size ≤ q) hs hA
  have hi : ∀ w ∈ lw_tbl, w.before #[Value.ref b] s = true := hts
  refine ⟨(D, fun k => if k < 137 then s.heap.size + nw_o k else if k < 145 then ad (k - 137) else if k = 145 then x else if k = 146 then y else b, cA, 0, s.heap.size), ⟨⟨hW, hD, fun k _ _ _ => hcA k, fun j hj => ?_, Or.inl rfl, fun i j _ h1 _ h2 e => ?_, fun i _ h1 => ?_, Nat.le_refl _⟩, fun k hk => ?_, rfl⟩, ⟨⟨hx, ?_⟩, ?_, ?_⟩, hT, rfl, rfl⟩
  · have := had j hj
    dsimp only [eAd, eA]
    rw [if_neg (by omega), if_pos (by omega), show 137 + j - 137 = j by omega]
    exact this
  · dsimp only [eAd] at e
    rw [if_pos h1, if_pos h2] at e
    have h3 : nw_o i = nw_o j := by omega
    rw [← (nw_io i h1).1, ← (nw_io j h2).1, h3]
  · show s.heap.size ≤ (if i < 137 then s.heap.size + nw_o i else _)
    rw [if_pos h1]; omega
  · show (if k < 137 then s.heap.size + nw_o k else _) = _
    rw [if_pos hk]
  · exact vk_R.of (hts _ (List.mem_of_getElem? (i := 337) (by decide +kernel))) hxe
  · exact va_Zof (hts _ (List.mem_of_getElem? (i := 347) (by decide +kernel))) (hW.use _ _ wd_75) (va_eqt (hs _ (by decide +kernel))) hA
  · exact va_Zqof (hts _ (List.mem_of_getElem? (i := 363) (by decide +kernel))) (hW.use _ _ wd_77) (hs _ (by decide +kernel)) hA

/-! ===== grids, a row of references ===== -/
section NG
variable {E : En} {b : Bn} {Q : State → Prop} {nL pc : Nat} {ls : List (Nat × AV)} {st : List AV} {s : Mem} {φ : Wf} {n u c : Nat} {cc : ByteArray} {own : String} {d mc ms : Nat}
/-- the places of a grid's rows, all told -/
def nw_rows (k : Nat) : Nat → Wf → Wf
  | 0, φ => φ
  | j + 1, φ => (k, j) :: nw_rows k j φ
theorem ct_rows {k a g : Nat} (h : a ≠ k) : ∀ (N : Nat) (φ : Wf), (nw_rows k N φ).contains (a, g) = φ.contains (a, g)
  | 0, _ => rfl
  | N + 1, φ => by rw [nw_rows, ct_ne h, ct_rows h N φ]
theorem ct_rowk {k j : Nat} : ∀ (N : Nat) (φ : Wf), j < N → (nw_rows k N φ).contains (k, j) = true
  | 0, _, h => absurd h (by omega)
  | N + 1, φ, h => by
    rw [nw_rows]
    by_cases c : j = N
    · subst c; exact ct_self
    · rw [ct_ne2 c, ct_rowk N φ (by omega)]
theorem nw_ent_rows (E : En) (s : Mem) (φ : Wf) {k a : Nat} (N : Nat) (h : a ≠ k) : nw_ent E s (nw_rows k N φ) a = nw_ent E s φ a := by
  have e1 : nw_fv E s (nw_rows k N φ) a = nw_fv E s φ a := by
    funext g
    unfold nw_fv
    rw [ct_rows h]
  have e2 : ∀ m r, nw_gr E (nw_rows k N φ) a m r = nw_gr E φ a m r := fun m r => by
    funext j
    unfold nw_gr
    rw [ct_rows h]
  unfold nw_ent
  rw [e1, e2]
theorem nw_R.grows {H H1 : Heap} {k N M r : Nat} {ty : FieldType} (h : nw_R E s φ n H) (hN : n + 1 + N ≤ 137) (hE : nw_E E) (hk : nw_i n = k) (hr : ∀ j, j < N → nw_i (n + 1 + j) = r + j) (hshk : ab_sh k = (if ty = .long then 7 else 6, N, r)) (hshr : ∀ j, j < N → ab_sh (r + j) = (if ty = .long then 5 else 2, M, 0)) (hty : ty = .int ∨ ty = .long) (hz : ∀ j, j < N → ∀ f, s (r + j) f = 0) (hz1 : H1.size = H.size + 1 + N) (ho : ∀ q, q < H.size → H1[q]? = H[q]?) {cA comp : ClassId} (hcA : cA = eCA E k) (hco : ∀ j, j < N → comp = eCA E (r + j)) (h0 : H1[H.size]? = some (arrV cA N (fun j => .ref (H.size + 1 + j)))) (h1 : ∀ j, j < N → H1[H.size + 1 + j]? = some (arrV comp M (fun _ => defaultValue ty))) : nw_R E s (nw_rows k N φ) (n + 1 + N) H1 := by
  have hok : ∀ i, i < n → nw_i i ≠ k := fun i hi e => by
    have a1 := (nw_oi i (by omega)).1
    have a2 := (nw_oi n (by omega)).1
    rw [hk] at a2
    rw [e] at a1
    omega
  have hrk : ∀ j, j < N → r + j ≠ k := fun j hj e => by
    have a1 := (nw_oi (n + 1 + j) (by omega)).1
    have a2 := (nw_oi n (by omega)).1
    rw [hk] at a2
    rw [hr j hj, e] at a1
    omega
  refine ⟨fun i q hq => ?_, by rw [hz1, h.2]; omega⟩
  obtain ⟨hi, rfl⟩ := nw_get hq
  rcases Nat.lt_or_ge i n with c1 | c1
  · rw [nw_ent_rows E s φ N (hok i c1)]
    exact (h.1 i _ (nw_at E s φ c1)).kept (ho _ (by rw [h.2]; show eS0 E + i < eS0 E + n; omega))
  · rcases Nat.lt_or_ge n i with c2 | c2
    · obtain ⟨j, rfl⟩ : ∃ j, i = n + 1 + j := ⟨i - n - 1, by omega⟩
      have hj : j < N := by omega
      rw [hr j hj]
      have h2 := h1 j hj
      rw [h.2] at h2
      unfold nw_ent
      rw [if_neg (by rw [hshr j hj]; dsimp only; split <;> decide), if_pos (by rw [hshr j hj]; dsimp only; split <;> decide)]
      rcases hty with rfl | rfl
      · rw [ent_I (by rw [hshr j hj]; exact Or.inl rfl)]
        show H1[eS0 E + (n + 1 + j)]? = some (vp_cell (eCA E (r + j)) ((ab_sh (r + j)).2.1, .inl (fun f => Int32.ofInt (s (r + j) f))))
        rw [show eS0 E + (n + 1 + j) = eS0 E + n + 1 + j by omega, h2, vp_cell_i, ← hco j hj, hshr j hj]
        exact congrArg some (av_cg (fun f _ => by rw [hz j hj f]; rfl))
      · rw [ent_L (by rw [hshr j hj]; rfl)]
        show H1[eS0 E + (n + 1 + j)]? = some (vp_cell (eCA E (r + j)) ((ab_sh (r + j)).2.1, .inr (.inl (fun f => Int64.ofInt (s (r + j) f)))))
        rw [show eS0 E + (n + 1 + j) = eS0 E + n + 1 + j by omega, h2, vp_cell_l, ← hco j hj, hshr j hj]
        exact congrArg some (av_cg (fun f _ => by rw [hz j hj f]; rfl))
    · have e : i = n := by omega
      subst e
      rw [hk]
      unfold nw_ent
      rw [if_neg (by rw [hshk]; dsimp only; split <;> decide), if_neg (by rw [hshk]; dsimp only; split <;> decide)]
      show H1[eS0 E + i]? = some (vp_cell (eCA E k) ((ab_sh k).2.1, .inr (.inr (.inr (.inr (nw_gr E (nw_rows k N φ) k (ab_sh k).2.1 (ab_sh k).2.2))))))
      rw [← h.2, h0, vp_cell_q, hshk, hcA]
      refine congrArg some (av_cg (fun j hj => ?_))
      dsimp only
      unfold nw_gr
      rw [if_neg (fun z => by rw [ct_rowk N φ hj] at z; exact absurd z.2 (by decide))]
      show Value.ref _ = Value.ref _
      have hrj : r + j < 137 := by
        have := (nw_oi (i + 1 + j) (by omega)).2
        rw [hr j hj] at this; exact this
      have ho2 := (nw_oi (i + 1 + j) (by omega)).1
      rw [hr j hj] at ho2
      have e3 : eAd E (r + j) = eS0 E + (i + 1 + j) := by rw [hE (r + j) hrj, ho2]
      have e4 := h.2
      have e5 : Array.size H + 1 + j = eAd E (r + j) := by rw [e3, e4]; omega
      exact congrArg Value.ref e5
theorem n_multi (G : nw_G E b cc nL own d mc ms) {idx k N M r : Nat} {ty : FieldType} {x y : Int} (hty : ty = .int ∨ ty = .long) (w1 : Cond.classLink own idx ("[" ++ (FieldType.array ty).toString) ∈ ab_TW) (w2 : ∀ U, nw_T U → (Cond.arrayOver (.array ty)).before #[] U = true) (w3 : ∀ U, nw_T U → (Cond.arrayClass ty).before #[] U = true) (hk : nw_i n = k) (hr : ∀ j, j < N → nw_i (n + 1 + j) = r + j) (hshk : ab_sh k = (if ty = .long then 7 else 6, N, r)) (hshr : ∀ j, j < N → ab_sh (r + j) = (if ty = .long then 5 else 2, M, 0)) (hz : ∀ j, j < N → ∀ f, s (r + j) f = 0) (hx : x = N) (hy : y = M) (hN : 0 < N ∧ N < 1000) (hM : M < 1000) (hm : u + (1 + N) ≤ mc ∧ c + (N + N * M) ≤ ms) (hn : n + 1 + N ≤ 137) (hd : decode cc pc = .ok (.multianewarray idx 2, 4)) (kk : nw_X E b Q nL (pc + 4) ls (vR k :: st) s (nw_rows k N φ) (n + 1 + N) (u + (1 + N)) (c + (N + N * M))) : nw_X E b Q nL pc ls (vI y :: vI x :: st) s φ n u c := by
  obtain ⟨p, l, e, R, s0, m, args, below, meth, cd, cells, slots⟩ := b
  intro H locs a hcn hR hS hl ho hs
  have hts := G.2.1.1.1.use args
  have hk137 := (nw_oi n (by omega)).2
  have hok := (nw_oi n (by omega)).1
  rw [hk] at hk137 hok
  have had : eAd E k = eS0 E + n := by rw [G.2.1.2.1 k hk137, hok]
  have hmm := G.2.2.2.1
  have hCk := G.2.1.1.2.2.1 k (by rw [G.2.1.2.2]; omega) hk137 (by rw [hshk]; dsimp only; split <;> decide)
  have hxe : Int32.ofInt x = nI N := by rw [hx]; rfl
  have hye : Int32.ofInt y = nI M := by rw [hy]; rfl
  refine W.multi2 (N := N) (M := M) (rest := st.map (ab_c E)) G.1.1 G.1.2.1 G.1.2.2.2 (hts _ w1) (ao_args (w2 s0 G.2.2.2.2.1.2)) (ac_args (w3 s0 G.2.2.2.2.1.2)) rfl hd (by show [Value.int (Int32.ofInt y), Value.int (Int32.ofInt x)] ++ _ = _; rw [hxe, hye]; rfl) hN.1 hN.2 hM (by rcases hty with rfl | rfl <;> decide) (by rcases hty with rfl | rfl <;> decide) (by omega) (by omega) fun H1 cA comp fA fC z1 o1 hO hI => ?_
  have hcA : cA = eCA E k := by
    have h2 := hCk.2
    have : s0.vm.findClass ("[" ++ (FieldType.array ty).toString) = some (eCA E k) := by
      rcases hty with rfl | rfl
      · have e : ab_ft k = .array .int := by unfold ab_ft; rw [hshk]; rfl
        rw [e] at h2; exact h2
      · have e : ab_ft k = .array .long := by unfold ab_ft; rw [hshk]; rfl
        rw [e] at h2; exact h2
    exact Option.some.inj (fA.symm.trans this)
  have hco : ∀ j, j < N → comp = eCA E (r + j) := fun j hj => by
    have hrj : r + j < 137 := by
      have := (nw_oi (n + 1 + j) (by omega)).2
      rw [hr j hj] at this; exact this
    have h2 := (G.2.1.1.2.2.1 (r + j) (by rw [G.2.1.2.2]; omega) hrj (by rw [hshr j hj]; dsimp only; split <;> decide)).2
    have : s0.vm.findClass (FieldType.array ty).toString = some (eCA E (r + j)) := by
      rcases hty with rfl | rfl
      · have e : ab_ft (r + j) = .int := by unfold ab_ft; rw [hshr j hj]; rfl
        rw [e] at h2; exact h2
      · have e : ab_ft (r + j) = .long := by unfold ab_ft; rw [hshr j hj]; rfl
        rw [e] at h2; exact h2
    exact Option.some.inj (fC.symm.trans this)
  have hR1 := hR.grows (N := N) (M := M) (r := r) (ty := ty) hn G.2.1.2.1 hk hr hshk hshr hty hz z1 o1 hcA hco hO hI
  have hS1 : va_S (eA E) s0.heap H1 locs := ⟨Nat.le_trans hS.1 (by omega), fun q h1 h2 => (o1 q (Nat.lt_of_lt_of_le h1 hS.1)).trans (hS.2.1 q h1 h2), hS.2.2⟩
  have := kk H1 locs a (by omega) hR1 hS1 hl ho (okc (show eLo E ≤ k by rw [G.2.1.2.2]; omega) (oks (oks hs).2).2)
  rw [show ((vR k :: st).map (ab_c E)) = .ref (eAd E k) :: st.map (ab_c E) from rfl, had, ← Nat.add_assoc cells, ← Nat.add_assoc slots, ← hR.2] at this
  exact this
end NG

section NK
variable {E : En} {b : Bn} {Q : State → Prop} {nL pc : Nat} {ls : List (Nat × AV)} {st : List AV} {s : Mem} {φ : Wf} {n u c : Nat} {cc : ByteArray} {own : String} {d mc ms : Nat}
theorem n_anew (G : nw_G E b cc nL own d mc ms) {idx k N r : Nat} {C : String} {x : Int} (w1 : Cond.classLink own idx C ∈ ab_TW) (w2 : ∀ U, nw_T U → (Cond.arrayOver (.object C)).before #[] U = true) (hk : nw_i n = k) (hsh : ab_sh k = (8, N, r)) (hft : ab_ft k = .object C) (hφ : ∀ j, j < N → φ.contains (k, j) = false) (hx : x = N) (hN : N < 1000) (hm : u + 1 ≤ mc ∧ c + N ≤ ms) (hn : n < 137) (hd : decode cc pc = .ok (.anewarray idx, 3)) (kk : nw_X E b Q nL (pc + 3) ls (vR k :: st) s φ (n + 1) (u + 1) (c + N)) : nw_X E b Q nL pc ls (vI x :: st) s φ n u c := by
  obtain ⟨p, l, e, R, s0, m, args, below, meth, cd, cells, slots⟩ := b
  intro H locs a hcn hR hS hl ho hs
  have hts := G.2.1.1.1.use args
  have hk137 := (nw_oi n hn).2
  have hok := (nw_oi n hn).1
  rw [hk] at hk137 hok
  have had : eAd E k = eS0 E + n := by rw [G.2.1.2.1 k hk137, hok]
  have hmm := G.2.2.2.1
  have hne : (ab_sh k).1 ≠ 1 := by rw [hsh]; show (8 : Nat) ≠ 1; decide
  have hCk := G.2.1.1.2.2.1 k (by rw [G.2.1.2.2]; omega) hk137 hne
  rw [hft] at hCk
  have hxn : Int32.ofInt x = nI N := by rw [hx]; rfl
  have eN : (nI N).toNatClampNeg = N := nI_clamp (by omega)
  refine W.anew (rest := st.map (ab_c E)) (n := nI N) G.1.1 G.1.2.1 G.1.2.2.2 (hts _ w1) (ao_args (w2 s0 G.2.2.2.2.1.2)) rfl hd (by show Value.int (Int32.ofInt x) :: _ = _; rw [hxn]) (nI_pos (by omega)) (by rw [eN]; omega) (by omega) (by rw [eN]; omega) fun cA kA comp f1 f2 f3 f4 => ?_
  rw [eN]
  have hcA : cA = eCA E k := by
    obtain ⟨kA', comp', g1, g2, g3, g4⟩ := hCk.2
    exact Option.some.inj (f1.symm.trans g4)
  generalize hH1 : H.push ({ cls := cA, slots := Array.replicate N .null, vm := .none } : Cell) = H1
  have z1 : H1.size = H.size + 1 := by rw [← hH1, Array.size_push]
  have e1 : H1[H.size]? = some (arrV cA N (fun _ => .null)) := by rw [← hH1, Array.getElem?_push_size, ← arrV_new]
  have o1 : ∀ q : Nat, q < H.size → H1[q]? = H[q]? := fun q hq => by rw [← hH1, Array.getElem?_push, if_neg (Nat.ne_of_lt hq)]
  have hR1 : nw_R E s φ (n + 1) H1 := by
    refine hR.grow z1 o1 ?_
    rw [hk]
    unfold nw_ent
    rw [if_neg hne, if_neg (by rw [hsh]; show ¬ (8 : Nat) < 6; decide)]
    show H1[eS0 E + n]? = some (vp_cell (eCA E k) ((ab_sh k).2.1, .inr (.inr (.inr (.inr (nw_gr E φ k (ab_sh k).2.1 (ab_sh k).2.2))))))
    rw [← hR.2, e1, vp_cell_q, hsh, hcA]
    refine congrArg some (av_cg (fun j hj => ?_))
    dsimp only
    unfold nw_gr
    rw [if_pos ⟨hj, hφ j hj⟩]; rfl
  have hS1 : va_S (eA E) s0.heap H1 locs := ⟨Nat.le_trans hS.1 (by omega), fun q h1 h2 => (o1 q (Nat.lt_of_lt_of_le h1 hS.1)).trans (hS.2.1 q h1 h2), hS.2.2⟩
  have := kk H1 locs a (by omega) hR1 hS1 hl ho (okc (show eLo E ≤ k by rw [G.2.1.2.2]; omega) (oks hs).2)
  rw [show ((vR k :: st).map (ab_c E)) = .ref (eAd E k) :: st.map (ab_c E) from rfl, had, ← Nat.add_assoc cells u 1, ← Nat.add_assoc slots c N, ← hR.2] at this
  exact this
theorem n_aast (G : nw_G E b cc nL own d mc ms) {k N r j t ci N' : Nat} {C : String} {T : u_T} {x : Int} (hsh : ab_sh k = (8, N, r)) (hft : ab_ft k = .object C) (hc : vwCl[ci]? = some (C, T, N')) (hj : j < N) (hx : x = j) (hN : N < 1000) (ht : r + j = t) (hsht : ab_sh t = (1, ci, 0)) (hk137 : k < 137) (hkn : nw_o k < n) (htn : nw_o t < n) (hn : n ≤ 137) (hd : decode cc pc = .ok (.aastore, 1)) (kk : nw_X E b Q nL (pc + 1) ls st s ((k, j) :: φ) n u c) : nw_X E b Q nL pc ls (vR t :: vI x :: vR k :: st) s φ n u c := by
  have ht137 := sh_lt hsht
  obtain ⟨p, l, e, R, s0, m, args, below, meth, cd, cells, slots⟩ := b
  intro H locs a hcn hR hS hl ho hs
  have hne : (ab_sh k).1 ≠ 1 := by rw [hsh]; show (8 : Nat) ≠ 1; decide
  have hK := ab_K1 G.2.1.1 (k := k) (by rw [G.2.1.2.2]; omega) hk137 hne hft
  have hxn : Int32.ofInt x = nI j := by rw [hx]; rfl
  have hent : ∀ φ : Wf, nw_ent E s φ k = .inl (eCA E k, N, .inr (.inr (.inr (.inr (nw_gr E φ k N r))))) := fun φ => by
    unfold nw_ent
    rw [if_neg hne, if_neg (by rw [hsh]; show ¬ (8 : Nat) < 6; decide), hsh]
  show W p l e R s0 m args below meth cd H locs (cells + u) (slots + c) Q (F0 m pc a (.ref (eAd E t) :: .int (Int32.ofInt x) :: .ref (eAd E k) :: st.map (ab_c E)))
  rw [hxn]
  refine va_astq (D := eD E) (cA := eCA E k) (r := (C, T, N')) (n := N) (f := nw_gr E φ k N r) (vs := (List.range (ab_nf.getD ci 0)).map (nw_fv E s φ t)) G.1.1 G.1.2.1 hK hR.1 (nw_D E s φ n) hS (nw_o k) 0 (nw_o t) ci (by rw [nw_atk G.2.1.2.1 s φ hk137 hkn, hent]) rfl (by rw [nw_atk G.2.1.2.1 s φ ht137 htn, nw_entO E s φ hsht]) hc (vp_in_nI hj (by omega)) hd (fun H1 locs1 hP hD hS1 => ?_)
  have e : va_up (nw_gr E φ k N r) (nI j).toNatClampNeg (some (eAd E t)) = nw_gr E ((k, j) :: φ) k N r := by
    rw [nI_clamp (by omega)]
    funext i
    unfold va_up nw_gr
    by_cases ci : i = j
    · subst ci
      rw [if_pos rfl, if_neg (fun z => by rw [ct_self] at z; exact absurd z.2 (by decide)), ht]
    · rw [if_neg ci, ct_ne2 ci]
  rw [e, ← hent, nw_set G.2.1.2.1 s φ j hk137 hkn hn] at hP
  exact W_size (fun hz => kk H1 locs1 a hcn (nw_R.of hP (by omega) (by omega)) hS1 hl ho (oks (oks (oks hs).2).2).2)
end NK

/-! ===== CELLS THAT ARE MADE ===== -/
theorem aw_w_app {b : Nat} {dA : Nat → ClassId} {sh : List aw_H} {σ : aw_S} {x : aw_H} : aw_w b dA (sh ++ [x]) σ = aw_w b dA sh σ ++ [(b + sh.length, aw_ce b dA σ sh.length x)] := by
  unfold aw_w
  exact List.mapIdx_concat
theorem aw_Hp_new {G : aw_G} {A : Nat → Prop} {s : State} {H H1 : Heap} {locs : List Loc} {sh : List aw_H} {σ : aw_S} {kc : Nat} {x : aw_H} (P : aw_Hp G A s H locs sh σ kc) (hal : G.2.2.2.2) (hz : H.size = G.2.2.2.1 + sh.length) (z1 : H1.size = H.size + 1) (o1 : ∀ q, q < H.size → H1[q]? = H[q]?) (hc : va_at (G.1, G.2.1) vwCl (G.2.2.2.1 + sh.length, aw_ce G.2.2.2.1 G.2.2.1 σ sh.length x) H1) : aw_Hp G A s H1 locs (sh ++ [x]) σ (kc + 1) := by
  obtain ⟨h1, h2, h3⟩ := P.2.2.2 hal
  refine ⟨?_, ⟨Nat.le_trans P.2.1.1 (by omega), fun q p1 p2 => (o1 q (Nat.lt_of_lt_of_le p1 P.2.1.1)).trans (P.2.1.2.1 q p1 p2), P.2.1.2.2⟩, fun k hk => h3 _ (Nat.le_add_right _ _), fun _ => ⟨by rw [List.length_append]; show s.heap.size + (kc + 1) = _ + (sh.length + 1); omega, h2, h3⟩⟩
  rw [aw_w_app]
  refine (P.1.kept (fun k q hq => o1 q.1 ((P.1 k q hq).lt))).app (fun k q hq => ?_)
  have hk : k < 1 := (List.getElem?_eq_some_iff.mp hq).1
  rw [show k = 0 by omega] at hq
  cases hq
  exact hc
/-- a new array of numbers -/
theorem aw_newI {l : Launch} {M : aw_M} {G : aw_G} {B : aw_B} {E : aw_E} {pc : Nat} {loc : List (Nat × Value)} {st : List Value} {sh : List aw_H} {σ : aw_S} {kc ks : Nat} {atype : ArrayType} {kd N : Nat} {ty : FieldType} (hal : G.2.2.2.2) (harr : Cond.arrayClass (newarray.typeOf atype) ∈ wsL_law) (hty : newarray.typeOf atype = ty) (hkd : (kd = 0 ∧ ty = .int) ∨ (kd = 1 ∧ ty = .byte) ∨ (kd = 2 ∧ ty = .boolean) ∨ (kd = 3 ∧ ty = .long)) (h0 : ∀ j, σ.1 sh.length j = 0 ∧ σ.2.1 sh.length j = 0) (hN : N < 67108864) (hr : kc + 1 ≤ B.2.2.1 ∧ ks + N ≤ B.2.2.2) (hd : decode M.2.1 pc = .ok (.newarray atype, 2))
    (k : aw_W l M G B E (pc + 2) loc (.ref sh.length :: st) (sh ++ [.inr (kd, N, aw_no)]) σ (kc + 1) (ks + N)) : aw_W l M G B E pc loc (.int (nI N) :: st) sh σ kc ks := by
  intro p e R s m args below meth c A H locs ls C P L
  refine aw_sz P (fun hz => ?_)
  have hz := hz hal
  have hroomR := C.2.2.2.2.2.2.2.1
  have hK := C.2.2.2.2.2.2.2.2.1
  have hb : N * componentBytes (newarray.typeOf atype) ≤ 536870912 := by
    rw [hty]
    rcases hkd with ⟨_, rfl⟩ | ⟨_, rfl⟩ | ⟨_, rfl⟩ | ⟨_, rfl⟩
    · show N * 4 ≤ _; omega
    · show N * 1 ≤ _; omega
    · show N * 1 ≤ _; omega
    · show N * 8 ≤ _; omega
  refine va_newaK C.1 C.2.1 (C.2.2.2.2.2.2.1 _ harr) rfl hd rfl (nI_pos (by omega)) (nI_clamp (by omega)) hb (Nat.le_trans hr.1 hroomR.2.2.1) (Nat.le_trans hr.2 hroomR.2.2.2) hz (fun H1 cA e1 z1 o1 hAr hNm => ?_)
  rw [hty] at e1 hNm
  have hcA : cA = G.2.2.1 kd ∧ va_at (G.1, G.2.1) vwCl (G.2.2.2.1 + sh.length, aw_ce G.2.2.2.1 G.2.2.1 σ sh.length (.inr (kd, N, aw_no))) H1 := by
    have hi : (fun j => Value.int (σ.1 sh.length j)) = fun _ => Value.int 0 := funext fun j => by rw [(h0 j).1]
    have hl : (fun j => Value.long (σ.2.1 sh.length j)) = fun _ => Value.long 0 := funext fun j => by rw [(h0 j).2]
    rcases hkd with ⟨rfl, rfl⟩ | ⟨rfl, rfl⟩ | ⟨rfl, rfl⟩ | ⟨rfl, rfl⟩
    · have e : cA = G.2.2.1 0 := Option.some.inj (hNm.symm.trans (hK.2 0 _ rfl).2)
      refine ⟨e, ?_⟩
      rw [aw_ar_i (by decide)]
      show H1[_]? = some (vp_cell _ (N, .inl (σ.1 sh.length)))
      rw [vp_cell_i, hi, ← e]; exact e1
    · have e : cA = G.2.2.1 1 := Option.some.inj (hNm.symm.trans (hK.2 1 _ rfl).2)
      refine ⟨e, ?_⟩
      rw [aw_ar_i (by decide)]
      show H1[_]? = some (vp_cell _ (N, .inl (σ.1 sh.length)))
      rw [vp_cell_i, hi, ← e]; exact e1
    · have e : cA = G.2.2.1 2 := Option.some.inj (hNm.symm.trans (hK.2 2 _ rfl).2)
      refine ⟨e, ?_⟩
      rw [aw_ar_i (by decide)]
      show H1[_]? = some (vp_cell _ (N, .inl (σ.1 sh.length)))
      rw [vp_cell_i, hi, ← e]; exact e1
    · have e : cA = G.2.2.1 3 := Option.some.inj (hNm.symm.trans (hK.2 3 _ rfl).2)
      refine ⟨e, ?_⟩
      rw [aw_ar_l]
      show H1[_]? = some (vp_cell _ (N, .inr (.inl (σ.2.1 sh.length))))
      rw [vp_cell_l, hl, ← e]; exact e1
  exact k p e R s m args below meth c A H1 locs ls C (aw_Hp_new P hal hz (by omega) (fun q hq => o1 q (by omega)) hcA.2) L
/-- a new object, its fields as they are born -/
theorem aw_newC {l : Launch} {M : aw_M} {G : aw_G} {B : aw_B} {E : aw_E} {pc : Nat} {loc : List (Nat × Value)} {st : List Value} {sh : List aw_H} {σ : aw_S} {kc ks idx ci N : Nat} {Cn : String} {T : u_T} {ty : Nat → FieldType} {fs : List aw_F} (hal : G.2.2.2.2) (hin : ∀ w ∈ u_ws Cn T N, w ∈ wsL_law) (hty : ∀ k, k < N → parseFieldDescriptor (T k).2.2.1 = some (ty k)) (hcl : Cond.classLink M.1 idx Cn ∈ wsL_law) (hinst : Cond.instantiable Cn N ∈ wsL_law) (hini : Cond.initialized Cn ∈ wsL_law) (hc : vwCl[ci]? = some (Cn, T, N)) (hfs : ∀ b, ∀ j, j < N → defaultValue (ty j) = vp_V (fs.mapIdx (fun j f => aw_fv b σ sh.length j f)) j) (hr : kc + 1 ≤ B.2.2.1 ∧ ks + N ≤ B.2.2.2) (hd : decode M.2.1 pc = .ok (.new idx, 3))
    (k : aw_W l M G B E (pc + 3) loc (.ref sh.length :: st) (sh ++ [.inl (ci, fs)]) σ (kc + 1) (ks + N)) : aw_W l M G B E pc loc st sh σ kc ks := by
  intro p e R s m args below meth c A H locs ls C P L
  refine aw_sz P (fun hz => ?_)
  have hz := hz hal
  have hroomR := C.2.2.2.2.2.2.2.1
  have hts := C.2.2.2.2.2.2.1
  have hKn := C.2.2.2.2.2.2.2.2.1.1 ci _ hc
  refine W.newcK C.1 C.2.1 C.2.2.2.2.1 (hts _ hcl) (hts _ hinst) (hts _ hini) rfl hd (Nat.le_trans hr.1 hroomR.2.2.1) (Nat.le_trans hr.2 hroomR.2.2.2) hKn.2.1 hz fun H1 kC hkC e1 z1 o1 => ?_
  exact k p e R s m args below meth c A H1 locs ls C (aw_Hp_new P hal hz (by omega) (fun q hq => o1 q (by omega)) ⟨_, hc, (u_born ty hts hin hKn hkC e1 hty).to (hfs G.2.2.2.1)⟩) L

/-! ===== ARRAYS OF REFERENCES: made, stored into ===== -/
theorem aw_newQ {l : Launch} {M : aw_M} {G : aw_G} {B : aw_B} {E : aw_E} {pc : Nat} {loc : List (Nat × Value)} {st : List Value} {sh : List aw_H} {σ : aw_S} {kc ks idx N : Nat} (hal : G.2.2.2.2) (hcl : Cond.classLink M.1 idx "LateMover$Text" ∈ wsL_law) (hN : N < 67108864) (hr : kc + 1 ≤ B.2.2.1 ∧ ks + N ≤ B.2.2.2) (hd : decode M.2.1 pc = .ok (.anewarray idx, 3))
    (k : aw_W l M G B E (pc + 3) loc (.ref sh.length :: st) (sh ++ [.inr (5, N, aw_no)]) σ (kc + 1) (ks + N)) : aw_W l M G B E pc loc (.int (nI N) :: st) sh σ kc ks := by
  intro p e R s m args below meth c A H locs ls C P L
  refine aw_sz P (fun hz => ?_)
  have hz := hz hal
  have hroomR := C.2.2.2.2.2.2.2.1
  have hK := C.2.2.2.2.2.2.2.2.1
  have eN : (nI N).toNatClampNeg = N := nI_clamp (by omega)
  refine W.anew C.1 C.2.1 C.2.2.2.2.1 (C.2.2.2.2.2.2.1 _ hcl) (va_AO.use C.2.2.2.2.2.2.2.2.2.2.2.1) rfl hd rfl (nI_pos (by omega)) (by rw [eN]; omega) (Nat.le_trans hr.1 hroomR.2.2.1) (by rw [eN]; exact Nat.le_trans hr.2 hroomR.2.2.2) fun cA kA comp f1 f2 f3 f4 => ?_
  rw [eN, hz]
  obtain ⟨kA', comp', _, _, _, e5⟩ := (hK.2 5 _ rfl).2
  have eA : cA = G.2.2.1 5 := Option.some.inj (f1.symm.trans e5)
  refine k p e R s m args below meth c A _ locs ls C (aw_Hp_new P hal hz (by rw [Array.size_push]) (fun q hq => by rw [Array.getElem?_push, if_neg (Nat.ne_of_lt hq)]) ?_) L
  rw [aw_ar_q (by decide), ← hz]
  show (H.push _)[H.size]? = some (vp_cell _ (N, _))
  rw [vp_cell_q, Array.getElem?_push_size, ← eA]
  exact congrArg some (arrV_new _ _ Value.null)
theorem aw_astQ {l : Launch} {M : aw_M} {G : aw_G} {B : aw_B} {E : aw_E} {pc : Nat} {loc : List (Nat × Value)} {st : List Value} {sh : List aw_H} {σ : aw_S} {kc ks o q N i : Nat} {fs : List aw_F} {f : Nat → Option Nat} (hs : sh[o]? = some (.inr (5, N, f))) (hq : sh[q]? = some (.inl (9, fs))) (hi : i < N) (hN : N < 2 ^ 31) (hd : decode M.2.1 pc = .ok (.aastore, 1))
    (k : aw_W l M G B E (pc + 1) loc st (sh.set o (.inr (5, N, fun j => if j = i then some q else f j))) σ kc ks) : aw_W l M G B E pc loc (.ref q :: .int (nI i) :: .ref o :: st) sh σ kc ks := by
  intro p e R s m args below meth c A H locs ls C P L
  have ho := (List.getElem?_eq_some_iff.mp hs).1
  refine va_astq (D := (G.1, G.2.1)) (ci := 9) (r := (RX9, TX9, 2)) C.1 C.2.1 C.2.2.2.2.2.2.2.2.1 P.1 (aw_w_D P.2.2.1) P.2.1 o 5 q ((aw_w_get hs).trans (congrArg (fun z => some (G.2.2.2.1 + o, z)) (aw_ar_q (by decide)))) rfl (aw_w_get hq) rfl (vp_in_nI hi hN) hd (fun H1 locs1 hP1 hD1 hS1 => ?_)
  have eW : (aw_w G.2.2.2.1 G.2.2.1 sh σ).set o (G.2.2.2.1 + o, .inl (G.2.2.1 5, N, .inr (.inr (.inr (.inr (va_up (fun j => (f j).map (fun x => G.2.2.2.1 + x)) (nI i).toNatClampNeg (some (G.2.2.2.1 + q)))))))) = aw_w G.2.2.2.1 G.2.2.1 (sh.set o (.inr (5, N, fun j => if j = i then some q else f j))) σ := by
    refine aw_w_set (List.length_set ..) (fun _ => ?_) (fun k hk => List.getElem?_set_ne (fun z => hk z.symm)) (fun _ _ => ⟨rfl, rfl, rfl⟩)
    rw [aw_w_get (s := .inr (5, N, fun j => if j = i then some q else f j)) (List.getElem?_set_self ho), aw_ar_q (by decide)]
    refine congrArg (fun z => some (G.2.2.2.1 + o, Sum.inl (G.2.2.1 5, N, Sum.inr (Sum.inr (Sum.inr (Sum.inr z)))))) (funext fun j => ?_)
    rw [nI_clamp (by omega)]
    unfold va_up
    by_cases w : j = i
    · rw [if_pos w, if_pos w]; rfl
    · rw [if_neg w, if_neg w]
  rw [eW] at hP1
  exact k p e R s m args below meth c A H1 locs1 ls C (aw_Hp_st P hP1 hS1 (List.length_set ..)) L

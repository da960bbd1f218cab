theorem aw_iconst {l : Launch} {M : aw_M} {G : aw_G} {B : aw_B} {E : aw_E} {pc : Nat} {loc : List (Nat × Value)} {st : List Value} {sh : List aw_H} {σ : aw_S} {kc ks : Nat} {n : Int} {v : Int32} (hd : decode M.2.1 pc = .ok (.iconst n, 1)) (hv : Int32.ofInt n = v) (k : aw_W l M G B E (pc + 1) loc (.int v :: st) sh σ kc ks) : aw_W l M G B E pc loc st sh σ kc ks := by
  intro p e R s m args below meth c A H locs ls C P L
  exact lv_iconst C.1 C.2.1 hd hv (k p e R s m args below meth c A H locs ls C P L)
theorem aw_bipush {l : Launch} {M : aw_M} {G : aw_G} {B : aw_B} {E : aw_E} {pc : Nat} {loc : List (Nat × Value)} {st : List Value} {sh : List aw_H} {σ : aw_S} {kc ks : Nat} {n : Int} {v : Int32} (hd : decode M.2.1 pc = .ok (.bipush n, 2)) (hv : (Int8.ofInt n).toInt32 = v) (k : aw_W l M G B E (pc + 2) loc (.int v :: st) sh σ kc ks) : aw_W l M G B E pc loc st sh σ kc ks := by
  intro p e R s m args below meth c A H locs ls C P L
  exact lv_bipush C.1 C.2.1 hd hv (k p e R s m args below meth c A H locs ls C P L)
theorem aw_sipush {l : Launch} {M : aw_M} {G : aw_G} {B : aw_B} {E : aw_E} {pc : Nat} {loc : List (Nat × Value)} {st : List Value} {sh : List aw_H} {σ : aw_S} {kc ks : Nat} {n : Int} {v : Int32} (hd : decode M.2.1 pc = .ok (.sipush n, 3)) (hv : (Int16.ofInt n).toInt32 = v) (k : aw_W l M G B E (pc + 3) loc (.int v :: st) sh σ kc ks) : aw_W l M G B E pc loc st sh σ kc ks := by
  intro p e R s m args below meth c A H locs ls C P L
  exact lv_sipush C.1 C.2.1 hd hv (k p e R s m args below meth c A H locs ls C P L)
theorem aw_lconst {l : Launch} {M : aw_M} {G : aw_G} {B : aw_B} {E : aw_E} {pc : Nat} {loc : List (Nat × Value)} {st : List Value} {sh : List aw_H} {σ : aw_S} {kc ks : Nat} {n : Fin 2} {v : Int64} (hd : decode M.2.1 pc = .ok (.lconst n, 1)) (hv : Int64.ofNat (n : Nat) = v) (k : aw_W l M G B E (pc + 1) loc (.long v :: st) sh σ kc ks) : aw_W l M G B E pc loc st sh σ kc ks := by
  intro p e R s m args below meth c A H locs ls C P L
  exact lv_lconst C.1 C.2.1 hd hv (k p e R s m args below meth c A H locs ls C P L)
theorem aw_ldcw {l : Launch} {M : aw_M} {G : aw_G} {B : aw_B} {E : aw_E} {pc : Nat} {loc : List (Nat × Value)} {st : List Value} {sh : List aw_H} {σ : aw_S} {kc ks : Nat} {index : Nat} {v : Int32} (hd : decode M.2.1 pc = .ok (.ldc_w index, 3)) (hw : Cond.constant M.1 index v ∈ wsL_law) (k : aw_W l M G B E (pc + 3) loc (.int v :: st) sh σ kc ks) : aw_W l M G B E pc loc st sh σ kc ks := by
  intro p e R s m args below meth c A H locs ls C P L
  exact lv_ldcw C.1 C.2.1 C.2.2.2.2.1 (C.2.2.2.2.2.2.1 _ hw) hd (k p e R s m args below meth c A H locs ls C P L)
theorem aw_ldc2 {l : Launch} {M : aw_M} {G : aw_G} {B : aw_B} {E : aw_E} {pc : Nat} {loc : List (Nat × Value)} {st : List Value} {sh : List aw_H} {σ : aw_S} {kc ks : Nat} {index : Nat} {v : Int64} (hd : decode M.2.1 pc = .ok (.ldc2_w index, 3)) (hw : Cond.constantLong M.1 index v ∈ wsL_law) (k : aw_W l M G B E (pc + 3) loc (.long v :: st) sh σ kc ks) : aw_W l M G B E pc loc st sh σ kc ks := by
  intro p e R s m args below meth c A H locs ls C P L
  exact lv_ldc2 C.1 C.2.1 C.2.2.2.2.1 (C.2.2.2.2.2.2.1 _ hw) hd (k p e R s m args below meth c A H locs ls C P L)
theorem aw_at {b : Nat} {ls : Array Slot} {n : Nat} {loc : List (Nat × Value)} (L : lv_has ls n (loc.map (aw_l b))) {k i : Nat} {v : Value} (h : loc[k]? = some (i, v)) : ls[i]? = some (.val (aw_v b v)) := lv_at L k (by rw [List.getElem?_map, h]; rfl)
theorem aw_iload_n {l : Launch} {M : aw_M} {G : aw_G} {B : aw_B} {E : aw_E} {pc : Nat} {loc : List (Nat × Value)} {st : List Value} {sh : List aw_H} {σ : aw_S} {kc ks : Nat} {k : Fin 4} {q : Nat} {x : Int32} (hd : decode M.2.1 pc = .ok (.iload_n k, 1)) (hq : loc[q]? = some ((k : Nat), .int x)) (k' : aw_W l M G B E (pc + 1) loc (.int x :: st) sh σ kc ks) : aw_W l M G B E pc loc st sh σ kc ks := by
  intro p e R s m args below meth c A H locs ls C P L
  exact lv_iload_n C.1 C.2.1 hd rfl (aw_at L hq) (k'  p e R s m args below meth c A H locs ls C P L)
theorem aw_iload {l : Launch} {M : aw_M} {G : aw_G} {B : aw_B} {E : aw_E} {pc : Nat} {loc : List (Nat × Value)} {st : List Value} {sh : List aw_H} {σ : aw_S} {kc ks : Nat} {i q : Nat} {x : Int32} (hd : decode M.2.1 pc = .ok (.iload i, 2)) (hq : loc[q]? = some (i, .int x)) (k : aw_W l M G B E (pc + 2) loc (.int x :: st) sh σ kc ks) : aw_W l M G B E pc loc st sh σ kc ks := by
  intro p e R s m args below meth c A H locs ls C P L
  exact lv_iload C.1 C.2.1 hd (aw_at L hq) (k p e R s m args below meth c A H locs ls C P L)
theorem aw_lload_n {l : Launch} {M : aw_M} {G : aw_G} {B : aw_B} {E : aw_E} {pc : Nat} {loc : List (Nat × Value)} {st : List Value} {sh : List aw_H} {σ : aw_S} {kc ks : Nat} {k : Fin 4} {q : Nat} {x : Int64} (hd : decode M.2.1 pc = .ok (.lload_n k, 1)) (hq : loc[q]? = some ((k : Nat), .long x)) (k' : aw_W l M G B E (pc + 1) loc (.long x :: st) sh σ kc ks) : aw_W l M G B E pc loc st sh σ kc ks := by
  intro p e R s m args below meth c A H locs ls C P L
  exact lv_lload_n C.1 C.2.1 hd rfl (aw_at L hq) (k'  p e R s m args below meth c A H locs ls C P L)
theorem aw_lload {l : Launch} {M : aw_M} {G : aw_G} {B : aw_B} {E : aw_E} {pc : Nat} {loc : List (Nat × Value)} {st : List Value} {sh : List aw_H} {σ : aw_S} {kc ks : Nat} {i q : Nat} {x : Int64} (hd : decode M.2.1 pc = .ok (.lload i, 2)) (hq : loc[q]? = some (i, .long x)) (k : aw_W l M G B E (pc + 2) loc (.long x :: st) sh σ kc ks) : aw_W l M G B E pc loc st sh σ kc ks := by
  intro p e R s m args below meth c A H locs ls C P L
  exact lv_lload C.1 C.2.1 hd (aw_at L hq) (k p e R s m args below meth c A H locs ls C P L)
theorem aw_aload_n {l : Launch} {M : aw_M} {G : aw_G} {B : aw_B} {E : aw_E} {pc : Nat} {loc : List (Nat × Value)} {st : List Value} {sh : List aw_H} {σ : aw_S} {kc ks : Nat} {k : Fin 4} {q : Nat} {x : Nat} (hd : decode M.2.1 pc = .ok (.aload_n k, 1)) (hq : loc[q]? = some ((k : Nat), .ref x)) (k' : aw_W l M G B E (pc + 1) loc (.ref x :: st) sh σ kc ks) : aw_W l M G B E pc loc st sh σ kc ks := by
  intro p e R s m args below meth c A H locs ls C P L
  exact lv_aload_n C.1 C.2.1 hd rfl (aw_at L hq) (k'  p e R s m args below meth c A H locs ls C P L)
theorem aw_aload {l : Launch} {M : aw_M} {G : aw_G} {B : aw_B} {E : aw_E} {pc : Nat} {loc : List (Nat × Value)} {st : List Value} {sh : List aw_H} {σ : aw_S} {kc ks : Nat} {i q : Nat} {x : Nat} (hd : decode M.2.1 pc = .ok (.aload i, 2)) (hq : loc[q]? = some (i, .ref x)) (k : aw_W l M G B E (pc + 2) loc (.ref x :: st) sh σ kc ks) : aw_W l M G B E pc loc st sh σ kc ks := by
  intro p e R s m args below meth c A H locs ls C P L
  exact lv_aload C.1 C.2.1 hd (aw_at L hq) (k p e R s m args below meth c A H locs ls C P L)
def aw_st1 (i : Nat) (v : Value) (loc : List (Nat × Value)) : List (Nat × Value) := (i, v) :: loc.filter (fun q => !(q.1 == i) && !(q.1 + 1 == i && q.2.category == 2))
def aw_st2 (i : Nat) (v : Value) (loc : List (Nat × Value)) : List (Nat × Value) := (i, v) :: loc.filter (fun q => !(q.1 == i) && (!(q.1 == i + 1) && !(q.1 + 1 == i && q.2.category == 2)))
theorem aw_filt {b : Nat} {f : Nat × Value → Bool} (hf : ∀ q, f (aw_l b q) = f q) (loc : List (Nat × Value)) : (loc.map (aw_l b)).filter f = (loc.filter f).map (aw_l b) := by
  induction loc with
  | nil => rfl
  | cons q t ih =>
    rw [List.map_cons, List.filter_cons, List.filter_cons, hf, ih]
    cases f q <;> rfl
theorem aw_st1_map {b i : Nat} {v : Value} {loc : List (Nat × Value)} : (i, aw_v b v) :: (loc.map (aw_l b)).filter (fun q => !(q.1 == i) && !(q.1 + 1 == i && q.2.category == 2)) = (aw_st1 i v loc).map (aw_l b) := by
  rw [aw_filt (fun q => by unfold aw_l; simp only [aw_catv])]
  rfl
theorem aw_st2_map {b i : Nat} {v : Value} {loc : List (Nat × Value)} : (i, aw_v b v) :: (loc.map (aw_l b)).filter (fun q => !(q.1 == i) && (!(q.1 == i + 1) && !(q.1 + 1 == i && q.2.category == 2))) = (aw_st2 i v loc).map (aw_l b) := by
  rw [aw_filt (fun q => by unfold aw_l; simp only [aw_catv])]
  rfl
theorem aw_istore_n {l : Launch} {M : aw_M} {G : aw_G} {B : aw_B} {E : aw_E} {pc : Nat} {loc : List (Nat × Value)} {st : List Value} {sh : List aw_H} {σ : aw_S} {kc ks : Nat} {k : Fin 4} {x : Int32} (loc' : List (Nat × Value)) (hd : decode M.2.1 pc = .ok (.istore_n k, 1)) (hn : (k : Nat) < M.2.2.1) (hl : aw_st1 (k : Nat) (.int x) loc = loc') (kk : aw_W l M G B E (pc + 1) loc' st sh σ kc ks) : aw_W l M G B E pc loc (.int x :: st) sh σ kc ks := by
  subst hl
  intro p e R s m args below meth c A H locs ls C P L
  exact lv_istore_n C.1 C.2.1 hd rfl L hn (aw_st1_map (b := G.2.2.2.1) (v := .int x)) (fun ls' L' => kk p e R s m args below meth c A H locs ls' C P L')
theorem aw_istore {l : Launch} {M : aw_M} {G : aw_G} {B : aw_B} {E : aw_E} {pc : Nat} {loc : List (Nat × Value)} {st : List Value} {sh : List aw_H} {σ : aw_S} {kc ks : Nat} {i : Nat} {x : Int32} (loc' : List (Nat × Value)) (hd : decode M.2.1 pc = .ok (.istore i, 2)) (hn : i < M.2.2.1) (hl : aw_st1 i (.int x) loc = loc') (kk : aw_W l M G B E (pc + 2) loc' st sh σ kc ks) : aw_W l M G B E pc loc (.int x :: st) sh σ kc ks := by
  subst hl
  intro p e R s m args below meth c A H locs ls C P L
  exact lv_istore C.1 C.2.1 hd L hn (aw_st1_map (b := G.2.2.2.1) (v := .int x)) (fun ls' L' => kk p e R s m args below meth c A H locs ls' C P L')
theorem aw_lstore_n {l : Launch} {M : aw_M} {G : aw_G} {B : aw_B} {E : aw_E} {pc : Nat} {loc : List (Nat × Value)} {st : List Value} {sh : List aw_H} {σ : aw_S} {kc ks : Nat} {k : Fin 4} {x : Int64} (loc' : List (Nat × Value)) (hd : decode M.2.1 pc = .ok (.lstore_n k, 1)) (hn : (k : Nat) + 1 < M.2.2.1) (hl : aw_st2 (k : Nat) (.long x) loc = loc') (kk : aw_W l M G B E (pc + 1) loc' st sh σ kc ks) : aw_W l M G B E pc loc (.long x :: st) sh σ kc ks := by
  subst hl
  intro p e R s m args below meth c A H locs ls C P L
  exact lv_lstore_n C.1 C.2.1 hd rfl L hn (aw_st2_map (b := G.2.2.2.1) (v := .long x)) (fun ls' L' => kk p e R s m args below meth c A H locs ls' C P L')
theorem aw_lstore {l : Launch} {M : aw_M} {G : aw_G} {B : aw_B} {E : aw_E} {pc : Nat} {loc : List (Nat × Value)} {st : List Value} {sh : List aw_H} {σ : aw_S} {kc ks : Nat} {i : Nat} {x : Int64} (loc' : List (Nat × Value)) (hd : decode M.2.1 pc = .ok (.lstore i, 2)) (hn : i + 1 < M.2.2.1) (hl : aw_st2 i (.long x) loc = loc') (kk : aw_W l M G B E (pc + 2) loc' st sh σ kc ks) : aw_W l M G B E pc loc (.long x :: st) sh σ kc ks := by
  subst hl
  intro p e R s m args below meth c A H locs ls C P L
  exact lv_lstore C.1 C.2.1 hd L hn (aw_st2_map (b := G.2.2.2.1) (v := .long x)) (fun ls' L' => kk p e R s m args below meth c A H locs ls' C P L')
theorem aw_astore_n {l : Launch} {M : aw_M} {G : aw_G} {B : aw_B} {E : aw_E} {pc : Nat} {loc : List (Nat × Value)} {st : List Value} {sh : List aw_H} {σ : aw_S} {kc ks : Nat} {k : Fin 4} {x : Nat} (loc' : List (Nat × Value)) (hd : decode M.2.1 pc = .ok (.astore_n k, 1)) (hn : (k : Nat) < M.2.2.1) (hl : aw_st1 (k : Nat) (.ref x) loc = loc') (kk : aw_W l M G B E (pc + 1) loc' st sh σ kc ks) : aw_W l M G B E pc loc (.ref x :: st) sh σ kc ks := by
  subst hl
  intro p e R s m args below meth c A H locs ls C P L
  exact lv_astore_n C.1 C.2.1 hd rfl L hn (aw_st1_map (b := G.2.2.2.1) (v := .ref x)) (fun ls' L' => kk p e R s m args below meth c A H locs ls' C P L')
theorem aw_astore {l : Launch} {M : aw_M} {G : aw_G} {B : aw_B} {E : aw_E} {pc : Nat} {loc : List (Nat × Value)} {st : List Value} {sh : List aw_H} {σ : aw_S} {kc ks : Nat} {i : Nat} {x : Nat} (loc' : List (Nat × Value)) (hd : decode M.2.1 pc = .ok (.astore i, 2)) (hn : i < M.2.2.1) (hl : aw_st1 i (.ref x) loc = loc') (kk : aw_W l M G B E (pc + 2) loc' st sh σ kc ks) : aw_W l M G B E pc loc (.ref x :: st) sh σ kc ks := by
  subst hl
  intro p e R s m args below meth c A H locs ls C P L
  exact lv_astore C.1 C.2.1 hd L hn (aw_st1_map (b := G.2.2.2.1) (v := .ref x)) (fun ls' L' => kk p e R s m args below meth c A H locs ls' C P L')
theorem aw_iinc {l : Launch} {M : aw_M} {G : aw_G} {B : aw_B} {E : aw_E} {pc : Nat} {loc : List (Nat × Value)} {st : List Value} {sh : List aw_H} {σ : aw_S} {kc ks : Nat} {i q : Nat} {n : Int} {x v : Int32} (loc' : List (Nat × Value)) (hd : decode M.2.1 pc = .ok (.iinc i n, 3)) (hq : loc[q]? = some (i, .int x)) (hv : x + Int32.ofInt n = v) (hn : i < M.2.2.1) (hl : aw_st1 i (.int v) loc = loc') (kk : aw_W l M G B E (pc + 3) loc' st sh σ kc ks) : aw_W l M G B E pc loc st sh σ kc ks := by
  subst hl
  intro p e R s m args below meth c A H locs ls C P L
  exact lv_iinc C.1 C.2.1 hd L (k := q) (by rw [List.getElem?_map, hq]; rfl) hv hn (aw_st1_map (b := G.2.2.2.1) (v := .int v)) (fun ls' L' => kk p e R s m args below meth c A H locs ls' C P L')
theorem aw_sub {l : Launch} {M : aw_M} {G : aw_G} {B : aw_B} {E : aw_E} {pc : Nat} {loc : List (Nat × Value)} {st : List Value} {sh : List aw_H} {σ : aw_S} {kc ks : Nat} {loc' : List (Nat × Value)} (is : List Nat) (hl : lv_pick loc is = loc') (k : aw_W l M G B E pc loc' st sh σ kc ks) : aw_W l M G B E pc loc st sh σ kc ks := by
  intro p e R s m args below meth c A H locs ls C P L
  refine k p e R s m args below meth c A H locs ls C P (lv_sub L is ?_)
  rw [← hl]
  unfold lv_pick
  rw [List.map_filterMap]
  refine congrArg (fun f => List.filterMap f is) (funext fun q => ?_)
  rw [List.getElem?_map]
theorem aw_iadd {l : Launch} {M : aw_M} {G : aw_G} {B : aw_B} {E : aw_E} {pc : Nat} {loc : List (Nat × Value)} {st : List Value} {sh : List aw_H} {σ : aw_S} {kc ks : Nat} {x y : Int32} (hd : decode M.2.1 pc = .ok (.iadd, 1)) (k : aw_W l M G B E (pc + 1) loc (.int (x + y) :: st) sh σ kc ks) : aw_W l M G B E pc loc (.int y :: .int x :: st) sh σ kc ks := by
  intro p e R s m args below meth c A H locs ls C P L
  exact lv_iadd C.1 C.2.1 hd (k p e R s m args below meth c A H locs ls C P L)
theorem aw_isub {l : Launch} {M : aw_M} {G : aw_G} {B : aw_B} {E : aw_E} {pc : Nat} {loc : List (Nat × Value)} {st : List Value} {sh : List aw_H} {σ : aw_S} {kc ks : Nat} {x y : Int32} (hd : decode M.2.1 pc = .ok (.isub, 1)) (k : aw_W l M G B E (pc + 1) loc (.int (x - y) :: st) sh σ kc ks) : aw_W l M G B E pc loc (.int y :: .int x :: st) sh σ kc ks := by
  intro p e R s m args below meth c A H locs ls C P L
  exact lv_isub C.1 C.2.1 hd (k p e R s m args below meth c A H locs ls C P L)
theorem aw_imul {l : Launch} {M : aw_M} {G : aw_G} {B : aw_B} {E : aw_E} {pc : Nat} {loc : List (Nat × Value)} {st : List Value} {sh : List aw_H} {σ : aw_S} {kc ks : Nat} {x y : Int32} (hd : decode M.2.1 pc = .ok (.imul, 1)) (k : aw_W l M G B E (pc + 1) loc (.int (x * y) :: st) sh σ kc ks) : aw_W l M G B E pc loc (.int y :: .int x :: st) sh σ kc ks := by
  intro p e R s m args below meth c A H locs ls C P L
  exact lv_imul C.1 C.2.1 hd (k p e R s m args below meth c A H locs ls C P L)
theorem aw_iand {l : Launch} {M : aw_M} {G : aw_G} {B : aw_B} {E : aw_E} {pc : Nat} {loc : List (Nat × Value)} {st : List Value} {sh : List aw_H} {σ : aw_S} {kc ks : Nat} {x y : Int32} (hd : decode M.2.1 pc = .ok (.iand, 1)) (k : aw_W l M G B E (pc + 1) loc (.int (x &&& y) :: st) sh σ kc ks) : aw_W l M G B E pc loc (.int y :: .int x :: st) sh σ kc ks := by
  intro p e R s m args below meth c A H locs ls C P L
  exact lv_iand C.1 C.2.1 hd (k p e R s m args below meth c A H locs ls C P L)
theorem aw_ior {l : Launch} {M : aw_M} {G : aw_G} {B : aw_B} {E : aw_E} {pc : Nat} {loc : List (Nat × Value)} {st : List Value} {sh : List aw_H} {σ : aw_S} {kc ks : Nat} {x y : Int32} (hd : decode M.2.1 pc = .ok (.ior, 1)) (k : aw_W l M G B E (pc + 1) loc (.int (x ||| y) :: st) sh σ kc ks) : aw_W l M G B E pc loc (.int y :: .int x :: st) sh σ kc ks := by
  intro p e R s m args below meth c A H locs ls C P L
  exact lv_ior C.1 C.2.1 hd (k p e R s m args below meth c A H locs ls C P L)
theorem aw_ixor {l : Launch} {M : aw_M} {G : aw_G} {B : aw_B} {E : aw_E} {pc : Nat} {loc : List (Nat × Value)} {st : List Value} {sh : List aw_H} {σ : aw_S} {kc ks : Nat} {x y : Int32} (hd : decode M.2.1 pc = .ok (.ixor, 1)) (k : aw_W l M G B E (pc + 1) loc (.int (x ^^^ y) :: st) sh σ kc ks) : aw_W l M G B E pc loc (.int y :: .int x :: st) sh σ kc ks := by
  intro p e R s m args below meth c A H locs ls C P L
  exact lv_ixor C.1 C.2.1 hd (k p e R s m args below meth c A H locs ls C P L)
theorem aw_ishl {l : Launch} {M : aw_M} {G : aw_G} {B : aw_B} {E : aw_E} {pc : Nat} {loc : List (Nat × Value)} {st : List Value} {sh : List aw_H} {σ : aw_S} {kc ks : Nat} {x y : Int32} (hd : decode M.2.1 pc = .ok (.ishl, 1)) (k : aw_W l M G B E (pc + 1) loc (.int (x <<< (y &&& 31)) :: st) sh σ kc ks) : aw_W l M G B E pc loc (.int y :: .int x :: st) sh σ kc ks := by
  intro p e R s m args below meth c A H locs ls C P L
  exact lv_ishl C.1 C.2.1 hd (k p e R s m args below meth c A H locs ls C P L)
theorem aw_ishr {l : Launch} {M : aw_M} {G : aw_G} {B : aw_B} {E : aw_E} {pc : Nat} {loc : List (Nat × Value)} {st : List Value} {sh : List aw_H} {σ : aw_S} {kc ks : Nat} {x y : Int32} (hd : decode M.2.1 pc = .ok (.ishr, 1)) (k : aw_W l M G B E (pc + 1) loc (.int (x >>> (y &&& 31)) :: st) sh σ kc ks) : aw_W l M G B E pc loc (.int y :: .int x :: st) sh σ kc ks := by
  intro p e R s m args below meth c A H locs ls C P L
  exact lv_ishr C.1 C.2.1 hd (k p e R s m args below meth c A H locs ls C P L)
theorem aw_idiv {l : Launch} {M : aw_M} {G : aw_G} {B : aw_B} {E : aw_E} {pc : Nat} {loc : List (Nat × Value)} {st : List Value} {sh : List aw_H} {σ : aw_S} {kc ks : Nat} {x y : Int32} (hd : decode M.2.1 pc = .ok (.idiv, 1)) (hne : ¬ y = 0) (k : aw_W l M G B E (pc + 1) loc (.int (x / y) :: st) sh σ kc ks) : aw_W l M G B E pc loc (.int y :: .int x :: st) sh σ kc ks := by
  intro p e R s m args below meth c A H locs ls C P L
  exact lv_idiv C.1 C.2.1 hd hne (k p e R s m args below meth c A H locs ls C P L)
theorem aw_irem {l : Launch} {M : aw_M} {G : aw_G} {B : aw_B} {E : aw_E} {pc : Nat} {loc : List (Nat × Value)} {st : List Value} {sh : List aw_H} {σ : aw_S} {kc ks : Nat} {x y : Int32} (hd : decode M.2.1 pc = .ok (.irem, 1)) (hne : ¬ y = 0) (k : aw_W l M G B E (pc + 1) loc (.int (x - x / y * y) :: st) sh σ kc ks) : aw_W l M G B E pc loc (.int y :: .int x :: st) sh σ kc ks := by
  intro p e R s m args below meth c A H locs ls C P L
  exact lv_irem C.1 C.2.1 hd hne (k p e R s m args below meth c A H locs ls C P L)
def aw_ushr (x y : Int32) : Int32 := (x.toUInt32 >>> (y.toUInt32 &&& Int32.toUInt32 31)).toInt32
def aw_lushr' (x : Int64) (y : Int32) : Int64 := (x.toUInt64 >>> (y.toInt64.toUInt64 &&& Int64.toUInt64 63)).toInt64
def aw_lshl' (x : Int64) (y : Int32) : Int64 := x <<< (y.toInt64 &&& 63)
theorem aw_iushr {l : Launch} {M : aw_M} {G : aw_G} {B : aw_B} {E : aw_E} {pc : Nat} {loc : List (Nat × Value)} {st : List Value} {sh : List aw_H} {σ : aw_S} {kc ks : Nat} {x y : Int32} (hd : decode M.2.1 pc = .ok (.iushr, 1)) (k : aw_W l M G B E (pc + 1) loc (.int (aw_ushr x y) :: st) sh σ kc ks) : aw_W l M G B E pc loc (.int y :: .int x :: st) sh σ kc ks := by
  intro p e R s m args below meth c A H locs ls C P L
  exact lv_iushr C.1 C.2.1 hd rfl (k p e R s m args below meth c A H locs ls C P L)
theorem aw_ladd {l : Launch} {M : aw_M} {G : aw_G} {B : aw_B} {E : aw_E} {pc : Nat} {loc : List (Nat × Value)} {st : List Value} {sh : List aw_H} {σ : aw_S} {kc ks : Nat} {x y : Int64} (hd : decode M.2.1 pc = .ok (.ladd, 1)) (k : aw_W l M G B E (pc + 1) loc (.long (x + y) :: st) sh σ kc ks) : aw_W l M G B E pc loc (.long y :: .long x :: st) sh σ kc ks := by
  intro p e R s m args below meth c A H locs ls C P L
  exact lv_ladd C.1 C.2.1 hd (k p e R s m args below meth c A H locs ls C P L)
theorem aw_lmul {l : Launch} {M : aw_M} {G : aw_G} {B : aw_B} {E : aw_E} {pc : Nat} {loc : List (Nat × Value)} {st : List Value} {sh : List aw_H} {σ : aw_S} {kc ks : Nat} {x y : Int64} (hd : decode M.2.1 pc = .ok (.lmul, 1)) (k : aw_W l M G B E (pc + 1) loc (.long (x * y) :: st) sh σ kc ks) : aw_W l M G B E pc loc (.long y :: .long x :: st) sh σ kc ks := by
  intro p e R s m args below meth c A H locs ls C P L
  exact lv_lmul C.1 C.2.1 hd (k p e R s m args below meth c A H locs ls C P L)
theorem aw_land {l : Launch} {M : aw_M} {G : aw_G} {B : aw_B} {E : aw_E} {pc : Nat} {loc : List (Nat × Value)} {st : List Value} {sh : List aw_H} {σ : aw_S} {kc ks : Nat} {x y : Int64} (hd : decode M.2.1 pc = .ok (.land, 1)) (k : aw_W l M G B E (pc + 1) loc (.long (x &&& y) :: st) sh σ kc ks) : aw_W l M G B E pc loc (.long y :: .long x :: st) sh σ kc ks := by
  intro p e R s m args below meth c A H locs ls C P L
  exact lv_land C.1 C.2.1 hd (k p e R s m args below meth c A H locs ls C P L)
theorem aw_lor {l : Launch} {M : aw_M} {G : aw_G} {B : aw_B} {E : aw_E} {pc : Nat} {loc : List (Nat × Value)} {st : List Value} {sh : List aw_H} {σ : aw_S} {kc ks : Nat} {x y : Int64} (hd : decode M.2.1 pc = .ok (.lor, 1)) (k : aw_W l M G B E (pc + 1) loc (.long (x ||| y) :: st) sh σ kc ks) : aw_W l M G B E pc loc (.long y :: .long x :: st) sh σ kc ks := by
  intro p e R s m args below meth c A H locs ls C P L
  exact lv_lor C.1 C.2.1 hd (k p e R s m args below meth c A H locs ls C P L)
theorem aw_lshl {l : Launch} {M : aw_M} {G : aw_G} {B : aw_B} {E : aw_E} {pc : Nat} {loc : List (Nat × Value)} {st : List Value} {sh : List aw_H} {σ : aw_S} {kc ks : Nat} {x : Int64} {y : Int32} (hd : decode M.2.1 pc = .ok (.lshl, 1)) (k : aw_W l M G B E (pc + 1) loc (.long (aw_lshl' x y) :: st) sh σ kc ks) : aw_W l M G B E pc loc (.int y :: .long x :: st) sh σ kc ks := by
  intro p e R s m args below meth c A H locs ls C P L
  exact lv_lshl C.1 C.2.1 hd rfl (k p e R s m args below meth c A H locs ls C P L)
theorem aw_lushr {l : Launch} {M : aw_M} {G : aw_G} {B : aw_B} {E : aw_E} {pc : Nat} {loc : List (Nat × Value)} {st : List Value} {sh : List aw_H} {σ : aw_S} {kc ks : Nat} {x : Int64} {y : Int32} (hd : decode M.2.1 pc = .ok (.lushr, 1)) (k : aw_W l M G B E (pc + 1) loc (.long (aw_lushr' x y) :: st) sh σ kc ks) : aw_W l M G B E pc loc (.int y :: .long x :: st) sh σ kc ks := by
  intro p e R s m args below meth c A H locs ls C P L
  exact lv_lushr C.1 C.2.1 hd rfl (k p e R s m args below meth c A H locs ls C P L)
theorem aw_lcmp {l : Launch} {M : aw_M} {G : aw_G} {B : aw_B} {E : aw_E} {pc : Nat} {loc : List (Nat × Value)} {st : List Value} {sh : List aw_H} {σ : aw_S} {kc ks : Nat} {x y : Int64} (hd : decode M.2.1 pc = .ok (.lcmp, 1)) (k : aw_W l M G B E (pc + 1) loc (.int (lg_cmp x y) :: st) sh σ kc ks) : aw_W l M G B E pc loc (.long y :: .long x :: st) sh σ kc ks := by
  intro p e R s m args below meth c A H locs ls C P L
  exact W.lcmp C.1 C.2.1 hd (k p e R s m args below meth c A H locs ls C P L)
theorem aw_i2l {l : Launch} {M : aw_M} {G : aw_G} {B : aw_B} {E : aw_E} {pc : Nat} {loc : List (Nat × Value)} {st : List Value} {sh : List aw_H} {σ : aw_S} {kc ks : Nat} {x : Int32} (hd : decode M.2.1 pc = .ok (.i2l, 1)) (k : aw_W l M G B E (pc + 1) loc (.long x.toInt64 :: st) sh σ kc ks) : aw_W l M G B E pc loc (.int x :: st) sh σ kc ks := by
  intro p e R s m args below meth c A H locs ls C P L
  exact lv_i2l C.1 C.2.1 hd rfl (k p e R s m args below meth c A H locs ls C P L)
theorem aw_i2b {l : Launch} {M : aw_M} {G : aw_G} {B : aw_B} {E : aw_E} {pc : Nat} {loc : List (Nat × Value)} {st : List Value} {sh : List aw_H} {σ : aw_S} {kc ks : Nat} {x : Int32} (hd : decode M.2.1 pc = .ok (.i2b, 1)) (k : aw_W l M G B E (pc + 1) loc (.int x.toInt8.toInt32 :: st) sh σ kc ks) : aw_W l M G B E pc loc (.int x :: st) sh σ kc ks := by
  intro p e R s m args below meth c A H locs ls C P L
  exact lv_i2b C.1 C.2.1 hd rfl (k p e R s m args below meth c A H locs ls C P L)
theorem aw_dup {l : Launch} {M : aw_M} {G : aw_G} {B : aw_B} {E : aw_E} {pc : Nat} {loc : List (Nat × Value)} {st : List Value} {sh : List aw_H} {σ : aw_S} {kc ks : Nat} {va : Value} (hd : decode M.2.1 pc = .ok (.dup, 1)) (hva : va.category = 1) (k : aw_W l M G B E (pc + 1) loc (va :: va :: st) sh σ kc ks) : aw_W l M G B E pc loc (va :: st) sh σ kc ks := by
  intro p e R s m args below meth c A H locs ls C P L
  exact lv_dup C.1 C.2.1 hd ((aw_catv _ _).trans hva) (k p e R s m args below meth c A H locs ls C P L)
theorem aw_dup2 {l : Launch} {M : aw_M} {G : aw_G} {B : aw_B} {E : aw_E} {pc : Nat} {loc : List (Nat × Value)} {st : List Value} {sh : List aw_H} {σ : aw_S} {kc ks : Nat} {va vb : Value} (hd : decode M.2.1 pc = .ok (.dup2, 1)) (hva : va.category = 1) (hvb : vb.category = 1) (k : aw_W l M G B E (pc + 1) loc (va :: vb :: va :: vb :: st) sh σ kc ks) : aw_W l M G B E pc loc (va :: vb :: st) sh σ kc ks := by
  intro p e R s m args below meth c A H locs ls C P L
  exact lv_dup2_11 C.1 C.2.1 hd ((aw_catv _ _).trans hva) ((aw_catv _ _).trans hvb) (k p e R s m args below meth c A H locs ls C P L)
theorem aw_pop {l : Launch} {M : aw_M} {G : aw_G} {B : aw_B} {E : aw_E} {pc : Nat} {loc : List (Nat × Value)} {st : List Value} {sh : List aw_H} {σ : aw_S} {kc ks : Nat} {va : Value} (hd : decode M.2.1 pc = .ok (.pop, 1)) (hva : va.category = 1) (k : aw_W l M G B E (pc + 1) loc st sh σ kc ks) : aw_W l M G B E pc loc (va :: st) sh σ kc ks := by
  intro p e R s m args below meth c A H locs ls C P L
  exact lv_pop C.1 C.2.1 hd ((aw_catv _ _).trans hva) (k p e R s m args below meth c A H locs ls C P L)
theorem aw_goto {l : Launch} {M : aw_M} {G : aw_G} {B : aw_B} {E : aw_E} {pc : Nat} {loc : List (Nat × Value)} {st : List Value} {sh : List aw_H} {σ : aw_S} {kc ks : Nat} {off : Int} {tgt : Nat} (hd : decode M.2.1 pc = .ok (.goto off, 3)) (ht : (pc : Int) + off = (tgt : Int)) (k : aw_W l M G B E tgt loc st sh σ kc ks) : aw_W l M G B E pc loc st sh σ kc ks := by
  intro p e R s m args below meth c A H locs ls C P L
  exact lv_goto C.1 C.2.1 hd ht (k p e R s m args below meth c A H locs ls C P L)
theorem aw_ifnonnull {l : Launch} {M : aw_M} {G : aw_G} {B : aw_B} {E : aw_E} {pc : Nat} {loc : List (Nat × Value)} {st : List Value} {sh : List aw_H} {σ : aw_S} {kc ks : Nat} {x : Nat} {off : Int} {tgt : Nat} (hd : decode M.2.1 pc = .ok (.ifnonnull off, 3)) (ht : (pc : Int) + off = (tgt : Int)) (k : aw_W l M G B E tgt loc st sh σ kc ks) : aw_W l M G B E pc loc (.ref x :: st) sh σ kc ks := by
  intro p e R s m args below meth c A H locs ls C P L
  exact lv_ifnonnull C.1 C.2.1 hd ht (k p e R s m args below meth c A H locs ls C P L)
theorem aw_ifnull {l : Launch} {M : aw_M} {G : aw_G} {B : aw_B} {E : aw_E} {pc : Nat} {loc : List (Nat × Value)} {st : List Value} {sh : List aw_H} {σ : aw_S} {kc ks : Nat} {x : Nat} {off : Int} (hd : decode M.2.1 pc = .ok (.ifnull off, 3)) (k : aw_W l M G B E (pc + 3) loc st sh σ kc ks) : aw_W l M G B E pc loc (.ref x :: st) sh σ kc ks := by
  intro p e R s m args below meth c A H locs ls C P L
  exact lv_ifnull C.1 C.2.1 hd (k p e R s m args below meth c A H locs ls C P L)
theorem aw_if_eq {l : Launch} {M : aw_M} {G : aw_G} {B : aw_B} {E : aw_E} {pc : Nat} {loc : List (Nat × Value)} {st : List Value} {sh : List aw_H} {σ : aw_S} {kc ks : Nat} {x : Int32} {off : Int} {tgt : Nat} (hd : decode M.2.1 pc = .ok (.ifCond .eq off, 3)) (ht : (pc : Int) + off = (tgt : Int)) (kt : x = 0 → aw_W l M G B E tgt loc st sh σ kc ks) (kf : ¬ x = 0 → aw_W l M G B E (pc + 3) loc st sh σ kc ks) : aw_W l M G B E pc loc (.int x :: st) sh σ kc ks := by
  intro p e R s m args below meth c A H locs ls C P L
  exact lv_if_eq C.1 C.2.1 hd ht (fun q => kt q p e R s m args below meth c A H locs ls C P L) (fun q => kf q p e R s m args below meth c A H locs ls C P L)
theorem aw_icmp_eq {l : Launch} {M : aw_M} {G : aw_G} {B : aw_B} {E : aw_E} {pc : Nat} {loc : List (Nat × Value)} {st : List Value} {sh : List aw_H} {σ : aw_S} {kc ks : Nat} {x y : Int32} {off : Int} {tgt : Nat} (hd : decode M.2.1 pc = .ok (.if_icmp .eq off, 3)) (ht : (pc : Int) + off = (tgt : Int)) (kt : x = y → aw_W l M G B E tgt loc st sh σ kc ks) (kf : ¬ x = y → aw_W l M G B E (pc + 3) loc st sh σ kc ks) : aw_W l M G B E pc loc (.int y :: .int x :: st) sh σ kc ks := by
  intro p e R s m args below meth c A H locs ls C P L
  exact lv_icmp_eq C.1 C.2.1 hd ht (fun q => kt q p e R s m args below meth c A H locs ls C P L) (fun q => kf q p e R s m args below meth c A H locs ls C P L)
theorem aw_if_ne {l : Launch} {M : aw_M} {G : aw_G} {B : aw_B} {E : aw_E} {pc : Nat} {loc : List (Nat × Value)} {st : List Value} {sh : List aw_H} {σ : aw_S} {kc ks : Nat} {x : Int32} {off : Int} {tgt : Nat} (hd : decode M.2.1 pc = .ok (.ifCond .ne off, 3)) (ht : (pc : Int) + off = (tgt : Int)) (kt : ¬ x = 0 → aw_W l M G B E tgt loc st sh σ kc ks) (kf : x = 0 → aw_W l M G B E (pc + 3) loc st sh σ kc ks) : aw_W l M G B E pc loc (.int x :: st) sh σ kc ks := by
  intro p e R s m args below meth c A H locs ls C P L
  exact lv_if_ne C.1 C.2.1 hd ht (fun q => kt q p e R s m args below meth c A H locs ls C P L) (fun q => kf q p e R s m args below meth c A H locs ls C P L)
theorem aw_icmp_ne {l : Launch} {M : aw_M} {G : aw_G} {B : aw_B} {E : aw_E} {pc : Nat} {loc : List (Nat × Value)} {st : List Value} {sh : List aw_H} {σ : aw_S} {kc ks : Nat} {x y : Int32} {off : Int} {tgt : Nat} (hd : decode M.2.1 pc = .ok (.if_icmp .ne off, 3)) (ht : (pc : Int) + off = (tgt : Int)) (kt : ¬ x = y → aw_W l M G B E tgt loc st sh σ kc ks) (kf : x = y → aw_W l M G B E (pc + 3) loc st sh σ kc ks) : aw_W l M G B E pc loc (.int y :: .int x :: st) sh σ kc ks := by
  intro p e R s m args below meth c A H locs ls C P L
  exact lv_icmp_ne C.1 C.2.1 hd ht (fun q => kt q p e R s m args below meth c A H locs ls C P L) (fun q => kf q p e R s m args below meth c A H locs ls C P L)
theorem aw_if_lt {l : Launch} {M : aw_M} {G : aw_G} {B : aw_B} {E : aw_E} {pc : Nat} {loc : List (Nat × Value)} {st : List Value} {sh : List aw_H} {σ : aw_S} {kc ks : Nat} {x : Int32} {off : Int} {tgt : Nat} (hd : decode M.2.1 pc = .ok (.ifCond .lt off, 3)) (ht : (pc : Int) + off = (tgt : Int)) (kt : x < 0 → aw_W l M G B E tgt loc st sh σ kc ks) (kf : ¬ x < 0 → aw_W l M G B E (pc + 3) loc st sh σ kc ks) : aw_W l M G B E pc loc (.int x :: st) sh σ kc ks := by
  intro p e R s m args below meth c A H locs ls C P L
  exact lv_if_lt C.1 C.2.1 hd ht (fun q => kt q p e R s m args below meth c A H locs ls C P L) (fun q => kf q p e R s m args below meth c A H locs ls C P L)
theorem aw_icmp_lt {l : Launch} {M : aw_M} {G : aw_G} {B : aw_B} {E : aw_E} {pc : Nat} {loc : List (Nat × Value)} {st : List Value} {sh : List aw_H} {σ : aw_S} {kc ks : Nat} {x y : Int32} {off : Int} {tgt : Nat} (hd : decode M.2.1 pc = .ok (.if_icmp .lt off, 3)) (ht : (pc : Int) + off = (tgt : Int)) (kt : x < y → aw_W l M G B E tgt loc st sh σ kc ks) (kf : ¬ x < y → aw_W l M G B E (pc + 3) loc st sh σ kc ks) : aw_W l M G B E pc loc (.int y :: .int x :: st) sh σ kc ks := by
  intro p e R s m args below meth c A H locs ls C P L
  exact lv_icmp_lt C.1 C.2.1 hd ht (fun q => kt q p e R s m args below meth c A H locs ls C P L) (fun q => kf q p e R s m args below meth c A H locs ls C P L)
theorem aw_if_ge {l : Launch} {M : aw_M} {G : aw_G} {B : aw_B} {E : aw_E} {pc : Nat} {loc : List (Nat × Value)} {st : List Value} {sh : List aw_H} {σ : aw_S} {kc ks : Nat} {x : Int32} {off : Int} {tgt : Nat} (hd : decode M.2.1 pc = .ok (.ifCond .ge off, 3)) (ht : (pc : Int) + off = (tgt : Int)) (kt : 0 ≤ x → aw_W l M G B E tgt loc st sh σ kc ks) (kf : ¬ 0 ≤ x → aw_W l M G B E (pc + 3) loc st sh σ kc ks) : aw_W l M G B E pc loc (.int x :: st) sh σ kc ks := by
  intro p e R s m args below meth c A H locs ls C P L
  exact lv_if_ge C.1 C.2.1 hd ht (fun q => kt q p e R s m args below meth c A H locs ls C P L) (fun q => kf q p e R s m args below meth c A H locs ls C P L)
theorem aw_icmp_ge {l : Launch} {M : aw_M} {G : aw_G} {B : aw_B} {E : aw_E} {pc : Nat} {loc : List (Nat × Value)} {st : List Value} {sh : List aw_H} {σ : aw_S} {kc ks : Nat} {x y : Int32} {off : Int} {tgt : Nat} (hd : decode M.2.1 pc = .ok (.if_icmp .ge off, 3)) (ht : (pc : Int) + off = (tgt : Int)) (kt : y ≤ x → aw_W l M G B E tgt loc st sh σ kc ks) (kf : ¬ y ≤ x → aw_W l M G B E (pc + 3) loc st sh σ kc ks) : aw_W l M G B E pc loc (.int y :: .int x :: st) sh σ kc ks := by
  intro p e R s m args below meth c A H locs ls C P L
  exact lv_icmp_ge C.1 C.2.1 hd ht (fun q => kt q p e R s m args below meth c A H locs ls C P L) (fun q => kf q p e R s m args below meth c A H locs ls C P L)
theorem aw_if_gt {l : Launch} {M : aw_M} {G : aw_G} {B : aw_B} {E : aw_E} {pc : Nat} {loc : List (Nat × Value)} {st : List Value} {sh : List aw_H} {σ : aw_S} {kc ks : Nat} {x : Int32} {off : Int} {tgt : Nat} (hd : decode M.2.1 pc = .ok (.ifCond .gt off, 3)) (ht : (pc : Int) + off = (tgt : Int)) (kt : 0 < x → aw_W l M G B E tgt loc st sh σ kc ks) (kf : ¬ 0 < x → aw_W l M G B E (pc + 3) loc st sh σ kc ks) : aw_W l M G B E pc loc (.int x :: st) sh σ kc ks := by
  intro p e R s m args below meth c A H locs ls C P L
  exact lv_if_gt C.1 C.2.1 hd ht (fun q => kt q p e R s m args below meth c A H locs ls C P L) (fun q => kf q p e R s m args below meth c A H locs ls C P L)
theorem aw_icmp_gt {l : Launch} {M : aw_M} {G : aw_G} {B : aw_B} {E : aw_E} {pc : Nat} {loc : List (Nat × Value)} {st : List Value} {sh : List aw_H} {σ : aw_S} {kc ks : Nat} {x y : Int32} {off : Int} {tgt : Nat} (hd : decode M.2.1 pc = .ok (.if_icmp .gt off, 3)) (ht : (pc : Int) + off = (tgt : Int)) (kt : y < x → aw_W l M G B E tgt loc st sh σ kc ks) (kf : ¬ y < x → aw_W l M G B E (pc + 3) loc st sh σ kc ks) : aw_W l M G B E pc loc (.int y :: .int x :: st) sh σ kc ks := by
  intro p e R s m args below meth c A H locs ls C P L
  exact lv_icmp_gt C.1 C.2.1 hd ht (fun q => kt q p e R s m args below meth c A H locs ls C P L) (fun q => kf q p e R s m args below meth c A H locs ls C P L)
theorem aw_if_le {l : Launch} {M : aw_M} {G : aw_G} {B : aw_B} {E : aw_E} {pc : Nat} {loc : List (Nat × Value)} {st : List Value} {sh : List aw_H} {σ : aw_S} {kc ks : Nat} {x : Int32} {off : Int} {tgt : Nat} (hd : decode M.2.1 pc = .ok (.ifCond .le off, 3)) (ht : (pc : Int) + off = (tgt : Int)) (kt : x ≤ 0 → aw_W l M G B E tgt loc st sh σ kc ks) (kf : ¬ x ≤ 0 → aw_W l M G B E (pc + 3) loc st sh σ kc ks) : aw_W l M G B E pc loc (.int x :: st) sh σ kc ks := by
  intro p e R s m args below meth c A H locs ls C P L
  exact lv_if_le C.1 C.2.1 hd ht (fun q => kt q p e R s m args below meth c A H locs ls C P L) (fun q => kf q p e R s m args below meth c A H locs ls C P L)
theorem aw_icmp_le {l : Launch} {M : aw_M} {G : aw_G} {B : aw_B} {E : aw_E} {pc : Nat} {loc : List (Nat × Value)} {st : List Value} {sh : List aw_H} {σ : aw_S} {kc ks : Nat} {x y : Int32} {off : Int} {tgt : Nat} (hd : decode M.2.1 pc = .ok (.if_icmp .le off, 3)) (ht : (pc : Int) + off = (tgt : Int)) (kt : x ≤ y → aw_W l M G B E tgt loc st sh σ kc ks) (kf : ¬ x ≤ y → aw_W l M G B E (pc + 3) loc st sh σ kc ks) : aw_W l M G B E pc loc (.int y :: .int x :: st) sh σ kc ks := by
  intro p e R s m args below meth c A H locs ls C P L
  exact lv_icmp_le C.1 C.2.1 hd ht (fun q => kt q p e R s m args below meth c A H locs ls C P L) (fun q => kf q p e R s m args below meth c A H locs ls C P L)
theorem aw_tableIn {l : Launch} {M : aw_M} {G : aw_G} {B : aw_B} {E : aw_E} {pc : Nat} {loc : List (Nat × Value)} {st : List Value} {sh : List aw_H} {σ : aw_S} {kc ks : Nat} {dflt lo hi : Int} {offs : Array Int} {len : Nat} {x : Int32} {off : Int} {tgt : Nat} (hd : decode M.2.1 pc = .ok (.tableswitch dflt lo hi offs, len)) (n : Nat) (hx : x.toInt = lo + n) (hn : lo + n ≤ hi) (ho : offs[n]? = some off) (ht : (pc : Int) + off = (tgt : Int)) (k : aw_W l M G B E tgt loc st sh σ kc ks) : aw_W l M G B E pc loc (.int x :: st) sh σ kc ks := by
  intro p e R s m args below meth c A H locs ls C P L
  exact lv_tableIn C.1 C.2.1 hd (by omega) (by omega) (by rw [show (x.toInt - lo).toNat = n by omega]; exact ho) ht (k p e R s m args below meth c A H locs ls C P L)
theorem aw_tableOut {l : Launch} {M : aw_M} {G : aw_G} {B : aw_B} {E : aw_E} {pc : Nat} {loc : List (Nat × Value)} {st : List Value} {sh : List aw_H} {σ : aw_S} {kc ks : Nat} {dflt lo hi : Int} {offs : Array Int} {len : Nat} {x : Int32} {tgt : Nat} (hd : decode M.2.1 pc = .ok (.tableswitch dflt lo hi offs, len)) (h : x.toInt < lo ∨ hi < x.toInt) (ht : (pc : Int) + dflt = (tgt : Int)) (k : aw_W l M G B E tgt loc st sh σ kc ks) : aw_W l M G B E pc loc (.int x :: st) sh σ kc ks := by
  intro p e R s m args below meth c A H locs ls C P L
  exact lv_tableOut C.1 C.2.1 hd h ht (k p e R s m args below meth c A H locs ls C P L)
theorem aw_lookup {l : Launch} {M : aw_M} {G : aw_G} {B : aw_B} {E : aw_E} {pc : Nat} {loc : List (Nat × Value)} {st : List Value} {sh : List aw_H} {σ : aw_S} {kc ks : Nat} {dflt : Int} {ps : Array (Int × Int)} {len : Nat} {x : Int32} {off : Int} {tgt : Nat} (hd : decode M.2.1 pc = .ok (.lookupswitch dflt ps, len)) (hp : (ps.toList.zip (ps.toList.drop 1)).all (fun (a, next) => a.1 < next.1) = true) (ho : Op.lookupswitch.offset ps.toList dflt x.toInt = off) (ht : (pc : Int) + off = (tgt : Int)) (k : aw_W l M G B E tgt loc st sh σ kc ks) : aw_W l M G B E pc loc (.int x :: st) sh σ kc ks := by
  intro p e R s m args below meth c A H locs ls C P L
  exact lv_lookup C.1 C.2.1 hd hp ho ht (k p e R s m args below meth c A H locs ls C P L)


/-! ===== fields ===== -/
/-- what a field's entry of the constant pool says: class, place, type, final -/
def aw_Fd (own : String) (idx ci j : Nat) (ty : FieldType) (fin : Bool) : Prop :=
  ∃ (C : String) (T : u_T) (N : Nat) (ty0 : Nat → FieldType), vwCl[ci]? = some (C, T, N) ∧ j < N ∧ (∀ w ∈ u_ws C T N, w ∈ wsL_law) ∧ (∀ k, k < N → parseFieldDescriptor (T k).2.2.1 = some (ty0 k)) ∧ (∀ a, a < N → ∀ b, b < N → a ≠ b → (T a).2.1 ≠ (T b).2.1) ∧
    Cond.fieldLink own idx (T j).1 (T j).2.1 (T j).2.2.1 ∈ wsL_law ∧ (T j).2.2.2 = fin ∧ parseFieldDescriptor (T j).2.2.1 = some ty ∧ (fin = true → (T j).1 = own)
/-- the same of a field that is only read -/
def aw_Fr (own : String) (idx ci j : Nat) (ty : FieldType) : Prop :=
  ∃ (C : String) (T : u_T) (N : Nat) (ty0 : Nat → FieldType), vwCl[ci]? = some (C, T, N) ∧ j < N ∧ (∀ w ∈ u_ws C T N, w ∈ wsL_law) ∧ (∀ k, k < N → parseFieldDescriptor (T k).2.2.1 = some (ty0 k)) ∧ (∀ a, a < N → ∀ b, b < N → a ≠ b → (T a).2.1 ≠ (T b).2.1) ∧
    Cond.fieldLink own idx (T j).1 (T j).2.1 (T j).2.2.1 ∈ wsL_law ∧ parseFieldDescriptor (T j).2.2.1 = some ty
theorem aw_Fd.r {own : String} {idx ci j : Nat} {ty : FieldType} {fin : Bool} (h : aw_Fd own idx ci j ty fin) : aw_Fr own idx ci j ty := by
  obtain ⟨C, T, N, ty0, h1, h2, h3, h4, h5, h6, h7, h8, h9⟩ := h
  exact ⟨C, T, N, ty0, h1, h2, h3, h4, h5, h6, h8⟩
/-- the world behind a store: the walk's own frame -/
theorem aw_Hp_st {G : aw_G} {A : Nat → Prop} {s : State} {H H1 : Heap} {locs locs1 : List Loc} {sh sh' : List aw_H} {σ σ' : aw_S} {kc : Nat} (P : aw_Hp G A s H locs sh σ kc) (hP : va_P (G.1, G.2.1) vwCl (aw_w G.2.2.2.1 G.2.2.1 sh' σ') H1) (hS : va_S A s.heap H1 locs1) (hl : sh'.length = sh.length) : aw_Hp G A s H1 locs1 sh' σ' kc :=
  ⟨hP, hS, fun k hk => P.2.2.1 k (by rw [← hl]; exact hk), fun ha => ⟨by rw [hl]; exact (P.2.2.2 ha).1, (P.2.2.2 ha).2⟩⟩
theorem aw_getI {l : Launch} {M : aw_M} {G : aw_G} {B : aw_B} {E : aw_E} {pc : Nat} {loc : List (Nat × Value)} {st : List Value} {sh : List aw_H} {σ : aw_S} {kc ks : Nat} {idx ci j o : Nat} {ty : FieldType} {fs : List aw_F}  (hF : aw_Fr M.1 idx ci j ty) (hs : sh[o]? = some (.inl (ci, fs))) (hf : fs[j]? = some (.inl 0)) (hd : decode M.2.1 pc = .ok (.getfield idx, 3)) (k : aw_W l M G B E (pc + 3) loc (.int (σ.1 o j) :: st) sh σ kc ks) : aw_W l M G B E pc loc (.ref o :: st) sh σ kc ks := by
  obtain ⟨Cn, T, N, ty0, h1, h2, h3, h4, h5, h6, h8⟩ := hF
  intro p e R s m args below meth c A H locs ls C P L
  refine va_get (D := (G.1, G.2.1)) (ci := ci) (C := Cn) (T := T) (N := N) C.1 C.2.1 C.2.2.2.2.2.2.1 h3 C.2.2.2.2.1 C.2.2.2.2.2.2.2.2.1 P.1 o (aw_w_get hs) h1 j h2 (C.2.2.2.2.2.2.1 _ h6) (fun _ h => h) (v := aw_v G.2.2.2.1 (.int (σ.1 o j))) ?_ hd (k p e R s m args below meth c A H locs ls C P L)
  rw [List.getElem?_mapIdx, hf]
  rfl
theorem aw_getL {l : Launch} {M : aw_M} {G : aw_G} {B : aw_B} {E : aw_E} {pc : Nat} {loc : List (Nat × Value)} {st : List Value} {sh : List aw_H} {σ : aw_S} {kc ks : Nat} {idx ci j o : Nat} {ty : FieldType} {fs : List aw_F}  (hF : aw_Fr M.1 idx ci j ty) (hs : sh[o]? = some (.inl (ci, fs))) (hf : fs[j]? = some (.inl 1)) (hd : decode M.2.1 pc = .ok (.getfield idx, 3)) (k : aw_W l M G B E (pc + 3) loc (.long (σ.2.1 o j) :: st) sh σ kc ks) : aw_W l M G B E pc loc (.ref o :: st) sh σ kc ks := by
  obtain ⟨Cn, T, N, ty0, h1, h2, h3, h4, h5, h6, h8⟩ := hF
  intro p e R s m args below meth c A H locs ls C P L
  refine va_get (D := (G.1, G.2.1)) (ci := ci) (C := Cn) (T := T) (N := N) C.1 C.2.1 C.2.2.2.2.2.2.1 h3 C.2.2.2.2.1 C.2.2.2.2.2.2.2.2.1 P.1 o (aw_w_get hs) h1 j h2 (C.2.2.2.2.2.2.1 _ h6) (fun _ h => h) (v := aw_v G.2.2.2.1 (.long (σ.2.1 o j))) ?_ hd (k p e R s m args below meth c A H locs ls C P L)
  rw [List.getElem?_mapIdx, hf]
  rfl
theorem aw_getC {l : Launch} {M : aw_M} {G : aw_G} {B : aw_B} {E : aw_E} {pc : Nat} {loc : List (Nat × Value)} {st : List Value} {sh : List aw_H} {σ : aw_S} {kc ks : Nat} {idx ci j o : Nat} {ty : FieldType} {fs : List aw_F} {r : Nat} (hF : aw_Fr M.1 idx ci j ty) (hs : sh[o]? = some (.inl (ci, fs))) (hf : fs[j]? = some (.inr r)) (hd : decode M.2.1 pc = .ok (.getfield idx, 3)) (k : aw_W l M G B E (pc + 3) loc (.ref r :: st) sh σ kc ks) : aw_W l M G B E pc loc (.ref o :: st) sh σ kc ks := by
  obtain ⟨Cn, T, N, ty0, h1, h2, h3, h4, h5, h6, h8⟩ := hF
  intro p e R s m args below meth c A H locs ls C P L
  refine va_get (D := (G.1, G.2.1)) (ci := ci) (C := Cn) (T := T) (N := N) C.1 C.2.1 C.2.2.2.2.2.2.1 h3 C.2.2.2.2.1 C.2.2.2.2.2.2.2.2.1 P.1 o (aw_w_get hs) h1 j h2 (C.2.2.2.2.2.2.1 _ h6) (fun _ h => h) (v := aw_v G.2.2.2.1 (.ref r)) ?_ hd (k p e R s m args below meth c A H locs ls C P L)
  rw [List.getElem?_mapIdx, hf]
  rfl
theorem aw_getR {l : Launch} {M : aw_M} {G : aw_G} {B : aw_B} {E : aw_E} {pc : Nat} {loc : List (Nat × Value)} {st : List Value} {sh : List aw_H} {σ : aw_S} {kc ks : Nat} {idx ci j o r : Nat} {ty : FieldType} {fs : List aw_F} (hF : aw_Fr M.1 idx ci j ty) (hs : sh[o]? = some (.inl (ci, fs))) (hf : fs[j]? = some (.inl 2)) (hr : σ.2.2 o j = some r) (hd : decode M.2.1 pc = .ok (.getfield idx, 3)) (k : aw_W l M G B E (pc + 3) loc (.ref r :: st) sh σ kc ks) : aw_W l M G B E pc loc (.ref o :: st) sh σ kc ks := by
  obtain ⟨Cn, T, N, ty0, h1, h2, h3, h4, h5, h6, h8⟩ := hF
  intro p e R s m args below meth c A H locs ls C P L
  refine va_get (D := (G.1, G.2.1)) (ci := ci) (C := Cn) (T := T) (N := N) C.1 C.2.1 C.2.2.2.2.2.2.1 h3 C.2.2.2.2.1 C.2.2.2.2.2.2.2.2.1 P.1 o (aw_w_get hs) h1 j h2 (C.2.2.2.2.2.2.1 _ h6) (fun _ h => h) (v := .ref (G.2.2.2.1 + r)) ?_ hd (k p e R s m args below meth c A H locs ls C P L)
  rw [List.getElem?_mapIdx, hf]
  show some (aw_rf G.2.2.2.1 (σ.2.2 o j)) = _
  rw [hr]
  rfl
theorem aw_putI {l : Launch} {M : aw_M} {G : aw_G} {B : aw_B} {E : aw_E} {pc : Nat} {loc : List (Nat × Value)} {st : List Value} {sh : List aw_H} {σ : aw_S} {kc ks : Nat} {idx ci j o : Nat} {ty : FieldType} {fs : List aw_F} {v : Int32} (hF : aw_Fd M.1 idx ci j ty false) (hs : sh[o]? = some (.inl (ci, fs))) (hf : fs[j]? = some (.inl 0)) (hn : ∀ b, narrow ty (aw_v b (.int v)) = aw_v b (.int v)) (hft : ∀ b, fits ty (aw_v b (.int v)) = true) (hd : decode M.2.1 pc = .ok (.putfield idx, 3)) (k : aw_W l M G B E (pc + 3) loc st sh (aw_sI σ o j v) kc ks) : aw_W l M G B E pc loc (.int v :: .ref o :: st) sh σ kc ks := by
  obtain ⟨Cn, T, N, ty0, h1, h2, h3, h4, h5, h6, h7, h8, h9⟩ := hF
  intro p e R s m args below meth c A H locs ls C P L
  have hj : j < (fs.mapIdx (fun j f => aw_fv G.2.2.2.1 σ o j f)).length := by rw [List.length_mapIdx]; exact (List.getElem?_eq_some_iff.mp hf).1
  refine va_put (D := (G.1, G.2.1)) (ci := ci) (C := Cn) (T := T) (N := N) (v := .int v) C.1 C.2.1 C.2.2.2.2.2.2.1 h3 ty0 h4 h5 C.2.2.2.2.1 C.2.2.2.2.2.2.2.2.1 P.1 (aw_w_D P.2.2.1) P.2.1 o (aw_w_get hs) h1 j h2 (C.2.2.2.2.2.2.1 _ h6) (fun _ h => h) h7 h8 (hn G.2.2.2.1) (hft G.2.2.2.1) hj hd (fun H1 locs1 hP1 hD1 hS1 => ?_)
  rw [aw_w_fI hs hf] at hP1
  exact k p e R s m args below meth c A H1 locs1 ls C (aw_Hp_st P hP1 hS1 (by first | rfl | exact List.length_set ..)) L
theorem aw_putL {l : Launch} {M : aw_M} {G : aw_G} {B : aw_B} {E : aw_E} {pc : Nat} {loc : List (Nat × Value)} {st : List Value} {sh : List aw_H} {σ : aw_S} {kc ks : Nat} {idx ci j o : Nat} {ty : FieldType} {fs : List aw_F} {v : Int64} (hF : aw_Fd M.1 idx ci j ty false) (hs : sh[o]? = some (.inl (ci, fs))) (hf : fs[j]? = some (.inl 1)) (hn : ∀ b, narrow ty (aw_v b (.long v)) = aw_v b (.long v)) (hft : ∀ b, fits ty (aw_v b (.long v)) = true) (hd : decode M.2.1 pc = .ok (.putfield idx, 3)) (k : aw_W l M G B E (pc + 3) loc st sh (aw_sL σ o j v) kc ks) : aw_W l M G B E pc loc (.long v :: .ref o :: st) sh σ kc ks := by
  obtain ⟨Cn, T, N, ty0, h1, h2, h3, h4, h5, h6, h7, h8, h9⟩ := hF
  intro p e R s m args below meth c A H locs ls C P L
  have hj : j < (fs.mapIdx (fun j f => aw_fv G.2.2.2.1 σ o j f)).length := by rw [List.length_mapIdx]; exact (List.getElem?_eq_some_iff.mp hf).1
  refine va_put (D := (G.1, G.2.1)) (ci := ci) (C := Cn) (T := T) (N := N) (v := .long v) C.1 C.2.1 C.2.2.2.2.2.2.1 h3 ty0 h4 h5 C.2.2.2.2.1 C.2.2.2.2.2.2.2.2.1 P.1 (aw_w_D P.2.2.1) P.2.1 o (aw_w_get hs) h1 j h2 (C.2.2.2.2.2.2.1 _ h6) (fun _ h => h) h7 h8 (hn G.2.2.2.1) (hft G.2.2.2.1) hj hd (fun H1 locs1 hP1 hD1 hS1 => ?_)
  rw [aw_w_fL hs hf] at hP1
  exact k p e R s m args below meth c A H1 locs1 ls C (aw_Hp_st P hP1 hS1 (by first | rfl | exact List.length_set ..)) L
theorem aw_putR {l : Launch} {M : aw_M} {G : aw_G} {B : aw_B} {E : aw_E} {pc : Nat} {loc : List (Nat × Value)} {st : List Value} {sh : List aw_H} {σ : aw_S} {kc ks : Nat} {idx ci j o : Nat} {ty : FieldType} {fs : List aw_F} {v : Nat} (hF : aw_Fd M.1 idx ci j ty false) (hs : sh[o]? = some (.inl (ci, fs))) (hf : fs[j]? = some (.inl 2)) (hn : ∀ b, narrow ty (aw_v b (.ref v)) = aw_v b (.ref v)) (hft : ∀ b, fits ty (aw_v b (.ref v)) = true) (hd : decode M.2.1 pc = .ok (.putfield idx, 3)) (k : aw_W l M G B E (pc + 3) loc st sh (aw_sR σ o j (some v)) kc ks) : aw_W l M G B E pc loc (.ref v :: .ref o :: st) sh σ kc ks := by
  obtain ⟨Cn, T, N, ty0, h1, h2, h3, h4, h5, h6, h7, h8, h9⟩ := hF
  intro p e R s m args below meth c A H locs ls C P L
  have hj : j < (fs.mapIdx (fun j f => aw_fv G.2.2.2.1 σ o j f)).length := by rw [List.length_mapIdx]; exact (List.getElem?_eq_some_iff.mp hf).1
  refine va_put (D := (G.1, G.2.1)) (ci := ci) (C := Cn) (T := T) (N := N) (v := aw_rf G.2.2.2.1 (some v)) C.1 C.2.1 C.2.2.2.2.2.2.1 h3 ty0 h4 h5 C.2.2.2.2.1 C.2.2.2.2.2.2.2.2.1 P.1 (aw_w_D P.2.2.1) P.2.1 o (aw_w_get hs) h1 j h2 (C.2.2.2.2.2.2.1 _ h6) (fun _ h => h) h7 h8 (hn G.2.2.2.1) (hft G.2.2.2.1) hj hd (fun H1 locs1 hP1 hD1 hS1 => ?_)
  rw [aw_w_fR hs hf] at hP1
  exact k p e R s m args below meth c A H1 locs1 ls C (aw_Hp_st P hP1 hS1 (by first | rfl | exact List.length_set ..)) L
theorem aw_putC {l : Launch} {M : aw_M} {G : aw_G} {B : aw_B} {E : aw_E} {pc : Nat} {loc : List (Nat × Value)} {st : List Value} {sh : List aw_H} {σ : aw_S} {kc ks : Nat} {idx ci j o : Nat} {ty : FieldType} {fs : List aw_F} {v : Nat} (hF : aw_Fd M.1 idx ci j ty true) (hs : sh[o]? = some (.inl (ci, fs))) (hf : j < fs.length) (hini : M.2.2.2.2 = true) (hn : ∀ b, narrow ty (aw_v b (.ref v)) = aw_v b (.ref v)) (hft : ∀ b, fits ty (aw_v b (.ref v)) = true) (hd : decode M.2.1 pc = .ok (.putfield idx, 3)) (k : aw_W l M G B E (pc + 3) loc st (sh.set o (.inl (ci, fs.set j (.inr v)))) σ kc ks) : aw_W l M G B E pc loc (.ref v :: .ref o :: st) sh σ kc ks := by
  obtain ⟨Cn, T, N, ty0, h1, h2, h3, h4, h5, h6, h7, h8, h9⟩ := hF
  intro p e R s m args below meth c A H locs ls C P L
  have hj : j < (fs.mapIdx (fun j f => aw_fv G.2.2.2.1 σ o j f)).length := by rw [List.length_mapIdx]; exact hf
  refine va_putF (D := (G.1, G.2.1)) (ci := ci) (C := Cn) (T := T) (N := N) (v := .ref (G.2.2.2.1 + v)) C.1 C.2.1 C.2.2.2.2.2.2.1 h3 ty0 h4 h5 C.2.2.2.2.1 C.2.2.2.2.2.2.2.2.1 P.1 (aw_w_D P.2.2.1) P.2.1 o (aw_w_get hs) h1 j h2 (C.2.2.2.2.2.2.1 _ h6) (fun _ h => h) h7 (C.2.2.2.2.2.2.2.2.2.1 hini) (h9 rfl) h8 (hn G.2.2.2.1) (hft G.2.2.2.1) hj hd (fun H1 locs1 hP1 hD1 hS1 => ?_)
  rw [aw_w_fC hs hf] at hP1
  exact k p e R s m args below meth c A H1 locs1 ls C (aw_Hp_st P hP1 hS1 (by first | rfl | exact List.length_set ..)) L

/-! ===== arrays ===== -/
theorem aw_iald {l : Launch} {M : aw_M} {G : aw_G} {B : aw_B} {E : aw_E} {pc : Nat} {loc : List (Nat × Value)} {st : List Value} {sh : List aw_H} {σ : aw_S} {kc ks : Nat} {o n : Nat} {f : Nat → Option Nat} {i : Int32} (hs : sh[o]? = some (.inr (0, n, f))) (hin : vp_in i n) (hd : decode M.2.1 pc = .ok (.iaload, 1)) (k : aw_W l M G B E (pc + 1) loc (.int (σ.1 o i.toNatClampNeg) :: st) sh σ kc ks) : aw_W l M G B E pc loc (.int i :: .ref o :: st) sh σ kc ks := by
  intro p e R s m args below meth c A H locs ls C P L
  exact va_iald (D := (G.1, G.2.1)) C.1 C.2.1 C.2.2.2.2.2.2.2.2.1 P.1 o 0 ((aw_w_get hs).trans (congrArg (fun z => some (G.2.2.2.1 + o, z)) (aw_ar_i (by decide)))) rfl hin hd (k p e R s m args below meth c A H locs ls C P L)
theorem aw_bald {l : Launch} {M : aw_M} {G : aw_G} {B : aw_B} {E : aw_E} {pc : Nat} {loc : List (Nat × Value)} {st : List Value} {sh : List aw_H} {σ : aw_S} {kc ks : Nat} {o n : Nat} {f : Nat → Option Nat} {i : Int32} (hs : sh[o]? = some (.inr (1, n, f))) (hin : vp_in i n) (hd : decode M.2.1 pc = .ok (.baload, 1)) (k : aw_W l M G B E (pc + 1) loc (.int (σ.1 o i.toNatClampNeg) :: st) sh σ kc ks) : aw_W l M G B E pc loc (.int i :: .ref o :: st) sh σ kc ks := by
  intro p e R s m args below meth c A H locs ls C P L
  exact va_bald (D := (G.1, G.2.1)) C.1 C.2.1 C.2.2.2.2.2.2.2.2.1 P.1 o 1 ((aw_w_get hs).trans (congrArg (fun z => some (G.2.2.2.1 + o, z)) (aw_ar_i (by decide)))) rfl hin hd (k p e R s m args below meth c A H locs ls C P L)
theorem aw_zald {l : Launch} {M : aw_M} {G : aw_G} {B : aw_B} {E : aw_E} {pc : Nat} {loc : List (Nat × Value)} {st : List Value} {sh : List aw_H} {σ : aw_S} {kc ks : Nat} {o n : Nat} {f : Nat → Option Nat} {i : Int32} (hs : sh[o]? = some (.inr (2, n, f))) (hin : vp_in i n) (hd : decode M.2.1 pc = .ok (.baload, 1)) (k : aw_W l M G B E (pc + 1) loc (.int (σ.1 o i.toNatClampNeg) :: st) sh σ kc ks) : aw_W l M G B E pc loc (.int i :: .ref o :: st) sh σ kc ks := by
  intro p e R s m args below meth c A H locs ls C P L
  exact va_zald (D := (G.1, G.2.1)) C.1 C.2.1 C.2.2.2.2.2.2.2.2.1 P.1 o 2 ((aw_w_get hs).trans (congrArg (fun z => some (G.2.2.2.1 + o, z)) (aw_ar_i (by decide)))) rfl hin hd (k p e R s m args below meth c A H locs ls C P L)
theorem aw_lald {l : Launch} {M : aw_M} {G : aw_G} {B : aw_B} {E : aw_E} {pc : Nat} {loc : List (Nat × Value)} {st : List Value} {sh : List aw_H} {σ : aw_S} {kc ks : Nat} {o n : Nat} {f : Nat → Option Nat} {i : Int32} (hs : sh[o]? = some (.inr (3, n, f))) (hin : vp_in i n) (hd : decode M.2.1 pc = .ok (.laload, 1)) (k : aw_W l M G B E (pc + 1) loc (.long (σ.2.1 o i.toNatClampNeg) :: st) sh σ kc ks) : aw_W l M G B E pc loc (.int i :: .ref o :: st) sh σ kc ks := by
  intro p e R s m args below meth c A H locs ls C P L
  exact va_lald (D := (G.1, G.2.1)) C.1 C.2.1 C.2.2.2.2.2.2.2.2.1 P.1 o 3 ((aw_w_get hs).trans (congrArg (fun z => some (G.2.2.2.1 + o, z)) aw_ar_l)) rfl hin hd (k p e R s m args below meth c A H locs ls C P L)
theorem aw_iast {l : Launch} {M : aw_M} {G : aw_G} {B : aw_B} {E : aw_E} {pc : Nat} {loc : List (Nat × Value)} {st : List Value} {sh : List aw_H} {σ : aw_S} {kc ks : Nat} {o n : Nat} {f : Nat → Option Nat} {i : Int32} {x : Int32} (hs : sh[o]? = some (.inr (0, n, f))) (hin : vp_in i n) (hd : decode M.2.1 pc = .ok (.iastore, 1)) (k : aw_W l M G B E (pc + 1) loc st sh (aw_sI σ o i.toNatClampNeg x) kc ks) : aw_W l M G B E pc loc (.int x :: .int i :: .ref o :: st) sh σ kc ks := by
  intro p e R s m args below meth c A H locs ls C P L
  refine va_iast (D := (G.1, G.2.1)) C.1 C.2.1 C.2.2.2.2.2.2.2.2.1 P.1 (aw_w_D P.2.2.1) P.2.1 o 0 ((aw_w_get hs).trans (congrArg (fun z => some (G.2.2.2.1 + o, z)) (aw_ar_i (by decide)))) rfl hin hd (fun H1 locs1 hP1 hD1 hS1 => ?_)
  rw [aw_w_aI hs (by decide)] at hP1
  exact k p e R s m args below meth c A H1 locs1 ls C (aw_Hp_st P hP1 hS1 rfl) L
theorem aw_bast {l : Launch} {M : aw_M} {G : aw_G} {B : aw_B} {E : aw_E} {pc : Nat} {loc : List (Nat × Value)} {st : List Value} {sh : List aw_H} {σ : aw_S} {kc ks : Nat} {o n : Nat} {f : Nat → Option Nat} {i : Int32} {x : Int32} (hs : sh[o]? = some (.inr (1, n, f))) (hin : vp_in i n) (hd : decode M.2.1 pc = .ok (.bastore, 1)) (k : aw_W l M G B E (pc + 1) loc st sh (aw_sI σ o i.toNatClampNeg (vp_nar .byte x)) kc ks) : aw_W l M G B E pc loc (.int x :: .int i :: .ref o :: st) sh σ kc ks := by
  intro p e R s m args below meth c A H locs ls C P L
  refine va_bast (D := (G.1, G.2.1)) C.1 C.2.1 C.2.2.2.2.2.2.2.2.1 P.1 (aw_w_D P.2.2.1) P.2.1 o 1 ((aw_w_get hs).trans (congrArg (fun z => some (G.2.2.2.1 + o, z)) (aw_ar_i (by decide)))) rfl hin hd (fun H1 locs1 hP1 hD1 hS1 => ?_)
  rw [aw_w_aI hs (by decide)] at hP1
  exact k p e R s m args below meth c A H1 locs1 ls C (aw_Hp_st P hP1 hS1 rfl) L
theorem aw_zast {l : Launch} {M : aw_M} {G : aw_G} {B : aw_B} {E : aw_E} {pc : Nat} {loc : List (Nat × Value)} {st : List Value} {sh : List aw_H} {σ : aw_S} {kc ks : Nat} {o n : Nat} {f : Nat → Option Nat} {i : Int32} {x : Int32} (hs : sh[o]? = some (.inr (2, n, f))) (hin : vp_in i n) (hd : decode M.2.1 pc = .ok (.bastore, 1)) (k : aw_W l M G B E (pc + 1) loc st sh (aw_sI σ o i.toNatClampNeg (vp_nar .boolean x)) kc ks) : aw_W l M G B E pc loc (.int x :: .int i :: .ref o :: st) sh σ kc ks := by
  intro p e R s m args below meth c A H locs ls C P L
  refine va_zast (D := (G.1, G.2.1)) C.1 C.2.1 C.2.2.2.2.2.2.2.2.1 P.1 (aw_w_D P.2.2.1) P.2.1 o 2 ((aw_w_get hs).trans (congrArg (fun z => some (G.2.2.2.1 + o, z)) (aw_ar_i (by decide)))) rfl hin hd (fun H1 locs1 hP1 hD1 hS1 => ?_)
  rw [aw_w_aI hs (by decide)] at hP1
  exact k p e R s m args below meth c A H1 locs1 ls C (aw_Hp_st P hP1 hS1 rfl) L
theorem aw_last {l : Launch} {M : aw_M} {G : aw_G} {B : aw_B} {E : aw_E} {pc : Nat} {loc : List (Nat × Value)} {st : List Value} {sh : List aw_H} {σ : aw_S} {kc ks : Nat} {o n : Nat} {f : Nat → Option Nat} {i : Int32} {x : Int64} (hs : sh[o]? = some (.inr (3, n, f))) (hin : vp_in i n) (hd : decode M.2.1 pc = .ok (.lastore, 1)) (k : aw_W l M G B E (pc + 1) loc st sh (aw_sL σ o i.toNatClampNeg x) kc ks) : aw_W l M G B E pc loc (.long x :: .int i :: .ref o :: st) sh σ kc ks := by
  intro p e R s m args below meth c A H locs ls C P L
  refine va_last (D := (G.1, G.2.1)) C.1 C.2.1 C.2.2.2.2.2.2.2.2.1 P.1 (aw_w_D P.2.2.1) P.2.1 o 3 ((aw_w_get hs).trans (congrArg (fun z => some (G.2.2.2.1 + o, z)) aw_ar_l)) rfl hin hd (fun H1 locs1 hP1 hD1 hS1 => ?_)
  rw [aw_w_aL hs] at hP1
  exact k p e R s m args below meth c A H1 locs1 ls C (aw_Hp_st P hP1 hS1 rfl) L
theorem aw_aald {l : Launch} {M : aw_M} {G : aw_G} {B : aw_B} {E : aw_E} {pc : Nat} {loc : List (Nat × Value)} {st : List Value} {sh : List aw_H} {σ : aw_S} {kc ks : Nat} {o n kd r : Nat} {f : Nat → Option Nat} {i : Int32} (hk : kd = 4 ∨ kd = 5) (hs : sh[o]? = some (.inr (kd, n, f))) (hin : vp_in i n) (hr : f i.toNatClampNeg = some r) (hd : decode M.2.1 pc = .ok (.aaload, 1)) (k : aw_W l M G B E (pc + 1) loc (.ref r :: st) sh σ kc ks) : aw_W l M G B E pc loc (.int i :: .ref o :: st) sh σ kc ks := by
  intro p e R s m args below meth c A H locs ls C P L
  have hlt : i.toNatClampNeg < n := Nat.not_le.mp fun q => hin (Or.inr q)
  have key : ∀ (ty : FieldType), (aw_ty G.2.2.1)[kd]? = some (G.2.2.1 kd, ty) → refKind ty = true → W p l e R s m args below meth c H locs kc ks (MQ below (aw_Q G E A) args s B.2.2.1 B.2.2.2 A) (F0 m pc ls ((Value.int i :: .ref o :: st).map (aw_v G.2.2.2.1))) := by
    intro ty ht hrk
    have hc := P.1 o _ ((aw_w_get hs).trans (congrArg (fun z => some (G.2.2.2.1 + o, z)) (aw_ar_q (by omega))))
    exact W.aald (v := .ref (G.2.2.2.1 + r)) (ty := ty) C.1 C.2.1 hc ((C.2.2.2.2.2.2.2.2.1.2 kd _ ht).1 n (fun j => va_rf ((f j).map (fun x => G.2.2.2.1 + x)))) hrk (fun q => by cases q) (by show ¬ (i < 0 ∨ (arrV _ _ _).slots.size ≤ _); rw [arrV_size]; exact hin) (by show (arrV _ _ _).slots[_]? = _; rw [arrV_read _ _ hlt]; show some (va_rf ((f i.toNatClampNeg).map (fun x => G.2.2.2.1 + x))) = _; rw [hr]; rfl) rfl rfl hd (k p e R s m args below meth c A H locs ls C P L)
  rcases hk with rfl | rfl
  · exact key _ rfl rfl
  · exact key _ rfl rfl
theorem aw_alen {l : Launch} {M : aw_M} {G : aw_G} {B : aw_B} {E : aw_E} {pc : Nat} {loc : List (Nat × Value)} {st : List Value} {sh : List aw_H} {σ : aw_S} {kc ks : Nat} {o n kd : Nat} {f : Nat → Option Nat} {v : Int32} (hs : sh[o]? = some (.inr (kd, n, f))) (hk : kd < 6) (hv : Int32.ofNat n = v) (hd : decode M.2.1 pc = .ok (.arraylength, 1)) (k : aw_W l M G B E (pc + 1) loc (.int v :: st) sh σ kc ks) : aw_W l M G B E pc loc (.ref o :: st) sh σ kc ks := by
  intro p e R s m args below meth c A H locs ls C P L
  have ht : ∃ ty, (aw_ty G.2.2.1)[kd]? = some (G.2.2.1 kd, ty) := by
    have h : kd = 0 ∨ kd = 1 ∨ kd = 2 ∨ kd = 3 ∨ kd = 4 ∨ kd = 5 := by omega
    rcases h with rfl | rfl | rfl | rfl | rfl | rfl <;> exact ⟨_, rfl⟩
  obtain ⟨ty, ht⟩ := ht
  exact va_alen (D := (G.1, G.2.1)) C.1 C.2.1 C.2.2.2.2.2.2.2.2.1 P.1 o kd (cA := G.2.2.1 kd) (x := aw_ar G.2.2.2.1 σ o kd n f) (aw_w_get hs) ht hv hd (k p e R s m args below meth c A H locs ls C P L)
/-! ===== returns ===== -/
theorem aw_end {p : Program} {R : Room} {s : State} {m : MethodId} {args : Array Value} {meth : Method} {c : Code} {A : Nat → Prop} {H : Heap} {locs : List Loc} {M : aw_M} {G : aw_G} {B : aw_B} {r : Option Value} {sh : List aw_H} {σ : aw_S} {kc : Nat} (C : aw_Cx p R s m args meth c M G B) (P : aw_Hp G A s H locs sh σ kc) (hz : G.2.2.2.2 → H.size = G.2.2.2.1 + sh.length) {a : Array Value} {v : Option Value} (hv : v = r.map (aw_v G.2.2.2.1)) : ∀ t : State, t.heap = H → s.WarmedH t.vm → aw_Q G (r, sh, σ) A a s (.returned v) t := by
  intro t ht hW
  subst hv
  refine ⟨⟨rfl, by rw [ht]; exact P.1, va_K.moved hW.alike C.2.2.2.2.2.2.2.2.1, fun ha => by rw [ht]; exact hz ha⟩, P.2.1.F ht⟩
theorem aw_iret {l : Launch} {M : aw_M} {G : aw_G} {B : aw_B} {pc : Nat} {loc : List (Nat × Value)} {sh : List aw_H} {σ : aw_S} {kc ks : Nat} {v : Int32} {ty : FieldType} (hr : M.2.2.2.1 = some ty) (hn : narrow ty (.int v) = .int v) (hc : kc ≤ B.2.2.1 ∧ ks ≤ B.2.2.2) (hd : decode M.2.1 pc = .ok (.ireturn, 1)) : aw_W l M G B (some (.int v), sh, σ) pc loc [.int v] sh σ kc ks := by
  intro p e R s m args below meth c A H locs ls C P L
  refine aw_sz P (fun hz => W.widen hc.1 hc.2 ?_)
  exact W.zret (ty := ty) C.1 C.2.1 (C.2.2.2.1.trans hr) hn (aw_end C P hz rfl) P.2.1.2.2 hd C.2.2.2.2.2.1
theorem aw_lret {l : Launch} {M : aw_M} {G : aw_G} {B : aw_B} {pc : Nat} {loc : List (Nat × Value)} {sh : List aw_H} {σ : aw_S} {kc ks : Nat} {v : Int64} (hr : M.2.2.2.1 = some .long) (hc : kc ≤ B.2.2.1 ∧ ks ≤ B.2.2.2) (hd : decode M.2.1 pc = .ok (.lreturn, 1)) : aw_W l M G B (some (.long v), sh, σ) pc loc [.long v] sh σ kc ks := by
  intro p e R s m args below meth c A H locs ls C P L
  refine aw_sz P (fun hz => W.widen hc.1 hc.2 ?_)
  exact W.lret C.1 C.2.1 (C.2.2.2.1.trans hr) (aw_end C P hz rfl) P.2.1.2.2 hd C.2.2.2.2.2.1
theorem aw_vret {l : Launch} {M : aw_M} {G : aw_G} {B : aw_B} {pc : Nat} {loc : List (Nat × Value)} {sh : List aw_H} {σ : aw_S} {kc ks : Nat} (hr : M.2.2.2.1 = none) (hc : kc ≤ B.2.2.1 ∧ ks ≤ B.2.2.2) (hd : decode M.2.1 pc = .ok (.return_, 1)) : aw_W l M G B (none, sh, σ) pc loc [] sh σ kc ks := by
  intro p e R s m args below meth c A H locs ls C P L
  refine aw_sz P (fun hz => W.widen hc.1 hc.2 ?_)
  exact W.vret C.1 C.2.1 (C.2.2.2.1.trans hr) (aw_end C P hz rfl) P.2.1.2.2 hd C.2.2.2.2.2.1
theorem aw_aret {l : Launch} {M : aw_M} {G : aw_G} {B : aw_B} {pc : Nat} {loc : List (Nat × Value)} {sh : List aw_H} {σ : aw_S} {kc ks : Nat} {v : Nat} {n : String} (hr : M.2.2.2.1 = some (.object n)) (hc : kc ≤ B.2.2.1 ∧ ks ≤ B.2.2.2) (hd : decode M.2.1 pc = .ok (.areturn, 1)) : aw_W l M G B (some (.ref v), sh, σ) pc loc [.ref v] sh σ kc ks := by
  intro p e R s m args below meth c A H locs ls C P L
  refine aw_sz P (fun hz => W.widen hc.1 hc.2 ?_)
  exact W.aret C.1 C.2.1 (C.2.2.2.1.trans hr) (Or.inl ⟨n, rfl⟩) (Or.inr ⟨_, rfl⟩) (aw_end C P hz rfl) P.2.1.2.2 hd C.2.2.2.2.2.1
/-! ===== calls ===== -/
/-- what the tables say of a method: its code, its class made ready, its parameters' number -/
def aw_Y (y : MethodName) (M' : aw_M) (n : Nat) : Prop := Cond.code y M'.2.1 M'.2.2.1 M'.2.2.2.1 ∈ wsL_law ∧ Cond.initialized y.cls ∈ wsL_law ∧ (y.cls ≠ "java/lang/invoke/MethodHandle" ∧ y.cls ≠ "java/lang/invoke/VarHandle" ∧ (parseMethodDescriptor y.desc).map (fun d => d.parameters.length) = some n)
theorem aw_callB {R : Room} {s : State} {args : Array Value} {own : String} {idx n : Nat} {y : MethodName} {M' : aw_M} {B' : aw_B} (hts : ∀ w ∈ wsL_law, w.before args s = true) (hy : aw_Y y M' n) (hl : Cond.methodLink own idx y ∈ wsL_law) (hR : B'.1 + 1 ≤ R.frames ∧ 8 + (M'.2.2.1 + 11) + B'.2.1 ≤ R.locals) :
    CallB R s args own idx y M'.2.1 M'.2.2.1 M'.2.2.2.1 (.code y M'.2.1 M'.2.2.1 M'.2.2.2.1 :: wsL_law) (aw_room B') B'.2.2.1 B'.2.2.2 n :=
  callB_of (Ts := wsL_law) (rm := aw_room B') n hts (fun w h => (List.mem_cons.mp h).elim (fun e => e ▸ aw_goodU _ hy.1) (aw_goodU w)) rfl rfl rfl (hts _ hy.2.1) (hts _ hl) hy.2.2 hR
theorem aw_callR {p : Program} {l : Launch} {e : Env} {R : Room} {s : State} {m : MethodId} {args : Array Value} {below : List Frame} {meth : Method} {c : Code} {H : Heap} {locs : List Loc} {kc ks mc ms pc : Nat} {ls : Array Slot} {rest st0 : List Value} {a : Array Value} {A A1 free : Nat → Prop} {Q : State → Prop} {G : aw_G} {E : aw_E}
    (hr : va_Run p l e R s m args below meth c H locs kc ks mc ms (F0 m pc ls st0) rest (aw_Q G E A1 a) free) (hS : va_S A s.heap H locs) (hA : ∀ q, q < H.size → A1 q → A q) (hf : ∀ q, free q → A q)
    (kk : ∀ (H1 : Heap) (locs1 : List Loc), va_P (G.1, G.2.1) vwCl (aw_w G.2.2.2.1 G.2.2.1 E.2.1 E.2.2) H1 → va_S A s.heap H1 locs1 → W p l e R s m args below meth c H1 locs1 (kc + mc) (ks + ms) Q (F0 m (pc + 3) ls ((E.1.map (aw_v G.2.2.2.1)).toList ++ rest))) : W p l e R s m args below meth c H locs kc ks Q (F0 m pc ls st0) := by
  intro T hT X
  obtain ⟨v, st₀, t, T', L, h0, X', hL, e1, e2, ⟨⟨hv, hp, -, -⟩, hz, hk⟩, st⟩ := hr T hT X
  injection hv with hv
  subst hv
  rw [h0] at hz hk
  obtain ⟨t2, a1, b1⟩ := kk T'.heap (locs ++ L) (by rw [e1]; exact hp)
    ⟨Nat.le_trans hS.1 (by rw [e1]; exact hz), fun q h1 h2 => by rw [e1, hk q (Nat.lt_of_lt_of_le h1 hS.1) (fun z => h2 (hA q (Nat.lt_of_lt_of_le h1 hS.1) z))]; exact hS.2.1 q h1 h2, fun q hq => by
      rcases List.mem_append.mp hq with h | h
      · exact hS.2.2 q h
      · exact hf _ (hL q h)⟩ T' rfl X'
  exact ⟨t2, st t2 a1, b1⟩
theorem aw_blind {G : aw_G} {av : List Value} {sh : List aw_H} {σ : aw_S} : FrameBlind (va_Pc (av.map (aw_v G.2.2.2.1)) (fun U => va_P (G.1, G.2.1) vwCl (aw_w G.2.2.2.1 G.2.2.1 sh σ) U.heap ∧ va_K (G.1, G.2.1) vwCl (aw_ty G.2.2.1) U ∧ (G.2.2.2.2 → U.heap.size = G.2.2.2.1 + sh.length) ∧ aw_Nst U)) := by
  intro a U g mk q
  obtain ⟨q0, qP, qK, qz, qN⟩ := q
  exact ⟨q0, qP, va_K.moved (u := U) (U := U.calling g mk a) (Vm.Alike.refl U.vm) qK, qz, aw_Nst.same (rfl : U.vm = (U.calling g mk a).vm) qN⟩
theorem aw_freeA {G : aw_G} {A : Nat → Prop} {s : State} {H : Heap} {locs : List Loc} {sh : List aw_H} {σ : aw_S} {kc : Nat} (P : aw_Hp G A s H locs sh σ kc) : ∀ q, aw_A G.2.2.2.1 sh.length G.2.2.2.2 q → A q := by
  intro q hq
  rcases hq.2 with h | h
  · have := P.2.2.1 (q - G.2.2.2.1) (by have := hq.1; omega)
    rw [show G.2.2.2.1 + (q - G.2.2.2.1) = q by have := hq.1; omega] at this
    exact this
  · exact (P.2.2.2 h).2.2 q hq.1
theorem aw_Hp_call {G : aw_G} {A : Nat → Prop} {s : State} {H H1 : Heap} {locs locs1 : List Loc} {sh sh' : List aw_H} {σ σ' : aw_S} {kc mc : Nat} (P : aw_Hp G A s H locs sh σ kc) (hP : va_P (G.1, G.2.1) vwCl (aw_w G.2.2.2.1 G.2.2.1 sh' σ') H1) (hS : va_S A s.heap H1 locs1) (hl : sh'.length = sh.length + mc) (hm : mc = 0 ∨ G.2.2.2.2) : aw_Hp G A s H1 locs1 sh' σ' (kc + mc) := by
  refine ⟨hP, hS, fun k hk => ?_, fun ha => ⟨?_, (P.2.2.2 ha).2⟩⟩
  · rcases hm with h | h
    · exact P.2.2.1 k (by omega)
    · exact (P.2.2.2 h).2.2 _ (Nat.le_add_right _ _)
  · have := (P.2.2.2 ha).1
    omega
theorem aw_callV {l : Launch} {M : aw_M} {G : aw_G} {B : aw_B} {E : aw_E} {pc : Nat} {loc : List (Nat × Value)} {st : List Value} {sh : List aw_H} {σ : aw_S} {kc ks : Nat} {idx n : Nat} {y : MethodName} {M' : aw_M} {B' : aw_B} {r : Option Value} {sh' : List aw_H} {σ' : aw_S} {o ci : Nat} {fs : List aw_F} (av : List Value) (hM : aw_Ct l y M' G B' (.ref o :: av) sh σ (r, sh', σ')) (hy : aw_Y y M' n) (hl : Cond.methodLink M.1 idx y ∈ wsL_law) (hinst : Cond.instanceMethod y ∈ wsL_law) (hsel : Cond.selects y.cls y y ∈ wsL_law) (hs : sh[o]? = some (.inl (ci, fs))) (hcl : ∃ T N, vwCl[ci]? = some (y.cls, T, N)) (hlen : av.length = n) (hroom : B'.1 + 1 ≤ B.1 ∧ 8 + (M'.2.2.1 + 11) + B'.2.1 ≤ B.2.1) (hcs : kc + B'.2.2.1 ≤ B.2.2.1 ∧ ks + B'.2.2.2 ≤ B.2.2.2) (hsh : sh'.length = sh.length + B'.2.2.1) (hm : B'.2.2.1 = 0 ∨ G.2.2.2.2) (hst : (st.map fun v => v.category).sum ≤ 8) (hd : decode M.2.1 pc = .ok (.invokevirtual idx, 3)) (k : aw_W l M G B E (pc + 3) loc (r.toList ++ st) sh' σ' (kc + B'.2.2.1) (ks + B'.2.2.2)) : aw_W l M G B E pc loc (av.reverse ++ .ref o :: st) sh σ kc ks := by
  intro p e R s m args below meth c A H locs ls C P L
  refine aw_sz P (fun hz => ?_)
  have hts := C.2.2.2.2.2.2.1
  have hroomR := C.2.2.2.2.2.2.2.1
  have hcat : ∀ l0 : List Value, (l0.map (aw_v G.2.2.2.1)).map (fun v => v.category) = l0.map (fun v => v.category) := fun l0 => by rw [List.map_map]; exact List.map_congr_left (fun v _ => aw_catv _ v)
  have hcB : CallB R s args M.1 idx y M'.2.1 M'.2.2.1 M'.2.2.2.1 (.code y M'.2.1 M'.2.2.1 M'.2.2.2.1 :: wsL_law) (aw_room B') B'.2.2.1 B'.2.2.2 n := aw_callB hts hy hl ⟨Nat.le_trans hroom.1 hroomR.1, Nat.le_trans hroom.2 hroomR.2.1⟩
  have hPc : ∀ U : State, U.heap = H → s.WarmedH U.vm → va_Pc ((.ref o :: av).map (aw_v G.2.2.2.1)) (fun U => va_P (G.1, G.2.1) vwCl (aw_w G.2.2.2.1 G.2.2.1 sh σ) U.heap ∧ va_K (G.1, G.2.1) vwCl (aw_ty G.2.2.1) U ∧ (G.2.2.2.2 → U.heap.size = G.2.2.2.1 + sh.length) ∧ aw_Nst U) ((.ref o :: av).map (aw_v G.2.2.2.1)).toArray U := fun U hU hW => ⟨rfl, by rw [hU]; exact P.1, va_K.moved hW.alike C.2.2.2.2.2.2.2.2.1, fun ha => by rw [hU]; exact hz ha, aw_Nst.warm hW C.2.2.2.2.2.2.2.2.2.2⟩
  obtain ⟨T0, N0, hcl⟩ := hcl
  have hrec := va_recv (D := (G.1, G.2.1)) (tys := aw_ty G.2.2.1) C.2.2.2.2.2.2.2.2.1 P.1 hcl (aw_w_get hs)
  have hrun := va_runV (As := av.map (aw_v G.2.2.2.1)) (rest := st.map (aw_v G.2.2.2.1)) (g := F0 m pc ls ((av.reverse ++ .ref o :: st).map (aw_v G.2.2.2.1))) (H := H) (locs := locs) (cells := kc) (slots := ks) ⟨C.1, C.2.1, C.2.2.1, C.2.2.2.2.1, hts⟩ hM ⟨hcB, hts _ hinst, hts _ hsel⟩ ⟨aw_blind, hrec, hPc⟩ rfl (by rw [List.length_map]; exact hlen) L.1 (by simp only [List.map_append, List.map_cons, List.map_reverse]; rfl) (by show 2 * 0 + _ ≤ 8; rw [hcat]; omega) hd ⟨Nat.le_trans hcs.1 hroomR.2.2.1, Nat.le_trans hcs.2 hroomR.2.2.2⟩ (p := p) (l := l) (e := e) (R := R) (s := s) (m := m) (args := args) (below := below) (meth := meth) (c := c)
  refine aw_callR (G := G) (E := (r, sh', σ')) hrun P.2.1 (fun q _ h => aw_freeA P q h) (aw_freeA P) (fun H1 locs1 hP1 hS1 => ?_)
  have hk := k p e R s m args below meth c A H1 locs1 ls C (aw_Hp_call P hP1 hS1 hsh hm) L
  rw [List.map_append] at hk
  rw [show (r.map (aw_v G.2.2.2.1)).toList = (r.toList).map (aw_v G.2.2.2.1) from by cases r <;> rfl]
  exact hk
theorem aw_callS {l : Launch} {M : aw_M} {G : aw_G} {B : aw_B} {E : aw_E} {pc : Nat} {loc : List (Nat × Value)} {st : List Value} {sh : List aw_H} {σ : aw_S} {kc ks : Nat} {idx n : Nat} {y : MethodName} {M' : aw_M} {B' : aw_B} {r : Option Value} {sh' : List aw_H} {σ' : aw_S}  (av : List Value) (hM : aw_Ct l y M' G B' (av) sh σ (r, sh', σ')) (hy : aw_Y y M' n) (hl : Cond.methodLink M.1 idx y ∈ wsL_law) (hstat : Cond.static y ∈ wsL_law) (hlen : av.length = n) (hroom : B'.1 + 1 ≤ B.1 ∧ 8 + (M'.2.2.1 + 11) + B'.2.1 ≤ B.2.1) (hcs : kc + B'.2.2.1 ≤ B.2.2.1 ∧ ks + B'.2.2.2 ≤ B.2.2.2) (hsh : sh'.length = sh.length + B'.2.2.1) (hm : B'.2.2.1 = 0 ∨ G.2.2.2.2) (hst : (st.map fun v => v.category).sum ≤ 8) (hd : decode M.2.1 pc = .ok (.invokestatic idx, 3)) (k : aw_W l M G B E (pc + 3) loc (r.toList ++ st) sh' σ' (kc + B'.2.2.1) (ks + B'.2.2.2)) : aw_W l M G B E pc loc (av.reverse ++ st) sh σ kc ks := by
  intro p e R s m args below meth c A H locs ls C P L
  refine aw_sz P (fun hz => ?_)
  have hts := C.2.2.2.2.2.2.1
  have hroomR := C.2.2.2.2.2.2.2.1
  have hcat : ∀ l0 : List Value, (l0.map (aw_v G.2.2.2.1)).map (fun v => v.category) = l0.map (fun v => v.category) := fun l0 => by rw [List.map_map]; exact List.map_congr_left (fun v _ => aw_catv _ v)
  have hcB : CallB R s args M.1 idx y M'.2.1 M'.2.2.1 M'.2.2.2.1 (.code y M'.2.1 M'.2.2.1 M'.2.2.2.1 :: wsL_law) (aw_room B') B'.2.2.1 B'.2.2.2 n := aw_callB hts hy hl ⟨Nat.le_trans hroom.1 hroomR.1, Nat.le_trans hroom.2 hroomR.2.1⟩
  have hPc : ∀ U : State, U.heap = H → s.WarmedH U.vm → va_Pc ((av).map (aw_v G.2.2.2.1)) (fun U => va_P (G.1, G.2.1) vwCl (aw_w G.2.2.2.1 G.2.2.1 sh σ) U.heap ∧ va_K (G.1, G.2.1) vwCl (aw_ty G.2.2.1) U ∧ (G.2.2.2.2 → U.heap.size = G.2.2.2.1 + sh.length) ∧ aw_Nst U) ((av).map (aw_v G.2.2.2.1)).toArray U := fun U hU hW => ⟨rfl, by rw [hU]; exact P.1, va_K.moved hW.alike C.2.2.2.2.2.2.2.2.1, fun ha => by rw [hU]; exact hz ha, aw_Nst.warm hW C.2.2.2.2.2.2.2.2.2.2⟩
  have hrun := va_runS (As := av.map (aw_v G.2.2.2.1)) (rest := st.map (aw_v G.2.2.2.1)) (g := F0 m pc ls ((av.reverse ++ st).map (aw_v G.2.2.2.1))) (H := H) (locs := locs) (cells := kc) (slots := ks) ⟨C.1, C.2.1, C.2.2.1, C.2.2.2.2.1, hts⟩ hM ⟨hcB, hts _ hstat⟩ ⟨aw_blind, hPc⟩ rfl (by rw [List.length_map]; exact hlen) L.1 (by simp only [List.map_append, List.map_cons, List.map_reverse]) (by show 2 * 0 + _ ≤ 8; rw [hcat]; omega) hd ⟨Nat.le_trans hcs.1 hroomR.2.2.1, Nat.le_trans hcs.2 hroomR.2.2.2⟩ (p := p) (l := l) (e := e) (R := R) (s := s) (m := m) (args := args) (below := below) (meth := meth) (c := c)
  refine aw_callR (G := G) (E := (r, sh', σ')) hrun P.2.1 (fun q _ h => aw_freeA P q h) (aw_freeA P) (fun H1 locs1 hP1 hS1 => ?_)
  have hk := k p e R s m args below meth c A H1 locs1 ls C (aw_Hp_call P hP1 hS1 hsh hm) L
  rw [List.map_append] at hk
  rw [show (r.map (aw_v G.2.2.2.1)).toList = (r.toList).map (aw_v G.2.2.2.1) from by cases r <;> rfl]
  exact hk
theorem aw_callI {l : Launch} {M : aw_M} {G : aw_G} {B : aw_B} {E : aw_E} {pc : Nat} {loc : List (Nat × Value)} {st : List Value} {sh : List aw_H} {σ : aw_S} {kc ks : Nat} {idx n : Nat} {y : MethodName} {M' : aw_M} {B' : aw_B} {r : Option Value} {sh' : List aw_H} {σ' : aw_S} {o : Nat} (av : List Value) (hM : aw_Ct l y M' G B' (.ref o :: av) sh σ (r, sh', σ')) (hy : aw_Y y M' n) (hl : Cond.methodLink M.1 idx y ∈ wsL_law) (hinst : Cond.instanceMethod y ∈ wsL_law) (hyi : y.name = "<init>") (hnr : M'.2.2.2.1 = none) (hlen : av.length = n) (hroom : B'.1 + 1 ≤ B.1 ∧ 8 + (M'.2.2.1 + 11) + B'.2.1 ≤ B.2.1) (hcs : kc + B'.2.2.1 ≤ B.2.2.1 ∧ ks + B'.2.2.2 ≤ B.2.2.2) (hsh : sh'.length = sh.length + B'.2.2.1) (hm : B'.2.2.1 = 0 ∨ G.2.2.2.2) (hst : (st.map fun v => v.category).sum ≤ 8) (hd : decode M.2.1 pc = .ok (.invokespecial idx, 3)) (k : aw_W l M G B E (pc + 3) loc (r.toList ++ st) sh' σ' (kc + B'.2.2.1) (ks + B'.2.2.2)) : aw_W l M G B E pc loc (av.reverse ++ .ref o :: st) sh σ kc ks := by
  intro p e R s m args below meth c A H locs ls C P L
  refine aw_sz P (fun hz => ?_)
  have hts := C.2.2.2.2.2.2.1
  have hroomR := C.2.2.2.2.2.2.2.1
  have hcat : ∀ l0 : List Value, (l0.map (aw_v G.2.2.2.1)).map (fun v => v.category) = l0.map (fun v => v.category) := fun l0 => by rw [List.map_map]; exact List.map_congr_left (fun v _ => aw_catv _ v)
  have hcB : CallB R s args M.1 idx y M'.2.1 M'.2.2.1 M'.2.2.2.1 (.code y M'.2.1 M'.2.2.1 M'.2.2.2.1 :: wsL_law) (aw_room B') B'.2.2.1 B'.2.2.2 n := aw_callB hts hy hl ⟨Nat.le_trans hroom.1 hroomR.1, Nat.le_trans hroom.2 hroomR.2.1⟩
  have hPc : ∀ U : State, U.heap = H → s.WarmedH U.vm → va_Pc ((.ref o :: av).map (aw_v G.2.2.2.1)) (fun U => va_P (G.1, G.2.1) vwCl (aw_w G.2.2.2.1 G.2.2.1 sh σ) U.heap ∧ va_K (G.1, G.2.1) vwCl (aw_ty G.2.2.1) U ∧ (G.2.2.2.2 → U.heap.size = G.2.2.2.1 + sh.length) ∧ aw_Nst U) ((.ref o :: av).map (aw_v G.2.2.2.1)).toArray U := fun U hU hW => ⟨rfl, by rw [hU]; exact P.1, va_K.moved hW.alike C.2.2.2.2.2.2.2.2.1, fun ha => by rw [hU]; exact hz ha, aw_Nst.warm hW C.2.2.2.2.2.2.2.2.2.2⟩
  obtain ⟨own1, cc1, nL1, ret1, ini1⟩ := M'
  cases hnr
  have hrun := va_runI (As := av.map (aw_v G.2.2.2.1)) (rest := st.map (aw_v G.2.2.2.1)) (g := F0 m pc ls ((av.reverse ++ .ref o :: st).map (aw_v G.2.2.2.1))) (H := H) (locs := locs) (cells := kc) (slots := ks) ⟨C.1, C.2.1, C.2.2.1, C.2.2.2.2.1, hts⟩ hM ⟨hcB, hyi, hts _ hinst⟩ ⟨aw_blind, hPc⟩ rfl (by rw [List.length_map]; exact hlen) L.1 (by simp only [List.map_append, List.map_cons, List.map_reverse]; rfl) (by show 2 * 0 + _ ≤ 8; rw [hcat]; omega) hd ⟨Nat.le_trans hcs.1 hroomR.2.2.1, Nat.le_trans hcs.2 hroomR.2.2.2⟩ (p := p) (l := l) (e := e) (R := R) (s := s) (m := m) (args := args) (below := below) (meth := meth) (c := c)
  refine aw_callR (G := G) (E := (r, sh', σ')) hrun P.2.1 (fun q _ h => aw_freeA P q h) (aw_freeA P) (fun H1 locs1 hP1 hS1 => ?_)
  have hk := k p e R s m args below meth c A H1 locs1 ls C (aw_Hp_call P hP1 hS1 hsh hm) L
  rw [List.map_append] at hk
  rw [show (r.map (aw_v G.2.2.2.1)).toList = (r.toList).map (aw_v G.2.2.2.1) from by cases r <;> rfl]
  exact hk
theorem aw_callN {R : Room} {s : State} {args : Array Value} {own host : String} {idx n : Nat} {y : MethodName} {M' : aw_M} {B' : aw_B} (hts : ∀ w ∈ wsL_law, w.before args s = true) (hN : aw_Nst s) (hy : aw_Y y M' n) (hl : (own, idx, y, host) ∈ aw_nest) (hR : B'.1 + 1 ≤ R.frames ∧ 8 + (M'.2.2.1 + 11) + B'.2.1 ≤ R.locals) :
    va_CN R s args own idx y host M'.2.1 M'.2.2.1 M'.2.2.2.1 (.code y M'.2.1 M'.2.2.1 M'.2.2.2.1 :: wsL_law) (aw_room B') B'.2.2.1 B'.2.2.2 n :=
  va_cnB (Ts := wsL_law) (rm := aw_room B') n hts (fun w h => (List.mem_cons.mp h).elim (fun e => e ▸ aw_goodU _ hy.1) (aw_goodU w)) rfl rfl rfl (hN.1 _ hl) (hts _ hy.2.1) hy.2.2 hR
theorem aw_callSN {l : Launch} {M : aw_M} {G : aw_G} {B : aw_B} {E : aw_E} {pc : Nat} {loc : List (Nat × Value)} {st : List Value} {sh : List aw_H} {σ : aw_S} {kc ks : Nat} {idx n : Nat} {y : MethodName} {M' : aw_M} {B' : aw_B} {r : Option Value} {sh' : List aw_H} {σ' : aw_S}  (av : List Value) (hM : aw_Ct l y M' G B' (av) sh σ (r, sh', σ')) (hy : aw_Y y M' n) {host : String} (hl : (M.1, idx, y, host) ∈ aw_nest) (hstat : Cond.static y ∈ wsL_law) (hlen : av.length = n) (hroom : B'.1 + 1 ≤ B.1 ∧ 8 + (M'.2.2.1 + 11) + B'.2.1 ≤ B.2.1) (hcs : kc + B'.2.2.1 ≤ B.2.2.1 ∧ ks + B'.2.2.2 ≤ B.2.2.2) (hsh : sh'.length = sh.length + B'.2.2.1) (hm : B'.2.2.1 = 0 ∨ G.2.2.2.2) (hst : (st.map fun v => v.category).sum ≤ 8) (hd : decode M.2.1 pc = .ok (.invokestatic idx, 3)) (k : aw_W l M G B E (pc + 3) loc (r.toList ++ st) sh' σ' (kc + B'.2.2.1) (ks + B'.2.2.2)) : aw_W l M G B E pc loc (av.reverse ++ st) sh σ kc ks := by
  intro p e R s m args below meth c A H locs ls C P L
  refine aw_sz P (fun hz => ?_)
  have hts := C.2.2.2.2.2.2.1
  have hroomR := C.2.2.2.2.2.2.2.1
  have hcat : ∀ l0 : List Value, (l0.map (aw_v G.2.2.2.1)).map (fun v => v.category) = l0.map (fun v => v.category) := fun l0 => by rw [List.map_map]; exact List.map_congr_left (fun v _ => aw_catv _ v)
  have hcB : va_CN R s args M.1 idx y host M'.2.1 M'.2.2.1 M'.2.2.2.1 (.code y M'.2.1 M'.2.2.1 M'.2.2.2.1 :: wsL_law) (aw_room B') B'.2.2.1 B'.2.2.2 n := aw_callN hts C.2.2.2.2.2.2.2.2.2.2 hy hl ⟨Nat.le_trans hroom.1 hroomR.1, Nat.le_trans hroom.2 hroomR.2.1⟩
  have hPc : ∀ U : State, U.heap = H → s.WarmedH U.vm → va_Pc ((av).map (aw_v G.2.2.2.1)) (fun U => va_P (G.1, G.2.1) vwCl (aw_w G.2.2.2.1 G.2.2.1 sh σ) U.heap ∧ va_K (G.1, G.2.1) vwCl (aw_ty G.2.2.1) U ∧ (G.2.2.2.2 → U.heap.size = G.2.2.2.1 + sh.length) ∧ aw_Nst U) ((av).map (aw_v G.2.2.2.1)).toArray U := fun U hU hW => ⟨rfl, by rw [hU]; exact P.1, va_K.moved hW.alike C.2.2.2.2.2.2.2.2.1, fun ha => by rw [hU]; exact hz ha, aw_Nst.warm hW C.2.2.2.2.2.2.2.2.2.2⟩
  have hrun := va_runSN (As := av.map (aw_v G.2.2.2.1)) (rest := st.map (aw_v G.2.2.2.1)) (g := F0 m pc ls ((av.reverse ++ st).map (aw_v G.2.2.2.1))) (H := H) (locs := locs) (cells := kc) (slots := ks) ⟨C.1, C.2.1, C.2.2.1, C.2.2.2.2.1, hts⟩ hM ⟨hcB, hts _ hstat, trivial⟩ ⟨aw_blind, hPc⟩ rfl (by rw [List.length_map]; exact hlen) L.1 (by simp only [List.map_append, List.map_cons, List.map_reverse]) (by show 2 * 0 + _ ≤ 8; rw [hcat]; omega) hd ⟨Nat.le_trans hcs.1 hroomR.2.2.1, Nat.le_trans hcs.2 hroomR.2.2.2⟩ (p := p) (l := l) (e := e) (R := R) (s := s) (m := m) (args := args) (below := below) (meth := meth) (c := c)
  refine aw_callR (G := G) (E := (r, sh', σ')) hrun P.2.1 (fun q _ h => aw_freeA P q h) (aw_freeA P) (fun H1 locs1 hP1 hS1 => ?_)
  have hk := k p e R s m args below meth c A H1 locs1 ls C (aw_Hp_call P hP1 hS1 hsh hm) L
  rw [List.map_append] at hk
  rw [show (r.map (aw_v G.2.2.2.1)).toList = (r.toList).map (aw_v G.2.2.2.1) from by cases r <;> rfl]
  exact hk
theorem aw_callIN {l : Launch} {M : aw_M} {G : aw_G} {B : aw_B} {E : aw_E} {pc : Nat} {loc : List (Nat × Value)} {st : List Value} {sh : List aw_H} {σ : aw_S} {kc ks : Nat} {idx n : Nat} {y : MethodName} {M' : aw_M} {B' : aw_B} {r : Option Value} {sh' : List aw_H} {σ' : aw_S} {o : Nat} (av : List Value) (hM : aw_Ct l y M' G B' (.ref o :: av) sh σ (r, sh', σ')) (hy : aw_Y y M' n) {host : String} (hl : (M.1, idx, y, host) ∈ aw_nest) (hinst : Cond.instanceMethod y ∈ wsL_law) (hyi : y.name = "<init>") (hnr : M'.2.2.2.1 = none) (hlen : av.length = n) (hroom : B'.1 + 1 ≤ B.1 ∧ 8 + (M'.2.2.1 + 11) + B'.2.1 ≤ B.2.1) (hcs : kc + B'.2.2.1 ≤ B.2.2.1 ∧ ks + B'.2.2.2 ≤ B.2.2.2) (hsh : sh'.length = sh.length + B'.2.2.1) (hm : B'.2.2.1 = 0 ∨ G.2.2.2.2) (hst : (st.map fun v => v.category).sum ≤ 8) (hd : decode M.2.1 pc = .ok (.invokespecial idx, 3)) (k : aw_W l M G B E (pc + 3) loc (r.toList ++ st) sh' σ' (kc + B'.2.2.1) (ks + B'.2.2.2)) : aw_W l M G B E pc loc (av.reverse ++ .ref o :: st) sh σ kc ks := by
  intro p e R s m args below meth c A H locs ls C P L
  refine aw_sz P (fun hz => ?_)
  have hts := C.2.2.2.2.2.2.1
  have hroomR := C.2.2.2.2.2.2.2.1
  have hcat : ∀ l0 : List Value, (l0.map (aw_v G.2.2.2.1)).map (fun v => v.category) = l0.map (fun v => v.category) := fun l0 => by rw [List.map_map]; exact List.map_congr_left (fun v _ => aw_catv _ v)
  have hcB : va_CN R s args M.1 idx y host M'.2.1 M'.2.2.1 M'.2.2.2.1 (.code y M'.2.1 M'.2.2.1 M'.2.2.2.1 :: wsL_law) (aw_room B') B'.2.2.1 B'.2.2.2 n := aw_callN hts C.2.2.2.2.2.2.2.2.2.2 hy hl ⟨Nat.le_trans hroom.1 hroomR.1, Nat.le_trans hroom.2 hroomR.2.1⟩
  have hPc : ∀ U : State, U.heap = H → s.WarmedH U.vm → va_Pc ((.ref o :: av).map (aw_v G.2.2.2.1)) (fun U => va_P (G.1, G.2.1) vwCl (aw_w G.2.2.2.1 G.2.2.1 sh σ) U.heap ∧ va_K (G.1, G.2.1) vwCl (aw_ty G.2.2.1) U ∧ (G.2.2.2.2 → U.heap.size = G.2.2.2.1 + sh.length) ∧ aw_Nst U) ((.ref o :: av).map (aw_v G.2.2.2.1)).toArray U := fun U hU hW => ⟨rfl, by rw [hU]; exact P.1, va_K.moved hW.alike C.2.2.2.2.2.2.2.2.1, fun ha => by rw [hU]; exact hz ha, aw_Nst.warm hW C.2.2.2.2.2.2.2.2.2.2⟩
  obtain ⟨own1, cc1, nL1, ret1, ini1⟩ := M'
  cases hnr
  have hrun := va_runIN (As := av.map (aw_v G.2.2.2.1)) (rest := st.map (aw_v G.2.2.2.1)) (g := F0 m pc ls ((av.reverse ++ .ref o :: st).map (aw_v G.2.2.2.1))) (H := H) (locs := locs) (cells := kc) (slots := ks) ⟨C.1, C.2.1, C.2.2.1, C.2.2.2.2.1, hts⟩ hM ⟨hcB, hyi, hts _ hinst⟩ ⟨aw_blind, hPc⟩ rfl (by rw [List.length_map]; exact hlen) L.1 (by simp only [List.map_append, List.map_cons, List.map_reverse]; rfl) (by show 2 * 0 + _ ≤ 8; rw [hcat]; omega) hd ⟨Nat.le_trans hcs.1 hroomR.2.2.1, Nat.le_trans hcs.2 hroomR.2.2.2⟩ (p := p) (l := l) (e := e) (R := R) (s := s) (m := m) (args := args) (below := below) (meth := meth) (c := c)
  refine aw_callR (G := G) (E := (r, sh', σ')) hrun P.2.1 (fun q _ h => aw_freeA P q h) (aw_freeA P) (fun H1 locs1 hP1 hS1 => ?_)
  have hk := k p e R s m args below meth c A H1 locs1 ls C (aw_Hp_call P hP1 hS1 hsh hm) L
  rw [List.map_append] at hk
  rw [show (r.map (aw_v G.2.2.2.1)).toList = (r.toList).map (aw_v G.2.2.2.1) from by cases r <;> rfl]
  exact hk
theorem aw_cV1 {l : Launch} {M : aw_M} {G : aw_G} {B : aw_B} {E : aw_E} {pc : Nat} {loc : List (Nat × Value)} {st : List Value} {sh : List aw_H} {σ : aw_S} {kc ks : Nat} {idx n : Nat} {y : MethodName} {M' : aw_M} {fr lo : Nat} {σ' : aw_S} {v : Value} {o ci : Nat} {fs : List aw_F} (av : List Value) (hM : aw_Ct l y M' G (fr, lo, 0, 0) (.ref o :: av) sh σ (some v, sh, σ')) (hy : aw_Y y M' n) (hl : Cond.methodLink M.1 idx y ∈ wsL_law) (hinst : Cond.instanceMethod y ∈ wsL_law) (hsel : Cond.selects y.cls y y ∈ wsL_law) (hs : sh[o]? = some (.inl (ci, fs))) (hcl : ∃ T N, vwCl[ci]? = some (y.cls, T, N)) (hlen : av.length = n) (hroom : fr + 1 ≤ B.1 ∧ 8 + (M'.2.2.1 + 11) + lo ≤ B.2.1) (hcs : kc ≤ B.2.2.1 ∧ ks ≤ B.2.2.2) (hst : (st.map fun v => v.category).sum ≤ 8) (hd : decode M.2.1 pc = .ok (.invokevirtual idx, 3)) (k : aw_W l M G B E (pc + 3) loc (v :: st) sh σ' kc ks) : aw_W l M G B E pc loc (av.reverse ++ .ref o :: st) sh σ kc ks :=
  aw_callV av hM hy hl hinst hsel hs hcl hlen hroom hcs rfl (Or.inl rfl) hst hd k
theorem aw_cV0 {l : Launch} {M : aw_M} {G : aw_G} {B : aw_B} {E : aw_E} {pc : Nat} {loc : List (Nat × Value)} {st : List Value} {sh : List aw_H} {σ : aw_S} {kc ks : Nat} {idx n : Nat} {y : MethodName} {M' : aw_M} {fr lo : Nat} {σ' : aw_S} {o ci : Nat} {fs : List aw_F} (av : List Value) (hM : aw_Ct l y M' G (fr, lo, 0, 0) (.ref o :: av) sh σ (none, sh, σ')) (hy : aw_Y y M' n) (hl : Cond.methodLink M.1 idx y ∈ wsL_law) (hinst : Cond.instanceMethod y ∈ wsL_law) (hsel : Cond.selects y.cls y y ∈ wsL_law) (hs : sh[o]? = some (.inl (ci, fs))) (hcl : ∃ T N, vwCl[ci]? = some (y.cls, T, N)) (hlen : av.length = n) (hroom : fr + 1 ≤ B.1 ∧ 8 + (M'.2.2.1 + 11) + lo ≤ B.2.1) (hcs : kc ≤ B.2.2.1 ∧ ks ≤ B.2.2.2) (hst : (st.map fun v => v.category).sum ≤ 8) (hd : decode M.2.1 pc = .ok (.invokevirtual idx, 3)) (k : aw_W l M G B E (pc + 3) loc (st) sh σ' kc ks) : aw_W l M G B E pc loc (av.reverse ++ .ref o :: st) sh σ kc ks :=
  aw_callV av hM hy hl hinst hsel hs hcl hlen hroom hcs rfl (Or.inl rfl) hst hd k
theorem aw_cS1 {l : Launch} {M : aw_M} {G : aw_G} {B : aw_B} {E : aw_E} {pc : Nat} {loc : List (Nat × Value)} {st : List Value} {sh : List aw_H} {σ : aw_S} {kc ks : Nat} {idx n : Nat} {y : MethodName} {M' : aw_M} {fr lo : Nat} {σ' : aw_S} {v : Value} (av : List Value) (hM : aw_Ct l y M' G (fr, lo, 0, 0) (av) sh σ (some v, sh, σ')) (hy : aw_Y y M' n) (hl : Cond.methodLink M.1 idx y ∈ wsL_law) (hstat : Cond.static y ∈ wsL_law) (hlen : av.length = n) (hroom : fr + 1 ≤ B.1 ∧ 8 + (M'.2.2.1 + 11) + lo ≤ B.2.1) (hcs : kc ≤ B.2.2.1 ∧ ks ≤ B.2.2.2) (hst : (st.map fun v => v.category).sum ≤ 8) (hd : decode M.2.1 pc = .ok (.invokestatic idx, 3)) (k : aw_W l M G B E (pc + 3) loc (v :: st) sh σ' kc ks) : aw_W l M G B E pc loc (av.reverse ++ st) sh σ kc ks :=
  aw_callS av hM hy hl hstat hlen hroom hcs rfl (Or.inl rfl) hst hd k
theorem aw_cS0 {l : Launch} {M : aw_M} {G : aw_G} {B : aw_B} {E : aw_E} {pc : Nat} {loc : List (Nat × Value)} {st : List Value} {sh : List aw_H} {σ : aw_S} {kc ks : Nat} {idx n : Nat} {y : MethodName} {M' : aw_M} {fr lo : Nat} {σ' : aw_S} (av : List Value) (hM : aw_Ct l y M' G (fr, lo, 0, 0) (av) sh σ (none, sh, σ')) (hy : aw_Y y M' n) (hl : Cond.methodLink M.1 idx y ∈ wsL_law) (hstat : Cond.static y ∈ wsL_law) (hlen : av.length = n) (hroom : fr + 1 ≤ B.1 ∧ 8 + (M'.2.2.1 + 11) + lo ≤ B.2.1) (hcs : kc ≤ B.2.2.1 ∧ ks ≤ B.2.2.2) (hst : (st.map fun v => v.category).sum ≤ 8) (hd : decode M.2.1 pc = .ok (.invokestatic idx, 3)) (k : aw_W l M G B E (pc + 3) loc (st) sh σ' kc ks) : aw_W l M G B E pc loc (av.reverse ++ st) sh σ kc ks :=
  aw_callS av hM hy hl hstat hlen hroom hcs rfl (Or.inl rfl) hst hd k
theorem aw_cN1 {l : Launch} {M : aw_M} {G : aw_G} {B : aw_B} {E : aw_E} {pc : Nat} {loc : List (Nat × Value)} {st : List Value} {sh : List aw_H} {σ : aw_S} {kc ks : Nat} {idx n : Nat} {y : MethodName} {M' : aw_M} {fr lo : Nat} {σ' : aw_S} {v : Value} (av : List Value) (hM : aw_Ct l y M' G (fr, lo, 0, 0) (av) sh σ (some v, sh, σ')) (hy : aw_Y y M' n) {host : String} (hl : (M.1, idx, y, host) ∈ aw_nest) (hstat : Cond.static y ∈ wsL_law) (hlen : av.length = n) (hroom : fr + 1 ≤ B.1 ∧ 8 + (M'.2.2.1 + 11) + lo ≤ B.2.1) (hcs : kc ≤ B.2.2.1 ∧ ks ≤ B.2.2.2) (hst : (st.map fun v => v.category).sum ≤ 8) (hd : decode M.2.1 pc = .ok (.invokestatic idx, 3)) (k : aw_W l M G B E (pc + 3) loc (v :: st) sh σ' kc ks) : aw_W l M G B E pc loc (av.reverse ++ st) sh σ kc ks :=
  aw_callSN av hM hy hl hstat hlen hroom hcs rfl (Or.inl rfl) hst hd k
theorem aw_cN0 {l : Launch} {M : aw_M} {G : aw_G} {B : aw_B} {E : aw_E} {pc : Nat} {loc : List (Nat × Value)} {st : List Value} {sh : List aw_H} {σ : aw_S} {kc ks : Nat} {idx n : Nat} {y : MethodName} {M' : aw_M} {fr lo : Nat} {σ' : aw_S} (av : List Value) (hM : aw_Ct l y M' G (fr, lo, 0, 0) (av) sh σ (none, sh, σ')) (hy : aw_Y y M' n) {host : String} (hl : (M.1, idx, y, host) ∈ aw_nest) (hstat : Cond.static y ∈ wsL_law) (hlen : av.length = n) (hroom : fr + 1 ≤ B.1 ∧ 8 + (M'.2.2.1 + 11) + lo ≤ B.2.1) (hcs : kc ≤ B.2.2.1 ∧ ks ≤ B.2.2.2) (hst : (st.map fun v => v.category).sum ≤ 8) (hd : decode M.2.1 pc = .ok (.invokestatic idx, 3)) (k : aw_W l M G B E (pc + 3) loc (st) sh σ' kc ks) : aw_W l M G B E pc loc (av.reverse ++ st) sh σ kc ks :=
  aw_callSN av hM hy hl hstat hlen hroom hcs rfl (Or.inl rfl) hst hd k

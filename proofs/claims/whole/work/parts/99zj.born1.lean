/-! ===== CONSTRUCTORS: steps ===== -/
def bn (sh : List aw_H) (o ci : Nat) (fs : List aw_F) (L : List aw_H) : List aw_H := sh.set o (.inl (ci, fs)) ++ L
theorem bn_len {sh : List aw_H} {o ci : Nat} {fs : List aw_F} {L : List aw_H} : (bn sh o ci fs L).length = sh.length + L.length := by
  unfold bn; rw [List.length_append, List.length_set]
theorem bn_get {sh : List aw_H} {o ci : Nat} {fs : List aw_F} {L : List aw_H} (ho : o < sh.length) : (bn sh o ci fs L)[o]? = some (.inl (ci, fs)) := by
  unfold bn
  rw [List.getElem?_append_left (by rw [List.length_set]; exact ho), List.getElem?_set_self ho]
theorem bn_app {sh : List aw_H} {o ci : Nat} {fs : List aw_F} {L L' : List aw_H} : bn sh o ci fs L ++ L' = bn sh o ci fs (L ++ L') := by
  unfold bn; rw [List.append_assoc]
theorem bn_set {sh : List aw_H} {o ci : Nat} {fs fs' : List aw_F} {L : List aw_H} (ho : o < sh.length) : (bn sh o ci fs L).set o (.inl (ci, fs')) = bn sh o ci fs' L := by
  unfold bn
  rw [List.set_append_left _ _ (by rw [List.length_set]; exact ho), List.set_set]
theorem bn_0 {sh : List aw_H} {o ci : Nat} {fs : List aw_F} (h : sh[o]? = some (.inl (ci, fs))) : bn sh o ci fs [] = sh := by
  unfold bn
  rw [List.append_nil]
  apply List.ext_getElem?
  intro i
  rw [List.getElem?_set]
  by_cases q : o = i
  · rw [if_pos q, ← q, h, if_pos (List.getElem?_eq_some_iff.mp h).1]
  · rw [if_neg q]
theorem aw_oinit {l : Launch} {M : aw_M} {G : aw_G} {B : aw_B} {E : aw_E} {pc : Nat} {loc : List (Nat × Value)} {sh : List aw_H} {σ : aw_S} {kc ks idx o : Nat} (hl : Cond.methodLink M.1 idx objectInit ∈ wsL_law) (h1 : Cond.instanceMethod objectInit ∈ wsL_law) (h2 : Cond.code objectInit ⟨#[0xb1]⟩ 1 none ∈ wsL_law) (hr : 1 ≤ B.1 ∧ 12 ≤ B.2.1) (hd : decode M.2.1 pc = .ok (.invokespecial idx, 3)) (k : aw_W l M G B E (pc + 3) loc [] sh σ kc ks) : aw_W l M G B E pc loc [.ref o] sh σ kc ks := by
  intro p e R s m args below meth c A H locs ls C P L
  have hts := C.2.2.2.2.2.2.1
  have hroomR := C.2.2.2.2.2.2.2.1
  exact W.objInit C.1 C.2.1 C.2.2.2.2.1 (hts _ hl) (hts _ h1) (hts _ h2) rfl (L.1.trans C.2.2.1.symm) rfl hd (Nat.le_trans hr.1 hroomR.1) (Nat.le_trans hr.2 hroomR.2.1) (k p e R s m args below meth c A H locs ls C P L)
/-- a field gets a new array of numbers -/
theorem aw_fieldI {l : Launch} {M : aw_M} {G : aw_G} {B : aw_B} {E : aw_E} {pc : Nat} {loc : List (Nat × Value)} {sh L : List aw_H} {σ : aw_S} {kc ks idx o ci j : Nat} {fs : List aw_F} {atype : ArrayType} {kd N : Nat} {ty : FieldType} (ho : o < sh.length) (hal : G.2.2.2.2) (hini : M.2.2.2.2 = true) (harr : Cond.arrayClass (newarray.typeOf atype) ∈ wsL_law) (hty : newarray.typeOf atype = ty) (hkd : (kd = 0 ∧ ty = .int) ∨ (kd = 1 ∧ ty = .byte) ∨ (kd = 2 ∧ ty = .boolean) ∨ (kd = 3 ∧ ty = .long)) (h0 : ∀ c, sh.length ≤ c → ∀ j, σ.1 c j = 0 ∧ σ.2.1 c j = 0) (hN : N < 67108864) (hr : kc + 1 ≤ B.2.2.1 ∧ ks + N ≤ B.2.2.2) (hF : aw_Fd M.1 idx ci j (.array ty) true) (hj : j < fs.length) (hd : decode M.2.1 pc = .ok (.newarray atype, 2)) (hd2 : decode M.2.1 (pc + 2) = .ok (.putfield idx, 3))
    (k : aw_W l M G B E (pc + 2 + 3) loc [] (bn sh o ci (fs.set j (.inr (sh.length + L.length))) (L ++ [.inr (kd, N, aw_no)])) σ (kc + 1) (ks + N)) : aw_W l M G B E pc loc [.int (nI N), .ref o] (bn sh o ci fs L) σ kc ks := by
  refine aw_newI hal harr hty hkd (fun j => h0 _ (by rw [bn_len]; omega) j) hN hr hd ?_
  rw [bn_app, bn_len]
  refine aw_putC hF (bn_get ho) hj hini (fun b => rfl) (fun b => rfl) hd2 ?_
  rw [bn_set ho]
  exact k
/-- a field gets a new object -/
theorem aw_fieldC {l : Launch} {M : aw_M} {G : aw_G} {B : aw_B} {E : aw_E} {pc : Nat} {loc : List (Nat × Value)} {sh L : List aw_H} {σ σ' : aw_S} {kc ks i1 i2 i3 o ci j c1 N : Nat} {fs born fin : List aw_F} {nw : List aw_H} {Cn : String} {T : u_T} {ty : Nat → FieldType} {y : MethodName} {M' : aw_M} {B' : aw_B} {host : String} {fty : FieldType} (ho : o < sh.length) (hal : G.2.2.2.2) (hini : M.2.2.2.2 = true) (hin : ∀ w ∈ u_ws Cn T N, w ∈ wsL_law) (hty : ∀ k, k < N → parseFieldDescriptor (T k).2.2.1 = some (ty k)) (hcl : Cond.classLink M.1 i1 Cn ∈ wsL_law) (hinst : Cond.instantiable Cn N ∈ wsL_law) (hinit : Cond.initialized Cn ∈ wsL_law) (hc : vwCl[c1]? = some (Cn, T, N)) (hfs : ∀ b, ∀ j, j < N → defaultValue (ty j) = vp_V (born.mapIdx (fun j f => aw_fv b σ (sh.length + L.length) j f)) j)
    (hM : aw_Ct l y M' G B' [.ref (sh.length + L.length)] (bn sh o ci fs (L ++ [.inl (c1, born)])) σ (none, bn sh o ci fs (L ++ (.inl (c1, fin) :: nw)), σ')) (hy : aw_Y y M' 0) (hl : (M.1, i2, y, host) ∈ aw_nest) (hinst2 : Cond.instanceMethod y ∈ wsL_law) (hyi : y.name = "<init>") (hnr : M'.2.2.2.1 = none) (hroom : B'.1 + 1 ≤ B.1 ∧ 8 + (M'.2.2.1 + 11) + B'.2.1 ≤ B.2.1) (hnw : nw.length = B'.2.2.1) (hcs : kc + 1 + B'.2.2.1 ≤ B.2.2.1 ∧ ks + N + B'.2.2.2 ≤ B.2.2.2) (hF : aw_Fd M.1 i3 ci j fty true) (hn : ∀ b, narrow fty (aw_v b (.ref (sh.length + L.length))) = aw_v b (.ref (sh.length + L.length))) (hft : ∀ b, fits fty (aw_v b (.ref (sh.length + L.length))) = true) (hj : j < fs.length) (hd : decode M.2.1 pc = .ok (.new i1, 3)) (hd2 : decode M.2.1 (pc + 3) = .ok (.dup, 1)) (hd3 : decode M.2.1 (pc + 3 + 1) = .ok (.invokespecial i2, 3)) (hd4 : decode M.2.1 (pc + 3 + 1 + 3) = .ok (.putfield i3, 3))
    (k : aw_W l M G B E (pc + 3 + 1 + 3 + 3) loc [] (bn sh o ci (fs.set j (.inr (sh.length + L.length))) (L ++ (.inl (c1, fin) :: nw))) σ' (kc + 1 + B'.2.2.1) (ks + N + B'.2.2.2)) : aw_W l M G B E pc loc [.ref o] (bn sh o ci fs L) σ kc ks := by
  refine aw_newC hal hin hty hcl hinst hinit hc (fun b => by rw [bn_len]; exact hfs b) ⟨by omega, by omega⟩ hd ?_
  rw [bn_app, bn_len]
  refine aw_dup hd2 rfl ?_
  refine aw_callIN (av := []) hM hy hl hinst2 hyi hnr rfl hroom hcs ?_ (Or.inr hal) (Nat.le_of_ble_eq_true rfl) hd3 ?_
  · rw [bn_len, bn_len, List.length_append, List.length_append]
    show _ + (_ + (nw.length + 1)) = _ + (_ + 1) + _
    omega
  · refine aw_putC hF (bn_get ho) hj hini hn hft hd4 ?_
    rw [bn_set ho]
    exact k

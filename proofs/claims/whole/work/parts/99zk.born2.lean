/-! ===== CONSTRUCTORS: one within another ===== -/
theorem bn_in {sh : List aw_H} {o ci d : Nat} {fs F : List aw_F} {L NW : List aw_H} {x : aw_H} : bn (bn sh o ci fs (L ++ [x])) (sh.length + L.length) d F NW = bn sh o ci fs (L ++ (.inl (d, F) :: NW)) := by
  have e : (bn sh o ci fs (L ++ [x])).set (sh.length + L.length) (.inl (d, F)) = bn sh o ci fs (L ++ [.inl (d, F)]) := by
    unfold bn
    rw [List.set_append_right _ _ (by rw [List.length_set]; omega), List.length_set, show sh.length + L.length - sh.length = L.length by omega, List.set_append_right _ _ (Nat.le_refl _), Nat.sub_self]
    rfl
  show (bn sh o ci fs (L ++ [x])).set (sh.length + L.length) (.inl (d, F)) ++ NW = _
  rw [e, bn_app, List.append_assoc]
  rfl
theorem bn_last {sh : List aw_H} {o ci : Nat} {fs : List aw_F} {L : List aw_H} {x : aw_H} : (bn sh o ci fs (L ++ [x]))[sh.length + L.length]? = some x := by
  unfold bn
  rw [List.getElem?_append_right (by rw [List.length_set]; omega), List.length_set, show sh.length + L.length - sh.length = L.length by omega, List.getElem?_append_right (Nat.le_refl _), Nat.sub_self]
  rfl
theorem aw_in {l : Launch} {y : MethodName} {M : aw_M} {G : aw_G} {B : aw_B} {sh : List aw_H} {o ci d : Nat} {fs : List aw_F} {L : List aw_H} {x : aw_H} {σ σ' : aw_S} {F : Nat → List aw_F} {NW : Nat → List aw_H} (h : aw_Ct l y M G B [.ref (sh.length + L.length)] (bn sh o ci fs (L ++ [x])) σ (none, bn (bn sh o ci fs (L ++ [x])) (sh.length + L.length) d (F (bn sh o ci fs (L ++ [x])).length) (NW (bn sh o ci fs (L ++ [x])).length), σ')) : aw_Ct l y M G B [.ref (sh.length + L.length)] (bn sh o ci fs (L ++ [x])) σ (none, bn sh o ci fs (L ++ (.inl (d, F (sh.length + L.length + 1)) :: NW (sh.length + L.length + 1))), σ') := by
  have e : (bn sh o ci fs (L ++ [x])).length = sh.length + L.length + 1 := by rw [bn_len, List.length_append]; rfl
  rw [bn_in, e] at h
  exact h
theorem bn_v {fs : List aw_F} {g : Nat → aw_F → Value} {j : Nat} {f : aw_F} {v : Value} (hf : fs[j]? = some f) (hv : v = g j f) : v = vp_V (fs.mapIdx g) j := by
  unfold vp_V
  rw [List.getD_eq_getElem?_getD, List.getElem?_mapIdx, hf]
  exact hv

/-! ===== THE LAW: what stands at its loop; an argument ===== -/
theorem lw_wk {b : Nat} {dA : Nat → ClassId} {sh : List aw_H} {σ : aw_S} {k : Nat} {x : Nat × va_E} (h : (aw_w b dA sh σ)[k]? = some x) : x.1 = b + k ∧ k < sh.length := by
  unfold aw_w at h
  rw [List.getElem?_mapIdx] at h
  cases hi : sh[k]? with
  | none => rw [hi] at h; cases h
  | some s =>
    rw [hi] at h
    cases h
    exact ⟨rfl, (List.getElem?_eq_some_iff.mp hi).1⟩
theorem lw_xA : xA.length = 142 := by decide +kernel
theorem lw_xB : xB.length = 40 := by decide +kernel
/-- the two worlds, what is known of them -/
def lw_2 (s : State) (GA GB : aw_G) : Prop := ¬ GA.2.2.2.2 ∧ ¬ GB.2.2.2.2 ∧ va_K (GA.1, GA.2.1) vwCl (aw_ty GA.2.2.1) s ∧ va_K (GB.1, GB.2.1) vwCl (aw_ty GB.2.2.1) s ∧ s.heap.size ≤ GA.2.2.2.1 ∧ GA.2.2.2.1 + 142 ≤ GB.2.2.2.1 ∧ aw_Nst s
/-- where they stand -/
def lw_H (s : State) (GA GB : aw_G) (a b : aw_S) (H : Heap) (locs : List Loc) : Prop := va_P (GA.1, GA.2.1) vwCl (aw_w GA.2.2.2.1 GA.2.2.1 xA a) H ∧ va_P (GB.1, GB.2.1) vwCl (aw_w GB.2.2.2.1 GB.2.2.1 xB b) H ∧ va_S (fun q : Nat => s.heap.size ≤ q) s.heap H locs
theorem lw_HA {s : State} {GA GB : aw_G} (h2 : lw_2 s GA GB) {a a' b : aw_S} {H H1 : Heap} {locs locs1 : List Loc} (h : lw_H s GA GB a b H locs) (hP : va_P (GA.1, GA.2.1) vwCl (aw_w GA.2.2.2.1 GA.2.2.1 xA a') H1) (hS : va_S (fun q : Nat => s.heap.size ≤ q) s.heap H1 locs1) (hk : ∀ q, q < H.size → ¬ (GA.2.2.2.1 ≤ q ∧ q < GA.2.2.2.1 + xA.length) → H1[q]? = H[q]?) : lw_H s GA GB a' b H1 locs1 :=
  ⟨hP, h.2.1.kept (fun k x hx => hk x.1 ((h.2.1 k x hx).lt) (fun z => by have := (lw_wk hx).1; have := h2.2.2.2.2.2.1; have := z.2; rw [lw_xA] at this; omega)), hS⟩
theorem lw_HB {s : State} {GA GB : aw_G} (h2 : lw_2 s GA GB) {a b b' : aw_S} {H H1 : Heap} {locs locs1 : List Loc} (h : lw_H s GA GB a b H locs) (hP : va_P (GB.1, GB.2.1) vwCl (aw_w GB.2.2.2.1 GB.2.2.1 xB b') H1) (hS : va_S (fun q : Nat => s.heap.size ≤ q) s.heap H1 locs1) (hk : ∀ q, q < H.size → ¬ (GB.2.2.2.1 ≤ q ∧ q < GB.2.2.2.1 + xB.length) → H1[q]? = H[q]?) : lw_H s GA GB a b' H1 locs1 :=
  ⟨h.1.kept (fun k x hx => hk x.1 ((h.1 k x hx).lt) (fun z => by have := lw_wk hx; rw [lw_xA] at this; have := h2.2.2.2.2.2.1; omega)), hP, hS⟩
def lw_loc (b : Nat) (GA GB : aw_G) (i : Nat) : List (Nat × Value) := [(0, .ref b), (1, .ref GA.2.2.2.1), (2, .ref GB.2.2.2.1), (3, .int (nI i))]
theorem lw_arg {p : Program} {l : Launch} {e : Env} {s : State} {m : MethodId} {below : List Frame} {meth : Method} {c : Code} {b L : Nat} {xs : Nat → Int32} (C0 : lw_At p s m meth c b L xs) (hL : L ≤ 3072) {GA GB : aw_G} {H : Heap} {locs : List Loc} {kc ks pc i j : Nat} {n : Int} {ls : Array Slot} {st : List Value} {Q : State → Prop} (hS : va_S (fun q : Nat => s.heap.size ≤ q) s.heap H locs) (hl : lv_has ls 4 (lw_loc b GA GB i)) (d0 : decode code pc = .ok (.aload_n 0, 1)) (d1 : decode code (pc + 1) = .ok (.iload_n 3, 1)) (d2 : decode code (pc + 2) = .ok (.iconst n, 1)) (d3 : decode code (pc + 3) = .ok (.iadd, 1)) (d4 : decode code (pc + 4) = .ok (.iaload, 1)) (hn : Int32.ofInt n = nI j) (hi : i + j < L)
    (k : W p l e room_1 s m #[Value.ref b] below meth c H locs kc ks Q (F0 m (pc + 5) ls (.int (xs (i + j)) :: st))) : W p l e room_1 s m #[Value.ref b] below meth c H locs kc ks Q (F0 m pc ls st) := by
  obtain ⟨hx, hb, hr, hml, hown, hts, hX, hbl, hlocks, hgv⟩ := C0
  have hbA : ¬ (fun q : Nat => s.heap.size ≤ q) b := Nat.not_le.mpr hbl
  refine lv_aload_n hx hb d0 rfl (lv_at hl 0 rfl) ?_
  refine lv_iload_n hx hb d1 rfl (lv_at hl 3 rfl) ?_
  refine lv_iconst (v := nI j) hx hb d2 hn ?_
  refine lv_iadd hx hb d3 ?_
  have hv : vp_in (nI i + nI j) L := by rw [nI_add]; exact vp_in_nI hi (by omega)
  refine va_sld hx hb hX hbl hbA hS hv d4 ?_
  have e : (nI i + nI j).toNatClampNeg = i + j := by rw [nI_add, nI_clamp (by omega)]
  rw [e]
  exact k

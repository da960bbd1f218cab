/-! ===== THE LAW: its entry; its two objects ===== -/
theorem lw_tb {p : Program} {s : State} {m : MethodId} {meth : Method} {c : Code} {b L : Nat} {xs : Nat → Int32} (C0 : lw_At p s m meth c b L xs) : ∀ w ∈ tables_1, w.before #[Value.ref b] s = true := fun w hw => C0.2.2.2.2.2.1 w (List.mem_append_right _ hw)
theorem lw_n0 : Cond.methodLinkNest RX11 11 yX9_init RX11 ∈ tables_1 := List.mem_of_getElem? (i := 28) (by decide +kernel)
theorem lw_n1 : Cond.methodLinkNest RX11 28 yX7_init RX11 ∈ tables_1 := List.mem_of_getElem? (i := 43) (by decide +kernel)
theorem lw_n2 : Cond.methodLinkNest RX7 11 yX9_init RX11 ∈ tables_1 := List.mem_of_getElem? (i := 48) (by decide +kernel)
theorem lw_n3 : Cond.methodLinkNest RX7 20 yX0_init RX11 ∈ tables_1 := List.mem_of_getElem? (i := 51) (by decide +kernel)
theorem lw_n4 : Cond.methodLinkNest RX11 35 yX3_init RX11 ∈ tables_1 := List.mem_of_getElem? (i := 142) (by decide +kernel)
theorem lw_n5 : Cond.methodLinkNest RX3 11 yX0_init RX11 ∈ tables_1 := List.mem_of_getElem? (i := 147) (by decide +kernel)
theorem lw_n6 : Cond.methodLinkNest RX11 42 yX1_init RX11 ∈ tables_1 := List.mem_of_getElem? (i := 230) (by decide +kernel)
theorem lw_n7 : Cond.methodLinkNest RX1 11 yX2_init RX11 ∈ tables_1 := List.mem_of_getElem? (i := 236) (by decide +kernel)
theorem lw_n8 : Cond.methodLinkNest RX11 49 yX4_init RX11 ∈ tables_1 := List.mem_of_getElem? (i := 314) (by decide +kernel)
theorem lw_n9 : Cond.methodLinkNest RX11 56 yX6_init RX11 ∈ tables_1 := List.mem_of_getElem? (i := 339) (by decide +kernel)
theorem lw_n10 : Cond.methodLinkNest RX11 73 yX8_init RX11 ∈ tables_1 := List.mem_of_getElem? (i := 372) (by decide +kernel)
theorem lw_n11 : Cond.methodLinkNest RX11 86 yX10_init RX11 ∈ tables_1 := List.mem_of_getElem? (i := 417) (by decide +kernel)
theorem lw_n12 : Cond.methodLinkNest RX11 93 yX5_init RX11 ∈ tables_1 := List.mem_of_getElem? (i := 457) (by decide +kernel)
theorem lw_n13 : Cond.methodLinkNest RX3 125 yX11_oneIf RX11 ∈ tables_1 := List.mem_of_getElem? (i := 729) (by decide +kernel)
theorem lw_n14 : Cond.methodLinkNest RX1 141 yX11_oneIf RX11 ∈ tables_1 := List.mem_of_getElem? (i := 782) (by decide +kernel)
theorem lw_n15 : Cond.methodLinkNest RX6 59 yX11_bitOf RX11 ∈ tables_1 := List.mem_of_getElem? (i := 913) (by decide +kernel)
theorem lw_n16 : Cond.methodLinkNest RX8 91 yX11_bitOf RX11 ∈ tables_1 := List.mem_of_getElem? (i := 1060) (by decide +kernel)
theorem lw_n17 : Cond.methodLinkNest RX8 149 yX11_oneIf RX11 ∈ tables_1 := List.mem_of_getElem? (i := 1069) (by decide +kernel)
theorem lw_n18 : Cond.methodLinkNest RX6 87 yX11_oneIf RX11 ∈ tables_1 := List.mem_of_getElem? (i := 1154) (by decide +kernel)
theorem lw_n19 : Cond.methodLinkNest RX5 41 yX11_bitOf RX11 ∈ tables_1 := List.mem_of_getElem? (i := 1167) (by decide +kernel)
theorem lw_Nst {p : Program} {s : State} {m : MethodId} {meth : Method} {c : Code} {b L : Nat} {xs : Nat → Int32} (C0 : lw_At p s m meth c b L xs) : aw_Nst s := by
  have tb := lw_tb C0
  refine ⟨fun q hq => ?_, va_AO.of (tb _ (List.mem_of_getElem? (i := 40) (by decide +kernel))), tb (Cond.arrayOver (.array .int)) (List.mem_of_getElem? (i := 462) (by decide +kernel))⟩
  rcases List.mem_cons.mp hq with rfl | hq
  · exact va_Nw.of rfl (tb _ lw_n0)
  rcases List.mem_cons.mp hq with rfl | hq
  · exact va_Nw.of rfl (tb _ lw_n1)
  rcases List.mem_cons.mp hq with rfl | hq
  · exact va_Nw.of rfl (tb _ lw_n2)
  rcases List.mem_cons.mp hq with rfl | hq
  · exact va_Nw.of rfl (tb _ lw_n3)
  rcases List.mem_cons.mp hq with rfl | hq
  · exact va_Nw.of rfl (tb _ lw_n4)
  rcases List.mem_cons.mp hq with rfl | hq
  · exact va_Nw.of rfl (tb _ lw_n5)
  rcases List.mem_cons.mp hq with rfl | hq
  · exact va_Nw.of rfl (tb _ lw_n6)
  rcases List.mem_cons.mp hq with rfl | hq
  · exact va_Nw.of rfl (tb _ lw_n7)
  rcases List.mem_cons.mp hq with rfl | hq
  · exact va_Nw.of rfl (tb _ lw_n8)
  rcases List.mem_cons.mp hq with rfl | hq
  · exact va_Nw.of rfl (tb _ lw_n9)
  rcases List.mem_cons.mp hq with rfl | hq
  · exact va_Nw.of rfl (tb _ lw_n10)
  rcases List.mem_cons.mp hq with rfl | hq
  · exact va_Nw.of rfl (tb _ lw_n11)
  rcases List.mem_cons.mp hq with rfl | hq
  · exact va_Nw.of rfl (tb _ lw_n12)
  rcases List.mem_cons.mp hq with rfl | hq
  · exact va_Nw.of rfl (tb _ lw_n13)
  rcases List.mem_cons.mp hq with rfl | hq
  · exact va_Nw.of rfl (tb _ lw_n14)
  rcases List.mem_cons.mp hq with rfl | hq
  · exact va_Nw.of rfl (tb _ lw_n15)
  rcases List.mem_cons.mp hq with rfl | hq
  · exact va_Nw.of rfl (tb _ lw_n16)
  rcases List.mem_cons.mp hq with rfl | hq
  · exact va_Nw.of rfl (tb _ lw_n17)
  rcases List.mem_cons.mp hq with rfl | hq
  · exact va_Nw.of rfl (tb _ lw_n18)
  rcases List.mem_cons.mp hq with rfl | hq
  · exact va_Nw.of rfl (tb _ lw_n19)
  cases hq
theorem lw_arr {U : State} {a : Array Value} {ty : FieldType} (hne : ∀ C, ty ≠ .object C) (h : (Cond.arrayClass ty).before a U = true) : ∃ cA, ArrOfT U cA ty ∧ va_RA U cA ty := by
  obtain ⟨cA, kA, comp, f1, f2, f3⟩ := Cond.arrayClass_spec h
  refine ⟨cA, fun N z => ⟨(fun k h => by cases h), kA, f2, comp, f3⟩, ?_⟩
  cases ty with
  | object C => exact absurd rfl (hne C)
  | _ => exact f1
theorem lw_arrQ {U : State} (h : (Cond.arrayOver (.array .int)).before #[] U = true) : ∃ cA, ArrOfT U cA (.array .int) ∧ va_RA U cA (.array .int) := by
  obtain ⟨comp, cA, kA, f1, f2, f3, f4, f5⟩ := arrayOverA_spec h
  exact ⟨cA, fun N z => ⟨(fun k h => by cases h), kA, f3, comp, f4⟩, f5⟩
theorem lw_arrT {U : State} (h : va_AO "LateMover$Text" U) : ∃ cA, ArrOfT U cA (.object "LateMover$Text") ∧ va_RA U cA (.object "LateMover$Text") := by
  obtain ⟨comp, cA, kA, f1, f2, f3, f4, f5⟩ := Cond.arrayOver_spec h
  exact ⟨cA, fun N z => ⟨(fun k h => by cases h), kA, f3, comp, f4⟩, kA, comp, f3, f4, f1, f5⟩
theorem lw_known {p : Program} {s : State} {m : MethodId} {meth : Method} {c : Code} {b L : Nat} {xs : Nat → Int32} (C0 : lw_At p s m meth c b L xs) : ∃ (dC : Nat → ClassId) (dI : Nat → Nat → Nat) (dA : Nat → ClassId), va_K (dC, dI) vwCl (aw_ty dA) s := by
  have hts := lw_wsL C0
  have hN := lw_Nst C0
  obtain ⟨c0, i0, h0⟩ := u_known (C := RX0) (T := TX0) (N := 4) (n := 4) hts inlX0 (hts _ (aw_in_2 _ (List.mem_of_getElem? (i := 21) rfl)))
  obtain ⟨c1, i1, h1⟩ := u_known (C := RX1) (T := TX1) (N := 14) (n := 14) hts inlX1 (hts _ (aw_in_1 _ (List.mem_of_getElem? (i := 4) rfl)))
  obtain ⟨c2, i2, h2⟩ := u_known (C := RX2) (T := TX2) (N := 4) (n := 4) hts inlX2 (hts _ (aw_in_4 _ (List.mem_of_getElem? (i := 12) rfl)))
  obtain ⟨c3, i3, h3⟩ := u_known (C := RX3) (T := TX3) (N := 15) (n := 15) hts inlX3 (hts _ (aw_in_1 _ (List.mem_of_getElem? (i := 0) rfl)))
  obtain ⟨c4, i4, h4⟩ := u_known (C := RX4) (T := TX4) (N := 5) (n := 5) hts inlX4 (hts _ (aw_in_1 _ (List.mem_of_getElem? (i := 8) rfl)))
  obtain ⟨c5, i5, h5⟩ := u_known (C := RX5) (T := TX5) (N := 13) (n := 13) hts inlX5 (hts _ (aw_in_2 _ (List.mem_of_getElem? (i := 6) rfl)))
  obtain ⟨c6, i6, h6⟩ := u_known (C := RX6) (T := TX6) (N := 6) (n := 6) hts inlX6 (hts _ (aw_in_1 _ (List.mem_of_getElem? (i := 12) rfl)))
  obtain ⟨c7, i7, h7⟩ := u_known (C := RX7) (T := TX7) (N := 16) (n := 16) hts inlX7 (hts _ (aw_in_0 _ (List.mem_of_getElem? (i := 20) rfl)))
  obtain ⟨c8, i8, h8⟩ := u_known (C := RX8) (T := TX8) (N := 10) (n := 10) hts inlX8 (hts _ (aw_in_1 _ (List.mem_of_getElem? (i := 20) rfl)))
  obtain ⟨c9, i9, h9⟩ := u_known (C := RX9) (T := TX9) (N := 2) (n := 2) hts inlX9 (hts _ (aw_in_0 _ (List.mem_of_getElem? (i := 13) rfl)))
  obtain ⟨c10, i10, h10⟩ := u_known (C := RX10) (T := TX10) (N := 10) (n := 10) hts inlX10 (hts _ (aw_in_2 _ (List.mem_of_getElem? (i := 2) rfl)))
  obtain ⟨c11, i11, h11⟩ := u_known (C := RX11) (T := TX11) (N := 19) (n := 19) hts inlX11 (hts _ (aw_in_0 _ (List.mem_of_getElem? (i := 1) rfl)))
  obtain ⟨c12, i12, h12⟩ := u_known (C := RX12) (T := TX12) (N := 55) (n := 55) hts inlX12 (hts _ (aw_in_0 _ (List.mem_of_getElem? (i := 4) rfl)))
  obtain ⟨a0, u0, v0⟩ := lw_arr (ty := .int) (fun C z => by cases z) (hts _ (aw_in_1 _ (List.mem_of_getElem? (i := 17) rfl)))
  obtain ⟨a1, u1, v1⟩ := lw_arr (ty := .byte) (fun C z => by cases z) (hts _ (aw_in_2 _ (List.mem_of_getElem? (i := 13) rfl)))
  obtain ⟨a2, u2, v2⟩ := lw_arr (ty := .boolean) (fun C z => by cases z) (hts _ (aw_in_7 _ (List.mem_of_getElem? (i := 17) rfl)))
  obtain ⟨a3, u3, v3⟩ := lw_arr (ty := .long) (fun C z => by cases z) (hts _ (aw_in_5 _ (List.mem_of_getElem? (i := 12) rfl)))
  obtain ⟨a4, u4, v4⟩ := lw_arrQ hN.2.2
  obtain ⟨a5, u5, v5⟩ := lw_arrT hN.2.1
  refine ⟨fun k => [c0, c1, c2, c3, c4, c5, c6, c7, c8, c9, c10, c11, c12].getD k c0, fun k => [i0, i1, i2, i3, i4, i5, i6, i7, i8, i9, i10, i11, i12].getD k i0, fun k => [a0, a1, a2, a3, a4, a5].getD k a0, fun k q hq => ?_, fun k q hq => ?_⟩
  · have hk : k < 13 := (List.getElem?_eq_some_iff.mp hq).1
    rcases (show k = 0 ∨ k = 1 ∨ k = 2 ∨ k = 3 ∨ k = 4 ∨ k = 5 ∨ k = 6 ∨ k = 7 ∨ k = 8 ∨ k = 9 ∨ k = 10 ∨ k = 11 ∨ k = 12 by omega) with rfl | rfl | rfl | rfl | rfl | rfl | rfl | rfl | rfl | rfl | rfl | rfl | rfl
    · cases hq; exact h0
    · cases hq; exact h1
    · cases hq; exact h2
    · cases hq; exact h3
    · cases hq; exact h4
    · cases hq; exact h5
    · cases hq; exact h6
    · cases hq; exact h7
    · cases hq; exact h8
    · cases hq; exact h9
    · cases hq; exact h10
    · cases hq; exact h11
    · cases hq; exact h12
  · have hk : k < 6 := (List.getElem?_eq_some_iff.mp hq).1
    rcases (show k = 0 ∨ k = 1 ∨ k = 2 ∨ k = 3 ∨ k = 4 ∨ k = 5 by omega) with rfl | rfl | rfl | rfl | rfl | rfl
    · cases hq; exact ⟨u0, v0⟩
    · cases hq; exact ⟨u1, v1⟩
    · cases hq; exact ⟨u2, v2⟩
    · cases hq; exact ⟨u3, v3⟩
    · cases hq; exact ⟨u4, v4⟩
    · cases hq; exact ⟨u5, v5⟩
theorem lw_sz {p : Program} {l : Launch} {e : Env} {R : Room} {s : State} {m : MethodId} {args : Array Value} {below : List Frame} {meth : Method} {c : Code} {H : Heap} {locs : List Loc} {kc ks : Nat} {Q : State → Prop} {g : JFrame} {D : va_G} {b0 : Nat} {dA : Nat → ClassId} {sh : List aw_H} {σ : aw_S} (hP : va_P D vwCl (aw_w b0 dA sh σ) H) (hsh : 0 < sh.length) (hz : b0 + sh.length = s.heap.size + kc) (k : H.size = s.heap.size + kc → W p l e R s m args below meth c H locs kc ks Q g) : W p l e R s m args below meth c H locs kc ks Q g := by
  intro T hT X
  refine k ?_ T hT X
  have h3 := X.heapSize
  rw [hT] at h3
  have hlt : sh.length - 1 < sh.length := by omega
  have h5 := (hP (sh.length - 1) _ (aw_w_get (List.getElem?_eq_getElem hlt))).lt
  have h5 : b0 + (sh.length - 1) < H.size := h5
  omega
theorem lw_new {p : Program} {l : Launch} {e : Env} {s : State} {m : MethodId} {below : List Frame} {meth : Method} {c : Code} {b L : Nat} {xs : Nat → Int32} (C0 : lw_At p s m meth c b L xs) {dC : Nat → ClassId} {dI : Nat → Nat → Nat} {dA : Nat → ClassId} (hK : va_K (dC, dI) vwCl (aw_ty dA) s) {H : Heap} {locs : List Loc} {kc ks pc h : Nat} {ls : Array Slot} {st : List Value} {Q : State → Prop} {idx ci N : Nat} {Cn : String} {T : u_T} {ty : Nat → FieldType} {fs : List aw_F} {σ : aw_S} (hin : ∀ w ∈ u_ws Cn T N, w ∈ wsL_law) (hty : ∀ k, k < N → parseFieldDescriptor (T k).2.2.1 = some (ty k)) (hcl : Cond.classLink R_law idx Cn ∈ wsL_law) (hinst : Cond.instantiable Cn N ∈ wsL_law) (hini : Cond.initialized Cn ∈ wsL_law) (hc : vwCl[ci]? = some (Cn, T, N)) (hfs : ∀ b, ∀ j, j < N → defaultValue (ty j) = vp_V (fs.mapIdx (fun j f => aw_fv b σ 0 j f)) j) (hz : H.size = h) (hr : kc + 1 ≤ room_1.cells ∧ ks + N ≤ room_1.slots) (hd : decode code pc = .ok (.new idx, 3))
    (k : ∀ H1 : Heap, va_P (dC, dI) vwCl (aw_w h dA [.inl (ci, fs)] σ) H1 → H1.size = h + 1 → (∀ q, q < h → H1[q]? = H[q]?) → W p l e room_1 s m #[Value.ref b] below meth c H1 locs (kc + 1) (ks + N) Q (F0 m (pc + 3) ls (.ref h :: st))) : W p l e room_1 s m #[Value.ref b] below meth c H locs kc ks Q (F0 m pc ls st) := by
  have hts := lw_wsL C0
  obtain ⟨hx, hb, hr0, hml, hown, -, hX, hbl, hlocks, hgv⟩ := C0
  have hKn := hK.1 ci _ hc
  refine W.newcK hx hb hown (hts _ hcl) (hts _ hinst) (hts _ hini) rfl hd hr.1 hr.2 hKn.2.1 hz fun H1 kC hkC e1 z1 o1 => ?_
  refine k H1 (fun k q hq => ?_) z1 o1
  have hk : k = 0 := by have := (lw_wk hq).2; rw [List.length_singleton] at this; omega
  subst hk
  rw [aw_w_get (s := .inl (ci, fs)) rfl] at hq
  cases hq
  exact ⟨_, hc, (u_born ty hts hin hKn hkC e1 hty).to (hfs h)⟩
theorem lw_init {p : Program} {l : Launch} {e : Env} {s : State} {m : MethodId} {below : List Frame} {meth : Method} {c : Code} {b L : Nat} {xs : Nat → Int32} (C0 : lw_At p s m meth c b L xs) (hN : aw_Nst s) {G : aw_G} (hal : G.2.2.2.2) (hK : va_K (G.1, G.2.1) vwCl (aw_ty G.2.2.1) s) (hb1 : s.heap.size ≤ G.2.2.2.1) {sh sh' : List aw_H} {σ σ' : aw_S} {H : Heap} {locs : List Loc} {kc ks pc : Nat} {ls : Array Slot} {Q : State → Prop} {idx : Nat} {y : MethodName} {M' : aw_M} {B' : aw_B} {st : List Value}
    (hM : aw_Ct l y M' G B' [.ref 0] sh σ (none, sh', σ')) (hy : aw_Y y M' 0) (hl : Cond.methodLink R_law idx y ∈ wsL_law) (hinst : Cond.instanceMethod y ∈ wsL_law) (hyi : y.name = "<init>") (hnr : M'.2.2.2.1 = none) (hroom : B'.1 + 1 ≤ room_1.frames ∧ 8 + (M'.2.2.1 + 11) + B'.2.1 ≤ room_1.locals) (hcs : kc + B'.2.2.1 ≤ room_1.cells ∧ ks + B'.2.2.2 ≤ room_1.slots) (hst : (st.map fun v => v.category).sum ≤ 8) (hd : decode code pc = .ok (.invokespecial idx, 3))
    (hP : va_P (G.1, G.2.1) vwCl (aw_w G.2.2.2.1 G.2.2.1 sh σ) H) (hz : H.size = G.2.2.2.1 + sh.length) (hS : va_S (fun q : Nat => s.heap.size ≤ q) s.heap H locs) (hls : ls.size = 4)
    (k : ∀ (H1 : Heap) (locs1 : List Loc), va_P (G.1, G.2.1) vwCl (aw_w G.2.2.2.1 G.2.2.1 sh' σ') H1 → va_S (fun q : Nat => s.heap.size ≤ q) s.heap H1 locs1 → (∀ q, q < G.2.2.2.1 → H1[q]? = H[q]?) → W p l e room_1 s m #[Value.ref b] below meth c H1 locs1 (kc + B'.2.2.1) (ks + B'.2.2.2) Q (F0 m (pc + 3) ls st)) : W p l e room_1 s m #[Value.ref b] below meth c H locs kc ks Q (F0 m pc ls (.ref (G.2.2.2.1 + 0) :: st)) := by
  have hts := lw_wsL C0
  obtain ⟨hx, hb, hr, hml, hown, -, hX, hbl, hlocks, hgv⟩ := C0
  have hcB : CallB room_1 s #[Value.ref b] R_law idx y M'.2.1 M'.2.2.1 M'.2.2.2.1 (.code y M'.2.1 M'.2.2.1 M'.2.2.2.1 :: wsL_law) (aw_room B') B'.2.2.1 B'.2.2.2 0 := aw_callB hts hy hl hroom
  have hPc : ∀ U : State, U.heap = H → s.WarmedH U.vm → va_Pc (([.ref 0] : List Value).map (aw_v G.2.2.2.1)) (fun U => va_P (G.1, G.2.1) vwCl (aw_w G.2.2.2.1 G.2.2.1 sh σ) U.heap ∧ va_K (G.1, G.2.1) vwCl (aw_ty G.2.2.1) U ∧ (G.2.2.2.2 → U.heap.size = G.2.2.2.1 + sh.length) ∧ aw_Nst U) (([.ref 0] : List Value).map (aw_v G.2.2.2.1)).toArray U := fun U hU hW => ⟨rfl, by rw [hU]; exact hP, va_K.moved hW.alike hK, fun _ => by rw [hU]; exact hz, aw_Nst.warm hW hN⟩
  obtain ⟨own1, cc1, nL1, ret1, ini1⟩ := M'
  cases hnr
  have hrun := va_runI (As := []) (rest := st) (g := F0 m pc ls (.ref (G.2.2.2.1 + 0) :: st)) (H := H) (locs := locs) (cells := kc) (slots := ks) ⟨hx, hb, hml, hown, hts⟩ hM ⟨hcB, hyi, hts _ hinst⟩ ⟨aw_blind, hPc⟩ rfl rfl hls rfl (by show 2 * 0 + _ ≤ 8; omega) hd hcs (p := p) (l := l) (e := e) (R := room_1) (s := s) (m := m) (args := #[Value.ref b]) (below := below) (meth := meth) (c := c)
  have fr : ∀ q, aw_A G.2.2.2.1 sh.length G.2.2.2.2 q → s.heap.size ≤ q := fun q hq => Nat.le_trans hb1 hq.1
  refine lw_callR (A := fun q : Nat => s.heap.size ≤ q) (G := G) (E := (none, sh', σ')) hrun hS (fun q _ h => fr q h) fr (fun H1 locs1 hP1 hS1 hk1 => ?_)
  exact k H1 locs1 hP1 hS1 (fun q hq => hk1 q (by omega) (fun z => by have := z.1; omega))
/-- all is zero -/
def aw_z : aw_S := (fun _ _ => 0, fun _ _ => 0, fun _ _ => none)
theorem xB_born : bn [.inl (12, born_X12)] 0 12 (fin_X12 1) (nw_X12 1) = xB := rfl
theorem lw_first : iv_I (mo_g aw_z) (aw_sI aw_z 0 4 (-1)) := by
  refine i_init (fun c j h => ?_) ?_ (fun c j h => ?_) ?_ ?_
  · show (if c = 0 ∧ j = 17 then (-1 : Int32) else 0) = 0
    rw [if_neg h]
  · show (if 0 = 0 ∧ 17 = 17 then (-1 : Int32) else 0) = -1
    rw [if_pos ⟨rfl, rfl⟩]
  · show (if c = 0 ∧ j = 4 then (-1 : Int32) else 0) = 0
    rw [if_neg h]
  · show (if 0 = 0 ∧ 4 = 4 then (-1 : Int32) else 0) = -1
    rw [if_pos ⟨rfl, rfl⟩]
  · exact Or.inl ⟨rfl, rfl, rfl, rfl, rfl, rfl⟩
set_option maxHeartbeats 4000000 in
theorem whole_start {p : Program} {e : Env} {s : State} {m : MethodId} {below : List Frame} {meth : Method} {c : Code} (l : Launch) (hflags : l.flags = flags0) {b L : Nat} {xs : Nat → Int32} (hL : L ≤ 3072) (C0 : lw_At p s m meth c b L xs) : W p l e room_1 s m #[Value.ref b] below meth c s.heap [] 0 0 (lw_Z below #[Value.ref b] s) (entryFrame m ([Value.ref b] : List Value).toArray 4) := by
  obtain ⟨dC, dI, dA, hK⟩ := lw_known C0
  have hN := lw_Nst C0
  obtain ⟨hx, hb, hr, hml, hown, htl, hX, hbl, hlocks, hgv⟩ := id C0
  have hl := lv_entry ([.ref b]) (n := 4) (Nat.le_of_ble_eq_true rfl)
  rw [lg_entry_eq]
  generalize (lg_sl ([.ref b]) ++ List.replicate (4 - (lg_sl ([.ref b])).length) Slot.unset).toArray = ls at hl ⊢
  have hl : lv_has ls 4 [(0, .ref b)] := hl
  refine lw_new C0 hK (σ := aw_z) (h := s.heap.size) (fs := born_X11) inlX11 tyX11_ok (aw_in_0 _ (List.mem_of_getElem? (i := 0) rfl)) (aw_in_0 _ (List.mem_of_getElem? (i := 1) rfl)) (aw_in_0 _ (List.mem_of_getElem? (i := 2) rfl)) (ci := 11) (N := 19) rfl (born_X11_ok (fun j => ⟨rfl, rfl⟩)) rfl ⟨Nat.le_of_ble_eq_true rfl, Nat.le_of_ble_eq_true rfl⟩ dL_law_0 (fun H1 P1 z1 o1 => ?_)
  refine lv_dup hx hb dL_law_3 rfl ?_
  have hS1 : va_S (fun q : Nat => s.heap.size ≤ q) s.heap H1 [] := ⟨by omega, fun q h1 _ => o1 q h1, fun q hq => absurd hq List.not_mem_nil⟩
  refine lw_init C0 hN (G := (dC, dI, dA, s.heap.size, True)) trivial hK (Nat.le_refl _) (c_X11_init (l := l) (σ := aw_z) trivial (fun _ _ => ⟨rfl, rfl⟩) (fun _ _ => rfl)) yi_X11.1 (aw_in_0 _ (List.mem_of_getElem? (i := 6) rfl)) yi_X11.2 rfl rfl ⟨Nat.le_of_ble_eq_true rfl, Nat.le_of_ble_eq_true rfl⟩ ⟨Nat.le_of_ble_eq_true rfl, Nat.le_of_ble_eq_true rfl⟩ (Nat.le_of_ble_eq_true rfl) dL_law_4 P1 z1 hS1 hl.1 (fun H2 locs2 P2 hS2 _ => ?_)
  refine lv_astore_n (lv' := [(1, .ref s.heap.size), (0, .ref b)]) hx hb dL_law_7 rfl hl (by decide) rfl (fun ls hl => ?_)
  refine lw_sz P2 (by rw [lw_xA]; decide) (by show s.heap.size + xA.length = s.heap.size + 142; rw [lw_xA]) (fun hz2 => ?_)
  have hz2 : H2.size = s.heap.size + 142 := hz2
  refine lw_new C0 hK (σ := aw_z) (h := s.heap.size + 142) (fs := born_X12) inlX12 tyX12_ok (aw_in_0 _ (List.mem_of_getElem? (i := 3) rfl)) (aw_in_0 _ (List.mem_of_getElem? (i := 4) rfl)) (aw_in_0 _ (List.mem_of_getElem? (i := 5) rfl)) (ci := 12) (N := 55) rfl (born_X12_ok (fun j => ⟨rfl, rfl⟩)) hz2 ⟨Nat.le_of_ble_eq_true rfl, Nat.le_of_ble_eq_true rfl⟩ dL_law_8 (fun H3 P3 z3 o3 => ?_)
  refine lv_dup hx hb dL_law_11 rfl ?_
  have hS3 : va_S (fun q : Nat => s.heap.size ≤ q) s.heap H3 locs2 := ⟨by omega, fun q h1 h2 => (o3 q (by omega)).trans (hS2.2.1 q h1 h2), hS2.2.2⟩
  have hM : aw_Ct l yX12_init M_X12_init (dC, dI, dA, s.heap.size + 142, True) B_X12_init [.ref 0] [.inl (12, born_X12)] aw_z (none, xB, aw_sI aw_z 0 4 (-1)) := by
    rw [← xB_born]
    exact c_X12_init (l := l) (σ := aw_z) (o := 0) trivial rfl (fun _ _ _ => ⟨rfl, rfl⟩)
  refine lw_init C0 hN (G := (dC, dI, dA, s.heap.size + 142, True)) trivial hK (Nat.le_add_right _ _) hM yi_X12.1 (aw_in_7 _ (List.mem_of_getElem? (i := 4) rfl)) yi_X12.2 rfl rfl ⟨Nat.le_of_ble_eq_true rfl, Nat.le_of_ble_eq_true rfl⟩ ⟨Nat.le_of_ble_eq_true rfl, Nat.le_of_ble_eq_true rfl⟩ (Nat.le_of_ble_eq_true rfl) dL_law_12 P3 z3 hS3 hl.1 (fun H4 locs4 P4 hS4 o4 => ?_)
  refine lv_astore_n (lv' := [(2, .ref (s.heap.size + 142)), (1, .ref s.heap.size), (0, .ref b)]) hx hb dL_law_15 rfl hl (by decide) rfl (fun ls hl => ?_)
  refine lv_iconst (v := nI 0) hx hb dL_law_16 (by decide) ?_
  refine lv_istore_n (lv' := [(3, .int (nI 0)), (2, .ref (s.heap.size + 142)), (1, .ref s.heap.size), (0, .ref b)]) hx hb dL_law_17 rfl hl (by decide) rfl (fun ls hl => ?_)
  have P5 : va_P (dC, dI) vwCl (aw_w s.heap.size dA xA (mo_g aw_z)) H4 := P2.kept (fun k q hq => by
    have h1 : q.1 = s.heap.size + k ∧ k < xA.length := lw_wk hq
    have h2 := h1.2
    rw [lw_xA] at h2
    exact (o4 q.1 (by show q.1 < s.heap.size + 142; omega)).trans (o3 q.1 (by omega)))
  exact law_loop C0 hL (GA := (dC, dI, dA, s.heap.size, False)) (GB := (dC, dI, dA, s.heap.size + 142, False)) ⟨id, id, hK, hK, Nat.le_refl _, Nat.le_refl _, hN⟩ ⟨Nat.le_of_ble_eq_true rfl, Nat.le_of_ble_eq_true rfl⟩ (L + 6) 0 (mo_g aw_z) (aw_sI aw_z 0 4 (-1)) H4 locs4 ls (by omega) (Nat.zero_le _) ⟨P5, P4, hS4⟩ lw_first (lv_sub hl [3, 2, 1, 0] rfl)

/-! ===== CONSTRUCTORS ===== -/
/-! LateMover: the constructor -/
theorem fi_X11_12 : aw_Fd RX11 12 11 0 (.object "LateMover$Text") true := ⟨RX11, TX11, 19, tyX11, rfl, by decide, inlX11, tyX11_ok, nmX11, aw_in_0 _ (List.mem_of_getElem? (i := 15) rfl), rfl, rfl, (fun _ => rfl)⟩
theorem fi_X11_16 : aw_Fd RX11 16 11 1 (.object "LateMover$Text") true := ⟨RX11, TX11, 19, tyX11, rfl, by decide, inlX11, tyX11_ok, nmX11, aw_in_0 _ (List.mem_of_getElem? (i := 16) rfl), rfl, rfl, (fun _ => rfl)⟩
theorem fi_X11_19 : aw_Fd RX11 19 11 2 (.object "LateMover$Text") true := ⟨RX11, TX11, 19, tyX11, rfl, by decide, inlX11, tyX11_ok, nmX11, aw_in_0 _ (List.mem_of_getElem? (i := 17) rfl), rfl, rfl, (fun _ => rfl)⟩
theorem fi_X11_22 : aw_Fd RX11 22 11 3 (.array (.object "LateMover$Text")) true := ⟨RX11, TX11, 19, tyX11, rfl, by decide, inlX11, tyX11_ok, nmX11, aw_in_0 _ (List.mem_of_getElem? (i := 18) rfl), rfl, rfl, (fun _ => rfl)⟩
theorem fi_X11_29 : aw_Fd RX11 29 11 4 (.object "LateMover$Reader") true := ⟨RX11, TX11, 19, tyX11, rfl, by decide, inlX11, tyX11_ok, nmX11, aw_in_0 _ (List.mem_of_getElem? (i := 22) rfl), rfl, rfl, (fun _ => rfl)⟩
theorem fi_X11_36 : aw_Fd RX11 36 11 5 (.object "LateMover$Graph") true := ⟨RX11, TX11, 19, tyX11, rfl, by decide, inlX11, tyX11_ok, nmX11, aw_in_1 _ (List.mem_of_getElem? (i := 2) rfl), rfl, rfl, (fun _ => rfl)⟩
theorem fi_X11_43 : aw_Fd RX11 43 11 6 (.object "LateMover$Facts") true := ⟨RX11, TX11, 19, tyX11, rfl, by decide, inlX11, tyX11_ok, nmX11, aw_in_1 _ (List.mem_of_getElem? (i := 6) rfl), rfl, rfl, (fun _ => rfl)⟩
theorem fi_X11_50 : aw_Fd RX11 50 11 7 (.object "LateMover$Loops") true := ⟨RX11, TX11, 19, tyX11, rfl, by decide, inlX11, tyX11_ok, nmX11, aw_in_1 _ (List.mem_of_getElem? (i := 10) rfl), rfl, rfl, (fun _ => rfl)⟩
theorem fi_X11_57 : aw_Fd RX11 57 11 8 (.object "LateMover$Placement") true := ⟨RX11, TX11, 19, tyX11, rfl, by decide, inlX11, tyX11_ok, nmX11, aw_in_1 _ (List.mem_of_getElem? (i := 14) rfl), rfl, rfl, (fun _ => rfl)⟩
theorem fi_X11_61 : aw_Fd RX11 61 11 9 (.object "LateMover$Placement") true := ⟨RX11, TX11, 19, tyX11, rfl, by decide, inlX11, tyX11_ok, nmX11, aw_in_1 _ (List.mem_of_getElem? (i := 15) rfl), rfl, rfl, (fun _ => rfl)⟩
theorem fi_X11_64 : aw_Fd RX11 64 11 10 (.object "LateMover$Placement") true := ⟨RX11, TX11, 19, tyX11, rfl, by decide, inlX11, tyX11_ok, nmX11, aw_in_1 _ (List.mem_of_getElem? (i := 16) rfl), rfl, rfl, (fun _ => rfl)⟩
theorem fi_X11_67 : aw_Fd RX11 67 11 11 (.array .int) true := ⟨RX11, TX11, 19, tyX11, rfl, by decide, inlX11, tyX11_ok, nmX11, aw_in_1 _ (List.mem_of_getElem? (i := 18) rfl), rfl, rfl, (fun _ => rfl)⟩
theorem fi_X11_74 : aw_Fd RX11 74 11 12 (.object "LateMover$Run") true := ⟨RX11, TX11, 19, tyX11, rfl, by decide, inlX11, tyX11_ok, nmX11, aw_in_1 _ (List.mem_of_getElem? (i := 22) rfl), rfl, rfl, (fun _ => rfl)⟩
theorem fi_X11_78 : aw_Fd RX11 78 11 13 (.object "LateMover$Run") true := ⟨RX11, TX11, 19, tyX11, rfl, by decide, inlX11, tyX11_ok, nmX11, aw_in_1 _ (List.mem_of_getElem? (i := 23) rfl), rfl, rfl, (fun _ => rfl)⟩
theorem fi_X11_81 : aw_Fd RX11 81 11 14 (.object "LateMover$Run") true := ⟨RX11, TX11, 19, tyX11, rfl, by decide, inlX11, tyX11_ok, nmX11, aw_in_2 _ (List.mem_of_getElem? (i := 0) rfl), rfl, rfl, (fun _ => rfl)⟩
theorem fi_X11_87 : aw_Fd RX11 87 11 15 (.object "LateMover$Ways") true := ⟨RX11, TX11, 19, tyX11, rfl, by decide, inlX11, tyX11_ok, nmX11, aw_in_2 _ (List.mem_of_getElem? (i := 4) rfl), rfl, rfl, (fun _ => rfl)⟩
theorem fi_X11_94 : aw_Fd RX11 94 11 16 (.object "LateMover$Others") true := ⟨RX11, TX11, 19, tyX11, rfl, by decide, inlX11, tyX11_ok, nmX11, aw_in_2 _ (List.mem_of_getElem? (i := 8) rfl), rfl, rfl, (fun _ => rfl)⟩
theorem fi_X11_98 : aw_Fd RX11 98 11 17 .int false := ⟨RX11, TX11, 19, tyX11, rfl, by decide, inlX11, tyX11_ok, nmX11, aw_in_2 _ (List.mem_of_getElem? (i := 9) rfl), rfl, rfl, (fun h => by cases h)⟩
def born_X11 : List aw_F := [.inl 3, .inl 3, .inl 3, .inl 3, .inl 3, .inl 3, .inl 3, .inl 3, .inl 3, .inl 3, .inl 3, .inl 3, .inl 3, .inl 3, .inl 3, .inl 3, .inl 3, .inl 0, .inl 0]
abbrev M_X11_init : aw_M := (RX11, cX11_init, 2, none, true)
abbrev B_X11_init : aw_B := (3, 52, 141, 13303)
theorem yi_X11 : aw_Y yX11_init M_X11_init 0 ∧ Cond.instanceMethod yX11_init ∈ wsL_law := ⟨⟨aw_in_0 _ (List.mem_of_getElem? (i := 8) rfl), aw_in_0 _ (List.mem_of_getElem? (i := 2) rfl), by decide +kernel, by decide +kernel, by decide +kernel⟩, aw_in_0 _ (List.mem_of_getElem? (i := 7) rfl)⟩
theorem born_X11_ok {σ : aw_S} {k : Nat} (h0 : ∀ j, σ.1 k j = 0 ∧ σ.2.1 k j = 0) : ∀ b, ∀ j, j < 19 → defaultValue (tyX11 j) = vp_V (born_X11.mapIdx (fun j f => aw_fv b σ k j f)) j := by
  intro b j hj
  rcases (show j = 0 ∨ j = 1 ∨ j = 2 ∨ j = 3 ∨ j = 4 ∨ j = 5 ∨ j = 6 ∨ j = 7 ∨ j = 8 ∨ j = 9 ∨ j = 10 ∨ j = 11 ∨ j = 12 ∨ j = 13 ∨ j = 14 ∨ j = 15 ∨ j = 16 ∨ j = 17 ∨ j = 18 by omega) with rfl | rfl | rfl | rfl | rfl | rfl | rfl | rfl | rfl | rfl | rfl | rfl | rfl | rfl | rfl | rfl | rfl | rfl | rfl
  · exact bn_v (j := 0) (f := .inl 3) rfl rfl
  · exact bn_v (j := 1) (f := .inl 3) rfl rfl
  · exact bn_v (j := 2) (f := .inl 3) rfl rfl
  · exact bn_v (j := 3) (f := .inl 3) rfl rfl
  · exact bn_v (j := 4) (f := .inl 3) rfl rfl
  · exact bn_v (j := 5) (f := .inl 3) rfl rfl
  · exact bn_v (j := 6) (f := .inl 3) rfl rfl
  · exact bn_v (j := 7) (f := .inl 3) rfl rfl
  · exact bn_v (j := 8) (f := .inl 3) rfl rfl
  · exact bn_v (j := 9) (f := .inl 3) rfl rfl
  · exact bn_v (j := 10) (f := .inl 3) rfl rfl
  · exact bn_v (j := 11) (f := .inl 3) rfl rfl
  · exact bn_v (j := 12) (f := .inl 3) rfl rfl
  · exact bn_v (j := 13) (f := .inl 3) rfl rfl
  · exact bn_v (j := 14) (f := .inl 3) rfl rfl
  · exact bn_v (j := 15) (f := .inl 3) rfl rfl
  · exact bn_v (j := 16) (f := .inl 3) rfl rfl
  · exact bn_v (j := 17) (f := .inl 0) rfl (by show Value.int 0 = Value.int (σ.1 k 17); rw [(h0 17).1])
  · exact bn_v (j := 18) (f := .inl 0) rfl (by show Value.int 0 = Value.int (σ.1 k 18); rw [(h0 18).1])
/-- the cells as they come, one field behind another -/
def mo_s : List aw_H := [.inl (11, born_X11)]
def xl0 : List aw_H := []
theorem mo_len0 : mo_s.length + xl0.length = 1 := rfl
def xl1 : List aw_H := xl0 ++ (.inl (9, fin_X9 (1 + 1)) :: nw_X9 (1 + 1))
theorem mo_len1 : mo_s.length + xl1.length = 3 := by decide +kernel
def xl2 : List aw_H := xl1 ++ (.inl (9, fin_X9 (3 + 1)) :: nw_X9 (3 + 1))
theorem mo_len2 : mo_s.length + xl2.length = 5 := by decide +kernel
def xl3 : List aw_H := xl2 ++ (.inl (9, fin_X9 (5 + 1)) :: nw_X9 (5 + 1))
theorem mo_len3 : mo_s.length + xl3.length = 7 := by decide +kernel
def xl4 : List aw_H := xl3 ++ [.inr (5, 3, aw_no)]
theorem mo_len4 : mo_s.length + xl4.length = 8 := by decide +kernel
def xl5 : List aw_H := xl4 ++ (.inl (7, fin_X7 (8 + 1)) :: nw_X7 (8 + 1))
theorem mo_len5 : mo_s.length + xl5.length = 24 := by decide +kernel
def xl6 : List aw_H := xl5 ++ (.inl (3, fin_X3 (24 + 1)) :: nw_X3 (24 + 1))
theorem mo_len6 : mo_s.length + xl6.length = 41 := by decide +kernel
def xl7 : List aw_H := xl6 ++ (.inl (1, fin_X1 (41 + 1)) :: nw_X1 (41 + 1))
theorem mo_len7 : mo_s.length + xl7.length = 58 := by decide +kernel
def xl8 : List aw_H := xl7 ++ (.inl (4, fin_X4 (58 + 1)) :: nw_X4 (58 + 1))
theorem mo_len8 : mo_s.length + xl8.length = 63 := by decide +kernel
def xl9 : List aw_H := xl8 ++ (.inl (6, fin_X6 (63 + 1)) :: nw_X6 (63 + 1))
theorem mo_len9 : mo_s.length + xl9.length = 69 := by decide +kernel
def xl10 : List aw_H := xl9 ++ (.inl (6, fin_X6 (69 + 1)) :: nw_X6 (69 + 1))
theorem mo_len10 : mo_s.length + xl10.length = 75 := by decide +kernel
def xl11 : List aw_H := xl10 ++ (.inl (6, fin_X6 (75 + 1)) :: nw_X6 (75 + 1))
theorem mo_len11 : mo_s.length + xl11.length = 81 := by decide +kernel
def xl12 : List aw_H := xl11 ++ [.inr (0, 26, aw_no)]
theorem mo_len12 : mo_s.length + xl12.length = 82 := by decide +kernel
def xl13 : List aw_H := xl12 ++ (.inl (8, fin_X8 (82 + 1)) :: nw_X8 (82 + 1))
theorem mo_len13 : mo_s.length + xl13.length = 87 := by decide +kernel
def xl14 : List aw_H := xl13 ++ (.inl (8, fin_X8 (87 + 1)) :: nw_X8 (87 + 1))
theorem mo_len14 : mo_s.length + xl14.length = 92 := by decide +kernel
def xl15 : List aw_H := xl14 ++ (.inl (8, fin_X8 (92 + 1)) :: nw_X8 (92 + 1))
theorem mo_len15 : mo_s.length + xl15.length = 97 := by decide +kernel
def xl16 : List aw_H := xl15 ++ (.inl (10, fin_X10 (97 + 1)) :: nw_X10 (97 + 1))
theorem mo_len16 : mo_s.length + xl16.length = 105 := by decide +kernel
def xl17 : List aw_H := xl16 ++ (.inl (5, fin_X5 (105 + 1)) :: nw_X5 (105 + 1))
theorem mo_len17 : mo_s.length + xl17.length = 136 := by decide +kernel
theorem aw_in3 {l : Launch} {y : MethodName} {M : aw_M} {G : aw_G} {B : aw_B} {sh : List aw_H} {o ci d n : Nat} {fs : List aw_F} {L : List aw_H} {x : aw_H} {σ : aw_S} {F : Nat → List aw_F} {NW : Nat → List aw_H} {S : Nat → aw_S} (hn : sh.length + L.length = n) (h : aw_Ct l y M G B [.ref n] (bn sh o ci fs (L ++ [x])) σ (none, bn (bn sh o ci fs (L ++ [x])) n d (F (bn sh o ci fs (L ++ [x])).length) (NW (bn sh o ci fs (L ++ [x])).length), S (bn sh o ci fs (L ++ [x])).length)) : aw_Ct l y M G B [.ref n] (bn sh o ci fs (L ++ [x])) σ (none, bn sh o ci fs (L ++ (.inl (d, F (n + 1)) :: NW (n + 1))), S (n + 1)) := by
  subst hn
  have e : (bn sh o ci fs (L ++ [x])).length = sh.length + L.length + 1 := by rw [bn_len, List.length_append]; rfl
  rw [bn_in, e] at h
  exact h
theorem bn_last3 {sh : List aw_H} {o ci n : Nat} {fs : List aw_F} {L : List aw_H} {x : aw_H} (hn : sh.length + L.length = n) : (bn sh o ci fs (L ++ [x]))[n]? = some x := by
  subst hn
  exact bn_last
/-- a field gets a new object, its number known -/
theorem aw_fieldCn {l : Launch} {M : aw_M} {G : aw_G} {B : aw_B} {E : aw_E} {pc : Nat} {loc : List (Nat × Value)} {sh L : List aw_H} {σ σ' : aw_S} {kc ks i1 i2 i3 o ci j c1 N n : Nat} {fs born fin : List aw_F} {nw : List aw_H} {Cn : String} {T : u_T} {ty : Nat → FieldType} {y : MethodName} {M' : aw_M} {B' : aw_B} {host : String} {fty : FieldType} (hnn : sh.length + L.length = n) (ho : o < sh.length) (hal : G.2.2.2.2) (hini : M.2.2.2.2 = true) (hin : ∀ w ∈ u_ws Cn T N, w ∈ wsL_law) (hty : ∀ k, k < N → parseFieldDescriptor (T k).2.2.1 = some (ty k)) (hcl : Cond.classLink M.1 i1 Cn ∈ wsL_law) (hinst : Cond.instantiable Cn N ∈ wsL_law) (hinit : Cond.initialized Cn ∈ wsL_law) (hc : vwCl[c1]? = some (Cn, T, N)) (hfs : ∀ b, ∀ j, j < N → defaultValue (ty j) = vp_V (born.mapIdx (fun j f => aw_fv b σ n j f)) j)
    (hM : aw_Ct l y M' G B' [.ref n] (bn sh o ci fs (L ++ [.inl (c1, born)])) σ (none, bn sh o ci fs (L ++ (.inl (c1, fin) :: nw)), σ')) (hy : aw_Y y M' 0) (hl : (M.1, i2, y, host) ∈ aw_nest) (hinst2 : Cond.instanceMethod y ∈ wsL_law) (hyi : y.name = "<init>") (hnr : M'.2.2.2.1 = none) (hroom : B'.1 + 1 ≤ B.1 ∧ 8 + (M'.2.2.1 + 11) + B'.2.1 ≤ B.2.1) (hnw : nw.length = B'.2.2.1) (hcs : kc + 1 + B'.2.2.1 ≤ B.2.2.1 ∧ ks + N + B'.2.2.2 ≤ B.2.2.2) (hF : aw_Fd M.1 i3 ci j fty true) (hn : ∀ b, narrow fty (aw_v b (.ref n)) = aw_v b (.ref n)) (hft : ∀ b, fits fty (aw_v b (.ref n)) = true) (hj : j < fs.length) (hd : decode M.2.1 pc = .ok (.new i1, 3)) (hd2 : decode M.2.1 (pc + 3) = .ok (.dup, 1)) (hd3 : decode M.2.1 (pc + 3 + 1) = .ok (.invokespecial i2, 3)) (hd4 : decode M.2.1 (pc + 3 + 1 + 3) = .ok (.putfield i3, 3))
    (k : aw_W l M G B E (pc + 3 + 1 + 3 + 3) loc [] (bn sh o ci (fs.set j (.inr n)) (L ++ (.inl (c1, fin) :: nw))) σ' (kc + 1 + B'.2.2.1) (ks + N + B'.2.2.2)) : aw_W l M G B E pc loc [.ref o] (bn sh o ci fs L) σ kc ks := by
  subst hnn
  exact aw_fieldC ho hal hini hin hty hcl hinst hinit hc hfs hM hy hl hinst2 hyi hnr hroom hnw hcs hF hn hft hj hd hd2 hd3 hd4 k
/-- a text more, named in the row at place k -/
def mo_f (f : Nat → Option Nat) (n k : Nat) : Nat → Option Nat := fun j => if j = k then some n else f j
def mo_t (n : Nat) : List aw_H := [.inl (9, [.inr (n + 1), .inl 0]), .inr (1, 800, aw_no)]
def mo_add (sh : List aw_H) (n k : Nat) (f : Nat → Option Nat) : List aw_H := List.set (sh ++ mo_t n) 7 (.inr (5, 3, mo_f f n k))
theorem mo_add_len {sh : List aw_H} {n k : Nat} {f : Nat → Option Nat} : (mo_add sh n k f).length = sh.length + 2 := by
  unfold mo_add
  rw [List.length_set, List.length_append]
  rfl
theorem mo_add_0 {sh : List aw_H} {n k : Nat} {f : Nat → Option Nat} {x : aw_H} (h : sh[0]? = some x) : (mo_add sh n k f)[0]? = some x := by
  unfold mo_add
  rw [List.getElem?_set_ne (by decide), List.getElem?_append_left (List.getElem?_eq_some_iff.mp h).1]
  exact h
theorem mo_add_7 {sh : List aw_H} {n k : Nat} {f : Nat → Option Nat} {x : aw_H} (h : sh[7]? = some x) : (mo_add sh n k f)[7]? = some (.inr (5, 3, mo_f f n k)) := by
  unfold mo_add
  rw [List.getElem?_set_self (by rw [List.length_append]; have := (List.getElem?_eq_some_iff.mp h).1; omega)]
/-- the loop that lays the three texts: once round -/
theorem mo_turn {l : Launch} {G : aw_G} {E : aw_E} {sh : List aw_H} {σ : aw_S} {kc ks k n : Nat} {fs : List aw_F} {f : Nat → Option Nat} (hk : k < 3) (hn : sh.length = n) (hal : G.2.2.2.2) (h0 : sh[0]? = some (.inl (11, fs))) (h3 : fs[3]? = some (.inr 7)) (h7 : sh[7]? = some (.inr (5, 3, f))) (hz : ∀ c, n ≤ c → ∀ j, σ.1 c j = 0 ∧ σ.2.1 c j = 0) (hr : kc + 2 ≤ 141 ∧ ks + 802 ≤ 13303)
    (kk : aw_W l M_X11_init G B_X11_init E 192 [(1, .int (nI (k + 1))), (0, .ref 0)] [] (mo_add sh n k f) σ (kc + 1 + 1) (ks + 2 + 800)) : aw_W l M_X11_init G B_X11_init E 192 [(1, .int (nI k)), (0, .ref 0)] [] sh σ kc ks := by
  subst hn
  have l7 : 7 < sh.length := (List.getElem?_eq_some_iff.mp h7).1
  refine aw_iload_n dX11_init_192 (q := 0) rfl ?_
  refine aw_iconst (v := 3) dX11_init_193 (by decide) ?_
  refine aw_icmp_ge (pc := 194) (tgt := 216) dX11_init_194 (by decide) (fun c2 => absurd c2 (by rcases (show k = 0 ∨ k = 1 ∨ k = 2 by omega) with rfl | rfl | rfl <;> decide)) (fun _ => ?_)
  refine aw_aload_n (pc := 197) dX11_init_197 (q := 1) rfl ?_
  refine aw_getC fi_X11_22.r h0 h3 dX11_init_198 ?_
  refine aw_iload_n dX11_init_201 (q := 0) rfl ?_
  refine aw_newC hal inlX9 tyX9_ok (aw_in_0 _ (List.mem_of_getElem? (i := 12) rfl)) (aw_in_0 _ (List.mem_of_getElem? (i := 13) rfl)) (aw_in_0 _ (List.mem_of_getElem? (i := 14) rfl)) (ci := 9) (N := 2) rfl (born_X9_ok (fun j => hz _ (Nat.le_refl _) j)) ⟨by have := hr.1; show kc + 1 ≤ 141; omega, by have := hr.2; show ks + 2 ≤ 13303; omega⟩ dX11_init_202 ?_
  refine aw_dup dX11_init_205 rfl ?_
  have e : bn (sh ++ ([.inl (9, born_X9)] : List aw_H)) sh.length 9 (fin_X9 (sh ++ ([.inl (9, born_X9)] : List aw_H)).length) (nw_X9 (sh ++ ([.inl (9, born_X9)] : List aw_H)).length) = sh ++ mo_t sh.length := by
    unfold bn
    rw [List.set_append_right _ _ (Nat.le_refl _), Nat.sub_self, List.length_append]
    show sh ++ [_] ++ [_] = _
    rw [List.append_assoc]
    rfl
  have hg : (sh ++ ([.inl (9, born_X9)] : List aw_H))[sh.length]? = some (.inl (9, born_X9)) := by rw [List.getElem?_append_right (Nat.le_refl _), Nat.sub_self]; rfl
  have hM : aw_Ct l yX9_init M_X9_init G B_X9_init [.ref sh.length] (sh ++ ([.inl (9, born_X9)] : List aw_H)) σ (none, sh ++ mo_t sh.length, σ) := by
    have h := c_X9_init (l := l) (G := G) (σ := σ) hal hg (fun c hc j => hz c (by rw [List.length_append] at hc; omega) j)
    rw [e] at h
    exact h
  refine aw_callIN (av := []) hM yi_X9.1 (host := RX11) (by decide +kernel) yi_X9.2 rfl rfl rfl ⟨Nat.le_of_ble_eq_true rfl, Nat.le_of_ble_eq_true rfl⟩ ⟨by have := hr.1; show kc + 1 + 1 ≤ 141; omega, by have := hr.2; show ks + 2 + 800 ≤ 13303; omega⟩ (by rw [List.length_append, List.length_append]; rfl) (Or.inr hal) (Nat.le_of_ble_eq_true rfl) dX11_init_206 ?_
  show aw_W _ _ _ _ _ 209 _ [.ref sh.length, .int (nI k), .ref 7] _ _ (kc + 1 + 1) (ks + 2 + 800)
  refine aw_astQ (pc := 209) (f := f) ((List.getElem?_append_left l7).trans h7) (fs := [.inr (sh.length + 1), .inl 0]) (by rw [List.getElem?_append_right (Nat.le_refl _), Nat.sub_self]; rfl) hk (by decide) dX11_init_209 ?_
  refine aw_iinc (pc := 210) (q := 0) (v := nI (k + 1)) [(1, .int (nI (k + 1))), (0, .ref 0)] dX11_init_210 rfl (by rw [show Int32.ofInt 1 = nI 1 from by decide, nI_add]) (by decide) rfl ?_
  refine aw_goto (pc := 213) (tgt := 192) dX11_init_213 (by decide) ?_
  exact kk
set_option maxHeartbeats 1000000 in
theorem mo_0 {l : Launch} {G : aw_G} {σ : aw_S} {E : aw_E} (hal : G.2.2.2.2) (h0 : ∀ c j, σ.1 c j = 0 ∧ σ.2.1 c j = 0) (kk : aw_W l M_X11_init G B_X11_init E 15 [(0, .ref 0)] [] (bn mo_s 0 11 [.inr 1, .inl 3, .inl 3, .inl 3, .inl 3, .inl 3, .inl 3, .inl 3, .inl 3, .inl 3, .inl 3, .inl 3, .inl 3, .inl 3, .inl 3, .inl 3, .inl 3, .inl 0, .inl 0] xl1) σ 2 802) : aw_W l M_X11_init G B_X11_init E 4 [(0, .ref 0)] [] (bn mo_s 0 11 [.inl 3, .inl 3, .inl 3, .inl 3, .inl 3, .inl 3, .inl 3, .inl 3, .inl 3, .inl 3, .inl 3, .inl 3, .inl 3, .inl 3, .inl 3, .inl 3, .inl 3, .inl 0, .inl 0] xl0) σ 0 0 := by
  refine aw_aload_n dX11_init_4 (q := 0) rfl ?_
  refine aw_fieldCn mo_len0 (by decide) hal rfl inlX9 tyX9_ok (aw_in_0 _ (List.mem_of_getElem? (i := 12) rfl)) (aw_in_0 _ (List.mem_of_getElem? (i := 13) rfl)) (aw_in_0 _ (List.mem_of_getElem? (i := 14) rfl)) (c1 := 9) (N := 2) rfl (born_X9_ok (fun j => h0 _ j)) (aw_in3 mo_len0 (F := fin_X9) (NW := nw_X9) (S := fun _ => σ) (c_X9_init hal (bn_last3 mo_len0) (fun c _ j => h0 c j))) yi_X9.1 (host := RX11) (by decide +kernel) yi_X9.2 rfl rfl ⟨Nat.le_of_ble_eq_true rfl, Nat.le_of_ble_eq_true rfl⟩ rfl ⟨Nat.le_of_ble_eq_true rfl, Nat.le_of_ble_eq_true rfl⟩ fi_X11_12 (fun _ => rfl) (fun _ => rfl) (Nat.le_of_ble_eq_true rfl) dX11_init_5 dX11_init_8 dX11_init_9 dX11_init_12 ?_
  exact kk
set_option maxHeartbeats 1000000 in
theorem mo_1 {l : Launch} {G : aw_G} {σ : aw_S} {E : aw_E} (hal : G.2.2.2.2) (h0 : ∀ c j, σ.1 c j = 0 ∧ σ.2.1 c j = 0) (kk : aw_W l M_X11_init G B_X11_init E 26 [(0, .ref 0)] [] (bn mo_s 0 11 [.inr 1, .inr 3, .inl 3, .inl 3, .inl 3, .inl 3, .inl 3, .inl 3, .inl 3, .inl 3, .inl 3, .inl 3, .inl 3, .inl 3, .inl 3, .inl 3, .inl 3, .inl 0, .inl 0] xl2) σ 4 1604) : aw_W l M_X11_init G B_X11_init E 15 [(0, .ref 0)] [] (bn mo_s 0 11 [.inr 1, .inl 3, .inl 3, .inl 3, .inl 3, .inl 3, .inl 3, .inl 3, .inl 3, .inl 3, .inl 3, .inl 3, .inl 3, .inl 3, .inl 3, .inl 3, .inl 3, .inl 0, .inl 0] xl1) σ 2 802 := by
  refine aw_aload_n dX11_init_15 (q := 0) rfl ?_
  refine aw_fieldCn mo_len1 (by decide) hal rfl inlX9 tyX9_ok (aw_in_0 _ (List.mem_of_getElem? (i := 12) rfl)) (aw_in_0 _ (List.mem_of_getElem? (i := 13) rfl)) (aw_in_0 _ (List.mem_of_getElem? (i := 14) rfl)) (c1 := 9) (N := 2) rfl (born_X9_ok (fun j => h0 _ j)) (aw_in3 mo_len1 (F := fin_X9) (NW := nw_X9) (S := fun _ => σ) (c_X9_init hal (bn_last3 mo_len1) (fun c _ j => h0 c j))) yi_X9.1 (host := RX11) (by decide +kernel) yi_X9.2 rfl rfl ⟨Nat.le_of_ble_eq_true rfl, Nat.le_of_ble_eq_true rfl⟩ rfl ⟨Nat.le_of_ble_eq_true rfl, Nat.le_of_ble_eq_true rfl⟩ fi_X11_16 (fun _ => rfl) (fun _ => rfl) (Nat.le_of_ble_eq_true rfl) dX11_init_16 dX11_init_19 dX11_init_20 dX11_init_23 ?_
  exact kk
set_option maxHeartbeats 1000000 in
theorem mo_2 {l : Launch} {G : aw_G} {σ : aw_S} {E : aw_E} (hal : G.2.2.2.2) (h0 : ∀ c j, σ.1 c j = 0 ∧ σ.2.1 c j = 0) (kk : aw_W l M_X11_init G B_X11_init E 37 [(0, .ref 0)] [] (bn mo_s 0 11 [.inr 1, .inr 3, .inr 5, .inl 3, .inl 3, .inl 3, .inl 3, .inl 3, .inl 3, .inl 3, .inl 3, .inl 3, .inl 3, .inl 3, .inl 3, .inl 3, .inl 3, .inl 0, .inl 0] xl3) σ 6 2406) : aw_W l M_X11_init G B_X11_init E 26 [(0, .ref 0)] [] (bn mo_s 0 11 [.inr 1, .inr 3, .inl 3, .inl 3, .inl 3, .inl 3, .inl 3, .inl 3, .inl 3, .inl 3, .inl 3, .inl 3, .inl 3, .inl 3, .inl 3, .inl 3, .inl 3, .inl 0, .inl 0] xl2) σ 4 1604 := by
  refine aw_aload_n dX11_init_26 (q := 0) rfl ?_
  refine aw_fieldCn mo_len2 (by decide) hal rfl inlX9 tyX9_ok (aw_in_0 _ (List.mem_of_getElem? (i := 12) rfl)) (aw_in_0 _ (List.mem_of_getElem? (i := 13) rfl)) (aw_in_0 _ (List.mem_of_getElem? (i := 14) rfl)) (c1 := 9) (N := 2) rfl (born_X9_ok (fun j => h0 _ j)) (aw_in3 mo_len2 (F := fin_X9) (NW := nw_X9) (S := fun _ => σ) (c_X9_init hal (bn_last3 mo_len2) (fun c _ j => h0 c j))) yi_X9.1 (host := RX11) (by decide +kernel) yi_X9.2 rfl rfl ⟨Nat.le_of_ble_eq_true rfl, Nat.le_of_ble_eq_true rfl⟩ rfl ⟨Nat.le_of_ble_eq_true rfl, Nat.le_of_ble_eq_true rfl⟩ fi_X11_19 (fun _ => rfl) (fun _ => rfl) (Nat.le_of_ble_eq_true rfl) dX11_init_27 dX11_init_30 dX11_init_31 dX11_init_34 ?_
  exact kk
set_option maxHeartbeats 1000000 in
theorem mo_3 {l : Launch} {G : aw_G} {σ : aw_S} {E : aw_E} (hal : G.2.2.2.2) (h0 : ∀ c j, σ.1 c j = 0 ∧ σ.2.1 c j = 0) (kk : aw_W l M_X11_init G B_X11_init E 45 [(0, .ref 0)] [] (bn mo_s 0 11 [.inr 1, .inr 3, .inr 5, .inr 7, .inl 3, .inl 3, .inl 3, .inl 3, .inl 3, .inl 3, .inl 3, .inl 3, .inl 3, .inl 3, .inl 3, .inl 3, .inl 3, .inl 0, .inl 0] xl4) σ 7 2409) : aw_W l M_X11_init G B_X11_init E 37 [(0, .ref 0)] [] (bn mo_s 0 11 [.inr 1, .inr 3, .inr 5, .inl 3, .inl 3, .inl 3, .inl 3, .inl 3, .inl 3, .inl 3, .inl 3, .inl 3, .inl 3, .inl 3, .inl 3, .inl 3, .inl 3, .inl 0, .inl 0] xl3) σ 6 2406 := by
  refine aw_aload_n dX11_init_37 (q := 0) rfl ?_
  refine aw_iconst (v := nI 3) dX11_init_38 (by decide) ?_
  refine aw_newQ hal (aw_in_0 _ (List.mem_of_getElem? (i := 12) rfl)) (by decide) ⟨Nat.le_of_ble_eq_true rfl, Nat.le_of_ble_eq_true rfl⟩ dX11_init_39 ?_
  rw [bn_app, bn_len, mo_len3]
  refine aw_putC fi_X11_22 (bn_get (by decide)) (Nat.le_of_ble_eq_true rfl) rfl (fun _ => rfl) (fun _ => rfl) dX11_init_42 ?_
  rw [bn_set (by decide)]
  exact kk
set_option maxHeartbeats 1000000 in
theorem mo_4 {l : Launch} {G : aw_G} {σ : aw_S} {E : aw_E} (hal : G.2.2.2.2) (h0 : ∀ c j, σ.1 c j = 0 ∧ σ.2.1 c j = 0) (kk : aw_W l M_X11_init G B_X11_init E 56 [(0, .ref 0)] [] (bn mo_s 0 11 [.inr 1, .inr 3, .inr 5, .inr 7, .inr 8, .inl 3, .inl 3, .inl 3, .inl 3, .inl 3, .inl 3, .inl 3, .inl 3, .inl 3, .inl 3, .inl 3, .inl 3, .inl 0, .inl 0] xl5) σ 23 3987) : aw_W l M_X11_init G B_X11_init E 45 [(0, .ref 0)] [] (bn mo_s 0 11 [.inr 1, .inr 3, .inr 5, .inr 7, .inl 3, .inl 3, .inl 3, .inl 3, .inl 3, .inl 3, .inl 3, .inl 3, .inl 3, .inl 3, .inl 3, .inl 3, .inl 3, .inl 0, .inl 0] xl4) σ 7 2409 := by
  refine aw_aload_n dX11_init_45 (q := 0) rfl ?_
  refine aw_fieldCn mo_len4 (by decide) hal rfl inlX7 tyX7_ok (aw_in_0 _ (List.mem_of_getElem? (i := 19) rfl)) (aw_in_0 _ (List.mem_of_getElem? (i := 20) rfl)) (aw_in_0 _ (List.mem_of_getElem? (i := 21) rfl)) (c1 := 7) (N := 16) rfl (born_X7_ok (fun j => h0 _ j)) (aw_in3 mo_len4 (F := fin_X7) (NW := nw_X7) (S := fun _ => σ) (c_X7_init hal (bn_last3 mo_len4) (fun c _ j => h0 c j))) yi_X7.1 (host := RX11) (by decide +kernel) yi_X7.2 rfl rfl ⟨Nat.le_of_ble_eq_true rfl, Nat.le_of_ble_eq_true rfl⟩ rfl ⟨Nat.le_of_ble_eq_true rfl, Nat.le_of_ble_eq_true rfl⟩ fi_X11_29 (fun _ => rfl) (fun _ => rfl) (Nat.le_of_ble_eq_true rfl) dX11_init_46 dX11_init_49 dX11_init_50 dX11_init_53 ?_
  exact kk
set_option maxHeartbeats 1000000 in
theorem mo_5 {l : Launch} {G : aw_G} {σ : aw_S} {E : aw_E} (hal : G.2.2.2.2) (h0 : ∀ c j, σ.1 c j = 0 ∧ σ.2.1 c j = 0) (kk : aw_W l M_X11_init G B_X11_init E 67 [(0, .ref 0)] [] (bn mo_s 0 11 [.inr 1, .inr 3, .inr 5, .inr 7, .inr 8, .inr 24, .inl 3, .inl 3, .inl 3, .inl 3, .inl 3, .inl 3, .inl 3, .inl 3, .inl 3, .inl 3, .inl 3, .inl 0, .inl 0] xl6) σ 40 5631) : aw_W l M_X11_init G B_X11_init E 56 [(0, .ref 0)] [] (bn mo_s 0 11 [.inr 1, .inr 3, .inr 5, .inr 7, .inr 8, .inl 3, .inl 3, .inl 3, .inl 3, .inl 3, .inl 3, .inl 3, .inl 3, .inl 3, .inl 3, .inl 3, .inl 3, .inl 0, .inl 0] xl5) σ 23 3987 := by
  refine aw_aload_n dX11_init_56 (q := 0) rfl ?_
  refine aw_fieldCn mo_len5 (by decide) hal rfl inlX3 tyX3_ok (aw_in_0 _ (List.mem_of_getElem? (i := 23) rfl)) (aw_in_1 _ (List.mem_of_getElem? (i := 0) rfl)) (aw_in_1 _ (List.mem_of_getElem? (i := 1) rfl)) (c1 := 3) (N := 15) rfl (born_X3_ok (fun j => h0 _ j)) (aw_in3 mo_len5 (F := fin_X3) (NW := nw_X3) (S := fun _ => σ) (c_X3_init hal (bn_last3 mo_len5) (fun c _ j => h0 c j))) yi_X3.1 (host := RX11) (by decide +kernel) yi_X3.2 rfl rfl ⟨Nat.le_of_ble_eq_true rfl, Nat.le_of_ble_eq_true rfl⟩ rfl ⟨Nat.le_of_ble_eq_true rfl, Nat.le_of_ble_eq_true rfl⟩ fi_X11_36 (fun _ => rfl) (fun _ => rfl) (Nat.le_of_ble_eq_true rfl) dX11_init_57 dX11_init_60 dX11_init_61 dX11_init_64 ?_
  exact kk
set_option maxHeartbeats 1000000 in
theorem mo_6 {l : Launch} {G : aw_G} {σ : aw_S} {E : aw_E} (hal : G.2.2.2.2) (h0 : ∀ c j, σ.1 c j = 0 ∧ σ.2.1 c j = 0) (kk : aw_W l M_X11_init G B_X11_init E 78 [(0, .ref 0)] [] (bn mo_s 0 11 [.inr 1, .inr 3, .inr 5, .inr 7, .inr 8, .inr 24, .inr 41, .inl 3, .inl 3, .inl 3, .inl 3, .inl 3, .inl 3, .inl 3, .inl 3, .inl 3, .inl 3, .inl 0, .inl 0] xl7) σ 57 7569) : aw_W l M_X11_init G B_X11_init E 67 [(0, .ref 0)] [] (bn mo_s 0 11 [.inr 1, .inr 3, .inr 5, .inr 7, .inr 8, .inr 24, .inl 3, .inl 3, .inl 3, .inl 3, .inl 3, .inl 3, .inl 3, .inl 3, .inl 3, .inl 3, .inl 3, .inl 0, .inl 0] xl6) σ 40 5631 := by
  refine aw_aload_n dX11_init_67 (q := 0) rfl ?_
  refine aw_fieldCn mo_len6 (by decide) hal rfl inlX1 tyX1_ok (aw_in_1 _ (List.mem_of_getElem? (i := 3) rfl)) (aw_in_1 _ (List.mem_of_getElem? (i := 4) rfl)) (aw_in_1 _ (List.mem_of_getElem? (i := 5) rfl)) (c1 := 1) (N := 14) rfl (born_X1_ok (fun j => h0 _ j)) (aw_in3 mo_len6 (F := fin_X1) (NW := nw_X1) (S := fun _ => σ) (c_X1_init hal (bn_last3 mo_len6) (fun c _ j => h0 c j))) yi_X1.1 (host := RX11) (by decide +kernel) yi_X1.2 rfl rfl ⟨Nat.le_of_ble_eq_true rfl, Nat.le_of_ble_eq_true rfl⟩ rfl ⟨Nat.le_of_ble_eq_true rfl, Nat.le_of_ble_eq_true rfl⟩ fi_X11_43 (fun _ => rfl) (fun _ => rfl) (Nat.le_of_ble_eq_true rfl) dX11_init_68 dX11_init_71 dX11_init_72 dX11_init_75 ?_
  exact kk
set_option maxHeartbeats 1000000 in
theorem mo_7 {l : Launch} {G : aw_G} {σ : aw_S} {E : aw_E} (hal : G.2.2.2.2) (h0 : ∀ c j, σ.1 c j = 0 ∧ σ.2.1 c j = 0) (kk : aw_W l M_X11_init G B_X11_init E 89 [(0, .ref 0)] [] (bn mo_s 0 11 [.inr 1, .inr 3, .inr 5, .inr 7, .inr 8, .inr 24, .inr 41, .inr 58, .inl 3, .inl 3, .inl 3, .inl 3, .inl 3, .inl 3, .inl 3, .inl 3, .inl 3, .inl 0, .inl 0] xl8) σ 62 8086) : aw_W l M_X11_init G B_X11_init E 78 [(0, .ref 0)] [] (bn mo_s 0 11 [.inr 1, .inr 3, .inr 5, .inr 7, .inr 8, .inr 24, .inr 41, .inl 3, .inl 3, .inl 3, .inl 3, .inl 3, .inl 3, .inl 3, .inl 3, .inl 3, .inl 3, .inl 0, .inl 0] xl7) σ 57 7569 := by
  refine aw_aload_n dX11_init_78 (q := 0) rfl ?_
  refine aw_fieldCn mo_len7 (by decide) hal rfl inlX4 tyX4_ok (aw_in_1 _ (List.mem_of_getElem? (i := 7) rfl)) (aw_in_1 _ (List.mem_of_getElem? (i := 8) rfl)) (aw_in_1 _ (List.mem_of_getElem? (i := 9) rfl)) (c1 := 4) (N := 5) rfl (born_X4_ok (fun j => h0 _ j)) (aw_in3 mo_len7 (F := fin_X4) (NW := nw_X4) (S := fun _ => σ) (c_X4_init hal (bn_last3 mo_len7) (fun c _ j => h0 c j))) yi_X4.1 (host := RX11) (by decide +kernel) yi_X4.2 rfl rfl ⟨Nat.le_of_ble_eq_true rfl, Nat.le_of_ble_eq_true rfl⟩ rfl ⟨Nat.le_of_ble_eq_true rfl, Nat.le_of_ble_eq_true rfl⟩ fi_X11_50 (fun _ => rfl) (fun _ => rfl) (Nat.le_of_ble_eq_true rfl) dX11_init_79 dX11_init_82 dX11_init_83 dX11_init_86 ?_
  exact kk
set_option maxHeartbeats 1000000 in
theorem mo_8 {l : Launch} {G : aw_G} {σ : aw_S} {E : aw_E} (hal : G.2.2.2.2) (h0 : ∀ c j, σ.1 c j = 0 ∧ σ.2.1 c j = 0) (kk : aw_W l M_X11_init G B_X11_init E 100 [(0, .ref 0)] [] (bn mo_s 0 11 [.inr 1, .inr 3, .inr 5, .inr 7, .inr 8, .inr 24, .inr 41, .inr 58, .inr 63, .inl 3, .inl 3, .inl 3, .inl 3, .inl 3, .inl 3, .inl 3, .inl 3, .inl 0, .inl 0] xl9) σ 68 8524) : aw_W l M_X11_init G B_X11_init E 89 [(0, .ref 0)] [] (bn mo_s 0 11 [.inr 1, .inr 3, .inr 5, .inr 7, .inr 8, .inr 24, .inr 41, .inr 58, .inl 3, .inl 3, .inl 3, .inl 3, .inl 3, .inl 3, .inl 3, .inl 3, .inl 3, .inl 0, .inl 0] xl8) σ 62 8086 := by
  refine aw_aload_n dX11_init_89 (q := 0) rfl ?_
  refine aw_fieldCn mo_len8 (by decide) hal rfl inlX6 tyX6_ok (aw_in_1 _ (List.mem_of_getElem? (i := 11) rfl)) (aw_in_1 _ (List.mem_of_getElem? (i := 12) rfl)) (aw_in_1 _ (List.mem_of_getElem? (i := 13) rfl)) (c1 := 6) (N := 6) rfl (born_X6_ok (fun j => h0 _ j)) (aw_in3 mo_len8 (F := fin_X6) (NW := nw_X6) (S := fun _ => σ) (c_X6_init hal (bn_last3 mo_len8) (fun c _ j => h0 c j))) yi_X6.1 (host := RX11) (by decide +kernel) yi_X6.2 rfl rfl ⟨Nat.le_of_ble_eq_true rfl, Nat.le_of_ble_eq_true rfl⟩ rfl ⟨Nat.le_of_ble_eq_true rfl, Nat.le_of_ble_eq_true rfl⟩ fi_X11_57 (fun _ => rfl) (fun _ => rfl) (Nat.le_of_ble_eq_true rfl) dX11_init_90 dX11_init_93 dX11_init_94 dX11_init_97 ?_
  exact kk
set_option maxHeartbeats 1000000 in
theorem mo_9 {l : Launch} {G : aw_G} {σ : aw_S} {E : aw_E} (hal : G.2.2.2.2) (h0 : ∀ c j, σ.1 c j = 0 ∧ σ.2.1 c j = 0) (kk : aw_W l M_X11_init G B_X11_init E 111 [(0, .ref 0)] [] (bn mo_s 0 11 [.inr 1, .inr 3, .inr 5, .inr 7, .inr 8, .inr 24, .inr 41, .inr 58, .inr 63, .inr 69, .inl 3, .inl 3, .inl 3, .inl 3, .inl 3, .inl 3, .inl 3, .inl 0, .inl 0] xl10) σ 74 8962) : aw_W l M_X11_init G B_X11_init E 100 [(0, .ref 0)] [] (bn mo_s 0 11 [.inr 1, .inr 3, .inr 5, .inr 7, .inr 8, .inr 24, .inr 41, .inr 58, .inr 63, .inl 3, .inl 3, .inl 3, .inl 3, .inl 3, .inl 3, .inl 3, .inl 3, .inl 0, .inl 0] xl9) σ 68 8524 := by
  refine aw_aload_n dX11_init_100 (q := 0) rfl ?_
  refine aw_fieldCn mo_len9 (by decide) hal rfl inlX6 tyX6_ok (aw_in_1 _ (List.mem_of_getElem? (i := 11) rfl)) (aw_in_1 _ (List.mem_of_getElem? (i := 12) rfl)) (aw_in_1 _ (List.mem_of_getElem? (i := 13) rfl)) (c1 := 6) (N := 6) rfl (born_X6_ok (fun j => h0 _ j)) (aw_in3 mo_len9 (F := fin_X6) (NW := nw_X6) (S := fun _ => σ) (c_X6_init hal (bn_last3 mo_len9) (fun c _ j => h0 c j))) yi_X6.1 (host := RX11) (by decide +kernel) yi_X6.2 rfl rfl ⟨Nat.le_of_ble_eq_true rfl, Nat.le_of_ble_eq_true rfl⟩ rfl ⟨Nat.le_of_ble_eq_true rfl, Nat.le_of_ble_eq_true rfl⟩ fi_X11_61 (fun _ => rfl) (fun _ => rfl) (Nat.le_of_ble_eq_true rfl) dX11_init_101 dX11_init_104 dX11_init_105 dX11_init_108 ?_
  exact kk
set_option maxHeartbeats 1000000 in
theorem mo_10 {l : Launch} {G : aw_G} {σ : aw_S} {E : aw_E} (hal : G.2.2.2.2) (h0 : ∀ c j, σ.1 c j = 0 ∧ σ.2.1 c j = 0) (kk : aw_W l M_X11_init G B_X11_init E 122 [(0, .ref 0)] [] (bn mo_s 0 11 [.inr 1, .inr 3, .inr 5, .inr 7, .inr 8, .inr 24, .inr 41, .inr 58, .inr 63, .inr 69, .inr 75, .inl 3, .inl 3, .inl 3, .inl 3, .inl 3, .inl 3, .inl 0, .inl 0] xl11) σ 80 9400) : aw_W l M_X11_init G B_X11_init E 111 [(0, .ref 0)] [] (bn mo_s 0 11 [.inr 1, .inr 3, .inr 5, .inr 7, .inr 8, .inr 24, .inr 41, .inr 58, .inr 63, .inr 69, .inl 3, .inl 3, .inl 3, .inl 3, .inl 3, .inl 3, .inl 3, .inl 0, .inl 0] xl10) σ 74 8962 := by
  refine aw_aload_n dX11_init_111 (q := 0) rfl ?_
  refine aw_fieldCn mo_len10 (by decide) hal rfl inlX6 tyX6_ok (aw_in_1 _ (List.mem_of_getElem? (i := 11) rfl)) (aw_in_1 _ (List.mem_of_getElem? (i := 12) rfl)) (aw_in_1 _ (List.mem_of_getElem? (i := 13) rfl)) (c1 := 6) (N := 6) rfl (born_X6_ok (fun j => h0 _ j)) (aw_in3 mo_len10 (F := fin_X6) (NW := nw_X6) (S := fun _ => σ) (c_X6_init hal (bn_last3 mo_len10) (fun c _ j => h0 c j))) yi_X6.1 (host := RX11) (by decide +kernel) yi_X6.2 rfl rfl ⟨Nat.le_of_ble_eq_true rfl, Nat.le_of_ble_eq_true rfl⟩ rfl ⟨Nat.le_of_ble_eq_true rfl, Nat.le_of_ble_eq_true rfl⟩ fi_X11_64 (fun _ => rfl) (fun _ => rfl) (Nat.le_of_ble_eq_true rfl) dX11_init_112 dX11_init_115 dX11_init_116 dX11_init_119 ?_
  exact kk
set_option maxHeartbeats 1000000 in
theorem mo_11 {l : Launch} {G : aw_G} {σ : aw_S} {E : aw_E} (hal : G.2.2.2.2) (h0 : ∀ c j, σ.1 c j = 0 ∧ σ.2.1 c j = 0) (kk : aw_W l M_X11_init G B_X11_init E 130 [(0, .ref 0)] [] (bn mo_s 0 11 [.inr 1, .inr 3, .inr 5, .inr 7, .inr 8, .inr 24, .inr 41, .inr 58, .inr 63, .inr 69, .inr 75, .inr 81, .inl 3, .inl 3, .inl 3, .inl 3, .inl 3, .inl 0, .inl 0] xl12) σ 81 9426) : aw_W l M_X11_init G B_X11_init E 122 [(0, .ref 0)] [] (bn mo_s 0 11 [.inr 1, .inr 3, .inr 5, .inr 7, .inr 8, .inr 24, .inr 41, .inr 58, .inr 63, .inr 69, .inr 75, .inl 3, .inl 3, .inl 3, .inl 3, .inl 3, .inl 3, .inl 0, .inl 0] xl11) σ 80 9400 := by
  refine aw_aload_n dX11_init_122 (q := 0) rfl ?_
  refine aw_bipush (v := nI 26) dX11_init_123 (by decide) ?_
  refine aw_newI hal (aw_in_1 _ (List.mem_of_getElem? (i := 17) rfl)) rfl (Or.inl ⟨rfl, rfl⟩) (fun j => h0 _ j) (by decide) ⟨Nat.le_of_ble_eq_true rfl, Nat.le_of_ble_eq_true rfl⟩ dX11_init_125 ?_
  rw [bn_app, bn_len, mo_len11]
  refine aw_putC fi_X11_67 (bn_get (by decide)) (Nat.le_of_ble_eq_true rfl) rfl (fun _ => rfl) (fun _ => rfl) dX11_init_127 ?_
  rw [bn_set (by decide)]
  exact kk
set_option maxHeartbeats 1000000 in
theorem mo_12 {l : Launch} {G : aw_G} {σ : aw_S} {E : aw_E} (hal : G.2.2.2.2) (h0 : ∀ c j, σ.1 c j = 0 ∧ σ.2.1 c j = 0) (kk : aw_W l M_X11_init G B_X11_init E 141 [(0, .ref 0)] [] (bn mo_s 0 11 [.inr 1, .inr 3, .inr 5, .inr 7, .inr 8, .inr 24, .inr 41, .inr 58, .inr 63, .inr 69, .inr 75, .inr 81, .inr 82, .inl 3, .inl 3, .inl 3, .inl 3, .inl 0, .inl 0] xl13) σ 86 9550) : aw_W l M_X11_init G B_X11_init E 130 [(0, .ref 0)] [] (bn mo_s 0 11 [.inr 1, .inr 3, .inr 5, .inr 7, .inr 8, .inr 24, .inr 41, .inr 58, .inr 63, .inr 69, .inr 75, .inr 81, .inl 3, .inl 3, .inl 3, .inl 3, .inl 3, .inl 0, .inl 0] xl12) σ 81 9426 := by
  refine aw_aload_n dX11_init_130 (q := 0) rfl ?_
  refine aw_fieldCn mo_len12 (by decide) hal rfl inlX8 tyX8_ok (aw_in_1 _ (List.mem_of_getElem? (i := 19) rfl)) (aw_in_1 _ (List.mem_of_getElem? (i := 20) rfl)) (aw_in_1 _ (List.mem_of_getElem? (i := 21) rfl)) (c1 := 8) (N := 10) rfl (born_X8_ok (fun j => h0 _ j)) (aw_in3 mo_len12 (F := fin_X8) (NW := nw_X8) (S := fun _ => σ) (c_X8_init hal (bn_last3 mo_len12) (fun c _ j => h0 c j))) yi_X8.1 (host := RX11) (by decide +kernel) yi_X8.2 rfl rfl ⟨Nat.le_of_ble_eq_true rfl, Nat.le_of_ble_eq_true rfl⟩ rfl ⟨Nat.le_of_ble_eq_true rfl, Nat.le_of_ble_eq_true rfl⟩ fi_X11_74 (fun _ => rfl) (fun _ => rfl) (Nat.le_of_ble_eq_true rfl) dX11_init_131 dX11_init_134 dX11_init_135 dX11_init_138 ?_
  exact kk
set_option maxHeartbeats 1000000 in
theorem mo_13 {l : Launch} {G : aw_G} {σ : aw_S} {E : aw_E} (hal : G.2.2.2.2) (h0 : ∀ c j, σ.1 c j = 0 ∧ σ.2.1 c j = 0) (kk : aw_W l M_X11_init G B_X11_init E 152 [(0, .ref 0)] [] (bn mo_s 0 11 [.inr 1, .inr 3, .inr 5, .inr 7, .inr 8, .inr 24, .inr 41, .inr 58, .inr 63, .inr 69, .inr 75, .inr 81, .inr 82, .inr 87, .inl 3, .inl 3, .inl 3, .inl 0, .inl 0] xl14) σ 91 9674) : aw_W l M_X11_init G B_X11_init E 141 [(0, .ref 0)] [] (bn mo_s 0 11 [.inr 1, .inr 3, .inr 5, .inr 7, .inr 8, .inr 24, .inr 41, .inr 58, .inr 63, .inr 69, .inr 75, .inr 81, .inr 82, .inl 3, .inl 3, .inl 3, .inl 3, .inl 0, .inl 0] xl13) σ 86 9550 := by
  refine aw_aload_n dX11_init_141 (q := 0) rfl ?_
  refine aw_fieldCn mo_len13 (by decide) hal rfl inlX8 tyX8_ok (aw_in_1 _ (List.mem_of_getElem? (i := 19) rfl)) (aw_in_1 _ (List.mem_of_getElem? (i := 20) rfl)) (aw_in_1 _ (List.mem_of_getElem? (i := 21) rfl)) (c1 := 8) (N := 10) rfl (born_X8_ok (fun j => h0 _ j)) (aw_in3 mo_len13 (F := fin_X8) (NW := nw_X8) (S := fun _ => σ) (c_X8_init hal (bn_last3 mo_len13) (fun c _ j => h0 c j))) yi_X8.1 (host := RX11) (by decide +kernel) yi_X8.2 rfl rfl ⟨Nat.le_of_ble_eq_true rfl, Nat.le_of_ble_eq_true rfl⟩ rfl ⟨Nat.le_of_ble_eq_true rfl, Nat.le_of_ble_eq_true rfl⟩ fi_X11_78 (fun _ => rfl) (fun _ => rfl) (Nat.le_of_ble_eq_true rfl) dX11_init_142 dX11_init_145 dX11_init_146 dX11_init_149 ?_
  exact kk
set_option maxHeartbeats 1000000 in
theorem mo_14 {l : Launch} {G : aw_G} {σ : aw_S} {E : aw_E} (hal : G.2.2.2.2) (h0 : ∀ c j, σ.1 c j = 0 ∧ σ.2.1 c j = 0) (kk : aw_W l M_X11_init G B_X11_init E 163 [(0, .ref 0)] [] (bn mo_s 0 11 [.inr 1, .inr 3, .inr 5, .inr 7, .inr 8, .inr 24, .inr 41, .inr 58, .inr 63, .inr 69, .inr 75, .inr 81, .inr 82, .inr 87, .inr 92, .inl 3, .inl 3, .inl 0, .inl 0] xl15) σ 96 9798) : aw_W l M_X11_init G B_X11_init E 152 [(0, .ref 0)] [] (bn mo_s 0 11 [.inr 1, .inr 3, .inr 5, .inr 7, .inr 8, .inr 24, .inr 41, .inr 58, .inr 63, .inr 69, .inr 75, .inr 81, .inr 82, .inr 87, .inl 3, .inl 3, .inl 3, .inl 0, .inl 0] xl14) σ 91 9674 := by
  refine aw_aload_n dX11_init_152 (q := 0) rfl ?_
  refine aw_fieldCn mo_len14 (by decide) hal rfl inlX8 tyX8_ok (aw_in_1 _ (List.mem_of_getElem? (i := 19) rfl)) (aw_in_1 _ (List.mem_of_getElem? (i := 20) rfl)) (aw_in_1 _ (List.mem_of_getElem? (i := 21) rfl)) (c1 := 8) (N := 10) rfl (born_X8_ok (fun j => h0 _ j)) (aw_in3 mo_len14 (F := fin_X8) (NW := nw_X8) (S := fun _ => σ) (c_X8_init hal (bn_last3 mo_len14) (fun c _ j => h0 c j))) yi_X8.1 (host := RX11) (by decide +kernel) yi_X8.2 rfl rfl ⟨Nat.le_of_ble_eq_true rfl, Nat.le_of_ble_eq_true rfl⟩ rfl ⟨Nat.le_of_ble_eq_true rfl, Nat.le_of_ble_eq_true rfl⟩ fi_X11_81 (fun _ => rfl) (fun _ => rfl) (Nat.le_of_ble_eq_true rfl) dX11_init_153 dX11_init_156 dX11_init_157 dX11_init_160 ?_
  exact kk
set_option maxHeartbeats 1000000 in
theorem mo_15 {l : Launch} {G : aw_G} {σ : aw_S} {E : aw_E} (hal : G.2.2.2.2) (h0 : ∀ c j, σ.1 c j = 0 ∧ σ.2.1 c j = 0) (hr : ∀ c j, σ.2.2 c j = none) (kk : aw_W l M_X11_init G B_X11_init E 174 [(0, .ref 0)] [] (bn mo_s 0 11 [.inr 1, .inr 3, .inr 5, .inr 7, .inr 8, .inr 24, .inr 41, .inr 58, .inr 63, .inr 69, .inr 75, .inr 81, .inr 82, .inr 87, .inr 92, .inr 97, .inl 3, .inl 0, .inl 0] xl16) (aw_sR (aw_sR (aw_sR (aw_sR (aw_sR (aw_sR σ 97 1 (some (99))) 97 2 (some (100))) 97 3 (some (101))) 97 4 (some (102))) 97 5 (some (103))) 97 6 (some (104))) 104 10704) : aw_W l M_X11_init G B_X11_init E 163 [(0, .ref 0)] [] (bn mo_s 0 11 [.inr 1, .inr 3, .inr 5, .inr 7, .inr 8, .inr 24, .inr 41, .inr 58, .inr 63, .inr 69, .inr 75, .inr 81, .inr 82, .inr 87, .inr 92, .inl 3, .inl 3, .inl 0, .inl 0] xl15) σ 96 9798 := by
  refine aw_aload_n dX11_init_163 (q := 0) rfl ?_
  refine aw_fieldCn mo_len15 (by decide) hal rfl inlX10 tyX10_ok (aw_in_2 _ (List.mem_of_getElem? (i := 1) rfl)) (aw_in_2 _ (List.mem_of_getElem? (i := 2) rfl)) (aw_in_2 _ (List.mem_of_getElem? (i := 3) rfl)) (c1 := 10) (N := 10) rfl (born_X10_ok (fun j => h0 _ j) (fun j => hr _ j)) (aw_in3 mo_len15 (F := fin_X10) (NW := nw_X10) (S := fun k => (aw_sR (aw_sR (aw_sR (aw_sR (aw_sR (aw_sR σ 97 1 (some (k + 1))) 97 2 (some (k + 2))) 97 3 (some (k + 3))) 97 4 (some (k + 4))) 97 5 (some (k + 5))) 97 6 (some (k + 6)))) (c_X10_init hal (bn_last3 mo_len15) (fun c _ j => h0 c j))) yi_X10.1 (host := RX11) (by decide +kernel) yi_X10.2 rfl rfl ⟨Nat.le_of_ble_eq_true rfl, Nat.le_of_ble_eq_true rfl⟩ rfl ⟨Nat.le_of_ble_eq_true rfl, Nat.le_of_ble_eq_true rfl⟩ fi_X11_87 (fun _ => rfl) (fun _ => rfl) (Nat.le_of_ble_eq_true rfl) dX11_init_164 dX11_init_167 dX11_init_168 dX11_init_171 ?_
  exact kk
set_option maxHeartbeats 1000000 in
theorem mo_16 {l : Launch} {G : aw_G} {σ : aw_S} {E : aw_E} (hal : G.2.2.2.2) (h0 : ∀ c j, σ.1 c j = 0 ∧ σ.2.1 c j = 0) (kk : aw_W l M_X11_init G B_X11_init E 185 [(0, .ref 0)] [] (bn mo_s 0 11 [.inr 1, .inr 3, .inr 5, .inr 7, .inr 8, .inr 24, .inr 41, .inr 58, .inr 63, .inr 69, .inr 75, .inr 81, .inr 82, .inr 87, .inr 92, .inr 97, .inr 105, .inl 0, .inl 0] xl17) σ 135 10897) : aw_W l M_X11_init G B_X11_init E 174 [(0, .ref 0)] [] (bn mo_s 0 11 [.inr 1, .inr 3, .inr 5, .inr 7, .inr 8, .inr 24, .inr 41, .inr 58, .inr 63, .inr 69, .inr 75, .inr 81, .inr 82, .inr 87, .inr 92, .inr 97, .inl 3, .inl 0, .inl 0] xl16) σ 104 10704 := by
  refine aw_aload_n dX11_init_174 (q := 0) rfl ?_
  refine aw_fieldCn mo_len16 (by decide) hal rfl inlX5 tyX5_ok (aw_in_2 _ (List.mem_of_getElem? (i := 5) rfl)) (aw_in_2 _ (List.mem_of_getElem? (i := 6) rfl)) (aw_in_2 _ (List.mem_of_getElem? (i := 7) rfl)) (c1 := 5) (N := 13) rfl (born_X5_ok (fun j => h0 _ j)) (aw_in3 mo_len16 (F := fin_X5) (NW := nw_X5) (S := fun _ => σ) (c_X5_init hal (bn_last3 mo_len16) (fun c _ j => h0 c j))) yi_X5.1 (host := RX11) (by decide +kernel) yi_X5.2 rfl rfl ⟨Nat.le_of_ble_eq_true rfl, Nat.le_of_ble_eq_true rfl⟩ rfl ⟨Nat.le_of_ble_eq_true rfl, Nat.le_of_ble_eq_true rfl⟩ fi_X11_94 (fun _ => rfl) (fun _ => rfl) (Nat.le_of_ble_eq_true rfl) dX11_init_175 dX11_init_178 dX11_init_179 dX11_init_182 ?_
  exact kk
set_option maxHeartbeats 1000000 in
theorem mo_17 {l : Launch} {G : aw_G} {σ : aw_S} {E : aw_E} (hal : G.2.2.2.2) (h0 : ∀ c j, σ.1 c j = 0 ∧ σ.2.1 c j = 0) (kk : aw_W l M_X11_init G B_X11_init E 190 [(0, .ref 0)] [] (bn mo_s 0 11 [.inr 1, .inr 3, .inr 5, .inr 7, .inr 8, .inr 24, .inr 41, .inr 58, .inr 63, .inr 69, .inr 75, .inr 81, .inr 82, .inr 87, .inr 92, .inr 97, .inr 105, .inl 0, .inl 0] xl17) (aw_sI σ 0 17 (-1)) 135 10897) : aw_W l M_X11_init G B_X11_init E 185 [(0, .ref 0)] [] (bn mo_s 0 11 [.inr 1, .inr 3, .inr 5, .inr 7, .inr 8, .inr 24, .inr 41, .inr 58, .inr 63, .inr 69, .inr 75, .inr 81, .inr 82, .inr 87, .inr 92, .inr 97, .inr 105, .inl 0, .inl 0] xl17) σ 135 10897 := by
  refine aw_aload_n dX11_init_185 (q := 0) rfl ?_
  refine aw_iconst (v := -1) dX11_init_186 (by decide) ?_
  refine aw_putI fi_X11_98 (bn_get (by decide)) rfl (fun _ => rfl) (fun _ => rfl) dX11_init_187 ?_
  exact kk
/-- its cells, ahead of the three texts -/
def xS : List aw_H := bn mo_s 0 11 [.inr 1, .inr 3, .inr 5, .inr 7, .inr 8, .inr 24, .inr 41, .inr 58, .inr 63, .inr 69, .inr 75, .inr 81, .inr 82, .inr 87, .inr 92, .inr 97, .inr 105, .inl 0, .inl 0] xl17
theorem mo_first {l : Launch} {G : aw_G} {σ : aw_S} {E : aw_E} (hal : G.2.2.2.2) (h0 : ∀ c j, σ.1 c j = 0 ∧ σ.2.1 c j = 0) (hr : ∀ c j, σ.2.2 c j = none) (kk : aw_W l M_X11_init G B_X11_init E 190 [(0, .ref 0)] [] xS (aw_sI (aw_sR (aw_sR (aw_sR (aw_sR (aw_sR (aw_sR σ 97 1 (some (99))) 97 2 (some (100))) 97 3 (some (101))) 97 4 (some (102))) 97 5 (some (103))) 97 6 (some (104))) 0 17 (-1)) 135 10897) : aw_W l M_X11_init G B_X11_init E 0 [(0, .ref 0)] [] mo_s σ 0 0 := by
  refine aw_aload_n dX11_init_0 (q := 0) rfl ?_
  refine aw_oinit (aw_in_0 _ (List.mem_of_getElem? (i := 9) rfl)) (aw_in_0 _ (List.mem_of_getElem? (i := 10) rfl)) (aw_in_0 _ (List.mem_of_getElem? (i := 11) rfl)) ⟨Nat.le_of_ble_eq_true rfl, Nat.le_of_ble_eq_true rfl⟩ dX11_init_1 ?_
  show aw_W l M_X11_init G B_X11_init E 4 [(0, .ref 0)] [] mo_s σ 0 0
  have e : bn mo_s 0 11 born_X11 xl0 = mo_s := rfl
  rw [← e]
  refine mo_0 hal h0 ?_
  refine mo_1 hal h0 ?_
  refine mo_2 hal h0 ?_
  refine mo_3 hal h0 ?_
  refine mo_4 hal h0 ?_
  refine mo_5 hal h0 ?_
  refine mo_6 hal h0 ?_
  refine mo_7 hal h0 ?_
  refine mo_8 hal h0 ?_
  refine mo_9 hal h0 ?_
  refine mo_10 hal h0 ?_
  refine mo_11 hal h0 ?_
  refine mo_12 hal h0 ?_
  refine mo_13 hal h0 ?_
  refine mo_14 hal h0 ?_
  refine mo_15 hal h0 hr ?_
  refine mo_16 hal (fun c j => ⟨(h0 c j).1, (h0 c j).2⟩) ?_
  refine mo_17 hal (fun c j => ⟨(h0 c j).1, (h0 c j).2⟩) ?_
  exact kk
/-- the cells as they end, but for the row of texts -/
def xAf (f : Nat → Option Nat) : List aw_H := List.set (xS ++ (mo_t 136 ++ (mo_t 138 ++ mo_t 140))) 7 (.inr (5, 3, f))
set_option maxRecDepth 100000 in
theorem xAf_ok : xA = xAf aw_kept := rfl
theorem xS_len : xS.length = 136 := by decide +kernel
theorem mo_kept : aw_kept = mo_f (mo_f (mo_f aw_no 136 0) 138 1) 140 2 := by
  funext j
  unfold mo_f
  by_cases h2 : j = 2
  · subst h2; rfl
  · by_cases h1 : j = 1
    · subst h1; rfl
    · by_cases h0 : j = 0
      · subst h0; rfl
      · unfold aw_kept
        rw [if_neg h2, if_neg h1, if_neg h0, if_neg (by omega)]
        rfl
abbrev mo_g (σ : aw_S) : aw_S := (aw_sI (aw_sR (aw_sR (aw_sR (aw_sR (aw_sR (aw_sR σ 97 1 (some (99))) 97 2 (some (100))) 97 3 (some (101))) 97 4 (some (102))) 97 5 (some (103))) 97 6 (some (104))) 0 17 (-1))
set_option maxRecDepth 100000 in
theorem mo_last : mo_add (mo_add (mo_add xS 136 0 aw_no) 138 1 (mo_f aw_no 136 0)) 140 2 (mo_f (mo_f aw_no 136 0) 138 1) = xA := by
  rw [xAf_ok, mo_kept]
  rfl
set_option maxHeartbeats 4000000 in
theorem c_X11_init {l : Launch} {G : aw_G} {σ : aw_S} (hal : G.2.2.2.2) (h0 : ∀ c j, σ.1 c j = 0 ∧ σ.2.1 c j = 0) (hr : ∀ c j, σ.2.2 c j = none) : aw_Ct l yX11_init M_X11_init G B_X11_init [.ref 0] [.inl (11, born_X11)] σ (none, xA, mo_g σ) := by
  refine aw_Ct_of (by decide) rfl (fun _ => rfl) (Nat.le_of_ble_eq_true rfl) ?_
  show aw_W l M_X11_init G B_X11_init (none, xA, mo_g σ) 0 [(0, .ref 0)] [] mo_s σ 0 0
  refine mo_first hal h0 hr ?_
  have hz : ∀ c, 136 ≤ c → ∀ j, (mo_g σ).1 c j = 0 ∧ (mo_g σ).2.1 c j = 0 := fun c hc j => ⟨(congrFun (ao_sI_o (show c ≠ 0 by omega)) j).trans (h0 c j).1, (h0 c j).2⟩
  refine aw_iconst (pc := 190) (v := nI 0) dX11_init_190 (by decide) ?_
  refine aw_istore_n (pc := 191) [(1, .int (nI 0)), (0, .ref 0)] dX11_init_191 (by decide) rfl ?_
  have e0 : xS[0]? = some (.inl (11, [.inr 1, .inr 3, .inr 5, .inr 7, .inr 8, .inr 24, .inr 41, .inr 58, .inr 63, .inr 69, .inr 75, .inr 81, .inr 82, .inr 87, .inr 92, .inr 97, .inr 105, .inl 0, .inl 0])) := rfl
  have e7 : xS[7]? = some (.inr (5, 3, aw_no)) := rfl
  refine mo_turn (k := 0) (n := 136) (by decide) xS_len hal e0 rfl e7 (fun c hc j => hz c hc j) ⟨Nat.le_of_ble_eq_true rfl, Nat.le_of_ble_eq_true rfl⟩ ?_
  refine mo_turn (k := 1) (n := 138) (by decide) (by rw [mo_add_len, xS_len]) hal (mo_add_0 e0) rfl (mo_add_7 e7) (fun c hc j => hz c (by omega) j) ⟨Nat.le_of_ble_eq_true rfl, Nat.le_of_ble_eq_true rfl⟩ ?_
  refine mo_turn (k := 2) (n := 140) (by decide) (by rw [mo_add_len, mo_add_len, xS_len]) hal (mo_add_0 (mo_add_0 e0)) rfl (mo_add_7 (mo_add_7 e7)) (fun c hc j => hz c (by omega) j) ⟨Nat.le_of_ble_eq_true rfl, Nat.le_of_ble_eq_true rfl⟩ ?_
  rw [mo_last]
  refine aw_iload_n dX11_init_192 (q := 0) rfl ?_
  refine aw_iconst (v := 3) dX11_init_193 (by decide) ?_
  refine aw_icmp_ge (pc := 194) (tgt := 216) dX11_init_194 (by decide) (fun _ => ?_) (fun c2 => absurd (by decide) c2)
  exact aw_vret rfl ⟨Nat.le_of_ble_eq_true rfl, Nat.le_of_ble_eq_true rfl⟩ dX11_init_216

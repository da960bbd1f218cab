/-! ===== CONSTRUCTORS ===== -/
/-! LateMover$Others -/
theorem fi_X5_13 : aw_Fd RX5 13 5 0 (.array (.array .int)) true := ⟨RX5, TX5, 13, tyX5, rfl, by decide, inlX5, tyX5_ok, nmX5, aw_in_6 _ (List.mem_of_getElem? (i := 22) rfl), rfl, rfl, (fun _ => rfl)⟩
theorem fi_X5_16 : aw_Fd RX5 16 5 1 (.array .int) true := ⟨RX5, TX5, 13, tyX5, rfl, by decide, inlX5, tyX5_ok, nmX5, aw_in_6 _ (List.mem_of_getElem? (i := 23) rfl), rfl, rfl, (fun _ => rfl)⟩
theorem fi_X5_20 : aw_Fd RX5 20 5 2 (.array .int) true := ⟨RX5, TX5, 13, tyX5, rfl, by decide, inlX5, tyX5_ok, nmX5, aw_in_7 _ (List.mem_of_getElem? (i := 0) rfl), rfl, rfl, (fun _ => rfl)⟩
theorem fi_X5_23 : aw_Fd RX5 23 5 3 (.array .int) true := ⟨RX5, TX5, 13, tyX5, rfl, by decide, inlX5, tyX5_ok, nmX5, aw_in_7 _ (List.mem_of_getElem? (i := 1) rfl), rfl, rfl, (fun _ => rfl)⟩
theorem fi_X5_26 : aw_Fd RX5 26 5 4 (.array .int) true := ⟨RX5, TX5, 13, tyX5, rfl, by decide, inlX5, tyX5_ok, nmX5, aw_in_7 _ (List.mem_of_getElem? (i := 2) rfl), rfl, rfl, (fun _ => rfl)⟩
theorem fi_X5_29 : aw_Fd RX5 29 5 5 (.array .int) true := ⟨RX5, TX5, 13, tyX5, rfl, by decide, inlX5, tyX5_ok, nmX5, aw_in_7 _ (List.mem_of_getElem? (i := 3) rfl), rfl, rfl, (fun _ => rfl)⟩
def born_X5 : List aw_F := [.inl 3, .inl 3, .inl 3, .inl 3, .inl 3, .inl 3, .inl 0, .inl 0, .inl 0, .inl 0, .inl 0, .inl 0, .inl 0]
def fin_X5 (n : Nat) : List aw_F := [.inr (n + 0), .inr (n + 25), .inr (n + 26), .inr (n + 27), .inr (n + 28), .inr (n + 29), .inl 0, .inl 0, .inl 0, .inl 0, .inl 0, .inl 0, .inl 0]
def nw_X5 (n : Nat) : List aw_H := [.inr (4, 24, fun j => if j < 24 then some (n + 0 + 1 + j) else none), .inr (0, 4, aw_no), .inr (0, 4, aw_no), .inr (0, 4, aw_no), .inr (0, 4, aw_no), .inr (0, 4, aw_no), .inr (0, 4, aw_no), .inr (0, 4, aw_no), .inr (0, 4, aw_no), .inr (0, 4, aw_no), .inr (0, 4, aw_no), .inr (0, 4, aw_no), .inr (0, 4, aw_no), .inr (0, 4, aw_no), .inr (0, 4, aw_no), .inr (0, 4, aw_no), .inr (0, 4, aw_no), .inr (0, 4, aw_no), .inr (0, 4, aw_no), .inr (0, 4, aw_no), .inr (0, 4, aw_no), .inr (0, 4, aw_no), .inr (0, 4, aw_no), .inr (0, 4, aw_no), .inr (0, 4, aw_no), .inr (0, 12, aw_no), .inr (0, 12, aw_no), .inr (0, 12, aw_no), .inr (0, 12, aw_no), .inr (0, 12, aw_no)]
abbrev M_X5_init : aw_M := (RX5, cX5_init, 1, none, true)
abbrev B_X5_init : aw_B := (1, 12, 30, 180)
theorem yi_X5 : aw_Y yX5_init M_X5_init 0 ∧ Cond.instanceMethod yX5_init ∈ wsL_law := ⟨⟨aw_in_6 _ (List.mem_of_getElem? (i := 19) rfl), aw_in_2 _ (List.mem_of_getElem? (i := 7) rfl), by decide +kernel, by decide +kernel, by decide +kernel⟩, aw_in_6 _ (List.mem_of_getElem? (i := 18) rfl)⟩
theorem born_X5_ok {σ : aw_S} {k : Nat} (h0 : ∀ j, σ.1 k j = 0 ∧ σ.2.1 k j = 0) : ∀ b, ∀ j, j < 13 → defaultValue (tyX5 j) = vp_V (born_X5.mapIdx (fun j f => aw_fv b σ k j f)) j := by
  intro b j hj
  rcases (show j = 0 ∨ j = 1 ∨ j = 2 ∨ j = 3 ∨ j = 4 ∨ j = 5 ∨ j = 6 ∨ j = 7 ∨ j = 8 ∨ j = 9 ∨ j = 10 ∨ j = 11 ∨ j = 12 by omega) with rfl | rfl | rfl | rfl | rfl | rfl | rfl | rfl | rfl | rfl | rfl | rfl | rfl
  · exact bn_v (j := 0) (f := .inl 3) rfl rfl
  · exact bn_v (j := 1) (f := .inl 3) rfl rfl
  · exact bn_v (j := 2) (f := .inl 3) rfl rfl
  · exact bn_v (j := 3) (f := .inl 3) rfl rfl
  · exact bn_v (j := 4) (f := .inl 3) rfl rfl
  · exact bn_v (j := 5) (f := .inl 3) rfl rfl
  · exact bn_v (j := 6) (f := .inl 0) rfl (by show Value.int 0 = Value.int (σ.1 k 6); rw [(h0 6).1])
  · exact bn_v (j := 7) (f := .inl 0) rfl (by show Value.int 0 = Value.int (σ.1 k 7); rw [(h0 7).1])
  · exact bn_v (j := 8) (f := .inl 0) rfl (by show Value.int 0 = Value.int (σ.1 k 8); rw [(h0 8).1])
  · exact bn_v (j := 9) (f := .inl 0) rfl (by show Value.int 0 = Value.int (σ.1 k 9); rw [(h0 9).1])
  · exact bn_v (j := 10) (f := .inl 0) rfl (by show Value.int 0 = Value.int (σ.1 k 10); rw [(h0 10).1])
  · exact bn_v (j := 11) (f := .inl 0) rfl (by show Value.int 0 = Value.int (σ.1 k 11); rw [(h0 11).1])
  · exact bn_v (j := 12) (f := .inl 0) rfl (by show Value.int 0 = Value.int (σ.1 k 12); rw [(h0 12).1])
set_option maxHeartbeats 1000000 in
theorem c_X5_init {l : Launch} {G : aw_G} {σ : aw_S} {sh : List aw_H} {o : Nat} (hal : G.2.2.2.2) (hs : sh[o]? = some (.inl (5, born_X5))) (h0 : ∀ c, sh.length ≤ c → ∀ j, σ.1 c j = 0 ∧ σ.2.1 c j = 0) : aw_Ct l yX5_init M_X5_init G B_X5_init [.ref o] sh σ (none, bn sh o 5 (fin_X5 sh.length) (nw_X5 sh.length), σ) := by
  refine aw_Ct_of (by decide) rfl (fun _ => rfl) (Nat.le_of_ble_eq_true rfl) ?_
  have ho := (List.getElem?_eq_some_iff.mp hs).1
  have K : aw_W l M_X5_init G B_X5_init (none, bn sh o 5 (fin_X5 sh.length) (nw_X5 sh.length), σ) 0 [(0, .ref o)] [] (bn sh o 5 born_X5 []) σ 0 0 := by
    refine aw_aload_n dX5_init_0 (q := 0) rfl ?_
    refine aw_oinit (aw_in_6 _ (List.mem_of_getElem? (i := 20) rfl)) (aw_in_0 _ (List.mem_of_getElem? (i := 10) rfl)) (aw_in_0 _ (List.mem_of_getElem? (i := 11) rfl)) ⟨Nat.le_of_ble_eq_true rfl, Nat.le_of_ble_eq_true rfl⟩ dX5_init_1 ?_
    refine aw_aload_n dX5_init_4 (q := 0) rfl ?_
    refine aw_bipush (v := nI 24) dX5_init_5 (by decide) ?_
    refine aw_iconst (v := nI 4) dX5_init_7 (by decide) ?_
    refine aw_multi hal (aw_in_6 _ (List.mem_of_getElem? (i := 21) rfl)) (aw_in_1 _ (List.mem_of_getElem? (i := 17) rfl)) (by decide) (by decide) (fun c hc j => h0 c (by rw [bn_len] at hc; omega) j) ⟨Nat.le_of_ble_eq_true rfl, Nat.le_of_ble_eq_true rfl⟩ dX5_init_8 ?_
    rw [bn_app, bn_len]
    refine aw_putC fi_X5_13 (bn_get ho) (Nat.le_of_ble_eq_true rfl) rfl (fun _ => rfl) (fun _ => rfl) dX5_init_12 ?_
    rw [bn_set ho]
    show aw_W _ _ _ _ _ 15 _ _ (bn sh o 5 [.inr (sh.length + 0), .inl 3, .inl 3, .inl 3, .inl 3, .inl 3, .inl 0, .inl 0, .inl 0, .inl 0, .inl 0, .inl 0, .inl 0] [.inr (4, 24, fun j => if j < 24 then some (sh.length + 0 + 1 + j) else none), .inr (0, 4, aw_no), .inr (0, 4, aw_no), .inr (0, 4, aw_no), .inr (0, 4, aw_no), .inr (0, 4, aw_no), .inr (0, 4, aw_no), .inr (0, 4, aw_no), .inr (0, 4, aw_no), .inr (0, 4, aw_no), .inr (0, 4, aw_no), .inr (0, 4, aw_no), .inr (0, 4, aw_no), .inr (0, 4, aw_no), .inr (0, 4, aw_no), .inr (0, 4, aw_no), .inr (0, 4, aw_no), .inr (0, 4, aw_no), .inr (0, 4, aw_no), .inr (0, 4, aw_no), .inr (0, 4, aw_no), .inr (0, 4, aw_no), .inr (0, 4, aw_no), .inr (0, 4, aw_no), .inr (0, 4, aw_no)]) _ _ _
    refine aw_aload_n dX5_init_15 (q := 0) rfl ?_
    refine aw_bipush (v := nI 12) dX5_init_16 (by decide) ?_
    refine aw_fieldI ho hal rfl (aw_in_1 _ (List.mem_of_getElem? (i := 17) rfl)) rfl (Or.inl ⟨rfl, rfl⟩) h0 (by decide) ⟨Nat.le_of_ble_eq_true rfl, Nat.le_of_ble_eq_true rfl⟩ fi_X5_16 (Nat.le_of_ble_eq_true rfl) dX5_init_18 dX5_init_20 ?_
    refine aw_aload_n dX5_init_23 (q := 0) rfl ?_
    refine aw_bipush (v := nI 12) dX5_init_24 (by decide) ?_
    refine aw_fieldI ho hal rfl (aw_in_1 _ (List.mem_of_getElem? (i := 17) rfl)) rfl (Or.inl ⟨rfl, rfl⟩) h0 (by decide) ⟨Nat.le_of_ble_eq_true rfl, Nat.le_of_ble_eq_true rfl⟩ fi_X5_20 (Nat.le_of_ble_eq_true rfl) dX5_init_26 dX5_init_28 ?_
    refine aw_aload_n dX5_init_31 (q := 0) rfl ?_
    refine aw_bipush (v := nI 12) dX5_init_32 (by decide) ?_
    refine aw_fieldI ho hal rfl (aw_in_1 _ (List.mem_of_getElem? (i := 17) rfl)) rfl (Or.inl ⟨rfl, rfl⟩) h0 (by decide) ⟨Nat.le_of_ble_eq_true rfl, Nat.le_of_ble_eq_true rfl⟩ fi_X5_23 (Nat.le_of_ble_eq_true rfl) dX5_init_34 dX5_init_36 ?_
    refine aw_aload_n dX5_init_39 (q := 0) rfl ?_
    refine aw_bipush (v := nI 12) dX5_init_40 (by decide) ?_
    refine aw_fieldI ho hal rfl (aw_in_1 _ (List.mem_of_getElem? (i := 17) rfl)) rfl (Or.inl ⟨rfl, rfl⟩) h0 (by decide) ⟨Nat.le_of_ble_eq_true rfl, Nat.le_of_ble_eq_true rfl⟩ fi_X5_26 (Nat.le_of_ble_eq_true rfl) dX5_init_42 dX5_init_44 ?_
    refine aw_aload_n dX5_init_47 (q := 0) rfl ?_
    refine aw_bipush (v := nI 12) dX5_init_48 (by decide) ?_
    refine aw_fieldI ho hal rfl (aw_in_1 _ (List.mem_of_getElem? (i := 17) rfl)) rfl (Or.inl ⟨rfl, rfl⟩) h0 (by decide) ⟨Nat.le_of_ble_eq_true rfl, Nat.le_of_ble_eq_true rfl⟩ fi_X5_29 (Nat.le_of_ble_eq_true rfl) dX5_init_50 dX5_init_52 ?_
    exact aw_vret rfl ⟨Nat.le_of_ble_eq_true rfl, Nat.le_of_ble_eq_true rfl⟩ dX5_init_55
  rw [bn_0 hs] at K
  exact K

/-! ===== CONSTRUCTORS ===== -/
/-! LateMover$Text -/
theorem fi_X9_9 : aw_Fd RX9 9 9 0 (.array .byte) true := ⟨RX9, TX9, 2, tyX9, rfl, by decide, inlX9, tyX9_ok, nmX9, aw_in_2 _ (List.mem_of_getElem? (i := 14) rfl), rfl, rfl, (fun _ => rfl)⟩
def born_X9 : List aw_F := [.inl 3, .inl 0]
def fin_X9 (n : Nat) : List aw_F := [.inr (n + 0), .inl 0]
def nw_X9 (n : Nat) : List aw_H := [.inr (1, 800, aw_no)]
abbrev M_X9_init : aw_M := (RX9, cX9_init, 1, none, true)
abbrev B_X9_init : aw_B := (1, 12, 1, 800)
theorem yi_X9 : aw_Y yX9_init M_X9_init 0 ∧ Cond.instanceMethod yX9_init ∈ wsL_law := ⟨⟨aw_in_2 _ (List.mem_of_getElem? (i := 11) rfl), aw_in_0 _ (List.mem_of_getElem? (i := 14) rfl), by decide +kernel, by decide +kernel, by decide +kernel⟩, aw_in_2 _ (List.mem_of_getElem? (i := 10) rfl)⟩
theorem born_X9_ok {σ : aw_S} {k : Nat} (h0 : ∀ j, σ.1 k j = 0 ∧ σ.2.1 k j = 0) : ∀ b, ∀ j, j < 2 → defaultValue (tyX9 j) = vp_V (born_X9.mapIdx (fun j f => aw_fv b σ k j f)) j := by
  intro b j hj
  rcases (show j = 0 ∨ j = 1 by omega) with rfl | rfl
  · exact bn_v (j := 0) (f := .inl 3) rfl rfl
  · exact bn_v (j := 1) (f := .inl 0) rfl (by show Value.int 0 = Value.int (σ.1 k 1); rw [(h0 1).1])
set_option maxHeartbeats 1000000 in
theorem c_X9_init {l : Launch} {G : aw_G} {σ : aw_S} {sh : List aw_H} {o : Nat} (hal : G.2.2.2.2) (hs : sh[o]? = some (.inl (9, born_X9))) (h0 : ∀ c, sh.length ≤ c → ∀ j, σ.1 c j = 0 ∧ σ.2.1 c j = 0) : aw_Ct l yX9_init M_X9_init G B_X9_init [.ref o] sh σ (none, bn sh o 9 (fin_X9 sh.length) (nw_X9 sh.length), σ) := by
  refine aw_Ct_of (by decide) rfl (fun _ => rfl) (Nat.le_of_ble_eq_true rfl) ?_
  have ho := (List.getElem?_eq_some_iff.mp hs).1
  have K : aw_W l M_X9_init G B_X9_init (none, bn sh o 9 (fin_X9 sh.length) (nw_X9 sh.length), σ) 0 [(0, .ref o)] [] (bn sh o 9 born_X9 []) σ 0 0 := by
    refine aw_aload_n dX9_init_0 (q := 0) rfl ?_
    refine aw_oinit (aw_in_2 _ (List.mem_of_getElem? (i := 12) rfl)) (aw_in_0 _ (List.mem_of_getElem? (i := 10) rfl)) (aw_in_0 _ (List.mem_of_getElem? (i := 11) rfl)) ⟨Nat.le_of_ble_eq_true rfl, Nat.le_of_ble_eq_true rfl⟩ dX9_init_1 ?_
    refine aw_aload_n dX9_init_4 (q := 0) rfl ?_
    refine aw_sipush (v := nI 800) dX9_init_5 (by decide) ?_
    refine aw_fieldI ho hal rfl (aw_in_2 _ (List.mem_of_getElem? (i := 13) rfl)) rfl (Or.inr (Or.inl ⟨rfl, rfl⟩)) h0 (by decide) ⟨Nat.le_of_ble_eq_true rfl, Nat.le_of_ble_eq_true rfl⟩ fi_X9_9 (Nat.le_of_ble_eq_true rfl) dX9_init_8 dX9_init_10 ?_
    exact aw_vret rfl ⟨Nat.le_of_ble_eq_true rfl, Nat.le_of_ble_eq_true rfl⟩ dX9_init_13
  rw [bn_0 hs] at K
  exact K
/-! LateMover$Expressions -/
theorem fi_X0_9 : aw_Fd RX0 9 0 0 (.array .int) true := ⟨RX0, TX0, 4, tyX0, rfl, by decide, inlX0, tyX0_ok, nmX0, aw_in_3 _ (List.mem_of_getElem? (i := 12) rfl), rfl, rfl, (fun _ => rfl)⟩
theorem fi_X0_15 : aw_Fd RX0 15 0 1 (.array .int) true := ⟨RX0, TX0, 4, tyX0, rfl, by decide, inlX0, tyX0_ok, nmX0, aw_in_3 _ (List.mem_of_getElem? (i := 13) rfl), rfl, rfl, (fun _ => rfl)⟩
theorem fi_X0_18 : aw_Fd RX0 18 0 2 (.array .int) true := ⟨RX0, TX0, 4, tyX0, rfl, by decide, inlX0, tyX0_ok, nmX0, aw_in_3 _ (List.mem_of_getElem? (i := 14) rfl), rfl, rfl, (fun _ => rfl)⟩
def born_X0 : List aw_F := [.inl 3, .inl 3, .inl 3, .inl 0]
def fin_X0 (n : Nat) : List aw_F := [.inr (n + 0), .inr (n + 1), .inr (n + 2), .inl 0]
def nw_X0 (n : Nat) : List aw_H := [.inr (0, 24, aw_no), .inr (0, 24, aw_no), .inr (0, 24, aw_no)]
abbrev M_X0_init : aw_M := (RX0, cX0_init, 1, none, true)
abbrev B_X0_init : aw_B := (1, 12, 3, 72)
theorem yi_X0 : aw_Y yX0_init M_X0_init 0 ∧ Cond.instanceMethod yX0_init ∈ wsL_law := ⟨⟨aw_in_3 _ (List.mem_of_getElem? (i := 10) rfl), aw_in_2 _ (List.mem_of_getElem? (i := 22) rfl), by decide +kernel, by decide +kernel, by decide +kernel⟩, aw_in_3 _ (List.mem_of_getElem? (i := 9) rfl)⟩
theorem born_X0_ok {σ : aw_S} {k : Nat} (h0 : ∀ j, σ.1 k j = 0 ∧ σ.2.1 k j = 0) : ∀ b, ∀ j, j < 4 → defaultValue (tyX0 j) = vp_V (born_X0.mapIdx (fun j f => aw_fv b σ k j f)) j := by
  intro b j hj
  rcases (show j = 0 ∨ j = 1 ∨ j = 2 ∨ j = 3 by omega) with rfl | rfl | rfl | rfl
  · exact bn_v (j := 0) (f := .inl 3) rfl rfl
  · exact bn_v (j := 1) (f := .inl 3) rfl rfl
  · exact bn_v (j := 2) (f := .inl 3) rfl rfl
  · exact bn_v (j := 3) (f := .inl 0) rfl (by show Value.int 0 = Value.int (σ.1 k 3); rw [(h0 3).1])
set_option maxHeartbeats 1000000 in
theorem c_X0_init {l : Launch} {G : aw_G} {σ : aw_S} {sh : List aw_H} {o : Nat} (hal : G.2.2.2.2) (hs : sh[o]? = some (.inl (0, born_X0))) (h0 : ∀ c, sh.length ≤ c → ∀ j, σ.1 c j = 0 ∧ σ.2.1 c j = 0) : aw_Ct l yX0_init M_X0_init G B_X0_init [.ref o] sh σ (none, bn sh o 0 (fin_X0 sh.length) (nw_X0 sh.length), σ) := by
  refine aw_Ct_of (by decide) rfl (fun _ => rfl) (Nat.le_of_ble_eq_true rfl) ?_
  have ho := (List.getElem?_eq_some_iff.mp hs).1
  have K : aw_W l M_X0_init G B_X0_init (none, bn sh o 0 (fin_X0 sh.length) (nw_X0 sh.length), σ) 0 [(0, .ref o)] [] (bn sh o 0 born_X0 []) σ 0 0 := by
    refine aw_aload_n dX0_init_0 (q := 0) rfl ?_
    refine aw_oinit (aw_in_3 _ (List.mem_of_getElem? (i := 11) rfl)) (aw_in_0 _ (List.mem_of_getElem? (i := 10) rfl)) (aw_in_0 _ (List.mem_of_getElem? (i := 11) rfl)) ⟨Nat.le_of_ble_eq_true rfl, Nat.le_of_ble_eq_true rfl⟩ dX0_init_1 ?_
    refine aw_aload_n dX0_init_4 (q := 0) rfl ?_
    refine aw_bipush (v := nI 24) dX0_init_5 (by decide) ?_
    refine aw_fieldI ho hal rfl (aw_in_1 _ (List.mem_of_getElem? (i := 17) rfl)) rfl (Or.inl ⟨rfl, rfl⟩) h0 (by decide) ⟨Nat.le_of_ble_eq_true rfl, Nat.le_of_ble_eq_true rfl⟩ fi_X0_9 (Nat.le_of_ble_eq_true rfl) dX0_init_7 dX0_init_9 ?_
    refine aw_aload_n dX0_init_12 (q := 0) rfl ?_
    refine aw_bipush (v := nI 24) dX0_init_13 (by decide) ?_
    refine aw_fieldI ho hal rfl (aw_in_1 _ (List.mem_of_getElem? (i := 17) rfl)) rfl (Or.inl ⟨rfl, rfl⟩) h0 (by decide) ⟨Nat.le_of_ble_eq_true rfl, Nat.le_of_ble_eq_true rfl⟩ fi_X0_15 (Nat.le_of_ble_eq_true rfl) dX0_init_15 dX0_init_17 ?_
    refine aw_aload_n dX0_init_20 (q := 0) rfl ?_
    refine aw_bipush (v := nI 24) dX0_init_21 (by decide) ?_
    refine aw_fieldI ho hal rfl (aw_in_1 _ (List.mem_of_getElem? (i := 17) rfl)) rfl (Or.inl ⟨rfl, rfl⟩) h0 (by decide) ⟨Nat.le_of_ble_eq_true rfl, Nat.le_of_ble_eq_true rfl⟩ fi_X0_18 (Nat.le_of_ble_eq_true rfl) dX0_init_23 dX0_init_25 ?_
    exact aw_vret rfl ⟨Nat.le_of_ble_eq_true rfl, Nat.le_of_ble_eq_true rfl⟩ dX0_init_28
  rw [bn_0 hs] at K
  exact K
/-! LateMover$Flow -/
theorem fi_X2_9 : aw_Fd RX2 9 2 0 (.array .int) true := ⟨RX2, TX2, 4, tyX2, rfl, by decide, inlX2, tyX2_ok, nmX2, aw_in_5 _ (List.mem_of_getElem? (i := 5) rfl), rfl, rfl, (fun _ => rfl)⟩
theorem fi_X2_15 : aw_Fd RX2 15 2 1 (.array .int) true := ⟨RX2, TX2, 4, tyX2, rfl, by decide, inlX2, tyX2_ok, nmX2, aw_in_5 _ (List.mem_of_getElem? (i := 6) rfl), rfl, rfl, (fun _ => rfl)⟩
theorem fi_X2_18 : aw_Fd RX2 18 2 2 (.array .int) true := ⟨RX2, TX2, 4, tyX2, rfl, by decide, inlX2, tyX2_ok, nmX2, aw_in_5 _ (List.mem_of_getElem? (i := 7) rfl), rfl, rfl, (fun _ => rfl)⟩
theorem fi_X2_21 : aw_Fd RX2 21 2 3 (.array .int) true := ⟨RX2, TX2, 4, tyX2, rfl, by decide, inlX2, tyX2_ok, nmX2, aw_in_5 _ (List.mem_of_getElem? (i := 8) rfl), rfl, rfl, (fun _ => rfl)⟩
def born_X2 : List aw_F := [.inl 3, .inl 3, .inl 3, .inl 3]
def fin_X2 (n : Nat) : List aw_F := [.inr (n + 0), .inr (n + 1), .inr (n + 2), .inr (n + 3)]
def nw_X2 (n : Nat) : List aw_H := [.inr (0, 128, aw_no), .inr (0, 128, aw_no), .inr (0, 128, aw_no), .inr (0, 128, aw_no)]
abbrev M_X2_init : aw_M := (RX2, cX2_init, 1, none, true)
abbrev B_X2_init : aw_B := (1, 12, 4, 512)
theorem yi_X2 : aw_Y yX2_init M_X2_init 0 ∧ Cond.instanceMethod yX2_init ∈ wsL_law := ⟨⟨aw_in_5 _ (List.mem_of_getElem? (i := 3) rfl), aw_in_4 _ (List.mem_of_getElem? (i := 13) rfl), by decide +kernel, by decide +kernel, by decide +kernel⟩, aw_in_5 _ (List.mem_of_getElem? (i := 2) rfl)⟩
theorem born_X2_ok {σ : aw_S} {k : Nat} (h0 : ∀ j, σ.1 k j = 0 ∧ σ.2.1 k j = 0) : ∀ b, ∀ j, j < 4 → defaultValue (tyX2 j) = vp_V (born_X2.mapIdx (fun j f => aw_fv b σ k j f)) j := by
  intro b j hj
  rcases (show j = 0 ∨ j = 1 ∨ j = 2 ∨ j = 3 by omega) with rfl | rfl | rfl | rfl
  · exact bn_v (j := 0) (f := .inl 3) rfl rfl
  · exact bn_v (j := 1) (f := .inl 3) rfl rfl
  · exact bn_v (j := 2) (f := .inl 3) rfl rfl
  · exact bn_v (j := 3) (f := .inl 3) rfl rfl
set_option maxHeartbeats 1000000 in
theorem c_X2_init {l : Launch} {G : aw_G} {σ : aw_S} {sh : List aw_H} {o : Nat} (hal : G.2.2.2.2) (hs : sh[o]? = some (.inl (2, born_X2))) (h0 : ∀ c, sh.length ≤ c → ∀ j, σ.1 c j = 0 ∧ σ.2.1 c j = 0) : aw_Ct l yX2_init M_X2_init G B_X2_init [.ref o] sh σ (none, bn sh o 2 (fin_X2 sh.length) (nw_X2 sh.length), σ) := by
  refine aw_Ct_of (by decide) rfl (fun _ => rfl) (Nat.le_of_ble_eq_true rfl) ?_
  have ho := (List.getElem?_eq_some_iff.mp hs).1
  have K : aw_W l M_X2_init G B_X2_init (none, bn sh o 2 (fin_X2 sh.length) (nw_X2 sh.length), σ) 0 [(0, .ref o)] [] (bn sh o 2 born_X2 []) σ 0 0 := by
    refine aw_aload_n dX2_init_0 (q := 0) rfl ?_
    refine aw_oinit (aw_in_5 _ (List.mem_of_getElem? (i := 4) rfl)) (aw_in_0 _ (List.mem_of_getElem? (i := 10) rfl)) (aw_in_0 _ (List.mem_of_getElem? (i := 11) rfl)) ⟨Nat.le_of_ble_eq_true rfl, Nat.le_of_ble_eq_true rfl⟩ dX2_init_1 ?_
    refine aw_aload_n dX2_init_4 (q := 0) rfl ?_
    refine aw_sipush (v := nI 128) dX2_init_5 (by decide) ?_
    refine aw_fieldI ho hal rfl (aw_in_1 _ (List.mem_of_getElem? (i := 17) rfl)) rfl (Or.inl ⟨rfl, rfl⟩) h0 (by decide) ⟨Nat.le_of_ble_eq_true rfl, Nat.le_of_ble_eq_true rfl⟩ fi_X2_9 (Nat.le_of_ble_eq_true rfl) dX2_init_8 dX2_init_10 ?_
    refine aw_aload_n dX2_init_13 (q := 0) rfl ?_
    refine aw_sipush (v := nI 128) dX2_init_14 (by decide) ?_
    refine aw_fieldI ho hal rfl (aw_in_1 _ (List.mem_of_getElem? (i := 17) rfl)) rfl (Or.inl ⟨rfl, rfl⟩) h0 (by decide) ⟨Nat.le_of_ble_eq_true rfl, Nat.le_of_ble_eq_true rfl⟩ fi_X2_15 (Nat.le_of_ble_eq_true rfl) dX2_init_17 dX2_init_19 ?_
    refine aw_aload_n dX2_init_22 (q := 0) rfl ?_
    refine aw_sipush (v := nI 128) dX2_init_23 (by decide) ?_
    refine aw_fieldI ho hal rfl (aw_in_1 _ (List.mem_of_getElem? (i := 17) rfl)) rfl (Or.inl ⟨rfl, rfl⟩) h0 (by decide) ⟨Nat.le_of_ble_eq_true rfl, Nat.le_of_ble_eq_true rfl⟩ fi_X2_18 (Nat.le_of_ble_eq_true rfl) dX2_init_26 dX2_init_28 ?_
    refine aw_aload_n dX2_init_31 (q := 0) rfl ?_
    refine aw_sipush (v := nI 128) dX2_init_32 (by decide) ?_
    refine aw_fieldI ho hal rfl (aw_in_1 _ (List.mem_of_getElem? (i := 17) rfl)) rfl (Or.inl ⟨rfl, rfl⟩) h0 (by decide) ⟨Nat.le_of_ble_eq_true rfl, Nat.le_of_ble_eq_true rfl⟩ fi_X2_21 (Nat.le_of_ble_eq_true rfl) dX2_init_35 dX2_init_37 ?_
    exact aw_vret rfl ⟨Nat.le_of_ble_eq_true rfl, Nat.le_of_ble_eq_true rfl⟩ dX2_init_40
  rw [bn_0 hs] at K
  exact K
/-! LateMover$Loops -/
theorem fi_X4_9 : aw_Fd RX4 9 4 0 (.array .long) true := ⟨RX4, TX4, 5, tyX4, rfl, by decide, inlX4, tyX4_ok, nmX4, aw_in_5 _ (List.mem_of_getElem? (i := 13) rfl), rfl, rfl, (fun _ => rfl)⟩
theorem fi_X4_15 : aw_Fd RX4 15 4 1 (.array .long) true := ⟨RX4, TX4, 5, tyX4, rfl, by decide, inlX4, tyX4_ok, nmX4, aw_in_5 _ (List.mem_of_getElem? (i := 14) rfl), rfl, rfl, (fun _ => rfl)⟩
theorem fi_X4_18 : aw_Fd RX4 18 4 2 (.array .int) true := ⟨RX4, TX4, 5, tyX4, rfl, by decide, inlX4, tyX4_ok, nmX4, aw_in_5 _ (List.mem_of_getElem? (i := 15) rfl), rfl, rfl, (fun _ => rfl)⟩
theorem fi_X4_22 : aw_Fd RX4 22 4 3 (.array .int) true := ⟨RX4, TX4, 5, tyX4, rfl, by decide, inlX4, tyX4_ok, nmX4, aw_in_5 _ (List.mem_of_getElem? (i := 16) rfl), rfl, rfl, (fun _ => rfl)⟩
def born_X4 : List aw_F := [.inl 3, .inl 3, .inl 3, .inl 3, .inl 0]
def fin_X4 (n : Nat) : List aw_F := [.inr (n + 0), .inr (n + 1), .inr (n + 2), .inr (n + 3), .inl 0]
def nw_X4 (n : Nat) : List aw_H := [.inr (3, 128, aw_no), .inr (3, 128, aw_no), .inr (0, 128, aw_no), .inr (0, 128, aw_no)]
abbrev M_X4_init : aw_M := (RX4, cX4_init, 1, none, true)
abbrev B_X4_init : aw_B := (1, 12, 4, 512)
theorem yi_X4 : aw_Y yX4_init M_X4_init 0 ∧ Cond.instanceMethod yX4_init ∈ wsL_law := ⟨⟨aw_in_5 _ (List.mem_of_getElem? (i := 10) rfl), aw_in_1 _ (List.mem_of_getElem? (i := 9) rfl), by decide +kernel, by decide +kernel, by decide +kernel⟩, aw_in_5 _ (List.mem_of_getElem? (i := 9) rfl)⟩
theorem born_X4_ok {σ : aw_S} {k : Nat} (h0 : ∀ j, σ.1 k j = 0 ∧ σ.2.1 k j = 0) : ∀ b, ∀ j, j < 5 → defaultValue (tyX4 j) = vp_V (born_X4.mapIdx (fun j f => aw_fv b σ k j f)) j := by
  intro b j hj
  rcases (show j = 0 ∨ j = 1 ∨ j = 2 ∨ j = 3 ∨ j = 4 by omega) with rfl | rfl | rfl | rfl | rfl
  · exact bn_v (j := 0) (f := .inl 3) rfl rfl
  · exact bn_v (j := 1) (f := .inl 3) rfl rfl
  · exact bn_v (j := 2) (f := .inl 3) rfl rfl
  · exact bn_v (j := 3) (f := .inl 3) rfl rfl
  · exact bn_v (j := 4) (f := .inl 0) rfl (by show Value.int 0 = Value.int (σ.1 k 4); rw [(h0 4).1])
set_option maxHeartbeats 1000000 in
theorem c_X4_init {l : Launch} {G : aw_G} {σ : aw_S} {sh : List aw_H} {o : Nat} (hal : G.2.2.2.2) (hs : sh[o]? = some (.inl (4, born_X4))) (h0 : ∀ c, sh.length ≤ c → ∀ j, σ.1 c j = 0 ∧ σ.2.1 c j = 0) : aw_Ct l yX4_init M_X4_init G B_X4_init [.ref o] sh σ (none, bn sh o 4 (fin_X4 sh.length) (nw_X4 sh.length), σ) := by
  refine aw_Ct_of (by decide) rfl (fun _ => rfl) (Nat.le_of_ble_eq_true rfl) ?_
  have ho := (List.getElem?_eq_some_iff.mp hs).1
  have K : aw_W l M_X4_init G B_X4_init (none, bn sh o 4 (fin_X4 sh.length) (nw_X4 sh.length), σ) 0 [(0, .ref o)] [] (bn sh o 4 born_X4 []) σ 0 0 := by
    refine aw_aload_n dX4_init_0 (q := 0) rfl ?_
    refine aw_oinit (aw_in_5 _ (List.mem_of_getElem? (i := 11) rfl)) (aw_in_0 _ (List.mem_of_getElem? (i := 10) rfl)) (aw_in_0 _ (List.mem_of_getElem? (i := 11) rfl)) ⟨Nat.le_of_ble_eq_true rfl, Nat.le_of_ble_eq_true rfl⟩ dX4_init_1 ?_
    refine aw_aload_n dX4_init_4 (q := 0) rfl ?_
    refine aw_sipush (v := nI 128) dX4_init_5 (by decide) ?_
    refine aw_fieldI ho hal rfl (aw_in_5 _ (List.mem_of_getElem? (i := 12) rfl)) rfl (Or.inr (Or.inr (Or.inr ⟨rfl, rfl⟩))) h0 (by decide) ⟨Nat.le_of_ble_eq_true rfl, Nat.le_of_ble_eq_true rfl⟩ fi_X4_9 (Nat.le_of_ble_eq_true rfl) dX4_init_8 dX4_init_10 ?_
    refine aw_aload_n dX4_init_13 (q := 0) rfl ?_
    refine aw_sipush (v := nI 128) dX4_init_14 (by decide) ?_
    refine aw_fieldI ho hal rfl (aw_in_5 _ (List.mem_of_getElem? (i := 12) rfl)) rfl (Or.inr (Or.inr (Or.inr ⟨rfl, rfl⟩))) h0 (by decide) ⟨Nat.le_of_ble_eq_true rfl, Nat.le_of_ble_eq_true rfl⟩ fi_X4_15 (Nat.le_of_ble_eq_true rfl) dX4_init_17 dX4_init_19 ?_
    refine aw_aload_n dX4_init_22 (q := 0) rfl ?_
    refine aw_sipush (v := nI 128) dX4_init_23 (by decide) ?_
    refine aw_fieldI ho hal rfl (aw_in_1 _ (List.mem_of_getElem? (i := 17) rfl)) rfl (Or.inl ⟨rfl, rfl⟩) h0 (by decide) ⟨Nat.le_of_ble_eq_true rfl, Nat.le_of_ble_eq_true rfl⟩ fi_X4_18 (Nat.le_of_ble_eq_true rfl) dX4_init_26 dX4_init_28 ?_
    refine aw_aload_n dX4_init_31 (q := 0) rfl ?_
    refine aw_sipush (v := nI 128) dX4_init_32 (by decide) ?_
    refine aw_fieldI ho hal rfl (aw_in_1 _ (List.mem_of_getElem? (i := 17) rfl)) rfl (Or.inl ⟨rfl, rfl⟩) h0 (by decide) ⟨Nat.le_of_ble_eq_true rfl, Nat.le_of_ble_eq_true rfl⟩ fi_X4_22 (Nat.le_of_ble_eq_true rfl) dX4_init_35 dX4_init_37 ?_
    exact aw_vret rfl ⟨Nat.le_of_ble_eq_true rfl, Nat.le_of_ble_eq_true rfl⟩ dX4_init_40
  rw [bn_0 hs] at K
  exact K
/-! LateMover$Placement -/
theorem fi_X6_9 : aw_Fd RX6 9 6 0 (.array .int) true := ⟨RX6, TX6, 6, tyX6, rfl, by decide, inlX6, tyX6_ok, nmX6, aw_in_5 _ (List.mem_of_getElem? (i := 20) rfl), rfl, rfl, (fun _ => rfl)⟩
theorem fi_X6_15 : aw_Fd RX6 15 6 1 (.array .int) true := ⟨RX6, TX6, 6, tyX6, rfl, by decide, inlX6, tyX6_ok, nmX6, aw_in_5 _ (List.mem_of_getElem? (i := 21) rfl), rfl, rfl, (fun _ => rfl)⟩
theorem fi_X6_18 : aw_Fd RX6 18 6 2 (.array .int) true := ⟨RX6, TX6, 6, tyX6, rfl, by decide, inlX6, tyX6_ok, nmX6, aw_in_5 _ (List.mem_of_getElem? (i := 22) rfl), rfl, rfl, (fun _ => rfl)⟩
theorem fi_X6_21 : aw_Fd RX6 21 6 3 (.array .int) true := ⟨RX6, TX6, 6, tyX6, rfl, by decide, inlX6, tyX6_ok, nmX6, aw_in_5 _ (List.mem_of_getElem? (i := 23) rfl), rfl, rfl, (fun _ => rfl)⟩
theorem fi_X6_24 : aw_Fd RX6 24 6 4 (.array .int) true := ⟨RX6, TX6, 6, tyX6, rfl, by decide, inlX6, tyX6_ok, nmX6, aw_in_6 _ (List.mem_of_getElem? (i := 0) rfl), rfl, rfl, (fun _ => rfl)⟩
def born_X6 : List aw_F := [.inl 3, .inl 3, .inl 3, .inl 3, .inl 3, .inl 0]
def fin_X6 (n : Nat) : List aw_F := [.inr (n + 0), .inr (n + 1), .inr (n + 2), .inr (n + 3), .inr (n + 4), .inl 0]
def nw_X6 (n : Nat) : List aw_H := [.inr (0, 128, aw_no), .inr (0, 128, aw_no), .inr (0, 128, aw_no), .inr (0, 24, aw_no), .inr (0, 24, aw_no)]
abbrev M_X6_init : aw_M := (RX6, cX6_init, 1, none, true)
abbrev B_X6_init : aw_B := (1, 12, 5, 432)
theorem yi_X6 : aw_Y yX6_init M_X6_init 0 ∧ Cond.instanceMethod yX6_init ∈ wsL_law := ⟨⟨aw_in_5 _ (List.mem_of_getElem? (i := 18) rfl), aw_in_1 _ (List.mem_of_getElem? (i := 13) rfl), by decide +kernel, by decide +kernel, by decide +kernel⟩, aw_in_5 _ (List.mem_of_getElem? (i := 17) rfl)⟩
theorem born_X6_ok {σ : aw_S} {k : Nat} (h0 : ∀ j, σ.1 k j = 0 ∧ σ.2.1 k j = 0) : ∀ b, ∀ j, j < 6 → defaultValue (tyX6 j) = vp_V (born_X6.mapIdx (fun j f => aw_fv b σ k j f)) j := by
  intro b j hj
  rcases (show j = 0 ∨ j = 1 ∨ j = 2 ∨ j = 3 ∨ j = 4 ∨ j = 5 by omega) with rfl | rfl | rfl | rfl | rfl | rfl
  · exact bn_v (j := 0) (f := .inl 3) rfl rfl
  · exact bn_v (j := 1) (f := .inl 3) rfl rfl
  · exact bn_v (j := 2) (f := .inl 3) rfl rfl
  · exact bn_v (j := 3) (f := .inl 3) rfl rfl
  · exact bn_v (j := 4) (f := .inl 3) rfl rfl
  · exact bn_v (j := 5) (f := .inl 0) rfl (by show Value.int 0 = Value.int (σ.1 k 5); rw [(h0 5).1])
set_option maxHeartbeats 1000000 in
theorem c_X6_init {l : Launch} {G : aw_G} {σ : aw_S} {sh : List aw_H} {o : Nat} (hal : G.2.2.2.2) (hs : sh[o]? = some (.inl (6, born_X6))) (h0 : ∀ c, sh.length ≤ c → ∀ j, σ.1 c j = 0 ∧ σ.2.1 c j = 0) : aw_Ct l yX6_init M_X6_init G B_X6_init [.ref o] sh σ (none, bn sh o 6 (fin_X6 sh.length) (nw_X6 sh.length), σ) := by
  refine aw_Ct_of (by decide) rfl (fun _ => rfl) (Nat.le_of_ble_eq_true rfl) ?_
  have ho := (List.getElem?_eq_some_iff.mp hs).1
  have K : aw_W l M_X6_init G B_X6_init (none, bn sh o 6 (fin_X6 sh.length) (nw_X6 sh.length), σ) 0 [(0, .ref o)] [] (bn sh o 6 born_X6 []) σ 0 0 := by
    refine aw_aload_n dX6_init_0 (q := 0) rfl ?_
    refine aw_oinit (aw_in_5 _ (List.mem_of_getElem? (i := 19) rfl)) (aw_in_0 _ (List.mem_of_getElem? (i := 10) rfl)) (aw_in_0 _ (List.mem_of_getElem? (i := 11) rfl)) ⟨Nat.le_of_ble_eq_true rfl, Nat.le_of_ble_eq_true rfl⟩ dX6_init_1 ?_
    refine aw_aload_n dX6_init_4 (q := 0) rfl ?_
    refine aw_sipush (v := nI 128) dX6_init_5 (by decide) ?_
    refine aw_fieldI ho hal rfl (aw_in_1 _ (List.mem_of_getElem? (i := 17) rfl)) rfl (Or.inl ⟨rfl, rfl⟩) h0 (by decide) ⟨Nat.le_of_ble_eq_true rfl, Nat.le_of_ble_eq_true rfl⟩ fi_X6_9 (Nat.le_of_ble_eq_true rfl) dX6_init_8 dX6_init_10 ?_
    refine aw_aload_n dX6_init_13 (q := 0) rfl ?_
    refine aw_sipush (v := nI 128) dX6_init_14 (by decide) ?_
    refine aw_fieldI ho hal rfl (aw_in_1 _ (List.mem_of_getElem? (i := 17) rfl)) rfl (Or.inl ⟨rfl, rfl⟩) h0 (by decide) ⟨Nat.le_of_ble_eq_true rfl, Nat.le_of_ble_eq_true rfl⟩ fi_X6_15 (Nat.le_of_ble_eq_true rfl) dX6_init_17 dX6_init_19 ?_
    refine aw_aload_n dX6_init_22 (q := 0) rfl ?_
    refine aw_sipush (v := nI 128) dX6_init_23 (by decide) ?_
    refine aw_fieldI ho hal rfl (aw_in_1 _ (List.mem_of_getElem? (i := 17) rfl)) rfl (Or.inl ⟨rfl, rfl⟩) h0 (by decide) ⟨Nat.le_of_ble_eq_true rfl, Nat.le_of_ble_eq_true rfl⟩ fi_X6_18 (Nat.le_of_ble_eq_true rfl) dX6_init_26 dX6_init_28 ?_
    refine aw_aload_n dX6_init_31 (q := 0) rfl ?_
    refine aw_bipush (v := nI 24) dX6_init_32 (by decide) ?_
    refine aw_fieldI ho hal rfl (aw_in_1 _ (List.mem_of_getElem? (i := 17) rfl)) rfl (Or.inl ⟨rfl, rfl⟩) h0 (by decide) ⟨Nat.le_of_ble_eq_true rfl, Nat.le_of_ble_eq_true rfl⟩ fi_X6_21 (Nat.le_of_ble_eq_true rfl) dX6_init_34 dX6_init_36 ?_
    refine aw_aload_n dX6_init_39 (q := 0) rfl ?_
    refine aw_bipush (v := nI 24) dX6_init_40 (by decide) ?_
    refine aw_fieldI ho hal rfl (aw_in_1 _ (List.mem_of_getElem? (i := 17) rfl)) rfl (Or.inl ⟨rfl, rfl⟩) h0 (by decide) ⟨Nat.le_of_ble_eq_true rfl, Nat.le_of_ble_eq_true rfl⟩ fi_X6_24 (Nat.le_of_ble_eq_true rfl) dX6_init_42 dX6_init_44 ?_
    exact aw_vret rfl ⟨Nat.le_of_ble_eq_true rfl, Nat.le_of_ble_eq_true rfl⟩ dX6_init_47
  rw [bn_0 hs] at K
  exact K
/-! LateMover$Run -/
theorem fi_X8_9 : aw_Fd RX8 9 8 0 (.array .int) true := ⟨RX8, TX8, 10, tyX8, rfl, by decide, inlX8, tyX8_ok, nmX8, aw_in_6 _ (List.mem_of_getElem? (i := 4) rfl), rfl, rfl, (fun _ => rfl)⟩
theorem fi_X8_15 : aw_Fd RX8 15 8 1 (.array .int) true := ⟨RX8, TX8, 10, tyX8, rfl, by decide, inlX8, tyX8_ok, nmX8, aw_in_6 _ (List.mem_of_getElem? (i := 5) rfl), rfl, rfl, (fun _ => rfl)⟩
theorem fi_X8_18 : aw_Fd RX8 18 8 2 (.array .int) true := ⟨RX8, TX8, 10, tyX8, rfl, by decide, inlX8, tyX8_ok, nmX8, aw_in_6 _ (List.mem_of_getElem? (i := 6) rfl), rfl, rfl, (fun _ => rfl)⟩
theorem fi_X8_21 : aw_Fd RX8 21 8 3 (.array .int) true := ⟨RX8, TX8, 10, tyX8, rfl, by decide, inlX8, tyX8_ok, nmX8, aw_in_6 _ (List.mem_of_getElem? (i := 7) rfl), rfl, rfl, (fun _ => rfl)⟩
def born_X8 : List aw_F := [.inl 3, .inl 3, .inl 3, .inl 3, .inl 0, .inl 0, .inl 0, .inl 0, .inl 0, .inl 0]
def fin_X8 (n : Nat) : List aw_F := [.inr (n + 0), .inr (n + 1), .inr (n + 2), .inr (n + 3), .inl 0, .inl 0, .inl 0, .inl 0, .inl 0, .inl 0]
def nw_X8 (n : Nat) : List aw_H := [.inr (0, 26, aw_no), .inr (0, 40, aw_no), .inr (0, 24, aw_no), .inr (0, 24, aw_no)]
abbrev M_X8_init : aw_M := (RX8, cX8_init, 1, none, true)
abbrev B_X8_init : aw_B := (1, 12, 4, 114)
theorem yi_X8 : aw_Y yX8_init M_X8_init 0 ∧ Cond.instanceMethod yX8_init ∈ wsL_law := ⟨⟨aw_in_6 _ (List.mem_of_getElem? (i := 2) rfl), aw_in_1 _ (List.mem_of_getElem? (i := 21) rfl), by decide +kernel, by decide +kernel, by decide +kernel⟩, aw_in_6 _ (List.mem_of_getElem? (i := 1) rfl)⟩
theorem born_X8_ok {σ : aw_S} {k : Nat} (h0 : ∀ j, σ.1 k j = 0 ∧ σ.2.1 k j = 0) : ∀ b, ∀ j, j < 10 → defaultValue (tyX8 j) = vp_V (born_X8.mapIdx (fun j f => aw_fv b σ k j f)) j := by
  intro b j hj
  rcases (show j = 0 ∨ j = 1 ∨ j = 2 ∨ j = 3 ∨ j = 4 ∨ j = 5 ∨ j = 6 ∨ j = 7 ∨ j = 8 ∨ j = 9 by omega) with rfl | rfl | rfl | rfl | rfl | rfl | rfl | rfl | rfl | rfl
  · exact bn_v (j := 0) (f := .inl 3) rfl rfl
  · exact bn_v (j := 1) (f := .inl 3) rfl rfl
  · exact bn_v (j := 2) (f := .inl 3) rfl rfl
  · exact bn_v (j := 3) (f := .inl 3) rfl rfl
  · exact bn_v (j := 4) (f := .inl 0) rfl (by show Value.int 0 = Value.int (σ.1 k 4); rw [(h0 4).1])
  · exact bn_v (j := 5) (f := .inl 0) rfl (by show Value.int 0 = Value.int (σ.1 k 5); rw [(h0 5).1])
  · exact bn_v (j := 6) (f := .inl 0) rfl (by show Value.int 0 = Value.int (σ.1 k 6); rw [(h0 6).1])
  · exact bn_v (j := 7) (f := .inl 0) rfl (by show Value.int 0 = Value.int (σ.1 k 7); rw [(h0 7).1])
  · exact bn_v (j := 8) (f := .inl 0) rfl (by show Value.int 0 = Value.int (σ.1 k 8); rw [(h0 8).1])
  · exact bn_v (j := 9) (f := .inl 0) rfl (by show Value.int 0 = Value.int (σ.1 k 9); rw [(h0 9).1])
set_option maxHeartbeats 1000000 in
theorem c_X8_init {l : Launch} {G : aw_G} {σ : aw_S} {sh : List aw_H} {o : Nat} (hal : G.2.2.2.2) (hs : sh[o]? = some (.inl (8, born_X8))) (h0 : ∀ c, sh.length ≤ c → ∀ j, σ.1 c j = 0 ∧ σ.2.1 c j = 0) : aw_Ct l yX8_init M_X8_init G B_X8_init [.ref o] sh σ (none, bn sh o 8 (fin_X8 sh.length) (nw_X8 sh.length), σ) := by
  refine aw_Ct_of (by decide) rfl (fun _ => rfl) (Nat.le_of_ble_eq_true rfl) ?_
  have ho := (List.getElem?_eq_some_iff.mp hs).1
  have K : aw_W l M_X8_init G B_X8_init (none, bn sh o 8 (fin_X8 sh.length) (nw_X8 sh.length), σ) 0 [(0, .ref o)] [] (bn sh o 8 born_X8 []) σ 0 0 := by
    refine aw_aload_n dX8_init_0 (q := 0) rfl ?_
    refine aw_oinit (aw_in_6 _ (List.mem_of_getElem? (i := 3) rfl)) (aw_in_0 _ (List.mem_of_getElem? (i := 10) rfl)) (aw_in_0 _ (List.mem_of_getElem? (i := 11) rfl)) ⟨Nat.le_of_ble_eq_true rfl, Nat.le_of_ble_eq_true rfl⟩ dX8_init_1 ?_
    refine aw_aload_n dX8_init_4 (q := 0) rfl ?_
    refine aw_bipush (v := nI 26) dX8_init_5 (by decide) ?_
    refine aw_fieldI ho hal rfl (aw_in_1 _ (List.mem_of_getElem? (i := 17) rfl)) rfl (Or.inl ⟨rfl, rfl⟩) h0 (by decide) ⟨Nat.le_of_ble_eq_true rfl, Nat.le_of_ble_eq_true rfl⟩ fi_X8_9 (Nat.le_of_ble_eq_true rfl) dX8_init_7 dX8_init_9 ?_
    refine aw_aload_n dX8_init_12 (q := 0) rfl ?_
    refine aw_bipush (v := nI 40) dX8_init_13 (by decide) ?_
    refine aw_fieldI ho hal rfl (aw_in_1 _ (List.mem_of_getElem? (i := 17) rfl)) rfl (Or.inl ⟨rfl, rfl⟩) h0 (by decide) ⟨Nat.le_of_ble_eq_true rfl, Nat.le_of_ble_eq_true rfl⟩ fi_X8_15 (Nat.le_of_ble_eq_true rfl) dX8_init_15 dX8_init_17 ?_
    refine aw_aload_n dX8_init_20 (q := 0) rfl ?_
    refine aw_bipush (v := nI 24) dX8_init_21 (by decide) ?_
    refine aw_fieldI ho hal rfl (aw_in_1 _ (List.mem_of_getElem? (i := 17) rfl)) rfl (Or.inl ⟨rfl, rfl⟩) h0 (by decide) ⟨Nat.le_of_ble_eq_true rfl, Nat.le_of_ble_eq_true rfl⟩ fi_X8_18 (Nat.le_of_ble_eq_true rfl) dX8_init_23 dX8_init_25 ?_
    refine aw_aload_n dX8_init_28 (q := 0) rfl ?_
    refine aw_bipush (v := nI 24) dX8_init_29 (by decide) ?_
    refine aw_fieldI ho hal rfl (aw_in_1 _ (List.mem_of_getElem? (i := 17) rfl)) rfl (Or.inl ⟨rfl, rfl⟩) h0 (by decide) ⟨Nat.le_of_ble_eq_true rfl, Nat.le_of_ble_eq_true rfl⟩ fi_X8_21 (Nat.le_of_ble_eq_true rfl) dX8_init_31 dX8_init_33 ?_
    exact aw_vret rfl ⟨Nat.le_of_ble_eq_true rfl, Nat.le_of_ble_eq_true rfl⟩ dX8_init_36
  rw [bn_0 hs] at K
  exact K
/-! LateMover$Reader -/
theorem fi_X7_12 : aw_Fd RX7 12 7 0 (.object "LateMover$Text") true := ⟨RX7, TX7, 16, tyX7, rfl, by decide, inlX7, tyX7_ok, nmX7, aw_in_2 _ (List.mem_of_getElem? (i := 19) rfl), rfl, rfl, (fun _ => rfl)⟩
theorem fi_X7_21 : aw_Fd RX7 21 7 1 (.object "LateMover$Expressions") true := ⟨RX7, TX7, 16, tyX7, rfl, by decide, inlX7, tyX7_ok, nmX7, aw_in_2 _ (List.mem_of_getElem? (i := 23) rfl), rfl, rfl, (fun _ => rfl)⟩
theorem fi_X7_25 : aw_Fd RX7 25 7 2 (.array .int) true := ⟨RX7, TX7, 16, tyX7, rfl, by decide, inlX7, tyX7_ok, nmX7, aw_in_3 _ (List.mem_of_getElem? (i := 0) rfl), rfl, rfl, (fun _ => rfl)⟩
theorem fi_X7_29 : aw_Fd RX7 29 7 3 (.array .int) true := ⟨RX7, TX7, 16, tyX7, rfl, by decide, inlX7, tyX7_ok, nmX7, aw_in_3 _ (List.mem_of_getElem? (i := 1) rfl), rfl, rfl, (fun _ => rfl)⟩
theorem fi_X7_32 : aw_Fd RX7 32 7 4 (.array .int) true := ⟨RX7, TX7, 16, tyX7, rfl, by decide, inlX7, tyX7_ok, nmX7, aw_in_3 _ (List.mem_of_getElem? (i := 2) rfl), rfl, rfl, (fun _ => rfl)⟩
theorem fi_X7_35 : aw_Fd RX7 35 7 5 (.array .int) true := ⟨RX7, TX7, 16, tyX7, rfl, by decide, inlX7, tyX7_ok, nmX7, aw_in_3 _ (List.mem_of_getElem? (i := 3) rfl), rfl, rfl, (fun _ => rfl)⟩
theorem fi_X7_38 : aw_Fd RX7 38 7 6 (.array .int) true := ⟨RX7, TX7, 16, tyX7, rfl, by decide, inlX7, tyX7_ok, nmX7, aw_in_3 _ (List.mem_of_getElem? (i := 4) rfl), rfl, rfl, (fun _ => rfl)⟩
theorem fi_X7_41 : aw_Fd RX7 41 7 7 (.array .int) true := ⟨RX7, TX7, 16, tyX7, rfl, by decide, inlX7, tyX7_ok, nmX7, aw_in_3 _ (List.mem_of_getElem? (i := 5) rfl), rfl, rfl, (fun _ => rfl)⟩
theorem fi_X7_44 : aw_Fd RX7 44 7 8 (.array .int) true := ⟨RX7, TX7, 16, tyX7, rfl, by decide, inlX7, tyX7_ok, nmX7, aw_in_3 _ (List.mem_of_getElem? (i := 6) rfl), rfl, rfl, (fun _ => rfl)⟩
theorem fi_X7_47 : aw_Fd RX7 47 7 9 (.array .int) true := ⟨RX7, TX7, 16, tyX7, rfl, by decide, inlX7, tyX7_ok, nmX7, aw_in_3 _ (List.mem_of_getElem? (i := 7) rfl), rfl, rfl, (fun _ => rfl)⟩
theorem fi_X7_50 : aw_Fd RX7 50 7 10 (.array .int) true := ⟨RX7, TX7, 16, tyX7, rfl, by decide, inlX7, tyX7_ok, nmX7, aw_in_3 _ (List.mem_of_getElem? (i := 8) rfl), rfl, rfl, (fun _ => rfl)⟩
def born_X7 : List aw_F := [.inl 3, .inl 3, .inl 3, .inl 3, .inl 3, .inl 3, .inl 3, .inl 3, .inl 3, .inl 3, .inl 3, .inl 0, .inl 0, .inl 0, .inl 0, .inl 0]
def fin_X7 (n : Nat) : List aw_F := [.inr (n + 0), .inr (n + 2), .inr (n + 6), .inr (n + 7), .inr (n + 8), .inr (n + 9), .inr (n + 10), .inr (n + 11), .inr (n + 12), .inr (n + 13), .inr (n + 14), .inl 0, .inl 0, .inl 0, .inl 0, .inl 0]
def nw_X7 (n : Nat) : List aw_H := [.inl (9, fin_X9 (n + 0 + 1)), .inr (1, 800, aw_no), .inl (0, fin_X0 (n + 2 + 1)), .inr (0, 24, aw_no), .inr (0, 24, aw_no), .inr (0, 24, aw_no), .inr (0, 76, aw_no), .inr (0, 76, aw_no), .inr (0, 76, aw_no), .inr (0, 76, aw_no), .inr (0, 76, aw_no), .inr (0, 76, aw_no), .inr (0, 76, aw_no), .inr (0, 76, aw_no), .inr (0, 76, aw_no)]
abbrev M_X7_init : aw_M := (RX7, cX7_init, 1, none, true)
abbrev B_X7_init : aw_B := (2, 32, 15, 1562)
theorem yi_X7 : aw_Y yX7_init M_X7_init 0 ∧ Cond.instanceMethod yX7_init ∈ wsL_law := ⟨⟨aw_in_2 _ (List.mem_of_getElem? (i := 16) rfl), aw_in_0 _ (List.mem_of_getElem? (i := 21) rfl), by decide +kernel, by decide +kernel, by decide +kernel⟩, aw_in_2 _ (List.mem_of_getElem? (i := 15) rfl)⟩
theorem born_X7_ok {σ : aw_S} {k : Nat} (h0 : ∀ j, σ.1 k j = 0 ∧ σ.2.1 k j = 0) : ∀ b, ∀ j, j < 16 → defaultValue (tyX7 j) = vp_V (born_X7.mapIdx (fun j f => aw_fv b σ k j f)) j := by
  intro b j hj
  rcases (show j = 0 ∨ j = 1 ∨ j = 2 ∨ j = 3 ∨ j = 4 ∨ j = 5 ∨ j = 6 ∨ j = 7 ∨ j = 8 ∨ j = 9 ∨ j = 10 ∨ j = 11 ∨ j = 12 ∨ j = 13 ∨ j = 14 ∨ j = 15 by omega) with rfl | rfl | rfl | rfl | rfl | rfl | rfl | rfl | rfl | rfl | rfl | rfl | rfl | rfl | rfl | rfl
  · exact bn_v (j := 0) (f := .inl 3) rfl rfl
  · exact bn_v (j := 1) (f := .inl 3) rfl rfl
  · exact bn_v (j := 2) (f := .inl 3) rfl rfl
  · exact bn_v (j := 3) (f := .inl 3) rfl rfl
  · exact bn_v (j := 4) (f := .inl 3) rfl rfl
  · exact bn_v (j := 5) (f := .inl 3) rfl rfl
  · exact bn_v (j := 6) (f := .inl 3) rfl rfl
  · exact bn_v (j := 7) (f := .inl 3) rfl rfl
  · exact bn_v (j := 8) (f := .inl 3) rfl rfl
  · exact bn_v (j := 9) (f := .inl 3) rfl rfl
  · exact bn_v (j := 10) (f := .inl 3) rfl rfl
  · exact bn_v (j := 11) (f := .inl 0) rfl (by show Value.int 0 = Value.int (σ.1 k 11); rw [(h0 11).1])
  · exact bn_v (j := 12) (f := .inl 0) rfl (by show Value.int 0 = Value.int (σ.1 k 12); rw [(h0 12).1])
  · exact bn_v (j := 13) (f := .inl 0) rfl (by show Value.int 0 = Value.int (σ.1 k 13); rw [(h0 13).1])
  · exact bn_v (j := 14) (f := .inl 0) rfl (by show Value.int 0 = Value.int (σ.1 k 14); rw [(h0 14).1])
  · exact bn_v (j := 15) (f := .inl 0) rfl (by show Value.int 0 = Value.int (σ.1 k 15); rw [(h0 15).1])
set_option maxHeartbeats 1000000 in
theorem c_X7_init {l : Launch} {G : aw_G} {σ : aw_S} {sh : List aw_H} {o : Nat} (hal : G.2.2.2.2) (hs : sh[o]? = some (.inl (7, born_X7))) (h0 : ∀ c, sh.length ≤ c → ∀ j, σ.1 c j = 0 ∧ σ.2.1 c j = 0) : aw_Ct l yX7_init M_X7_init G B_X7_init [.ref o] sh σ (none, bn sh o 7 (fin_X7 sh.length) (nw_X7 sh.length), σ) := by
  refine aw_Ct_of (by decide) rfl (fun _ => rfl) (Nat.le_of_ble_eq_true rfl) ?_
  have ho := (List.getElem?_eq_some_iff.mp hs).1
  have K : aw_W l M_X7_init G B_X7_init (none, bn sh o 7 (fin_X7 sh.length) (nw_X7 sh.length), σ) 0 [(0, .ref o)] [] (bn sh o 7 born_X7 []) σ 0 0 := by
    refine aw_aload_n dX7_init_0 (q := 0) rfl ?_
    refine aw_oinit (aw_in_2 _ (List.mem_of_getElem? (i := 17) rfl)) (aw_in_0 _ (List.mem_of_getElem? (i := 10) rfl)) (aw_in_0 _ (List.mem_of_getElem? (i := 11) rfl)) ⟨Nat.le_of_ble_eq_true rfl, Nat.le_of_ble_eq_true rfl⟩ dX7_init_1 ?_
    refine aw_aload_n dX7_init_4 (q := 0) rfl ?_
    refine aw_fieldC ho hal rfl inlX9 tyX9_ok (aw_in_2 _ (List.mem_of_getElem? (i := 18) rfl)) (aw_in_0 _ (List.mem_of_getElem? (i := 13) rfl)) (aw_in_0 _ (List.mem_of_getElem? (i := 14) rfl)) (c1 := 9) (N := 2) rfl (born_X9_ok (fun j => h0 _ (by omega) j)) (aw_in (F := fin_X9) (NW := nw_X9) (c_X9_init hal bn_last (fun c hc j => h0 c (by rw [bn_len] at hc; omega) j))) yi_X9.1 (host := RX11) (by decide +kernel) yi_X9.2 rfl rfl ⟨Nat.le_of_ble_eq_true rfl, Nat.le_of_ble_eq_true rfl⟩ rfl ⟨Nat.le_of_ble_eq_true rfl, Nat.le_of_ble_eq_true rfl⟩ fi_X7_12 (fun _ => rfl) (fun _ => rfl) (Nat.le_of_ble_eq_true rfl) dX7_init_5 dX7_init_8 dX7_init_9 dX7_init_12 ?_
    refine aw_aload_n dX7_init_15 (q := 0) rfl ?_
    refine aw_fieldC ho hal rfl inlX0 tyX0_ok (aw_in_2 _ (List.mem_of_getElem? (i := 20) rfl)) (aw_in_2 _ (List.mem_of_getElem? (i := 21) rfl)) (aw_in_2 _ (List.mem_of_getElem? (i := 22) rfl)) (c1 := 0) (N := 4) rfl (born_X0_ok (fun j => h0 _ (by omega) j)) (aw_in (F := fin_X0) (NW := nw_X0) (c_X0_init hal bn_last (fun c hc j => h0 c (by rw [bn_len] at hc; omega) j))) yi_X0.1 (host := RX11) (by decide +kernel) yi_X0.2 rfl rfl ⟨Nat.le_of_ble_eq_true rfl, Nat.le_of_ble_eq_true rfl⟩ rfl ⟨Nat.le_of_ble_eq_true rfl, Nat.le_of_ble_eq_true rfl⟩ fi_X7_21 (fun _ => rfl) (fun _ => rfl) (Nat.le_of_ble_eq_true rfl) dX7_init_16 dX7_init_19 dX7_init_20 dX7_init_23 ?_
    refine aw_aload_n dX7_init_26 (q := 0) rfl ?_
    refine aw_bipush (v := nI 76) dX7_init_27 (by decide) ?_
    refine aw_fieldI ho hal rfl (aw_in_1 _ (List.mem_of_getElem? (i := 17) rfl)) rfl (Or.inl ⟨rfl, rfl⟩) h0 (by decide) ⟨Nat.le_of_ble_eq_true rfl, Nat.le_of_ble_eq_true rfl⟩ fi_X7_25 (Nat.le_of_ble_eq_true rfl) dX7_init_29 dX7_init_31 ?_
    refine aw_aload_n dX7_init_34 (q := 0) rfl ?_
    refine aw_bipush (v := nI 76) dX7_init_35 (by decide) ?_
    refine aw_fieldI ho hal rfl (aw_in_1 _ (List.mem_of_getElem? (i := 17) rfl)) rfl (Or.inl ⟨rfl, rfl⟩) h0 (by decide) ⟨Nat.le_of_ble_eq_true rfl, Nat.le_of_ble_eq_true rfl⟩ fi_X7_29 (Nat.le_of_ble_eq_true rfl) dX7_init_37 dX7_init_39 ?_
    refine aw_aload_n dX7_init_42 (q := 0) rfl ?_
    refine aw_bipush (v := nI 76) dX7_init_43 (by decide) ?_
    refine aw_fieldI ho hal rfl (aw_in_1 _ (List.mem_of_getElem? (i := 17) rfl)) rfl (Or.inl ⟨rfl, rfl⟩) h0 (by decide) ⟨Nat.le_of_ble_eq_true rfl, Nat.le_of_ble_eq_true rfl⟩ fi_X7_32 (Nat.le_of_ble_eq_true rfl) dX7_init_45 dX7_init_47 ?_
    refine aw_aload_n dX7_init_50 (q := 0) rfl ?_
    refine aw_bipush (v := nI 76) dX7_init_51 (by decide) ?_
    refine aw_fieldI ho hal rfl (aw_in_1 _ (List.mem_of_getElem? (i := 17) rfl)) rfl (Or.inl ⟨rfl, rfl⟩) h0 (by decide) ⟨Nat.le_of_ble_eq_true rfl, Nat.le_of_ble_eq_true rfl⟩ fi_X7_35 (Nat.le_of_ble_eq_true rfl) dX7_init_53 dX7_init_55 ?_
    refine aw_aload_n dX7_init_58 (q := 0) rfl ?_
    refine aw_bipush (v := nI 76) dX7_init_59 (by decide) ?_
    refine aw_fieldI ho hal rfl (aw_in_1 _ (List.mem_of_getElem? (i := 17) rfl)) rfl (Or.inl ⟨rfl, rfl⟩) h0 (by decide) ⟨Nat.le_of_ble_eq_true rfl, Nat.le_of_ble_eq_true rfl⟩ fi_X7_38 (Nat.le_of_ble_eq_true rfl) dX7_init_61 dX7_init_63 ?_
    refine aw_aload_n dX7_init_66 (q := 0) rfl ?_
    refine aw_bipush (v := nI 76) dX7_init_67 (by decide) ?_
    refine aw_fieldI ho hal rfl (aw_in_1 _ (List.mem_of_getElem? (i := 17) rfl)) rfl (Or.inl ⟨rfl, rfl⟩) h0 (by decide) ⟨Nat.le_of_ble_eq_true rfl, Nat.le_of_ble_eq_true rfl⟩ fi_X7_41 (Nat.le_of_ble_eq_true rfl) dX7_init_69 dX7_init_71 ?_
    refine aw_aload_n dX7_init_74 (q := 0) rfl ?_
    refine aw_bipush (v := nI 76) dX7_init_75 (by decide) ?_
    refine aw_fieldI ho hal rfl (aw_in_1 _ (List.mem_of_getElem? (i := 17) rfl)) rfl (Or.inl ⟨rfl, rfl⟩) h0 (by decide) ⟨Nat.le_of_ble_eq_true rfl, Nat.le_of_ble_eq_true rfl⟩ fi_X7_44 (Nat.le_of_ble_eq_true rfl) dX7_init_77 dX7_init_79 ?_
    refine aw_aload_n dX7_init_82 (q := 0) rfl ?_
    refine aw_bipush (v := nI 76) dX7_init_83 (by decide) ?_
    refine aw_fieldI ho hal rfl (aw_in_1 _ (List.mem_of_getElem? (i := 17) rfl)) rfl (Or.inl ⟨rfl, rfl⟩) h0 (by decide) ⟨Nat.le_of_ble_eq_true rfl, Nat.le_of_ble_eq_true rfl⟩ fi_X7_47 (Nat.le_of_ble_eq_true rfl) dX7_init_85 dX7_init_87 ?_
    refine aw_aload_n dX7_init_90 (q := 0) rfl ?_
    refine aw_bipush (v := nI 76) dX7_init_91 (by decide) ?_
    refine aw_fieldI ho hal rfl (aw_in_1 _ (List.mem_of_getElem? (i := 17) rfl)) rfl (Or.inl ⟨rfl, rfl⟩) h0 (by decide) ⟨Nat.le_of_ble_eq_true rfl, Nat.le_of_ble_eq_true rfl⟩ fi_X7_50 (Nat.le_of_ble_eq_true rfl) dX7_init_93 dX7_init_95 ?_
    exact aw_vret rfl ⟨Nat.le_of_ble_eq_true rfl, Nat.le_of_ble_eq_true rfl⟩ dX7_init_98
  rw [bn_0 hs] at K
  exact K
/-! LateMover$Graph -/
theorem fi_X3_12 : aw_Fd RX3 12 3 0 (.object "LateMover$Expressions") true := ⟨RX3, TX3, 15, tyX3, rfl, by decide, inlX3, tyX3_ok, nmX3, aw_in_3 _ (List.mem_of_getElem? (i := 19) rfl), rfl, rfl, (fun _ => rfl)⟩
theorem fi_X3_18 : aw_Fd RX3 18 3 1 (.array .int) true := ⟨RX3, TX3, 15, tyX3, rfl, by decide, inlX3, tyX3_ok, nmX3, aw_in_3 _ (List.mem_of_getElem? (i := 20) rfl), rfl, rfl, (fun _ => rfl)⟩
theorem fi_X3_22 : aw_Fd RX3 22 3 2 (.array .int) true := ⟨RX3, TX3, 15, tyX3, rfl, by decide, inlX3, tyX3_ok, nmX3, aw_in_3 _ (List.mem_of_getElem? (i := 21) rfl), rfl, rfl, (fun _ => rfl)⟩
theorem fi_X3_25 : aw_Fd RX3 25 3 3 (.array .int) true := ⟨RX3, TX3, 15, tyX3, rfl, by decide, inlX3, tyX3_ok, nmX3, aw_in_3 _ (List.mem_of_getElem? (i := 22) rfl), rfl, rfl, (fun _ => rfl)⟩
theorem fi_X3_28 : aw_Fd RX3 28 3 4 (.array .int) true := ⟨RX3, TX3, 15, tyX3, rfl, by decide, inlX3, tyX3_ok, nmX3, aw_in_3 _ (List.mem_of_getElem? (i := 23) rfl), rfl, rfl, (fun _ => rfl)⟩
theorem fi_X3_31 : aw_Fd RX3 31 3 5 (.array .int) true := ⟨RX3, TX3, 15, tyX3, rfl, by decide, inlX3, tyX3_ok, nmX3, aw_in_4 _ (List.mem_of_getElem? (i := 0) rfl), rfl, rfl, (fun _ => rfl)⟩
theorem fi_X3_34 : aw_Fd RX3 34 3 6 (.array .int) true := ⟨RX3, TX3, 15, tyX3, rfl, by decide, inlX3, tyX3_ok, nmX3, aw_in_4 _ (List.mem_of_getElem? (i := 1) rfl), rfl, rfl, (fun _ => rfl)⟩
theorem fi_X3_37 : aw_Fd RX3 37 3 7 (.array .int) true := ⟨RX3, TX3, 15, tyX3, rfl, by decide, inlX3, tyX3_ok, nmX3, aw_in_4 _ (List.mem_of_getElem? (i := 2) rfl), rfl, rfl, (fun _ => rfl)⟩
theorem fi_X3_40 : aw_Fd RX3 40 3 8 (.array .int) true := ⟨RX3, TX3, 15, tyX3, rfl, by decide, inlX3, tyX3_ok, nmX3, aw_in_4 _ (List.mem_of_getElem? (i := 3) rfl), rfl, rfl, (fun _ => rfl)⟩
theorem fi_X3_43 : aw_Fd RX3 43 3 9 (.array .int) true := ⟨RX3, TX3, 15, tyX3, rfl, by decide, inlX3, tyX3_ok, nmX3, aw_in_4 _ (List.mem_of_getElem? (i := 4) rfl), rfl, rfl, (fun _ => rfl)⟩
theorem fi_X3_46 : aw_Fd RX3 46 3 10 (.array .int) true := ⟨RX3, TX3, 15, tyX3, rfl, by decide, inlX3, tyX3_ok, nmX3, aw_in_4 _ (List.mem_of_getElem? (i := 5) rfl), rfl, rfl, (fun _ => rfl)⟩
theorem fi_X3_49 : aw_Fd RX3 49 3 11 (.array .int) true := ⟨RX3, TX3, 15, tyX3, rfl, by decide, inlX3, tyX3_ok, nmX3, aw_in_4 _ (List.mem_of_getElem? (i := 6) rfl), rfl, rfl, (fun _ => rfl)⟩
theorem fi_X3_52 : aw_Fd RX3 52 3 12 (.array .int) true := ⟨RX3, TX3, 15, tyX3, rfl, by decide, inlX3, tyX3_ok, nmX3, aw_in_4 _ (List.mem_of_getElem? (i := 7) rfl), rfl, rfl, (fun _ => rfl)⟩
def born_X3 : List aw_F := [.inl 3, .inl 3, .inl 3, .inl 3, .inl 3, .inl 3, .inl 3, .inl 3, .inl 3, .inl 3, .inl 3, .inl 3, .inl 3, .inl 0, .inl 0]
def fin_X3 (n : Nat) : List aw_F := [.inr (n + 0), .inr (n + 4), .inr (n + 5), .inr (n + 6), .inr (n + 7), .inr (n + 8), .inr (n + 9), .inr (n + 10), .inr (n + 11), .inr (n + 12), .inr (n + 13), .inr (n + 14), .inr (n + 15), .inl 0, .inl 0]
def nw_X3 (n : Nat) : List aw_H := [.inl (0, fin_X0 (n + 0 + 1)), .inr (0, 24, aw_no), .inr (0, 24, aw_no), .inr (0, 24, aw_no), .inr (0, 128, aw_no), .inr (0, 128, aw_no), .inr (0, 128, aw_no), .inr (0, 128, aw_no), .inr (0, 128, aw_no), .inr (0, 128, aw_no), .inr (0, 128, aw_no), .inr (0, 128, aw_no), .inr (0, 128, aw_no), .inr (0, 256, aw_no), .inr (0, 129, aw_no), .inr (0, 16, aw_no)]
abbrev M_X3_init : aw_M := (RX3, cX3_init, 1, none, true)
abbrev B_X3_init : aw_B := (2, 32, 16, 1629)
theorem yi_X3 : aw_Y yX3_init M_X3_init 0 ∧ Cond.instanceMethod yX3_init ∈ wsL_law := ⟨⟨aw_in_3 _ (List.mem_of_getElem? (i := 16) rfl), aw_in_1 _ (List.mem_of_getElem? (i := 1) rfl), by decide +kernel, by decide +kernel, by decide +kernel⟩, aw_in_3 _ (List.mem_of_getElem? (i := 15) rfl)⟩
theorem born_X3_ok {σ : aw_S} {k : Nat} (h0 : ∀ j, σ.1 k j = 0 ∧ σ.2.1 k j = 0) : ∀ b, ∀ j, j < 15 → defaultValue (tyX3 j) = vp_V (born_X3.mapIdx (fun j f => aw_fv b σ k j f)) j := by
  intro b j hj
  rcases (show j = 0 ∨ j = 1 ∨ j = 2 ∨ j = 3 ∨ j = 4 ∨ j = 5 ∨ j = 6 ∨ j = 7 ∨ j = 8 ∨ j = 9 ∨ j = 10 ∨ j = 11 ∨ j = 12 ∨ j = 13 ∨ j = 14 by omega) with rfl | rfl | rfl | rfl | rfl | rfl | rfl | rfl | rfl | rfl | rfl | rfl | rfl | rfl | rfl
  · exact bn_v (j := 0) (f := .inl 3) rfl rfl
  · exact bn_v (j := 1) (f := .inl 3) rfl rfl
  · exact bn_v (j := 2) (f := .inl 3) rfl rfl
  · exact bn_v (j := 3) (f := .inl 3) rfl rfl
  · exact bn_v (j := 4) (f := .inl 3) rfl rfl
  · exact bn_v (j := 5) (f := .inl 3) rfl rfl
  · exact bn_v (j := 6) (f := .inl 3) rfl rfl
  · exact bn_v (j := 7) (f := .inl 3) rfl rfl
  · exact bn_v (j := 8) (f := .inl 3) rfl rfl
  · exact bn_v (j := 9) (f := .inl 3) rfl rfl
  · exact bn_v (j := 10) (f := .inl 3) rfl rfl
  · exact bn_v (j := 11) (f := .inl 3) rfl rfl
  · exact bn_v (j := 12) (f := .inl 3) rfl rfl
  · exact bn_v (j := 13) (f := .inl 0) rfl (by show Value.int 0 = Value.int (σ.1 k 13); rw [(h0 13).1])
  · exact bn_v (j := 14) (f := .inl 0) rfl (by show Value.int 0 = Value.int (σ.1 k 14); rw [(h0 14).1])
set_option maxHeartbeats 1000000 in
theorem c_X3_init {l : Launch} {G : aw_G} {σ : aw_S} {sh : List aw_H} {o : Nat} (hal : G.2.2.2.2) (hs : sh[o]? = some (.inl (3, born_X3))) (h0 : ∀ c, sh.length ≤ c → ∀ j, σ.1 c j = 0 ∧ σ.2.1 c j = 0) : aw_Ct l yX3_init M_X3_init G B_X3_init [.ref o] sh σ (none, bn sh o 3 (fin_X3 sh.length) (nw_X3 sh.length), σ) := by
  refine aw_Ct_of (by decide) rfl (fun _ => rfl) (Nat.le_of_ble_eq_true rfl) ?_
  have ho := (List.getElem?_eq_some_iff.mp hs).1
  have K : aw_W l M_X3_init G B_X3_init (none, bn sh o 3 (fin_X3 sh.length) (nw_X3 sh.length), σ) 0 [(0, .ref o)] [] (bn sh o 3 born_X3 []) σ 0 0 := by
    refine aw_aload_n dX3_init_0 (q := 0) rfl ?_
    refine aw_oinit (aw_in_3 _ (List.mem_of_getElem? (i := 17) rfl)) (aw_in_0 _ (List.mem_of_getElem? (i := 10) rfl)) (aw_in_0 _ (List.mem_of_getElem? (i := 11) rfl)) ⟨Nat.le_of_ble_eq_true rfl, Nat.le_of_ble_eq_true rfl⟩ dX3_init_1 ?_
    refine aw_aload_n dX3_init_4 (q := 0) rfl ?_
    refine aw_fieldC ho hal rfl inlX0 tyX0_ok (aw_in_3 _ (List.mem_of_getElem? (i := 18) rfl)) (aw_in_2 _ (List.mem_of_getElem? (i := 21) rfl)) (aw_in_2 _ (List.mem_of_getElem? (i := 22) rfl)) (c1 := 0) (N := 4) rfl (born_X0_ok (fun j => h0 _ (by omega) j)) (aw_in (F := fin_X0) (NW := nw_X0) (c_X0_init hal bn_last (fun c hc j => h0 c (by rw [bn_len] at hc; omega) j))) yi_X0.1 (host := RX11) (by decide +kernel) yi_X0.2 rfl rfl ⟨Nat.le_of_ble_eq_true rfl, Nat.le_of_ble_eq_true rfl⟩ rfl ⟨Nat.le_of_ble_eq_true rfl, Nat.le_of_ble_eq_true rfl⟩ fi_X3_12 (fun _ => rfl) (fun _ => rfl) (Nat.le_of_ble_eq_true rfl) dX3_init_5 dX3_init_8 dX3_init_9 dX3_init_12 ?_
    refine aw_aload_n dX3_init_15 (q := 0) rfl ?_
    refine aw_sipush (v := nI 128) dX3_init_16 (by decide) ?_
    refine aw_fieldI ho hal rfl (aw_in_1 _ (List.mem_of_getElem? (i := 17) rfl)) rfl (Or.inl ⟨rfl, rfl⟩) h0 (by decide) ⟨Nat.le_of_ble_eq_true rfl, Nat.le_of_ble_eq_true rfl⟩ fi_X3_18 (Nat.le_of_ble_eq_true rfl) dX3_init_19 dX3_init_21 ?_
    refine aw_aload_n dX3_init_24 (q := 0) rfl ?_
    refine aw_sipush (v := nI 128) dX3_init_25 (by decide) ?_
    refine aw_fieldI ho hal rfl (aw_in_1 _ (List.mem_of_getElem? (i := 17) rfl)) rfl (Or.inl ⟨rfl, rfl⟩) h0 (by decide) ⟨Nat.le_of_ble_eq_true rfl, Nat.le_of_ble_eq_true rfl⟩ fi_X3_22 (Nat.le_of_ble_eq_true rfl) dX3_init_28 dX3_init_30 ?_
    refine aw_aload_n dX3_init_33 (q := 0) rfl ?_
    refine aw_sipush (v := nI 128) dX3_init_34 (by decide) ?_
    refine aw_fieldI ho hal rfl (aw_in_1 _ (List.mem_of_getElem? (i := 17) rfl)) rfl (Or.inl ⟨rfl, rfl⟩) h0 (by decide) ⟨Nat.le_of_ble_eq_true rfl, Nat.le_of_ble_eq_true rfl⟩ fi_X3_25 (Nat.le_of_ble_eq_true rfl) dX3_init_37 dX3_init_39 ?_
    refine aw_aload_n dX3_init_42 (q := 0) rfl ?_
    refine aw_sipush (v := nI 128) dX3_init_43 (by decide) ?_
    refine aw_fieldI ho hal rfl (aw_in_1 _ (List.mem_of_getElem? (i := 17) rfl)) rfl (Or.inl ⟨rfl, rfl⟩) h0 (by decide) ⟨Nat.le_of_ble_eq_true rfl, Nat.le_of_ble_eq_true rfl⟩ fi_X3_28 (Nat.le_of_ble_eq_true rfl) dX3_init_46 dX3_init_48 ?_
    refine aw_aload_n dX3_init_51 (q := 0) rfl ?_
    refine aw_sipush (v := nI 128) dX3_init_52 (by decide) ?_
    refine aw_fieldI ho hal rfl (aw_in_1 _ (List.mem_of_getElem? (i := 17) rfl)) rfl (Or.inl ⟨rfl, rfl⟩) h0 (by decide) ⟨Nat.le_of_ble_eq_true rfl, Nat.le_of_ble_eq_true rfl⟩ fi_X3_31 (Nat.le_of_ble_eq_true rfl) dX3_init_55 dX3_init_57 ?_
    refine aw_aload_n dX3_init_60 (q := 0) rfl ?_
    refine aw_sipush (v := nI 128) dX3_init_61 (by decide) ?_
    refine aw_fieldI ho hal rfl (aw_in_1 _ (List.mem_of_getElem? (i := 17) rfl)) rfl (Or.inl ⟨rfl, rfl⟩) h0 (by decide) ⟨Nat.le_of_ble_eq_true rfl, Nat.le_of_ble_eq_true rfl⟩ fi_X3_34 (Nat.le_of_ble_eq_true rfl) dX3_init_64 dX3_init_66 ?_
    refine aw_aload_n dX3_init_69 (q := 0) rfl ?_
    refine aw_sipush (v := nI 128) dX3_init_70 (by decide) ?_
    refine aw_fieldI ho hal rfl (aw_in_1 _ (List.mem_of_getElem? (i := 17) rfl)) rfl (Or.inl ⟨rfl, rfl⟩) h0 (by decide) ⟨Nat.le_of_ble_eq_true rfl, Nat.le_of_ble_eq_true rfl⟩ fi_X3_37 (Nat.le_of_ble_eq_true rfl) dX3_init_73 dX3_init_75 ?_
    refine aw_aload_n dX3_init_78 (q := 0) rfl ?_
    refine aw_sipush (v := nI 128) dX3_init_79 (by decide) ?_
    refine aw_fieldI ho hal rfl (aw_in_1 _ (List.mem_of_getElem? (i := 17) rfl)) rfl (Or.inl ⟨rfl, rfl⟩) h0 (by decide) ⟨Nat.le_of_ble_eq_true rfl, Nat.le_of_ble_eq_true rfl⟩ fi_X3_40 (Nat.le_of_ble_eq_true rfl) dX3_init_82 dX3_init_84 ?_
    refine aw_aload_n dX3_init_87 (q := 0) rfl ?_
    refine aw_sipush (v := nI 128) dX3_init_88 (by decide) ?_
    refine aw_fieldI ho hal rfl (aw_in_1 _ (List.mem_of_getElem? (i := 17) rfl)) rfl (Or.inl ⟨rfl, rfl⟩) h0 (by decide) ⟨Nat.le_of_ble_eq_true rfl, Nat.le_of_ble_eq_true rfl⟩ fi_X3_43 (Nat.le_of_ble_eq_true rfl) dX3_init_91 dX3_init_93 ?_
    refine aw_aload_n dX3_init_96 (q := 0) rfl ?_
    refine aw_sipush (v := nI 256) dX3_init_97 (by decide) ?_
    refine aw_fieldI ho hal rfl (aw_in_1 _ (List.mem_of_getElem? (i := 17) rfl)) rfl (Or.inl ⟨rfl, rfl⟩) h0 (by decide) ⟨Nat.le_of_ble_eq_true rfl, Nat.le_of_ble_eq_true rfl⟩ fi_X3_46 (Nat.le_of_ble_eq_true rfl) dX3_init_100 dX3_init_102 ?_
    refine aw_aload_n dX3_init_105 (q := 0) rfl ?_
    refine aw_sipush (v := nI 129) dX3_init_106 (by decide) ?_
    refine aw_fieldI ho hal rfl (aw_in_1 _ (List.mem_of_getElem? (i := 17) rfl)) rfl (Or.inl ⟨rfl, rfl⟩) h0 (by decide) ⟨Nat.le_of_ble_eq_true rfl, Nat.le_of_ble_eq_true rfl⟩ fi_X3_49 (Nat.le_of_ble_eq_true rfl) dX3_init_109 dX3_init_111 ?_
    refine aw_aload_n dX3_init_114 (q := 0) rfl ?_
    refine aw_bipush (v := nI 16) dX3_init_115 (by decide) ?_
    refine aw_fieldI ho hal rfl (aw_in_1 _ (List.mem_of_getElem? (i := 17) rfl)) rfl (Or.inl ⟨rfl, rfl⟩) h0 (by decide) ⟨Nat.le_of_ble_eq_true rfl, Nat.le_of_ble_eq_true rfl⟩ fi_X3_52 (Nat.le_of_ble_eq_true rfl) dX3_init_117 dX3_init_119 ?_
    exact aw_vret rfl ⟨Nat.le_of_ble_eq_true rfl, Nat.le_of_ble_eq_true rfl⟩ dX3_init_122
  rw [bn_0 hs] at K
  exact K
/-! LateMover$Facts -/
theorem fi_X1_12 : aw_Fd RX1 12 1 0 (.object "LateMover$Flow") true := ⟨RX1, TX1, 14, tyX1, rfl, by decide, inlX1, tyX1_ok, nmX1, aw_in_4 _ (List.mem_of_getElem? (i := 14) rfl), rfl, rfl, (fun _ => rfl)⟩
theorem fi_X1_18 : aw_Fd RX1 18 1 1 (.array .int) true := ⟨RX1, TX1, 14, tyX1, rfl, by decide, inlX1, tyX1_ok, nmX1, aw_in_4 _ (List.mem_of_getElem? (i := 15) rfl), rfl, rfl, (fun _ => rfl)⟩
theorem fi_X1_22 : aw_Fd RX1 22 1 2 (.array .int) true := ⟨RX1, TX1, 14, tyX1, rfl, by decide, inlX1, tyX1_ok, nmX1, aw_in_4 _ (List.mem_of_getElem? (i := 16) rfl), rfl, rfl, (fun _ => rfl)⟩
theorem fi_X1_25 : aw_Fd RX1 25 1 3 (.array .int) true := ⟨RX1, TX1, 14, tyX1, rfl, by decide, inlX1, tyX1_ok, nmX1, aw_in_4 _ (List.mem_of_getElem? (i := 17) rfl), rfl, rfl, (fun _ => rfl)⟩
theorem fi_X1_28 : aw_Fd RX1 28 1 4 (.array .int) true := ⟨RX1, TX1, 14, tyX1, rfl, by decide, inlX1, tyX1_ok, nmX1, aw_in_4 _ (List.mem_of_getElem? (i := 18) rfl), rfl, rfl, (fun _ => rfl)⟩
theorem fi_X1_31 : aw_Fd RX1 31 1 5 (.array .int) true := ⟨RX1, TX1, 14, tyX1, rfl, by decide, inlX1, tyX1_ok, nmX1, aw_in_4 _ (List.mem_of_getElem? (i := 19) rfl), rfl, rfl, (fun _ => rfl)⟩
theorem fi_X1_34 : aw_Fd RX1 34 1 6 (.array .int) true := ⟨RX1, TX1, 14, tyX1, rfl, by decide, inlX1, tyX1_ok, nmX1, aw_in_4 _ (List.mem_of_getElem? (i := 20) rfl), rfl, rfl, (fun _ => rfl)⟩
theorem fi_X1_37 : aw_Fd RX1 37 1 7 (.array .int) true := ⟨RX1, TX1, 14, tyX1, rfl, by decide, inlX1, tyX1_ok, nmX1, aw_in_4 _ (List.mem_of_getElem? (i := 21) rfl), rfl, rfl, (fun _ => rfl)⟩
theorem fi_X1_40 : aw_Fd RX1 40 1 8 (.array .int) true := ⟨RX1, TX1, 14, tyX1, rfl, by decide, inlX1, tyX1_ok, nmX1, aw_in_4 _ (List.mem_of_getElem? (i := 22) rfl), rfl, rfl, (fun _ => rfl)⟩
theorem fi_X1_43 : aw_Fd RX1 43 1 9 (.array .int) true := ⟨RX1, TX1, 14, tyX1, rfl, by decide, inlX1, tyX1_ok, nmX1, aw_in_4 _ (List.mem_of_getElem? (i := 23) rfl), rfl, rfl, (fun _ => rfl)⟩
theorem fi_X1_46 : aw_Fd RX1 46 1 10 (.array .int) true := ⟨RX1, TX1, 14, tyX1, rfl, by decide, inlX1, tyX1_ok, nmX1, aw_in_5 _ (List.mem_of_getElem? (i := 0) rfl), rfl, rfl, (fun _ => rfl)⟩
theorem fi_X1_49 : aw_Fd RX1 49 1 11 (.array .int) true := ⟨RX1, TX1, 14, tyX1, rfl, by decide, inlX1, tyX1_ok, nmX1, aw_in_5 _ (List.mem_of_getElem? (i := 1) rfl), rfl, rfl, (fun _ => rfl)⟩
def born_X1 : List aw_F := [.inl 3, .inl 3, .inl 3, .inl 3, .inl 3, .inl 3, .inl 3, .inl 3, .inl 3, .inl 3, .inl 3, .inl 3, .inl 0, .inl 0]
def fin_X1 (n : Nat) : List aw_F := [.inr (n + 0), .inr (n + 5), .inr (n + 6), .inr (n + 7), .inr (n + 8), .inr (n + 9), .inr (n + 10), .inr (n + 11), .inr (n + 12), .inr (n + 13), .inr (n + 14), .inr (n + 15), .inl 0, .inl 0]
def nw_X1 (n : Nat) : List aw_H := [.inl (2, fin_X2 (n + 0 + 1)), .inr (0, 128, aw_no), .inr (0, 128, aw_no), .inr (0, 128, aw_no), .inr (0, 128, aw_no), .inr (0, 128, aw_no), .inr (0, 128, aw_no), .inr (0, 128, aw_no), .inr (0, 128, aw_no), .inr (0, 128, aw_no), .inr (0, 128, aw_no), .inr (0, 128, aw_no), .inr (0, 128, aw_no), .inr (0, 128, aw_no), .inr (0, 128, aw_no), .inr (0, 128, aw_no)]
abbrev M_X1_init : aw_M := (RX1, cX1_init, 1, none, true)
abbrev B_X1_init : aw_B := (2, 32, 16, 1924)
theorem yi_X1 : aw_Y yX1_init M_X1_init 0 ∧ Cond.instanceMethod yX1_init ∈ wsL_law := ⟨⟨aw_in_4 _ (List.mem_of_getElem? (i := 9) rfl), aw_in_1 _ (List.mem_of_getElem? (i := 5) rfl), by decide +kernel, by decide +kernel, by decide +kernel⟩, aw_in_4 _ (List.mem_of_getElem? (i := 8) rfl)⟩
theorem born_X1_ok {σ : aw_S} {k : Nat} (h0 : ∀ j, σ.1 k j = 0 ∧ σ.2.1 k j = 0) : ∀ b, ∀ j, j < 14 → defaultValue (tyX1 j) = vp_V (born_X1.mapIdx (fun j f => aw_fv b σ k j f)) j := by
  intro b j hj
  rcases (show j = 0 ∨ j = 1 ∨ j = 2 ∨ j = 3 ∨ j = 4 ∨ j = 5 ∨ j = 6 ∨ j = 7 ∨ j = 8 ∨ j = 9 ∨ j = 10 ∨ j = 11 ∨ j = 12 ∨ j = 13 by omega) with rfl | rfl | rfl | rfl | rfl | rfl | rfl | rfl | rfl | rfl | rfl | rfl | rfl | rfl
  · exact bn_v (j := 0) (f := .inl 3) rfl rfl
  · exact bn_v (j := 1) (f := .inl 3) rfl rfl
  · exact bn_v (j := 2) (f := .inl 3) rfl rfl
  · exact bn_v (j := 3) (f := .inl 3) rfl rfl
  · exact bn_v (j := 4) (f := .inl 3) rfl rfl
  · exact bn_v (j := 5) (f := .inl 3) rfl rfl
  · exact bn_v (j := 6) (f := .inl 3) rfl rfl
  · exact bn_v (j := 7) (f := .inl 3) rfl rfl
  · exact bn_v (j := 8) (f := .inl 3) rfl rfl
  · exact bn_v (j := 9) (f := .inl 3) rfl rfl
  · exact bn_v (j := 10) (f := .inl 3) rfl rfl
  · exact bn_v (j := 11) (f := .inl 3) rfl rfl
  · exact bn_v (j := 12) (f := .inl 0) rfl (by show Value.int 0 = Value.int (σ.1 k 12); rw [(h0 12).1])
  · exact bn_v (j := 13) (f := .inl 0) rfl (by show Value.int 0 = Value.int (σ.1 k 13); rw [(h0 13).1])
set_option maxHeartbeats 1000000 in
theorem c_X1_init {l : Launch} {G : aw_G} {σ : aw_S} {sh : List aw_H} {o : Nat} (hal : G.2.2.2.2) (hs : sh[o]? = some (.inl (1, born_X1))) (h0 : ∀ c, sh.length ≤ c → ∀ j, σ.1 c j = 0 ∧ σ.2.1 c j = 0) : aw_Ct l yX1_init M_X1_init G B_X1_init [.ref o] sh σ (none, bn sh o 1 (fin_X1 sh.length) (nw_X1 sh.length), σ) := by
  refine aw_Ct_of (by decide) rfl (fun _ => rfl) (Nat.le_of_ble_eq_true rfl) ?_
  have ho := (List.getElem?_eq_some_iff.mp hs).1
  have K : aw_W l M_X1_init G B_X1_init (none, bn sh o 1 (fin_X1 sh.length) (nw_X1 sh.length), σ) 0 [(0, .ref o)] [] (bn sh o 1 born_X1 []) σ 0 0 := by
    refine aw_aload_n dX1_init_0 (q := 0) rfl ?_
    refine aw_oinit (aw_in_4 _ (List.mem_of_getElem? (i := 10) rfl)) (aw_in_0 _ (List.mem_of_getElem? (i := 10) rfl)) (aw_in_0 _ (List.mem_of_getElem? (i := 11) rfl)) ⟨Nat.le_of_ble_eq_true rfl, Nat.le_of_ble_eq_true rfl⟩ dX1_init_1 ?_
    refine aw_aload_n dX1_init_4 (q := 0) rfl ?_
    refine aw_fieldC ho hal rfl inlX2 tyX2_ok (aw_in_4 _ (List.mem_of_getElem? (i := 11) rfl)) (aw_in_4 _ (List.mem_of_getElem? (i := 12) rfl)) (aw_in_4 _ (List.mem_of_getElem? (i := 13) rfl)) (c1 := 2) (N := 4) rfl (born_X2_ok (fun j => h0 _ (by omega) j)) (aw_in (F := fin_X2) (NW := nw_X2) (c_X2_init hal bn_last (fun c hc j => h0 c (by rw [bn_len] at hc; omega) j))) yi_X2.1 (host := RX11) (by decide +kernel) yi_X2.2 rfl rfl ⟨Nat.le_of_ble_eq_true rfl, Nat.le_of_ble_eq_true rfl⟩ rfl ⟨Nat.le_of_ble_eq_true rfl, Nat.le_of_ble_eq_true rfl⟩ fi_X1_12 (fun _ => rfl) (fun _ => rfl) (Nat.le_of_ble_eq_true rfl) dX1_init_5 dX1_init_8 dX1_init_9 dX1_init_12 ?_
    refine aw_aload_n dX1_init_15 (q := 0) rfl ?_
    refine aw_sipush (v := nI 128) dX1_init_16 (by decide) ?_
    refine aw_fieldI ho hal rfl (aw_in_1 _ (List.mem_of_getElem? (i := 17) rfl)) rfl (Or.inl ⟨rfl, rfl⟩) h0 (by decide) ⟨Nat.le_of_ble_eq_true rfl, Nat.le_of_ble_eq_true rfl⟩ fi_X1_18 (Nat.le_of_ble_eq_true rfl) dX1_init_19 dX1_init_21 ?_
    refine aw_aload_n dX1_init_24 (q := 0) rfl ?_
    refine aw_sipush (v := nI 128) dX1_init_25 (by decide) ?_
    refine aw_fieldI ho hal rfl (aw_in_1 _ (List.mem_of_getElem? (i := 17) rfl)) rfl (Or.inl ⟨rfl, rfl⟩) h0 (by decide) ⟨Nat.le_of_ble_eq_true rfl, Nat.le_of_ble_eq_true rfl⟩ fi_X1_22 (Nat.le_of_ble_eq_true rfl) dX1_init_28 dX1_init_30 ?_
    refine aw_aload_n dX1_init_33 (q := 0) rfl ?_
    refine aw_sipush (v := nI 128) dX1_init_34 (by decide) ?_
    refine aw_fieldI ho hal rfl (aw_in_1 _ (List.mem_of_getElem? (i := 17) rfl)) rfl (Or.inl ⟨rfl, rfl⟩) h0 (by decide) ⟨Nat.le_of_ble_eq_true rfl, Nat.le_of_ble_eq_true rfl⟩ fi_X1_25 (Nat.le_of_ble_eq_true rfl) dX1_init_37 dX1_init_39 ?_
    refine aw_aload_n dX1_init_42 (q := 0) rfl ?_
    refine aw_sipush (v := nI 128) dX1_init_43 (by decide) ?_
    refine aw_fieldI ho hal rfl (aw_in_1 _ (List.mem_of_getElem? (i := 17) rfl)) rfl (Or.inl ⟨rfl, rfl⟩) h0 (by decide) ⟨Nat.le_of_ble_eq_true rfl, Nat.le_of_ble_eq_true rfl⟩ fi_X1_28 (Nat.le_of_ble_eq_true rfl) dX1_init_46 dX1_init_48 ?_
    refine aw_aload_n dX1_init_51 (q := 0) rfl ?_
    refine aw_sipush (v := nI 128) dX1_init_52 (by decide) ?_
    refine aw_fieldI ho hal rfl (aw_in_1 _ (List.mem_of_getElem? (i := 17) rfl)) rfl (Or.inl ⟨rfl, rfl⟩) h0 (by decide) ⟨Nat.le_of_ble_eq_true rfl, Nat.le_of_ble_eq_true rfl⟩ fi_X1_31 (Nat.le_of_ble_eq_true rfl) dX1_init_55 dX1_init_57 ?_
    refine aw_aload_n dX1_init_60 (q := 0) rfl ?_
    refine aw_sipush (v := nI 128) dX1_init_61 (by decide) ?_
    refine aw_fieldI ho hal rfl (aw_in_1 _ (List.mem_of_getElem? (i := 17) rfl)) rfl (Or.inl ⟨rfl, rfl⟩) h0 (by decide) ⟨Nat.le_of_ble_eq_true rfl, Nat.le_of_ble_eq_true rfl⟩ fi_X1_34 (Nat.le_of_ble_eq_true rfl) dX1_init_64 dX1_init_66 ?_
    refine aw_aload_n dX1_init_69 (q := 0) rfl ?_
    refine aw_sipush (v := nI 128) dX1_init_70 (by decide) ?_
    refine aw_fieldI ho hal rfl (aw_in_1 _ (List.mem_of_getElem? (i := 17) rfl)) rfl (Or.inl ⟨rfl, rfl⟩) h0 (by decide) ⟨Nat.le_of_ble_eq_true rfl, Nat.le_of_ble_eq_true rfl⟩ fi_X1_37 (Nat.le_of_ble_eq_true rfl) dX1_init_73 dX1_init_75 ?_
    refine aw_aload_n dX1_init_78 (q := 0) rfl ?_
    refine aw_sipush (v := nI 128) dX1_init_79 (by decide) ?_
    refine aw_fieldI ho hal rfl (aw_in_1 _ (List.mem_of_getElem? (i := 17) rfl)) rfl (Or.inl ⟨rfl, rfl⟩) h0 (by decide) ⟨Nat.le_of_ble_eq_true rfl, Nat.le_of_ble_eq_true rfl⟩ fi_X1_40 (Nat.le_of_ble_eq_true rfl) dX1_init_82 dX1_init_84 ?_
    refine aw_aload_n dX1_init_87 (q := 0) rfl ?_
    refine aw_sipush (v := nI 128) dX1_init_88 (by decide) ?_
    refine aw_fieldI ho hal rfl (aw_in_1 _ (List.mem_of_getElem? (i := 17) rfl)) rfl (Or.inl ⟨rfl, rfl⟩) h0 (by decide) ⟨Nat.le_of_ble_eq_true rfl, Nat.le_of_ble_eq_true rfl⟩ fi_X1_43 (Nat.le_of_ble_eq_true rfl) dX1_init_91 dX1_init_93 ?_
    refine aw_aload_n dX1_init_96 (q := 0) rfl ?_
    refine aw_sipush (v := nI 128) dX1_init_97 (by decide) ?_
    refine aw_fieldI ho hal rfl (aw_in_1 _ (List.mem_of_getElem? (i := 17) rfl)) rfl (Or.inl ⟨rfl, rfl⟩) h0 (by decide) ⟨Nat.le_of_ble_eq_true rfl, Nat.le_of_ble_eq_true rfl⟩ fi_X1_46 (Nat.le_of_ble_eq_true rfl) dX1_init_100 dX1_init_102 ?_
    refine aw_aload_n dX1_init_105 (q := 0) rfl ?_
    refine aw_sipush (v := nI 128) dX1_init_106 (by decide) ?_
    refine aw_fieldI ho hal rfl (aw_in_1 _ (List.mem_of_getElem? (i := 17) rfl)) rfl (Or.inl ⟨rfl, rfl⟩) h0 (by decide) ⟨Nat.le_of_ble_eq_true rfl, Nat.le_of_ble_eq_true rfl⟩ fi_X1_49 (Nat.le_of_ble_eq_true rfl) dX1_init_109 dX1_init_111 ?_
    exact aw_vret rfl ⟨Nat.le_of_ble_eq_true rfl, Nat.le_of_ble_eq_true rfl⟩ dX1_init_114
  rw [bn_0 hs] at K
  exact K

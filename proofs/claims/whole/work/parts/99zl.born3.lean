/-! ===== CONSTRUCTORS ===== -/
/-! LateMover$Text -/
theorem fi_X9_9 : aw_Fd RX9 9 9 0 (.array .byte) true := ⟨RX9, TX9, 2, tyX9, rfl, by decide, inlX9, tyX9_ok, nmX9, aw_in_2 _ (List.mem_of_getElem? (i := 14) rfl), rfl, rfl, (fun _ => rfl)⟩
def born_X9 : List aw_F := [.inl 3, .inl 0]
def fin_X9 (n : Nat) : List aw_F := [.inr (n + 0), .inl 0]
def nw_X9 (n : Nat) : List aw_H := [.inr (1, 800, aw_no)]
abbrev M_X9_init : aw_M := (RX9, cX9_init, 1, none, true)
abbrev B_X9_init : aw_B := (1, 12, 1, 800)
theorem yi_X9 : aw_Y yX9_init M_X9_init 0 ∧ Cond.instanceMethod yX9_init ∈ wsL_law := ⟨⟨aw_in_2 _ (List.mem_of_getElem? (i := 11) rfl), aw_in_0 _ (List.mem_of_getElem? (i := 14) rfl), by decide +kernel, by decide +kernel, by decide +kernel⟩, aw_in_2 _ (List.mem_of_getElem? (i := 10) rfl)⟩
theorem born_X9_ok {σ : aw_S} {k : Nat} (h0 : ∀ j, σ.1 k j = 0 ∧ σ.2.1 k j = 0) : ∀ b, ∀ j, j < 2 → defaultValue (tyX9 j) = vp_V (born_X9.mapIdx (fun j f => aw_fv b σ k j f)) j := by
  intro b j hj
  rcases (show j = 0 ∨ j = 1 by omega) with rfl | rfl
  · rfl
  · show Value.int 0 = Value.int (σ.1 k 1)
    rw [(h0 1).1]
set_option maxHeartbeats 1000000 in
theorem c_X9_init {l : Launch} {G : aw_G} {σ : aw_S} {sh : List aw_H} {o : Nat} (hal : G.2.2.2.2) (hs : sh[o]? = some (.inl (9, born_X9))) (h0 : ∀ c, sh.length ≤ c → ∀ j, σ.1 c j = 0 ∧ σ.2.1 c j = 0) : aw_Ct l yX9_init M_X9_init G B_X9_init [.ref o] sh σ (none, bn sh o 9 (fin_X9 sh.length) (nw_X9 sh.length), σ) := by
  refine aw_Ct_of (by decide) rfl (fun _ => rfl) (Nat.le_of_ble_eq_true rfl) ?_
  have ho := (List.getElem?_eq_some_iff.mp hs).1
  have K : aw_W l M_X9_init G B_X9_init (none, bn sh o 9 (fin_X9 sh.length) (nw_X9 sh.length), σ) 0 [(0, .ref o)] [] (bn sh o 9 born_X9 []) σ 0 0 := by
    refine aw_aload_n dX9_init_0 (q := 0) rfl ?_
    refine aw_oinit (aw_in_2 _ (List.mem_of_getElem? (i := 12) rfl)) (aw_in_0 _ (List.mem_of_getElem? (i := 10) rfl)) (aw_in_0 _ (List.mem_of_getElem? (i := 11) rfl)) ⟨Nat.le_of_ble_eq_true rfl, Nat.le_of_ble_eq_true rfl⟩ dX9_init_1 ?_
    refine aw_aload_n dX9_init_4 (q := 0) rfl ?_
    refine aw_sipush (v := nI 800) dX9_init_5 (by decide) ?_
    refine aw_fieldI ho hal rfl (aw_in_2 _ (List.mem_of_getElem? (i := 13) rfl)) rfl (Or.inr (Or.inl ⟨rfl, rfl⟩)) h0 (by decide) ⟨Nat.le_of_ble_eq_true rfl, Nat.le_of_ble_eq_true rfl⟩ fi_X9_9 (Nat.le_of_ble_eq_true rfl) dX9_init_8 dX9_init_10 ?_
    exact aw_vret rfl ⟨Nat.le_of_ble_eq_true rfl, Nat.le_of_ble_eq_true rfl⟩ dX9_init_13
  rw [bn_0 hs] at K
  exact K
/-! LateMover$Expressions -/
theorem fi_X0_9 : aw_Fd RX0 9 0 0 (.array .int) true := ⟨RX0, TX0, 4, tyX0, rfl, by decide, inlX0, tyX0_ok, nmX0, aw_in_3 _ (List.mem_of_getElem? (i := 12) rfl), rfl, rfl, (fun _ => rfl)⟩
theorem fi_X0_15 : aw_Fd RX0 15 0 1 (.array .int) true := ⟨RX0, TX0, 4, tyX0, rfl, by decide, inlX0, tyX0_ok, nmX0, aw_in_3 _ (List.mem_of_getElem? (i := 13) rfl), rfl, rfl, (fun _ => rfl)⟩
theorem fi_X0_18 : aw_Fd RX0 18 0 2 (.array .int) true := ⟨RX0, TX0, 4, tyX0, rfl, by decide, inlX0, tyX0_ok, nmX0, aw_in_3 _ (List.mem_of_getElem? (i := 14) rfl), rfl, rfl, (fun _ => rfl)⟩
def born_X0 : List aw_F := [.inl 3, .inl 3, .inl 3, .inl 0]
def fin_X0 (n : Nat) : List aw_F := [.inr (n + 0), .inr (n + 1), .inr (n + 2), .inl 0]
def nw_X0 (n : Nat) : List aw_H := [.inr (0, 24, aw_no), .inr (0, 24, aw_no), .inr (0, 24, aw_no)]
abbrev M_X0_init : aw_M := (RX0, cX0_init, 1, none, true)
abbrev B_X0_init : aw_B := (1, 12, 3, 72)
theorem yi_X0 : aw_Y yX0_init M_X0_init 0 ∧ Cond.instanceMethod yX0_init ∈ wsL_law := ⟨⟨aw_in_3 _ (List.mem_of_getElem? (i := 10) rfl), aw_in_2 _ (List.mem_of_getElem? (i := 22) rfl), by decide +kernel, by decide +kernel, by decide +kernel⟩, aw_in_3 _ (List.mem_of_getElem? (i := 9) rfl)⟩
theorem born_X0_ok {σ : aw_S} {k : Nat} (h0 : ∀ j, σ.1 k j = 0 ∧ σ.2.1 k j = 0) : ∀ b, ∀ j, j < 4 → defaultValue (tyX0 j) = vp_V (born_X0.mapIdx (fun j f => aw_fv b σ k j f)) j := by
  intro b j hj
  rcases (show j = 0 ∨ j = 1 ∨ j = 2 ∨ j = 3 by omega) with rfl | rfl | rfl | rfl
  · rfl
  · rfl
  · rfl
  · show Value.int 0 = Value.int (σ.1 k 3)
    rw [(h0 3).1]
set_option maxHeartbeats 1000000 in
theorem c_X0_init {l : Launch} {G : aw_G} {σ : aw_S} {sh : List aw_H} {o : Nat} (hal : G.2.2.2.2) (hs : sh[o]? = some (.inl (0, born_X0))) (h0 : ∀ c, sh.length ≤ c → ∀ j, σ.1 c j = 0 ∧ σ.2.1 c j = 0) : aw_Ct l yX0_init M_X0_init G B_X0_init [.ref o] sh σ (none, bn sh o 0 (fin_X0 sh.length) (nw_X0 sh.length), σ) := by
  refine aw_Ct_of (by decide) rfl (fun _ => rfl) (Nat.le_of_ble_eq_true rfl) ?_
  have ho := (List.getElem?_eq_some_iff.mp hs).1
  have K : aw_W l M_X0_init G B_X0_init (none, bn sh o 0 (fin_X0 sh.length) (nw_X0 sh.length), σ) 0 [(0, .ref o)] [] (bn sh o 0 born_X0 []) σ 0 0 := by
    refine aw_aload_n dX0_init_0 (q := 0) rfl ?_
    refine aw_oinit (aw_in_3 _ (List.mem_of_getElem? (i := 11) rfl)) (aw_in_0 _ (List.mem_of_getElem? (i := 10) rfl)) (aw_in_0 _ (List.mem_of_getElem? (i := 11) rfl)) ⟨Nat.le_of_ble_eq_true rfl, Nat.le_of_ble_eq_true rfl⟩ dX0_init_1 ?_
    refine aw_aload_n dX0_init_4 (q := 0) rfl ?_
    refine aw_bipush (v := nI 24) dX0_init_5 (by decide) ?_
    refine aw_fieldI ho hal rfl (aw_in_1 _ (List.mem_of_getElem? (i := 17) rfl)) rfl (Or.inl ⟨rfl, rfl⟩) h0 (by decide) ⟨Nat.le_of_ble_eq_true rfl, Nat.le_of_ble_eq_true rfl⟩ fi_X0_9 (Nat.le_of_ble_eq_true rfl) dX0_init_7 dX0_init_9 ?_
    refine aw_aload_n dX0_init_12 (q := 0) rfl ?_
    refine aw_bipush (v := nI 24) dX0_init_13 (by decide) ?_
    refine aw_fieldI ho hal rfl (aw_in_1 _ (List.mem_of_getElem? (i := 17) rfl)) rfl (Or.inl ⟨rfl, rfl⟩) h0 (by decide) ⟨Nat.le_of_ble_eq_true rfl, Nat.le_of_ble_eq_true rfl⟩ fi_X0_15 (Nat.le_of_ble_eq_true rfl) dX0_init_15 dX0_init_17 ?_
    refine aw_aload_n dX0_init_20 (q := 0) rfl ?_
    refine aw_bipush (v := nI 24) dX0_init_21 (by decide) ?_
    refine aw_fieldI ho hal rfl (aw_in_1 _ (List.mem_of_getElem? (i := 17) rfl)) rfl (Or.inl ⟨rfl, rfl⟩) h0 (by decide) ⟨Nat.le_of_ble_eq_true rfl, Nat.le_of_ble_eq_true rfl⟩ fi_X0_18 (Nat.le_of_ble_eq_true rfl) dX0_init_23 dX0_init_25 ?_
    exact aw_vret rfl ⟨Nat.le_of_ble_eq_true rfl, Nat.le_of_ble_eq_true rfl⟩ dX0_init_28
  rw [bn_0 hs] at K
  exact K

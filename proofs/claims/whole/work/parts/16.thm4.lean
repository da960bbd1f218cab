/-! LateMover.writeNode(IZ)V -/
set_option maxRecDepth 100000 in
set_option maxHeartbeats 4000000 in
theorem t_Mo_writeNode_J69 {l : Launch} {G : aw_G} {E : aw_E} {σ : aw_S} {t : aw_S} (h : m_Mo_writeNode_J69 σ = some t) (hE : E = (none, xA, t)) : aw_W l M_Mo_writeNode G B_Mo_writeNode E 69 [(0, .ref 0)] [] xA σ 0 0 := by
  unfold m_Mo_writeNode_J69 at h
  refine aw_aload_n (pc := 69) (q := 0) dX11_writeNode_69 rfl ?_
  refine aw_getC (pc := 70) fd_X11_19.r xA_0 rfl dX11_writeNode_70 ?_
  refine aw_bipush (pc := 73) (v := 59) dX11_writeNode_73 (by decide) ?_
  obtain ⟨s10, e9, h⟩ := aw_bde h
  refine aw_cV0 (pc := 75) [.int ((59 : Int32))] (c_Te_put isTe_5 e9) yy_Te_put.1 wm_1506 yy_Te_put.2.1 yy_Te_put.2.2 xA_5 ⟨_, _, rfl⟩ rfl ⟨Nat.le_of_ble_eq_true rfl, Nat.le_of_ble_eq_true rfl⟩ ⟨Nat.zero_le _, Nat.zero_le _⟩ (Nat.le_of_ble_eq_true rfl) dX11_writeNode_75 ?_
  cases h
  subst hE
  exact aw_vret rfl ⟨Nat.zero_le _, Nat.zero_le _⟩ dX11_writeNode_78
set_option maxRecDepth 100000 in
set_option maxHeartbeats 4000000 in
theorem t_Mo_writeNode_J25 {l : Launch} {G : aw_G} {E : aw_E} {σ : aw_S} {v1 : Int32} {v2 : Int32} {t : aw_S} (h : m_Mo_writeNode_J25 σ v1 v2 = some t) (hE : E = (none, xA, t)) : aw_W l M_Mo_writeNode G B_Mo_writeNode E 25 [(0, .ref 0), (1, .int v1), (2, .int v2)] [] xA σ 0 0 := by
  unfold m_Mo_writeNode_J25 at h
  refine aw_aload_n (pc := 25) (q := 0) dX11_writeNode_25 rfl ?_
  refine aw_iload_n (pc := 26) (q := 1) dX11_writeNode_26 rfl ?_
  refine aw_iload_n (pc := 27) (q := 2) dX11_writeNode_27 rfl ?_
  obtain ⟨s7, e6, h⟩ := aw_bde h
  refine aw_cV0 (pc := 28) [.int v1, .int v2] (c_Mo_writeAssignment e6) yy_Mo_writeAssignment.1 wm_1524 yy_Mo_writeAssignment.2.1 yy_Mo_writeAssignment.2.2 xA_0 ⟨_, _, rfl⟩ rfl ⟨Nat.le_of_ble_eq_true rfl, Nat.le_of_ble_eq_true rfl⟩ ⟨Nat.zero_le _, Nat.zero_le _⟩ (Nat.le_of_ble_eq_true rfl) dX11_writeNode_28 ?_
  refine aw_goto (pc := 31) (tgt := 69) dX11_writeNode_31 (by decide) ?_
  refine aw_sub [0] rfl ?_
  exact t_Mo_writeNode_J69 h hE
set_option maxRecDepth 100000 in
set_option maxHeartbeats 4000000 in
theorem t_Mo_writeNode {l : Launch} {G : aw_G} {E : aw_E} {σ : aw_S} {p1 : Int32} {p2 : Int32} {t : aw_S} (h : m_Mo_writeNode σ p1 p2 = some t) (hE : E = (none, xA, t)) : aw_W l M_Mo_writeNode G B_Mo_writeNode E 0 [(0, .ref 0), (1, .int p1), (2, .int p2)] [] xA σ 0 0 := by
  unfold m_Mo_writeNode at h
  refine aw_aload_n (pc := 0) (q := 0) dX11_writeNode_0 rfl ?_
  refine aw_getC (pc := 1) fd_X11_36.r xA_0 rfl dX11_writeNode_1 ?_
  refine aw_getC (pc := 4) fd_X11_202 xA_24 rfl dX11_writeNode_4 ?_
  refine aw_iload_n (pc := 7) (q := 1) dX11_writeNode_7 rfl ?_
  obtain ⟨g1, h⟩ := aw_gde h
  refine aw_iald (pc := 8) xA_29 g1 dX11_writeNode_8 ?_
  refine aw_nmI (fun x2 e_x2 => ?_)
  replace h := aw_lte h x2 e_x2
  refine aw_istore_n (pc := 9) [(3, .int x2), (0, .ref 0), (1, .int p1), (2, .int p2)] dX11_writeNode_9 (by decide) rfl ?_
  refine aw_iload_n (pc := 10) (q := 0) dX11_writeNode_10 rfl ?_
  refine aw_if_ne (pc := 11) (tgt := 15) dX11_writeNode_11 (by decide) (fun c3 => ?_) (fun c3 => ?_)
  · replace h := aw_ifn c3 h
    refine aw_iload_n (pc := 15) (q := 0) dX11_writeNode_15 rfl ?_
    refine aw_iconst (pc := 16) (v := 1) dX11_writeNode_16 (by decide) ?_
    refine aw_icmp_eq (pc := 17) (tgt := 25) dX11_writeNode_17 (by decide) (fun c4 => ?_) (fun c4 => ?_)
    · replace h := aw_ifp c4 h
      refine aw_sub [1, 2, 3] rfl ?_
      exact t_Mo_writeNode_J25 h hE
    · replace h := aw_ifn c4 h
      refine aw_iload_n (pc := 20) (q := 0) dX11_writeNode_20 rfl ?_
      refine aw_iconst (pc := 21) (v := 2) dX11_writeNode_21 (by decide) ?_
      refine aw_icmp_ne (pc := 22) (tgt := 34) dX11_writeNode_22 (by decide) (fun c11 => ?_) (fun c11 => ?_)
      · replace h := aw_ifn c11 h
        refine aw_iload_n (pc := 34) (q := 0) dX11_writeNode_34 rfl ?_
        refine aw_iconst (pc := 35) (v := 3) dX11_writeNode_35 (by decide) ?_
        refine aw_icmp_ne (pc := 36) (tgt := 64) dX11_writeNode_36 (by decide) (fun c12 => ?_) (fun c12 => ?_)
        · replace h := aw_ifn c12 h
          refine aw_aload_n (pc := 64) (q := 1) dX11_writeNode_64 rfl ?_
          refine aw_iload_n (pc := 65) (q := 2) dX11_writeNode_65 rfl ?_
          obtain ⟨s15, e14, h⟩ := aw_bde h
          refine aw_cV0 (pc := 66) [.int p1] (c_Mo_writeEnd e14) yy_Mo_writeEnd.1 wm_1528 yy_Mo_writeEnd.2.1 yy_Mo_writeEnd.2.2 xA_0 ⟨_, _, rfl⟩ rfl ⟨Nat.le_of_ble_eq_true rfl, Nat.le_of_ble_eq_true rfl⟩ ⟨Nat.zero_le _, Nat.zero_le _⟩ (Nat.le_of_ble_eq_true rfl) dX11_writeNode_66 ?_
          refine aw_sub [1] rfl ?_
          exact t_Mo_writeNode_J69 h hE
        · replace h := aw_ifp c12 h
          refine aw_aload_n (pc := 39) (q := 1) dX11_writeNode_39 rfl ?_
          refine aw_getC (pc := 40) fd_X11_19.r xA_0 rfl dX11_writeNode_40 ?_
          refine aw_bipush (pc := 43) (v := 33) dX11_writeNode_43 (by decide) ?_
          obtain ⟨s18, e17, h⟩ := aw_bde h
          refine aw_cV0 (pc := 45) [.int ((33 : Int32))] (c_Te_put isTe_5 e17) yy_Te_put.1 wm_1506 yy_Te_put.2.1 yy_Te_put.2.2 xA_5 ⟨_, _, rfl⟩ rfl ⟨Nat.le_of_ble_eq_true rfl, Nat.le_of_ble_eq_true rfl⟩ ⟨Nat.zero_le _, Nat.zero_le _⟩ (Nat.le_of_ble_eq_true rfl) dX11_writeNode_45 ?_
          refine aw_aload_n (pc := 48) (q := 1) dX11_writeNode_48 rfl ?_
          refine aw_aload_n (pc := 49) (q := 1) dX11_writeNode_49 rfl ?_
          refine aw_getC (pc := 50) fd_X11_36.r xA_0 rfl dX11_writeNode_50 ?_
          refine aw_getC (pc := 53) fd_X11_410 xA_24 rfl dX11_writeNode_53 ?_
          refine aw_iload_n (pc := 56) (q := 2) dX11_writeNode_56 rfl ?_
          obtain ⟨g19, h⟩ := aw_gde h
          refine aw_iald (pc := 57) xA_32 g19 dX11_writeNode_57 ?_
          obtain ⟨s22, e21, h⟩ := aw_bde h
          refine aw_cV0 (pc := 58) [.int ((s18.1 32 p1.toNatClampNeg))] (c_Mo_writeOperand e21) yy_Mo_writeOperand.1 wm_1515 yy_Mo_writeOperand.2.1 yy_Mo_writeOperand.2.2 xA_0 ⟨_, _, rfl⟩ rfl ⟨Nat.le_of_ble_eq_true rfl, Nat.le_of_ble_eq_true rfl⟩ ⟨Nat.zero_le _, Nat.zero_le _⟩ (Nat.le_of_ble_eq_true rfl) dX11_writeNode_58 ?_
          refine aw_goto (pc := 61) (tgt := 69) dX11_writeNode_61 (by decide) ?_
          refine aw_sub [1] rfl ?_
          exact t_Mo_writeNode_J69 h hE
      · replace h := aw_ifp c11 h
        refine aw_sub [1, 2, 3] rfl ?_
        exact t_Mo_writeNode_J25 h hE
  · replace h := aw_ifp c3 h
    cases h
    subst hE
    exact aw_vret rfl ⟨Nat.zero_le _, Nat.zero_le _⟩ dX11_writeNode_14
theorem c_Mo_writeNode {l : Launch} {G : aw_G} {σ : aw_S} {p1 : Int32} {p2 : Int32} {t : aw_S} (h : m_Mo_writeNode σ p1 p2 = some t) : aw_Ct l yX11_writeNode M_Mo_writeNode G B_Mo_writeNode [.ref 0, .int p1, .int p2] xA σ (none, xA, t) := aw_Ct_of (by decide) rfl (fun h => by cases h) (Nat.le_of_ble_eq_true rfl) (t_Mo_writeNode h rfl)
/-! LateMover.write(II)I -/
def z_Mo_write_X38 (l : Launch) (G : aw_G) (E : aw_E) (v1 : Int32) (v3 : Nat) (s : Int32 × aw_S) : Prop := aw_W l M_Mo_write G B_Mo_write E 38 [(0, .ref 0), (1, .int v1), (3, .ref v3), (4, .int s.1)] [] xA s.2 0 0
def z_Mo_write_Y38 (l : Launch) (G : aw_G) (E : aw_E) (v1 : Int32) (v3 : Nat) (x : (aw_S)) : Prop := aw_W l M_Mo_write G B_Mo_write E 104 [(0, .ref 0), (1, .int v1), (3, .ref v3)] [] xA x 0 0
set_option maxRecDepth 100000 in
set_option maxHeartbeats 4000000 in
theorem t_Mo_write_J98 {l : Launch} {G : aw_G} {E : aw_E} {σ : aw_S} {v1 : Int32} {v3 : Nat} {v4 : Int32} (h_v3 : isPl v3) {t : (aw_S) ⊕ (Int32 × aw_S)} (h : m_Mo_write_J98 σ v1 v3 v4 = some t) (hz : Sum.elim (z_Mo_write_Y38 l G E v1 v3) (z_Mo_write_X38 l G E v1 v3) t) : aw_W l M_Mo_write G B_Mo_write E 98 [(0, .ref 0), (1, .int v1), (3, .ref v3), (4, .int v4)] [] xA σ 0 0 := by
  unfold m_Mo_write_J98 at h
  obtain ⟨x17, e_x17⟩ : ∃ z, z = (v4 + (1 : Int32)) := ⟨_, rfl⟩
  replace h := aw_lte h x17 e_x17
  refine aw_iinc (pc := 98) (q := 3) (v := x17) [(4, .int x17), (0, .ref 0), (1, .int v1), (3, .ref v3)] dX11_write_98 rfl e_x17.symm (by decide) rfl ?_
  refine aw_goto (pc := 101) (tgt := 38) dX11_write_101 (by decide) ?_
  refine aw_sub [1, 2, 3, 0] rfl ?_
  cases h
  exact hz
set_option maxRecDepth 100000 in
set_option maxHeartbeats 4000000 in
theorem t_Mo_write_B38 {l : Launch} {G : aw_G} {E : aw_E} {σ : aw_S} {v1 : Int32} {v3 : Nat} {v4 : Int32} (h_v3 : isPl v3) {t : (aw_S) ⊕ (Int32 × aw_S)} (h : m_Mo_write_B38 σ v1 v3 v4 = some t) (hz : Sum.elim (z_Mo_write_Y38 l G E v1 v3) (z_Mo_write_X38 l G E v1 v3) t) : aw_W l M_Mo_write G B_Mo_write E 38 [(0, .ref 0), (1, .int v1), (3, .ref v3), (4, .int v4)] [] xA σ 0 0 := by
  unfold m_Mo_write_B38 at h
  refine aw_iload (pc := 38) (q := 3) dX11_write_38 rfl ?_
  refine aw_aload_n (pc := 40) (q := 0) dX11_write_40 rfl ?_
  refine aw_getC (pc := 41) fd_X11_36.r xA_0 rfl dX11_write_41 ?_
  refine aw_getC (pc := 44) fd_X11_175 xA_24 rfl dX11_write_44 ?_
  refine aw_getI (pc := 47) fd_X11_179.r xA_25 rfl dX11_write_47 ?_
  refine aw_icmp_ge (pc := 50) (tgt := 104) dX11_write_50 (by decide) (fun c12 => ?_) (fun c12 => ?_)
  · replace h := aw_ifp c12 h
    refine aw_sub [0, 1, 2] rfl ?_
    cases h
    exact hz
  · replace h := aw_ifn c12 h
    refine aw_aload_n (pc := 53) (q := 2) dX11_write_53 rfl ?_
    refine aw_getC (pc := 54) fd_X11_271 h_v3.1 rfl dX11_write_54 ?_
    refine aw_iload_n (pc := 57) (q := 1) dX11_write_57 rfl ?_
    obtain ⟨g13, h⟩ := aw_gde h
    refine aw_iald (pc := 58) h_v3.2.1 g13 dX11_write_58 ?_
    refine aw_iload (pc := 59) (q := 3) dX11_write_59 rfl ?_
    obtain ⟨r14, e15, h⟩ := aw_bde h
    refine aw_cS1 (pc := 61) [.int ((σ.1 (v3 + 1) v1.toNatClampNeg)), .int v4] (c_Mo_bitOf e15) yy_Mo_bitOf.1 wm_970 yy_Mo_bitOf.2 rfl ⟨Nat.le_of_ble_eq_true rfl, Nat.le_of_ble_eq_true rfl⟩ ⟨Nat.zero_le _, Nat.zero_le _⟩ (Nat.le_of_ble_eq_true rfl) dX11_write_61 ?_
    refine aw_iconst (pc := 64) (v := 1) dX11_write_64 (by decide) ?_
    refine aw_icmp_ne (pc := 65) (tgt := 98) dX11_write_65 (by decide) (fun c16 => ?_) (fun c16 => ?_)
    · replace h := aw_ifn c16 h
      exact t_Mo_write_J98 h_v3 h hz
    · replace h := aw_ifp c16 h
      refine aw_aload_n (pc := 68) (q := 0) dX11_write_68 rfl ?_
      refine aw_iload (pc := 69) (q := 3) dX11_write_69 rfl ?_
      obtain ⟨s20, e19, h⟩ := aw_bde h
      refine aw_cV0 (pc := 71) [.int v4] (c_Mo_writeName e19) yy_Mo_writeName.1 wm_1502 yy_Mo_writeName.2.1 yy_Mo_writeName.2.2 xA_0 ⟨_, _, rfl⟩ rfl ⟨Nat.le_of_ble_eq_true rfl, Nat.le_of_ble_eq_true rfl⟩ ⟨Nat.zero_le _, Nat.zero_le _⟩ (Nat.le_of_ble_eq_true rfl) dX11_write_71 ?_
      refine aw_aload_n (pc := 74) (q := 0) dX11_write_74 rfl ?_
      refine aw_getC (pc := 75) fd_X11_19.r xA_0 rfl dX11_write_75 ?_
      refine aw_bipush (pc := 78) (v := 61) dX11_write_78 (by decide) ?_
      obtain ⟨s23, e22, h⟩ := aw_bde h
      refine aw_cV0 (pc := 80) [.int ((61 : Int32))] (c_Te_put isTe_5 e22) yy_Te_put.1 wm_1506 yy_Te_put.2.1 yy_Te_put.2.2 xA_5 ⟨_, _, rfl⟩ rfl ⟨Nat.le_of_ble_eq_true rfl, Nat.le_of_ble_eq_true rfl⟩ ⟨Nat.zero_le _, Nat.zero_le _⟩ (Nat.le_of_ble_eq_true rfl) dX11_write_80 ?_
      refine aw_aload_n (pc := 83) (q := 0) dX11_write_83 rfl ?_
      refine aw_iload (pc := 84) (q := 3) dX11_write_84 rfl ?_
      obtain ⟨s26, e25, h⟩ := aw_bde h
      refine aw_cV0 (pc := 86) [.int v4] (c_Mo_writeExpression e25) yy_Mo_writeExpression.1 wm_1511 yy_Mo_writeExpression.2.1 yy_Mo_writeExpression.2.2 xA_0 ⟨_, _, rfl⟩ rfl ⟨Nat.le_of_ble_eq_true rfl, Nat.le_of_ble_eq_true rfl⟩ ⟨Nat.zero_le _, Nat.zero_le _⟩ (Nat.le_of_ble_eq_true rfl) dX11_write_86 ?_
      refine aw_aload_n (pc := 89) (q := 0) dX11_write_89 rfl ?_
      refine aw_getC (pc := 90) fd_X11_19.r xA_0 rfl dX11_write_90 ?_
      refine aw_bipush (pc := 93) (v := 59) dX11_write_93 (by decide) ?_
      obtain ⟨s29, e28, h⟩ := aw_bde h
      refine aw_cV0 (pc := 95) [.int ((59 : Int32))] (c_Te_put isTe_5 e28) yy_Te_put.1 wm_1506 yy_Te_put.2.1 yy_Te_put.2.2 xA_5 ⟨_, _, rfl⟩ rfl ⟨Nat.le_of_ble_eq_true rfl, Nat.le_of_ble_eq_true rfl⟩ ⟨Nat.zero_le _, Nat.zero_le _⟩ (Nat.le_of_ble_eq_true rfl) dX11_write_95 ?_
      exact t_Mo_write_J98 h_v3 h hz
set_option maxRecDepth 100000 in
set_option maxHeartbeats 4000000 in
theorem t_Mo_write_J120 {l : Launch} {G : aw_G} {E : aw_E} {σ : aw_S} {k1 : Int32} {k2 : Int32} {t : (Int32 × aw_S)} (h : m_Mo_write_J120 σ k1 k2 = some t) (hE : E = (some (.int t.1), xA, t.2)) : aw_W l M_Mo_write G B_Mo_write E 120 [(0, .ref 0)] [.int k2, .int k1, .ref 0] xA σ 0 0 := by
  unfold m_Mo_write_J120 at h
  obtain ⟨s37, e36, h⟩ := aw_bde h
  refine aw_cV0 (pc := 120) [.int k1, .int k2] (c_Mo_writeNode e36) yy_Mo_writeNode.1 wm_1519 yy_Mo_writeNode.2.1 yy_Mo_writeNode.2.2 xA_0 ⟨_, _, rfl⟩ rfl ⟨Nat.le_of_ble_eq_true rfl, Nat.le_of_ble_eq_true rfl⟩ ⟨Nat.zero_le _, Nat.zero_le _⟩ (Nat.le_of_ble_eq_true rfl) dX11_write_120 ?_
  refine aw_aload_n (pc := 123) (q := 0) dX11_write_123 rfl ?_
  refine aw_getC (pc := 124) fd_X11_19.r xA_0 rfl dX11_write_124 ?_
  obtain ⟨r38, e39, h⟩ := aw_bde h
  refine aw_cV1 (pc := 127) [] (c_Te_size isTe_5 e39) yy_Te_size.1 wm_221 yy_Te_size.2.1 yy_Te_size.2.2 xA_5 ⟨_, _, rfl⟩ rfl ⟨Nat.le_of_ble_eq_true rfl, Nat.le_of_ble_eq_true rfl⟩ ⟨Nat.zero_le _, Nat.zero_le _⟩ (Nat.le_of_ble_eq_true rfl) dX11_write_127 ?_
  cases h
  subst hE
  exact aw_iret (v := _) rfl aw_ni ⟨Nat.zero_le _, Nat.zero_le _⟩ dX11_write_130
set_option maxRecDepth 100000 in
set_option maxHeartbeats 4000000 in
theorem t_Mo_write {l : Launch} {G : aw_G} {E : aw_E} {σ : aw_S} {p1 : Int32} {p2 : Int32} {t : (Int32 × aw_S)} (h : m_Mo_write σ p1 p2 = some t) (hE : E = (some (.int t.1), xA, t.2)) : aw_W l M_Mo_write G B_Mo_write E 0 [(0, .ref 0), (1, .int p1), (2, .int p2)] [] xA σ 0 0 := by
  unfold m_Mo_write at h
  refine aw_aload_n (pc := 0) (q := 0) dX11_write_0 rfl ?_
  refine aw_getC (pc := 1) fd_X11_36.r xA_0 rfl dX11_write_1 ?_
  refine aw_iload_n (pc := 4) (q := 1) dX11_write_4 rfl ?_
  obtain ⟨r1, e2, h⟩ := aw_bde h
  refine aw_cV1 (pc := 5) [.int p1] (c_Gr_isNode e2) yy_Gr_isNode.1 wm_917 yy_Gr_isNode.2.1 yy_Gr_isNode.2.2 xA_24 ⟨_, _, rfl⟩ rfl ⟨Nat.le_of_ble_eq_true rfl, Nat.le_of_ble_eq_true rfl⟩ ⟨Nat.zero_le _, Nat.zero_le _⟩ (Nat.le_of_ble_eq_true rfl) dX11_write_5 ?_
  refine aw_if_eq (pc := 8) (tgt := 19) dX11_write_8 (by decide) (fun c3 => ?_) (fun c3 => ?_)
  · replace h := aw_ifp c3 h
    refine aw_iconst (pc := 19) (v := -1) dX11_write_19 (by decide) ?_
    cases h
    subst hE
    exact aw_iret (v := (-1 : Int32)) rfl aw_ni ⟨Nat.zero_le _, Nat.zero_le _⟩ dX11_write_20
  · replace h := aw_ifn c3 h
    refine aw_aload_n (pc := 11) (q := 0) dX11_write_11 rfl ?_
    refine aw_iload_n (pc := 12) (q := 2) dX11_write_12 rfl ?_
    obtain ⟨r4, e5, h⟩ := aw_bde h
    refine aw_cV1 (pc := 13) [.int p2] (c_Mo_isRunnable e5) yy_Mo_isRunnable.1 wm_1079 yy_Mo_isRunnable.2.1 yy_Mo_isRunnable.2.2 xA_0 ⟨_, _, rfl⟩ rfl ⟨Nat.le_of_ble_eq_true rfl, Nat.le_of_ble_eq_true rfl⟩ ⟨Nat.zero_le _, Nat.zero_le _⟩ (Nat.le_of_ble_eq_true rfl) dX11_write_13 ?_
    refine aw_if_ne (pc := 16) (tgt := 21) dX11_write_16 (by decide) (fun c6 => ?_) (fun c6 => ?_)
    · replace h := aw_ifn c6 h
      refine aw_aload_n (pc := 21) (q := 0) dX11_write_21 rfl ?_
      refine aw_iload_n (pc := 22) (q := 2) dX11_write_22 rfl ?_
      obtain ⟨r7, e8, h⟩ := aw_bde h
      refine aw_cV1 (pc := 23) [.int p2] (c_Mo_placementBy e8) yy_Mo_placementBy.1 wm_986 yy_Mo_placementBy.2.1 yy_Mo_placementBy.2.2 xA_0 ⟨_, _, rfl⟩ rfl ⟨Nat.le_of_ble_eq_true rfl, Nat.le_of_ble_eq_true rfl⟩ ⟨Nat.zero_le _, Nat.zero_le _⟩ (Nat.le_of_ble_eq_true rfl) dX11_write_23 ?_
      have h_r7 : isPl r7 := aw_plBy_ok e8
      refine aw_astore_n (pc := 26) [(3, .ref r7), (0, .ref 0), (1, .int p1), (2, .int p2)] dX11_write_26 (by decide) rfl ?_
      refine aw_aload_n (pc := 27) (q := 1) dX11_write_27 rfl ?_
      refine aw_getC (pc := 28) fd_X11_19.r xA_0 rfl dX11_write_28 ?_
      refine aw_iconst (pc := 31) (v := 0) dX11_write_31 (by decide) ?_
      obtain ⟨s11, e10, h⟩ := aw_bde h
      refine aw_cV0 (pc := 32) [.int ((0 : Int32))] (c_Te_cut isTe_5 e10) yy_Te_cut.1 wm_247 yy_Te_cut.2.1 yy_Te_cut.2.2 xA_5 ⟨_, _, rfl⟩ rfl ⟨Nat.le_of_ble_eq_true rfl, Nat.le_of_ble_eq_true rfl⟩ ⟨Nat.zero_le _, Nat.zero_le _⟩ (Nat.le_of_ble_eq_true rfl) dX11_write_32 ?_
      refine aw_iconst (pc := 35) (v := 0) dX11_write_35 (by decide) ?_
      refine aw_istore (pc := 36) [(4, .int ((0 : Int32))), (3, .ref r7), (0, .ref 0), (1, .int p1), (2, .int p2)] dX11_write_36 (by decide) rfl ?_
      obtain ⟨x30, hl31, h⟩ := aw_bde h
      have K32 : z_Mo_write_Y38 l G E p1 r7 x30 := by
        show aw_W l M_Mo_write G B_Mo_write E 104 [(0, .ref 0), (1, .int p1), (3, .ref r7)] [] xA x30 0 0
        refine aw_aload_n (pc := 104) (q := 0) dX11_write_104 rfl ?_
        refine aw_iload_n (pc := 105) (q := 1) dX11_write_105 rfl ?_
        refine aw_aload_n (pc := 106) (q := 2) dX11_write_106 rfl ?_
        refine aw_getC (pc := 107) fd_X11_274 h_r7.1 rfl dX11_write_107 ?_
        refine aw_iload_n (pc := 110) (q := 1) dX11_write_110 rfl ?_
        obtain ⟨g33, h⟩ := aw_gde h
        refine aw_iald (pc := 111) h_r7.2.2.1 g33 dX11_write_111 ?_
        refine aw_if_eq (pc := 112) (tgt := 119) dX11_write_112 (by decide) (fun c34 => ?_) (fun c34 => ?_)
        · replace h := aw_ifp c34 h
          refine aw_iconst (pc := 119) (v := 0) dX11_write_119 (by decide) ?_
          refine aw_sub [0] rfl ?_
          exact t_Mo_write_J120 h hE
        · replace h := aw_ifn c34 h
          refine aw_iconst (pc := 115) (v := 1) dX11_write_115 (by decide) ?_
          refine aw_goto (pc := 116) (tgt := 120) dX11_write_116 (by decide) ?_
          refine aw_sub [0] rfl ?_
          exact t_Mo_write_J120 h hE
      refine aw_sub [2, 3, 1, 0] rfl ?_
      show z_Mo_write_X38 l G E p1 r7 (((0 : Int32), s11))
      exact aw_lp_X (Xp := z_Mo_write_X38 l G E p1 r7) (Y := z_Mo_write_Y38 l G E p1 r7) hl31 K32 (fun s t hf hz => t_Mo_write_B38 h_r7 hf hz)
    · replace h := aw_ifp c6 h
      refine aw_iconst (pc := 19) (v := -1) dX11_write_19 (by decide) ?_
      cases h
      subst hE
      exact aw_iret (v := (-1 : Int32)) rfl aw_ni ⟨Nat.zero_le _, Nat.zero_le _⟩ dX11_write_20
theorem c_Mo_write {l : Launch} {G : aw_G} {σ : aw_S} {p1 : Int32} {p2 : Int32} {t : (Int32 × aw_S)} (h : m_Mo_write σ p1 p2 = some t) : aw_Ct l yX11_write M_Mo_write G B_Mo_write [.ref 0, .int p1, .int p2] xA σ (some (.int t.1), xA, t.2) := aw_Ct_of (by decide) rfl (fun h => by cases h) (Nat.le_of_ble_eq_true rfl) (t_Mo_write h rfl)
/-! LateMover.octet(I)I -/
set_option maxRecDepth 100000 in
set_option maxHeartbeats 4000000 in
theorem t_Mo_octet {l : Launch} {G : aw_G} {E : aw_E} {σ : aw_S} {p1 : Int32} {t : Int32} (h : m_Mo_octet σ p1 = some t) (hE : E = (some (.int t), xA, σ)) : aw_W l M_Mo_octet G B_Mo_octet E 0 [(0, .ref 0), (1, .int p1)] [] xA σ 0 0 := by
  unfold m_Mo_octet at h
  refine aw_aload_n (pc := 0) (q := 0) dX11_octet_0 rfl ?_
  refine aw_getC (pc := 1) fd_X11_19.r xA_0 rfl dX11_octet_1 ?_
  refine aw_iload_n (pc := 4) (q := 1) dX11_octet_4 rfl ?_
  obtain ⟨r1, e2, h⟩ := aw_bde h
  refine aw_cV1 (pc := 5) [.int p1] (c_Te_at isTe_5 e2) yy_Te_at.1 wm_1571 yy_Te_at.2.1 yy_Te_at.2.2 xA_5 ⟨_, _, rfl⟩ rfl ⟨Nat.le_of_ble_eq_true rfl, Nat.le_of_ble_eq_true rfl⟩ ⟨Nat.zero_le _, Nat.zero_le _⟩ (Nat.le_of_ble_eq_true rfl) dX11_octet_5 ?_
  cases h
  subst hE
  exact aw_iret (v := _) rfl aw_ni ⟨Nat.zero_le _, Nat.zero_le _⟩ dX11_octet_8
theorem c_Mo_octet {l : Launch} {G : aw_G} {σ : aw_S} {p1 : Int32} {t : Int32} (h : m_Mo_octet σ p1 = some t) : aw_Ct l yX11_octet M_Mo_octet G B_Mo_octet [.ref 0, .int p1] xA σ (some (.int t), xA, σ) := aw_Ct_of (by decide) rfl (fun h => by cases h) (Nat.le_of_ble_eq_true rfl) (t_Mo_octet h rfl)
/-! LateMoverModel.four(I)V -/
def z_Rf_four_X3 (l : Launch) (G : aw_G) (E : aw_E) (v1 : Int32) (s : Int32 × aw_S) : Prop := aw_W l M_Rf_four G B_Rf_four E 3 [(0, .ref 0), (1, .int v1), (2, .int s.1)] [] xB s.2 0 0
def z_Rf_four_Y3 (l : Launch) (G : aw_G) (E : aw_E) (v1 : Int32) (x : (aw_S)) : Prop := aw_W l M_Rf_four G B_Rf_four E 36 [] [] xB x 0 0
set_option maxRecDepth 100000 in
set_option maxHeartbeats 4000000 in
theorem t_Rf_four_B3 {l : Launch} {G : aw_G} {E : aw_E} {σ : aw_S} {v1 : Int32} {v2 : Int32} {t : (aw_S) ⊕ (Int32 × aw_S)} (h : m_Rf_four_B3 σ v1 v2 = some t) (hz : Sum.elim (z_Rf_four_Y3 l G E v1) (z_Rf_four_X3 l G E v1) t) : aw_W l M_Rf_four G B_Rf_four E 3 [(0, .ref 0), (1, .int v1), (2, .int v2)] [] xB σ 0 0 := by
  unfold m_Rf_four_B3 at h
  refine aw_iload_n (pc := 3) (q := 2) dX12_four_3 rfl ?_
  refine aw_if_lt (pc := 4) (tgt := 36) dX12_four_4 (by decide) (fun c1 => ?_) (fun c1 => ?_)
  · replace h := aw_ifp c1 h
    refine aw_sub [] rfl ?_
    cases h
    exact hz
  · replace h := aw_ifn c1 h
    refine aw_aload_n (pc := 7) (q := 0) dX12_four_7 rfl ?_
    refine aw_getC (pc := 8) fd_X12_13.r xB_0 rfl dX12_four_8 ?_
    refine aw_aload_n (pc := 11) (q := 0) dX12_four_11 rfl ?_
    refine aw_getI (pc := 12) fd_X12_134.r xB_0 rfl dX12_four_12 ?_
    refine aw_iload_n (pc := 15) (q := 1) dX12_four_15 rfl ?_
    refine aw_iload_n (pc := 16) (q := 2) dX12_four_16 rfl ?_
    refine aw_ishr (pc := 17) dX12_four_17 ?_
    refine aw_i2b (pc := 18) dX12_four_18 ?_
    obtain ⟨g2, h⟩ := aw_gde h
    refine aw_bast (pc := 19) xB_2 g2 dX12_four_19 ?_
    refine aw_nmS (fun s3 e_s3 => ?_)
    replace h := aw_lte h s3 e_s3
    refine aw_aload_n (pc := 20) (q := 0) dX12_four_20 rfl ?_
    refine aw_dup (pc := 21) dX12_four_21 rfl ?_
    refine aw_getI (pc := 22) fd_X12_134.r xB_0 rfl dX12_four_22 ?_
    refine aw_iconst (pc := 25) (v := 1) dX12_four_25 (by decide) ?_
    refine aw_iadd (pc := 26) dX12_four_26 ?_
    refine aw_putI (pc := 27) fd_X12_134 xB_0 rfl (fun _ => rfl) (fun _ => rfl) dX12_four_27 ?_
    refine aw_nmS (fun s4 e_s4 => ?_)
    replace h := aw_lte h s4 e_s4
    obtain ⟨x5, e_x5⟩ : ∃ z, z = (v2 + (-8 : Int32)) := ⟨_, rfl⟩
    replace h := aw_lte h x5 e_x5
    refine aw_iinc (pc := 30) (q := 2) (v := x5) [(2, .int x5), (0, .ref 0), (1, .int v1)] dX12_four_30 rfl e_x5.symm (by decide) rfl ?_
    refine aw_goto (pc := 33) (tgt := 3) dX12_four_33 (by decide) ?_
    refine aw_sub [1, 2, 0] rfl ?_
    cases h
    exact hz
set_option maxRecDepth 100000 in
set_option maxHeartbeats 4000000 in
theorem t_Rf_four {l : Launch} {G : aw_G} {E : aw_E} {σ : aw_S} {p1 : Int32} {t : aw_S} (h : m_Rf_four σ p1 = some t) (hE : E = (none, xB, t)) : aw_W l M_Rf_four G B_Rf_four E 0 [(0, .ref 0), (1, .int p1)] [] xB σ 0 0 := by
  unfold m_Rf_four at h
  refine aw_bipush (pc := 0) (v := 24) dX12_four_0 (by decide) ?_
  refine aw_istore_n (pc := 2) [(2, .int ((24 : Int32))), (0, .ref 0), (1, .int p1)] dX12_four_2 (by decide) rfl ?_
  obtain ⟨x6, hl7, h⟩ := aw_bde h
  have K8 : z_Rf_four_Y3 l G E p1 x6 := by
    show aw_W l M_Rf_four G B_Rf_four E 36 [] [] xB x6 0 0
    cases h
    subst hE
    exact aw_vret rfl ⟨Nat.zero_le _, Nat.zero_le _⟩ dX12_four_36
  refine aw_sub [1, 2, 0] rfl ?_
  show z_Rf_four_X3 l G E p1 (((24 : Int32), σ))
  exact aw_lp_X (Xp := z_Rf_four_X3 l G E p1) (Y := z_Rf_four_Y3 l G E p1) hl7 K8 (fun s t hf hz => t_Rf_four_B3 hf hz)
theorem c_Rf_four {l : Launch} {G : aw_G} {σ : aw_S} {p1 : Int32} {t : aw_S} (h : m_Rf_four σ p1 = some t) : aw_Ct l yX12_four M_Rf_four G B_Rf_four [.ref 0, .int p1] xB σ (none, xB, t) := aw_Ct_of (by decide) rfl (fun h => by cases h) (Nat.le_of_ble_eq_true rfl) (t_Rf_four h rfl)
/-! LateMoverModel.feed(IIIII)I -/
set_option maxRecDepth 100000 in
set_option maxHeartbeats 4000000 in
theorem t_Rf_feed {l : Launch} {G : aw_G} {E : aw_E} {σ : aw_S} {p1 : Int32} {p2 : Int32} {p3 : Int32} {p4 : Int32} {p5 : Int32} {t : (Int32 × aw_S)} (h : m_Rf_feed σ p1 p2 p3 p4 p5 = some t) (hE : E = (some (.int t.1), xB, t.2)) : aw_W l M_Rf_feed G B_Rf_feed E 0 [(0, .ref 0), (1, .int p1), (2, .int p2), (3, .int p3), (4, .int p4), (5, .int p5)] [] xB σ 0 0 := by
  unfold m_Rf_feed at h
  refine aw_aload_n (pc := 0) (q := 0) dX12_feed_0 rfl ?_
  refine aw_getI (pc := 1) fd_X12_134.r xB_0 rfl dX12_feed_1 ?_
  refine aw_bipush (pc := 4) (v := 20) dX12_feed_4 (by decide) ?_
  refine aw_iadd (pc := 6) dX12_feed_6 ?_
  refine aw_sipush (pc := 7) (v := 800) dX12_feed_7 (by decide) ?_
  refine aw_icmp_le (pc := 10) (tgt := 15) dX12_feed_10 (by decide) (fun c1 => ?_) (fun c1 => ?_)
  · replace h := aw_ifp c1 h
    refine aw_aload_n (pc := 15) (q := 0) dX12_feed_15 rfl ?_
    refine aw_iload_n (pc := 16) (q := 1) dX12_feed_16 rfl ?_
    obtain ⟨s4, e3, h⟩ := aw_bde h
    refine aw_cV0 (pc := 17) [.int p1] (c_Rf_four e3) yy_Rf_four.1 wm_239 yy_Rf_four.2.1 yy_Rf_four.2.2 xB_0 ⟨_, _, rfl⟩ rfl ⟨Nat.le_of_ble_eq_true rfl, Nat.le_of_ble_eq_true rfl⟩ ⟨Nat.zero_le _, Nat.zero_le _⟩ (Nat.le_of_ble_eq_true rfl) dX12_feed_17 ?_
    refine aw_aload_n (pc := 20) (q := 0) dX12_feed_20 rfl ?_
    refine aw_iload_n (pc := 21) (q := 2) dX12_feed_21 rfl ?_
    obtain ⟨s7, e6, h⟩ := aw_bde h
    refine aw_cV0 (pc := 22) [.int p2] (c_Rf_four e6) yy_Rf_four.1 wm_239 yy_Rf_four.2.1 yy_Rf_four.2.2 xB_0 ⟨_, _, rfl⟩ rfl ⟨Nat.le_of_ble_eq_true rfl, Nat.le_of_ble_eq_true rfl⟩ ⟨Nat.zero_le _, Nat.zero_le _⟩ (Nat.le_of_ble_eq_true rfl) dX12_feed_22 ?_
    refine aw_aload_n (pc := 25) (q := 0) dX12_feed_25 rfl ?_
    refine aw_iload_n (pc := 26) (q := 3) dX12_feed_26 rfl ?_
    obtain ⟨s10, e9, h⟩ := aw_bde h
    refine aw_cV0 (pc := 27) [.int p3] (c_Rf_four e9) yy_Rf_four.1 wm_239 yy_Rf_four.2.1 yy_Rf_four.2.2 xB_0 ⟨_, _, rfl⟩ rfl ⟨Nat.le_of_ble_eq_true rfl, Nat.le_of_ble_eq_true rfl⟩ ⟨Nat.zero_le _, Nat.zero_le _⟩ (Nat.le_of_ble_eq_true rfl) dX12_feed_27 ?_
    refine aw_aload_n (pc := 30) (q := 0) dX12_feed_30 rfl ?_
    refine aw_iload (pc := 31) (q := 4) dX12_feed_31 rfl ?_
    obtain ⟨s13, e12, h⟩ := aw_bde h
    refine aw_cV0 (pc := 33) [.int p4] (c_Rf_four e12) yy_Rf_four.1 wm_239 yy_Rf_four.2.1 yy_Rf_four.2.2 xB_0 ⟨_, _, rfl⟩ rfl ⟨Nat.le_of_ble_eq_true rfl, Nat.le_of_ble_eq_true rfl⟩ ⟨Nat.zero_le _, Nat.zero_le _⟩ (Nat.le_of_ble_eq_true rfl) dX12_feed_33 ?_
    refine aw_aload_n (pc := 36) (q := 0) dX12_feed_36 rfl ?_
    refine aw_iload (pc := 37) (q := 5) dX12_feed_37 rfl ?_
    obtain ⟨s16, e15, h⟩ := aw_bde h
    refine aw_cV0 (pc := 39) [.int p5] (c_Rf_four e15) yy_Rf_four.1 wm_239 yy_Rf_four.2.1 yy_Rf_four.2.2 xB_0 ⟨_, _, rfl⟩ rfl ⟨Nat.le_of_ble_eq_true rfl, Nat.le_of_ble_eq_true rfl⟩ ⟨Nat.zero_le _, Nat.zero_le _⟩ (Nat.le_of_ble_eq_true rfl) dX12_feed_39 ?_
    refine aw_aload_n (pc := 42) (q := 0) dX12_feed_42 rfl ?_
    refine aw_getI (pc := 43) fd_X12_134.r xB_0 rfl dX12_feed_43 ?_
    cases h
    subst hE
    exact aw_iret (v := (s16.1 0 2)) rfl aw_ni ⟨Nat.zero_le _, Nat.zero_le _⟩ dX12_feed_46
  · replace h := aw_ifn c1 h
    refine aw_iconst (pc := 13) (v := -1) dX12_feed_13 (by decide) ?_
    cases h
    subst hE
    exact aw_iret (v := (-1 : Int32)) rfl aw_ni ⟨Nat.zero_le _, Nat.zero_le _⟩ dX12_feed_14
theorem c_Rf_feed {l : Launch} {G : aw_G} {σ : aw_S} {p1 : Int32} {p2 : Int32} {p3 : Int32} {p4 : Int32} {p5 : Int32} {t : (Int32 × aw_S)} (h : m_Rf_feed σ p1 p2 p3 p4 p5 = some t) : aw_Ct l yX12_feed M_Rf_feed G B_Rf_feed [.ref 0, .int p1, .int p2, .int p3, .int p4, .int p5] xB σ (some (.int t.1), xB, t.2) := aw_Ct_of (by decide) rfl (fun h => by cases h) (Nat.le_of_ble_eq_true rfl) (t_Rf_feed h rfl)
/-! LateMoverModel.isIn(III)Z -/
set_option maxRecDepth 100000 in
set_option maxHeartbeats 4000000 in
theorem t_Rf_isIn {l : Launch} {G : aw_G} {E : aw_E} {σ : aw_S} {p0 : Int32} {p1 : Int32} {p2 : Int32} {t : Int32} (h : m_Rf_isIn σ p0 p1 p2 = some t) (hE : E = (some (.int t), xB, σ)) : aw_W l M_Rf_isIn G B_Rf_isIn E 0 [(0, .int p0), (1, .int p1), (2, .int p2)] [] xB σ 0 0 := by
  unfold m_Rf_isIn at h
  refine aw_iload_n (pc := 0) (q := 0) dX12_isIn_0 rfl ?_
  refine aw_iload_n (pc := 1) (q := 1) dX12_isIn_1 rfl ?_
  refine aw_icmp_lt (pc := 2) (tgt := 14) dX12_isIn_2 (by decide) (fun c1 => ?_) (fun c1 => ?_)
  · replace h := aw_ifp c1 h
    refine aw_iconst (pc := 14) (v := 0) dX12_isIn_14 (by decide) ?_
    cases h
    subst hE
    exact aw_iret (v := (0 : Int32)) rfl aw_n0 ⟨Nat.zero_le _, Nat.zero_le _⟩ dX12_isIn_15
  · replace h := aw_ifn c1 h
    refine aw_iload_n (pc := 5) (q := 0) dX12_isIn_5 rfl ?_
    refine aw_iload_n (pc := 6) (q := 2) dX12_isIn_6 rfl ?_
    refine aw_icmp_gt (pc := 7) (tgt := 14) dX12_isIn_7 (by decide) (fun c2 => ?_) (fun c2 => ?_)
    · replace h := aw_ifp c2 h
      refine aw_iconst (pc := 14) (v := 0) dX12_isIn_14 (by decide) ?_
      cases h
      subst hE
      exact aw_iret (v := (0 : Int32)) rfl aw_n0 ⟨Nat.zero_le _, Nat.zero_le _⟩ dX12_isIn_15
    · replace h := aw_ifn c2 h
      refine aw_iconst (pc := 10) (v := 1) dX12_isIn_10 (by decide) ?_
      refine aw_goto (pc := 11) (tgt := 15) dX12_isIn_11 (by decide) ?_
      cases h
      subst hE
      exact aw_iret (v := (1 : Int32)) rfl aw_n1 ⟨Nat.zero_le _, Nat.zero_le _⟩ dX12_isIn_15
theorem c_Rf_isIn {l : Launch} {G : aw_G} {σ : aw_S} {p0 : Int32} {p1 : Int32} {p2 : Int32} {t : Int32} (h : m_Rf_isIn σ p0 p1 p2 = some t) : aw_Ct l yX12_isIn M_Rf_isIn G B_Rf_isIn [.int p0, .int p1, .int p2] xB σ (some (.int t), xB, σ) := aw_Ct_of (by decide) rfl (fun h => by cases h) (Nat.le_of_ble_eq_true rfl) (t_Rf_isIn h rfl)
/-! LateMoverModel.end(I)I -/
set_option maxRecDepth 100000 in
set_option maxHeartbeats 4000000 in
theorem t_Rf_end {l : Launch} {G : aw_G} {E : aw_E} {σ : aw_S} {p1 : Int32} {t : (Int32 × aw_S)} (h : m_Rf_end σ p1 = some t) (hE : E = (some (.int t.1), xB, t.2)) : aw_W l M_Rf_end G B_Rf_end E 0 [(0, .ref 0), (1, .int p1)] [] xB σ 0 0 := by
  unfold m_Rf_end at h
  refine aw_iload_n (pc := 0) (q := 1) dX12_end_0 rfl ?_
  refine aw_iconst (pc := 1) (v := 0) dX12_end_1 (by decide) ?_
  refine aw_aload_n (pc := 2) (q := 0) dX12_end_2 rfl ?_
  refine aw_getI (pc := 3) fd_X12_134.r xB_0 rfl dX12_end_3 ?_
  obtain ⟨r1, e2, h⟩ := aw_bde h
  refine aw_cS1 (pc := 6) [.int p1, .int ((0 : Int32)), .int ((σ.1 0 2))] (c_Rf_isIn e2) yy_Rf_isIn.1 wm_255 yy_Rf_isIn.2 rfl ⟨Nat.le_of_ble_eq_true rfl, Nat.le_of_ble_eq_true rfl⟩ ⟨Nat.zero_le _, Nat.zero_le _⟩ (Nat.le_of_ble_eq_true rfl) dX12_end_6 ?_
  refine aw_if_ne (pc := 9) (tgt := 14) dX12_end_9 (by decide) (fun c3 => ?_) (fun c3 => ?_)
  · replace h := aw_ifn c3 h
    refine aw_aload_n (pc := 14) (q := 0) dX12_end_14 rfl ?_
    refine aw_iload_n (pc := 15) (q := 1) dX12_end_15 rfl ?_
    refine aw_putI (pc := 16) fd_X12_134 xB_0 rfl (fun _ => rfl) (fun _ => rfl) dX12_end_16 ?_
    refine aw_nmS (fun s4 e_s4 => ?_)
    replace h := aw_lte h s4 e_s4
    refine aw_iload_n (pc := 19) (q := 1) dX12_end_19 rfl ?_
    cases h
    subst hE
    exact aw_iret (v := _) rfl aw_ni ⟨Nat.zero_le _, Nat.zero_le _⟩ dX12_end_20
  · replace h := aw_ifp c3 h
    refine aw_iconst (pc := 12) (v := -1) dX12_end_12 (by decide) ?_
    cases h
    subst hE
    exact aw_iret (v := (-1 : Int32)) rfl aw_ni ⟨Nat.zero_le _, Nat.zero_le _⟩ dX12_end_13
theorem c_Rf_end {l : Launch} {G : aw_G} {σ : aw_S} {p1 : Int32} {t : (Int32 × aw_S)} (h : m_Rf_end σ p1 = some t) : aw_Ct l yX12_end M_Rf_end G B_Rf_end [.ref 0, .int p1] xB σ (some (.int t.1), xB, t.2) := aw_Ct_of (by decide) rfl (fun h => by cases h) (Nat.le_of_ble_eq_true rfl) (t_Rf_end h rfl)
/-! LateMoverModel.put(II)V -/
set_option maxRecDepth 100000 in
set_option maxHeartbeats 4000000 in
theorem t_Rf_put {l : Launch} {G : aw_G} {E : aw_E} {σ : aw_S} {p1 : Int32} {p2 : Int32} {t : aw_S} (h : m_Rf_put σ p1 p2 = some t) (hE : E = (none, xB, t)) : aw_W l M_Rf_put G B_Rf_put E 0 [(0, .ref 0), (1, .int p1), (2, .int p2)] [] xB σ 0 0 := by
  unfold m_Rf_put at h
  refine aw_aload_n (pc := 0) (q := 0) dX12_put_0 rfl ?_
  refine aw_getC (pc := 1) fd_X12_7.r xB_0 rfl dX12_put_1 ?_
  refine aw_sipush (pc := 4) (v := 1360) dX12_put_4 (by decide) ?_
  refine aw_iload_n (pc := 7) (q := 1) dX12_put_7 rfl ?_
  refine aw_iadd (pc := 8) dX12_put_8 ?_
  refine aw_iload_n (pc := 9) (q := 2) dX12_put_9 rfl ?_
  obtain ⟨g1, h⟩ := aw_gde h
  refine aw_iast (pc := 10) xB_1 g1 dX12_put_10 ?_
  refine aw_nmS (fun s2 e_s2 => ?_)
  replace h := aw_lte h s2 e_s2
  cases h
  subst hE
  exact aw_vret rfl ⟨Nat.zero_le _, Nat.zero_le _⟩ dX12_put_11
theorem c_Rf_put {l : Launch} {G : aw_G} {σ : aw_S} {p1 : Int32} {p2 : Int32} {t : aw_S} (h : m_Rf_put σ p1 p2 = some t) : aw_Ct l yX12_put M_Rf_put G B_Rf_put [.ref 0, .int p1, .int p2] xB σ (none, xB, t) := aw_Ct_of (by decide) rfl (fun h => by cases h) (Nat.le_of_ble_eq_true rfl) (t_Rf_put h rfl)
/-! LateMoverModel.read(I)I -/
set_option maxRecDepth 100000 in
set_option maxHeartbeats 4000000 in
theorem t_Rf_read {l : Launch} {G : aw_G} {E : aw_E} {σ : aw_S} {p1 : Int32} {t : Int32} (h : m_Rf_read σ p1 = some t) (hE : E = (some (.int t), xB, σ)) : aw_W l M_Rf_read G B_Rf_read E 0 [(0, .ref 0), (1, .int p1)] [] xB σ 0 0 := by
  unfold m_Rf_read at h
  refine aw_aload_n (pc := 0) (q := 0) dX12_read_0 rfl ?_
  refine aw_getC (pc := 1) fd_X12_7.r xB_0 rfl dX12_read_1 ?_
  refine aw_sipush (pc := 4) (v := 1360) dX12_read_4 (by decide) ?_
  refine aw_iload_n (pc := 7) (q := 1) dX12_read_7 rfl ?_
  refine aw_iadd (pc := 8) dX12_read_8 ?_
  obtain ⟨g1, h⟩ := aw_gde h
  refine aw_iald (pc := 9) xB_1 g1 dX12_read_9 ?_
  cases h
  subst hE
  exact aw_iret (v := (σ.1 1 (((1360 : Int32) + p1)).toNatClampNeg)) rfl aw_ni ⟨Nat.zero_le _, Nat.zero_le _⟩ dX12_read_10
theorem c_Rf_read {l : Launch} {G : aw_G} {σ : aw_S} {p1 : Int32} {t : Int32} (h : m_Rf_read σ p1 = some t) : aw_Ct l yX12_read M_Rf_read G B_Rf_read [.ref 0, .int p1] xB σ (some (.int t), xB, σ) := aw_Ct_of (by decide) rfl (fun h => by cases h) (Nat.le_of_ble_eq_true rfl) (t_Rf_read h rfl)
/-! LateMoverModel.here()I -/
set_option maxRecDepth 100000 in
set_option maxHeartbeats 4000000 in
theorem t_Rf_here {l : Launch} {G : aw_G} {E : aw_E} {σ : aw_S} {t : Int32} (h : m_Rf_here σ = some t) (hE : E = (some (.int t), xB, σ)) : aw_W l M_Rf_here G B_Rf_here E 0 [(0, .ref 0)] [] xB σ 0 0 := by
  unfold m_Rf_here at h
  refine aw_aload_n (pc := 0) (q := 0) dX12_here_0 rfl ?_
  refine aw_getI (pc := 1) fd_X12_145.r xB_0 rfl dX12_here_1 ?_
  refine aw_aload_n (pc := 4) (q := 0) dX12_here_4 rfl ?_
  refine aw_getI (pc := 5) fd_X12_134.r xB_0 rfl dX12_here_5 ?_
  refine aw_icmp_ge (pc := 8) (tgt := 27) dX12_here_8 (by decide) (fun c1 => ?_) (fun c1 => ?_)
  · replace h := aw_ifp c1 h
    refine aw_iconst (pc := 27) (v := -1) dX12_here_27 (by decide) ?_
    cases h
    subst hE
    exact aw_iret (v := (-1 : Int32)) rfl aw_ni ⟨Nat.zero_le _, Nat.zero_le _⟩ dX12_here_28
  · replace h := aw_ifn c1 h
    refine aw_aload_n (pc := 11) (q := 0) dX12_here_11 rfl ?_
    refine aw_getC (pc := 12) fd_X12_13.r xB_0 rfl dX12_here_12 ?_
    refine aw_aload_n (pc := 15) (q := 0) dX12_here_15 rfl ?_
    refine aw_getI (pc := 16) fd_X12_145.r xB_0 rfl dX12_here_16 ?_
    obtain ⟨g2, h⟩ := aw_gde h
    refine aw_bald (pc := 19) xB_2 g2 dX12_here_19 ?_
    refine aw_sipush (pc := 20) (v := 255) dX12_here_20 (by decide) ?_
    refine aw_iand (pc := 23) dX12_here_23 ?_
    refine aw_goto (pc := 24) (tgt := 28) dX12_here_24 (by decide) ?_
    cases h
    subst hE
    exact aw_iret (v := ((σ.1 2 ((σ.1 0 3)).toNatClampNeg) &&& (255 : Int32))) rfl aw_ni ⟨Nat.zero_le _, Nat.zero_le _⟩ dX12_here_28
theorem c_Rf_here {l : Launch} {G : aw_G} {σ : aw_S} {t : Int32} (h : m_Rf_here σ = some t) : aw_Ct l yX12_here M_Rf_here G B_Rf_here [.ref 0] xB σ (some (.int t), xB, σ) := aw_Ct_of (by decide) rfl (fun h => by cases h) (Nat.le_of_ble_eq_true rfl) (t_Rf_here h rfl)
/-! LateMoverModel.isLetter(I)Z -/
set_option maxRecDepth 100000 in
set_option maxHeartbeats 4000000 in
theorem t_Rf_isLetter {l : Launch} {G : aw_G} {E : aw_E} {σ : aw_S} {p0 : Int32} {t : Int32} (h : m_Rf_isLetter σ p0 = some t) (hE : E = (some (.int t), xB, σ)) : aw_W l M_Rf_isLetter G B_Rf_isLetter E 0 [(0, .int p0)] [] xB σ 0 0 := by
  unfold m_Rf_isLetter at h
  refine aw_iload_n (pc := 0) (q := 0) dX12_isLetter_0 rfl ?_
  refine aw_bipush (pc := 1) (v := 97) dX12_isLetter_1 (by decide) ?_
  refine aw_icmp_lt (pc := 3) (tgt := 16) dX12_isLetter_3 (by decide) (fun c1 => ?_) (fun c1 => ?_)
  · replace h := aw_ifp c1 h
    refine aw_iconst (pc := 16) (v := 0) dX12_isLetter_16 (by decide) ?_
    cases h
    subst hE
    exact aw_iret (v := (0 : Int32)) rfl aw_n0 ⟨Nat.zero_le _, Nat.zero_le _⟩ dX12_isLetter_17
  · replace h := aw_ifn c1 h
    refine aw_iload_n (pc := 6) (q := 0) dX12_isLetter_6 rfl ?_
    refine aw_bipush (pc := 7) (v := 122) dX12_isLetter_7 (by decide) ?_
    refine aw_icmp_gt (pc := 9) (tgt := 16) dX12_isLetter_9 (by decide) (fun c2 => ?_) (fun c2 => ?_)
    · replace h := aw_ifp c2 h
      refine aw_iconst (pc := 16) (v := 0) dX12_isLetter_16 (by decide) ?_
      cases h
      subst hE
      exact aw_iret (v := (0 : Int32)) rfl aw_n0 ⟨Nat.zero_le _, Nat.zero_le _⟩ dX12_isLetter_17
    · replace h := aw_ifn c2 h
      refine aw_iconst (pc := 12) (v := 1) dX12_isLetter_12 (by decide) ?_
      refine aw_goto (pc := 13) (tgt := 17) dX12_isLetter_13 (by decide) ?_
      cases h
      subst hE
      exact aw_iret (v := (1 : Int32)) rfl aw_n1 ⟨Nat.zero_le _, Nat.zero_le _⟩ dX12_isLetter_17
theorem c_Rf_isLetter {l : Launch} {G : aw_G} {σ : aw_S} {p0 : Int32} {t : Int32} (h : m_Rf_isLetter σ p0 = some t) : aw_Ct l yX12_isLetter M_Rf_isLetter G B_Rf_isLetter [.int p0] xB σ (some (.int t), xB, σ) := aw_Ct_of (by decide) rfl (fun h => by cases h) (Nat.le_of_ble_eq_true rfl) (t_Rf_isLetter h rfl)
/-! LateMoverModel.fails(I)Z -/
set_option maxRecDepth 100000 in
set_option maxHeartbeats 4000000 in
theorem t_Rf_fails {l : Launch} {G : aw_G} {E : aw_E} {σ : aw_S} {p1 : Int32} {t : (Int32 × aw_S)} (h : m_Rf_fails σ p1 = some t) (hE : E = (some (.int t.1), xB, t.2)) : aw_W l M_Rf_fails G B_Rf_fails E 0 [(0, .ref 0), (1, .int p1)] [] xB σ 0 0 := by
  unfold m_Rf_fails at h
  refine aw_aload_n (pc := 0) (q := 0) dX12_fails_0 rfl ?_
  refine aw_iload_n (pc := 1) (q := 1) dX12_fails_1 rfl ?_
  refine aw_putI (pc := 2) fd_X12_17 xB_0 rfl (fun _ => rfl) (fun _ => rfl) dX12_fails_2 ?_
  refine aw_nmS (fun s1 e_s1 => ?_)
  replace h := aw_lte h s1 e_s1
  refine aw_iconst (pc := 5) (v := 0) dX12_fails_5 (by decide) ?_
  cases h
  subst hE
  exact aw_iret (v := (0 : Int32)) rfl aw_n0 ⟨Nat.zero_le _, Nat.zero_le _⟩ dX12_fails_6
theorem c_Rf_fails {l : Launch} {G : aw_G} {σ : aw_S} {p1 : Int32} {t : (Int32 × aw_S)} (h : m_Rf_fails σ p1 = some t) : aw_Ct l yX12_fails M_Rf_fails G B_Rf_fails [.ref 0, .int p1] xB σ (some (.int t.1), xB, t.2) := aw_Ct_of (by decide) rfl (fun h => by cases h) (Nat.le_of_ble_eq_true rfl) (t_Rf_fails h rfl)
/-! LateMoverModel.takes(I)Z -/
set_option maxRecDepth 100000 in
set_option maxHeartbeats 4000000 in
theorem t_Rf_takes {l : Launch} {G : aw_G} {E : aw_E} {σ : aw_S} {p1 : Int32} {t : (Int32 × aw_S)} (h : m_Rf_takes σ p1 = some t) (hE : E = (some (.int t.1), xB, t.2)) : aw_W l M_Rf_takes G B_Rf_takes E 0 [(0, .ref 0), (1, .int p1)] [] xB σ 0 0 := by
  unfold m_Rf_takes at h
  refine aw_aload_n (pc := 0) (q := 0) dX12_takes_0 rfl ?_
  obtain ⟨r1, e2, h⟩ := aw_bde h
  refine aw_cV1 (pc := 1) [] (c_Rf_here e2) yy_Rf_here.1 wm_675 yy_Rf_here.2.1 yy_Rf_here.2.2 xB_0 ⟨_, _, rfl⟩ rfl ⟨Nat.le_of_ble_eq_true rfl, Nat.le_of_ble_eq_true rfl⟩ ⟨Nat.zero_le _, Nat.zero_le _⟩ (Nat.le_of_ble_eq_true rfl) dX12_takes_1 ?_
  refine aw_iload_n (pc := 4) (q := 1) dX12_takes_4 rfl ?_
  refine aw_icmp_eq (pc := 5) (tgt := 17) dX12_takes_5 (by decide) (fun c3 => ?_) (fun c3 => ?_)
  · replace h := aw_ifp c3 h
    refine aw_aload_n (pc := 17) (q := 0) dX12_takes_17 rfl ?_
    refine aw_dup (pc := 18) dX12_takes_18 rfl ?_
    refine aw_getI (pc := 19) fd_X12_145.r xB_0 rfl dX12_takes_19 ?_
    refine aw_iconst (pc := 22) (v := 1) dX12_takes_22 (by decide) ?_
    refine aw_iadd (pc := 23) dX12_takes_23 ?_
    refine aw_putI (pc := 24) fd_X12_145 xB_0 rfl (fun _ => rfl) (fun _ => rfl) dX12_takes_24 ?_
    refine aw_nmS (fun s4 e_s4 => ?_)
    replace h := aw_lte h s4 e_s4
    refine aw_iconst (pc := 27) (v := 1) dX12_takes_27 (by decide) ?_
    cases h
    subst hE
    exact aw_iret (v := (1 : Int32)) rfl aw_n1 ⟨Nat.zero_le _, Nat.zero_le _⟩ dX12_takes_28
  · replace h := aw_ifn c3 h
    refine aw_aload_n (pc := 8) (q := 0) dX12_takes_8 rfl ?_
    refine aw_aload_n (pc := 9) (q := 0) dX12_takes_9 rfl ?_
    refine aw_getI (pc := 10) fd_X12_145.r xB_0 rfl dX12_takes_10 ?_
    obtain ⟨r5, s7, e6, h⟩ := aw_bd2e h
    refine aw_cV1 (pc := 13) [.int ((σ.1 0 3))] (c_Rf_fails e6) yy_Rf_fails.1 wm_663 yy_Rf_fails.2.1 yy_Rf_fails.2.2 xB_0 ⟨_, _, rfl⟩ rfl ⟨Nat.le_of_ble_eq_true rfl, Nat.le_of_ble_eq_true rfl⟩ ⟨Nat.zero_le _, Nat.zero_le _⟩ (Nat.le_of_ble_eq_true rfl) dX12_takes_13 ?_
    obtain ⟨g8, h⟩ := aw_gde h
    cases h
    subst hE
    exact aw_iret (v := _) rfl (aw_nz g8) ⟨Nat.zero_le _, Nat.zero_le _⟩ dX12_takes_16
theorem c_Rf_takes {l : Launch} {G : aw_G} {σ : aw_S} {p1 : Int32} {t : (Int32 × aw_S)} (h : m_Rf_takes σ p1 = some t) : aw_Ct l yX12_takes M_Rf_takes G B_Rf_takes [.ref 0, .int p1] xB σ (some (.int t.1), xB, t.2) := aw_Ct_of (by decide) rfl (fun h => by cases h) (Nat.le_of_ble_eq_true rfl) (t_Rf_takes h rfl)
/-! LateMoverModel.isFigure(I)Z -/
set_option maxRecDepth 100000 in
set_option maxHeartbeats 4000000 in
theorem t_Rf_isFigure {l : Launch} {G : aw_G} {E : aw_E} {σ : aw_S} {p0 : Int32} {t : Int32} (h : m_Rf_isFigure σ p0 = some t) (hE : E = (some (.int t), xB, σ)) : aw_W l M_Rf_isFigure G B_Rf_isFigure E 0 [(0, .int p0)] [] xB σ 0 0 := by
  unfold m_Rf_isFigure at h
  refine aw_iload_n (pc := 0) (q := 0) dX12_isFigure_0 rfl ?_
  refine aw_bipush (pc := 1) (v := 48) dX12_isFigure_1 (by decide) ?_
  refine aw_icmp_lt (pc := 3) (tgt := 16) dX12_isFigure_3 (by decide) (fun c1 => ?_) (fun c1 => ?_)
  · replace h := aw_ifp c1 h
    refine aw_iconst (pc := 16) (v := 0) dX12_isFigure_16 (by decide) ?_
    cases h
    subst hE
    exact aw_iret (v := (0 : Int32)) rfl aw_n0 ⟨Nat.zero_le _, Nat.zero_le _⟩ dX12_isFigure_17
  · replace h := aw_ifn c1 h
    refine aw_iload_n (pc := 6) (q := 0) dX12_isFigure_6 rfl ?_
    refine aw_bipush (pc := 7) (v := 57) dX12_isFigure_7 (by decide) ?_
    refine aw_icmp_gt (pc := 9) (tgt := 16) dX12_isFigure_9 (by decide) (fun c2 => ?_) (fun c2 => ?_)
    · replace h := aw_ifp c2 h
      refine aw_iconst (pc := 16) (v := 0) dX12_isFigure_16 (by decide) ?_
      cases h
      subst hE
      exact aw_iret (v := (0 : Int32)) rfl aw_n0 ⟨Nat.zero_le _, Nat.zero_le _⟩ dX12_isFigure_17
    · replace h := aw_ifn c2 h
      refine aw_iconst (pc := 12) (v := 1) dX12_isFigure_12 (by decide) ?_
      refine aw_goto (pc := 13) (tgt := 17) dX12_isFigure_13 (by decide) ?_
      cases h
      subst hE
      exact aw_iret (v := (1 : Int32)) rfl aw_n1 ⟨Nat.zero_le _, Nat.zero_le _⟩ dX12_isFigure_17
theorem c_Rf_isFigure {l : Launch} {G : aw_G} {σ : aw_S} {p0 : Int32} {t : Int32} (h : m_Rf_isFigure σ p0 = some t) : aw_Ct l yX12_isFigure M_Rf_isFigure G B_Rf_isFigure [.int p0] xB σ (some (.int t), xB, σ) := aw_Ct_of (by decide) rfl (fun h => by cases h) (Nat.le_of_ble_eq_true rfl) (t_Rf_isFigure h rfl)
/-! LateMoverModel.readDigits(I)Z -/
def z_Rf_readDigits_X29 (l : Launch) (G : aw_G) (E : aw_E) (v1 : Int32) (v2 : Int32) (s : aw_S) : Prop := aw_W l M_Rf_readDigits G B_Rf_readDigits E 29 [(0, .ref 0), (1, .int v1), (2, .int v2)] [] xB s 0 0
def z_Rf_readDigits_Y29 (l : Launch) (G : aw_G) (E : aw_E) (v1 : Int32) (v2 : Int32) (x : (aw_S)) : Prop := aw_W l M_Rf_readDigits G B_Rf_readDigits E 81 [] [] xB x 0 0
set_option maxRecDepth 100000 in
set_option maxHeartbeats 4000000 in
theorem t_Rf_readDigits_B29 {l : Launch} {G : aw_G} {E : aw_E} {σ : aw_S} {v1 : Int32} {v2 : Int32} {t : (aw_S) ⊕ aw_S} (h : m_Rf_readDigits_B29 σ v1 v2 = some t) (hz : Sum.elim (z_Rf_readDigits_Y29 l G E v1 v2) (z_Rf_readDigits_X29 l G E v1 v2) t) : aw_W l M_Rf_readDigits G B_Rf_readDigits E 29 [(0, .ref 0), (1, .int v1), (2, .int v2)] [] xB σ 0 0 := by
  unfold m_Rf_readDigits_B29 at h
  refine aw_aload_n (pc := 29) (q := 0) dX12_readDigits_29 rfl ?_
  obtain ⟨r8, e9, h⟩ := aw_bde h
  refine aw_cV1 (pc := 30) [] (c_Rf_here e9) yy_Rf_here.1 wm_675 yy_Rf_here.2.1 yy_Rf_here.2.2 xB_0 ⟨_, _, rfl⟩ rfl ⟨Nat.le_of_ble_eq_true rfl, Nat.le_of_ble_eq_true rfl⟩ ⟨Nat.zero_le _, Nat.zero_le _⟩ (Nat.le_of_ble_eq_true rfl) dX12_readDigits_30 ?_
  obtain ⟨r10, e11, h⟩ := aw_bde h
  refine aw_cS1 (pc := 33) [.int r8] (c_Rf_isFigure e11) yy_Rf_isFigure.1 wm_695 yy_Rf_isFigure.2 rfl ⟨Nat.le_of_ble_eq_true rfl, Nat.le_of_ble_eq_true rfl⟩ ⟨Nat.zero_le _, Nat.zero_le _⟩ (Nat.le_of_ble_eq_true rfl) dX12_readDigits_33 ?_
  refine aw_if_eq (pc := 36) (tgt := 81) dX12_readDigits_36 (by decide) (fun c12 => ?_) (fun c12 => ?_)
  · replace h := aw_ifp c12 h
    refine aw_sub [] rfl ?_
    cases h
    exact hz
  · replace h := aw_ifn c12 h
    refine aw_aload_n (pc := 39) (q := 0) dX12_readDigits_39 rfl ?_
    refine aw_getI (pc := 40) fd_X12_145.r xB_0 rfl dX12_readDigits_40 ?_
    refine aw_iload_n (pc := 43) (q := 2) dX12_readDigits_43 rfl ?_
    refine aw_isub (pc := 44) dX12_readDigits_44 ?_
    refine aw_iload_n (pc := 45) (q := 1) dX12_readDigits_45 rfl ?_
    refine aw_icmp_ge (pc := 46) (tgt := 81) dX12_readDigits_46 (by decide) (fun c13 => ?_) (fun c13 => ?_)
    · replace h := aw_ifp c13 h
      refine aw_sub [] rfl ?_
      cases h
      exact hz
    · replace h := aw_ifn c13 h
      refine aw_aload_n (pc := 49) (q := 0) dX12_readDigits_49 rfl ?_
      refine aw_bipush (pc := 50) (v := 10) dX12_readDigits_50 (by decide) ?_
      refine aw_aload_n (pc := 52) (q := 0) dX12_readDigits_52 rfl ?_
      refine aw_getI (pc := 53) fd_X12_159.r xB_0 rfl dX12_readDigits_53 ?_
      refine aw_imul (pc := 56) dX12_readDigits_56 ?_
      refine aw_aload_n (pc := 57) (q := 0) dX12_readDigits_57 rfl ?_
      obtain ⟨r14, e15, h⟩ := aw_bde h
      refine aw_cV1 (pc := 58) [] (c_Rf_here e15) yy_Rf_here.1 wm_675 yy_Rf_here.2.1 yy_Rf_here.2.2 xB_0 ⟨_, _, rfl⟩ rfl ⟨Nat.le_of_ble_eq_true rfl, Nat.le_of_ble_eq_true rfl⟩ ⟨Nat.zero_le _, Nat.zero_le _⟩ (Nat.le_of_ble_eq_true rfl) dX12_readDigits_58 ?_
      refine aw_iadd (pc := 61) dX12_readDigits_61 ?_
      refine aw_bipush (pc := 62) (v := 48) dX12_readDigits_62 (by decide) ?_
      refine aw_isub (pc := 64) dX12_readDigits_64 ?_
      refine aw_putI (pc := 65) fd_X12_159 xB_0 rfl (fun _ => rfl) (fun _ => rfl) dX12_readDigits_65 ?_
      refine aw_nmS (fun s16 e_s16 => ?_)
      replace h := aw_lte h s16 e_s16
      refine aw_aload_n (pc := 68) (q := 0) dX12_readDigits_68 rfl ?_
      refine aw_dup (pc := 69) dX12_readDigits_69 rfl ?_
      refine aw_getI (pc := 70) fd_X12_145.r xB_0 rfl dX12_readDigits_70 ?_
      refine aw_iconst (pc := 73) (v := 1) dX12_readDigits_73 (by decide) ?_
      refine aw_iadd (pc := 74) dX12_readDigits_74 ?_
      refine aw_putI (pc := 75) fd_X12_145 xB_0 rfl (fun _ => rfl) (fun _ => rfl) dX12_readDigits_75 ?_
      refine aw_nmS (fun s17 e_s17 => ?_)
      replace h := aw_lte h s17 e_s17
      refine aw_goto (pc := 78) (tgt := 29) dX12_readDigits_78 (by decide) ?_
      refine aw_sub [0, 1, 2] rfl ?_
      cases h
      exact hz
set_option maxRecDepth 100000 in
set_option maxHeartbeats 4000000 in
theorem t_Rf_readDigits {l : Launch} {G : aw_G} {E : aw_E} {σ : aw_S} {p1 : Int32} {t : (Int32 × aw_S)} (h : m_Rf_readDigits σ p1 = some t) (hE : E = (some (.int t.1), xB, t.2)) : aw_W l M_Rf_readDigits G B_Rf_readDigits E 0 [(0, .ref 0), (1, .int p1)] [] xB σ 0 0 := by
  unfold m_Rf_readDigits at h
  refine aw_aload_n (pc := 0) (q := 0) dX12_readDigits_0 rfl ?_
  obtain ⟨r1, e2, h⟩ := aw_bde h
  refine aw_cV1 (pc := 1) [] (c_Rf_here e2) yy_Rf_here.1 wm_675 yy_Rf_here.2.1 yy_Rf_here.2.2 xB_0 ⟨_, _, rfl⟩ rfl ⟨Nat.le_of_ble_eq_true rfl, Nat.le_of_ble_eq_true rfl⟩ ⟨Nat.zero_le _, Nat.zero_le _⟩ (Nat.le_of_ble_eq_true rfl) dX12_readDigits_1 ?_
  obtain ⟨r3, e4, h⟩ := aw_bde h
  refine aw_cS1 (pc := 4) [.int r1] (c_Rf_isFigure e4) yy_Rf_isFigure.1 wm_695 yy_Rf_isFigure.2 rfl ⟨Nat.le_of_ble_eq_true rfl, Nat.le_of_ble_eq_true rfl⟩ ⟨Nat.zero_le _, Nat.zero_le _⟩ (Nat.le_of_ble_eq_true rfl) dX12_readDigits_4 ?_
  refine aw_if_ne (pc := 7) (tgt := 19) dX12_readDigits_7 (by decide) (fun c5 => ?_) (fun c5 => ?_)
  · replace h := aw_ifn c5 h
    refine aw_aload_n (pc := 19) (q := 0) dX12_readDigits_19 rfl ?_
    refine aw_iconst (pc := 20) (v := 0) dX12_readDigits_20 (by decide) ?_
    refine aw_putI (pc := 21) fd_X12_159 xB_0 rfl (fun _ => rfl) (fun _ => rfl) dX12_readDigits_21 ?_
    refine aw_nmS (fun s6 e_s6 => ?_)
    replace h := aw_lte h s6 e_s6
    refine aw_aload_n (pc := 24) (q := 0) dX12_readDigits_24 rfl ?_
    refine aw_getI (pc := 25) fd_X12_145.r xB_0 rfl dX12_readDigits_25 ?_
    refine aw_nmI (fun x7 e_x7 => ?_)
    replace h := aw_lte h x7 e_x7
    refine aw_istore_n (pc := 28) [(2, .int x7), (0, .ref 0), (1, .int p1)] dX12_readDigits_28 (by decide) rfl ?_
    obtain ⟨x18, hl19, h⟩ := aw_bde h
    have K20 : z_Rf_readDigits_Y29 l G E p1 x7 x18 := by
      show aw_W l M_Rf_readDigits G B_Rf_readDigits E 81 [] [] xB x18 0 0
      refine aw_iconst (pc := 81) (v := 1) dX12_readDigits_81 (by decide) ?_
      cases h
      subst hE
      exact aw_iret (v := (1 : Int32)) rfl aw_n1 ⟨Nat.zero_le _, Nat.zero_le _⟩ dX12_readDigits_82
    refine aw_sub [1, 2, 0] rfl ?_
    show z_Rf_readDigits_X29 l G E p1 x7 s6
    exact aw_lp_X (Xp := z_Rf_readDigits_X29 l G E p1 x7) (Y := z_Rf_readDigits_Y29 l G E p1 x7) hl19 K20 (fun s t hf hz => t_Rf_readDigits_B29 hf hz)
  · replace h := aw_ifp c5 h
    refine aw_aload_n (pc := 10) (q := 0) dX12_readDigits_10 rfl ?_
    refine aw_aload_n (pc := 11) (q := 0) dX12_readDigits_11 rfl ?_
    refine aw_getI (pc := 12) fd_X12_145.r xB_0 rfl dX12_readDigits_12 ?_
    obtain ⟨r21, s23, e22, h⟩ := aw_bd2e h
    refine aw_cV1 (pc := 15) [.int ((σ.1 0 3))] (c_Rf_fails e22) yy_Rf_fails.1 wm_663 yy_Rf_fails.2.1 yy_Rf_fails.2.2 xB_0 ⟨_, _, rfl⟩ rfl ⟨Nat.le_of_ble_eq_true rfl, Nat.le_of_ble_eq_true rfl⟩ ⟨Nat.zero_le _, Nat.zero_le _⟩ (Nat.le_of_ble_eq_true rfl) dX12_readDigits_15 ?_
    obtain ⟨g24, h⟩ := aw_gde h
    cases h
    subst hE
    exact aw_iret (v := _) rfl (aw_nz g24) ⟨Nat.zero_le _, Nat.zero_le _⟩ dX12_readDigits_18
theorem c_Rf_readDigits {l : Launch} {G : aw_G} {σ : aw_S} {p1 : Int32} {t : (Int32 × aw_S)} (h : m_Rf_readDigits σ p1 = some t) : aw_Ct l yX12_readDigits M_Rf_readDigits G B_Rf_readDigits [.ref 0, .int p1] xB σ (some (.int t.1), xB, t.2) := aw_Ct_of (by decide) rfl (fun h => by cases h) (Nat.le_of_ble_eq_true rfl) (t_Rf_readDigits h rfl)
/-! LateMoverModel.readA()Z -/
set_option maxRecDepth 100000 in
set_option maxHeartbeats 4000000 in
theorem t_Rf_readA {l : Launch} {G : aw_G} {E : aw_E} {σ : aw_S} {t : (Int32 × aw_S)} (h : m_Rf_readA σ = some t) (hE : E = (some (.int t.1), xB, t.2)) : aw_W l M_Rf_readA G B_Rf_readA E 0 [(0, .ref 0)] [] xB σ 0 0 := by
  unfold m_Rf_readA at h
  refine aw_aload_n (pc := 0) (q := 0) dX12_readA_0 rfl ?_
  obtain ⟨r1, e2, h⟩ := aw_bde h
  refine aw_cV1 (pc := 1) [] (c_Rf_here e2) yy_Rf_here.1 wm_675 yy_Rf_here.2.1 yy_Rf_here.2.2 xB_0 ⟨_, _, rfl⟩ rfl ⟨Nat.le_of_ble_eq_true rfl, Nat.le_of_ble_eq_true rfl⟩ ⟨Nat.zero_le _, Nat.zero_le _⟩ (Nat.le_of_ble_eq_true rfl) dX12_readA_1 ?_
  obtain ⟨r3, e4, h⟩ := aw_bde h
  refine aw_cS1 (pc := 4) [.int r1] (c_Rf_isLetter e4) yy_Rf_isLetter.1 wm_679 yy_Rf_isLetter.2 rfl ⟨Nat.le_of_ble_eq_true rfl, Nat.le_of_ble_eq_true rfl⟩ ⟨Nat.zero_le _, Nat.zero_le _⟩ (Nat.le_of_ble_eq_true rfl) dX12_readA_4 ?_
  refine aw_if_eq (pc := 7) (tgt := 33) dX12_readA_7 (by decide) (fun c5 => ?_) (fun c5 => ?_)
  · replace h := aw_ifp c5 h
    refine aw_aload_n (pc := 33) (q := 0) dX12_readA_33 rfl ?_
    refine aw_iconst (pc := 34) (v := 3) dX12_readA_34 (by decide) ?_
    obtain ⟨r6, s8, e7, h⟩ := aw_bd2e h
    refine aw_cV1 (pc := 35) [.int ((3 : Int32))] (c_Rf_readDigits e7) yy_Rf_readDigits.1 wm_691 yy_Rf_readDigits.2.1 yy_Rf_readDigits.2.2 xB_0 ⟨_, _, rfl⟩ rfl ⟨Nat.le_of_ble_eq_true rfl, Nat.le_of_ble_eq_true rfl⟩ ⟨Nat.zero_le _, Nat.zero_le _⟩ (Nat.le_of_ble_eq_true rfl) dX12_readA_35 ?_
    refine aw_if_ne (pc := 38) (tgt := 43) dX12_readA_38 (by decide) (fun c9 => ?_) (fun c9 => ?_)
    · replace h := aw_ifn c9 h
      refine aw_aload_n (pc := 43) (q := 0) dX12_readA_43 rfl ?_
      refine aw_dup (pc := 44) dX12_readA_44 rfl ?_
      refine aw_getI (pc := 45) fd_X12_159.r xB_0 rfl dX12_readA_45 ?_
      refine aw_bipush (pc := 48) (v := 26) dX12_readA_48 (by decide) ?_
      refine aw_iadd (pc := 50) dX12_readA_50 ?_
      refine aw_putI (pc := 51) fd_X12_159 xB_0 rfl (fun _ => rfl) (fun _ => rfl) dX12_readA_51 ?_
      refine aw_nmS (fun s10 e_s10 => ?_)
      replace h := aw_lte h s10 e_s10
      refine aw_iconst (pc := 54) (v := 1) dX12_readA_54 (by decide) ?_
      cases h
      subst hE
      exact aw_iret (v := (1 : Int32)) rfl aw_n1 ⟨Nat.zero_le _, Nat.zero_le _⟩ dX12_readA_55
    · replace h := aw_ifp c9 h
      refine aw_iconst (pc := 41) (v := 0) dX12_readA_41 (by decide) ?_
      cases h
      subst hE
      exact aw_iret (v := (0 : Int32)) rfl aw_n0 ⟨Nat.zero_le _, Nat.zero_le _⟩ dX12_readA_42
  · replace h := aw_ifn c5 h
    refine aw_aload_n (pc := 10) (q := 0) dX12_readA_10 rfl ?_
    refine aw_aload_n (pc := 11) (q := 0) dX12_readA_11 rfl ?_
    obtain ⟨r11, e12, h⟩ := aw_bde h
    refine aw_cV1 (pc := 12) [] (c_Rf_here e12) yy_Rf_here.1 wm_675 yy_Rf_here.2.1 yy_Rf_here.2.2 xB_0 ⟨_, _, rfl⟩ rfl ⟨Nat.le_of_ble_eq_true rfl, Nat.le_of_ble_eq_true rfl⟩ ⟨Nat.zero_le _, Nat.zero_le _⟩ (Nat.le_of_ble_eq_true rfl) dX12_readA_12 ?_
    refine aw_bipush (pc := 15) (v := 97) dX12_readA_15 (by decide) ?_
    refine aw_isub (pc := 17) dX12_readA_17 ?_
    refine aw_putI (pc := 18) fd_X12_159 xB_0 rfl (fun _ => rfl) (fun _ => rfl) dX12_readA_18 ?_
    refine aw_nmS (fun s13 e_s13 => ?_)
    replace h := aw_lte h s13 e_s13
    refine aw_aload_n (pc := 21) (q := 0) dX12_readA_21 rfl ?_
    refine aw_dup (pc := 22) dX12_readA_22 rfl ?_
    refine aw_getI (pc := 23) fd_X12_145.r xB_0 rfl dX12_readA_23 ?_
    refine aw_iconst (pc := 26) (v := 1) dX12_readA_26 (by decide) ?_
    refine aw_iadd (pc := 27) dX12_readA_27 ?_
    refine aw_putI (pc := 28) fd_X12_145 xB_0 rfl (fun _ => rfl) (fun _ => rfl) dX12_readA_28 ?_
    refine aw_nmS (fun s14 e_s14 => ?_)
    replace h := aw_lte h s14 e_s14
    refine aw_iconst (pc := 31) (v := 1) dX12_readA_31 (by decide) ?_
    cases h
    subst hE
    exact aw_iret (v := (1 : Int32)) rfl aw_n1 ⟨Nat.zero_le _, Nat.zero_le _⟩ dX12_readA_32
theorem c_Rf_readA {l : Launch} {G : aw_G} {σ : aw_S} {t : (Int32 × aw_S)} (h : m_Rf_readA σ = some t) : aw_Ct l yX12_readA M_Rf_readA G B_Rf_readA [.ref 0] xB σ (some (.int t.1), xB, t.2) := aw_Ct_of (by decide) rfl (fun h => by cases h) (Nat.le_of_ble_eq_true rfl) (t_Rf_readA h rfl)
/-! LateMoverModel.isSign(I)Z -/
set_option maxRecDepth 100000 in
set_option maxHeartbeats 4000000 in
theorem t_Rf_isSign {l : Launch} {G : aw_G} {E : aw_E} {σ : aw_S} {p0 : Int32} {t : Int32} (h : m_Rf_isSign σ p0 = some t) (hE : E = (some (.int t), xB, σ)) : aw_W l M_Rf_isSign G B_Rf_isSign E 0 [(0, .int p0)] [] xB σ 0 0 := by
  unfold m_Rf_isSign at h
  refine aw_iload_n (pc := 0) (q := 0) dX12_isSign_0 rfl ?_
  refine aw_bipush (pc := 1) (v := 43) dX12_isSign_1 (by decide) ?_
  refine aw_icmp_eq (pc := 3) (tgt := 42) dX12_isSign_3 (by decide) (fun c1 => ?_) (fun c1 => ?_)
  · replace h := aw_ifp c1 h
    refine aw_iconst (pc := 42) (v := 1) dX12_isSign_42 (by decide) ?_
    refine aw_goto (pc := 43) (tgt := 47) dX12_isSign_43 (by decide) ?_
    cases h
    subst hE
    exact aw_iret (v := (1 : Int32)) rfl aw_n1 ⟨Nat.zero_le _, Nat.zero_le _⟩ dX12_isSign_47
  · replace h := aw_ifn c1 h
    refine aw_iload_n (pc := 6) (q := 0) dX12_isSign_6 rfl ?_
    refine aw_bipush (pc := 7) (v := 45) dX12_isSign_7 (by decide) ?_
    refine aw_icmp_eq (pc := 9) (tgt := 42) dX12_isSign_9 (by decide) (fun c2 => ?_) (fun c2 => ?_)
    · replace h := aw_ifp c2 h
      refine aw_iconst (pc := 42) (v := 1) dX12_isSign_42 (by decide) ?_
      refine aw_goto (pc := 43) (tgt := 47) dX12_isSign_43 (by decide) ?_
      cases h
      subst hE
      exact aw_iret (v := (1 : Int32)) rfl aw_n1 ⟨Nat.zero_le _, Nat.zero_le _⟩ dX12_isSign_47
    · replace h := aw_ifn c2 h
      refine aw_iload_n (pc := 12) (q := 0) dX12_isSign_12 rfl ?_
      refine aw_bipush (pc := 13) (v := 42) dX12_isSign_13 (by decide) ?_
      refine aw_icmp_eq (pc := 15) (tgt := 42) dX12_isSign_15 (by decide) (fun c3 => ?_) (fun c3 => ?_)
      · replace h := aw_ifp c3 h
        refine aw_iconst (pc := 42) (v := 1) dX12_isSign_42 (by decide) ?_
        refine aw_goto (pc := 43) (tgt := 47) dX12_isSign_43 (by decide) ?_
        cases h
        subst hE
        exact aw_iret (v := (1 : Int32)) rfl aw_n1 ⟨Nat.zero_le _, Nat.zero_le _⟩ dX12_isSign_47
      · replace h := aw_ifn c3 h
        refine aw_iload_n (pc := 18) (q := 0) dX12_isSign_18 rfl ?_
        refine aw_bipush (pc := 19) (v := 47) dX12_isSign_19 (by decide) ?_
        refine aw_icmp_eq (pc := 21) (tgt := 42) dX12_isSign_21 (by decide) (fun c4 => ?_) (fun c4 => ?_)
        · replace h := aw_ifp c4 h
          refine aw_iconst (pc := 42) (v := 1) dX12_isSign_42 (by decide) ?_
          refine aw_goto (pc := 43) (tgt := 47) dX12_isSign_43 (by decide) ?_
          cases h
          subst hE
          exact aw_iret (v := (1 : Int32)) rfl aw_n1 ⟨Nat.zero_le _, Nat.zero_le _⟩ dX12_isSign_47
        · replace h := aw_ifn c4 h
          refine aw_iload_n (pc := 24) (q := 0) dX12_isSign_24 rfl ?_
          refine aw_bipush (pc := 25) (v := 37) dX12_isSign_25 (by decide) ?_
          refine aw_icmp_eq (pc := 27) (tgt := 42) dX12_isSign_27 (by decide) (fun c5 => ?_) (fun c5 => ?_)
          · replace h := aw_ifp c5 h
            refine aw_iconst (pc := 42) (v := 1) dX12_isSign_42 (by decide) ?_
            refine aw_goto (pc := 43) (tgt := 47) dX12_isSign_43 (by decide) ?_
            cases h
            subst hE
            exact aw_iret (v := (1 : Int32)) rfl aw_n1 ⟨Nat.zero_le _, Nat.zero_le _⟩ dX12_isSign_47
          · replace h := aw_ifn c5 h
            refine aw_iload_n (pc := 30) (q := 0) dX12_isSign_30 rfl ?_
            refine aw_bipush (pc := 31) (v := 38) dX12_isSign_31 (by decide) ?_
            refine aw_icmp_eq (pc := 33) (tgt := 42) dX12_isSign_33 (by decide) (fun c6 => ?_) (fun c6 => ?_)
            · replace h := aw_ifp c6 h
              refine aw_iconst (pc := 42) (v := 1) dX12_isSign_42 (by decide) ?_
              refine aw_goto (pc := 43) (tgt := 47) dX12_isSign_43 (by decide) ?_
              cases h
              subst hE
              exact aw_iret (v := (1 : Int32)) rfl aw_n1 ⟨Nat.zero_le _, Nat.zero_le _⟩ dX12_isSign_47
            · replace h := aw_ifn c6 h
              refine aw_iload_n (pc := 36) (q := 0) dX12_isSign_36 rfl ?_
              refine aw_bipush (pc := 37) (v := 60) dX12_isSign_37 (by decide) ?_
              refine aw_icmp_ne (pc := 39) (tgt := 46) dX12_isSign_39 (by decide) (fun c7 => ?_) (fun c7 => ?_)
              · replace h := aw_ifn c7 h
                refine aw_iconst (pc := 46) (v := 0) dX12_isSign_46 (by decide) ?_
                cases h
                subst hE
                exact aw_iret (v := (0 : Int32)) rfl aw_n0 ⟨Nat.zero_le _, Nat.zero_le _⟩ dX12_isSign_47
              · replace h := aw_ifp c7 h
                refine aw_iconst (pc := 42) (v := 1) dX12_isSign_42 (by decide) ?_
                refine aw_goto (pc := 43) (tgt := 47) dX12_isSign_43 (by decide) ?_
                cases h
                subst hE
                exact aw_iret (v := (1 : Int32)) rfl aw_n1 ⟨Nat.zero_le _, Nat.zero_le _⟩ dX12_isSign_47
theorem c_Rf_isSign {l : Launch} {G : aw_G} {σ : aw_S} {p0 : Int32} {t : Int32} (h : m_Rf_isSign σ p0 = some t) : aw_Ct l yX12_isSign M_Rf_isSign G B_Rf_isSign [.int p0] xB σ (some (.int t), xB, σ) := aw_Ct_of (by decide) rfl (fun h => by cases h) (Nat.le_of_ble_eq_true rfl) (t_Rf_isSign h rfl)
/-! LateMoverModel.findExpression(III)I -/
def z_Rf_findExpression_X3 (l : Launch) (G : aw_G) (E : aw_E) (σ : aw_S) (v1 : Int32) (v2 : Int32) (v3 : Int32) (s : Int32) : Prop := aw_W l M_Rf_findExpression G B_Rf_findExpression E 3 [(0, .ref 0), (1, .int v1), (2, .int v2), (3, .int v3), (4, .int s)] [] xB σ 0 0
def z_Rf_findExpression_Y3 (l : Launch) (G : aw_G) (E : aw_E) (σ : aw_S) (v1 : Int32) (v2 : Int32) (v3 : Int32) (x : (Int32)) : Prop := aw_W l M_Rf_findExpression G B_Rf_findExpression E 67 [(4, .int x)] [] xB σ 0 0
set_option maxRecDepth 100000 in
set_option maxHeartbeats 4000000 in
theorem t_Rf_findExpression_J61 {l : Launch} {G : aw_G} {E : aw_E} {σ : aw_S} {v1 : Int32} {v2 : Int32} {v3 : Int32} {v4 : Int32} {t : (Int32) ⊕ Int32} (h : m_Rf_findExpression_J61 σ v1 v2 v3 v4 = some t) (hz : Sum.elim (z_Rf_findExpression_Y3 l G E σ v1 v2 v3) (z_Rf_findExpression_X3 l G E σ v1 v2 v3) t) : aw_W l M_Rf_findExpression G B_Rf_findExpression E 61 [(0, .ref 0), (1, .int v1), (2, .int v2), (3, .int v3), (4, .int v4)] [] xB σ 0 0 := by
  unfold m_Rf_findExpression_J61 at h
  obtain ⟨x7, e_x7⟩ : ∃ z, z = (v4 + (1 : Int32)) := ⟨_, rfl⟩
  replace h := aw_lte h x7 e_x7
  refine aw_iinc (pc := 61) (q := 4) (v := x7) [(4, .int x7), (0, .ref 0), (1, .int v1), (2, .int v2), (3, .int v3)] dX12_findExpression_61 rfl e_x7.symm (by decide) rfl ?_
  refine aw_goto (pc := 64) (tgt := 3) dX12_findExpression_64 (by decide) ?_
  refine aw_sub [1, 2, 3, 4, 0] rfl ?_
  cases h
  exact hz
set_option maxRecDepth 100000 in
set_option maxHeartbeats 4000000 in
theorem t_Rf_findExpression_B3 {l : Launch} {G : aw_G} {E : aw_E} {σ : aw_S} {v1 : Int32} {v2 : Int32} {v3 : Int32} {v4 : Int32} {t : (Int32) ⊕ Int32} (h : m_Rf_findExpression_B3 σ v1 v2 v3 v4 = some t) (hz : Sum.elim (z_Rf_findExpression_Y3 l G E σ v1 v2 v3) (z_Rf_findExpression_X3 l G E σ v1 v2 v3) t) : aw_W l M_Rf_findExpression G B_Rf_findExpression E 3 [(0, .ref 0), (1, .int v1), (2, .int v2), (3, .int v3), (4, .int v4)] [] xB σ 0 0 := by
  unfold m_Rf_findExpression_B3 at h
  refine aw_iload (pc := 3) (q := 4) dX12_findExpression_3 rfl ?_
  refine aw_aload_n (pc := 5) (q := 0) dX12_findExpression_5 rfl ?_
  refine aw_iconst (pc := 6) (v := 2) dX12_findExpression_6 (by decide) ?_
  obtain ⟨r1, e2, h⟩ := aw_bde h
  refine aw_cV1 (pc := 7) [.int ((2 : Int32))] (c_Rf_read e2) yy_Rf_read.1 wm_671 yy_Rf_read.2.1 yy_Rf_read.2.2 xB_0 ⟨_, _, rfl⟩ rfl ⟨Nat.le_of_ble_eq_true rfl, Nat.le_of_ble_eq_true rfl⟩ ⟨Nat.zero_le _, Nat.zero_le _⟩ (Nat.le_of_ble_eq_true rfl) dX12_findExpression_7 ?_
  refine aw_icmp_ge (pc := 10) (tgt := 67) dX12_findExpression_10 (by decide) (fun c3 => ?_) (fun c3 => ?_)
  · replace h := aw_ifp c3 h
    refine aw_sub [4] rfl ?_
    cases h
    exact hz
  · replace h := aw_ifn c3 h
    refine aw_aload_n (pc := 13) (q := 0) dX12_findExpression_13 rfl ?_
    refine aw_sipush (pc := 14) (v := 268) dX12_findExpression_14 (by decide) ?_
    refine aw_iload (pc := 17) (q := 4) dX12_findExpression_17 rfl ?_
    refine aw_iadd (pc := 19) dX12_findExpression_19 ?_
    obtain ⟨r4, e5, h⟩ := aw_bde h
    refine aw_cV1 (pc := 20) [.int (((268 : Int32) + v4))] (c_Rf_read e5) yy_Rf_read.1 wm_671 yy_Rf_read.2.1 yy_Rf_read.2.2 xB_0 ⟨_, _, rfl⟩ rfl ⟨Nat.le_of_ble_eq_true rfl, Nat.le_of_ble_eq_true rfl⟩ ⟨Nat.zero_le _, Nat.zero_le _⟩ (Nat.le_of_ble_eq_true rfl) dX12_findExpression_20 ?_
    refine aw_iload_n (pc := 23) (q := 1) dX12_findExpression_23 rfl ?_
    refine aw_icmp_ne (pc := 24) (tgt := 61) dX12_findExpression_24 (by decide) (fun c6 => ?_) (fun c6 => ?_)
    · replace h := aw_ifn c6 h
      exact t_Rf_findExpression_J61 h hz
    · replace h := aw_ifp c6 h
      refine aw_aload_n (pc := 27) (q := 0) dX12_findExpression_27 rfl ?_
      refine aw_sipush (pc := 28) (v := 292) dX12_findExpression_28 (by decide) ?_
      refine aw_iconst (pc := 31) (v := 2) dX12_findExpression_31 (by decide) ?_
      refine aw_iload (pc := 32) (q := 4) dX12_findExpression_32 rfl ?_
      refine aw_imul (pc := 34) dX12_findExpression_34 ?_
      refine aw_iadd (pc := 35) dX12_findExpression_35 ?_
      obtain ⟨r8, e9, h⟩ := aw_bde h
      refine aw_cV1 (pc := 36) [.int (((292 : Int32) + ((2 : Int32) * v4)))] (c_Rf_read e9) yy_Rf_read.1 wm_671 yy_Rf_read.2.1 yy_Rf_read.2.2 xB_0 ⟨_, _, rfl⟩ rfl ⟨Nat.le_of_ble_eq_true rfl, Nat.le_of_ble_eq_true rfl⟩ ⟨Nat.zero_le _, Nat.zero_le _⟩ (Nat.le_of_ble_eq_true rfl) dX12_findExpression_36 ?_
      refine aw_iload_n (pc := 39) (q := 2) dX12_findExpression_39 rfl ?_
      refine aw_icmp_ne (pc := 40) (tgt := 61) dX12_findExpression_40 (by decide) (fun c10 => ?_) (fun c10 => ?_)
      · replace h := aw_ifn c10 h
        exact t_Rf_findExpression_J61 h hz
      · replace h := aw_ifp c10 h
        refine aw_aload_n (pc := 43) (q := 0) dX12_findExpression_43 rfl ?_
        refine aw_sipush (pc := 44) (v := 292) dX12_findExpression_44 (by decide) ?_
        refine aw_iconst (pc := 47) (v := 2) dX12_findExpression_47 (by decide) ?_
        refine aw_iload (pc := 48) (q := 4) dX12_findExpression_48 rfl ?_
        refine aw_imul (pc := 50) dX12_findExpression_50 ?_
        refine aw_iadd (pc := 51) dX12_findExpression_51 ?_
        refine aw_iconst (pc := 52) (v := 1) dX12_findExpression_52 (by decide) ?_
        refine aw_iadd (pc := 53) dX12_findExpression_53 ?_
        obtain ⟨r11, e12, h⟩ := aw_bde h
        refine aw_cV1 (pc := 54) [.int ((((292 : Int32) + ((2 : Int32) * v4)) + (1 : Int32)))] (c_Rf_read e12) yy_Rf_read.1 wm_671 yy_Rf_read.2.1 yy_Rf_read.2.2 xB_0 ⟨_, _, rfl⟩ rfl ⟨Nat.le_of_ble_eq_true rfl, Nat.le_of_ble_eq_true rfl⟩ ⟨Nat.zero_le _, Nat.zero_le _⟩ (Nat.le_of_ble_eq_true rfl) dX12_findExpression_54 ?_
        refine aw_iload_n (pc := 57) (q := 3) dX12_findExpression_57 rfl ?_
        refine aw_icmp_eq (pc := 58) (tgt := 67) dX12_findExpression_58 (by decide) (fun c13 => ?_) (fun c13 => ?_)
        · replace h := aw_ifp c13 h
          refine aw_sub [4] rfl ?_
          cases h
          exact hz
        · replace h := aw_ifn c13 h
          exact t_Rf_findExpression_J61 h hz
set_option maxRecDepth 100000 in
set_option maxHeartbeats 4000000 in
theorem t_Rf_findExpression {l : Launch} {G : aw_G} {E : aw_E} {σ : aw_S} {p1 : Int32} {p2 : Int32} {p3 : Int32} {t : Int32} (h : m_Rf_findExpression σ p1 p2 p3 = some t) (hE : E = (some (.int t), xB, σ)) : aw_W l M_Rf_findExpression G B_Rf_findExpression E 0 [(0, .ref 0), (1, .int p1), (2, .int p2), (3, .int p3)] [] xB σ 0 0 := by
  unfold m_Rf_findExpression at h
  refine aw_iconst (pc := 0) (v := 0) dX12_findExpression_0 (by decide) ?_
  refine aw_istore (pc := 1) [(4, .int ((0 : Int32))), (0, .ref 0), (1, .int p1), (2, .int p2), (3, .int p3)] dX12_findExpression_1 (by decide) rfl ?_
  obtain ⟨x14, hl15, h⟩ := aw_bde h
  have K16 : z_Rf_findExpression_Y3 l G E σ p1 p2 p3 x14 := by
    show aw_W l M_Rf_findExpression G B_Rf_findExpression E 67 [(4, .int x14)] [] xB σ 0 0
    refine aw_iload (pc := 67) (q := 0) dX12_findExpression_67 rfl ?_
    cases h
    subst hE
    exact aw_iret (v := _) rfl aw_ni ⟨Nat.zero_le _, Nat.zero_le _⟩ dX12_findExpression_69
  refine aw_sub [1, 2, 3, 4, 0] rfl ?_
  show z_Rf_findExpression_X3 l G E σ p1 p2 p3 ((0 : Int32))
  exact aw_lp_X (Xp := z_Rf_findExpression_X3 l G E σ p1 p2 p3) (Y := z_Rf_findExpression_Y3 l G E σ p1 p2 p3) hl15 K16 (fun s t hf hz => t_Rf_findExpression_B3 hf hz)
theorem c_Rf_findExpression {l : Launch} {G : aw_G} {σ : aw_S} {p1 : Int32} {p2 : Int32} {p3 : Int32} {t : Int32} (h : m_Rf_findExpression σ p1 p2 p3 = some t) : aw_Ct l yX12_findExpression M_Rf_findExpression G B_Rf_findExpression [.ref 0, .int p1, .int p2, .int p3] xB σ (some (.int t), xB, σ) := aw_Ct_of (by decide) rfl (fun h => by cases h) (Nat.le_of_ble_eq_true rfl) (t_Rf_findExpression h rfl)
/-! LateMoverModel.readWorth(I)Z -/
set_option maxRecDepth 100000 in
set_option maxHeartbeats 4000000 in
theorem t_Rf_readWorth_J161 {l : Launch} {G : aw_G} {E : aw_E} {σ : aw_S} {v1 : Int32} {v5 : Int32} {t : (Int32 × aw_S)} (h : m_Rf_readWorth_J161 σ v1 v5 = some t) (hE : E = (some (.int t.1), xB, t.2)) : aw_W l M_Rf_readWorth G B_Rf_readWorth E 161 [(0, .ref 0), (1, .int v1), (5, .int v5)] [] xB σ 0 0 := by
  unfold m_Rf_readWorth_J161 at h
  refine aw_aload_n (pc := 161) (q := 0) dX12_readWorth_161 rfl ?_
  refine aw_iconst (pc := 162) (v := 4) dX12_readWorth_162 (by decide) ?_
  refine aw_iload_n (pc := 163) (q := 1) dX12_readWorth_163 rfl ?_
  refine aw_iadd (pc := 164) dX12_readWorth_164 ?_
  refine aw_iconst (pc := 165) (v := 2) dX12_readWorth_165 (by decide) ?_
  obtain ⟨s33, e32, h⟩ := aw_bde h
  refine aw_cV0 (pc := 166) [.int (((4 : Int32) + v1)), .int ((2 : Int32))] (c_Rf_put e32) yy_Rf_put.1 wm_659 yy_Rf_put.2.1 yy_Rf_put.2.2 xB_0 ⟨_, _, rfl⟩ rfl ⟨Nat.le_of_ble_eq_true rfl, Nat.le_of_ble_eq_true rfl⟩ ⟨Nat.zero_le _, Nat.zero_le _⟩ (Nat.le_of_ble_eq_true rfl) dX12_readWorth_166 ?_
  refine aw_aload_n (pc := 169) (q := 0) dX12_readWorth_169 rfl ?_
  refine aw_bipush (pc := 170) (v := 124) dX12_readWorth_170 (by decide) ?_
  refine aw_iload_n (pc := 172) (q := 1) dX12_readWorth_172 rfl ?_
  refine aw_iadd (pc := 173) dX12_readWorth_173 ?_
  refine aw_iload (pc := 174) (q := 2) dX12_readWorth_174 rfl ?_
  obtain ⟨s36, e35, h⟩ := aw_bde h
  refine aw_cV0 (pc := 176) [.int (((124 : Int32) + v1)), .int v5] (c_Rf_put e35) yy_Rf_put.1 wm_659 yy_Rf_put.2.1 yy_Rf_put.2.2 xB_0 ⟨_, _, rfl⟩ rfl ⟨Nat.le_of_ble_eq_true rfl, Nat.le_of_ble_eq_true rfl⟩ ⟨Nat.zero_le _, Nat.zero_le _⟩ (Nat.le_of_ble_eq_true rfl) dX12_readWorth_176 ?_
  refine aw_iconst (pc := 179) (v := 1) dX12_readWorth_179 (by decide) ?_
  cases h
  subst hE
  exact aw_iret (v := (1 : Int32)) rfl aw_n1 ⟨Nat.zero_le _, Nat.zero_le _⟩ dX12_readWorth_180
set_option maxRecDepth 100000 in
set_option maxHeartbeats 4000000 in
theorem t_Rf_readWorth {l : Launch} {G : aw_G} {E : aw_E} {σ : aw_S} {p1 : Int32} {t : (Int32 × aw_S)} (h : m_Rf_readWorth σ p1 = some t) (hE : E = (some (.int t.1), xB, t.2)) : aw_W l M_Rf_readWorth G B_Rf_readWorth E 0 [(0, .ref 0), (1, .int p1)] [] xB σ 0 0 := by
  unfold m_Rf_readWorth at h
  refine aw_aload_n (pc := 0) (q := 0) dX12_readWorth_0 rfl ?_
  refine aw_getI (pc := 1) fd_X12_145.r xB_0 rfl dX12_readWorth_1 ?_
  refine aw_nmI (fun x1 e_x1 => ?_)
  replace h := aw_lte h x1 e_x1
  refine aw_istore_n (pc := 4) [(2, .int x1), (0, .ref 0), (1, .int p1)] dX12_readWorth_4 (by decide) rfl ?_
  refine aw_aload_n (pc := 5) (q := 1) dX12_readWorth_5 rfl ?_
  obtain ⟨r2, s4, e3, h⟩ := aw_bd2e h
  refine aw_cV1 (pc := 6) [] (c_Rf_readA e3) yy_Rf_readA.1 wm_687 yy_Rf_readA.2.1 yy_Rf_readA.2.2 xB_0 ⟨_, _, rfl⟩ rfl ⟨Nat.le_of_ble_eq_true rfl, Nat.le_of_ble_eq_true rfl⟩ ⟨Nat.zero_le _, Nat.zero_le _⟩ (Nat.le_of_ble_eq_true rfl) dX12_readWorth_6 ?_
  refine aw_if_ne (pc := 9) (tgt := 14) dX12_readWorth_9 (by decide) (fun c5 => ?_) (fun c5 => ?_)
  · replace h := aw_ifn c5 h
    refine aw_aload_n (pc := 14) (q := 1) dX12_readWorth_14 rfl ?_
    refine aw_getI (pc := 15) fd_X12_159.r xB_0 rfl dX12_readWorth_15 ?_
    refine aw_nmI (fun x6 e_x6 => ?_)
    replace h := aw_lte h x6 e_x6
    refine aw_istore_n (pc := 18) [(3, .int x6), (2, .int x1), (0, .ref 0), (1, .int p1)] dX12_readWorth_18 (by decide) rfl ?_
    refine aw_aload_n (pc := 19) (q := 2) dX12_readWorth_19 rfl ?_
    refine aw_iconst (pc := 20) (v := 4) dX12_readWorth_20 (by decide) ?_
    refine aw_iload_n (pc := 21) (q := 3) dX12_readWorth_21 rfl ?_
    refine aw_iadd (pc := 22) dX12_readWorth_22 ?_
    refine aw_iconst (pc := 23) (v := 1) dX12_readWorth_23 (by decide) ?_
    obtain ⟨s9, e8, h⟩ := aw_bde h
    refine aw_cV0 (pc := 24) [.int (((4 : Int32) + p1)), .int ((1 : Int32))] (c_Rf_put e8) yy_Rf_put.1 wm_659 yy_Rf_put.2.1 yy_Rf_put.2.2 xB_0 ⟨_, _, rfl⟩ rfl ⟨Nat.le_of_ble_eq_true rfl, Nat.le_of_ble_eq_true rfl⟩ ⟨Nat.zero_le _, Nat.zero_le _⟩ (Nat.le_of_ble_eq_true rfl) dX12_readWorth_24 ?_
    refine aw_aload_n (pc := 27) (q := 2) dX12_readWorth_27 rfl ?_
    refine aw_bipush (pc := 28) (v := 124) dX12_readWorth_28 (by decide) ?_
    refine aw_iload_n (pc := 30) (q := 3) dX12_readWorth_30 rfl ?_
    refine aw_iadd (pc := 31) dX12_readWorth_31 ?_
    refine aw_iload_n (pc := 32) (q := 0) dX12_readWorth_32 rfl ?_
    obtain ⟨s12, e11, h⟩ := aw_bde h
    refine aw_cV0 (pc := 33) [.int (((124 : Int32) + p1)), .int x6] (c_Rf_put e11) yy_Rf_put.1 wm_659 yy_Rf_put.2.1 yy_Rf_put.2.2 xB_0 ⟨_, _, rfl⟩ rfl ⟨Nat.le_of_ble_eq_true rfl, Nat.le_of_ble_eq_true rfl⟩ ⟨Nat.zero_le _, Nat.zero_le _⟩ (Nat.le_of_ble_eq_true rfl) dX12_readWorth_33 ?_
    refine aw_aload_n (pc := 36) (q := 2) dX12_readWorth_36 rfl ?_
    obtain ⟨r13, e14, h⟩ := aw_bde h
    refine aw_cV1 (pc := 37) [] (c_Rf_here e14) yy_Rf_here.1 wm_675 yy_Rf_here.2.1 yy_Rf_here.2.2 xB_0 ⟨_, _, rfl⟩ rfl ⟨Nat.le_of_ble_eq_true rfl, Nat.le_of_ble_eq_true rfl⟩ ⟨Nat.zero_le _, Nat.zero_le _⟩ (Nat.le_of_ble_eq_true rfl) dX12_readWorth_37 ?_
    obtain ⟨r15, e16, h⟩ := aw_bde h
    refine aw_cS1 (pc := 40) [.int r13] (c_Rf_isSign e16) yy_Rf_isSign.1 wm_706 yy_Rf_isSign.2 rfl ⟨Nat.le_of_ble_eq_true rfl, Nat.le_of_ble_eq_true rfl⟩ ⟨Nat.zero_le _, Nat.zero_le _⟩ (Nat.le_of_ble_eq_true rfl) dX12_readWorth_40 ?_
    refine aw_if_ne (pc := 43) (tgt := 48) dX12_readWorth_43 (by decide) (fun c17 => ?_) (fun c17 => ?_)
    · replace h := aw_ifn c17 h
      refine aw_aload_n (pc := 48) (q := 2) dX12_readWorth_48 rfl ?_
      obtain ⟨r18, e19, h⟩ := aw_bde h
      refine aw_cV1 (pc := 49) [] (c_Rf_here e19) yy_Rf_here.1 wm_675 yy_Rf_here.2.1 yy_Rf_here.2.2 xB_0 ⟨_, _, rfl⟩ rfl ⟨Nat.le_of_ble_eq_true rfl, Nat.le_of_ble_eq_true rfl⟩ ⟨Nat.zero_le _, Nat.zero_le _⟩ (Nat.le_of_ble_eq_true rfl) dX12_readWorth_49 ?_
      refine aw_istore (pc := 52) [(4, .int r18), (3, .int x6), (2, .int x1), (0, .ref 0), (1, .int p1)] dX12_readWorth_52 (by decide) rfl ?_
      refine aw_aload_n (pc := 54) (q := 3) dX12_readWorth_54 rfl ?_
      refine aw_dup (pc := 55) dX12_readWorth_55 rfl ?_
      refine aw_getI (pc := 56) fd_X12_145.r xB_0 rfl dX12_readWorth_56 ?_
      refine aw_iconst (pc := 59) (v := 1) dX12_readWorth_59 (by decide) ?_
      refine aw_iadd (pc := 60) dX12_readWorth_60 ?_
      refine aw_putI (pc := 61) fd_X12_145 xB_0 rfl (fun _ => rfl) (fun _ => rfl) dX12_readWorth_61 ?_
      refine aw_nmS (fun s20 e_s20 => ?_)
      replace h := aw_lte h s20 e_s20
      refine aw_aload_n (pc := 64) (q := 3) dX12_readWorth_64 rfl ?_
      obtain ⟨r21, s23, e22, h⟩ := aw_bd2e h
      refine aw_cV1 (pc := 65) [] (c_Rf_readA e22) yy_Rf_readA.1 wm_687 yy_Rf_readA.2.1 yy_Rf_readA.2.2 xB_0 ⟨_, _, rfl⟩ rfl ⟨Nat.le_of_ble_eq_true rfl, Nat.le_of_ble_eq_true rfl⟩ ⟨Nat.zero_le _, Nat.zero_le _⟩ (Nat.le_of_ble_eq_true rfl) dX12_readWorth_65 ?_
      refine aw_if_ne (pc := 68) (tgt := 73) dX12_readWorth_68 (by decide) (fun c24 => ?_) (fun c24 => ?_)
      · replace h := aw_ifn c24 h
        refine aw_aload_n (pc := 73) (q := 3) dX12_readWorth_73 rfl ?_
        refine aw_iload (pc := 74) (q := 0) dX12_readWorth_74 rfl ?_
        refine aw_iload_n (pc := 76) (q := 1) dX12_readWorth_76 rfl ?_
        refine aw_aload_n (pc := 77) (q := 3) dX12_readWorth_77 rfl ?_
        refine aw_getI (pc := 78) fd_X12_159.r xB_0 rfl dX12_readWorth_78 ?_
        obtain ⟨r25, e26, h⟩ := aw_bde h
        refine aw_cV1 (pc := 81) [.int r18, .int x6, .int ((s23.1 0 5))] (c_Rf_findExpression e26) yy_Rf_findExpression.1 wm_709 yy_Rf_findExpression.2.1 yy_Rf_findExpression.2.2 xB_0 ⟨_, _, rfl⟩ rfl ⟨Nat.le_of_ble_eq_true rfl, Nat.le_of_ble_eq_true rfl⟩ ⟨Nat.zero_le _, Nat.zero_le _⟩ (Nat.le_of_ble_eq_true rfl) dX12_readWorth_81 ?_
        refine aw_istore (pc := 84) [(5, .int r25), (4, .int r18), (3, .int x6), (2, .int x1), (0, .ref 0), (1, .int p1)] dX12_readWorth_84 (by decide) rfl ?_
        refine aw_iload (pc := 86) (q := 0) dX12_readWorth_86 rfl ?_
        refine aw_bipush (pc := 88) (v := 24) dX12_readWorth_88 (by decide) ?_
        refine aw_icmp_ne (pc := 90) (tgt := 99) dX12_readWorth_90 (by decide) (fun c27 => ?_) (fun c27 => ?_)
        · replace h := aw_ifn c27 h
          refine aw_iload (pc := 99) (q := 0) dX12_readWorth_99 rfl ?_
          refine aw_aload_n (pc := 101) (q := 4) dX12_readWorth_101 rfl ?_
          refine aw_iconst (pc := 102) (v := 2) dX12_readWorth_102 (by decide) ?_
          obtain ⟨r28, e29, h⟩ := aw_bde h
          refine aw_cV1 (pc := 103) [.int ((2 : Int32))] (c_Rf_read e29) yy_Rf_read.1 wm_671 yy_Rf_read.2.1 yy_Rf_read.2.2 xB_0 ⟨_, _, rfl⟩ rfl ⟨Nat.le_of_ble_eq_true rfl, Nat.le_of_ble_eq_true rfl⟩ ⟨Nat.zero_le _, Nat.zero_le _⟩ (Nat.le_of_ble_eq_true rfl) dX12_readWorth_103 ?_
          refine aw_icmp_ne (pc := 106) (tgt := 161) dX12_readWorth_106 (by decide) (fun c30 => ?_) (fun c30 => ?_)
          · replace h := aw_ifn c30 h
            refine aw_sub [4, 5, 0] rfl ?_
            exact t_Rf_readWorth_J161 h hE
          · replace h := aw_ifp c30 h
            refine aw_aload_n (pc := 109) (q := 4) dX12_readWorth_109 rfl ?_
            refine aw_sipush (pc := 110) (v := 268) dX12_readWorth_110 (by decide) ?_
            refine aw_iload (pc := 113) (q := 0) dX12_readWorth_113 rfl ?_
            refine aw_iadd (pc := 115) dX12_readWorth_115 ?_
            refine aw_iload (pc := 116) (q := 1) dX12_readWorth_116 rfl ?_
            obtain ⟨s39, e38, h⟩ := aw_bde h
            refine aw_cV0 (pc := 118) [.int (((268 : Int32) + r25)), .int r18] (c_Rf_put e38) yy_Rf_put.1 wm_659 yy_Rf_put.2.1 yy_Rf_put.2.2 xB_0 ⟨_, _, rfl⟩ rfl ⟨Nat.le_of_ble_eq_true rfl, Nat.le_of_ble_eq_true rfl⟩ ⟨Nat.zero_le _, Nat.zero_le _⟩ (Nat.le_of_ble_eq_true rfl) dX12_readWorth_118 ?_
            refine aw_aload_n (pc := 121) (q := 4) dX12_readWorth_121 rfl ?_
            refine aw_sipush (pc := 122) (v := 292) dX12_readWorth_122 (by decide) ?_
            refine aw_iconst (pc := 125) (v := 2) dX12_readWorth_125 (by decide) ?_
            refine aw_iload (pc := 126) (q := 0) dX12_readWorth_126 rfl ?_
            refine aw_imul (pc := 128) dX12_readWorth_128 ?_
            refine aw_iadd (pc := 129) dX12_readWorth_129 ?_
            refine aw_iload_n (pc := 130) (q := 2) dX12_readWorth_130 rfl ?_
            obtain ⟨s42, e41, h⟩ := aw_bde h
            refine aw_cV0 (pc := 131) [.int (((292 : Int32) + ((2 : Int32) * r25))), .int x6] (c_Rf_put e41) yy_Rf_put.1 wm_659 yy_Rf_put.2.1 yy_Rf_put.2.2 xB_0 ⟨_, _, rfl⟩ rfl ⟨Nat.le_of_ble_eq_true rfl, Nat.le_of_ble_eq_true rfl⟩ ⟨Nat.zero_le _, Nat.zero_le _⟩ (Nat.le_of_ble_eq_true rfl) dX12_readWorth_131 ?_
            refine aw_aload_n (pc := 134) (q := 4) dX12_readWorth_134 rfl ?_
            refine aw_sipush (pc := 135) (v := 292) dX12_readWorth_135 (by decide) ?_
            refine aw_iconst (pc := 138) (v := 2) dX12_readWorth_138 (by decide) ?_
            refine aw_iload (pc := 139) (q := 0) dX12_readWorth_139 rfl ?_
            refine aw_imul (pc := 141) dX12_readWorth_141 ?_
            refine aw_iadd (pc := 142) dX12_readWorth_142 ?_
            refine aw_iconst (pc := 143) (v := 1) dX12_readWorth_143 (by decide) ?_
            refine aw_iadd (pc := 144) dX12_readWorth_144 ?_
            refine aw_aload_n (pc := 145) (q := 4) dX12_readWorth_145 rfl ?_
            refine aw_getI (pc := 146) fd_X12_159.r xB_0 rfl dX12_readWorth_146 ?_
            obtain ⟨s45, e44, h⟩ := aw_bde h
            refine aw_cV0 (pc := 149) [.int ((((292 : Int32) + ((2 : Int32) * r25)) + (1 : Int32))), .int ((s42.1 0 5))] (c_Rf_put e44) yy_Rf_put.1 wm_659 yy_Rf_put.2.1 yy_Rf_put.2.2 xB_0 ⟨_, _, rfl⟩ rfl ⟨Nat.le_of_ble_eq_true rfl, Nat.le_of_ble_eq_true rfl⟩ ⟨Nat.zero_le _, Nat.zero_le _⟩ (Nat.le_of_ble_eq_true rfl) dX12_readWorth_149 ?_
            refine aw_aload_n (pc := 152) (q := 4) dX12_readWorth_152 rfl ?_
            refine aw_iconst (pc := 153) (v := 2) dX12_readWorth_153 (by decide) ?_
            refine aw_iload (pc := 154) (q := 0) dX12_readWorth_154 rfl ?_
            refine aw_iconst (pc := 156) (v := 1) dX12_readWorth_156 (by decide) ?_
            refine aw_iadd (pc := 157) dX12_readWorth_157 ?_
            obtain ⟨s48, e47, h⟩ := aw_bde h
            refine aw_cV0 (pc := 158) [.int ((2 : Int32)), .int ((r25 + (1 : Int32)))] (c_Rf_put e47) yy_Rf_put.1 wm_659 yy_Rf_put.2.1 yy_Rf_put.2.2 xB_0 ⟨_, _, rfl⟩ rfl ⟨Nat.le_of_ble_eq_true rfl, Nat.le_of_ble_eq_true rfl⟩ ⟨Nat.zero_le _, Nat.zero_le _⟩ (Nat.le_of_ble_eq_true rfl) dX12_readWorth_158 ?_
            refine aw_sub [4, 5, 0] rfl ?_
            exact t_Rf_readWorth_J161 h hE
        · replace h := aw_ifp c27 h
          refine aw_aload_n (pc := 93) (q := 4) dX12_readWorth_93 rfl ?_
          refine aw_iload_n (pc := 94) (q := 3) dX12_readWorth_94 rfl ?_
          obtain ⟨r49, s51, e50, h⟩ := aw_bd2e h
          refine aw_cV1 (pc := 95) [.int x1] (c_Rf_fails e50) yy_Rf_fails.1 wm_663 yy_Rf_fails.2.1 yy_Rf_fails.2.2 xB_0 ⟨_, _, rfl⟩ rfl ⟨Nat.le_of_ble_eq_true rfl, Nat.le_of_ble_eq_true rfl⟩ ⟨Nat.zero_le _, Nat.zero_le _⟩ (Nat.le_of_ble_eq_true rfl) dX12_readWorth_95 ?_
          obtain ⟨g52, h⟩ := aw_gde h
          cases h
          subst hE
          exact aw_iret (v := _) rfl (aw_nz g52) ⟨Nat.zero_le _, Nat.zero_le _⟩ dX12_readWorth_98
      · replace h := aw_ifp c24 h
        refine aw_iconst (pc := 71) (v := 0) dX12_readWorth_71 (by decide) ?_
        cases h
        subst hE
        exact aw_iret (v := (0 : Int32)) rfl aw_n0 ⟨Nat.zero_le _, Nat.zero_le _⟩ dX12_readWorth_72
    · replace h := aw_ifp c17 h
      refine aw_iconst (pc := 46) (v := 1) dX12_readWorth_46 (by decide) ?_
      cases h
      subst hE
      exact aw_iret (v := (1 : Int32)) rfl aw_n1 ⟨Nat.zero_le _, Nat.zero_le _⟩ dX12_readWorth_47
  · replace h := aw_ifp c5 h
    refine aw_iconst (pc := 12) (v := 0) dX12_readWorth_12 (by decide) ?_
    cases h
    subst hE
    exact aw_iret (v := (0 : Int32)) rfl aw_n0 ⟨Nat.zero_le _, Nat.zero_le _⟩ dX12_readWorth_13
theorem c_Rf_readWorth {l : Launch} {G : aw_G} {σ : aw_S} {p1 : Int32} {t : (Int32 × aw_S)} (h : m_Rf_readWorth σ p1 = some t) : aw_Ct l yX12_readWorth M_Rf_readWorth G B_Rf_readWorth [.ref 0, .int p1] xB σ (some (.int t.1), xB, t.2) := aw_Ct_of (by decide) rfl (fun h => by cases h) (Nat.le_of_ble_eq_true rfl) (t_Rf_readWorth h rfl)
/-! LateMoverModel.readStatement()Z -/
set_option maxRecDepth 100000 in
set_option maxHeartbeats 4000000 in
theorem t_Rf_readStatement_J114 {l : Launch} {G : aw_G} {E : aw_E} {σ : aw_S} {v1 : Int32} {t : (Int32 × aw_S)} (h : m_Rf_readStatement_J114 σ v1 = some t) (hE : E = (some (.int t.1), xB, t.2)) : aw_W l M_Rf_readStatement G B_Rf_readStatement E 114 [(0, .ref 0), (1, .int v1)] [] xB σ 0 0 := by
  unfold m_Rf_readStatement_J114 at h
  refine aw_aload_n (pc := 114) (q := 0) dX12_readStatement_114 rfl ?_
  refine aw_iconst (pc := 115) (v := 1) dX12_readStatement_115 (by decide) ?_
  refine aw_iload_n (pc := 116) (q := 1) dX12_readStatement_116 rfl ?_
  refine aw_iconst (pc := 117) (v := 1) dX12_readStatement_117 (by decide) ?_
  refine aw_iadd (pc := 118) dX12_readStatement_118 ?_
  obtain ⟨s24, e23, h⟩ := aw_bde h
  refine aw_cV0 (pc := 119) [.int ((1 : Int32)), .int ((v1 + (1 : Int32)))] (c_Rf_put e23) yy_Rf_put.1 wm_659 yy_Rf_put.2.1 yy_Rf_put.2.2 xB_0 ⟨_, _, rfl⟩ rfl ⟨Nat.le_of_ble_eq_true rfl, Nat.le_of_ble_eq_true rfl⟩ ⟨Nat.zero_le _, Nat.zero_le _⟩ (Nat.le_of_ble_eq_true rfl) dX12_readStatement_119 ?_
  refine aw_aload_n (pc := 122) (q := 0) dX12_readStatement_122 rfl ?_
  refine aw_bipush (pc := 123) (v := 59) dX12_readStatement_123 (by decide) ?_
  obtain ⟨r25, s27, e26, h⟩ := aw_bd2e h
  refine aw_cV1 (pc := 125) [.int ((59 : Int32))] (c_Rf_takes e26) yy_Rf_takes.1 wm_698 yy_Rf_takes.2.1 yy_Rf_takes.2.2 xB_0 ⟨_, _, rfl⟩ rfl ⟨Nat.le_of_ble_eq_true rfl, Nat.le_of_ble_eq_true rfl⟩ ⟨Nat.zero_le _, Nat.zero_le _⟩ (Nat.le_of_ble_eq_true rfl) dX12_readStatement_125 ?_
  obtain ⟨g28, h⟩ := aw_gde h
  cases h
  subst hE
  exact aw_iret (v := _) rfl (aw_nz g28) ⟨Nat.zero_le _, Nat.zero_le _⟩ dX12_readStatement_128
set_option maxRecDepth 100000 in
set_option maxHeartbeats 4000000 in
theorem t_Rf_readStatement {l : Launch} {G : aw_G} {E : aw_E} {σ : aw_S} {t : (Int32 × aw_S)} (h : m_Rf_readStatement σ = some t) (hE : E = (some (.int t.1), xB, t.2)) : aw_W l M_Rf_readStatement G B_Rf_readStatement E 0 [(0, .ref 0)] [] xB σ 0 0 := by
  unfold m_Rf_readStatement at h
  refine aw_aload_n (pc := 0) (q := 0) dX12_readStatement_0 rfl ?_
  refine aw_iconst (pc := 1) (v := 1) dX12_readStatement_1 (by decide) ?_
  obtain ⟨r1, e2, h⟩ := aw_bde h
  refine aw_cV1 (pc := 2) [.int ((1 : Int32))] (c_Rf_read e2) yy_Rf_read.1 wm_671 yy_Rf_read.2.1 yy_Rf_read.2.2 xB_0 ⟨_, _, rfl⟩ rfl ⟨Nat.le_of_ble_eq_true rfl, Nat.le_of_ble_eq_true rfl⟩ ⟨Nat.zero_le _, Nat.zero_le _⟩ (Nat.le_of_ble_eq_true rfl) dX12_readStatement_2 ?_
  refine aw_istore_n (pc := 5) [(1, .int r1), (0, .ref 0)] dX12_readStatement_5 (by decide) rfl ?_
  refine aw_iload_n (pc := 6) (q := 0) dX12_readStatement_6 rfl ?_
  refine aw_bipush (pc := 7) (v := 60) dX12_readStatement_7 (by decide) ?_
  refine aw_icmp_ne (pc := 9) (tgt := 21) dX12_readStatement_9 (by decide) (fun c3 => ?_) (fun c3 => ?_)
  · replace h := aw_ifn c3 h
    refine aw_aload_n (pc := 21) (q := 1) dX12_readStatement_21 rfl ?_
    obtain ⟨r4, e5, h⟩ := aw_bde h
    refine aw_cV1 (pc := 22) [] (c_Rf_here e5) yy_Rf_here.1 wm_675 yy_Rf_here.2.1 yy_Rf_here.2.2 xB_0 ⟨_, _, rfl⟩ rfl ⟨Nat.le_of_ble_eq_true rfl, Nat.le_of_ble_eq_true rfl⟩ ⟨Nat.zero_le _, Nat.zero_le _⟩ (Nat.le_of_ble_eq_true rfl) dX12_readStatement_22 ?_
    refine aw_istore_n (pc := 25) [(2, .int r4), (1, .int r1), (0, .ref 0)] dX12_readStatement_25 (by decide) rfl ?_
    refine aw_aload_n (pc := 26) (q := 2) dX12_readStatement_26 rfl ?_
    refine aw_dup (pc := 27) dX12_readStatement_27 rfl ?_
    refine aw_getI (pc := 28) fd_X12_145.r xB_0 rfl dX12_readStatement_28 ?_
    refine aw_iconst (pc := 31) (v := 1) dX12_readStatement_31 (by decide) ?_
    refine aw_iadd (pc := 32) dX12_readStatement_32 ?_
    refine aw_putI (pc := 33) fd_X12_145 xB_0 rfl (fun _ => rfl) (fun _ => rfl) dX12_readStatement_33 ?_
    refine aw_nmS (fun s6 e_s6 => ?_)
    replace h := aw_lte h s6 e_s6
    refine aw_aload_n (pc := 36) (q := 2) dX12_readStatement_36 rfl ?_
    refine aw_bipush (pc := 37) (v := 64) dX12_readStatement_37 (by decide) ?_
    refine aw_iload_n (pc := 39) (q := 1) dX12_readStatement_39 rfl ?_
    refine aw_iadd (pc := 40) dX12_readStatement_40 ?_
    refine aw_iconst (pc := 41) (v := -1) dX12_readStatement_41 (by decide) ?_
    obtain ⟨s9, e8, h⟩ := aw_bde h
    refine aw_cV0 (pc := 42) [.int (((64 : Int32) + r1)), .int ((-1 : Int32))] (c_Rf_put e8) yy_Rf_put.1 wm_659 yy_Rf_put.2.1 yy_Rf_put.2.2 xB_0 ⟨_, _, rfl⟩ rfl ⟨Nat.le_of_ble_eq_true rfl, Nat.le_of_ble_eq_true rfl⟩ ⟨Nat.zero_le _, Nat.zero_le _⟩ (Nat.le_of_ble_eq_true rfl) dX12_readStatement_42 ?_
    refine aw_iload_n (pc := 45) (q := 0) dX12_readStatement_45 rfl ?_
    refine aw_bipush (pc := 46) (v := 33) dX12_readStatement_46 (by decide) ?_
    refine aw_icmp_ne (pc := 48) (tgt := 83) dX12_readStatement_48 (by decide) (fun c10 => ?_) (fun c10 => ?_)
    · replace h := aw_ifn c10 h
      refine aw_aload_n (pc := 83) (q := 2) dX12_readStatement_83 rfl ?_
      refine aw_bipush (pc := 84) (v := 64) dX12_readStatement_84 (by decide) ?_
      refine aw_iload_n (pc := 86) (q := 1) dX12_readStatement_86 rfl ?_
      refine aw_iadd (pc := 87) dX12_readStatement_87 ?_
      refine aw_iload_n (pc := 88) (q := 0) dX12_readStatement_88 rfl ?_
      refine aw_bipush (pc := 89) (v := 97) dX12_readStatement_89 (by decide) ?_
      refine aw_isub (pc := 91) dX12_readStatement_91 ?_
      obtain ⟨s13, e12, h⟩ := aw_bde h
      refine aw_cV0 (pc := 92) [.int (((64 : Int32) + r1)), .int ((r4 - (97 : Int32)))] (c_Rf_put e12) yy_Rf_put.1 wm_659 yy_Rf_put.2.1 yy_Rf_put.2.2 xB_0 ⟨_, _, rfl⟩ rfl ⟨Nat.le_of_ble_eq_true rfl, Nat.le_of_ble_eq_true rfl⟩ ⟨Nat.zero_le _, Nat.zero_le _⟩ (Nat.le_of_ble_eq_true rfl) dX12_readStatement_92 ?_
      refine aw_aload_n (pc := 95) (q := 2) dX12_readStatement_95 rfl ?_
      refine aw_bipush (pc := 96) (v := 61) dX12_readStatement_96 (by decide) ?_
      obtain ⟨r14, s16, e15, h⟩ := aw_bd2e h
      refine aw_cV1 (pc := 98) [.int ((61 : Int32))] (c_Rf_takes e15) yy_Rf_takes.1 wm_698 yy_Rf_takes.2.1 yy_Rf_takes.2.2 xB_0 ⟨_, _, rfl⟩ rfl ⟨Nat.le_of_ble_eq_true rfl, Nat.le_of_ble_eq_true rfl⟩ ⟨Nat.zero_le _, Nat.zero_le _⟩ (Nat.le_of_ble_eq_true rfl) dX12_readStatement_98 ?_
      refine aw_if_eq (pc := 101) (tgt := 112) dX12_readStatement_101 (by decide) (fun c17 => ?_) (fun c17 => ?_)
      · replace h := aw_ifp c17 h
        refine aw_iconst (pc := 112) (v := 0) dX12_readStatement_112 (by decide) ?_
        cases h
        subst hE
        exact aw_iret (v := (0 : Int32)) rfl aw_n0 ⟨Nat.zero_le _, Nat.zero_le _⟩ dX12_readStatement_113
      · replace h := aw_ifn c17 h
        refine aw_aload_n (pc := 104) (q := 2) dX12_readStatement_104 rfl ?_
        refine aw_iload_n (pc := 105) (q := 1) dX12_readStatement_105 rfl ?_
        obtain ⟨r18, s20, e19, h⟩ := aw_bd2e h
        refine aw_cV1 (pc := 106) [.int r1] (c_Rf_readWorth e19) yy_Rf_readWorth.1 wm_702 yy_Rf_readWorth.2.1 yy_Rf_readWorth.2.2 xB_0 ⟨_, _, rfl⟩ rfl ⟨Nat.le_of_ble_eq_true rfl, Nat.le_of_ble_eq_true rfl⟩ ⟨Nat.zero_le _, Nat.zero_le _⟩ (Nat.le_of_ble_eq_true rfl) dX12_readStatement_106 ?_
        refine aw_if_ne (pc := 109) (tgt := 114) dX12_readStatement_109 (by decide) (fun c21 => ?_) (fun c21 => ?_)
        · replace h := aw_ifn c21 h
          refine aw_sub [2, 1] rfl ?_
          exact t_Rf_readStatement_J114 h hE
        · replace h := aw_ifp c21 h
          refine aw_iconst (pc := 112) (v := 0) dX12_readStatement_112 (by decide) ?_
          cases h
          subst hE
          exact aw_iret (v := (0 : Int32)) rfl aw_n0 ⟨Nat.zero_le _, Nat.zero_le _⟩ dX12_readStatement_113
    · replace h := aw_ifp c10 h
      refine aw_aload_n (pc := 51) (q := 2) dX12_readStatement_51 rfl ?_
      obtain ⟨r29, s31, e30, h⟩ := aw_bd2e h
      refine aw_cV1 (pc := 52) [] (c_Rf_readA e30) yy_Rf_readA.1 wm_687 yy_Rf_readA.2.1 yy_Rf_readA.2.2 xB_0 ⟨_, _, rfl⟩ rfl ⟨Nat.le_of_ble_eq_true rfl, Nat.le_of_ble_eq_true rfl⟩ ⟨Nat.zero_le _, Nat.zero_le _⟩ (Nat.le_of_ble_eq_true rfl) dX12_readStatement_52 ?_
      refine aw_if_ne (pc := 55) (tgt := 60) dX12_readStatement_55 (by decide) (fun c32 => ?_) (fun c32 => ?_)
      · replace h := aw_ifn c32 h
        refine aw_aload_n (pc := 60) (q := 2) dX12_readStatement_60 rfl ?_
        refine aw_iconst (pc := 61) (v := 4) dX12_readStatement_61 (by decide) ?_
        refine aw_iload_n (pc := 62) (q := 1) dX12_readStatement_62 rfl ?_
        refine aw_iadd (pc := 63) dX12_readStatement_63 ?_
        refine aw_iconst (pc := 64) (v := 3) dX12_readStatement_64 (by decide) ?_
        obtain ⟨s35, e34, h⟩ := aw_bde h
        refine aw_cV0 (pc := 65) [.int (((4 : Int32) + r1)), .int ((3 : Int32))] (c_Rf_put e34) yy_Rf_put.1 wm_659 yy_Rf_put.2.1 yy_Rf_put.2.2 xB_0 ⟨_, _, rfl⟩ rfl ⟨Nat.le_of_ble_eq_true rfl, Nat.le_of_ble_eq_true rfl⟩ ⟨Nat.zero_le _, Nat.zero_le _⟩ (Nat.le_of_ble_eq_true rfl) dX12_readStatement_65 ?_
        refine aw_aload_n (pc := 68) (q := 2) dX12_readStatement_68 rfl ?_
        refine aw_bipush (pc := 69) (v := 124) dX12_readStatement_69 (by decide) ?_
        refine aw_iload_n (pc := 71) (q := 1) dX12_readStatement_71 rfl ?_
        refine aw_iadd (pc := 72) dX12_readStatement_72 ?_
        refine aw_aload_n (pc := 73) (q := 2) dX12_readStatement_73 rfl ?_
        refine aw_getI (pc := 74) fd_X12_159.r xB_0 rfl dX12_readStatement_74 ?_
        obtain ⟨s38, e37, h⟩ := aw_bde h
        refine aw_cV0 (pc := 77) [.int (((124 : Int32) + r1)), .int ((s35.1 0 5))] (c_Rf_put e37) yy_Rf_put.1 wm_659 yy_Rf_put.2.1 yy_Rf_put.2.2 xB_0 ⟨_, _, rfl⟩ rfl ⟨Nat.le_of_ble_eq_true rfl, Nat.le_of_ble_eq_true rfl⟩ ⟨Nat.zero_le _, Nat.zero_le _⟩ (Nat.le_of_ble_eq_true rfl) dX12_readStatement_77 ?_
        refine aw_goto (pc := 80) (tgt := 114) dX12_readStatement_80 (by decide) ?_
        refine aw_sub [2, 1] rfl ?_
        exact t_Rf_readStatement_J114 h hE
      · replace h := aw_ifp c32 h
        refine aw_iconst (pc := 58) (v := 0) dX12_readStatement_58 (by decide) ?_
        cases h
        subst hE
        exact aw_iret (v := (0 : Int32)) rfl aw_n0 ⟨Nat.zero_le _, Nat.zero_le _⟩ dX12_readStatement_59
  · replace h := aw_ifp c3 h
    refine aw_aload_n (pc := 12) (q := 1) dX12_readStatement_12 rfl ?_
    refine aw_aload_n (pc := 13) (q := 1) dX12_readStatement_13 rfl ?_
    refine aw_getI (pc := 14) fd_X12_145.r xB_0 rfl dX12_readStatement_14 ?_
    obtain ⟨r39, s41, e40, h⟩ := aw_bd2e h
    refine aw_cV1 (pc := 17) [.int ((σ.1 0 3))] (c_Rf_fails e40) yy_Rf_fails.1 wm_663 yy_Rf_fails.2.1 yy_Rf_fails.2.2 xB_0 ⟨_, _, rfl⟩ rfl ⟨Nat.le_of_ble_eq_true rfl, Nat.le_of_ble_eq_true rfl⟩ ⟨Nat.zero_le _, Nat.zero_le _⟩ (Nat.le_of_ble_eq_true rfl) dX12_readStatement_17 ?_
    obtain ⟨g42, h⟩ := aw_gde h
    cases h
    subst hE
    exact aw_iret (v := _) rfl (aw_nz g42) ⟨Nat.zero_le _, Nat.zero_le _⟩ dX12_readStatement_20
theorem c_Rf_readStatement {l : Launch} {G : aw_G} {σ : aw_S} {t : (Int32 × aw_S)} (h : m_Rf_readStatement σ = some t) : aw_Ct l yX12_readStatement M_Rf_readStatement G B_Rf_readStatement [.ref 0] xB σ (some (.int t.1), xB, t.2) := aw_Ct_of (by decide) rfl (fun h => by cases h) (Nat.le_of_ble_eq_true rfl) (t_Rf_readStatement h rfl)
/-! LateMoverModel.readNumber(II)Z -/
set_option maxRecDepth 100000 in
set_option maxHeartbeats 4000000 in
theorem t_Rf_readNumber {l : Launch} {G : aw_G} {E : aw_E} {σ : aw_S} {p1 : Int32} {p2 : Int32} {t : (Int32 × aw_S)} (h : m_Rf_readNumber σ p1 p2 = some t) (hE : E = (some (.int t.1), xB, t.2)) : aw_W l M_Rf_readNumber G B_Rf_readNumber E 0 [(0, .ref 0), (1, .int p1), (2, .int p2)] [] xB σ 0 0 := by
  unfold m_Rf_readNumber at h
  refine aw_aload_n (pc := 0) (q := 0) dX12_readNumber_0 rfl ?_
  refine aw_getI (pc := 1) fd_X12_145.r xB_0 rfl dX12_readNumber_1 ?_
  refine aw_nmI (fun x1 e_x1 => ?_)
  replace h := aw_lte h x1 e_x1
  refine aw_istore_n (pc := 4) [(3, .int x1), (0, .ref 0), (1, .int p1), (2, .int p2)] dX12_readNumber_4 (by decide) rfl ?_
  refine aw_aload_n (pc := 5) (q := 1) dX12_readNumber_5 rfl ?_
  refine aw_iconst (pc := 6) (v := 2) dX12_readNumber_6 (by decide) ?_
  obtain ⟨r2, s4, e3, h⟩ := aw_bd2e h
  refine aw_cV1 (pc := 7) [.int ((2 : Int32))] (c_Rf_readDigits e3) yy_Rf_readDigits.1 wm_691 yy_Rf_readDigits.2.1 yy_Rf_readDigits.2.2 xB_0 ⟨_, _, rfl⟩ rfl ⟨Nat.le_of_ble_eq_true rfl, Nat.le_of_ble_eq_true rfl⟩ ⟨Nat.zero_le _, Nat.zero_le _⟩ (Nat.le_of_ble_eq_true rfl) dX12_readNumber_7 ?_
  refine aw_if_ne (pc := 10) (tgt := 15) dX12_readNumber_10 (by decide) (fun c5 => ?_) (fun c5 => ?_)
  · replace h := aw_ifn c5 h
    refine aw_aload_n (pc := 15) (q := 1) dX12_readNumber_15 rfl ?_
    refine aw_sipush (pc := 16) (v := 236) dX12_readNumber_16 (by decide) ?_
    refine aw_iconst (pc := 19) (v := 2) dX12_readNumber_19 (by decide) ?_
    refine aw_iload_n (pc := 20) (q := 2) dX12_readNumber_20 rfl ?_
    refine aw_imul (pc := 21) dX12_readNumber_21 ?_
    refine aw_iadd (pc := 22) dX12_readNumber_22 ?_
    refine aw_iload_n (pc := 23) (q := 3) dX12_readNumber_23 rfl ?_
    refine aw_iadd (pc := 24) dX12_readNumber_24 ?_
    refine aw_aload_n (pc := 25) (q := 1) dX12_readNumber_25 rfl ?_
    refine aw_getI (pc := 26) fd_X12_159.r xB_0 rfl dX12_readNumber_26 ?_
    obtain ⟨s8, e7, h⟩ := aw_bde h
    refine aw_cV0 (pc := 29) [.int ((((236 : Int32) + ((2 : Int32) * p1)) + p2)), .int ((s4.1 0 5))] (c_Rf_put e7) yy_Rf_put.1 wm_659 yy_Rf_put.2.1 yy_Rf_put.2.2 xB_0 ⟨_, _, rfl⟩ rfl ⟨Nat.le_of_ble_eq_true rfl, Nat.le_of_ble_eq_true rfl⟩ ⟨Nat.zero_le _, Nat.zero_le _⟩ (Nat.le_of_ble_eq_true rfl) dX12_readNumber_29 ?_
    refine aw_aload_n (pc := 32) (q := 1) dX12_readNumber_32 rfl ?_
    refine aw_getC (pc := 33) fd_X12_21.r xB_0 rfl dX12_readNumber_33 ?_
    refine aw_iconst (pc := 36) (v := 2) dX12_readNumber_36 (by decide) ?_
    refine aw_iload_n (pc := 37) (q := 2) dX12_readNumber_37 rfl ?_
    refine aw_imul (pc := 38) dX12_readNumber_38 ?_
    refine aw_iload_n (pc := 39) (q := 3) dX12_readNumber_39 rfl ?_
    refine aw_iadd (pc := 40) dX12_readNumber_40 ?_
    refine aw_iload_n (pc := 41) (q := 0) dX12_readNumber_41 rfl ?_
    obtain ⟨g9, h⟩ := aw_gde h
    refine aw_iast (pc := 42) xB_3 g9 dX12_readNumber_42 ?_
    refine aw_nmS (fun s10 e_s10 => ?_)
    replace h := aw_lte h s10 e_s10
    refine aw_iconst (pc := 43) (v := 1) dX12_readNumber_43 (by decide) ?_
    cases h
    subst hE
    exact aw_iret (v := (1 : Int32)) rfl aw_n1 ⟨Nat.zero_le _, Nat.zero_le _⟩ dX12_readNumber_44
  · replace h := aw_ifp c5 h
    refine aw_iconst (pc := 13) (v := 0) dX12_readNumber_13 (by decide) ?_
    cases h
    subst hE
    exact aw_iret (v := (0 : Int32)) rfl aw_n0 ⟨Nat.zero_le _, Nat.zero_le _⟩ dX12_readNumber_14
theorem c_Rf_readNumber {l : Launch} {G : aw_G} {σ : aw_S} {p1 : Int32} {p2 : Int32} {t : (Int32 × aw_S)} (h : m_Rf_readNumber σ p1 p2 = some t) : aw_Ct l yX12_readNumber M_Rf_readNumber G B_Rf_readNumber [.ref 0, .int p1, .int p2] xB σ (some (.int t.1), xB, t.2) := aw_Ct_of (by decide) rfl (fun h => by cases h) (Nat.le_of_ble_eq_true rfl) (t_Rf_readNumber h rfl)
/-! LateMoverModel.readEnd()Z -/
set_option maxRecDepth 100000 in
set_option maxHeartbeats 4000000 in
theorem t_Rf_readEnd_J209 {l : Launch} {G : aw_G} {E : aw_E} {σ : aw_S} {v1 : Int32} {t : (Int32 × aw_S)} (h : m_Rf_readEnd_J209 σ v1 = some t) (hE : E = (some (.int t.1), xB, t.2)) : aw_W l M_Rf_readEnd G B_Rf_readEnd E 209 [(0, .ref 0), (1, .int v1)] [] xB σ 0 0 := by
  unfold m_Rf_readEnd_J209 at h
  refine aw_aload_n (pc := 209) (q := 0) dX12_readEnd_209 rfl ?_
  refine aw_iconst (pc := 210) (v := 0) dX12_readEnd_210 (by decide) ?_
  refine aw_iload_n (pc := 211) (q := 1) dX12_readEnd_211 rfl ?_
  refine aw_iconst (pc := 212) (v := 1) dX12_readEnd_212 (by decide) ?_
  refine aw_iadd (pc := 213) dX12_readEnd_213 ?_
  obtain ⟨s26, e25, h⟩ := aw_bde h
  refine aw_cV0 (pc := 214) [.int ((0 : Int32)), .int ((v1 + (1 : Int32)))] (c_Rf_put e25) yy_Rf_put.1 wm_659 yy_Rf_put.2.1 yy_Rf_put.2.2 xB_0 ⟨_, _, rfl⟩ rfl ⟨Nat.le_of_ble_eq_true rfl, Nat.le_of_ble_eq_true rfl⟩ ⟨Nat.zero_le _, Nat.zero_le _⟩ (Nat.le_of_ble_eq_true rfl) dX12_readEnd_214 ?_
  refine aw_aload_n (pc := 217) (q := 0) dX12_readEnd_217 rfl ?_
  refine aw_sipush (pc := 218) (v := 184) dX12_readEnd_218 (by decide) ?_
  refine aw_iload_n (pc := 221) (q := 1) dX12_readEnd_221 rfl ?_
  refine aw_iadd (pc := 222) dX12_readEnd_222 ?_
  refine aw_iconst (pc := 223) (v := 1) dX12_readEnd_223 (by decide) ?_
  refine aw_iadd (pc := 224) dX12_readEnd_224 ?_
  refine aw_aload_n (pc := 225) (q := 0) dX12_readEnd_225 rfl ?_
  refine aw_iconst (pc := 226) (v := 1) dX12_readEnd_226 (by decide) ?_
  obtain ⟨r27, e28, h⟩ := aw_bde h
  refine aw_cV1 (pc := 227) [.int ((1 : Int32))] (c_Rf_read e28) yy_Rf_read.1 wm_671 yy_Rf_read.2.1 yy_Rf_read.2.2 xB_0 ⟨_, _, rfl⟩ rfl ⟨Nat.le_of_ble_eq_true rfl, Nat.le_of_ble_eq_true rfl⟩ ⟨Nat.zero_le _, Nat.zero_le _⟩ (Nat.le_of_ble_eq_true rfl) dX12_readEnd_227 ?_
  obtain ⟨s31, e30, h⟩ := aw_bde h
  refine aw_cV0 (pc := 230) [.int ((((184 : Int32) + v1) + (1 : Int32))), .int r27] (c_Rf_put e30) yy_Rf_put.1 wm_659 yy_Rf_put.2.1 yy_Rf_put.2.2 xB_0 ⟨_, _, rfl⟩ rfl ⟨Nat.le_of_ble_eq_true rfl, Nat.le_of_ble_eq_true rfl⟩ ⟨Nat.zero_le _, Nat.zero_le _⟩ (Nat.le_of_ble_eq_true rfl) dX12_readEnd_230 ?_
  refine aw_aload_n (pc := 233) (q := 0) dX12_readEnd_233 rfl ?_
  refine aw_bipush (pc := 234) (v := 59) dX12_readEnd_234 (by decide) ?_
  obtain ⟨r32, s34, e33, h⟩ := aw_bd2e h
  refine aw_cV1 (pc := 236) [.int ((59 : Int32))] (c_Rf_takes e33) yy_Rf_takes.1 wm_698 yy_Rf_takes.2.1 yy_Rf_takes.2.2 xB_0 ⟨_, _, rfl⟩ rfl ⟨Nat.le_of_ble_eq_true rfl, Nat.le_of_ble_eq_true rfl⟩ ⟨Nat.zero_le _, Nat.zero_le _⟩ (Nat.le_of_ble_eq_true rfl) dX12_readEnd_236 ?_
  obtain ⟨g35, h⟩ := aw_gde h
  cases h
  subst hE
  exact aw_iret (v := _) rfl (aw_nz g35) ⟨Nat.zero_le _, Nat.zero_le _⟩ dX12_readEnd_239
set_option maxRecDepth 100000 in
set_option maxHeartbeats 4000000 in
theorem t_Rf_readEnd_J183 {l : Launch} {G : aw_G} {E : aw_E} {σ : aw_S} {v1 : Int32} {v2 : Int32} {t : (Int32 × aw_S)} (h : m_Rf_readEnd_J183 σ v1 v2 = some t) (hE : E = (some (.int t.1), xB, t.2)) : aw_W l M_Rf_readEnd G B_Rf_readEnd E 183 [(0, .ref 0), (1, .int v1), (2, .int v2)] [] xB σ 0 0 := by
  unfold m_Rf_readEnd_J183 at h
  refine aw_iload_n (pc := 183) (q := 2) dX12_readEnd_183 rfl ?_
  refine aw_bipush (pc := 184) (v := 63) dX12_readEnd_184 (by decide) ?_
  refine aw_icmp_ne (pc := 186) (tgt := 209) dX12_readEnd_186 (by decide) (fun c23 => ?_) (fun c23 => ?_)
  · replace h := aw_ifn c23 h
    refine aw_sub [0, 1] rfl ?_
    exact t_Rf_readEnd_J209 h hE
  · replace h := aw_ifp c23 h
    refine aw_aload_n (pc := 189) (q := 0) dX12_readEnd_189 rfl ?_
    refine aw_bipush (pc := 190) (v := 44) dX12_readEnd_190 (by decide) ?_
    obtain ⟨r36, s38, e37, h⟩ := aw_bd2e h
    refine aw_cV1 (pc := 192) [.int ((44 : Int32))] (c_Rf_takes e37) yy_Rf_takes.1 wm_698 yy_Rf_takes.2.1 yy_Rf_takes.2.2 xB_0 ⟨_, _, rfl⟩ rfl ⟨Nat.le_of_ble_eq_true rfl, Nat.le_of_ble_eq_true rfl⟩ ⟨Nat.zero_le _, Nat.zero_le _⟩ (Nat.le_of_ble_eq_true rfl) dX12_readEnd_192 ?_
    refine aw_if_eq (pc := 195) (tgt := 207) dX12_readEnd_195 (by decide) (fun c39 => ?_) (fun c39 => ?_)
    · replace h := aw_ifp c39 h
      refine aw_iconst (pc := 207) (v := 0) dX12_readEnd_207 (by decide) ?_
      cases h
      subst hE
      exact aw_iret (v := (0 : Int32)) rfl aw_n0 ⟨Nat.zero_le _, Nat.zero_le _⟩ dX12_readEnd_208
    · replace h := aw_ifn c39 h
      refine aw_aload_n (pc := 198) (q := 0) dX12_readEnd_198 rfl ?_
      refine aw_iload_n (pc := 199) (q := 1) dX12_readEnd_199 rfl ?_
      refine aw_iconst (pc := 200) (v := 1) dX12_readEnd_200 (by decide) ?_
      obtain ⟨r40, s42, e41, h⟩ := aw_bd2e h
      refine aw_cV1 (pc := 201) [.int v1, .int ((1 : Int32))] (c_Rf_readNumber e41) yy_Rf_readNumber.1 wm_717 yy_Rf_readNumber.2.1 yy_Rf_readNumber.2.2 xB_0 ⟨_, _, rfl⟩ rfl ⟨Nat.le_of_ble_eq_true rfl, Nat.le_of_ble_eq_true rfl⟩ ⟨Nat.zero_le _, Nat.zero_le _⟩ (Nat.le_of_ble_eq_true rfl) dX12_readEnd_201 ?_
      refine aw_if_ne (pc := 204) (tgt := 209) dX12_readEnd_204 (by decide) (fun c43 => ?_) (fun c43 => ?_)
      · replace h := aw_ifn c43 h
        refine aw_sub [0, 1] rfl ?_
        exact t_Rf_readEnd_J209 h hE
      · replace h := aw_ifp c43 h
        refine aw_iconst (pc := 207) (v := 0) dX12_readEnd_207 (by decide) ?_
        cases h
        subst hE
        exact aw_iret (v := (0 : Int32)) rfl aw_n0 ⟨Nat.zero_le _, Nat.zero_le _⟩ dX12_readEnd_208
set_option maxRecDepth 100000 in
set_option maxHeartbeats 4000000 in
theorem t_Rf_readEnd_J166 {l : Launch} {G : aw_G} {E : aw_E} {σ : aw_S} {v1 : Int32} {v2 : Int32} {t : (Int32 × aw_S)} (h : m_Rf_readEnd_J166 σ v1 v2 = some t) (hE : E = (some (.int t.1), xB, t.2)) : aw_W l M_Rf_readEnd G B_Rf_readEnd E 166 [(0, .ref 0), (1, .int v1), (2, .int v2)] [] xB σ 0 0 := by
  unfold m_Rf_readEnd_J166 at h
  refine aw_iload_n (pc := 166) (q := 2) dX12_readEnd_166 rfl ?_
  refine aw_bipush (pc := 167) (v := 46) dX12_readEnd_167 (by decide) ?_
  refine aw_icmp_eq (pc := 169) (tgt := 183) dX12_readEnd_169 (by decide) (fun c22 => ?_) (fun c22 => ?_)
  · replace h := aw_ifp c22 h
    exact t_Rf_readEnd_J183 h hE
  · replace h := aw_ifn c22 h
    refine aw_aload_n (pc := 172) (q := 0) dX12_readEnd_172 rfl ?_
    refine aw_iload_n (pc := 173) (q := 1) dX12_readEnd_173 rfl ?_
    refine aw_iconst (pc := 174) (v := 0) dX12_readEnd_174 (by decide) ?_
    obtain ⟨r44, s46, e45, h⟩ := aw_bd2e h
    refine aw_cV1 (pc := 175) [.int v1, .int ((0 : Int32))] (c_Rf_readNumber e45) yy_Rf_readNumber.1 wm_717 yy_Rf_readNumber.2.1 yy_Rf_readNumber.2.2 xB_0 ⟨_, _, rfl⟩ rfl ⟨Nat.le_of_ble_eq_true rfl, Nat.le_of_ble_eq_true rfl⟩ ⟨Nat.zero_le _, Nat.zero_le _⟩ (Nat.le_of_ble_eq_true rfl) dX12_readEnd_175 ?_
    refine aw_if_ne (pc := 178) (tgt := 183) dX12_readEnd_178 (by decide) (fun c47 => ?_) (fun c47 => ?_)
    · replace h := aw_ifn c47 h
      exact t_Rf_readEnd_J183 h hE
    · replace h := aw_ifp c47 h
      refine aw_iconst (pc := 181) (v := 0) dX12_readEnd_181 (by decide) ?_
      cases h
      subst hE
      exact aw_iret (v := (0 : Int32)) rfl aw_n0 ⟨Nat.zero_le _, Nat.zero_le _⟩ dX12_readEnd_182
set_option maxRecDepth 100000 in
set_option maxHeartbeats 4000000 in
theorem t_Rf_readEnd_J105 {l : Launch} {G : aw_G} {E : aw_E} {σ : aw_S} {v1 : Int32} {v2 : Int32} {t : (Int32 × aw_S)} (h : m_Rf_readEnd_J105 σ v1 v2 = some t) (hE : E = (some (.int t.1), xB, t.2)) : aw_W l M_Rf_readEnd G B_Rf_readEnd E 105 [(0, .ref 0), (1, .int v1), (2, .int v2)] [] xB σ 0 0 := by
  unfold m_Rf_readEnd_J105 at h
  refine aw_aload_n (pc := 105) (q := 0) dX12_readEnd_105 rfl ?_
  refine aw_dup (pc := 106) dX12_readEnd_106 rfl ?_
  refine aw_getI (pc := 107) fd_X12_145.r xB_0 rfl dX12_readEnd_107 ?_
  refine aw_iconst (pc := 110) (v := 1) dX12_readEnd_110 (by decide) ?_
  refine aw_iadd (pc := 111) dX12_readEnd_111 ?_
  refine aw_putI (pc := 112) fd_X12_145 xB_0 rfl (fun _ => rfl) (fun _ => rfl) dX12_readEnd_112 ?_
  refine aw_nmS (fun s20 e_s20 => ?_)
  replace h := aw_lte h s20 e_s20
  refine aw_iload_n (pc := 115) (q := 2) dX12_readEnd_115 rfl ?_
  refine aw_bipush (pc := 116) (v := 63) dX12_readEnd_116 (by decide) ?_
  refine aw_icmp_ne (pc := 118) (tgt := 166) dX12_readEnd_118 (by decide) (fun c21 => ?_) (fun c21 => ?_)
  · replace h := aw_ifn c21 h
    exact t_Rf_readEnd_J166 h hE
  · replace h := aw_ifp c21 h
    refine aw_aload_n (pc := 121) (q := 0) dX12_readEnd_121 rfl ?_
    obtain ⟨r48, e49, h⟩ := aw_bde h
    refine aw_cV1 (pc := 122) [] (c_Rf_here e49) yy_Rf_here.1 wm_675 yy_Rf_here.2.1 yy_Rf_here.2.2 xB_0 ⟨_, _, rfl⟩ rfl ⟨Nat.le_of_ble_eq_true rfl, Nat.le_of_ble_eq_true rfl⟩ ⟨Nat.zero_le _, Nat.zero_le _⟩ (Nat.le_of_ble_eq_true rfl) dX12_readEnd_122 ?_
    obtain ⟨r50, e51, h⟩ := aw_bde h
    refine aw_cS1 (pc := 125) [.int r48] (c_Rf_isLetter e51) yy_Rf_isLetter.1 wm_679 yy_Rf_isLetter.2 rfl ⟨Nat.le_of_ble_eq_true rfl, Nat.le_of_ble_eq_true rfl⟩ ⟨Nat.zero_le _, Nat.zero_le _⟩ (Nat.le_of_ble_eq_true rfl) dX12_readEnd_125 ?_
    refine aw_if_ne (pc := 128) (tgt := 140) dX12_readEnd_128 (by decide) (fun c52 => ?_) (fun c52 => ?_)
    · replace h := aw_ifn c52 h
      refine aw_aload_n (pc := 140) (q := 0) dX12_readEnd_140 rfl ?_
      refine aw_sipush (pc := 141) (v := 220) dX12_readEnd_141 (by decide) ?_
      refine aw_iload_n (pc := 144) (q := 1) dX12_readEnd_144 rfl ?_
      refine aw_iadd (pc := 145) dX12_readEnd_145 ?_
      refine aw_aload_n (pc := 146) (q := 0) dX12_readEnd_146 rfl ?_
      obtain ⟨r53, e54, h⟩ := aw_bde h
      refine aw_cV1 (pc := 147) [] (c_Rf_here e54) yy_Rf_here.1 wm_675 yy_Rf_here.2.1 yy_Rf_here.2.2 xB_0 ⟨_, _, rfl⟩ rfl ⟨Nat.le_of_ble_eq_true rfl, Nat.le_of_ble_eq_true rfl⟩ ⟨Nat.zero_le _, Nat.zero_le _⟩ (Nat.le_of_ble_eq_true rfl) dX12_readEnd_147 ?_
      refine aw_bipush (pc := 150) (v := 97) dX12_readEnd_150 (by decide) ?_
      refine aw_isub (pc := 152) dX12_readEnd_152 ?_
      obtain ⟨s57, e56, h⟩ := aw_bde h
      refine aw_cV0 (pc := 153) [.int (((220 : Int32) + v1)), .int ((r53 - (97 : Int32)))] (c_Rf_put e56) yy_Rf_put.1 wm_659 yy_Rf_put.2.1 yy_Rf_put.2.2 xB_0 ⟨_, _, rfl⟩ rfl ⟨Nat.le_of_ble_eq_true rfl, Nat.le_of_ble_eq_true rfl⟩ ⟨Nat.zero_le _, Nat.zero_le _⟩ (Nat.le_of_ble_eq_true rfl) dX12_readEnd_153 ?_
      refine aw_aload_n (pc := 156) (q := 0) dX12_readEnd_156 rfl ?_
      refine aw_dup (pc := 157) dX12_readEnd_157 rfl ?_
      refine aw_getI (pc := 158) fd_X12_145.r xB_0 rfl dX12_readEnd_158 ?_
      refine aw_iconst (pc := 161) (v := 1) dX12_readEnd_161 (by decide) ?_
      refine aw_iadd (pc := 162) dX12_readEnd_162 ?_
      refine aw_putI (pc := 163) fd_X12_145 xB_0 rfl (fun _ => rfl) (fun _ => rfl) dX12_readEnd_163 ?_
      refine aw_nmS (fun s58 e_s58 => ?_)
      replace h := aw_lte h s58 e_s58
      exact t_Rf_readEnd_J166 h hE
    · replace h := aw_ifp c52 h
      refine aw_aload_n (pc := 131) (q := 0) dX12_readEnd_131 rfl ?_
      refine aw_aload_n (pc := 132) (q := 0) dX12_readEnd_132 rfl ?_
      refine aw_getI (pc := 133) fd_X12_145.r xB_0 rfl dX12_readEnd_133 ?_
      obtain ⟨r59, s61, e60, h⟩ := aw_bd2e h
      refine aw_cV1 (pc := 136) [.int ((s20.1 0 3))] (c_Rf_fails e60) yy_Rf_fails.1 wm_663 yy_Rf_fails.2.1 yy_Rf_fails.2.2 xB_0 ⟨_, _, rfl⟩ rfl ⟨Nat.le_of_ble_eq_true rfl, Nat.le_of_ble_eq_true rfl⟩ ⟨Nat.zero_le _, Nat.zero_le _⟩ (Nat.le_of_ble_eq_true rfl) dX12_readEnd_136 ?_
      obtain ⟨g62, h⟩ := aw_gde h
      cases h
      subst hE
      exact aw_iret (v := _) rfl (aw_nz g62) ⟨Nat.zero_le _, Nat.zero_le _⟩ dX12_readEnd_139
set_option maxRecDepth 100000 in
set_option maxHeartbeats 4000000 in
theorem t_Rf_readEnd_J39 {l : Launch} {G : aw_G} {E : aw_E} {σ : aw_S} {v1 : Int32} {v2 : Int32} {k1 : Int32} {k2 : Int32} {t : (Int32 × aw_S)} (h : m_Rf_readEnd_J39 σ v1 v2 k1 k2 = some t) (hE : E = (some (.int t.1), xB, t.2)) : aw_W l M_Rf_readEnd G B_Rf_readEnd E 39 [(0, .ref 0), (1, .int v1), (2, .int v2)] [.int k2, .int k1, .ref 0] xB σ 0 0 := by
  unfold m_Rf_readEnd_J39 at h
  obtain ⟨s9, e8, h⟩ := aw_bde h
  refine aw_cV0 (pc := 39) [.int k1, .int k2] (c_Rf_put e8) yy_Rf_put.1 wm_659 yy_Rf_put.2.1 yy_Rf_put.2.2 xB_0 ⟨_, _, rfl⟩ rfl ⟨Nat.le_of_ble_eq_true rfl, Nat.le_of_ble_eq_true rfl⟩ ⟨Nat.zero_le _, Nat.zero_le _⟩ (Nat.le_of_ble_eq_true rfl) dX12_readEnd_39 ?_
  refine aw_aload_n (pc := 42) (q := 0) dX12_readEnd_42 rfl ?_
  refine aw_sipush (pc := 43) (v := 220) dX12_readEnd_43 (by decide) ?_
  refine aw_iload_n (pc := 46) (q := 1) dX12_readEnd_46 rfl ?_
  refine aw_iadd (pc := 47) dX12_readEnd_47 ?_
  refine aw_iconst (pc := 48) (v := -1) dX12_readEnd_48 (by decide) ?_
  obtain ⟨s12, e11, h⟩ := aw_bde h
  refine aw_cV0 (pc := 49) [.int (((220 : Int32) + v1)), .int ((-1 : Int32))] (c_Rf_put e11) yy_Rf_put.1 wm_659 yy_Rf_put.2.1 yy_Rf_put.2.2 xB_0 ⟨_, _, rfl⟩ rfl ⟨Nat.le_of_ble_eq_true rfl, Nat.le_of_ble_eq_true rfl⟩ ⟨Nat.zero_le _, Nat.zero_le _⟩ (Nat.le_of_ble_eq_true rfl) dX12_readEnd_49 ?_
  refine aw_aload_n (pc := 52) (q := 0) dX12_readEnd_52 rfl ?_
  refine aw_sipush (pc := 53) (v := 236) dX12_readEnd_53 (by decide) ?_
  refine aw_iconst (pc := 56) (v := 2) dX12_readEnd_56 (by decide) ?_
  refine aw_iload_n (pc := 57) (q := 1) dX12_readEnd_57 rfl ?_
  refine aw_imul (pc := 58) dX12_readEnd_58 ?_
  refine aw_iadd (pc := 59) dX12_readEnd_59 ?_
  refine aw_iconst (pc := 60) (v := -1) dX12_readEnd_60 (by decide) ?_
  obtain ⟨s15, e14, h⟩ := aw_bde h
  refine aw_cV0 (pc := 61) [.int (((236 : Int32) + ((2 : Int32) * v1))), .int ((-1 : Int32))] (c_Rf_put e14) yy_Rf_put.1 wm_659 yy_Rf_put.2.1 yy_Rf_put.2.2 xB_0 ⟨_, _, rfl⟩ rfl ⟨Nat.le_of_ble_eq_true rfl, Nat.le_of_ble_eq_true rfl⟩ ⟨Nat.zero_le _, Nat.zero_le _⟩ (Nat.le_of_ble_eq_true rfl) dX12_readEnd_61 ?_
  refine aw_aload_n (pc := 64) (q := 0) dX12_readEnd_64 rfl ?_
  refine aw_sipush (pc := 65) (v := 236) dX12_readEnd_65 (by decide) ?_
  refine aw_iconst (pc := 68) (v := 2) dX12_readEnd_68 (by decide) ?_
  refine aw_iload_n (pc := 69) (q := 1) dX12_readEnd_69 rfl ?_
  refine aw_imul (pc := 70) dX12_readEnd_70 ?_
  refine aw_iadd (pc := 71) dX12_readEnd_71 ?_
  refine aw_iconst (pc := 72) (v := 1) dX12_readEnd_72 (by decide) ?_
  refine aw_iadd (pc := 73) dX12_readEnd_73 ?_
  refine aw_iconst (pc := 74) (v := -1) dX12_readEnd_74 (by decide) ?_
  obtain ⟨s18, e17, h⟩ := aw_bde h
  refine aw_cV0 (pc := 75) [.int ((((236 : Int32) + ((2 : Int32) * v1)) + (1 : Int32))), .int ((-1 : Int32))] (c_Rf_put e17) yy_Rf_put.1 wm_659 yy_Rf_put.2.1 yy_Rf_put.2.2 xB_0 ⟨_, _, rfl⟩ rfl ⟨Nat.le_of_ble_eq_true rfl, Nat.le_of_ble_eq_true rfl⟩ ⟨Nat.zero_le _, Nat.zero_le _⟩ (Nat.le_of_ble_eq_true rfl) dX12_readEnd_75 ?_
  refine aw_iload_n (pc := 78) (q := 2) dX12_readEnd_78 rfl ?_
  refine aw_bipush (pc := 79) (v := 62) dX12_readEnd_79 (by decide) ?_
  refine aw_icmp_eq (pc := 81) (tgt := 105) dX12_readEnd_81 (by decide) (fun c19 => ?_) (fun c19 => ?_)
  · replace h := aw_ifp c19 h
    exact t_Rf_readEnd_J105 h hE
  · replace h := aw_ifn c19 h
    refine aw_iload_n (pc := 84) (q := 2) dX12_readEnd_84 rfl ?_
    refine aw_bipush (pc := 85) (v := 63) dX12_readEnd_85 (by decide) ?_
    refine aw_icmp_eq (pc := 87) (tgt := 105) dX12_readEnd_87 (by decide) (fun c63 => ?_) (fun c63 => ?_)
    · replace h := aw_ifp c63 h
      exact t_Rf_readEnd_J105 h hE
    · replace h := aw_ifn c63 h
      refine aw_iload_n (pc := 90) (q := 2) dX12_readEnd_90 rfl ?_
      refine aw_bipush (pc := 91) (v := 46) dX12_readEnd_91 (by decide) ?_
      refine aw_icmp_eq (pc := 93) (tgt := 105) dX12_readEnd_93 (by decide) (fun c64 => ?_) (fun c64 => ?_)
      · replace h := aw_ifp c64 h
        exact t_Rf_readEnd_J105 h hE
      · replace h := aw_ifn c64 h
        refine aw_aload_n (pc := 96) (q := 0) dX12_readEnd_96 rfl ?_
        refine aw_aload_n (pc := 97) (q := 0) dX12_readEnd_97 rfl ?_
        refine aw_getI (pc := 98) fd_X12_145.r xB_0 rfl dX12_readEnd_98 ?_
        obtain ⟨r65, s67, e66, h⟩ := aw_bd2e h
        refine aw_cV1 (pc := 101) [.int ((s18.1 0 3))] (c_Rf_fails e66) yy_Rf_fails.1 wm_663 yy_Rf_fails.2.1 yy_Rf_fails.2.2 xB_0 ⟨_, _, rfl⟩ rfl ⟨Nat.le_of_ble_eq_true rfl, Nat.le_of_ble_eq_true rfl⟩ ⟨Nat.zero_le _, Nat.zero_le _⟩ (Nat.le_of_ble_eq_true rfl) dX12_readEnd_101 ?_
        obtain ⟨g68, h⟩ := aw_gde h
        cases h
        subst hE
        exact aw_iret (v := _) rfl (aw_nz g68) ⟨Nat.zero_le _, Nat.zero_le _⟩ dX12_readEnd_104
set_option maxRecDepth 100000 in
set_option maxHeartbeats 4000000 in
theorem t_Rf_readEnd {l : Launch} {G : aw_G} {E : aw_E} {σ : aw_S} {t : (Int32 × aw_S)} (h : m_Rf_readEnd σ = some t) (hE : E = (some (.int t.1), xB, t.2)) : aw_W l M_Rf_readEnd G B_Rf_readEnd E 0 [(0, .ref 0)] [] xB σ 0 0 := by
  unfold m_Rf_readEnd at h
  refine aw_aload_n (pc := 0) (q := 0) dX12_readEnd_0 rfl ?_
  refine aw_iconst (pc := 1) (v := 0) dX12_readEnd_1 (by decide) ?_
  obtain ⟨r1, e2, h⟩ := aw_bde h
  refine aw_cV1 (pc := 2) [.int ((0 : Int32))] (c_Rf_read e2) yy_Rf_read.1 wm_671 yy_Rf_read.2.1 yy_Rf_read.2.2 xB_0 ⟨_, _, rfl⟩ rfl ⟨Nat.le_of_ble_eq_true rfl, Nat.le_of_ble_eq_true rfl⟩ ⟨Nat.zero_le _, Nat.zero_le _⟩ (Nat.le_of_ble_eq_true rfl) dX12_readEnd_2 ?_
  refine aw_istore_n (pc := 5) [(1, .int r1), (0, .ref 0)] dX12_readEnd_5 (by decide) rfl ?_
  refine aw_aload_n (pc := 6) (q := 1) dX12_readEnd_6 rfl ?_
  obtain ⟨r3, e4, h⟩ := aw_bde h
  refine aw_cV1 (pc := 7) [] (c_Rf_here e4) yy_Rf_here.1 wm_675 yy_Rf_here.2.1 yy_Rf_here.2.2 xB_0 ⟨_, _, rfl⟩ rfl ⟨Nat.le_of_ble_eq_true rfl, Nat.le_of_ble_eq_true rfl⟩ ⟨Nat.zero_le _, Nat.zero_le _⟩ (Nat.le_of_ble_eq_true rfl) dX12_readEnd_7 ?_
  refine aw_istore_n (pc := 10) [(2, .int r3), (1, .int r1), (0, .ref 0)] dX12_readEnd_10 (by decide) rfl ?_
  refine aw_aload_n (pc := 11) (q := 2) dX12_readEnd_11 rfl ?_
  refine aw_sipush (pc := 12) (v := 204) dX12_readEnd_12 (by decide) ?_
  refine aw_iload_n (pc := 15) (q := 1) dX12_readEnd_15 rfl ?_
  refine aw_iadd (pc := 16) dX12_readEnd_16 ?_
  refine aw_iload_n (pc := 17) (q := 0) dX12_readEnd_17 rfl ?_
  refine aw_bipush (pc := 18) (v := 62) dX12_readEnd_18 (by decide) ?_
  refine aw_icmp_ne (pc := 20) (tgt := 27) dX12_readEnd_20 (by decide) (fun c5 => ?_) (fun c5 => ?_)
  · replace h := aw_ifn c5 h
    refine aw_iload_n (pc := 27) (q := 0) dX12_readEnd_27 rfl ?_
    refine aw_bipush (pc := 28) (v := 63) dX12_readEnd_28 (by decide) ?_
    refine aw_icmp_ne (pc := 30) (tgt := 37) dX12_readEnd_30 (by decide) (fun c6 => ?_) (fun c6 => ?_)
    · replace h := aw_ifn c6 h
      refine aw_bipush (pc := 37) (v := 6) dX12_readEnd_37 (by decide) ?_
      refine aw_sub [2, 1, 0] rfl ?_
      exact t_Rf_readEnd_J39 h hE
    · replace h := aw_ifp c6 h
      refine aw_iconst (pc := 33) (v := 5) dX12_readEnd_33 (by decide) ?_
      refine aw_goto (pc := 34) (tgt := 39) dX12_readEnd_34 (by decide) ?_
      refine aw_sub [2, 1, 0] rfl ?_
      exact t_Rf_readEnd_J39 h hE
  · replace h := aw_ifp c5 h
    refine aw_iconst (pc := 23) (v := 4) dX12_readEnd_23 (by decide) ?_
    refine aw_goto (pc := 24) (tgt := 39) dX12_readEnd_24 (by decide) ?_
    refine aw_sub [2, 1, 0] rfl ?_
    exact t_Rf_readEnd_J39 h hE
theorem c_Rf_readEnd {l : Launch} {G : aw_G} {σ : aw_S} {t : (Int32 × aw_S)} (h : m_Rf_readEnd σ = some t) : aw_Ct l yX12_readEnd M_Rf_readEnd G B_Rf_readEnd [.ref 0] xB σ (some (.int t.1), xB, t.2) := aw_Ct_of (by decide) rfl (fun h => by cases h) (Nat.le_of_ble_eq_true rfl) (t_Rf_readEnd h rfl)
/-! LateMoverModel.readBlock()Z -/
def z_Rf_readBlock_X19 (l : Launch) (G : aw_G) (E : aw_E) (s : aw_S) : Prop := aw_W l M_Rf_readBlock G B_Rf_readBlock E 19 [(0, .ref 0)] [] xB s 0 0
def z_Rf_readBlock_Y19 (l : Launch) (G : aw_G) (E : aw_E) (x : ((aw_S) ⊕ (aw_S))) : Prop := (Sum.elim (fun r0 => aw_W l M_Rf_readBlock G B_Rf_readBlock E 45 [] [] xB r0 0 0) (fun r1 => aw_W l M_Rf_readBlock G B_Rf_readBlock E 47 [(0, .ref 0)] [] xB r1 0 0)) x
set_option maxRecDepth 100000 in
set_option maxHeartbeats 4000000 in
theorem t_Rf_readBlock_J38 {l : Launch} {G : aw_G} {E : aw_E} {σ : aw_S} {t : ((aw_S) ⊕ (aw_S)) ⊕ aw_S} (h : m_Rf_readBlock_J38 σ = some t) (hz : Sum.elim (z_Rf_readBlock_Y19 l G E) (z_Rf_readBlock_X19 l G E) t) : aw_W l M_Rf_readBlock G B_Rf_readBlock E 38 [(0, .ref 0)] [] xB σ 0 0 := by
  unfold m_Rf_readBlock_J38 at h
  refine aw_aload_n (pc := 38) (q := 0) dX12_readBlock_38 rfl ?_
  obtain ⟨r9, s11, e10, h⟩ := aw_bd2e h
  refine aw_cV1 (pc := 39) [] (c_Rf_readStatement e10) yy_Rf_readStatement.1 wm_682 yy_Rf_readStatement.2.1 yy_Rf_readStatement.2.2 xB_0 ⟨_, _, rfl⟩ rfl ⟨Nat.le_of_ble_eq_true rfl, Nat.le_of_ble_eq_true rfl⟩ ⟨Nat.zero_le _, Nat.zero_le _⟩ (Nat.le_of_ble_eq_true rfl) dX12_readBlock_39 ?_
  refine aw_if_ne (pc := 42) (tgt := 19) dX12_readBlock_42 (by decide) (fun c12 => ?_) (fun c12 => ?_)
  · replace h := aw_ifn c12 h
    refine aw_sub [0] rfl ?_
    cases h
    exact hz
  · replace h := aw_ifp c12 h
    refine aw_sub [] rfl ?_
    cases h
    exact hz
set_option maxRecDepth 100000 in
set_option maxHeartbeats 4000000 in
theorem t_Rf_readBlock_B19 {l : Launch} {G : aw_G} {E : aw_E} {σ : aw_S} {t : ((aw_S) ⊕ (aw_S)) ⊕ aw_S} (h : m_Rf_readBlock_B19 σ = some t) (hz : Sum.elim (z_Rf_readBlock_Y19 l G E) (z_Rf_readBlock_X19 l G E) t) : aw_W l M_Rf_readBlock G B_Rf_readBlock E 19 [(0, .ref 0)] [] xB σ 0 0 := by
  unfold m_Rf_readBlock_B19 at h
  refine aw_aload_n (pc := 19) (q := 0) dX12_readBlock_19 rfl ?_
  obtain ⟨r4, e5, h⟩ := aw_bde h
  refine aw_cV1 (pc := 20) [] (c_Rf_here e5) yy_Rf_here.1 wm_675 yy_Rf_here.2.1 yy_Rf_here.2.2 xB_0 ⟨_, _, rfl⟩ rfl ⟨Nat.le_of_ble_eq_true rfl, Nat.le_of_ble_eq_true rfl⟩ ⟨Nat.zero_le _, Nat.zero_le _⟩ (Nat.le_of_ble_eq_true rfl) dX12_readBlock_20 ?_
  obtain ⟨r6, e7, h⟩ := aw_bde h
  refine aw_cS1 (pc := 23) [.int r4] (c_Rf_isLetter e7) yy_Rf_isLetter.1 wm_679 yy_Rf_isLetter.2 rfl ⟨Nat.le_of_ble_eq_true rfl, Nat.le_of_ble_eq_true rfl⟩ ⟨Nat.zero_le _, Nat.zero_le _⟩ (Nat.le_of_ble_eq_true rfl) dX12_readBlock_23 ?_
  refine aw_if_ne (pc := 26) (tgt := 38) dX12_readBlock_26 (by decide) (fun c8 => ?_) (fun c8 => ?_)
  · replace h := aw_ifn c8 h
    exact t_Rf_readBlock_J38 h hz
  · replace h := aw_ifp c8 h
    refine aw_aload_n (pc := 29) (q := 0) dX12_readBlock_29 rfl ?_
    obtain ⟨r13, e14, h⟩ := aw_bde h
    refine aw_cV1 (pc := 30) [] (c_Rf_here e14) yy_Rf_here.1 wm_675 yy_Rf_here.2.1 yy_Rf_here.2.2 xB_0 ⟨_, _, rfl⟩ rfl ⟨Nat.le_of_ble_eq_true rfl, Nat.le_of_ble_eq_true rfl⟩ ⟨Nat.zero_le _, Nat.zero_le _⟩ (Nat.le_of_ble_eq_true rfl) dX12_readBlock_30 ?_
    refine aw_bipush (pc := 33) (v := 33) dX12_readBlock_33 (by decide) ?_
    refine aw_icmp_ne (pc := 35) (tgt := 47) dX12_readBlock_35 (by decide) (fun c15 => ?_) (fun c15 => ?_)
    · replace h := aw_ifn c15 h
      refine aw_sub [0] rfl ?_
      cases h
      exact hz
    · replace h := aw_ifp c15 h
      exact t_Rf_readBlock_J38 h hz
set_option maxRecDepth 100000 in
set_option maxHeartbeats 4000000 in
theorem t_Rf_readBlock {l : Launch} {G : aw_G} {E : aw_E} {σ : aw_S} {t : (Int32 × aw_S)} (h : m_Rf_readBlock σ = some t) (hE : E = (some (.int t.1), xB, t.2)) : aw_W l M_Rf_readBlock G B_Rf_readBlock E 0 [(0, .ref 0)] [] xB σ 0 0 := by
  unfold m_Rf_readBlock at h
  refine aw_aload_n (pc := 0) (q := 0) dX12_readBlock_0 rfl ?_
  refine aw_iconst (pc := 1) (v := 0) dX12_readBlock_1 (by decide) ?_
  obtain ⟨r1, e2, h⟩ := aw_bde h
  refine aw_cV1 (pc := 2) [.int ((0 : Int32))] (c_Rf_read e2) yy_Rf_read.1 wm_671 yy_Rf_read.2.1 yy_Rf_read.2.2 xB_0 ⟨_, _, rfl⟩ rfl ⟨Nat.le_of_ble_eq_true rfl, Nat.le_of_ble_eq_true rfl⟩ ⟨Nat.zero_le _, Nat.zero_le _⟩ (Nat.le_of_ble_eq_true rfl) dX12_readBlock_2 ?_
  refine aw_bipush (pc := 5) (v := 16) dX12_readBlock_5 (by decide) ?_
  refine aw_icmp_ne (pc := 7) (tgt := 19) dX12_readBlock_7 (by decide) (fun c3 => ?_) (fun c3 => ?_)
  · replace h := aw_ifn c3 h
    obtain ⟨x16, hl17, h⟩ := aw_bde h
    have K18 : z_Rf_readBlock_Y19 l G E x16 := by
      cases x16 with
      | inl y19 =>
        replace h := aw_eL h
        show aw_W l M_Rf_readBlock G B_Rf_readBlock E 45 [] [] xB y19 0 0
        refine aw_iconst (pc := 45) (v := 0) dX12_readBlock_45 (by decide) ?_
        cases h
        subst hE
        exact aw_iret (v := (0 : Int32)) rfl aw_n0 ⟨Nat.zero_le _, Nat.zero_le _⟩ dX12_readBlock_46
      | inr y20 =>
        replace h := aw_eR h
        show aw_W l M_Rf_readBlock G B_Rf_readBlock E 47 [(0, .ref 0)] [] xB y20 0 0
        refine aw_aload_n (pc := 47) (q := 0) dX12_readBlock_47 rfl ?_
        obtain ⟨r21, s23, e22, h⟩ := aw_bd2e h
        refine aw_cV1 (pc := 48) [] (c_Rf_readEnd e22) yy_Rf_readEnd.1 wm_713 yy_Rf_readEnd.2.1 yy_Rf_readEnd.2.2 xB_0 ⟨_, _, rfl⟩ rfl ⟨Nat.le_of_ble_eq_true rfl, Nat.le_of_ble_eq_true rfl⟩ ⟨Nat.zero_le _, Nat.zero_le _⟩ (Nat.le_of_ble_eq_true rfl) dX12_readBlock_48 ?_
        obtain ⟨g24, h⟩ := aw_gde h
        cases h
        subst hE
        exact aw_iret (v := _) rfl (aw_nz g24) ⟨Nat.zero_le _, Nat.zero_le _⟩ dX12_readBlock_51
    refine aw_sub [0] rfl ?_
    show z_Rf_readBlock_X19 l G E σ
    exact aw_lp_X (Xp := z_Rf_readBlock_X19 l G E) (Y := z_Rf_readBlock_Y19 l G E) hl17 K18 (fun s t hf hz => t_Rf_readBlock_B19 hf hz)
  · replace h := aw_ifp c3 h
    refine aw_aload_n (pc := 10) (q := 0) dX12_readBlock_10 rfl ?_
    refine aw_aload_n (pc := 11) (q := 0) dX12_readBlock_11 rfl ?_
    refine aw_getI (pc := 12) fd_X12_145.r xB_0 rfl dX12_readBlock_12 ?_
    obtain ⟨r25, s27, e26, h⟩ := aw_bd2e h
    refine aw_cV1 (pc := 15) [.int ((σ.1 0 3))] (c_Rf_fails e26) yy_Rf_fails.1 wm_663 yy_Rf_fails.2.1 yy_Rf_fails.2.2 xB_0 ⟨_, _, rfl⟩ rfl ⟨Nat.le_of_ble_eq_true rfl, Nat.le_of_ble_eq_true rfl⟩ ⟨Nat.zero_le _, Nat.zero_le _⟩ (Nat.le_of_ble_eq_true rfl) dX12_readBlock_15 ?_
    obtain ⟨g28, h⟩ := aw_gde h
    cases h
    subst hE
    exact aw_iret (v := _) rfl (aw_nz g28) ⟨Nat.zero_le _, Nat.zero_le _⟩ dX12_readBlock_18
theorem c_Rf_readBlock {l : Launch} {G : aw_G} {σ : aw_S} {t : (Int32 × aw_S)} (h : m_Rf_readBlock σ = some t) : aw_Ct l yX12_readBlock M_Rf_readBlock G B_Rf_readBlock [.ref 0] xB σ (some (.int t.1), xB, t.2) := aw_Ct_of (by decide) rfl (fun h => by cases h) (Nat.le_of_ble_eq_true rfl) (t_Rf_readBlock h rfl)
/-! LateMoverModel.readProgram()Z -/
def z_Rf_readProgram_X49 (l : Launch) (G : aw_G) (E : aw_E) (s : aw_S) : Prop := aw_W l M_Rf_readProgram G B_Rf_readProgram E 49 [(0, .ref 0)] [] xB s 0 0
def z_Rf_readProgram_Y49 (l : Launch) (G : aw_G) (E : aw_E) (x : ((aw_S) ⊕ (aw_S))) : Prop := (Sum.elim (fun r0 => aw_W l M_Rf_readProgram G B_Rf_readProgram E 67 [] [] xB r0 0 0) (fun r1 => aw_W l M_Rf_readProgram G B_Rf_readProgram E 69 [(0, .ref 0)] [] xB r1 0 0)) x
def z_Rf_readProgram_X71 (l : Launch) (G : aw_G) (E : aw_E) (s : Int32 × aw_S) : Prop := aw_W l M_Rf_readProgram G B_Rf_readProgram E 71 [(0, .ref 0), (1, .int s.1)] [] xB s.2 0 0
def z_Rf_readProgram_Y71 (l : Launch) (G : aw_G) (E : aw_E) (x : (((Int32 × aw_S)) ⊕ (aw_S))) : Prop := (Sum.elim (fun r0 => E = (some (.int r0.1), xB, r0.2)) (fun r1 => aw_W l M_Rf_readProgram G B_Rf_readProgram E 116 [] [] xB r1 0 0)) x
set_option maxRecDepth 100000 in
set_option maxHeartbeats 4000000 in
theorem t_Rf_readProgram_B49 {l : Launch} {G : aw_G} {E : aw_E} {σ : aw_S} {t : ((aw_S) ⊕ (aw_S)) ⊕ aw_S} (h : m_Rf_readProgram_B49 σ = some t) (hz : Sum.elim (z_Rf_readProgram_Y49 l G E) (z_Rf_readProgram_X49 l G E) t) : aw_W l M_Rf_readProgram G B_Rf_readProgram E 49 [(0, .ref 0)] [] xB σ 0 0 := by
  unfold m_Rf_readProgram_B49 at h
  refine aw_aload_n (pc := 49) (q := 0) dX12_readProgram_49 rfl ?_
  refine aw_getI (pc := 50) fd_X12_145.r xB_0 rfl dX12_readProgram_50 ?_
  refine aw_aload_n (pc := 53) (q := 0) dX12_readProgram_53 rfl ?_
  refine aw_getI (pc := 54) fd_X12_134.r xB_0 rfl dX12_readProgram_54 ?_
  refine aw_icmp_ge (pc := 57) (tgt := 69) dX12_readProgram_57 (by decide) (fun c16 => ?_) (fun c16 => ?_)
  · replace h := aw_ifp c16 h
    refine aw_sub [0] rfl ?_
    cases h
    exact hz
  · replace h := aw_ifn c16 h
    refine aw_aload_n (pc := 60) (q := 0) dX12_readProgram_60 rfl ?_
    obtain ⟨r17, s19, e18, h⟩ := aw_bd2e h
    refine aw_cV1 (pc := 61) [] (c_Rf_readBlock e18) yy_Rf_readBlock.1 wm_667 yy_Rf_readBlock.2.1 yy_Rf_readBlock.2.2 xB_0 ⟨_, _, rfl⟩ rfl ⟨Nat.le_of_ble_eq_true rfl, Nat.le_of_ble_eq_true rfl⟩ ⟨Nat.zero_le _, Nat.zero_le _⟩ (Nat.le_of_ble_eq_true rfl) dX12_readProgram_61 ?_
    refine aw_if_ne (pc := 64) (tgt := 49) dX12_readProgram_64 (by decide) (fun c20 => ?_) (fun c20 => ?_)
    · replace h := aw_ifn c20 h
      refine aw_sub [0] rfl ?_
      cases h
      exact hz
    · replace h := aw_ifp c20 h
      refine aw_sub [] rfl ?_
      cases h
      exact hz
set_option maxRecDepth 100000 in
set_option maxHeartbeats 4000000 in
theorem t_Rf_readProgram_B71 {l : Launch} {G : aw_G} {E : aw_E} {σ : aw_S} {v1 : Int32} {t : (((Int32 × aw_S)) ⊕ (aw_S)) ⊕ (Int32 × aw_S)} (h : m_Rf_readProgram_B71 σ v1 = some t) (hz : Sum.elim (z_Rf_readProgram_Y71 l G E) (z_Rf_readProgram_X71 l G E) t) : aw_W l M_Rf_readProgram G B_Rf_readProgram E 71 [(0, .ref 0), (1, .int v1)] [] xB σ 0 0 := by
  unfold m_Rf_readProgram_B71 at h
  refine aw_iload_n (pc := 71) (q := 1) dX12_readProgram_71 rfl ?_
  refine aw_iconst (pc := 72) (v := 2) dX12_readProgram_72 (by decide) ?_
  refine aw_aload_n (pc := 73) (q := 0) dX12_readProgram_73 rfl ?_
  refine aw_iconst (pc := 74) (v := 0) dX12_readProgram_74 (by decide) ?_
  obtain ⟨r26, e27, h⟩ := aw_bde h
  refine aw_cV1 (pc := 75) [.int ((0 : Int32))] (c_Rf_read e27) yy_Rf_read.1 wm_671 yy_Rf_read.2.1 yy_Rf_read.2.2 xB_0 ⟨_, _, rfl⟩ rfl ⟨Nat.le_of_ble_eq_true rfl, Nat.le_of_ble_eq_true rfl⟩ ⟨Nat.zero_le _, Nat.zero_le _⟩ (Nat.le_of_ble_eq_true rfl) dX12_readProgram_75 ?_
  refine aw_imul (pc := 78) dX12_readProgram_78 ?_
  refine aw_icmp_ge (pc := 79) (tgt := 116) dX12_readProgram_79 (by decide) (fun c28 => ?_) (fun c28 => ?_)
  · replace h := aw_ifp c28 h
    refine aw_sub [] rfl ?_
    cases h
    exact hz
  · replace h := aw_ifn c28 h
    refine aw_aload_n (pc := 82) (q := 0) dX12_readProgram_82 rfl ?_
    refine aw_sipush (pc := 83) (v := 236) dX12_readProgram_83 (by decide) ?_
    refine aw_iload_n (pc := 86) (q := 1) dX12_readProgram_86 rfl ?_
    refine aw_iadd (pc := 87) dX12_readProgram_87 ?_
    obtain ⟨r29, e30, h⟩ := aw_bde h
    refine aw_cV1 (pc := 88) [.int (((236 : Int32) + v1))] (c_Rf_read e30) yy_Rf_read.1 wm_671 yy_Rf_read.2.1 yy_Rf_read.2.2 xB_0 ⟨_, _, rfl⟩ rfl ⟨Nat.le_of_ble_eq_true rfl, Nat.le_of_ble_eq_true rfl⟩ ⟨Nat.zero_le _, Nat.zero_le _⟩ (Nat.le_of_ble_eq_true rfl) dX12_readProgram_88 ?_
    refine aw_aload_n (pc := 91) (q := 0) dX12_readProgram_91 rfl ?_
    refine aw_iconst (pc := 92) (v := 0) dX12_readProgram_92 (by decide) ?_
    obtain ⟨r31, e32, h⟩ := aw_bde h
    refine aw_cV1 (pc := 93) [.int ((0 : Int32))] (c_Rf_read e32) yy_Rf_read.1 wm_671 yy_Rf_read.2.1 yy_Rf_read.2.2 xB_0 ⟨_, _, rfl⟩ rfl ⟨Nat.le_of_ble_eq_true rfl, Nat.le_of_ble_eq_true rfl⟩ ⟨Nat.zero_le _, Nat.zero_le _⟩ (Nat.le_of_ble_eq_true rfl) dX12_readProgram_93 ?_
    refine aw_icmp_lt (pc := 96) (tgt := 110) dX12_readProgram_96 (by decide) (fun c33 => ?_) (fun c33 => ?_)
    · replace h := aw_ifp c33 h
      obtain ⟨x34, e_x34⟩ : ∃ z, z = (v1 + (1 : Int32)) := ⟨_, rfl⟩
      replace h := aw_lte h x34 e_x34
      refine aw_iinc (pc := 110) (q := 1) (v := x34) [(1, .int x34), (0, .ref 0)] dX12_readProgram_110 rfl e_x34.symm (by decide) rfl ?_
      refine aw_goto (pc := 113) (tgt := 71) dX12_readProgram_113 (by decide) ?_
      refine aw_sub [1, 0] rfl ?_
      cases h
      exact hz
    · replace h := aw_ifn c33 h
      refine aw_aload_n (pc := 99) (q := 0) dX12_readProgram_99 rfl ?_
      refine aw_aload_n (pc := 100) (q := 0) dX12_readProgram_100 rfl ?_
      refine aw_getC (pc := 101) fd_X12_21.r xB_0 rfl dX12_readProgram_101 ?_
      refine aw_iload_n (pc := 104) (q := 1) dX12_readProgram_104 rfl ?_
      obtain ⟨g35, h⟩ := aw_gde h
      refine aw_iald (pc := 105) xB_3 g35 dX12_readProgram_105 ?_
      obtain ⟨r36, s38, e37, h⟩ := aw_bd2e h
      refine aw_cV1 (pc := 106) [.int ((σ.1 3 v1.toNatClampNeg))] (c_Rf_fails e37) yy_Rf_fails.1 wm_663 yy_Rf_fails.2.1 yy_Rf_fails.2.2 xB_0 ⟨_, _, rfl⟩ rfl ⟨Nat.le_of_ble_eq_true rfl, Nat.le_of_ble_eq_true rfl⟩ ⟨Nat.zero_le _, Nat.zero_le _⟩ (Nat.le_of_ble_eq_true rfl) dX12_readProgram_106 ?_
      obtain ⟨g39, h⟩ := aw_gde h
      cases h
      have hE : E = _ := hz
      subst hE
      exact aw_iret (v := _) rfl (aw_nz g39) ⟨Nat.zero_le _, Nat.zero_le _⟩ dX12_readProgram_109
set_option maxRecDepth 100000 in
set_option maxHeartbeats 4000000 in
theorem t_Rf_readProgram {l : Launch} {G : aw_G} {E : aw_E} {σ : aw_S} {t : (Int32 × aw_S)} (h : m_Rf_readProgram σ = some t) (hE : E = (some (.int t.1), xB, t.2)) : aw_W l M_Rf_readProgram G B_Rf_readProgram E 0 [(0, .ref 0)] [] xB σ 0 0 := by
  unfold m_Rf_readProgram at h
  refine aw_aload_n (pc := 0) (q := 0) dX12_readProgram_0 rfl ?_
  refine aw_iconst (pc := 1) (v := 0) dX12_readProgram_1 (by decide) ?_
  refine aw_putI (pc := 2) fd_X12_145 xB_0 rfl (fun _ => rfl) (fun _ => rfl) dX12_readProgram_2 ?_
  refine aw_nmS (fun s1 e_s1 => ?_)
  replace h := aw_lte h s1 e_s1
  refine aw_aload_n (pc := 5) (q := 0) dX12_readProgram_5 rfl ?_
  refine aw_iconst (pc := 6) (v := -1) dX12_readProgram_6 (by decide) ?_
  refine aw_putI (pc := 7) fd_X12_17 xB_0 rfl (fun _ => rfl) (fun _ => rfl) dX12_readProgram_7 ?_
  refine aw_nmS (fun s2 e_s2 => ?_)
  replace h := aw_lte h s2 e_s2
  refine aw_aload_n (pc := 10) (q := 0) dX12_readProgram_10 rfl ?_
  refine aw_iconst (pc := 11) (v := 0) dX12_readProgram_11 (by decide) ?_
  refine aw_iconst (pc := 12) (v := 0) dX12_readProgram_12 (by decide) ?_
  obtain ⟨s5, e4, h⟩ := aw_bde h
  refine aw_cV0 (pc := 13) [.int ((0 : Int32)), .int ((0 : Int32))] (c_Rf_put e4) yy_Rf_put.1 wm_659 yy_Rf_put.2.1 yy_Rf_put.2.2 xB_0 ⟨_, _, rfl⟩ rfl ⟨Nat.le_of_ble_eq_true rfl, Nat.le_of_ble_eq_true rfl⟩ ⟨Nat.zero_le _, Nat.zero_le _⟩ (Nat.le_of_ble_eq_true rfl) dX12_readProgram_13 ?_
  refine aw_aload_n (pc := 16) (q := 0) dX12_readProgram_16 rfl ?_
  refine aw_iconst (pc := 17) (v := 1) dX12_readProgram_17 (by decide) ?_
  refine aw_iconst (pc := 18) (v := 0) dX12_readProgram_18 (by decide) ?_
  obtain ⟨s8, e7, h⟩ := aw_bde h
  refine aw_cV0 (pc := 19) [.int ((1 : Int32)), .int ((0 : Int32))] (c_Rf_put e7) yy_Rf_put.1 wm_659 yy_Rf_put.2.1 yy_Rf_put.2.2 xB_0 ⟨_, _, rfl⟩ rfl ⟨Nat.le_of_ble_eq_true rfl, Nat.le_of_ble_eq_true rfl⟩ ⟨Nat.zero_le _, Nat.zero_le _⟩ (Nat.le_of_ble_eq_true rfl) dX12_readProgram_19 ?_
  refine aw_aload_n (pc := 22) (q := 0) dX12_readProgram_22 rfl ?_
  refine aw_iconst (pc := 23) (v := 2) dX12_readProgram_23 (by decide) ?_
  refine aw_iconst (pc := 24) (v := 0) dX12_readProgram_24 (by decide) ?_
  obtain ⟨s11, e10, h⟩ := aw_bde h
  refine aw_cV0 (pc := 25) [.int ((2 : Int32)), .int ((0 : Int32))] (c_Rf_put e10) yy_Rf_put.1 wm_659 yy_Rf_put.2.1 yy_Rf_put.2.2 xB_0 ⟨_, _, rfl⟩ rfl ⟨Nat.le_of_ble_eq_true rfl, Nat.le_of_ble_eq_true rfl⟩ ⟨Nat.zero_le _, Nat.zero_le _⟩ (Nat.le_of_ble_eq_true rfl) dX12_readProgram_25 ?_
  refine aw_aload_n (pc := 28) (q := 0) dX12_readProgram_28 rfl ?_
  refine aw_sipush (pc := 29) (v := 184) dX12_readProgram_29 (by decide) ?_
  refine aw_iconst (pc := 32) (v := 0) dX12_readProgram_32 (by decide) ?_
  obtain ⟨s14, e13, h⟩ := aw_bde h
  refine aw_cV0 (pc := 33) [.int ((184 : Int32)), .int ((0 : Int32))] (c_Rf_put e13) yy_Rf_put.1 wm_659 yy_Rf_put.2.1 yy_Rf_put.2.2 xB_0 ⟨_, _, rfl⟩ rfl ⟨Nat.le_of_ble_eq_true rfl, Nat.le_of_ble_eq_true rfl⟩ ⟨Nat.zero_le _, Nat.zero_le _⟩ (Nat.le_of_ble_eq_true rfl) dX12_readProgram_33 ?_
  refine aw_aload_n (pc := 36) (q := 0) dX12_readProgram_36 rfl ?_
  refine aw_getI (pc := 37) fd_X12_134.r xB_0 rfl dX12_readProgram_37 ?_
  refine aw_if_ne (pc := 40) (tgt := 49) dX12_readProgram_40 (by decide) (fun c15 => ?_) (fun c15 => ?_)
  · replace h := aw_ifn c15 h
    obtain ⟨x21, hl22, h⟩ := aw_bde h
    have K23 : z_Rf_readProgram_Y49 l G E x21 := by
      cases x21 with
      | inl y24 =>
        replace h := aw_eL h
        show aw_W l M_Rf_readProgram G B_Rf_readProgram E 67 [] [] xB y24 0 0
        refine aw_iconst (pc := 67) (v := 0) dX12_readProgram_67 (by decide) ?_
        cases h
        subst hE
        exact aw_iret (v := (0 : Int32)) rfl aw_n0 ⟨Nat.zero_le _, Nat.zero_le _⟩ dX12_readProgram_68
      | inr y25 =>
        replace h := aw_eR h
        show aw_W l M_Rf_readProgram G B_Rf_readProgram E 69 [(0, .ref 0)] [] xB y25 0 0
        refine aw_iconst (pc := 69) (v := 0) dX12_readProgram_69 (by decide) ?_
        refine aw_istore_n (pc := 70) [(1, .int ((0 : Int32))), (0, .ref 0)] dX12_readProgram_70 (by decide) rfl ?_
        obtain ⟨x40, hl41, h⟩ := aw_bde h
        have K42 : z_Rf_readProgram_Y71 l G E x40 := by
          cases x40 with
          | inl y43 =>
            replace h := aw_eL h
            show E = _
            cases h
            exact hE
          | inr y44 =>
            replace h := aw_eR h
            show aw_W l M_Rf_readProgram G B_Rf_readProgram E 116 [] [] xB y44 0 0
            refine aw_iconst (pc := 116) (v := 1) dX12_readProgram_116 (by decide) ?_
            cases h
            subst hE
            exact aw_iret (v := (1 : Int32)) rfl aw_n1 ⟨Nat.zero_le _, Nat.zero_le _⟩ dX12_readProgram_117
        refine aw_sub [1, 0] rfl ?_
        show z_Rf_readProgram_X71 l G E (((0 : Int32), y25))
        exact aw_lp_X (Xp := z_Rf_readProgram_X71 l G E) (Y := z_Rf_readProgram_Y71 l G E) hl41 K42 (fun s t hf hz => t_Rf_readProgram_B71 hf hz)
    refine aw_sub [0] rfl ?_
    show z_Rf_readProgram_X49 l G E s14
    exact aw_lp_X (Xp := z_Rf_readProgram_X49 l G E) (Y := z_Rf_readProgram_Y49 l G E) hl22 K23 (fun s t hf hz => t_Rf_readProgram_B49 hf hz)
  · replace h := aw_ifp c15 h
    refine aw_aload_n (pc := 43) (q := 0) dX12_readProgram_43 rfl ?_
    refine aw_iconst (pc := 44) (v := 0) dX12_readProgram_44 (by decide) ?_
    obtain ⟨r45, s47, e46, h⟩ := aw_bd2e h
    refine aw_cV1 (pc := 45) [.int ((0 : Int32))] (c_Rf_fails e46) yy_Rf_fails.1 wm_663 yy_Rf_fails.2.1 yy_Rf_fails.2.2 xB_0 ⟨_, _, rfl⟩ rfl ⟨Nat.le_of_ble_eq_true rfl, Nat.le_of_ble_eq_true rfl⟩ ⟨Nat.zero_le _, Nat.zero_le _⟩ (Nat.le_of_ble_eq_true rfl) dX12_readProgram_45 ?_
    obtain ⟨g48, h⟩ := aw_gde h
    cases h
    subst hE
    exact aw_iret (v := _) rfl (aw_nz g48) ⟨Nat.zero_le _, Nat.zero_le _⟩ dX12_readProgram_48
theorem c_Rf_readProgram {l : Launch} {G : aw_G} {σ : aw_S} {t : (Int32 × aw_S)} (h : m_Rf_readProgram σ = some t) : aw_Ct l yX12_readProgram M_Rf_readProgram G B_Rf_readProgram [.ref 0] xB σ (some (.int t.1), xB, t.2) := aw_Ct_of (by decide) rfl (fun h => by cases h) (Nat.le_of_ble_eq_true rfl) (t_Rf_readProgram h rfl)
/-! LateMoverModel.copyRow(II)V -/
def z_Rf_copyRow_X2 (l : Launch) (G : aw_G) (E : aw_E) (v1 : Int32) (v2 : Int32) (s : Int32 × aw_S) : Prop := aw_W l M_Rf_copyRow G B_Rf_copyRow E 2 [(0, .ref 0), (1, .int v1), (2, .int v2), (3, .int s.1)] [] xB s.2 0 0
def z_Rf_copyRow_Y2 (l : Launch) (G : aw_G) (E : aw_E) (v1 : Int32) (v2 : Int32) (x : (aw_S)) : Prop := aw_W l M_Rf_copyRow G B_Rf_copyRow E 39 [] [] xB x 0 0
set_option maxRecDepth 100000 in
set_option maxHeartbeats 4000000 in
theorem t_Rf_copyRow_B2 {l : Launch} {G : aw_G} {E : aw_E} {σ : aw_S} {v1 : Int32} {v2 : Int32} {v3 : Int32} {t : (aw_S) ⊕ (Int32 × aw_S)} (h : m_Rf_copyRow_B2 σ v1 v2 v3 = some t) (hz : Sum.elim (z_Rf_copyRow_Y2 l G E v1 v2) (z_Rf_copyRow_X2 l G E v1 v2) t) : aw_W l M_Rf_copyRow G B_Rf_copyRow E 2 [(0, .ref 0), (1, .int v1), (2, .int v2), (3, .int v3)] [] xB σ 0 0 := by
  unfold m_Rf_copyRow_B2 at h
  refine aw_iload_n (pc := 2) (q := 3) dX12_copyRow_2 rfl ?_
  refine aw_sipush (pc := 3) (v := 340) dX12_copyRow_3 (by decide) ?_
  refine aw_icmp_ge (pc := 6) (tgt := 39) dX12_copyRow_6 (by decide) (fun c1 => ?_) (fun c1 => ?_)
  · replace h := aw_ifp c1 h
    refine aw_sub [] rfl ?_
    cases h
    exact hz
  · replace h := aw_ifn c1 h
    refine aw_aload_n (pc := 9) (q := 0) dX12_copyRow_9 rfl ?_
    refine aw_getC (pc := 10) fd_X12_7.r xB_0 rfl dX12_copyRow_10 ?_
    refine aw_sipush (pc := 13) (v := 340) dX12_copyRow_13 (by decide) ?_
    refine aw_iload_n (pc := 16) (q := 2) dX12_copyRow_16 rfl ?_
    refine aw_imul (pc := 17) dX12_copyRow_17 ?_
    refine aw_iload_n (pc := 18) (q := 3) dX12_copyRow_18 rfl ?_
    refine aw_iadd (pc := 19) dX12_copyRow_19 ?_
    refine aw_aload_n (pc := 20) (q := 0) dX12_copyRow_20 rfl ?_
    refine aw_getC (pc := 21) fd_X12_7.r xB_0 rfl dX12_copyRow_21 ?_
    refine aw_sipush (pc := 24) (v := 340) dX12_copyRow_24 (by decide) ?_
    refine aw_iload_n (pc := 27) (q := 1) dX12_copyRow_27 rfl ?_
    refine aw_imul (pc := 28) dX12_copyRow_28 ?_
    refine aw_iload_n (pc := 29) (q := 3) dX12_copyRow_29 rfl ?_
    refine aw_iadd (pc := 30) dX12_copyRow_30 ?_
    obtain ⟨g2, h⟩ := aw_gde h
    refine aw_iald (pc := 31) xB_1 g2 dX12_copyRow_31 ?_
    obtain ⟨g3, h⟩ := aw_gde h
    refine aw_iast (pc := 32) xB_1 g3 dX12_copyRow_32 ?_
    refine aw_nmS (fun s4 e_s4 => ?_)
    replace h := aw_lte h s4 e_s4
    obtain ⟨x5, e_x5⟩ : ∃ z, z = (v3 + (1 : Int32)) := ⟨_, rfl⟩
    replace h := aw_lte h x5 e_x5
    refine aw_iinc (pc := 33) (q := 3) (v := x5) [(3, .int x5), (0, .ref 0), (1, .int v1), (2, .int v2)] dX12_copyRow_33 rfl e_x5.symm (by decide) rfl ?_
    refine aw_goto (pc := 36) (tgt := 2) dX12_copyRow_36 (by decide) ?_
    refine aw_sub [1, 2, 3, 0] rfl ?_
    cases h
    exact hz
set_option maxRecDepth 100000 in
set_option maxHeartbeats 4000000 in
theorem t_Rf_copyRow {l : Launch} {G : aw_G} {E : aw_E} {σ : aw_S} {p1 : Int32} {p2 : Int32} {t : aw_S} (h : m_Rf_copyRow σ p1 p2 = some t) (hE : E = (none, xB, t)) : aw_W l M_Rf_copyRow G B_Rf_copyRow E 0 [(0, .ref 0), (1, .int p1), (2, .int p2)] [] xB σ 0 0 := by
  unfold m_Rf_copyRow at h
  refine aw_iconst (pc := 0) (v := 0) dX12_copyRow_0 (by decide) ?_
  refine aw_istore_n (pc := 1) [(3, .int ((0 : Int32))), (0, .ref 0), (1, .int p1), (2, .int p2)] dX12_copyRow_1 (by decide) rfl ?_
  obtain ⟨x6, hl7, h⟩ := aw_bde h
  have K8 : z_Rf_copyRow_Y2 l G E p1 p2 x6 := by
    show aw_W l M_Rf_copyRow G B_Rf_copyRow E 39 [] [] xB x6 0 0
    cases h
    subst hE
    exact aw_vret rfl ⟨Nat.zero_le _, Nat.zero_le _⟩ dX12_copyRow_39
  refine aw_sub [1, 2, 3, 0] rfl ?_
  show z_Rf_copyRow_X2 l G E p1 p2 (((0 : Int32), σ))
  exact aw_lp_X (Xp := z_Rf_copyRow_X2 l G E p1 p2) (Y := z_Rf_copyRow_Y2 l G E p1 p2) hl7 K8 (fun s t hf hz => t_Rf_copyRow_B2 hf hz)
theorem c_Rf_copyRow {l : Launch} {G : aw_G} {σ : aw_S} {p1 : Int32} {p2 : Int32} {t : aw_S} (h : m_Rf_copyRow σ p1 p2 = some t) : aw_Ct l yX12_copyRow M_Rf_copyRow G B_Rf_copyRow [.ref 0, .int p1, .int p2] xB σ (none, xB, t) := aw_Ct_of (by decide) rfl (fun h => by cases h) (Nat.le_of_ble_eq_true rfl) (t_Rf_copyRow h rfl)
/-! LateMoverModel.get(I)I -/
set_option maxRecDepth 100000 in
set_option maxHeartbeats 4000000 in
theorem t_Rf_get {l : Launch} {G : aw_G} {E : aw_E} {σ : aw_S} {p1 : Int32} {t : Int32} (h : m_Rf_get σ p1 = some t) (hE : E = (some (.int t), xB, σ)) : aw_W l M_Rf_get G B_Rf_get E 0 [(0, .ref 0), (1, .int p1)] [] xB σ 0 0 := by
  unfold m_Rf_get at h
  refine aw_aload_n (pc := 0) (q := 0) dX12_get_0 rfl ?_
  refine aw_getC (pc := 1) fd_X12_7.r xB_0 rfl dX12_get_1 ?_
  refine aw_iload_n (pc := 4) (q := 1) dX12_get_4 rfl ?_
  obtain ⟨g1, h⟩ := aw_gde h
  refine aw_iald (pc := 5) xB_1 g1 dX12_get_5 ?_
  cases h
  subst hE
  exact aw_iret (v := (σ.1 1 p1.toNatClampNeg)) rfl aw_ni ⟨Nat.zero_le _, Nat.zero_le _⟩ dX12_get_6
theorem c_Rf_get {l : Launch} {G : aw_G} {σ : aw_S} {p1 : Int32} {t : Int32} (h : m_Rf_get σ p1 = some t) : aw_Ct l yX12_get M_Rf_get G B_Rf_get [.ref 0, .int p1] xB σ (some (.int t), xB, σ) := aw_Ct_of (by decide) rfl (fun h => by cases h) (Nat.le_of_ble_eq_true rfl) (t_Rf_get h rfl)
/-! LateMoverModel.layCome()V -/
def z_Rf_layCome_X2 (l : Launch) (G : aw_G) (E : aw_E) (s : Int32 × aw_S) : Prop := aw_W l M_Rf_layCome G B_Rf_layCome E 2 [(0, .ref 0), (1, .int s.1)] [] xB s.2 0 0
def z_Rf_layCome_Y2 (l : Launch) (G : aw_G) (E : aw_E) (x : (aw_S)) : Prop := aw_W l M_Rf_layCome G B_Rf_layCome E 32 [(0, .ref 0)] [] xB x 0 0
def z_Rf_layCome_X34 (l : Launch) (G : aw_G) (E : aw_E) (s : Int32 × aw_S) : Prop := aw_W l M_Rf_layCome G B_Rf_layCome E 34 [(0, .ref 0), (1, .int s.1)] [] xB s.2 0 0
def z_Rf_layCome_Y34 (l : Launch) (G : aw_G) (E : aw_E) (x : (aw_S)) : Prop := aw_W l M_Rf_layCome G B_Rf_layCome E 126 [] [] xB x 0 0
def z_Rf_layCome_X42 (l : Launch) (G : aw_G) (E : aw_E) (s : Int32 × Int32 × aw_S) : Prop := aw_W l M_Rf_layCome G B_Rf_layCome E 42 [(0, .ref 0), (1, .int s.1), (2, .int s.2.1)] [] xB s.2.2 0 0
def z_Rf_layCome_Y42 (l : Launch) (G : aw_G) (E : aw_E) (x : (Int32 × aw_S)) : Prop := aw_W l M_Rf_layCome G B_Rf_layCome E 123 [(0, .ref 0), (1, .int x.1)] [] xB x.2 0 0
def z_Rf_layCome_X53 (l : Launch) (G : aw_G) (E : aw_E) (v2 : Int32) (s : Int32 × Int32 × aw_S) : Prop := aw_W l M_Rf_layCome G B_Rf_layCome E 53 [(0, .ref 0), (1, .int s.1), (2, .int v2), (3, .int s.2.1)] [] xB s.2.2 0 0
def z_Rf_layCome_Y53 (l : Launch) (G : aw_G) (E : aw_E) (v2 : Int32) (x : (Int32 × aw_S)) : Prop := aw_W l M_Rf_layCome G B_Rf_layCome E 117 [(0, .ref 0), (1, .int x.1), (2, .int v2)] [] xB x.2 0 0
set_option maxRecDepth 100000 in
set_option maxHeartbeats 4000000 in
theorem t_Rf_layCome_J25 {l : Launch} {G : aw_G} {E : aw_E} {σ : aw_S} {v1 : Int32} {k1 : Int32} {k2 : Int32} {t : (aw_S) ⊕ (Int32 × aw_S)} (h : m_Rf_layCome_J25 σ v1 k1 k2 = some t) (hz : Sum.elim (z_Rf_layCome_Y2 l G E) (z_Rf_layCome_X2 l G E) t) : aw_W l M_Rf_layCome G B_Rf_layCome E 25 [(0, .ref 0), (1, .int v1)] [.int k2, .int k1, .ref 9] xB σ 0 0 := by
  unfold m_Rf_layCome_J25 at h
  obtain ⟨g5, h⟩ := aw_gde h
  refine aw_zast (pc := 25) xB_9 g5 dX12_layCome_25 ?_
  refine aw_nmS (fun s6 e_s6 => ?_)
  replace h := aw_lte h s6 e_s6
  obtain ⟨x7, e_x7⟩ : ∃ z, z = (v1 + (1 : Int32)) := ⟨_, rfl⟩
  replace h := aw_lte h x7 e_x7
  refine aw_iinc (pc := 26) (q := 1) (v := x7) [(1, .int x7), (0, .ref 0)] dX12_layCome_26 rfl e_x7.symm (by decide) rfl ?_
  refine aw_goto (pc := 29) (tgt := 2) dX12_layCome_29 (by decide) ?_
  refine aw_sub [1, 0] rfl ?_
  cases h
  exact hz
set_option maxRecDepth 100000 in
set_option maxHeartbeats 4000000 in
theorem t_Rf_layCome_B2 {l : Launch} {G : aw_G} {E : aw_E} {σ : aw_S} {v1 : Int32} {t : (aw_S) ⊕ (Int32 × aw_S)} (h : m_Rf_layCome_B2 σ v1 = some t) (hz : Sum.elim (z_Rf_layCome_Y2 l G E) (z_Rf_layCome_X2 l G E) t) : aw_W l M_Rf_layCome G B_Rf_layCome E 2 [(0, .ref 0), (1, .int v1)] [] xB σ 0 0 := by
  unfold m_Rf_layCome_B2 at h
  refine aw_iload_n (pc := 2) (q := 1) dX12_layCome_2 rfl ?_
  refine aw_aload_n (pc := 3) (q := 0) dX12_layCome_3 rfl ?_
  refine aw_iconst (pc := 4) (v := 0) dX12_layCome_4 (by decide) ?_
  obtain ⟨r1, e2, h⟩ := aw_bde h
  refine aw_cV1 (pc := 5) [.int ((0 : Int32))] (c_Rf_get e2) yy_Rf_get.1 wm_736 yy_Rf_get.2.1 yy_Rf_get.2.2 xB_0 ⟨_, _, rfl⟩ rfl ⟨Nat.le_of_ble_eq_true rfl, Nat.le_of_ble_eq_true rfl⟩ ⟨Nat.zero_le _, Nat.zero_le _⟩ (Nat.le_of_ble_eq_true rfl) dX12_layCome_5 ?_
  refine aw_icmp_ge (pc := 8) (tgt := 32) dX12_layCome_8 (by decide) (fun c3 => ?_) (fun c3 => ?_)
  · replace h := aw_ifp c3 h
    refine aw_sub [0] rfl ?_
    cases h
    exact hz
  · replace h := aw_ifn c3 h
    refine aw_aload_n (pc := 11) (q := 0) dX12_layCome_11 rfl ?_
    refine aw_getC (pc := 12) fd_X12_39.r xB_0 rfl dX12_layCome_12 ?_
    refine aw_iload_n (pc := 15) (q := 1) dX12_layCome_15 rfl ?_
    refine aw_iload_n (pc := 16) (q := 1) dX12_layCome_16 rfl ?_
    refine aw_if_ne (pc := 17) (tgt := 24) dX12_layCome_17 (by decide) (fun c4 => ?_) (fun c4 => ?_)
    · replace h := aw_ifn c4 h
      refine aw_iconst (pc := 24) (v := 0) dX12_layCome_24 (by decide) ?_
      exact t_Rf_layCome_J25 h hz
    · replace h := aw_ifp c4 h
      refine aw_iconst (pc := 20) (v := 1) dX12_layCome_20 (by decide) ?_
      refine aw_goto (pc := 21) (tgt := 25) dX12_layCome_21 (by decide) ?_
      exact t_Rf_layCome_J25 h hz
set_option maxRecDepth 100000 in
set_option maxHeartbeats 4000000 in
theorem t_Rf_layCome_J111 {l : Launch} {G : aw_G} {E : aw_E} {σ : aw_S} {v1 : Int32} {v2 : Int32} {v3 : Int32} {t : (Int32 × aw_S) ⊕ (Int32 × Int32 × aw_S)} (h : m_Rf_layCome_J111 σ v1 v2 v3 = some t) (hz : Sum.elim (z_Rf_layCome_Y53 l G E v2) (z_Rf_layCome_X53 l G E v2) t) : aw_W l M_Rf_layCome G B_Rf_layCome E 111 [(0, .ref 0), (1, .int v1), (2, .int v2), (3, .int v3)] [] xB σ 0 0 := by
  unfold m_Rf_layCome_J111 at h
  obtain ⟨x20, e_x20⟩ : ∃ z, z = (v3 + (1 : Int32)) := ⟨_, rfl⟩
  replace h := aw_lte h x20 e_x20
  refine aw_iinc (pc := 111) (q := 3) (v := x20) [(3, .int x20), (0, .ref 0), (1, .int v1), (2, .int v2)] dX12_layCome_111 rfl e_x20.symm (by decide) rfl ?_
  refine aw_goto (pc := 114) (tgt := 53) dX12_layCome_114 (by decide) ?_
  refine aw_sub [1, 2, 3, 0] rfl ?_
  cases h
  exact hz
set_option maxRecDepth 100000 in
set_option maxHeartbeats 4000000 in
theorem t_Rf_layCome_B53 {l : Launch} {G : aw_G} {E : aw_E} {σ : aw_S} {v2 : Int32} {v1 : Int32} {v3 : Int32} {t : (Int32 × aw_S) ⊕ (Int32 × Int32 × aw_S)} (h : m_Rf_layCome_B53 σ v2 v1 v3 = some t) (hz : Sum.elim (z_Rf_layCome_Y53 l G E v2) (z_Rf_layCome_X53 l G E v2) t) : aw_W l M_Rf_layCome G B_Rf_layCome E 53 [(0, .ref 0), (1, .int v1), (2, .int v2), (3, .int v3)] [] xB σ 0 0 := by
  unfold m_Rf_layCome_B53 at h
  refine aw_iload_n (pc := 53) (q := 3) dX12_layCome_53 rfl ?_
  refine aw_iconst (pc := 54) (v := 2) dX12_layCome_54 (by decide) ?_
  refine aw_icmp_ge (pc := 55) (tgt := 117) dX12_layCome_55 (by decide) (fun c15 => ?_) (fun c15 => ?_)
  · replace h := aw_ifp c15 h
    refine aw_sub [0, 1, 2] rfl ?_
    cases h
    exact hz
  · replace h := aw_ifn c15 h
    refine aw_aload_n (pc := 58) (q := 0) dX12_layCome_58 rfl ?_
    refine aw_sipush (pc := 59) (v := 236) dX12_layCome_59 (by decide) ?_
    refine aw_iconst (pc := 62) (v := 2) dX12_layCome_62 (by decide) ?_
    refine aw_iload_n (pc := 63) (q := 2) dX12_layCome_63 rfl ?_
    refine aw_imul (pc := 64) dX12_layCome_64 ?_
    refine aw_iadd (pc := 65) dX12_layCome_65 ?_
    refine aw_iload_n (pc := 66) (q := 3) dX12_layCome_66 rfl ?_
    refine aw_iadd (pc := 67) dX12_layCome_67 ?_
    obtain ⟨r16, e17, h⟩ := aw_bde h
    refine aw_cV1 (pc := 68) [.int ((((236 : Int32) + ((2 : Int32) * v2)) + v3))] (c_Rf_get e17) yy_Rf_get.1 wm_736 yy_Rf_get.2.1 yy_Rf_get.2.2 xB_0 ⟨_, _, rfl⟩ rfl ⟨Nat.le_of_ble_eq_true rfl, Nat.le_of_ble_eq_true rfl⟩ ⟨Nat.zero_le _, Nat.zero_le _⟩ (Nat.le_of_ble_eq_true rfl) dX12_layCome_68 ?_
    refine aw_istore (pc := 71) [(4, .int r16), (0, .ref 0), (1, .int v1), (2, .int v2), (3, .int v3)] dX12_layCome_71 (by decide) rfl ?_
    refine aw_aload_n (pc := 73) (q := 1) dX12_layCome_73 rfl ?_
    refine aw_getC (pc := 74) fd_X12_39.r xB_0 rfl dX12_layCome_74 ?_
    refine aw_iload_n (pc := 77) (q := 3) dX12_layCome_77 rfl ?_
    obtain ⟨g18, h⟩ := aw_gde h
    refine aw_zald (pc := 78) xB_9 g18 dX12_layCome_78 ?_
    refine aw_if_eq (pc := 79) (tgt := 111) dX12_layCome_79 (by decide) (fun c19 => ?_) (fun c19 => ?_)
    · replace h := aw_ifp c19 h
      refine aw_sub [1, 2, 3, 4] rfl ?_
      exact t_Rf_layCome_J111 h hz
    · replace h := aw_ifn c19 h
      refine aw_iload (pc := 82) (q := 0) dX12_layCome_82 rfl ?_
      refine aw_iconst (pc := 84) (v := -1) dX12_layCome_84 (by decide) ?_
      refine aw_icmp_eq (pc := 85) (tgt := 111) dX12_layCome_85 (by decide) (fun c21 => ?_) (fun c21 => ?_)
      · replace h := aw_ifp c21 h
        refine aw_sub [1, 2, 3, 4] rfl ?_
        exact t_Rf_layCome_J111 h hz
      · replace h := aw_ifn c21 h
        refine aw_aload_n (pc := 88) (q := 1) dX12_layCome_88 rfl ?_
        refine aw_getC (pc := 89) fd_X12_39.r xB_0 rfl dX12_layCome_89 ?_
        refine aw_iload (pc := 92) (q := 0) dX12_layCome_92 rfl ?_
        obtain ⟨g22, h⟩ := aw_gde h
        refine aw_zald (pc := 94) xB_9 g22 dX12_layCome_94 ?_
        refine aw_if_eq (pc := 95) (tgt := 101) dX12_layCome_95 (by decide) (fun c23 => ?_) (fun c23 => ?_)
        · replace h := aw_ifp c23 h
          refine aw_aload_n (pc := 101) (q := 1) dX12_layCome_101 rfl ?_
          refine aw_getC (pc := 102) fd_X12_39.r xB_0 rfl dX12_layCome_102 ?_
          refine aw_iload (pc := 105) (q := 0) dX12_layCome_105 rfl ?_
          refine aw_iconst (pc := 107) (v := 1) dX12_layCome_107 (by decide) ?_
          obtain ⟨g24, h⟩ := aw_gde h
          refine aw_zast (pc := 108) xB_9 g24 dX12_layCome_108 ?_
          refine aw_nmS (fun s25 e_s25 => ?_)
          replace h := aw_lte h s25 e_s25
          refine aw_iconst (pc := 109) (v := 1) dX12_layCome_109 (by decide) ?_
          refine aw_istore_n (pc := 110) [(1, .int ((1 : Int32))), (4, .int r16), (0, .ref 0), (2, .int v2), (3, .int v3)] dX12_layCome_110 (by decide) rfl ?_
          refine aw_sub [2, 0, 3, 4] rfl ?_
          exact t_Rf_layCome_J111 h hz
        · replace h := aw_ifn c23 h
          refine aw_goto (pc := 98) (tgt := 111) dX12_layCome_98 (by decide) ?_
          refine aw_sub [1, 2, 3, 4] rfl ?_
          exact t_Rf_layCome_J111 h hz
set_option maxRecDepth 100000 in
set_option maxHeartbeats 4000000 in
theorem t_Rf_layCome_B42 {l : Launch} {G : aw_G} {E : aw_E} {σ : aw_S} {v1 : Int32} {v2 : Int32} {t : (Int32 × aw_S) ⊕ (Int32 × Int32 × aw_S)} (h : m_Rf_layCome_B42 σ v1 v2 = some t) (hz : Sum.elim (z_Rf_layCome_Y42 l G E) (z_Rf_layCome_X42 l G E) t) : aw_W l M_Rf_layCome G B_Rf_layCome E 42 [(0, .ref 0), (1, .int v1), (2, .int v2)] [] xB σ 0 0 := by
  unfold m_Rf_layCome_B42 at h
  refine aw_iload_n (pc := 42) (q := 2) dX12_layCome_42 rfl ?_
  refine aw_aload_n (pc := 43) (q := 0) dX12_layCome_43 rfl ?_
  refine aw_iconst (pc := 44) (v := 0) dX12_layCome_44 (by decide) ?_
  obtain ⟨r12, e13, h⟩ := aw_bde h
  refine aw_cV1 (pc := 45) [.int ((0 : Int32))] (c_Rf_get e13) yy_Rf_get.1 wm_736 yy_Rf_get.2.1 yy_Rf_get.2.2 xB_0 ⟨_, _, rfl⟩ rfl ⟨Nat.le_of_ble_eq_true rfl, Nat.le_of_ble_eq_true rfl⟩ ⟨Nat.zero_le _, Nat.zero_le _⟩ (Nat.le_of_ble_eq_true rfl) dX12_layCome_45 ?_
  refine aw_icmp_ge (pc := 48) (tgt := 123) dX12_layCome_48 (by decide) (fun c14 => ?_) (fun c14 => ?_)
  · replace h := aw_ifp c14 h
    refine aw_sub [0, 1] rfl ?_
    cases h
    exact hz
  · replace h := aw_ifn c14 h
    refine aw_iconst (pc := 51) (v := 0) dX12_layCome_51 (by decide) ?_
    refine aw_istore_n (pc := 52) [(3, .int ((0 : Int32))), (0, .ref 0), (1, .int v1), (2, .int v2)] dX12_layCome_52 (by decide) rfl ?_
    obtain ⟨x26, hl27, h⟩ := aw_bde h
    have K28 : z_Rf_layCome_Y53 l G E v2 x26 := by
      show aw_W l M_Rf_layCome G B_Rf_layCome E 117 [(0, .ref 0), (1, .int x26.1), (2, .int v2)] [] xB x26.2 0 0
      obtain ⟨x29, e_x29⟩ : ∃ z, z = (v2 + (1 : Int32)) := ⟨_, rfl⟩
      replace h := aw_lte h x29 e_x29
      refine aw_iinc (pc := 117) (q := 2) (v := x29) [(2, .int x29), (0, .ref 0), (1, .int x26.1)] dX12_layCome_117 rfl e_x29.symm (by decide) rfl ?_
      refine aw_goto (pc := 120) (tgt := 42) dX12_layCome_120 (by decide) ?_
      refine aw_sub [1, 2, 0] rfl ?_
      cases h
      exact hz
    refine aw_sub [1, 2, 3, 0] rfl ?_
    show z_Rf_layCome_X53 l G E v2 ((v1, (0 : Int32), σ))
    exact aw_lp_X (Xp := z_Rf_layCome_X53 l G E v2) (Y := z_Rf_layCome_Y53 l G E v2) hl27 K28 (fun s t hf hz => t_Rf_layCome_B53 hf hz)
set_option maxRecDepth 100000 in
set_option maxHeartbeats 4000000 in
theorem t_Rf_layCome_B34 {l : Launch} {G : aw_G} {E : aw_E} {σ : aw_S} {v1 : Int32} {t : (aw_S) ⊕ (Int32 × aw_S)} (h : m_Rf_layCome_B34 σ v1 = some t) (hz : Sum.elim (z_Rf_layCome_Y34 l G E) (z_Rf_layCome_X34 l G E) t) : aw_W l M_Rf_layCome G B_Rf_layCome E 34 [(0, .ref 0), (1, .int v1)] [] xB σ 0 0 := by
  unfold m_Rf_layCome_B34 at h
  refine aw_iload_n (pc := 34) (q := 1) dX12_layCome_34 rfl ?_
  refine aw_if_eq (pc := 35) (tgt := 126) dX12_layCome_35 (by decide) (fun c11 => ?_) (fun c11 => ?_)
  · replace h := aw_ifp c11 h
    refine aw_sub [] rfl ?_
    cases h
    exact hz
  · replace h := aw_ifn c11 h
    refine aw_iconst (pc := 38) (v := 0) dX12_layCome_38 (by decide) ?_
    refine aw_istore_n (pc := 39) [(1, .int ((0 : Int32))), (0, .ref 0)] dX12_layCome_39 (by decide) rfl ?_
    refine aw_iconst (pc := 40) (v := 0) dX12_layCome_40 (by decide) ?_
    refine aw_istore_n (pc := 41) [(2, .int ((0 : Int32))), (1, .int ((0 : Int32))), (0, .ref 0)] dX12_layCome_41 (by decide) rfl ?_
    obtain ⟨x30, hl31, h⟩ := aw_bde h
    have K32 : z_Rf_layCome_Y42 l G E x30 := by
      show aw_W l M_Rf_layCome G B_Rf_layCome E 123 [(0, .ref 0), (1, .int x30.1)] [] xB x30.2 0 0
      refine aw_goto (pc := 123) (tgt := 34) dX12_layCome_123 (by decide) ?_
      refine aw_sub [0, 1] rfl ?_
      cases h
      exact hz
    refine aw_sub [2, 1, 0] rfl ?_
    show z_Rf_layCome_X42 l G E (((0 : Int32), (0 : Int32), σ))
    exact aw_lp_X (Xp := z_Rf_layCome_X42 l G E) (Y := z_Rf_layCome_Y42 l G E) hl31 K32 (fun s t hf hz => t_Rf_layCome_B42 hf hz)
set_option maxRecDepth 100000 in
set_option maxHeartbeats 4000000 in
theorem t_Rf_layCome {l : Launch} {G : aw_G} {E : aw_E} {σ : aw_S} {t : aw_S} (h : m_Rf_layCome σ = some t) (hE : E = (none, xB, t)) : aw_W l M_Rf_layCome G B_Rf_layCome E 0 [(0, .ref 0)] [] xB σ 0 0 := by
  unfold m_Rf_layCome at h
  refine aw_iconst (pc := 0) (v := 0) dX12_layCome_0 (by decide) ?_
  refine aw_istore_n (pc := 1) [(1, .int ((0 : Int32))), (0, .ref 0)] dX12_layCome_1 (by decide) rfl ?_
  obtain ⟨x8, hl9, h⟩ := aw_bde h
  have K10 : z_Rf_layCome_Y2 l G E x8 := by
    show aw_W l M_Rf_layCome G B_Rf_layCome E 32 [(0, .ref 0)] [] xB x8 0 0
    refine aw_iconst (pc := 32) (v := 1) dX12_layCome_32 (by decide) ?_
    refine aw_istore_n (pc := 33) [(1, .int ((1 : Int32))), (0, .ref 0)] dX12_layCome_33 (by decide) rfl ?_
    obtain ⟨x33, hl34, h⟩ := aw_bde h
    have K35 : z_Rf_layCome_Y34 l G E x33 := by
      show aw_W l M_Rf_layCome G B_Rf_layCome E 126 [] [] xB x33 0 0
      cases h
      subst hE
      exact aw_vret rfl ⟨Nat.zero_le _, Nat.zero_le _⟩ dX12_layCome_126
    refine aw_sub [1, 0] rfl ?_
    show z_Rf_layCome_X34 l G E (((1 : Int32), x8))
    exact aw_lp_X (Xp := z_Rf_layCome_X34 l G E) (Y := z_Rf_layCome_Y34 l G E) hl34 K35 (fun s t hf hz => t_Rf_layCome_B34 hf hz)
  refine aw_sub [1, 0] rfl ?_
  show z_Rf_layCome_X2 l G E (((0 : Int32), σ))
  exact aw_lp_X (Xp := z_Rf_layCome_X2 l G E) (Y := z_Rf_layCome_Y2 l G E) hl9 K10 (fun s t hf hz => t_Rf_layCome_B2 hf hz)
theorem c_Rf_layCome {l : Launch} {G : aw_G} {σ : aw_S} {t : aw_S} (h : m_Rf_layCome σ = some t) : aw_Ct l yX12_layCome M_Rf_layCome G B_Rf_layCome [.ref 0] xB σ (none, xB, t) := aw_Ct_of (by decide) rfl (fun h => by cases h) (Nat.le_of_ble_eq_true rfl) (t_Rf_layCome h rfl)
/-! LateMoverModel.layNode(III)V -/
set_option maxRecDepth 100000 in
set_option maxHeartbeats 4000000 in
theorem t_Rf_layNode {l : Launch} {G : aw_G} {E : aw_E} {σ : aw_S} {p1 : Int32} {p2 : Int32} {p3 : Int32} {t : aw_S} (h : m_Rf_layNode σ p1 p2 p3 = some t) (hE : E = (none, xB, t)) : aw_W l M_Rf_layNode G B_Rf_layNode E 0 [(0, .ref 0), (1, .int p1), (2, .int p2), (3, .int p3)] [] xB σ 0 0 := by
  unfold m_Rf_layNode at h
  refine aw_aload_n (pc := 0) (q := 0) dX12_layNode_0 rfl ?_
  refine aw_getC (pc := 1) fd_X12_24.r xB_0 rfl dX12_layNode_1 ?_
  refine aw_aload_n (pc := 4) (q := 0) dX12_layNode_4 rfl ?_
  refine aw_getI (pc := 5) fd_X12_215.r xB_0 rfl dX12_layNode_5 ?_
  refine aw_iload_n (pc := 8) (q := 1) dX12_layNode_8 rfl ?_
  obtain ⟨g1, h⟩ := aw_gde h
  refine aw_iast (pc := 9) xB_4 g1 dX12_layNode_9 ?_
  refine aw_nmS (fun s2 e_s2 => ?_)
  replace h := aw_lte h s2 e_s2
  refine aw_aload_n (pc := 10) (q := 0) dX12_layNode_10 rfl ?_
  refine aw_getC (pc := 11) fd_X12_27.r xB_0 rfl dX12_layNode_11 ?_
  refine aw_aload_n (pc := 14) (q := 0) dX12_layNode_14 rfl ?_
  refine aw_getI (pc := 15) fd_X12_215.r xB_0 rfl dX12_layNode_15 ?_
  refine aw_iload_n (pc := 18) (q := 2) dX12_layNode_18 rfl ?_
  obtain ⟨g3, h⟩ := aw_gde h
  refine aw_iast (pc := 19) xB_5 g3 dX12_layNode_19 ?_
  refine aw_nmS (fun s4 e_s4 => ?_)
  replace h := aw_lte h s4 e_s4
  refine aw_aload_n (pc := 20) (q := 0) dX12_layNode_20 rfl ?_
  refine aw_getC (pc := 21) fd_X12_30.r xB_0 rfl dX12_layNode_21 ?_
  refine aw_aload_n (pc := 24) (q := 0) dX12_layNode_24 rfl ?_
  refine aw_getI (pc := 25) fd_X12_215.r xB_0 rfl dX12_layNode_25 ?_
  refine aw_iload_n (pc := 28) (q := 3) dX12_layNode_28 rfl ?_
  obtain ⟨g5, h⟩ := aw_gde h
  refine aw_iast (pc := 29) xB_6 g5 dX12_layNode_29 ?_
  refine aw_nmS (fun s6 e_s6 => ?_)
  replace h := aw_lte h s6 e_s6
  refine aw_aload_n (pc := 30) (q := 0) dX12_layNode_30 rfl ?_
  refine aw_getC (pc := 31) fd_X12_33.r xB_0 rfl dX12_layNode_31 ?_
  refine aw_iconst (pc := 34) (v := 2) dX12_layNode_34 (by decide) ?_
  refine aw_aload_n (pc := 35) (q := 0) dX12_layNode_35 rfl ?_
  refine aw_getI (pc := 36) fd_X12_215.r xB_0 rfl dX12_layNode_36 ?_
  refine aw_imul (pc := 39) dX12_layNode_39 ?_
  refine aw_iconst (pc := 40) (v := -1) dX12_layNode_40 (by decide) ?_
  obtain ⟨g7, h⟩ := aw_gde h
  refine aw_iast (pc := 41) xB_7 g7 dX12_layNode_41 ?_
  refine aw_nmS (fun s8 e_s8 => ?_)
  replace h := aw_lte h s8 e_s8
  refine aw_aload_n (pc := 42) (q := 0) dX12_layNode_42 rfl ?_
  refine aw_getC (pc := 43) fd_X12_33.r xB_0 rfl dX12_layNode_43 ?_
  refine aw_iconst (pc := 46) (v := 2) dX12_layNode_46 (by decide) ?_
  refine aw_aload_n (pc := 47) (q := 0) dX12_layNode_47 rfl ?_
  refine aw_getI (pc := 48) fd_X12_215.r xB_0 rfl dX12_layNode_48 ?_
  refine aw_imul (pc := 51) dX12_layNode_51 ?_
  refine aw_iconst (pc := 52) (v := 1) dX12_layNode_52 (by decide) ?_
  refine aw_iadd (pc := 53) dX12_layNode_53 ?_
  refine aw_iconst (pc := 54) (v := -1) dX12_layNode_54 (by decide) ?_
  obtain ⟨g9, h⟩ := aw_gde h
  refine aw_iast (pc := 55) xB_7 g9 dX12_layNode_55 ?_
  refine aw_nmS (fun s10 e_s10 => ?_)
  replace h := aw_lte h s10 e_s10
  refine aw_aload_n (pc := 56) (q := 0) dX12_layNode_56 rfl ?_
  refine aw_dup (pc := 57) dX12_layNode_57 rfl ?_
  refine aw_getI (pc := 58) fd_X12_215.r xB_0 rfl dX12_layNode_58 ?_
  refine aw_iconst (pc := 61) (v := 1) dX12_layNode_61 (by decide) ?_
  refine aw_iadd (pc := 62) dX12_layNode_62 ?_
  refine aw_putI (pc := 63) fd_X12_215 xB_0 rfl (fun _ => rfl) (fun _ => rfl) dX12_layNode_63 ?_
  refine aw_nmS (fun s11 e_s11 => ?_)
  replace h := aw_lte h s11 e_s11
  cases h
  subst hE
  exact aw_vret rfl ⟨Nat.zero_le _, Nat.zero_le _⟩ dX12_layNode_66
theorem c_Rf_layNode {l : Launch} {G : aw_G} {σ : aw_S} {p1 : Int32} {p2 : Int32} {p3 : Int32} {t : aw_S} (h : m_Rf_layNode σ p1 p2 p3 = some t) : aw_Ct l yX12_layNode M_Rf_layNode G B_Rf_layNode [.ref 0, .int p1, .int p2, .int p3] xB σ (none, xB, t) := aw_Ct_of (by decide) rfl (fun h => by cases h) (Nat.le_of_ble_eq_true rfl) (t_Rf_layNode h rfl)
/-! LateMoverModel.layEnd(II)V -/
set_option maxRecDepth 100000 in
set_option maxHeartbeats 4000000 in
theorem t_Rf_layEnd {l : Launch} {G : aw_G} {E : aw_E} {σ : aw_S} {p1 : Int32} {p2 : Int32} {t : aw_S} (h : m_Rf_layEnd σ p1 p2 = some t) (hE : E = (none, xB, t)) : aw_W l M_Rf_layEnd G B_Rf_layEnd E 0 [(0, .ref 0), (1, .int p1), (2, .int p2)] [] xB σ 0 0 := by
  unfold m_Rf_layEnd at h
  refine aw_aload_n (pc := 0) (q := 0) dX12_layEnd_0 rfl ?_
  refine aw_sipush (pc := 1) (v := 204) dX12_layEnd_1 (by decide) ?_
  refine aw_iload_n (pc := 4) (q := 2) dX12_layEnd_4 rfl ?_
  refine aw_iadd (pc := 5) dX12_layEnd_5 ?_
  obtain ⟨r1, e2, h⟩ := aw_bde h
  refine aw_cV1 (pc := 6) [.int (((204 : Int32) + p2))] (c_Rf_get e2) yy_Rf_get.1 wm_736 yy_Rf_get.2.1 yy_Rf_get.2.2 xB_0 ⟨_, _, rfl⟩ rfl ⟨Nat.le_of_ble_eq_true rfl, Nat.le_of_ble_eq_true rfl⟩ ⟨Nat.zero_le _, Nat.zero_le _⟩ (Nat.le_of_ble_eq_true rfl) dX12_layEnd_6 ?_
  refine aw_bipush (pc := 9) (v := 6) dX12_layEnd_9 (by decide) ?_
  refine aw_icmp_ne (pc := 11) (tgt := 15) dX12_layEnd_11 (by decide) (fun c3 => ?_) (fun c3 => ?_)
  · replace h := aw_ifn c3 h
    refine aw_aload_n (pc := 15) (q := 0) dX12_layEnd_15 rfl ?_
    refine aw_getC (pc := 16) fd_X12_33.r xB_0 rfl dX12_layEnd_16 ?_
    refine aw_iconst (pc := 19) (v := 2) dX12_layEnd_19 (by decide) ?_
    refine aw_iload_n (pc := 20) (q := 1) dX12_layEnd_20 rfl ?_
    refine aw_imul (pc := 21) dX12_layEnd_21 ?_
    refine aw_aload_n (pc := 22) (q := 0) dX12_layEnd_22 rfl ?_
    refine aw_getC (pc := 23) fd_X12_43.r xB_0 rfl dX12_layEnd_23 ?_
    refine aw_aload_n (pc := 26) (q := 0) dX12_layEnd_26 rfl ?_
    refine aw_sipush (pc := 27) (v := 236) dX12_layEnd_27 (by decide) ?_
    refine aw_iconst (pc := 30) (v := 2) dX12_layEnd_30 (by decide) ?_
    refine aw_iload_n (pc := 31) (q := 2) dX12_layEnd_31 rfl ?_
    refine aw_imul (pc := 32) dX12_layEnd_32 ?_
    refine aw_iadd (pc := 33) dX12_layEnd_33 ?_
    obtain ⟨r4, e5, h⟩ := aw_bde h
    refine aw_cV1 (pc := 34) [.int (((236 : Int32) + ((2 : Int32) * p2)))] (c_Rf_get e5) yy_Rf_get.1 wm_736 yy_Rf_get.2.1 yy_Rf_get.2.2 xB_0 ⟨_, _, rfl⟩ rfl ⟨Nat.le_of_ble_eq_true rfl, Nat.le_of_ble_eq_true rfl⟩ ⟨Nat.zero_le _, Nat.zero_le _⟩ (Nat.le_of_ble_eq_true rfl) dX12_layEnd_34 ?_
    obtain ⟨g6, h⟩ := aw_gde h
    refine aw_iald (pc := 37) xB_10 g6 dX12_layEnd_37 ?_
    obtain ⟨g7, h⟩ := aw_gde h
    refine aw_iast (pc := 38) xB_7 g7 dX12_layEnd_38 ?_
    refine aw_nmS (fun s8 e_s8 => ?_)
    replace h := aw_lte h s8 e_s8
    refine aw_aload_n (pc := 39) (q := 0) dX12_layEnd_39 rfl ?_
    refine aw_sipush (pc := 40) (v := 236) dX12_layEnd_40 (by decide) ?_
    refine aw_iconst (pc := 43) (v := 2) dX12_layEnd_43 (by decide) ?_
    refine aw_iload_n (pc := 44) (q := 2) dX12_layEnd_44 rfl ?_
    refine aw_imul (pc := 45) dX12_layEnd_45 ?_
    refine aw_iadd (pc := 46) dX12_layEnd_46 ?_
    refine aw_iconst (pc := 47) (v := 1) dX12_layEnd_47 (by decide) ?_
    refine aw_iadd (pc := 48) dX12_layEnd_48 ?_
    obtain ⟨r9, e10, h⟩ := aw_bde h
    refine aw_cV1 (pc := 49) [.int ((((236 : Int32) + ((2 : Int32) * p2)) + (1 : Int32)))] (c_Rf_get e10) yy_Rf_get.1 wm_736 yy_Rf_get.2.1 yy_Rf_get.2.2 xB_0 ⟨_, _, rfl⟩ rfl ⟨Nat.le_of_ble_eq_true rfl, Nat.le_of_ble_eq_true rfl⟩ ⟨Nat.zero_le _, Nat.zero_le _⟩ (Nat.le_of_ble_eq_true rfl) dX12_layEnd_49 ?_
    refine aw_istore_n (pc := 52) [(3, .int r9), (0, .ref 0), (1, .int p1), (2, .int p2)] dX12_layEnd_52 (by decide) rfl ?_
    refine aw_iload_n (pc := 53) (q := 0) dX12_layEnd_53 rfl ?_
    refine aw_iconst (pc := 54) (v := -1) dX12_layEnd_54 (by decide) ?_
    refine aw_icmp_eq (pc := 55) (tgt := 89) dX12_layEnd_55 (by decide) (fun c11 => ?_) (fun c11 => ?_)
    · replace h := aw_ifp c11 h
      cases h
      subst hE
      exact aw_vret rfl ⟨Nat.zero_le _, Nat.zero_le _⟩ dX12_layEnd_89
    · replace h := aw_ifn c11 h
      refine aw_iload_n (pc := 58) (q := 0) dX12_layEnd_58 rfl ?_
      refine aw_aload_n (pc := 59) (q := 1) dX12_layEnd_59 rfl ?_
      refine aw_sipush (pc := 60) (v := 236) dX12_layEnd_60 (by decide) ?_
      refine aw_iconst (pc := 63) (v := 2) dX12_layEnd_63 (by decide) ?_
      refine aw_iload_n (pc := 64) (q := 3) dX12_layEnd_64 rfl ?_
      refine aw_imul (pc := 65) dX12_layEnd_65 ?_
      refine aw_iadd (pc := 66) dX12_layEnd_66 ?_
      obtain ⟨r12, e13, h⟩ := aw_bde h
      refine aw_cV1 (pc := 67) [.int (((236 : Int32) + ((2 : Int32) * p2)))] (c_Rf_get e13) yy_Rf_get.1 wm_736 yy_Rf_get.2.1 yy_Rf_get.2.2 xB_0 ⟨_, _, rfl⟩ rfl ⟨Nat.le_of_ble_eq_true rfl, Nat.le_of_ble_eq_true rfl⟩ ⟨Nat.zero_le _, Nat.zero_le _⟩ (Nat.le_of_ble_eq_true rfl) dX12_layEnd_67 ?_
      refine aw_icmp_eq (pc := 70) (tgt := 89) dX12_layEnd_70 (by decide) (fun c14 => ?_) (fun c14 => ?_)
      · replace h := aw_ifp c14 h
        cases h
        subst hE
        exact aw_vret rfl ⟨Nat.zero_le _, Nat.zero_le _⟩ dX12_layEnd_89
      · replace h := aw_ifn c14 h
        refine aw_aload_n (pc := 73) (q := 1) dX12_layEnd_73 rfl ?_
        refine aw_getC (pc := 74) fd_X12_33.r xB_0 rfl dX12_layEnd_74 ?_
        refine aw_iconst (pc := 77) (v := 2) dX12_layEnd_77 (by decide) ?_
        refine aw_iload_n (pc := 78) (q := 2) dX12_layEnd_78 rfl ?_
        refine aw_imul (pc := 79) dX12_layEnd_79 ?_
        refine aw_iconst (pc := 80) (v := 1) dX12_layEnd_80 (by decide) ?_
        refine aw_iadd (pc := 81) dX12_layEnd_81 ?_
        refine aw_aload_n (pc := 82) (q := 1) dX12_layEnd_82 rfl ?_
        refine aw_getC (pc := 83) fd_X12_43.r xB_0 rfl dX12_layEnd_83 ?_
        refine aw_iload_n (pc := 86) (q := 0) dX12_layEnd_86 rfl ?_
        obtain ⟨g15, h⟩ := aw_gde h
        refine aw_iald (pc := 87) xB_10 g15 dX12_layEnd_87 ?_
        obtain ⟨g16, h⟩ := aw_gde h
        refine aw_iast (pc := 88) xB_7 g16 dX12_layEnd_88 ?_
        refine aw_nmS (fun s17 e_s17 => ?_)
        replace h := aw_lte h s17 e_s17
        cases h
        subst hE
        exact aw_vret rfl ⟨Nat.zero_le _, Nat.zero_le _⟩ dX12_layEnd_89
  · replace h := aw_ifp c3 h
    cases h
    subst hE
    exact aw_vret rfl ⟨Nat.zero_le _, Nat.zero_le _⟩ dX12_layEnd_14
theorem c_Rf_layEnd {l : Launch} {G : aw_G} {σ : aw_S} {p1 : Int32} {p2 : Int32} {t : aw_S} (h : m_Rf_layEnd σ p1 p2 = some t) : aw_Ct l yX12_layEnd M_Rf_layEnd G B_Rf_layEnd [.ref 0, .int p1, .int p2] xB σ (none, xB, t) := aw_Ct_of (by decide) rfl (fun h => by cases h) (Nat.le_of_ble_eq_true rfl) (t_Rf_layEnd h rfl)
/-! LateMoverModel.layNodes()V -/
def z_Rf_layNodes_X14 (l : Launch) (G : aw_G) (E : aw_E) (s : Int32 × aw_S) : Prop := aw_W l M_Rf_layNodes G B_Rf_layNodes E 14 [(0, .ref 0), (1, .int s.1)] [] xB s.2 0 0
def z_Rf_layNodes_Y14 (l : Launch) (G : aw_G) (E : aw_E) (x : (aw_S)) : Prop := aw_W l M_Rf_layNodes G B_Rf_layNodes E 110 [(0, .ref 0)] [] xB x 0 0
def z_Rf_layNodes_X55 (l : Launch) (G : aw_G) (E : aw_E) (v1 : Int32) (s : Int32 × aw_S) : Prop := aw_W l M_Rf_layNodes G B_Rf_layNodes E 55 [(0, .ref 0), (1, .int v1), (2, .int s.1)] [] xB s.2 0 0
def z_Rf_layNodes_Y55 (l : Launch) (G : aw_G) (E : aw_E) (v1 : Int32) (x : (aw_S)) : Prop := aw_W l M_Rf_layNodes G B_Rf_layNodes E 89 [(0, .ref 0), (1, .int v1)] [] xB x 0 0
def z_Rf_layNodes_X124 (l : Launch) (G : aw_G) (E : aw_E) (s : Int32 × aw_S) : Prop := aw_W l M_Rf_layNodes G B_Rf_layNodes E 124 [(0, .ref 0), (1, .int s.1)] [] xB s.2 0 0
def z_Rf_layNodes_Y124 (l : Launch) (G : aw_G) (E : aw_E) (x : (aw_S)) : Prop := aw_W l M_Rf_layNodes G B_Rf_layNodes E 173 [] [] xB x 0 0
set_option maxRecDepth 100000 in
set_option maxHeartbeats 4000000 in
theorem t_Rf_layNodes_B55 {l : Launch} {G : aw_G} {E : aw_E} {σ : aw_S} {v1 : Int32} {v2 : Int32} {t : (aw_S) ⊕ (Int32 × aw_S)} (h : m_Rf_layNodes_B55 σ v1 v2 = some t) (hz : Sum.elim (z_Rf_layNodes_Y55 l G E v1) (z_Rf_layNodes_X55 l G E v1) t) : aw_W l M_Rf_layNodes G B_Rf_layNodes E 55 [(0, .ref 0), (1, .int v1), (2, .int v2)] [] xB σ 0 0 := by
  unfold m_Rf_layNodes_B55 at h
  refine aw_iload_n (pc := 55) (q := 2) dX12_layNodes_55 rfl ?_
  refine aw_aload_n (pc := 56) (q := 0) dX12_layNodes_56 rfl ?_
  refine aw_sipush (pc := 57) (v := 184) dX12_layNodes_57 (by decide) ?_
  refine aw_iload_n (pc := 60) (q := 1) dX12_layNodes_60 rfl ?_
  refine aw_iadd (pc := 61) dX12_layNodes_61 ?_
  refine aw_iconst (pc := 62) (v := 1) dX12_layNodes_62 (by decide) ?_
  refine aw_iadd (pc := 63) dX12_layNodes_63 ?_
  obtain ⟨r14, e15, h⟩ := aw_bde h
  refine aw_cV1 (pc := 64) [.int ((((184 : Int32) + v1) + (1 : Int32)))] (c_Rf_get e15) yy_Rf_get.1 wm_736 yy_Rf_get.2.1 yy_Rf_get.2.2 xB_0 ⟨_, _, rfl⟩ rfl ⟨Nat.le_of_ble_eq_true rfl, Nat.le_of_ble_eq_true rfl⟩ ⟨Nat.zero_le _, Nat.zero_le _⟩ (Nat.le_of_ble_eq_true rfl) dX12_layNodes_64 ?_
  refine aw_icmp_ge (pc := 67) (tgt := 89) dX12_layNodes_67 (by decide) (fun c16 => ?_) (fun c16 => ?_)
  · replace h := aw_ifp c16 h
    refine aw_sub [0, 1] rfl ?_
    cases h
    exact hz
  · replace h := aw_ifn c16 h
    refine aw_aload_n (pc := 70) (q := 0) dX12_layNodes_70 rfl ?_
    refine aw_aload_n (pc := 71) (q := 0) dX12_layNodes_71 rfl ?_
    refine aw_iconst (pc := 72) (v := 4) dX12_layNodes_72 (by decide) ?_
    refine aw_iload_n (pc := 73) (q := 2) dX12_layNodes_73 rfl ?_
    refine aw_iadd (pc := 74) dX12_layNodes_74 ?_
    obtain ⟨r17, e18, h⟩ := aw_bde h
    refine aw_cV1 (pc := 75) [.int (((4 : Int32) + v2))] (c_Rf_get e18) yy_Rf_get.1 wm_736 yy_Rf_get.2.1 yy_Rf_get.2.2 xB_0 ⟨_, _, rfl⟩ rfl ⟨Nat.le_of_ble_eq_true rfl, Nat.le_of_ble_eq_true rfl⟩ ⟨Nat.zero_le _, Nat.zero_le _⟩ (Nat.le_of_ble_eq_true rfl) dX12_layNodes_75 ?_
    refine aw_iload_n (pc := 78) (q := 1) dX12_layNodes_78 rfl ?_
    refine aw_iload_n (pc := 79) (q := 2) dX12_layNodes_79 rfl ?_
    obtain ⟨s21, e20, h⟩ := aw_bde h
    refine aw_cV0 (pc := 80) [.int r17, .int v1, .int v2] (c_Rf_layNode e20) yy_Rf_layNode.1 wm_744 yy_Rf_layNode.2.1 yy_Rf_layNode.2.2 xB_0 ⟨_, _, rfl⟩ rfl ⟨Nat.le_of_ble_eq_true rfl, Nat.le_of_ble_eq_true rfl⟩ ⟨Nat.zero_le _, Nat.zero_le _⟩ (Nat.le_of_ble_eq_true rfl) dX12_layNodes_80 ?_
    obtain ⟨x22, e_x22⟩ : ∃ z, z = (v2 + (1 : Int32)) := ⟨_, rfl⟩
    replace h := aw_lte h x22 e_x22
    refine aw_iinc (pc := 83) (q := 2) (v := x22) [(2, .int x22), (0, .ref 0), (1, .int v1)] dX12_layNodes_83 rfl e_x22.symm (by decide) rfl ?_
    refine aw_goto (pc := 86) (tgt := 55) dX12_layNodes_86 (by decide) ?_
    refine aw_sub [1, 2, 0] rfl ?_
    cases h
    exact hz
set_option maxRecDepth 100000 in
set_option maxHeartbeats 4000000 in
theorem t_Rf_layNodes_J104 {l : Launch} {G : aw_G} {E : aw_E} {σ : aw_S} {v1 : Int32} {t : (aw_S) ⊕ (Int32 × aw_S)} (h : m_Rf_layNodes_J104 σ v1 = some t) (hz : Sum.elim (z_Rf_layNodes_Y14 l G E) (z_Rf_layNodes_X14 l G E) t) : aw_W l M_Rf_layNodes G B_Rf_layNodes E 104 [(0, .ref 0), (1, .int v1)] [] xB σ 0 0 := by
  unfold m_Rf_layNodes_J104 at h
  obtain ⟨x31, e_x31⟩ : ∃ z, z = (v1 + (1 : Int32)) := ⟨_, rfl⟩
  replace h := aw_lte h x31 e_x31
  refine aw_iinc (pc := 104) (q := 1) (v := x31) [(1, .int x31), (0, .ref 0)] dX12_layNodes_104 rfl e_x31.symm (by decide) rfl ?_
  refine aw_goto (pc := 107) (tgt := 14) dX12_layNodes_107 (by decide) ?_
  refine aw_sub [1, 0] rfl ?_
  cases h
  exact hz
set_option maxRecDepth 100000 in
set_option maxHeartbeats 4000000 in
theorem t_Rf_layNodes_B14 {l : Launch} {G : aw_G} {E : aw_E} {σ : aw_S} {v1 : Int32} {t : (aw_S) ⊕ (Int32 × aw_S)} (h : m_Rf_layNodes_B14 σ v1 = some t) (hz : Sum.elim (z_Rf_layNodes_Y14 l G E) (z_Rf_layNodes_X14 l G E) t) : aw_W l M_Rf_layNodes G B_Rf_layNodes E 14 [(0, .ref 0), (1, .int v1)] [] xB σ 0 0 := by
  unfold m_Rf_layNodes_B14 at h
  refine aw_iload_n (pc := 14) (q := 1) dX12_layNodes_14 rfl ?_
  refine aw_aload_n (pc := 15) (q := 0) dX12_layNodes_15 rfl ?_
  refine aw_iconst (pc := 16) (v := 0) dX12_layNodes_16 (by decide) ?_
  obtain ⟨r5, e6, h⟩ := aw_bde h
  refine aw_cV1 (pc := 17) [.int ((0 : Int32))] (c_Rf_get e6) yy_Rf_get.1 wm_736 yy_Rf_get.2.1 yy_Rf_get.2.2 xB_0 ⟨_, _, rfl⟩ rfl ⟨Nat.le_of_ble_eq_true rfl, Nat.le_of_ble_eq_true rfl⟩ ⟨Nat.zero_le _, Nat.zero_le _⟩ (Nat.le_of_ble_eq_true rfl) dX12_layNodes_17 ?_
  refine aw_icmp_ge (pc := 20) (tgt := 110) dX12_layNodes_20 (by decide) (fun c7 => ?_) (fun c7 => ?_)
  · replace h := aw_ifp c7 h
    refine aw_sub [0] rfl ?_
    cases h
    exact hz
  · replace h := aw_ifn c7 h
    refine aw_aload_n (pc := 23) (q := 0) dX12_layNodes_23 rfl ?_
    refine aw_getC (pc := 24) fd_X12_39.r xB_0 rfl dX12_layNodes_24 ?_
    refine aw_iload_n (pc := 27) (q := 1) dX12_layNodes_27 rfl ?_
    obtain ⟨g8, h⟩ := aw_gde h
    refine aw_zald (pc := 28) xB_9 g8 dX12_layNodes_28 ?_
    refine aw_if_ne (pc := 29) (tgt := 35) dX12_layNodes_29 (by decide) (fun c9 => ?_) (fun c9 => ?_)
    · replace h := aw_ifn c9 h
      refine aw_aload_n (pc := 35) (q := 0) dX12_layNodes_35 rfl ?_
      refine aw_getC (pc := 36) fd_X12_43.r xB_0 rfl dX12_layNodes_36 ?_
      refine aw_iload_n (pc := 39) (q := 1) dX12_layNodes_39 rfl ?_
      refine aw_aload_n (pc := 40) (q := 0) dX12_layNodes_40 rfl ?_
      refine aw_getI (pc := 41) fd_X12_215.r xB_0 rfl dX12_layNodes_41 ?_
      obtain ⟨g10, h⟩ := aw_gde h
      refine aw_iast (pc := 44) xB_10 g10 dX12_layNodes_44 ?_
      refine aw_nmS (fun s11 e_s11 => ?_)
      replace h := aw_lte h s11 e_s11
      refine aw_aload_n (pc := 45) (q := 0) dX12_layNodes_45 rfl ?_
      refine aw_sipush (pc := 46) (v := 184) dX12_layNodes_46 (by decide) ?_
      refine aw_iload_n (pc := 49) (q := 1) dX12_layNodes_49 rfl ?_
      refine aw_iadd (pc := 50) dX12_layNodes_50 ?_
      obtain ⟨r12, e13, h⟩ := aw_bde h
      refine aw_cV1 (pc := 51) [.int (((184 : Int32) + v1))] (c_Rf_get e13) yy_Rf_get.1 wm_736 yy_Rf_get.2.1 yy_Rf_get.2.2 xB_0 ⟨_, _, rfl⟩ rfl ⟨Nat.le_of_ble_eq_true rfl, Nat.le_of_ble_eq_true rfl⟩ ⟨Nat.zero_le _, Nat.zero_le _⟩ (Nat.le_of_ble_eq_true rfl) dX12_layNodes_51 ?_
      refine aw_istore_n (pc := 54) [(2, .int r12), (0, .ref 0), (1, .int v1)] dX12_layNodes_54 (by decide) rfl ?_
      obtain ⟨x23, hl24, h⟩ := aw_bde h
      have K25 : z_Rf_layNodes_Y55 l G E v1 x23 := by
        show aw_W l M_Rf_layNodes G B_Rf_layNodes E 89 [(0, .ref 0), (1, .int v1)] [] xB x23 0 0
        refine aw_aload_n (pc := 89) (q := 0) dX12_layNodes_89 rfl ?_
        refine aw_aload_n (pc := 90) (q := 0) dX12_layNodes_90 rfl ?_
        refine aw_sipush (pc := 91) (v := 204) dX12_layNodes_91 (by decide) ?_
        refine aw_iload_n (pc := 94) (q := 1) dX12_layNodes_94 rfl ?_
        refine aw_iadd (pc := 95) dX12_layNodes_95 ?_
        obtain ⟨r26, e27, h⟩ := aw_bde h
        refine aw_cV1 (pc := 96) [.int (((204 : Int32) + v1))] (c_Rf_get e27) yy_Rf_get.1 wm_736 yy_Rf_get.2.1 yy_Rf_get.2.2 xB_0 ⟨_, _, rfl⟩ rfl ⟨Nat.le_of_ble_eq_true rfl, Nat.le_of_ble_eq_true rfl⟩ ⟨Nat.zero_le _, Nat.zero_le _⟩ (Nat.le_of_ble_eq_true rfl) dX12_layNodes_96 ?_
        refine aw_iload_n (pc := 99) (q := 1) dX12_layNodes_99 rfl ?_
        refine aw_iconst (pc := 100) (v := -1) dX12_layNodes_100 (by decide) ?_
        obtain ⟨s30, e29, h⟩ := aw_bde h
        refine aw_cV0 (pc := 101) [.int r26, .int v1, .int ((-1 : Int32))] (c_Rf_layNode e29) yy_Rf_layNode.1 wm_744 yy_Rf_layNode.2.1 yy_Rf_layNode.2.2 xB_0 ⟨_, _, rfl⟩ rfl ⟨Nat.le_of_ble_eq_true rfl, Nat.le_of_ble_eq_true rfl⟩ ⟨Nat.zero_le _, Nat.zero_le _⟩ (Nat.le_of_ble_eq_true rfl) dX12_layNodes_101 ?_
        exact t_Rf_layNodes_J104 h hz
      refine aw_sub [1, 2, 0] rfl ?_
      show z_Rf_layNodes_X55 l G E v1 ((r12, s11))
      exact aw_lp_X (Xp := z_Rf_layNodes_X55 l G E v1) (Y := z_Rf_layNodes_Y55 l G E v1) hl24 K25 (fun s t hf hz => t_Rf_layNodes_B55 hf hz)
    · replace h := aw_ifp c9 h
      refine aw_goto (pc := 32) (tgt := 104) dX12_layNodes_32 (by decide) ?_
      exact t_Rf_layNodes_J104 h hz
set_option maxRecDepth 100000 in
set_option maxHeartbeats 4000000 in
theorem t_Rf_layNodes_J167 {l : Launch} {G : aw_G} {E : aw_E} {σ : aw_S} {v1 : Int32} {t : (aw_S) ⊕ (Int32 × aw_S)} (h : m_Rf_layNodes_J167 σ v1 = some t) (hz : Sum.elim (z_Rf_layNodes_Y124 l G E) (z_Rf_layNodes_X124 l G E) t) : aw_W l M_Rf_layNodes G B_Rf_layNodes E 167 [(0, .ref 0), (1, .int v1)] [] xB σ 0 0 := by
  unfold m_Rf_layNodes_J167 at h
  obtain ⟨x45, e_x45⟩ : ∃ z, z = (v1 + (1 : Int32)) := ⟨_, rfl⟩
  replace h := aw_lte h x45 e_x45
  refine aw_iinc (pc := 167) (q := 1) (v := x45) [(1, .int x45), (0, .ref 0)] dX12_layNodes_167 rfl e_x45.symm (by decide) rfl ?_
  refine aw_goto (pc := 170) (tgt := 124) dX12_layNodes_170 (by decide) ?_
  refine aw_sub [1, 0] rfl ?_
  cases h
  exact hz
set_option maxRecDepth 100000 in
set_option maxHeartbeats 4000000 in
theorem t_Rf_layNodes_B124 {l : Launch} {G : aw_G} {E : aw_E} {σ : aw_S} {v1 : Int32} {t : (aw_S) ⊕ (Int32 × aw_S)} (h : m_Rf_layNodes_B124 σ v1 = some t) (hz : Sum.elim (z_Rf_layNodes_Y124 l G E) (z_Rf_layNodes_X124 l G E) t) : aw_W l M_Rf_layNodes G B_Rf_layNodes E 124 [(0, .ref 0), (1, .int v1)] [] xB σ 0 0 := by
  unfold m_Rf_layNodes_B124 at h
  refine aw_iload_n (pc := 124) (q := 1) dX12_layNodes_124 rfl ?_
  refine aw_aload_n (pc := 125) (q := 0) dX12_layNodes_125 rfl ?_
  refine aw_getI (pc := 126) fd_X12_215.r xB_0 rfl dX12_layNodes_126 ?_
  refine aw_icmp_ge (pc := 129) (tgt := 173) dX12_layNodes_129 (by decide) (fun c38 => ?_) (fun c38 => ?_)
  · replace h := aw_ifp c38 h
    refine aw_sub [] rfl ?_
    cases h
    exact hz
  · replace h := aw_ifn c38 h
    refine aw_aload_n (pc := 132) (q := 0) dX12_layNodes_132 rfl ?_
    refine aw_getC (pc := 133) fd_X12_24.r xB_0 rfl dX12_layNodes_133 ?_
    refine aw_iload_n (pc := 136) (q := 1) dX12_layNodes_136 rfl ?_
    obtain ⟨g39, h⟩ := aw_gde h
    refine aw_iald (pc := 137) xB_4 g39 dX12_layNodes_137 ?_
    refine aw_iconst (pc := 138) (v := 4) dX12_layNodes_138 (by decide) ?_
    refine aw_icmp_ge (pc := 139) (tgt := 156) dX12_layNodes_139 (by decide) (fun c40 => ?_) (fun c40 => ?_)
    · replace h := aw_ifp c40 h
      refine aw_aload_n (pc := 156) (q := 0) dX12_layNodes_156 rfl ?_
      refine aw_iload_n (pc := 157) (q := 1) dX12_layNodes_157 rfl ?_
      refine aw_aload_n (pc := 158) (q := 0) dX12_layNodes_158 rfl ?_
      refine aw_getC (pc := 159) fd_X12_27.r xB_0 rfl dX12_layNodes_159 ?_
      refine aw_iload_n (pc := 162) (q := 1) dX12_layNodes_162 rfl ?_
      obtain ⟨g41, h⟩ := aw_gde h
      refine aw_iald (pc := 163) xB_5 g41 dX12_layNodes_163 ?_
      obtain ⟨s44, e43, h⟩ := aw_bde h
      refine aw_cV0 (pc := 164) [.int v1, .int ((σ.1 5 v1.toNatClampNeg))] (c_Rf_layEnd e43) yy_Rf_layEnd.1 wm_748 yy_Rf_layEnd.2.1 yy_Rf_layEnd.2.2 xB_0 ⟨_, _, rfl⟩ rfl ⟨Nat.le_of_ble_eq_true rfl, Nat.le_of_ble_eq_true rfl⟩ ⟨Nat.zero_le _, Nat.zero_le _⟩ (Nat.le_of_ble_eq_true rfl) dX12_layNodes_164 ?_
      exact t_Rf_layNodes_J167 h hz
    · replace h := aw_ifn c40 h
      refine aw_aload_n (pc := 142) (q := 0) dX12_layNodes_142 rfl ?_
      refine aw_getC (pc := 143) fd_X12_33.r xB_0 rfl dX12_layNodes_143 ?_
      refine aw_iconst (pc := 146) (v := 2) dX12_layNodes_146 (by decide) ?_
      refine aw_iload_n (pc := 147) (q := 1) dX12_layNodes_147 rfl ?_
      refine aw_imul (pc := 148) dX12_layNodes_148 ?_
      refine aw_iload_n (pc := 149) (q := 1) dX12_layNodes_149 rfl ?_
      refine aw_iconst (pc := 150) (v := 1) dX12_layNodes_150 (by decide) ?_
      refine aw_iadd (pc := 151) dX12_layNodes_151 ?_
      obtain ⟨g46, h⟩ := aw_gde h
      refine aw_iast (pc := 152) xB_7 g46 dX12_layNodes_152 ?_
      refine aw_nmS (fun s47 e_s47 => ?_)
      replace h := aw_lte h s47 e_s47
      refine aw_goto (pc := 153) (tgt := 167) dX12_layNodes_153 (by decide) ?_
      exact t_Rf_layNodes_J167 h hz
set_option maxRecDepth 100000 in
set_option maxHeartbeats 4000000 in
theorem t_Rf_layNodes {l : Launch} {G : aw_G} {E : aw_E} {σ : aw_S} {t : aw_S} (h : m_Rf_layNodes σ = some t) (hE : E = (none, xB, t)) : aw_W l M_Rf_layNodes G B_Rf_layNodes E 0 [(0, .ref 0)] [] xB σ 0 0 := by
  unfold m_Rf_layNodes at h
  refine aw_aload_n (pc := 0) (q := 0) dX12_layNodes_0 rfl ?_
  refine aw_iconst (pc := 1) (v := 0) dX12_layNodes_1 (by decide) ?_
  refine aw_putI (pc := 2) fd_X12_215 xB_0 rfl (fun _ => rfl) (fun _ => rfl) dX12_layNodes_2 ?_
  refine aw_nmS (fun s1 e_s1 => ?_)
  replace h := aw_lte h s1 e_s1
  refine aw_aload_n (pc := 5) (q := 0) dX12_layNodes_5 rfl ?_
  refine aw_iconst (pc := 6) (v := 0) dX12_layNodes_6 (by decide) ?_
  refine aw_iconst (pc := 7) (v := -1) dX12_layNodes_7 (by decide) ?_
  refine aw_iconst (pc := 8) (v := -1) dX12_layNodes_8 (by decide) ?_
  obtain ⟨s4, e3, h⟩ := aw_bde h
  refine aw_cV0 (pc := 9) [.int ((0 : Int32)), .int ((-1 : Int32)), .int ((-1 : Int32))] (c_Rf_layNode e3) yy_Rf_layNode.1 wm_744 yy_Rf_layNode.2.1 yy_Rf_layNode.2.2 xB_0 ⟨_, _, rfl⟩ rfl ⟨Nat.le_of_ble_eq_true rfl, Nat.le_of_ble_eq_true rfl⟩ ⟨Nat.zero_le _, Nat.zero_le _⟩ (Nat.le_of_ble_eq_true rfl) dX12_layNodes_9 ?_
  refine aw_iconst (pc := 12) (v := 0) dX12_layNodes_12 (by decide) ?_
  refine aw_istore_n (pc := 13) [(1, .int ((0 : Int32))), (0, .ref 0)] dX12_layNodes_13 (by decide) rfl ?_
  obtain ⟨x32, hl33, h⟩ := aw_bde h
  have K34 : z_Rf_layNodes_Y14 l G E x32 := by
    show aw_W l M_Rf_layNodes G B_Rf_layNodes E 110 [(0, .ref 0)] [] xB x32 0 0
    refine aw_aload_n (pc := 110) (q := 0) dX12_layNodes_110 rfl ?_
    refine aw_getC (pc := 111) fd_X12_33.r xB_0 rfl dX12_layNodes_111 ?_
    refine aw_iconst (pc := 114) (v := 0) dX12_layNodes_114 (by decide) ?_
    refine aw_aload_n (pc := 115) (q := 0) dX12_layNodes_115 rfl ?_
    refine aw_getC (pc := 116) fd_X12_43.r xB_0 rfl dX12_layNodes_116 ?_
    refine aw_iconst (pc := 119) (v := 0) dX12_layNodes_119 (by decide) ?_
    obtain ⟨g35, h⟩ := aw_gde h
    refine aw_iald (pc := 120) xB_10 g35 dX12_layNodes_120 ?_
    obtain ⟨g36, h⟩ := aw_gde h
    refine aw_iast (pc := 121) xB_7 g36 dX12_layNodes_121 ?_
    refine aw_nmS (fun s37 e_s37 => ?_)
    replace h := aw_lte h s37 e_s37
    refine aw_iconst (pc := 122) (v := 1) dX12_layNodes_122 (by decide) ?_
    refine aw_istore_n (pc := 123) [(1, .int ((1 : Int32))), (0, .ref 0)] dX12_layNodes_123 (by decide) rfl ?_
    obtain ⟨x48, hl49, h⟩ := aw_bde h
    have K50 : z_Rf_layNodes_Y124 l G E x48 := by
      show aw_W l M_Rf_layNodes G B_Rf_layNodes E 173 [] [] xB x48 0 0
      cases h
      subst hE
      exact aw_vret rfl ⟨Nat.zero_le _, Nat.zero_le _⟩ dX12_layNodes_173
    refine aw_sub [1, 0] rfl ?_
    show z_Rf_layNodes_X124 l G E (((1 : Int32), s37))
    exact aw_lp_X (Xp := z_Rf_layNodes_X124 l G E) (Y := z_Rf_layNodes_Y124 l G E) hl49 K50 (fun s t hf hz => t_Rf_layNodes_B124 hf hz)
  refine aw_sub [1, 0] rfl ?_
  show z_Rf_layNodes_X14 l G E (((0 : Int32), s4))
  exact aw_lp_X (Xp := z_Rf_layNodes_X14 l G E) (Y := z_Rf_layNodes_Y14 l G E) hl33 K34 (fun s t hf hz => t_Rf_layNodes_B14 hf hz)
theorem c_Rf_layNodes {l : Launch} {G : aw_G} {σ : aw_S} {t : aw_S} (h : m_Rf_layNodes σ = some t) : aw_Ct l yX12_layNodes M_Rf_layNodes G B_Rf_layNodes [.ref 0] xB σ (none, xB, t) := aw_Ct_of (by decide) rfl (fun h => by cases h) (Nat.le_of_ble_eq_true rfl) (t_Rf_layNodes h rfl)
/-! LateMoverModel.countCome()V -/
def z_Rf_countCome_X2 (l : Launch) (G : aw_G) (E : aw_E) (s : Int32 × aw_S) : Prop := aw_W l M_Rf_countCome G B_Rf_countCome E 2 [(0, .ref 0), (1, .int s.1)] [] xB s.2 0 0
def z_Rf_countCome_Y2 (l : Launch) (G : aw_G) (E : aw_E) (x : (aw_S)) : Prop := aw_W l M_Rf_countCome G B_Rf_countCome E 23 [(0, .ref 0)] [] xB x 0 0
def z_Rf_countCome_X25 (l : Launch) (G : aw_G) (E : aw_E) (s : Int32 × aw_S) : Prop := aw_W l M_Rf_countCome G B_Rf_countCome E 25 [(0, .ref 0), (1, .int s.1)] [] xB s.2 0 0
def z_Rf_countCome_Y25 (l : Launch) (G : aw_G) (E : aw_E) (x : (aw_S)) : Prop := aw_W l M_Rf_countCome G B_Rf_countCome E 66 [] [] xB x 0 0
set_option maxRecDepth 100000 in
set_option maxHeartbeats 4000000 in
theorem t_Rf_countCome_B2 {l : Launch} {G : aw_G} {E : aw_E} {σ : aw_S} {v1 : Int32} {t : (aw_S) ⊕ (Int32 × aw_S)} (h : m_Rf_countCome_B2 σ v1 = some t) (hz : Sum.elim (z_Rf_countCome_Y2 l G E) (z_Rf_countCome_X2 l G E) t) : aw_W l M_Rf_countCome G B_Rf_countCome E 2 [(0, .ref 0), (1, .int v1)] [] xB σ 0 0 := by
  unfold m_Rf_countCome_B2 at h
  refine aw_iload_n (pc := 2) (q := 1) dX12_countCome_2 rfl ?_
  refine aw_aload_n (pc := 3) (q := 0) dX12_countCome_3 rfl ?_
  refine aw_getI (pc := 4) fd_X12_215.r xB_0 rfl dX12_countCome_4 ?_
  refine aw_icmp_ge (pc := 7) (tgt := 23) dX12_countCome_7 (by decide) (fun c1 => ?_) (fun c1 => ?_)
  · replace h := aw_ifp c1 h
    refine aw_sub [0] rfl ?_
    cases h
    exact hz
  · replace h := aw_ifn c1 h
    refine aw_aload_n (pc := 10) (q := 0) dX12_countCome_10 rfl ?_
    refine aw_getC (pc := 11) fd_X12_36.r xB_0 rfl dX12_countCome_11 ?_
    refine aw_iload_n (pc := 14) (q := 1) dX12_countCome_14 rfl ?_
    refine aw_iconst (pc := 15) (v := 0) dX12_countCome_15 (by decide) ?_
    obtain ⟨g2, h⟩ := aw_gde h
    refine aw_iast (pc := 16) xB_8 g2 dX12_countCome_16 ?_
    refine aw_nmS (fun s3 e_s3 => ?_)
    replace h := aw_lte h s3 e_s3
    obtain ⟨x4, e_x4⟩ : ∃ z, z = (v1 + (1 : Int32)) := ⟨_, rfl⟩
    replace h := aw_lte h x4 e_x4
    refine aw_iinc (pc := 17) (q := 1) (v := x4) [(1, .int x4), (0, .ref 0)] dX12_countCome_17 rfl e_x4.symm (by decide) rfl ?_
    refine aw_goto (pc := 20) (tgt := 2) dX12_countCome_20 (by decide) ?_
    refine aw_sub [1, 0] rfl ?_
    cases h
    exact hz
set_option maxRecDepth 100000 in
set_option maxHeartbeats 4000000 in
theorem t_Rf_countCome_J60 {l : Launch} {G : aw_G} {E : aw_E} {σ : aw_S} {v1 : Int32} {t : (aw_S) ⊕ (Int32 × aw_S)} (h : m_Rf_countCome_J60 σ v1 = some t) (hz : Sum.elim (z_Rf_countCome_Y25 l G E) (z_Rf_countCome_X25 l G E) t) : aw_W l M_Rf_countCome G B_Rf_countCome E 60 [(0, .ref 0), (1, .int v1)] [] xB σ 0 0 := by
  unfold m_Rf_countCome_J60 at h
  obtain ⟨x11, e_x11⟩ : ∃ z, z = (v1 + (1 : Int32)) := ⟨_, rfl⟩
  replace h := aw_lte h x11 e_x11
  refine aw_iinc (pc := 60) (q := 1) (v := x11) [(1, .int x11), (0, .ref 0)] dX12_countCome_60 rfl e_x11.symm (by decide) rfl ?_
  refine aw_goto (pc := 63) (tgt := 25) dX12_countCome_63 (by decide) ?_
  refine aw_sub [1, 0] rfl ?_
  cases h
  exact hz
set_option maxRecDepth 100000 in
set_option maxHeartbeats 4000000 in
theorem t_Rf_countCome_B25 {l : Launch} {G : aw_G} {E : aw_E} {σ : aw_S} {v1 : Int32} {t : (aw_S) ⊕ (Int32 × aw_S)} (h : m_Rf_countCome_B25 σ v1 = some t) (hz : Sum.elim (z_Rf_countCome_Y25 l G E) (z_Rf_countCome_X25 l G E) t) : aw_W l M_Rf_countCome G B_Rf_countCome E 25 [(0, .ref 0), (1, .int v1)] [] xB σ 0 0 := by
  unfold m_Rf_countCome_B25 at h
  refine aw_iload_n (pc := 25) (q := 1) dX12_countCome_25 rfl ?_
  refine aw_iconst (pc := 26) (v := 2) dX12_countCome_26 (by decide) ?_
  refine aw_aload_n (pc := 27) (q := 0) dX12_countCome_27 rfl ?_
  refine aw_getI (pc := 28) fd_X12_215.r xB_0 rfl dX12_countCome_28 ?_
  refine aw_imul (pc := 31) dX12_countCome_31 ?_
  refine aw_icmp_ge (pc := 32) (tgt := 66) dX12_countCome_32 (by decide) (fun c8 => ?_) (fun c8 => ?_)
  · replace h := aw_ifp c8 h
    refine aw_sub [] rfl ?_
    cases h
    exact hz
  · replace h := aw_ifn c8 h
    refine aw_aload_n (pc := 35) (q := 0) dX12_countCome_35 rfl ?_
    refine aw_getC (pc := 36) fd_X12_33.r xB_0 rfl dX12_countCome_36 ?_
    refine aw_iload_n (pc := 39) (q := 1) dX12_countCome_39 rfl ?_
    obtain ⟨g9, h⟩ := aw_gde h
    refine aw_iald (pc := 40) xB_7 g9 dX12_countCome_40 ?_
    refine aw_iconst (pc := 41) (v := -1) dX12_countCome_41 (by decide) ?_
    refine aw_icmp_eq (pc := 42) (tgt := 60) dX12_countCome_42 (by decide) (fun c10 => ?_) (fun c10 => ?_)
    · replace h := aw_ifp c10 h
      exact t_Rf_countCome_J60 h hz
    · replace h := aw_ifn c10 h
      refine aw_aload_n (pc := 45) (q := 0) dX12_countCome_45 rfl ?_
      refine aw_getC (pc := 46) fd_X12_36.r xB_0 rfl dX12_countCome_46 ?_
      refine aw_aload_n (pc := 49) (q := 0) dX12_countCome_49 rfl ?_
      refine aw_getC (pc := 50) fd_X12_33.r xB_0 rfl dX12_countCome_50 ?_
      refine aw_iload_n (pc := 53) (q := 1) dX12_countCome_53 rfl ?_
      obtain ⟨g12, h⟩ := aw_gde h
      refine aw_iald (pc := 54) xB_7 g12 dX12_countCome_54 ?_
      refine aw_dup2 (pc := 55) dX12_countCome_55 rfl rfl ?_
      obtain ⟨g13, h⟩ := aw_gde h
      refine aw_iald (pc := 56) xB_8 g13 dX12_countCome_56 ?_
      refine aw_iconst (pc := 57) (v := 1) dX12_countCome_57 (by decide) ?_
      refine aw_iadd (pc := 58) dX12_countCome_58 ?_
      obtain ⟨g14, h⟩ := aw_gde h
      refine aw_iast (pc := 59) xB_8 g14 dX12_countCome_59 ?_
      refine aw_nmS (fun s15 e_s15 => ?_)
      replace h := aw_lte h s15 e_s15
      exact t_Rf_countCome_J60 h hz
set_option maxRecDepth 100000 in
set_option maxHeartbeats 4000000 in
theorem t_Rf_countCome {l : Launch} {G : aw_G} {E : aw_E} {σ : aw_S} {t : aw_S} (h : m_Rf_countCome σ = some t) (hE : E = (none, xB, t)) : aw_W l M_Rf_countCome G B_Rf_countCome E 0 [(0, .ref 0)] [] xB σ 0 0 := by
  unfold m_Rf_countCome at h
  refine aw_iconst (pc := 0) (v := 0) dX12_countCome_0 (by decide) ?_
  refine aw_istore_n (pc := 1) [(1, .int ((0 : Int32))), (0, .ref 0)] dX12_countCome_1 (by decide) rfl ?_
  obtain ⟨x5, hl6, h⟩ := aw_bde h
  have K7 : z_Rf_countCome_Y2 l G E x5 := by
    show aw_W l M_Rf_countCome G B_Rf_countCome E 23 [(0, .ref 0)] [] xB x5 0 0
    refine aw_iconst (pc := 23) (v := 0) dX12_countCome_23 (by decide) ?_
    refine aw_istore_n (pc := 24) [(1, .int ((0 : Int32))), (0, .ref 0)] dX12_countCome_24 (by decide) rfl ?_
    obtain ⟨x16, hl17, h⟩ := aw_bde h
    have K18 : z_Rf_countCome_Y25 l G E x16 := by
      show aw_W l M_Rf_countCome G B_Rf_countCome E 66 [] [] xB x16 0 0
      cases h
      subst hE
      exact aw_vret rfl ⟨Nat.zero_le _, Nat.zero_le _⟩ dX12_countCome_66
    refine aw_sub [1, 0] rfl ?_
    show z_Rf_countCome_X25 l G E (((0 : Int32), x5))
    exact aw_lp_X (Xp := z_Rf_countCome_X25 l G E) (Y := z_Rf_countCome_Y25 l G E) hl17 K18 (fun s t hf hz => t_Rf_countCome_B25 hf hz)
  refine aw_sub [1, 0] rfl ?_
  show z_Rf_countCome_X2 l G E (((0 : Int32), σ))
  exact aw_lp_X (Xp := z_Rf_countCome_X2 l G E) (Y := z_Rf_countCome_Y2 l G E) hl6 K7 (fun s t hf hz => t_Rf_countCome_B2 hf hz)
theorem c_Rf_countCome {l : Launch} {G : aw_G} {σ : aw_S} {t : aw_S} (h : m_Rf_countCome σ = some t) : aw_Ct l yX12_countCome M_Rf_countCome G B_Rf_countCome [.ref 0] xB σ (none, xB, t) := aw_Ct_of (by decide) rfl (fun h => by cases h) (Nat.le_of_ble_eq_true rfl) (t_Rf_countCome h rfl)
/-! LateMoverModel.split()V -/
def z_Rf_split_X7 (l : Launch) (G : aw_G) (E : aw_E) (v1 : Int32) (s : Int32 × aw_S) : Prop := aw_W l M_Rf_split G B_Rf_split E 7 [(0, .ref 0), (1, .int v1), (2, .int s.1)] [] xB s.2 0 0
def z_Rf_split_Y7 (l : Launch) (G : aw_G) (E : aw_E) (v1 : Int32) (x : (aw_S)) : Prop := aw_W l M_Rf_split G B_Rf_split E 110 [] [] xB x 0 0
def z_Rf_split_X33 (l : Launch) (G : aw_G) (E : aw_E) (v1 : Int32) (v2 : Int32) (s : Int32 × aw_S) : Prop := aw_W l M_Rf_split G B_Rf_split E 33 [(0, .ref 0), (1, .int v1), (2, .int v2), (3, .int s.1)] [] xB s.2 0 0
def z_Rf_split_Y33 (l : Launch) (G : aw_G) (E : aw_E) (v1 : Int32) (v2 : Int32) (x : (aw_S)) : Prop := aw_W l M_Rf_split G B_Rf_split E 104 [(0, .ref 0), (1, .int v1), (2, .int v2)] [] xB x 0 0
set_option maxRecDepth 100000 in
set_option maxHeartbeats 4000000 in
theorem t_Rf_split_J98 {l : Launch} {G : aw_G} {E : aw_E} {σ : aw_S} {v1 : Int32} {v2 : Int32} {v3 : Int32} {t : (aw_S) ⊕ (Int32 × aw_S)} (h : m_Rf_split_J98 σ v1 v2 v3 = some t) (hz : Sum.elim (z_Rf_split_Y33 l G E v1 v2) (z_Rf_split_X33 l G E v1 v2) t) : aw_W l M_Rf_split G B_Rf_split E 98 [(0, .ref 0), (1, .int v1), (2, .int v2), (3, .int v3)] [] xB σ 0 0 := by
  unfold m_Rf_split_J98 at h
  obtain ⟨x18, e_x18⟩ : ∃ z, z = (v3 + (1 : Int32)) := ⟨_, rfl⟩
  replace h := aw_lte h x18 e_x18
  refine aw_iinc (pc := 98) (q := 3) (v := x18) [(3, .int x18), (0, .ref 0), (1, .int v1), (2, .int v2)] dX12_split_98 rfl e_x18.symm (by decide) rfl ?_
  refine aw_goto (pc := 101) (tgt := 33) dX12_split_101 (by decide) ?_
  refine aw_sub [1, 2, 3, 0] rfl ?_
  cases h
  exact hz
set_option maxRecDepth 100000 in
set_option maxHeartbeats 4000000 in
theorem t_Rf_split_B33 {l : Launch} {G : aw_G} {E : aw_E} {σ : aw_S} {v1 : Int32} {v2 : Int32} {v3 : Int32} {t : (aw_S) ⊕ (Int32 × aw_S)} (h : m_Rf_split_B33 σ v1 v2 v3 = some t) (hz : Sum.elim (z_Rf_split_Y33 l G E v1 v2) (z_Rf_split_X33 l G E v1 v2) t) : aw_W l M_Rf_split G B_Rf_split E 33 [(0, .ref 0), (1, .int v1), (2, .int v2), (3, .int v3)] [] xB σ 0 0 := by
  unfold m_Rf_split_B33 at h
  refine aw_iload_n (pc := 33) (q := 3) dX12_split_33 rfl ?_
  refine aw_iconst (pc := 34) (v := 2) dX12_split_34 (by decide) ?_
  refine aw_iload_n (pc := 35) (q := 2) dX12_split_35 rfl ?_
  refine aw_imul (pc := 36) dX12_split_36 ?_
  refine aw_iconst (pc := 37) (v := 2) dX12_split_37 (by decide) ?_
  refine aw_iadd (pc := 38) dX12_split_38 ?_
  refine aw_icmp_ge (pc := 39) (tgt := 104) dX12_split_39 (by decide) (fun c6 => ?_) (fun c6 => ?_)
  · replace h := aw_ifp c6 h
    refine aw_sub [0, 1, 2] rfl ?_
    cases h
    exact hz
  · replace h := aw_ifn c6 h
    refine aw_aload_n (pc := 42) (q := 0) dX12_split_42 rfl ?_
    refine aw_getC (pc := 43) fd_X12_36.r xB_0 rfl dX12_split_43 ?_
    refine aw_aload_n (pc := 46) (q := 0) dX12_split_46 rfl ?_
    refine aw_getC (pc := 47) fd_X12_33.r xB_0 rfl dX12_split_47 ?_
    refine aw_iload_n (pc := 50) (q := 3) dX12_split_50 rfl ?_
    obtain ⟨g7, h⟩ := aw_gde h
    refine aw_iald (pc := 51) xB_7 g7 dX12_split_51 ?_
    obtain ⟨g8, h⟩ := aw_gde h
    refine aw_iald (pc := 52) xB_8 g8 dX12_split_52 ?_
    refine aw_iconst (pc := 53) (v := 2) dX12_split_53 (by decide) ?_
    refine aw_icmp_ge (pc := 54) (tgt := 60) dX12_split_54 (by decide) (fun c9 => ?_) (fun c9 => ?_)
    · replace h := aw_ifp c9 h
      refine aw_aload_n (pc := 60) (q := 0) dX12_split_60 rfl ?_
      refine aw_iconst (pc := 61) (v := 0) dX12_split_61 (by decide) ?_
      refine aw_iconst (pc := 62) (v := -1) dX12_split_62 (by decide) ?_
      refine aw_iconst (pc := 63) (v := -1) dX12_split_63 (by decide) ?_
      obtain ⟨s12, e11, h⟩ := aw_bde h
      refine aw_cV0 (pc := 64) [.int ((0 : Int32)), .int ((-1 : Int32)), .int ((-1 : Int32))] (c_Rf_layNode e11) yy_Rf_layNode.1 wm_744 yy_Rf_layNode.2.1 yy_Rf_layNode.2.2 xB_0 ⟨_, _, rfl⟩ rfl ⟨Nat.le_of_ble_eq_true rfl, Nat.le_of_ble_eq_true rfl⟩ ⟨Nat.zero_le _, Nat.zero_le _⟩ (Nat.le_of_ble_eq_true rfl) dX12_split_64 ?_
      refine aw_aload_n (pc := 67) (q := 0) dX12_split_67 rfl ?_
      refine aw_getC (pc := 68) fd_X12_33.r xB_0 rfl dX12_split_68 ?_
      refine aw_iconst (pc := 71) (v := 2) dX12_split_71 (by decide) ?_
      refine aw_aload_n (pc := 72) (q := 0) dX12_split_72 rfl ?_
      refine aw_getI (pc := 73) fd_X12_215.r xB_0 rfl dX12_split_73 ?_
      refine aw_imul (pc := 76) dX12_split_76 ?_
      refine aw_iconst (pc := 77) (v := 2) dX12_split_77 (by decide) ?_
      refine aw_isub (pc := 78) dX12_split_78 ?_
      refine aw_aload_n (pc := 79) (q := 0) dX12_split_79 rfl ?_
      refine aw_getC (pc := 80) fd_X12_33.r xB_0 rfl dX12_split_80 ?_
      refine aw_iload_n (pc := 83) (q := 3) dX12_split_83 rfl ?_
      obtain ⟨g13, h⟩ := aw_gde h
      refine aw_iald (pc := 84) xB_7 g13 dX12_split_84 ?_
      obtain ⟨g14, h⟩ := aw_gde h
      refine aw_iast (pc := 85) xB_7 g14 dX12_split_85 ?_
      refine aw_nmS (fun s15 e_s15 => ?_)
      replace h := aw_lte h s15 e_s15
      refine aw_aload_n (pc := 86) (q := 0) dX12_split_86 rfl ?_
      refine aw_getC (pc := 87) fd_X12_33.r xB_0 rfl dX12_split_87 ?_
      refine aw_iload_n (pc := 90) (q := 3) dX12_split_90 rfl ?_
      refine aw_aload_n (pc := 91) (q := 0) dX12_split_91 rfl ?_
      refine aw_getI (pc := 92) fd_X12_215.r xB_0 rfl dX12_split_92 ?_
      refine aw_iconst (pc := 95) (v := 1) dX12_split_95 (by decide) ?_
      refine aw_isub (pc := 96) dX12_split_96 ?_
      obtain ⟨g16, h⟩ := aw_gde h
      refine aw_iast (pc := 97) xB_7 g16 dX12_split_97 ?_
      refine aw_nmS (fun s17 e_s17 => ?_)
      replace h := aw_lte h s17 e_s17
      exact t_Rf_split_J98 h hz
    · replace h := aw_ifn c9 h
      refine aw_goto (pc := 57) (tgt := 98) dX12_split_57 (by decide) ?_
      exact t_Rf_split_J98 h hz
set_option maxRecDepth 100000 in
set_option maxHeartbeats 4000000 in
theorem t_Rf_split_J104 {l : Launch} {G : aw_G} {E : aw_E} {σ : aw_S} {v1 : Int32} {v2 : Int32} {t : (aw_S) ⊕ (Int32 × aw_S)} (h : m_Rf_split_J104 σ v1 v2 = some t) (hz : Sum.elim (z_Rf_split_Y7 l G E v1) (z_Rf_split_X7 l G E v1) t) : aw_W l M_Rf_split G B_Rf_split E 104 [(0, .ref 0), (1, .int v1), (2, .int v2)] [] xB σ 0 0 := by
  unfold m_Rf_split_J104 at h
  obtain ⟨x22, e_x22⟩ : ∃ z, z = (v2 + (1 : Int32)) := ⟨_, rfl⟩
  replace h := aw_lte h x22 e_x22
  refine aw_iinc (pc := 104) (q := 2) (v := x22) [(2, .int x22), (0, .ref 0), (1, .int v1)] dX12_split_104 rfl e_x22.symm (by decide) rfl ?_
  refine aw_goto (pc := 107) (tgt := 7) dX12_split_107 (by decide) ?_
  refine aw_sub [1, 2, 0] rfl ?_
  cases h
  exact hz
set_option maxRecDepth 100000 in
set_option maxHeartbeats 4000000 in
theorem t_Rf_split_B7 {l : Launch} {G : aw_G} {E : aw_E} {σ : aw_S} {v1 : Int32} {v2 : Int32} {t : (aw_S) ⊕ (Int32 × aw_S)} (h : m_Rf_split_B7 σ v1 v2 = some t) (hz : Sum.elim (z_Rf_split_Y7 l G E v1) (z_Rf_split_X7 l G E v1) t) : aw_W l M_Rf_split G B_Rf_split E 7 [(0, .ref 0), (1, .int v1), (2, .int v2)] [] xB σ 0 0 := by
  unfold m_Rf_split_B7 at h
  refine aw_iload_n (pc := 7) (q := 2) dX12_split_7 rfl ?_
  refine aw_iload_n (pc := 8) (q := 1) dX12_split_8 rfl ?_
  refine aw_icmp_ge (pc := 9) (tgt := 110) dX12_split_9 (by decide) (fun c2 => ?_) (fun c2 => ?_)
  · replace h := aw_ifp c2 h
    refine aw_sub [] rfl ?_
    cases h
    exact hz
  · replace h := aw_ifn c2 h
    refine aw_aload_n (pc := 12) (q := 0) dX12_split_12 rfl ?_
    refine aw_getC (pc := 13) fd_X12_33.r xB_0 rfl dX12_split_13 ?_
    refine aw_iconst (pc := 16) (v := 2) dX12_split_16 (by decide) ?_
    refine aw_iload_n (pc := 17) (q := 2) dX12_split_17 rfl ?_
    refine aw_imul (pc := 18) dX12_split_18 ?_
    refine aw_iconst (pc := 19) (v := 1) dX12_split_19 (by decide) ?_
    refine aw_iadd (pc := 20) dX12_split_20 ?_
    obtain ⟨g3, h⟩ := aw_gde h
    refine aw_iald (pc := 21) xB_7 g3 dX12_split_21 ?_
    refine aw_iconst (pc := 22) (v := -1) dX12_split_22 (by decide) ?_
    refine aw_icmp_ne (pc := 23) (tgt := 29) dX12_split_23 (by decide) (fun c4 => ?_) (fun c4 => ?_)
    · replace h := aw_ifn c4 h
      refine aw_iconst (pc := 29) (v := 2) dX12_split_29 (by decide) ?_
      refine aw_iload_n (pc := 30) (q := 2) dX12_split_30 rfl ?_
      refine aw_imul (pc := 31) dX12_split_31 ?_
      refine aw_nmI (fun x5 e_x5 => ?_)
      replace h := aw_lte h x5 e_x5
      refine aw_istore_n (pc := 32) [(3, .int x5), (0, .ref 0), (1, .int v1), (2, .int v2)] dX12_split_32 (by decide) rfl ?_
      obtain ⟨x19, hl20, h⟩ := aw_bde h
      have K21 : z_Rf_split_Y33 l G E v1 v2 x19 := by
        show aw_W l M_Rf_split G B_Rf_split E 104 [(0, .ref 0), (1, .int v1), (2, .int v2)] [] xB x19 0 0
        exact t_Rf_split_J104 h hz
      refine aw_sub [1, 2, 3, 0] rfl ?_
      show z_Rf_split_X33 l G E v1 v2 ((x5, σ))
      exact aw_lp_X (Xp := z_Rf_split_X33 l G E v1 v2) (Y := z_Rf_split_Y33 l G E v1 v2) hl20 K21 (fun s t hf hz => t_Rf_split_B33 hf hz)
    · replace h := aw_ifp c4 h
      refine aw_goto (pc := 26) (tgt := 104) dX12_split_26 (by decide) ?_
      exact t_Rf_split_J104 h hz
set_option maxRecDepth 100000 in
set_option maxHeartbeats 4000000 in
theorem t_Rf_split {l : Launch} {G : aw_G} {E : aw_E} {σ : aw_S} {t : aw_S} (h : m_Rf_split σ = some t) (hE : E = (none, xB, t)) : aw_W l M_Rf_split G B_Rf_split E 0 [(0, .ref 0)] [] xB σ 0 0 := by
  unfold m_Rf_split at h
  refine aw_aload_n (pc := 0) (q := 0) dX12_split_0 rfl ?_
  refine aw_getI (pc := 1) fd_X12_215.r xB_0 rfl dX12_split_1 ?_
  refine aw_nmI (fun x1 e_x1 => ?_)
  replace h := aw_lte h x1 e_x1
  refine aw_istore_n (pc := 4) [(1, .int x1), (0, .ref 0)] dX12_split_4 (by decide) rfl ?_
  refine aw_iconst (pc := 5) (v := 0) dX12_split_5 (by decide) ?_
  refine aw_istore_n (pc := 6) [(2, .int ((0 : Int32))), (1, .int x1), (0, .ref 0)] dX12_split_6 (by decide) rfl ?_
  obtain ⟨x23, hl24, h⟩ := aw_bde h
  have K25 : z_Rf_split_Y7 l G E x1 x23 := by
    show aw_W l M_Rf_split G B_Rf_split E 110 [] [] xB x23 0 0
    cases h
    subst hE
    exact aw_vret rfl ⟨Nat.zero_le _, Nat.zero_le _⟩ dX12_split_110
  refine aw_sub [2, 1, 0] rfl ?_
  show z_Rf_split_X7 l G E x1 (((0 : Int32), σ))
  exact aw_lp_X (Xp := z_Rf_split_X7 l G E x1) (Y := z_Rf_split_Y7 l G E x1) hl24 K25 (fun s t hf hz => t_Rf_split_B7 hf hz)
theorem c_Rf_split {l : Launch} {G : aw_G} {σ : aw_S} {t : aw_S} (h : m_Rf_split σ = some t) : aw_Ct l yX12_split M_Rf_split G B_Rf_split [.ref 0] xB σ (none, xB, t) := aw_Ct_of (by decide) rfl (fun h => by cases h) (Nat.le_of_ble_eq_true rfl) (t_Rf_split h rfl)
/-! LateMoverModel.isLast(I)Z -/
set_option maxRecDepth 100000 in
set_option maxHeartbeats 4000000 in
theorem t_Rf_isLast {l : Launch} {G : aw_G} {E : aw_E} {σ : aw_S} {p1 : Int32} {t : Int32} (h : m_Rf_isLast σ p1 = some t) (hE : E = (some (.int t), xB, σ)) : aw_W l M_Rf_isLast G B_Rf_isLast E 0 [(0, .ref 0), (1, .int p1)] [] xB σ 0 0 := by
  unfold m_Rf_isLast at h
  refine aw_aload_n (pc := 0) (q := 0) dX12_isLast_0 rfl ?_
  refine aw_getC (pc := 1) fd_X12_33.r xB_0 rfl dX12_isLast_1 ?_
  refine aw_iconst (pc := 4) (v := 2) dX12_isLast_4 (by decide) ?_
  refine aw_iload_n (pc := 5) (q := 1) dX12_isLast_5 rfl ?_
  refine aw_imul (pc := 6) dX12_isLast_6 ?_
  obtain ⟨g1, h⟩ := aw_gde h
  refine aw_iald (pc := 7) xB_7 g1 dX12_isLast_7 ?_
  refine aw_iconst (pc := 8) (v := -1) dX12_isLast_8 (by decide) ?_
  refine aw_icmp_ne (pc := 9) (tgt := 16) dX12_isLast_9 (by decide) (fun c2 => ?_) (fun c2 => ?_)
  · replace h := aw_ifn c2 h
    refine aw_iconst (pc := 16) (v := 0) dX12_isLast_16 (by decide) ?_
    cases h
    subst hE
    exact aw_iret (v := (0 : Int32)) rfl aw_n0 ⟨Nat.zero_le _, Nat.zero_le _⟩ dX12_isLast_17
  · replace h := aw_ifp c2 h
    refine aw_iconst (pc := 12) (v := 1) dX12_isLast_12 (by decide) ?_
    refine aw_goto (pc := 13) (tgt := 17) dX12_isLast_13 (by decide) ?_
    cases h
    subst hE
    exact aw_iret (v := (1 : Int32)) rfl aw_n1 ⟨Nat.zero_le _, Nat.zero_le _⟩ dX12_isLast_17
theorem c_Rf_isLast {l : Launch} {G : aw_G} {σ : aw_S} {p1 : Int32} {t : Int32} (h : m_Rf_isLast σ p1 = some t) : aw_Ct l yX12_isLast M_Rf_isLast G B_Rf_isLast [.ref 0, .int p1] xB σ (some (.int t), xB, σ) := aw_Ct_of (by decide) rfl (fun h => by cases h) (Nat.le_of_ble_eq_true rfl) (t_Rf_isLast h rfl)
/-! LateMoverModel.areAllLeading()Z -/
def z_Rf_areAllLeading_X2 (l : Launch) (G : aw_G) (E : aw_E) (s : Int32 × aw_S) : Prop := aw_W l M_Rf_areAllLeading G B_Rf_areAllLeading E 2 [(0, .ref 0), (1, .int s.1)] [] xB s.2 0 0
def z_Rf_areAllLeading_Y2 (l : Launch) (G : aw_G) (E : aw_E) (x : (aw_S)) : Prop := aw_W l M_Rf_areAllLeading G B_Rf_areAllLeading E 27 [(0, .ref 0)] [] xB x 0 0
def z_Rf_areAllLeading_X29 (l : Launch) (G : aw_G) (E : aw_E) (s : Int32 × aw_S) : Prop := aw_W l M_Rf_areAllLeading G B_Rf_areAllLeading E 29 [(0, .ref 0), (1, .int s.1)] [] xB s.2 0 0
def z_Rf_areAllLeading_Y29 (l : Launch) (G : aw_G) (E : aw_E) (x : (aw_S)) : Prop := aw_W l M_Rf_areAllLeading G B_Rf_areAllLeading E 105 [(0, .ref 0)] [] xB x 0 0
def z_Rf_areAllLeading_X37 (l : Launch) (G : aw_G) (E : aw_E) (s : Int32 × Int32 × aw_S) : Prop := aw_W l M_Rf_areAllLeading G B_Rf_areAllLeading E 37 [(0, .ref 0), (1, .int s.1), (2, .int s.2.1)] [] xB s.2.2 0 0
def z_Rf_areAllLeading_Y37 (l : Launch) (G : aw_G) (E : aw_E) (x : (Int32 × aw_S)) : Prop := aw_W l M_Rf_areAllLeading G B_Rf_areAllLeading E 102 [(0, .ref 0), (1, .int x.1)] [] xB x.2 0 0
def z_Rf_areAllLeading_X107 (l : Launch) (G : aw_G) (E : aw_E) (σ : aw_S) (s : Int32) : Prop := aw_W l M_Rf_areAllLeading G B_Rf_areAllLeading E 107 [(0, .ref 0), (2, .int s)] [] xB σ 0 0
def z_Rf_areAllLeading_Y107 (l : Launch) (G : aw_G) (E : aw_E) (σ : aw_S) (x : (((Int32 × aw_S)) ⊕ (Unit))) : Prop := (Sum.elim (fun r0 => E = (some (.int r0.1), xB, r0.2)) (fun r1 => aw_W l M_Rf_areAllLeading G B_Rf_areAllLeading E 132 [] [] xB σ 0 0)) x
set_option maxRecDepth 100000 in
set_option maxHeartbeats 4000000 in
theorem t_Rf_areAllLeading_B2 {l : Launch} {G : aw_G} {E : aw_E} {σ : aw_S} {v1 : Int32} {t : (aw_S) ⊕ (Int32 × aw_S)} (h : m_Rf_areAllLeading_B2 σ v1 = some t) (hz : Sum.elim (z_Rf_areAllLeading_Y2 l G E) (z_Rf_areAllLeading_X2 l G E) t) : aw_W l M_Rf_areAllLeading G B_Rf_areAllLeading E 2 [(0, .ref 0), (1, .int v1)] [] xB σ 0 0 := by
  unfold m_Rf_areAllLeading_B2 at h
  refine aw_iload_n (pc := 2) (q := 1) dX12_areAllLeading_2 rfl ?_
  refine aw_aload_n (pc := 3) (q := 0) dX12_areAllLeading_3 rfl ?_
  refine aw_getI (pc := 4) fd_X12_215.r xB_0 rfl dX12_areAllLeading_4 ?_
  refine aw_icmp_ge (pc := 7) (tgt := 27) dX12_areAllLeading_7 (by decide) (fun c1 => ?_) (fun c1 => ?_)
  · replace h := aw_ifp c1 h
    refine aw_sub [0] rfl ?_
    cases h
    exact hz
  · replace h := aw_ifn c1 h
    refine aw_aload_n (pc := 10) (q := 0) dX12_areAllLeading_10 rfl ?_
    refine aw_getC (pc := 11) fd_X12_46.r xB_0 rfl dX12_areAllLeading_11 ?_
    refine aw_iload_n (pc := 14) (q := 1) dX12_areAllLeading_14 rfl ?_
    refine aw_aload_n (pc := 15) (q := 0) dX12_areAllLeading_15 rfl ?_
    refine aw_iload_n (pc := 16) (q := 1) dX12_areAllLeading_16 rfl ?_
    obtain ⟨r2, e3, h⟩ := aw_bde h
    refine aw_cV1 (pc := 17) [.int v1] (c_Rf_isLast e3) yy_Rf_isLast.1 wm_764 yy_Rf_isLast.2.1 yy_Rf_isLast.2.2 xB_0 ⟨_, _, rfl⟩ rfl ⟨Nat.le_of_ble_eq_true rfl, Nat.le_of_ble_eq_true rfl⟩ ⟨Nat.zero_le _, Nat.zero_le _⟩ (Nat.le_of_ble_eq_true rfl) dX12_areAllLeading_17 ?_
    obtain ⟨g4, h⟩ := aw_gde h
    refine aw_zast (pc := 20) xB_11 g4 dX12_areAllLeading_20 ?_
    refine aw_nmS (fun s5 e_s5 => ?_)
    replace h := aw_lte h s5 e_s5
    obtain ⟨x6, e_x6⟩ : ∃ z, z = (v1 + (1 : Int32)) := ⟨_, rfl⟩
    replace h := aw_lte h x6 e_x6
    refine aw_iinc (pc := 21) (q := 1) (v := x6) [(1, .int x6), (0, .ref 0)] dX12_areAllLeading_21 rfl e_x6.symm (by decide) rfl ?_
    refine aw_goto (pc := 24) (tgt := 2) dX12_areAllLeading_24 (by decide) ?_
    refine aw_sub [1, 0] rfl ?_
    cases h
    exact hz
set_option maxRecDepth 100000 in
set_option maxHeartbeats 4000000 in
theorem t_Rf_areAllLeading_J96 {l : Launch} {G : aw_G} {E : aw_E} {σ : aw_S} {v1 : Int32} {v2 : Int32} {t : (Int32 × aw_S) ⊕ (Int32 × Int32 × aw_S)} (h : m_Rf_areAllLeading_J96 σ v1 v2 = some t) (hz : Sum.elim (z_Rf_areAllLeading_Y37 l G E) (z_Rf_areAllLeading_X37 l G E) t) : aw_W l M_Rf_areAllLeading G B_Rf_areAllLeading E 96 [(0, .ref 0), (1, .int v1), (2, .int v2)] [] xB σ 0 0 := by
  unfold m_Rf_areAllLeading_J96 at h
  obtain ⟨x14, e_x14⟩ : ∃ z, z = (v2 + (1 : Int32)) := ⟨_, rfl⟩
  replace h := aw_lte h x14 e_x14
  refine aw_iinc (pc := 96) (q := 2) (v := x14) [(2, .int x14), (0, .ref 0), (1, .int v1)] dX12_areAllLeading_96 rfl e_x14.symm (by decide) rfl ?_
  refine aw_goto (pc := 99) (tgt := 37) dX12_areAllLeading_99 (by decide) ?_
  refine aw_sub [1, 2, 0] rfl ?_
  cases h
  exact hz
set_option maxRecDepth 100000 in
set_option maxHeartbeats 4000000 in
theorem t_Rf_areAllLeading_B37 {l : Launch} {G : aw_G} {E : aw_E} {σ : aw_S} {v1 : Int32} {v2 : Int32} {t : (Int32 × aw_S) ⊕ (Int32 × Int32 × aw_S)} (h : m_Rf_areAllLeading_B37 σ v1 v2 = some t) (hz : Sum.elim (z_Rf_areAllLeading_Y37 l G E) (z_Rf_areAllLeading_X37 l G E) t) : aw_W l M_Rf_areAllLeading G B_Rf_areAllLeading E 37 [(0, .ref 0), (1, .int v1), (2, .int v2)] [] xB σ 0 0 := by
  unfold m_Rf_areAllLeading_B37 at h
  refine aw_iload_n (pc := 37) (q := 2) dX12_areAllLeading_37 rfl ?_
  refine aw_iconst (pc := 38) (v := 2) dX12_areAllLeading_38 (by decide) ?_
  refine aw_aload_n (pc := 39) (q := 0) dX12_areAllLeading_39 rfl ?_
  refine aw_getI (pc := 40) fd_X12_215.r xB_0 rfl dX12_areAllLeading_40 ?_
  refine aw_imul (pc := 43) dX12_areAllLeading_43 ?_
  refine aw_icmp_ge (pc := 44) (tgt := 102) dX12_areAllLeading_44 (by decide) (fun c11 => ?_) (fun c11 => ?_)
  · replace h := aw_ifp c11 h
    refine aw_sub [0, 1] rfl ?_
    cases h
    exact hz
  · replace h := aw_ifn c11 h
    refine aw_aload_n (pc := 47) (q := 0) dX12_areAllLeading_47 rfl ?_
    refine aw_getC (pc := 48) fd_X12_33.r xB_0 rfl dX12_areAllLeading_48 ?_
    refine aw_iload_n (pc := 51) (q := 2) dX12_areAllLeading_51 rfl ?_
    obtain ⟨g12, h⟩ := aw_gde h
    refine aw_iald (pc := 52) xB_7 g12 dX12_areAllLeading_52 ?_
    refine aw_iconst (pc := 53) (v := -1) dX12_areAllLeading_53 (by decide) ?_
    refine aw_icmp_eq (pc := 54) (tgt := 96) dX12_areAllLeading_54 (by decide) (fun c13 => ?_) (fun c13 => ?_)
    · replace h := aw_ifp c13 h
      exact t_Rf_areAllLeading_J96 h hz
    · replace h := aw_ifn c13 h
      refine aw_aload_n (pc := 57) (q := 0) dX12_areAllLeading_57 rfl ?_
      refine aw_getC (pc := 58) fd_X12_46.r xB_0 rfl dX12_areAllLeading_58 ?_
      refine aw_aload_n (pc := 61) (q := 0) dX12_areAllLeading_61 rfl ?_
      refine aw_getC (pc := 62) fd_X12_33.r xB_0 rfl dX12_areAllLeading_62 ?_
      refine aw_iload_n (pc := 65) (q := 2) dX12_areAllLeading_65 rfl ?_
      obtain ⟨g15, h⟩ := aw_gde h
      refine aw_iald (pc := 66) xB_7 g15 dX12_areAllLeading_66 ?_
      obtain ⟨g16, h⟩ := aw_gde h
      refine aw_zald (pc := 67) xB_11 g16 dX12_areAllLeading_67 ?_
      refine aw_if_eq (pc := 68) (tgt := 96) dX12_areAllLeading_68 (by decide) (fun c17 => ?_) (fun c17 => ?_)
      · replace h := aw_ifp c17 h
        exact t_Rf_areAllLeading_J96 h hz
      · replace h := aw_ifn c17 h
        refine aw_aload_n (pc := 71) (q := 0) dX12_areAllLeading_71 rfl ?_
        refine aw_getC (pc := 72) fd_X12_46.r xB_0 rfl dX12_areAllLeading_72 ?_
        refine aw_iload_n (pc := 75) (q := 2) dX12_areAllLeading_75 rfl ?_
        refine aw_iconst (pc := 76) (v := 2) dX12_areAllLeading_76 (by decide) ?_
        refine aw_idiv (pc := 77) dX12_areAllLeading_77 (by decide) ?_
        obtain ⟨g18, h⟩ := aw_gde h
        refine aw_zald (pc := 78) xB_11 g18 dX12_areAllLeading_78 ?_
        refine aw_if_eq (pc := 79) (tgt := 85) dX12_areAllLeading_79 (by decide) (fun c19 => ?_) (fun c19 => ?_)
        · replace h := aw_ifp c19 h
          refine aw_aload_n (pc := 85) (q := 0) dX12_areAllLeading_85 rfl ?_
          refine aw_getC (pc := 86) fd_X12_46.r xB_0 rfl dX12_areAllLeading_86 ?_
          refine aw_iload_n (pc := 89) (q := 2) dX12_areAllLeading_89 rfl ?_
          refine aw_iconst (pc := 90) (v := 2) dX12_areAllLeading_90 (by decide) ?_
          refine aw_idiv (pc := 91) dX12_areAllLeading_91 (by decide) ?_
          refine aw_iconst (pc := 92) (v := 1) dX12_areAllLeading_92 (by decide) ?_
          obtain ⟨g20, h⟩ := aw_gde h
          refine aw_zast (pc := 93) xB_11 g20 dX12_areAllLeading_93 ?_
          refine aw_nmS (fun s21 e_s21 => ?_)
          replace h := aw_lte h s21 e_s21
          refine aw_iconst (pc := 94) (v := 1) dX12_areAllLeading_94 (by decide) ?_
          refine aw_istore_n (pc := 95) [(1, .int ((1 : Int32))), (0, .ref 0), (2, .int v2)] dX12_areAllLeading_95 (by decide) rfl ?_
          refine aw_sub [1, 0, 2] rfl ?_
          exact t_Rf_areAllLeading_J96 h hz
        · replace h := aw_ifn c19 h
          refine aw_goto (pc := 82) (tgt := 96) dX12_areAllLeading_82 (by decide) ?_
          exact t_Rf_areAllLeading_J96 h hz
set_option maxRecDepth 100000 in
set_option maxHeartbeats 4000000 in
theorem t_Rf_areAllLeading_B29 {l : Launch} {G : aw_G} {E : aw_E} {σ : aw_S} {v1 : Int32} {t : (aw_S) ⊕ (Int32 × aw_S)} (h : m_Rf_areAllLeading_B29 σ v1 = some t) (hz : Sum.elim (z_Rf_areAllLeading_Y29 l G E) (z_Rf_areAllLeading_X29 l G E) t) : aw_W l M_Rf_areAllLeading G B_Rf_areAllLeading E 29 [(0, .ref 0), (1, .int v1)] [] xB σ 0 0 := by
  unfold m_Rf_areAllLeading_B29 at h
  refine aw_iload_n (pc := 29) (q := 1) dX12_areAllLeading_29 rfl ?_
  refine aw_if_eq (pc := 30) (tgt := 105) dX12_areAllLeading_30 (by decide) (fun c10 => ?_) (fun c10 => ?_)
  · replace h := aw_ifp c10 h
    refine aw_sub [0] rfl ?_
    cases h
    exact hz
  · replace h := aw_ifn c10 h
    refine aw_iconst (pc := 33) (v := 0) dX12_areAllLeading_33 (by decide) ?_
    refine aw_istore_n (pc := 34) [(1, .int ((0 : Int32))), (0, .ref 0)] dX12_areAllLeading_34 (by decide) rfl ?_
    refine aw_iconst (pc := 35) (v := 0) dX12_areAllLeading_35 (by decide) ?_
    refine aw_istore_n (pc := 36) [(2, .int ((0 : Int32))), (1, .int ((0 : Int32))), (0, .ref 0)] dX12_areAllLeading_36 (by decide) rfl ?_
    obtain ⟨x22, hl23, h⟩ := aw_bde h
    have K24 : z_Rf_areAllLeading_Y37 l G E x22 := by
      show aw_W l M_Rf_areAllLeading G B_Rf_areAllLeading E 102 [(0, .ref 0), (1, .int x22.1)] [] xB x22.2 0 0
      refine aw_goto (pc := 102) (tgt := 29) dX12_areAllLeading_102 (by decide) ?_
      refine aw_sub [0, 1] rfl ?_
      cases h
      exact hz
    refine aw_sub [2, 1, 0] rfl ?_
    show z_Rf_areAllLeading_X37 l G E (((0 : Int32), (0 : Int32), σ))
    exact aw_lp_X (Xp := z_Rf_areAllLeading_X37 l G E) (Y := z_Rf_areAllLeading_Y37 l G E) hl23 K24 (fun s t hf hz => t_Rf_areAllLeading_B37 hf hz)
set_option maxRecDepth 100000 in
set_option maxHeartbeats 4000000 in
theorem t_Rf_areAllLeading_B107 {l : Launch} {G : aw_G} {E : aw_E} {σ : aw_S} {v2 : Int32} {t : (((Int32 × aw_S)) ⊕ (Unit)) ⊕ Int32} (h : m_Rf_areAllLeading_B107 σ v2 = some t) (hz : Sum.elim (z_Rf_areAllLeading_Y107 l G E σ) (z_Rf_areAllLeading_X107 l G E σ) t) : aw_W l M_Rf_areAllLeading G B_Rf_areAllLeading E 107 [(0, .ref 0), (2, .int v2)] [] xB σ 0 0 := by
  unfold m_Rf_areAllLeading_B107 at h
  refine aw_iload_n (pc := 107) (q := 1) dX12_areAllLeading_107 rfl ?_
  refine aw_aload_n (pc := 108) (q := 0) dX12_areAllLeading_108 rfl ?_
  refine aw_getI (pc := 109) fd_X12_215.r xB_0 rfl dX12_areAllLeading_109 ?_
  refine aw_icmp_ge (pc := 112) (tgt := 132) dX12_areAllLeading_112 (by decide) (fun c28 => ?_) (fun c28 => ?_)
  · replace h := aw_ifp c28 h
    refine aw_sub [] rfl ?_
    cases h
    exact hz
  · replace h := aw_ifn c28 h
    refine aw_aload_n (pc := 115) (q := 0) dX12_areAllLeading_115 rfl ?_
    refine aw_getC (pc := 116) fd_X12_46.r xB_0 rfl dX12_areAllLeading_116 ?_
    refine aw_iload_n (pc := 119) (q := 1) dX12_areAllLeading_119 rfl ?_
    obtain ⟨g29, h⟩ := aw_gde h
    refine aw_zald (pc := 120) xB_11 g29 dX12_areAllLeading_120 ?_
    refine aw_if_ne (pc := 121) (tgt := 126) dX12_areAllLeading_121 (by decide) (fun c30 => ?_) (fun c30 => ?_)
    · replace h := aw_ifn c30 h
      obtain ⟨x31, e_x31⟩ : ∃ z, z = (v2 + (1 : Int32)) := ⟨_, rfl⟩
      replace h := aw_lte h x31 e_x31
      refine aw_iinc (pc := 126) (q := 1) (v := x31) [(2, .int x31), (0, .ref 0)] dX12_areAllLeading_126 rfl e_x31.symm (by decide) rfl ?_
      refine aw_goto (pc := 129) (tgt := 107) dX12_areAllLeading_129 (by decide) ?_
      refine aw_sub [1, 0] rfl ?_
      cases h
      exact hz
    · replace h := aw_ifp c30 h
      refine aw_iconst (pc := 124) (v := 0) dX12_areAllLeading_124 (by decide) ?_
      cases h
      have hE : E = _ := hz
      subst hE
      exact aw_iret (v := (0 : Int32)) rfl aw_n0 ⟨Nat.zero_le _, Nat.zero_le _⟩ dX12_areAllLeading_125
set_option maxRecDepth 100000 in
set_option maxHeartbeats 4000000 in
theorem t_Rf_areAllLeading {l : Launch} {G : aw_G} {E : aw_E} {σ : aw_S} {t : (Int32 × aw_S)} (h : m_Rf_areAllLeading σ = some t) (hE : E = (some (.int t.1), xB, t.2)) : aw_W l M_Rf_areAllLeading G B_Rf_areAllLeading E 0 [(0, .ref 0)] [] xB σ 0 0 := by
  unfold m_Rf_areAllLeading at h
  refine aw_iconst (pc := 0) (v := 0) dX12_areAllLeading_0 (by decide) ?_
  refine aw_istore_n (pc := 1) [(1, .int ((0 : Int32))), (0, .ref 0)] dX12_areAllLeading_1 (by decide) rfl ?_
  obtain ⟨x7, hl8, h⟩ := aw_bde h
  have K9 : z_Rf_areAllLeading_Y2 l G E x7 := by
    show aw_W l M_Rf_areAllLeading G B_Rf_areAllLeading E 27 [(0, .ref 0)] [] xB x7 0 0
    refine aw_iconst (pc := 27) (v := 1) dX12_areAllLeading_27 (by decide) ?_
    refine aw_istore_n (pc := 28) [(1, .int ((1 : Int32))), (0, .ref 0)] dX12_areAllLeading_28 (by decide) rfl ?_
    obtain ⟨x25, hl26, h⟩ := aw_bde h
    have K27 : z_Rf_areAllLeading_Y29 l G E x25 := by
      show aw_W l M_Rf_areAllLeading G B_Rf_areAllLeading E 105 [(0, .ref 0)] [] xB x25 0 0
      refine aw_iconst (pc := 105) (v := 0) dX12_areAllLeading_105 (by decide) ?_
      refine aw_istore_n (pc := 106) [(2, .int ((0 : Int32))), (0, .ref 0)] dX12_areAllLeading_106 (by decide) rfl ?_
      obtain ⟨x32, hl33, h⟩ := aw_bde h
      have K34 : z_Rf_areAllLeading_Y107 l G E x25 x32 := by
        cases x32 with
        | inl y35 =>
          replace h := aw_eL h
          show E = _
          cases h
          exact hE
        | inr y36 =>
          replace h := aw_eR h
          show aw_W l M_Rf_areAllLeading G B_Rf_areAllLeading E 132 [] [] xB x25 0 0
          refine aw_iconst (pc := 132) (v := 1) dX12_areAllLeading_132 (by decide) ?_
          cases h
          subst hE
          exact aw_iret (v := (1 : Int32)) rfl aw_n1 ⟨Nat.zero_le _, Nat.zero_le _⟩ dX12_areAllLeading_133
      refine aw_sub [1, 0] rfl ?_
      show z_Rf_areAllLeading_X107 l G E x25 ((0 : Int32))
      exact aw_lp_X (Xp := z_Rf_areAllLeading_X107 l G E x25) (Y := z_Rf_areAllLeading_Y107 l G E x25) hl33 K34 (fun s t hf hz => t_Rf_areAllLeading_B107 hf hz)
    refine aw_sub [1, 0] rfl ?_
    show z_Rf_areAllLeading_X29 l G E (((1 : Int32), x7))
    exact aw_lp_X (Xp := z_Rf_areAllLeading_X29 l G E) (Y := z_Rf_areAllLeading_Y29 l G E) hl26 K27 (fun s t hf hz => t_Rf_areAllLeading_B29 hf hz)
  refine aw_sub [1, 0] rfl ?_
  show z_Rf_areAllLeading_X2 l G E (((0 : Int32), σ))
  exact aw_lp_X (Xp := z_Rf_areAllLeading_X2 l G E) (Y := z_Rf_areAllLeading_Y2 l G E) hl8 K9 (fun s t hf hz => t_Rf_areAllLeading_B2 hf hz)
theorem c_Rf_areAllLeading {l : Launch} {G : aw_G} {σ : aw_S} {t : (Int32 × aw_S)} (h : m_Rf_areAllLeading σ = some t) : aw_Ct l yX12_areAllLeading M_Rf_areAllLeading G B_Rf_areAllLeading [.ref 0] xB σ (some (.int t.1), xB, t.2) := aw_Ct_of (by decide) rfl (fun h => by cases h) (Nat.le_of_ble_eq_true rfl) (t_Rf_areAllLeading h rfl)
/-! LateMoverModel.expressionOf(I)I -/
set_option maxRecDepth 100000 in
set_option maxHeartbeats 4000000 in
theorem t_Rf_expressionOf {l : Launch} {G : aw_G} {E : aw_E} {σ : aw_S} {p1 : Int32} {t : Int32} (h : m_Rf_expressionOf σ p1 = some t) (hE : E = (some (.int t), xB, σ)) : aw_W l M_Rf_expressionOf G B_Rf_expressionOf E 0 [(0, .ref 0), (1, .int p1)] [] xB σ 0 0 := by
  unfold m_Rf_expressionOf at h
  refine aw_aload_n (pc := 0) (q := 0) dX12_expressionOf_0 rfl ?_
  refine aw_getC (pc := 1) fd_X12_24.r xB_0 rfl dX12_expressionOf_1 ?_
  refine aw_iload_n (pc := 4) (q := 1) dX12_expressionOf_4 rfl ?_
  obtain ⟨g1, h⟩ := aw_gde h
  refine aw_iald (pc := 5) xB_4 g1 dX12_expressionOf_5 ?_
  refine aw_iconst (pc := 6) (v := 2) dX12_expressionOf_6 (by decide) ?_
  refine aw_icmp_ne (pc := 7) (tgt := 26) dX12_expressionOf_7 (by decide) (fun c2 => ?_) (fun c2 => ?_)
  · replace h := aw_ifn c2 h
    refine aw_iconst (pc := 26) (v := -1) dX12_expressionOf_26 (by decide) ?_
    cases h
    subst hE
    exact aw_iret (v := (-1 : Int32)) rfl aw_ni ⟨Nat.zero_le _, Nat.zero_le _⟩ dX12_expressionOf_27
  · replace h := aw_ifp c2 h
    refine aw_aload_n (pc := 10) (q := 0) dX12_expressionOf_10 rfl ?_
    refine aw_bipush (pc := 11) (v := 124) dX12_expressionOf_11 (by decide) ?_
    refine aw_aload_n (pc := 13) (q := 0) dX12_expressionOf_13 rfl ?_
    refine aw_getC (pc := 14) fd_X12_30.r xB_0 rfl dX12_expressionOf_14 ?_
    refine aw_iload_n (pc := 17) (q := 1) dX12_expressionOf_17 rfl ?_
    obtain ⟨g3, h⟩ := aw_gde h
    refine aw_iald (pc := 18) xB_6 g3 dX12_expressionOf_18 ?_
    refine aw_iadd (pc := 19) dX12_expressionOf_19 ?_
    obtain ⟨r4, e5, h⟩ := aw_bde h
    refine aw_cV1 (pc := 20) [.int (((124 : Int32) + (σ.1 6 p1.toNatClampNeg)))] (c_Rf_get e5) yy_Rf_get.1 wm_736 yy_Rf_get.2.1 yy_Rf_get.2.2 xB_0 ⟨_, _, rfl⟩ rfl ⟨Nat.le_of_ble_eq_true rfl, Nat.le_of_ble_eq_true rfl⟩ ⟨Nat.zero_le _, Nat.zero_le _⟩ (Nat.le_of_ble_eq_true rfl) dX12_expressionOf_20 ?_
    refine aw_goto (pc := 23) (tgt := 27) dX12_expressionOf_23 (by decide) ?_
    cases h
    subst hE
    exact aw_iret (v := _) rfl aw_ni ⟨Nat.zero_le _, Nat.zero_le _⟩ dX12_expressionOf_27
theorem c_Rf_expressionOf {l : Launch} {G : aw_G} {σ : aw_S} {p1 : Int32} {t : Int32} (h : m_Rf_expressionOf σ p1 = some t) : aw_Ct l yX12_expressionOf M_Rf_expressionOf G B_Rf_expressionOf [.ref 0, .int p1] xB σ (some (.int t), xB, σ) := aw_Ct_of (by decide) rfl (fun h => by cases h) (Nat.le_of_ble_eq_true rfl) (t_Rf_expressionOf h rfl)
/-! LateMoverModel.doesUse(II)Z -/
set_option maxRecDepth 100000 in
set_option maxHeartbeats 4000000 in
theorem t_Rf_doesUse {l : Launch} {G : aw_G} {E : aw_E} {σ : aw_S} {p1 : Int32} {p2 : Int32} {t : Int32} (h : m_Rf_doesUse σ p1 p2 = some t) (hE : E = (some (.int t), xB, σ)) : aw_W l M_Rf_doesUse G B_Rf_doesUse E 0 [(0, .ref 0), (1, .int p1), (2, .int p2)] [] xB σ 0 0 := by
  unfold m_Rf_doesUse at h
  refine aw_aload_n (pc := 0) (q := 0) dX12_doesUse_0 rfl ?_
  refine aw_iload_n (pc := 1) (q := 2) dX12_doesUse_1 rfl ?_
  obtain ⟨r1, e2, h⟩ := aw_bde h
  refine aw_cV1 (pc := 2) [.int p2] (c_Rf_expressionOf e2) yy_Rf_expressionOf.1 wm_776 yy_Rf_expressionOf.2.1 yy_Rf_expressionOf.2.2 xB_0 ⟨_, _, rfl⟩ rfl ⟨Nat.le_of_ble_eq_true rfl, Nat.le_of_ble_eq_true rfl⟩ ⟨Nat.zero_le _, Nat.zero_le _⟩ (Nat.le_of_ble_eq_true rfl) dX12_doesUse_2 ?_
  refine aw_iload_n (pc := 5) (q := 1) dX12_doesUse_5 rfl ?_
  refine aw_icmp_ne (pc := 6) (tgt := 13) dX12_doesUse_6 (by decide) (fun c3 => ?_) (fun c3 => ?_)
  · replace h := aw_ifn c3 h
    refine aw_iconst (pc := 13) (v := 0) dX12_doesUse_13 (by decide) ?_
    cases h
    subst hE
    exact aw_iret (v := (0 : Int32)) rfl aw_n0 ⟨Nat.zero_le _, Nat.zero_le _⟩ dX12_doesUse_14
  · replace h := aw_ifp c3 h
    refine aw_iconst (pc := 9) (v := 1) dX12_doesUse_9 (by decide) ?_
    refine aw_goto (pc := 10) (tgt := 14) dX12_doesUse_10 (by decide) ?_
    cases h
    subst hE
    exact aw_iret (v := (1 : Int32)) rfl aw_n1 ⟨Nat.zero_le _, Nat.zero_le _⟩ dX12_doesUse_14
theorem c_Rf_doesUse {l : Launch} {G : aw_G} {σ : aw_S} {p1 : Int32} {p2 : Int32} {t : Int32} (h : m_Rf_doesUse σ p1 p2 = some t) : aw_Ct l yX12_doesUse M_Rf_doesUse G B_Rf_doesUse [.ref 0, .int p1, .int p2] xB σ (some (.int t), xB, σ) := aw_Ct_of (by decide) rfl (fun h => by cases h) (Nat.le_of_ble_eq_true rfl) (t_Rf_doesUse h rfl)
/-! LateMoverModel.cell(III)I -/
set_option maxRecDepth 100000 in
set_option maxHeartbeats 4000000 in
theorem t_Rf_cell {l : Launch} {G : aw_G} {E : aw_E} {σ : aw_S} {p0 : Int32} {p1 : Int32} {p2 : Int32} {t : Int32} (h : m_Rf_cell σ p0 p1 p2 = some t) (hE : E = (some (.int t), xB, σ)) : aw_W l M_Rf_cell G B_Rf_cell E 0 [(0, .int p0), (1, .int p1), (2, .int p2)] [] xB σ 0 0 := by
  unfold m_Rf_cell at h
  refine aw_bipush (pc := 0) (v := 112) dX12_cell_0 (by decide) ?_
  refine aw_bipush (pc := 2) (v := 24) dX12_cell_2 (by decide) ?_
  refine aw_iload_n (pc := 4) (q := 0) dX12_cell_4 rfl ?_
  refine aw_imul (pc := 5) dX12_cell_5 ?_
  refine aw_iload_n (pc := 6) (q := 1) dX12_cell_6 rfl ?_
  refine aw_iadd (pc := 7) dX12_cell_7 ?_
  refine aw_imul (pc := 8) dX12_cell_8 ?_
  refine aw_iload_n (pc := 9) (q := 2) dX12_cell_9 rfl ?_
  refine aw_iadd (pc := 10) dX12_cell_10 ?_
  cases h
  subst hE
  exact aw_iret (v := (((112 : Int32) * (((24 : Int32) * p0) + p1)) + p2)) rfl aw_ni ⟨Nat.zero_le _, Nat.zero_le _⟩ dX12_cell_11
theorem c_Rf_cell {l : Launch} {G : aw_G} {σ : aw_S} {p0 : Int32} {p1 : Int32} {p2 : Int32} {t : Int32} (h : m_Rf_cell σ p0 p1 p2 = some t) : aw_Ct l yX12_cell M_Rf_cell G B_Rf_cell [.int p0, .int p1, .int p2] xB σ (some (.int t), xB, σ) := aw_Ct_of (by decide) rfl (fun h => by cases h) (Nat.le_of_ble_eq_true rfl) (t_Rf_cell h rfl)
/-! LateMoverModel.set(IIIZ)V -/
set_option maxRecDepth 100000 in
set_option maxHeartbeats 4000000 in
theorem t_Rf_set {l : Launch} {G : aw_G} {E : aw_E} {σ : aw_S} {p1 : Int32} {p2 : Int32} {p3 : Int32} {p4 : Int32} {t : aw_S} (h : m_Rf_set σ p1 p2 p3 p4 = some t) (hE : E = (none, xB, t)) : aw_W l M_Rf_set G B_Rf_set E 0 [(0, .ref 0), (1, .int p1), (2, .int p2), (3, .int p3), (4, .int p4)] [] xB σ 0 0 := by
  unfold m_Rf_set at h
  refine aw_aload_n (pc := 0) (q := 0) dX12_set_0 rfl ?_
  refine aw_getC (pc := 1) fd_X12_49.r xB_0 rfl dX12_set_1 ?_
  refine aw_iload_n (pc := 4) (q := 1) dX12_set_4 rfl ?_
  refine aw_iload_n (pc := 5) (q := 2) dX12_set_5 rfl ?_
  refine aw_iload_n (pc := 6) (q := 3) dX12_set_6 rfl ?_
  obtain ⟨r1, e2, h⟩ := aw_bde h
  refine aw_cS1 (pc := 7) [.int p1, .int p2, .int p3] (c_Rf_cell e2) yy_Rf_cell.1 wm_784 yy_Rf_cell.2 rfl ⟨Nat.le_of_ble_eq_true rfl, Nat.le_of_ble_eq_true rfl⟩ ⟨Nat.zero_le _, Nat.zero_le _⟩ (Nat.le_of_ble_eq_true rfl) dX12_set_7 ?_
  refine aw_iload (pc := 10) (q := 4) dX12_set_10 rfl ?_
  obtain ⟨g3, h⟩ := aw_gde h
  refine aw_zast (pc := 12) xB_12 g3 dX12_set_12 ?_
  refine aw_nmS (fun s4 e_s4 => ?_)
  replace h := aw_lte h s4 e_s4
  cases h
  subst hE
  exact aw_vret rfl ⟨Nat.zero_le _, Nat.zero_le _⟩ dX12_set_13
theorem c_Rf_set {l : Launch} {G : aw_G} {σ : aw_S} {p1 : Int32} {p2 : Int32} {p3 : Int32} {p4 : Int32} {t : aw_S} (h : m_Rf_set σ p1 p2 p3 p4 = some t) : aw_Ct l yX12_set M_Rf_set G B_Rf_set [.ref 0, .int p1, .int p2, .int p3, .int p4] xB σ (none, xB, t) := aw_Ct_of (by decide) rfl (fun h => by cases h) (Nat.le_of_ble_eq_true rfl) (t_Rf_set h rfl)
/-! LateMoverModel.changed(I)I -/
set_option maxRecDepth 100000 in
set_option maxHeartbeats 4000000 in
theorem t_Rf_changed_J20 {l : Launch} {G : aw_G} {E : aw_E} {σ : aw_S} {v1 : Int32} {t : Int32} (h : m_Rf_changed_J20 σ v1 = some t) (hE : E = (some (.int t), xB, σ)) : aw_W l M_Rf_changed G B_Rf_changed E 20 [(0, .ref 0), (1, .int v1)] [] xB σ 0 0 := by
  unfold m_Rf_changed_J20 at h
  refine aw_aload_n (pc := 20) (q := 0) dX12_changed_20 rfl ?_
  refine aw_bipush (pc := 21) (v := 64) dX12_changed_21 (by decide) ?_
  refine aw_aload_n (pc := 23) (q := 0) dX12_changed_23 rfl ?_
  refine aw_getC (pc := 24) fd_X12_30.r xB_0 rfl dX12_changed_24 ?_
  refine aw_iload_n (pc := 27) (q := 1) dX12_changed_27 rfl ?_
  obtain ⟨g3, h⟩ := aw_gde h
  refine aw_iald (pc := 28) xB_6 g3 dX12_changed_28 ?_
  refine aw_iadd (pc := 29) dX12_changed_29 ?_
  obtain ⟨r4, e5, h⟩ := aw_bde h
  refine aw_cV1 (pc := 30) [.int (((64 : Int32) + (σ.1 6 v1.toNatClampNeg)))] (c_Rf_get e5) yy_Rf_get.1 wm_736 yy_Rf_get.2.1 yy_Rf_get.2.2 xB_0 ⟨_, _, rfl⟩ rfl ⟨Nat.le_of_ble_eq_true rfl, Nat.le_of_ble_eq_true rfl⟩ ⟨Nat.zero_le _, Nat.zero_le _⟩ (Nat.le_of_ble_eq_true rfl) dX12_changed_30 ?_
  refine aw_goto (pc := 33) (tgt := 37) dX12_changed_33 (by decide) ?_
  cases h
  subst hE
  exact aw_iret (v := _) rfl aw_ni ⟨Nat.zero_le _, Nat.zero_le _⟩ dX12_changed_37
set_option maxRecDepth 100000 in
set_option maxHeartbeats 4000000 in
theorem t_Rf_changed {l : Launch} {G : aw_G} {E : aw_E} {σ : aw_S} {p1 : Int32} {t : Int32} (h : m_Rf_changed σ p1 = some t) (hE : E = (some (.int t), xB, σ)) : aw_W l M_Rf_changed G B_Rf_changed E 0 [(0, .ref 0), (1, .int p1)] [] xB σ 0 0 := by
  unfold m_Rf_changed at h
  refine aw_aload_n (pc := 0) (q := 0) dX12_changed_0 rfl ?_
  refine aw_getC (pc := 1) fd_X12_24.r xB_0 rfl dX12_changed_1 ?_
  refine aw_iload_n (pc := 4) (q := 1) dX12_changed_4 rfl ?_
  obtain ⟨g1, h⟩ := aw_gde h
  refine aw_iald (pc := 5) xB_4 g1 dX12_changed_5 ?_
  refine aw_iconst (pc := 6) (v := 1) dX12_changed_6 (by decide) ?_
  refine aw_icmp_eq (pc := 7) (tgt := 20) dX12_changed_7 (by decide) (fun c2 => ?_) (fun c2 => ?_)
  · replace h := aw_ifp c2 h
    exact t_Rf_changed_J20 h hE
  · replace h := aw_ifn c2 h
    refine aw_aload_n (pc := 10) (q := 0) dX12_changed_10 rfl ?_
    refine aw_getC (pc := 11) fd_X12_24.r xB_0 rfl dX12_changed_11 ?_
    refine aw_iload_n (pc := 14) (q := 1) dX12_changed_14 rfl ?_
    obtain ⟨g6, h⟩ := aw_gde h
    refine aw_iald (pc := 15) xB_4 g6 dX12_changed_15 ?_
    refine aw_iconst (pc := 16) (v := 2) dX12_changed_16 (by decide) ?_
    refine aw_icmp_ne (pc := 17) (tgt := 36) dX12_changed_17 (by decide) (fun c7 => ?_) (fun c7 => ?_)
    · replace h := aw_ifn c7 h
      refine aw_iconst (pc := 36) (v := -1) dX12_changed_36 (by decide) ?_
      cases h
      subst hE
      exact aw_iret (v := (-1 : Int32)) rfl aw_ni ⟨Nat.zero_le _, Nat.zero_le _⟩ dX12_changed_37
    · replace h := aw_ifp c7 h
      exact t_Rf_changed_J20 h hE
theorem c_Rf_changed {l : Launch} {G : aw_G} {σ : aw_S} {p1 : Int32} {t : Int32} (h : m_Rf_changed σ p1 = some t) : aw_Ct l yX12_changed M_Rf_changed G B_Rf_changed [.ref 0, .int p1] xB σ (some (.int t), xB, σ) := aw_Ct_of (by decide) rfl (fun h => by cases h) (Nat.le_of_ble_eq_true rfl) (t_Rf_changed h rfl)
/-! LateMoverModel.isRisky(I)Z -/
set_option maxRecDepth 100000 in
set_option maxHeartbeats 4000000 in
theorem t_Rf_isRisky_J28 {l : Launch} {G : aw_G} {E : aw_E} {σ : aw_S} {v1 : Int32} {t : Int32} (h : m_Rf_isRisky_J28 σ v1 = some t) (hE : E = (some (.int t), xB, σ)) : aw_W l M_Rf_isRisky G B_Rf_isRisky E 28 [(0, .ref 0), (1, .int v1)] [] xB σ 0 0 := by
  unfold m_Rf_isRisky_J28 at h
  refine aw_aload_n (pc := 28) (q := 0) dX12_isRisky_28 rfl ?_
  refine aw_sipush (pc := 29) (v := 292) dX12_isRisky_29 (by decide) ?_
  refine aw_iconst (pc := 32) (v := 2) dX12_isRisky_32 (by decide) ?_
  refine aw_iload_n (pc := 33) (q := 1) dX12_isRisky_33 rfl ?_
  refine aw_imul (pc := 34) dX12_isRisky_34 ?_
  refine aw_iadd (pc := 35) dX12_isRisky_35 ?_
  refine aw_iconst (pc := 36) (v := 1) dX12_isRisky_36 (by decide) ?_
  refine aw_iadd (pc := 37) dX12_isRisky_37 ?_
  obtain ⟨r4, e5, h⟩ := aw_bde h
  refine aw_cV1 (pc := 38) [.int ((((292 : Int32) + ((2 : Int32) * v1)) + (1 : Int32)))] (c_Rf_get e5) yy_Rf_get.1 wm_736 yy_Rf_get.2.1 yy_Rf_get.2.2 xB_0 ⟨_, _, rfl⟩ rfl ⟨Nat.le_of_ble_eq_true rfl, Nat.le_of_ble_eq_true rfl⟩ ⟨Nat.zero_le _, Nat.zero_le _⟩ (Nat.le_of_ble_eq_true rfl) dX12_isRisky_38 ?_
  refine aw_bipush (pc := 41) (v := 27) dX12_isRisky_41 (by decide) ?_
  refine aw_icmp_ge (pc := 43) (tgt := 50) dX12_isRisky_43 (by decide) (fun c6 => ?_) (fun c6 => ?_)
  · replace h := aw_ifp c6 h
    refine aw_iconst (pc := 50) (v := 0) dX12_isRisky_50 (by decide) ?_
    cases h
    subst hE
    exact aw_iret (v := (0 : Int32)) rfl aw_n0 ⟨Nat.zero_le _, Nat.zero_le _⟩ dX12_isRisky_51
  · replace h := aw_ifn c6 h
    refine aw_iconst (pc := 46) (v := 1) dX12_isRisky_46 (by decide) ?_
    refine aw_goto (pc := 47) (tgt := 51) dX12_isRisky_47 (by decide) ?_
    cases h
    subst hE
    exact aw_iret (v := (1 : Int32)) rfl aw_n1 ⟨Nat.zero_le _, Nat.zero_le _⟩ dX12_isRisky_51
set_option maxRecDepth 100000 in
set_option maxHeartbeats 4000000 in
theorem t_Rf_isRisky {l : Launch} {G : aw_G} {E : aw_E} {σ : aw_S} {p1 : Int32} {t : Int32} (h : m_Rf_isRisky σ p1 = some t) (hE : E = (some (.int t), xB, σ)) : aw_W l M_Rf_isRisky G B_Rf_isRisky E 0 [(0, .ref 0), (1, .int p1)] [] xB σ 0 0 := by
  unfold m_Rf_isRisky at h
  refine aw_aload_n (pc := 0) (q := 0) dX12_isRisky_0 rfl ?_
  refine aw_sipush (pc := 1) (v := 268) dX12_isRisky_1 (by decide) ?_
  refine aw_iload_n (pc := 4) (q := 1) dX12_isRisky_4 rfl ?_
  refine aw_iadd (pc := 5) dX12_isRisky_5 ?_
  obtain ⟨r1, e2, h⟩ := aw_bde h
  refine aw_cV1 (pc := 6) [.int (((268 : Int32) + p1))] (c_Rf_get e2) yy_Rf_get.1 wm_736 yy_Rf_get.2.1 yy_Rf_get.2.2 xB_0 ⟨_, _, rfl⟩ rfl ⟨Nat.le_of_ble_eq_true rfl, Nat.le_of_ble_eq_true rfl⟩ ⟨Nat.zero_le _, Nat.zero_le _⟩ (Nat.le_of_ble_eq_true rfl) dX12_isRisky_6 ?_
  refine aw_bipush (pc := 9) (v := 47) dX12_isRisky_9 (by decide) ?_
  refine aw_icmp_eq (pc := 11) (tgt := 28) dX12_isRisky_11 (by decide) (fun c3 => ?_) (fun c3 => ?_)
  · replace h := aw_ifp c3 h
    exact t_Rf_isRisky_J28 h hE
  · replace h := aw_ifn c3 h
    refine aw_aload_n (pc := 14) (q := 0) dX12_isRisky_14 rfl ?_
    refine aw_sipush (pc := 15) (v := 268) dX12_isRisky_15 (by decide) ?_
    refine aw_iload_n (pc := 18) (q := 1) dX12_isRisky_18 rfl ?_
    refine aw_iadd (pc := 19) dX12_isRisky_19 ?_
    obtain ⟨r7, e8, h⟩ := aw_bde h
    refine aw_cV1 (pc := 20) [.int (((268 : Int32) + p1))] (c_Rf_get e8) yy_Rf_get.1 wm_736 yy_Rf_get.2.1 yy_Rf_get.2.2 xB_0 ⟨_, _, rfl⟩ rfl ⟨Nat.le_of_ble_eq_true rfl, Nat.le_of_ble_eq_true rfl⟩ ⟨Nat.zero_le _, Nat.zero_le _⟩ (Nat.le_of_ble_eq_true rfl) dX12_isRisky_20 ?_
    refine aw_bipush (pc := 23) (v := 37) dX12_isRisky_23 (by decide) ?_
    refine aw_icmp_ne (pc := 25) (tgt := 50) dX12_isRisky_25 (by decide) (fun c9 => ?_) (fun c9 => ?_)
    · replace h := aw_ifn c9 h
      refine aw_iconst (pc := 50) (v := 0) dX12_isRisky_50 (by decide) ?_
      cases h
      subst hE
      exact aw_iret (v := (0 : Int32)) rfl aw_n0 ⟨Nat.zero_le _, Nat.zero_le _⟩ dX12_isRisky_51
    · replace h := aw_ifp c9 h
      exact t_Rf_isRisky_J28 h hE
theorem c_Rf_isRisky {l : Launch} {G : aw_G} {σ : aw_S} {p1 : Int32} {t : Int32} (h : m_Rf_isRisky σ p1 = some t) : aw_Ct l yX12_isRisky M_Rf_isRisky G B_Rf_isRisky [.ref 0, .int p1] xB σ (some (.int t), xB, σ) := aw_Ct_of (by decide) rfl (fun h => by cases h) (Nat.le_of_ble_eq_true rfl) (t_Rf_isRisky h rfl)
/-! LateMoverModel.doesKeep(II)Z -/
set_option maxRecDepth 100000 in
set_option maxHeartbeats 4000000 in
theorem t_Rf_doesKeep_J45 {l : Launch} {G : aw_G} {E : aw_E} {σ : aw_S} {v1 : Int32} {v2 : Int32} {t : Int32} (h : m_Rf_doesKeep_J45 σ v1 v2 = some t) (hE : E = (some (.int t), xB, σ)) : aw_W l M_Rf_doesKeep G B_Rf_doesKeep E 45 [(0, .ref 0), (1, .int v1), (2, .int v2)] [] xB σ 0 0 := by
  unfold m_Rf_doesKeep_J45 at h
  refine aw_aload_n (pc := 45) (q := 0) dX12_doesKeep_45 rfl ?_
  refine aw_iload_n (pc := 46) (q := 1) dX12_doesKeep_46 rfl ?_
  obtain ⟨r4, e5, h⟩ := aw_bde h
  refine aw_cV1 (pc := 47) [.int v1] (c_Rf_isRisky e5) yy_Rf_isRisky.1 wm_795 yy_Rf_isRisky.2.1 yy_Rf_isRisky.2.2 xB_0 ⟨_, _, rfl⟩ rfl ⟨Nat.le_of_ble_eq_true rfl, Nat.le_of_ble_eq_true rfl⟩ ⟨Nat.zero_le _, Nat.zero_le _⟩ (Nat.le_of_ble_eq_true rfl) dX12_doesKeep_47 ?_
  refine aw_if_ne (pc := 50) (tgt := 55) dX12_doesKeep_50 (by decide) (fun c6 => ?_) (fun c6 => ?_)
  · replace h := aw_ifn c6 h
    refine aw_aload_n (pc := 55) (q := 0) dX12_doesKeep_55 rfl ?_
    refine aw_iload_n (pc := 56) (q := 2) dX12_doesKeep_56 rfl ?_
    obtain ⟨r7, e8, h⟩ := aw_bde h
    refine aw_cV1 (pc := 57) [.int v2] (c_Rf_expressionOf e8) yy_Rf_expressionOf.1 wm_776 yy_Rf_expressionOf.2.1 yy_Rf_expressionOf.2.2 xB_0 ⟨_, _, rfl⟩ rfl ⟨Nat.le_of_ble_eq_true rfl, Nat.le_of_ble_eq_true rfl⟩ ⟨Nat.zero_le _, Nat.zero_le _⟩ (Nat.le_of_ble_eq_true rfl) dX12_doesKeep_57 ?_
    refine aw_istore (pc := 60) [(4, .int r7), (0, .ref 0), (1, .int v1), (2, .int v2)] dX12_doesKeep_60 (by decide) rfl ?_
    refine aw_aload_n (pc := 62) (q := 1) dX12_doesKeep_62 rfl ?_
    refine aw_getC (pc := 63) fd_X12_24.r xB_0 rfl dX12_doesKeep_63 ?_
    refine aw_iload_n (pc := 66) (q := 3) dX12_doesKeep_66 rfl ?_
    obtain ⟨g9, h⟩ := aw_gde h
    refine aw_iald (pc := 67) xB_4 g9 dX12_doesKeep_67 ?_
    refine aw_iconst (pc := 68) (v := 3) dX12_doesKeep_68 (by decide) ?_
    refine aw_icmp_eq (pc := 69) (tgt := 97) dX12_doesKeep_69 (by decide) (fun c10 => ?_) (fun c10 => ?_)
    · replace h := aw_ifp c10 h
      refine aw_iconst (pc := 97) (v := 0) dX12_doesKeep_97 (by decide) ?_
      cases h
      subst hE
      exact aw_iret (v := (0 : Int32)) rfl aw_n0 ⟨Nat.zero_le _, Nat.zero_le _⟩ dX12_doesKeep_98
    · replace h := aw_ifn c10 h
      refine aw_iload (pc := 72) (q := 0) dX12_doesKeep_72 rfl ?_
      refine aw_iconst (pc := 74) (v := -1) dX12_doesKeep_74 (by decide) ?_
      refine aw_icmp_eq (pc := 75) (tgt := 93) dX12_doesKeep_75 (by decide) (fun c11 => ?_) (fun c11 => ?_)
      · replace h := aw_ifp c11 h
        refine aw_iconst (pc := 93) (v := 1) dX12_doesKeep_93 (by decide) ?_
        refine aw_goto (pc := 94) (tgt := 98) dX12_doesKeep_94 (by decide) ?_
        cases h
        subst hE
        exact aw_iret (v := (1 : Int32)) rfl aw_n1 ⟨Nat.zero_le _, Nat.zero_le _⟩ dX12_doesKeep_98
      · replace h := aw_ifn c11 h
        refine aw_iload (pc := 78) (q := 0) dX12_doesKeep_78 rfl ?_
        refine aw_iload_n (pc := 80) (q := 2) dX12_doesKeep_80 rfl ?_
        refine aw_icmp_eq (pc := 81) (tgt := 93) dX12_doesKeep_81 (by decide) (fun c12 => ?_) (fun c12 => ?_)
        · replace h := aw_ifp c12 h
          refine aw_iconst (pc := 93) (v := 1) dX12_doesKeep_93 (by decide) ?_
          refine aw_goto (pc := 94) (tgt := 98) dX12_doesKeep_94 (by decide) ?_
          cases h
          subst hE
          exact aw_iret (v := (1 : Int32)) rfl aw_n1 ⟨Nat.zero_le _, Nat.zero_le _⟩ dX12_doesKeep_98
        · replace h := aw_ifn c12 h
          refine aw_aload_n (pc := 84) (q := 1) dX12_doesKeep_84 rfl ?_
          refine aw_iload (pc := 85) (q := 0) dX12_doesKeep_85 rfl ?_
          obtain ⟨r13, e14, h⟩ := aw_bde h
          refine aw_cV1 (pc := 87) [.int r7] (c_Rf_isRisky e14) yy_Rf_isRisky.1 wm_795 yy_Rf_isRisky.2.1 yy_Rf_isRisky.2.2 xB_0 ⟨_, _, rfl⟩ rfl ⟨Nat.le_of_ble_eq_true rfl, Nat.le_of_ble_eq_true rfl⟩ ⟨Nat.zero_le _, Nat.zero_le _⟩ (Nat.le_of_ble_eq_true rfl) dX12_doesKeep_87 ?_
          refine aw_if_ne (pc := 90) (tgt := 97) dX12_doesKeep_90 (by decide) (fun c15 => ?_) (fun c15 => ?_)
          · replace h := aw_ifn c15 h
            refine aw_iconst (pc := 97) (v := 0) dX12_doesKeep_97 (by decide) ?_
            cases h
            subst hE
            exact aw_iret (v := (0 : Int32)) rfl aw_n0 ⟨Nat.zero_le _, Nat.zero_le _⟩ dX12_doesKeep_98
          · replace h := aw_ifp c15 h
            refine aw_iconst (pc := 93) (v := 1) dX12_doesKeep_93 (by decide) ?_
            refine aw_goto (pc := 94) (tgt := 98) dX12_doesKeep_94 (by decide) ?_
            cases h
            subst hE
            exact aw_iret (v := (1 : Int32)) rfl aw_n1 ⟨Nat.zero_le _, Nat.zero_le _⟩ dX12_doesKeep_98
  · replace h := aw_ifp c6 h
    refine aw_iconst (pc := 53) (v := 1) dX12_doesKeep_53 (by decide) ?_
    cases h
    subst hE
    exact aw_iret (v := (1 : Int32)) rfl aw_n1 ⟨Nat.zero_le _, Nat.zero_le _⟩ dX12_doesKeep_54
set_option maxRecDepth 100000 in
set_option maxHeartbeats 4000000 in
theorem t_Rf_doesKeep {l : Launch} {G : aw_G} {E : aw_E} {σ : aw_S} {p1 : Int32} {p2 : Int32} {t : Int32} (h : m_Rf_doesKeep σ p1 p2 = some t) (hE : E = (some (.int t), xB, σ)) : aw_W l M_Rf_doesKeep G B_Rf_doesKeep E 0 [(0, .ref 0), (1, .int p1), (2, .int p2)] [] xB σ 0 0 := by
  unfold m_Rf_doesKeep at h
  refine aw_aload_n (pc := 0) (q := 0) dX12_doesKeep_0 rfl ?_
  refine aw_iload_n (pc := 1) (q := 2) dX12_doesKeep_1 rfl ?_
  obtain ⟨r1, e2, h⟩ := aw_bde h
  refine aw_cV1 (pc := 2) [.int p2] (c_Rf_changed e2) yy_Rf_changed.1 wm_791 yy_Rf_changed.2.1 yy_Rf_changed.2.2 xB_0 ⟨_, _, rfl⟩ rfl ⟨Nat.le_of_ble_eq_true rfl, Nat.le_of_ble_eq_true rfl⟩ ⟨Nat.zero_le _, Nat.zero_le _⟩ (Nat.le_of_ble_eq_true rfl) dX12_doesKeep_2 ?_
  refine aw_istore_n (pc := 5) [(3, .int r1), (0, .ref 0), (1, .int p1), (2, .int p2)] dX12_doesKeep_5 (by decide) rfl ?_
  refine aw_iload_n (pc := 6) (q := 0) dX12_doesKeep_6 rfl ?_
  refine aw_iconst (pc := 7) (v := -1) dX12_doesKeep_7 (by decide) ?_
  refine aw_icmp_eq (pc := 8) (tgt := 45) dX12_doesKeep_8 (by decide) (fun c3 => ?_) (fun c3 => ?_)
  · replace h := aw_ifp c3 h
    refine aw_sub [1, 2, 3] rfl ?_
    exact t_Rf_doesKeep_J45 h hE
  · replace h := aw_ifn c3 h
    refine aw_aload_n (pc := 11) (q := 1) dX12_doesKeep_11 rfl ?_
    refine aw_sipush (pc := 12) (v := 292) dX12_doesKeep_12 (by decide) ?_
    refine aw_iconst (pc := 15) (v := 2) dX12_doesKeep_15 (by decide) ?_
    refine aw_iload_n (pc := 16) (q := 2) dX12_doesKeep_16 rfl ?_
    refine aw_imul (pc := 17) dX12_doesKeep_17 ?_
    refine aw_iadd (pc := 18) dX12_doesKeep_18 ?_
    obtain ⟨r16, e17, h⟩ := aw_bde h
    refine aw_cV1 (pc := 19) [.int (((292 : Int32) + ((2 : Int32) * p1)))] (c_Rf_get e17) yy_Rf_get.1 wm_736 yy_Rf_get.2.1 yy_Rf_get.2.2 xB_0 ⟨_, _, rfl⟩ rfl ⟨Nat.le_of_ble_eq_true rfl, Nat.le_of_ble_eq_true rfl⟩ ⟨Nat.zero_le _, Nat.zero_le _⟩ (Nat.le_of_ble_eq_true rfl) dX12_doesKeep_19 ?_
    refine aw_iload_n (pc := 22) (q := 0) dX12_doesKeep_22 rfl ?_
    refine aw_icmp_eq (pc := 23) (tgt := 43) dX12_doesKeep_23 (by decide) (fun c18 => ?_) (fun c18 => ?_)
    · replace h := aw_ifp c18 h
      refine aw_iconst (pc := 43) (v := 0) dX12_doesKeep_43 (by decide) ?_
      cases h
      subst hE
      exact aw_iret (v := (0 : Int32)) rfl aw_n0 ⟨Nat.zero_le _, Nat.zero_le _⟩ dX12_doesKeep_44
    · replace h := aw_ifn c18 h
      refine aw_aload_n (pc := 26) (q := 1) dX12_doesKeep_26 rfl ?_
      refine aw_sipush (pc := 27) (v := 292) dX12_doesKeep_27 (by decide) ?_
      refine aw_iconst (pc := 30) (v := 2) dX12_doesKeep_30 (by decide) ?_
      refine aw_iload_n (pc := 31) (q := 2) dX12_doesKeep_31 rfl ?_
      refine aw_imul (pc := 32) dX12_doesKeep_32 ?_
      refine aw_iadd (pc := 33) dX12_doesKeep_33 ?_
      refine aw_iconst (pc := 34) (v := 1) dX12_doesKeep_34 (by decide) ?_
      refine aw_iadd (pc := 35) dX12_doesKeep_35 ?_
      obtain ⟨r19, e20, h⟩ := aw_bde h
      refine aw_cV1 (pc := 36) [.int ((((292 : Int32) + ((2 : Int32) * p1)) + (1 : Int32)))] (c_Rf_get e20) yy_Rf_get.1 wm_736 yy_Rf_get.2.1 yy_Rf_get.2.2 xB_0 ⟨_, _, rfl⟩ rfl ⟨Nat.le_of_ble_eq_true rfl, Nat.le_of_ble_eq_true rfl⟩ ⟨Nat.zero_le _, Nat.zero_le _⟩ (Nat.le_of_ble_eq_true rfl) dX12_doesKeep_36 ?_
      refine aw_iload_n (pc := 39) (q := 0) dX12_doesKeep_39 rfl ?_
      refine aw_icmp_ne (pc := 40) (tgt := 45) dX12_doesKeep_40 (by decide) (fun c21 => ?_) (fun c21 => ?_)
      · replace h := aw_ifn c21 h
        refine aw_sub [1, 2, 3] rfl ?_
        exact t_Rf_doesKeep_J45 h hE
      · replace h := aw_ifp c21 h
        refine aw_iconst (pc := 43) (v := 0) dX12_doesKeep_43 (by decide) ?_
        cases h
        subst hE
        exact aw_iret (v := (0 : Int32)) rfl aw_n0 ⟨Nat.zero_le _, Nat.zero_le _⟩ dX12_doesKeep_44
theorem c_Rf_doesKeep {l : Launch} {G : aw_G} {σ : aw_S} {p1 : Int32} {p2 : Int32} {t : Int32} (h : m_Rf_doesKeep σ p1 p2 = some t) : aw_Ct l yX12_doesKeep M_Rf_doesKeep G B_Rf_doesKeep [.ref 0, .int p1, .int p2] xB σ (some (.int t), xB, σ) := aw_Ct_of (by decide) rfl (fun h => by cases h) (Nat.le_of_ble_eq_true rfl) (t_Rf_doesKeep h rfl)
/-! LateMoverModel.so(III)Z -/
set_option maxRecDepth 100000 in
set_option maxHeartbeats 4000000 in
theorem t_Rf_so {l : Launch} {G : aw_G} {E : aw_E} {σ : aw_S} {p1 : Int32} {p2 : Int32} {p3 : Int32} {t : Int32} (h : m_Rf_so σ p1 p2 p3 = some t) (hE : E = (some (.int t), xB, σ)) : aw_W l M_Rf_so G B_Rf_so E 0 [(0, .ref 0), (1, .int p1), (2, .int p2), (3, .int p3)] [] xB σ 0 0 := by
  unfold m_Rf_so at h
  refine aw_aload_n (pc := 0) (q := 0) dX12_so_0 rfl ?_
  refine aw_getC (pc := 1) fd_X12_49.r xB_0 rfl dX12_so_1 ?_
  refine aw_iload_n (pc := 4) (q := 1) dX12_so_4 rfl ?_
  refine aw_iload_n (pc := 5) (q := 2) dX12_so_5 rfl ?_
  refine aw_iload_n (pc := 6) (q := 3) dX12_so_6 rfl ?_
  obtain ⟨r1, e2, h⟩ := aw_bde h
  refine aw_cS1 (pc := 7) [.int p1, .int p2, .int p3] (c_Rf_cell e2) yy_Rf_cell.1 wm_784 yy_Rf_cell.2 rfl ⟨Nat.le_of_ble_eq_true rfl, Nat.le_of_ble_eq_true rfl⟩ ⟨Nat.zero_le _, Nat.zero_le _⟩ (Nat.le_of_ble_eq_true rfl) dX12_so_7 ?_
  obtain ⟨g3, h⟩ := aw_gde h
  refine aw_zald (pc := 10) xB_12 g3 dX12_so_10 ?_
  obtain ⟨g4, h⟩ := aw_gde h
  cases h
  subst hE
  exact aw_iret (v := (σ.1 12 r1.toNatClampNeg)) rfl (aw_nz g4) ⟨Nat.zero_le _, Nat.zero_le _⟩ dX12_so_11
theorem c_Rf_so {l : Launch} {G : aw_G} {σ : aw_S} {p1 : Int32} {p2 : Int32} {p3 : Int32} {t : Int32} (h : m_Rf_so σ p1 p2 p3 = some t) : aw_Ct l yX12_so M_Rf_so G B_Rf_so [.ref 0, .int p1, .int p2, .int p3] xB σ (some (.int t), xB, σ) := aw_Ct_of (by decide) rfl (fun h => by cases h) (Nat.le_of_ble_eq_true rfl) (t_Rf_so h rfl)
/-! LateMoverModel.staysAhead(III)Z -/
def z_Rf_staysAhead_X8 (l : Launch) (G : aw_G) (E : aw_E) (σ : aw_S) (v1 : Int32) (v2 : Int32) (v3 : Int32) (s : Int32 × Int32) : Prop := aw_W l M_Rf_staysAhead G B_Rf_staysAhead E 8 [(0, .ref 0), (1, .int v1), (2, .int v2), (3, .int v3), (4, .int s.1), (5, .int s.2)] [] xB σ 0 0
def z_Rf_staysAhead_Y8 (l : Launch) (G : aw_G) (E : aw_E) (σ : aw_S) (v1 : Int32) (v2 : Int32) (v3 : Int32) (x : (Int32)) : Prop := aw_W l M_Rf_staysAhead G B_Rf_staysAhead E 110 [(0, .ref 0), (1, .int v1), (2, .int v2), (3, .int v3), (4, .int x)] [] xB σ 0 0
set_option maxRecDepth 100000 in
set_option maxHeartbeats 4000000 in
theorem t_Rf_staysAhead_J104 {l : Launch} {G : aw_G} {E : aw_E} {σ : aw_S} {v1 : Int32} {v2 : Int32} {v3 : Int32} {v4 : Int32} {v5 : Int32} {t : (Int32) ⊕ (Int32 × Int32)} (h : m_Rf_staysAhead_J104 σ v1 v2 v3 v4 v5 = some t) (hz : Sum.elim (z_Rf_staysAhead_Y8 l G E σ v1 v2 v3) (z_Rf_staysAhead_X8 l G E σ v1 v2 v3) t) : aw_W l M_Rf_staysAhead G B_Rf_staysAhead E 104 [(0, .ref 0), (1, .int v1), (2, .int v2), (3, .int v3), (4, .int v4), (5, .int v5)] [] xB σ 0 0 := by
  unfold m_Rf_staysAhead_J104 at h
  obtain ⟨x12, e_x12⟩ : ∃ z, z = (v5 + (1 : Int32)) := ⟨_, rfl⟩
  replace h := aw_lte h x12 e_x12
  refine aw_iinc (pc := 104) (q := 5) (v := x12) [(5, .int x12), (0, .ref 0), (1, .int v1), (2, .int v2), (3, .int v3), (4, .int v4)] dX12_staysAhead_104 rfl e_x12.symm (by decide) rfl ?_
  refine aw_goto (pc := 107) (tgt := 8) dX12_staysAhead_107 (by decide) ?_
  refine aw_sub [1, 2, 3, 4, 5, 0] rfl ?_
  cases h
  exact hz
set_option maxRecDepth 100000 in
set_option maxHeartbeats 4000000 in
theorem t_Rf_staysAhead_J102 {l : Launch} {G : aw_G} {E : aw_E} {σ : aw_S} {v1 : Int32} {v2 : Int32} {v3 : Int32} {v5 : Int32} {k0 : Int32} {t : (Int32) ⊕ (Int32 × Int32)} (h : m_Rf_staysAhead_J102 σ v1 v2 v3 v5 k0 = some t) (hz : Sum.elim (z_Rf_staysAhead_Y8 l G E σ v1 v2 v3) (z_Rf_staysAhead_X8 l G E σ v1 v2 v3) t) : aw_W l M_Rf_staysAhead G B_Rf_staysAhead E 102 [(0, .ref 0), (1, .int v1), (2, .int v2), (3, .int v3), (5, .int v5)] [.int k0] xB σ 0 0 := by
  unfold m_Rf_staysAhead_J102 at h
  refine aw_istore (pc := 102) [(4, .int k0), (0, .ref 0), (1, .int v1), (2, .int v2), (3, .int v3), (5, .int v5)] dX12_staysAhead_102 (by decide) rfl ?_
  refine aw_sub [1, 2, 3, 4, 0, 5] rfl ?_
  exact t_Rf_staysAhead_J104 h hz
set_option maxRecDepth 100000 in
set_option maxHeartbeats 4000000 in
theorem t_Rf_staysAhead_J101 {l : Launch} {G : aw_G} {E : aw_E} {σ : aw_S} {v1 : Int32} {v2 : Int32} {v3 : Int32} {v5 : Int32} {t : (Int32) ⊕ (Int32 × Int32)} (h : m_Rf_staysAhead_J101 σ v1 v2 v3 v5 = some t) (hz : Sum.elim (z_Rf_staysAhead_Y8 l G E σ v1 v2 v3) (z_Rf_staysAhead_X8 l G E σ v1 v2 v3) t) : aw_W l M_Rf_staysAhead G B_Rf_staysAhead E 101 [(0, .ref 0), (1, .int v1), (2, .int v2), (3, .int v3), (5, .int v5)] [] xB σ 0 0 := by
  unfold m_Rf_staysAhead_J101 at h
  refine aw_iconst (pc := 101) (v := 0) dX12_staysAhead_101 (by decide) ?_
  exact t_Rf_staysAhead_J102 h hz
set_option maxRecDepth 100000 in
set_option maxHeartbeats 4000000 in
theorem t_Rf_staysAhead_B8 {l : Launch} {G : aw_G} {E : aw_E} {σ : aw_S} {v1 : Int32} {v2 : Int32} {v3 : Int32} {v4 : Int32} {v5 : Int32} {t : (Int32) ⊕ (Int32 × Int32)} (h : m_Rf_staysAhead_B8 σ v1 v2 v3 v4 v5 = some t) (hz : Sum.elim (z_Rf_staysAhead_Y8 l G E σ v1 v2 v3) (z_Rf_staysAhead_X8 l G E σ v1 v2 v3) t) : aw_W l M_Rf_staysAhead G B_Rf_staysAhead E 8 [(0, .ref 0), (1, .int v1), (2, .int v2), (3, .int v3), (4, .int v4), (5, .int v5)] [] xB σ 0 0 := by
  unfold m_Rf_staysAhead_B8 at h
  refine aw_iload (pc := 8) (q := 5) dX12_staysAhead_8 rfl ?_
  refine aw_iconst (pc := 10) (v := 2) dX12_staysAhead_10 (by decide) ?_
  refine aw_iload_n (pc := 11) (q := 3) dX12_staysAhead_11 rfl ?_
  refine aw_imul (pc := 12) dX12_staysAhead_12 ?_
  refine aw_iconst (pc := 13) (v := 2) dX12_staysAhead_13 (by decide) ?_
  refine aw_iadd (pc := 14) dX12_staysAhead_14 ?_
  refine aw_icmp_ge (pc := 15) (tgt := 110) dX12_staysAhead_15 (by decide) (fun c2 => ?_) (fun c2 => ?_)
  · replace h := aw_ifp c2 h
    refine aw_sub [0, 1, 2, 3, 4] rfl ?_
    cases h
    exact hz
  · replace h := aw_ifn c2 h
    refine aw_iload (pc := 18) (q := 4) dX12_staysAhead_18 rfl ?_
    refine aw_if_eq (pc := 20) (tgt := 110) dX12_staysAhead_20 (by decide) (fun c3 => ?_) (fun c3 => ?_)
    · replace h := aw_ifp c3 h
      refine aw_sub [0, 1, 2, 3, 4] rfl ?_
      cases h
      exact hz
    · replace h := aw_ifn c3 h
      refine aw_aload_n (pc := 23) (q := 0) dX12_staysAhead_23 rfl ?_
      refine aw_getC (pc := 24) fd_X12_33.r xB_0 rfl dX12_staysAhead_24 ?_
      refine aw_iload (pc := 27) (q := 5) dX12_staysAhead_27 rfl ?_
      obtain ⟨g4, h⟩ := aw_gde h
      refine aw_iald (pc := 29) xB_7 g4 dX12_staysAhead_29 ?_
      refine aw_iconst (pc := 30) (v := -1) dX12_staysAhead_30 (by decide) ?_
      refine aw_icmp_ne (pc := 31) (tgt := 37) dX12_staysAhead_31 (by decide) (fun c5 => ?_) (fun c5 => ?_)
      · replace h := aw_ifn c5 h
        refine aw_aload_n (pc := 37) (q := 0) dX12_staysAhead_37 rfl ?_
        refine aw_getC (pc := 38) fd_X12_33.r xB_0 rfl dX12_staysAhead_38 ?_
        refine aw_iload (pc := 41) (q := 5) dX12_staysAhead_41 rfl ?_
        obtain ⟨g6, h⟩ := aw_gde h
        refine aw_iald (pc := 43) xB_7 g6 dX12_staysAhead_43 ?_
        refine aw_nmI (fun x7 e_x7 => ?_)
        replace h := aw_lte h x7 e_x7
        refine aw_istore (pc := 44) [(6, .int x7), (0, .ref 0), (1, .int v1), (2, .int v2), (3, .int v3), (4, .int v4), (5, .int v5)] dX12_staysAhead_44 (by decide) rfl ?_
        refine aw_iload_n (pc := 46) (q := 2) dX12_staysAhead_46 rfl ?_
        refine aw_iconst (pc := 47) (v := 2) dX12_staysAhead_47 (by decide) ?_
        refine aw_icmp_ne (pc := 48) (tgt := 62) dX12_staysAhead_48 (by decide) (fun c8 => ?_) (fun c8 => ?_)
        · replace h := aw_ifn c8 h
          refine aw_aload_n (pc := 62) (q := 1) dX12_staysAhead_62 rfl ?_
          refine aw_bipush (pc := 63) (v := 6) dX12_staysAhead_63 (by decide) ?_
          refine aw_iload_n (pc := 65) (q := 3) dX12_staysAhead_65 rfl ?_
          refine aw_iload (pc := 66) (q := 0) dX12_staysAhead_66 rfl ?_
          obtain ⟨r9, e10, h⟩ := aw_bde h
          refine aw_cV1 (pc := 68) [.int ((6 : Int32)), .int v2, .int x7] (c_Rf_so e10) yy_Rf_so.1 wm_803 yy_Rf_so.2.1 yy_Rf_so.2.2 xB_0 ⟨_, _, rfl⟩ rfl ⟨Nat.le_of_ble_eq_true rfl, Nat.le_of_ble_eq_true rfl⟩ ⟨Nat.zero_le _, Nat.zero_le _⟩ (Nat.le_of_ble_eq_true rfl) dX12_staysAhead_68 ?_
          refine aw_if_ne (pc := 71) (tgt := 97) dX12_staysAhead_71 (by decide) (fun c11 => ?_) (fun c11 => ?_)
          · replace h := aw_ifn c11 h
            refine aw_iconst (pc := 97) (v := 1) dX12_staysAhead_97 (by decide) ?_
            refine aw_goto (pc := 98) (tgt := 102) dX12_staysAhead_98 (by decide) ?_
            refine aw_sub [1, 2, 3, 4, 6] rfl ?_
            exact t_Rf_staysAhead_J102 h hz
          · replace h := aw_ifp c11 h
            refine aw_aload_n (pc := 74) (q := 1) dX12_staysAhead_74 rfl ?_
            refine aw_iconst (pc := 75) (v := 0) dX12_staysAhead_75 (by decide) ?_
            refine aw_iload_n (pc := 76) (q := 3) dX12_staysAhead_76 rfl ?_
            refine aw_iload (pc := 77) (q := 0) dX12_staysAhead_77 rfl ?_
            obtain ⟨r13, e14, h⟩ := aw_bde h
            refine aw_cV1 (pc := 79) [.int ((0 : Int32)), .int v2, .int x7] (c_Rf_so e14) yy_Rf_so.1 wm_803 yy_Rf_so.2.1 yy_Rf_so.2.2 xB_0 ⟨_, _, rfl⟩ rfl ⟨Nat.le_of_ble_eq_true rfl, Nat.le_of_ble_eq_true rfl⟩ ⟨Nat.zero_le _, Nat.zero_le _⟩ (Nat.le_of_ble_eq_true rfl) dX12_staysAhead_79 ?_
            refine aw_if_ne (pc := 82) (tgt := 101) dX12_staysAhead_82 (by decide) (fun c15 => ?_) (fun c15 => ?_)
            · replace h := aw_ifn c15 h
              refine aw_sub [1, 2, 3, 4, 6] rfl ?_
              exact t_Rf_staysAhead_J101 h hz
            · replace h := aw_ifp c15 h
              refine aw_aload_n (pc := 85) (q := 1) dX12_staysAhead_85 rfl ?_
              refine aw_bipush (pc := 86) (v := 7) dX12_staysAhead_86 (by decide) ?_
              refine aw_iload_n (pc := 88) (q := 3) dX12_staysAhead_88 rfl ?_
              refine aw_iload (pc := 89) (q := 0) dX12_staysAhead_89 rfl ?_
              obtain ⟨r16, e17, h⟩ := aw_bde h
              refine aw_cV1 (pc := 91) [.int ((7 : Int32)), .int v2, .int x7] (c_Rf_so e17) yy_Rf_so.1 wm_803 yy_Rf_so.2.1 yy_Rf_so.2.2 xB_0 ⟨_, _, rfl⟩ rfl ⟨Nat.le_of_ble_eq_true rfl, Nat.le_of_ble_eq_true rfl⟩ ⟨Nat.zero_le _, Nat.zero_le _⟩ (Nat.le_of_ble_eq_true rfl) dX12_staysAhead_91 ?_
              refine aw_if_eq (pc := 94) (tgt := 101) dX12_staysAhead_94 (by decide) (fun c18 => ?_) (fun c18 => ?_)
              · replace h := aw_ifp c18 h
                refine aw_sub [1, 2, 3, 4, 6] rfl ?_
                exact t_Rf_staysAhead_J101 h hz
              · replace h := aw_ifn c18 h
                refine aw_iconst (pc := 97) (v := 1) dX12_staysAhead_97 (by decide) ?_
                refine aw_goto (pc := 98) (tgt := 102) dX12_staysAhead_98 (by decide) ?_
                refine aw_sub [1, 2, 3, 4, 6] rfl ?_
                exact t_Rf_staysAhead_J102 h hz
        · replace h := aw_ifp c8 h
          refine aw_aload_n (pc := 51) (q := 1) dX12_staysAhead_51 rfl ?_
          refine aw_iconst (pc := 52) (v := 2) dX12_staysAhead_52 (by decide) ?_
          refine aw_iload_n (pc := 53) (q := 3) dX12_staysAhead_53 rfl ?_
          refine aw_iload (pc := 54) (q := 0) dX12_staysAhead_54 rfl ?_
          obtain ⟨r19, e20, h⟩ := aw_bde h
          refine aw_cV1 (pc := 56) [.int ((2 : Int32)), .int v2, .int x7] (c_Rf_so e20) yy_Rf_so.1 wm_803 yy_Rf_so.2.1 yy_Rf_so.2.2 xB_0 ⟨_, _, rfl⟩ rfl ⟨Nat.le_of_ble_eq_true rfl, Nat.le_of_ble_eq_true rfl⟩ ⟨Nat.zero_le _, Nat.zero_le _⟩ (Nat.le_of_ble_eq_true rfl) dX12_staysAhead_56 ?_
          refine aw_goto (pc := 59) (tgt := 102) dX12_staysAhead_59 (by decide) ?_
          refine aw_sub [1, 2, 3, 4, 6] rfl ?_
          exact t_Rf_staysAhead_J102 h hz
      · replace h := aw_ifp c5 h
        refine aw_goto (pc := 34) (tgt := 104) dX12_staysAhead_34 (by decide) ?_
        exact t_Rf_staysAhead_J104 h hz
set_option maxRecDepth 100000 in
set_option maxHeartbeats 4000000 in
theorem t_Rf_staysAhead {l : Launch} {G : aw_G} {E : aw_E} {σ : aw_S} {p1 : Int32} {p2 : Int32} {p3 : Int32} {t : Int32} (h : m_Rf_staysAhead σ p1 p2 p3 = some t) (hE : E = (some (.int t), xB, σ)) : aw_W l M_Rf_staysAhead G B_Rf_staysAhead E 0 [(0, .ref 0), (1, .int p1), (2, .int p2), (3, .int p3)] [] xB σ 0 0 := by
  unfold m_Rf_staysAhead at h
  refine aw_iconst (pc := 0) (v := 1) dX12_staysAhead_0 (by decide) ?_
  refine aw_istore (pc := 1) [(4, .int ((1 : Int32))), (0, .ref 0), (1, .int p1), (2, .int p2), (3, .int p3)] dX12_staysAhead_1 (by decide) rfl ?_
  refine aw_iconst (pc := 3) (v := 2) dX12_staysAhead_3 (by decide) ?_
  refine aw_iload_n (pc := 4) (q := 4) dX12_staysAhead_4 rfl ?_
  refine aw_imul (pc := 5) dX12_staysAhead_5 ?_
  refine aw_nmI (fun x1 e_x1 => ?_)
  replace h := aw_lte h x1 e_x1
  refine aw_istore (pc := 6) [(5, .int x1), (4, .int ((1 : Int32))), (0, .ref 0), (1, .int p1), (2, .int p2), (3, .int p3)] dX12_staysAhead_6 (by decide) rfl ?_
  obtain ⟨x21, hl22, h⟩ := aw_bde h
  have K23 : z_Rf_staysAhead_Y8 l G E σ p1 p2 p3 x21 := by
    show aw_W l M_Rf_staysAhead G B_Rf_staysAhead E 110 [(0, .ref 0), (1, .int p1), (2, .int p2), (3, .int p3), (4, .int x21)] [] xB σ 0 0
    refine aw_iload_n (pc := 110) (q := 1) dX12_staysAhead_110 rfl ?_
    refine aw_iconst (pc := 111) (v := 2) dX12_staysAhead_111 (by decide) ?_
    refine aw_icmp_ne (pc := 112) (tgt := 154) dX12_staysAhead_112 (by decide) (fun c24 => ?_) (fun c24 => ?_)
    · replace h := aw_ifn c24 h
      refine aw_iload (pc := 154) (q := 4) dX12_staysAhead_154 rfl ?_
      obtain ⟨g25, h⟩ := aw_gde h
      cases h
      subst hE
      exact aw_iret (v := _) rfl (aw_nz g25) ⟨Nat.zero_le _, Nat.zero_le _⟩ dX12_staysAhead_156
    · replace h := aw_ifp c24 h
      refine aw_aload_n (pc := 115) (q := 0) dX12_staysAhead_115 rfl ?_
      refine aw_iconst (pc := 116) (v := 0) dX12_staysAhead_116 (by decide) ?_
      refine aw_iload_n (pc := 117) (q := 2) dX12_staysAhead_117 rfl ?_
      refine aw_iload_n (pc := 118) (q := 3) dX12_staysAhead_118 rfl ?_
      obtain ⟨r26, e27, h⟩ := aw_bde h
      refine aw_cV1 (pc := 119) [.int ((0 : Int32)), .int p2, .int p3] (c_Rf_so e27) yy_Rf_so.1 wm_803 yy_Rf_so.2.1 yy_Rf_so.2.2 xB_0 ⟨_, _, rfl⟩ rfl ⟨Nat.le_of_ble_eq_true rfl, Nat.le_of_ble_eq_true rfl⟩ ⟨Nat.zero_le _, Nat.zero_le _⟩ (Nat.le_of_ble_eq_true rfl) dX12_staysAhead_119 ?_
      refine aw_if_ne (pc := 122) (tgt := 148) dX12_staysAhead_122 (by decide) (fun c28 => ?_) (fun c28 => ?_)
      · replace h := aw_ifn c28 h
        refine aw_iconst (pc := 148) (v := 1) dX12_staysAhead_148 (by decide) ?_
        refine aw_goto (pc := 149) (tgt := 153) dX12_staysAhead_149 (by decide) ?_
        cases h
        subst hE
        exact aw_iret (v := (1 : Int32)) rfl aw_n1 ⟨Nat.zero_le _, Nat.zero_le _⟩ dX12_staysAhead_153
      · replace h := aw_ifp c28 h
        refine aw_aload_n (pc := 125) (q := 0) dX12_staysAhead_125 rfl ?_
        refine aw_iconst (pc := 126) (v := 1) dX12_staysAhead_126 (by decide) ?_
        refine aw_iload_n (pc := 127) (q := 2) dX12_staysAhead_127 rfl ?_
        refine aw_iload_n (pc := 128) (q := 3) dX12_staysAhead_128 rfl ?_
        obtain ⟨r29, e30, h⟩ := aw_bde h
        refine aw_cV1 (pc := 129) [.int ((1 : Int32)), .int p2, .int p3] (c_Rf_so e30) yy_Rf_so.1 wm_803 yy_Rf_so.2.1 yy_Rf_so.2.2 xB_0 ⟨_, _, rfl⟩ rfl ⟨Nat.le_of_ble_eq_true rfl, Nat.le_of_ble_eq_true rfl⟩ ⟨Nat.zero_le _, Nat.zero_le _⟩ (Nat.le_of_ble_eq_true rfl) dX12_staysAhead_129 ?_
        refine aw_if_eq (pc := 132) (tgt := 152) dX12_staysAhead_132 (by decide) (fun c31 => ?_) (fun c31 => ?_)
        · replace h := aw_ifp c31 h
          refine aw_iconst (pc := 152) (v := 0) dX12_staysAhead_152 (by decide) ?_
          cases h
          subst hE
          exact aw_iret (v := (0 : Int32)) rfl aw_n0 ⟨Nat.zero_le _, Nat.zero_le _⟩ dX12_staysAhead_153
        · replace h := aw_ifn c31 h
          refine aw_aload_n (pc := 135) (q := 0) dX12_staysAhead_135 rfl ?_
          refine aw_iload_n (pc := 136) (q := 3) dX12_staysAhead_136 rfl ?_
          obtain ⟨r32, e33, h⟩ := aw_bde h
          refine aw_cV1 (pc := 137) [.int p3] (c_Rf_isLast e33) yy_Rf_isLast.1 wm_764 yy_Rf_isLast.2.1 yy_Rf_isLast.2.2 xB_0 ⟨_, _, rfl⟩ rfl ⟨Nat.le_of_ble_eq_true rfl, Nat.le_of_ble_eq_true rfl⟩ ⟨Nat.zero_le _, Nat.zero_le _⟩ (Nat.le_of_ble_eq_true rfl) dX12_staysAhead_137 ?_
          refine aw_if_ne (pc := 140) (tgt := 152) dX12_staysAhead_140 (by decide) (fun c34 => ?_) (fun c34 => ?_)
          · replace h := aw_ifn c34 h
            refine aw_iconst (pc := 152) (v := 0) dX12_staysAhead_152 (by decide) ?_
            cases h
            subst hE
            exact aw_iret (v := (0 : Int32)) rfl aw_n0 ⟨Nat.zero_le _, Nat.zero_le _⟩ dX12_staysAhead_153
          · replace h := aw_ifp c34 h
            refine aw_iload (pc := 143) (q := 4) dX12_staysAhead_143 rfl ?_
            refine aw_if_eq (pc := 145) (tgt := 152) dX12_staysAhead_145 (by decide) (fun c35 => ?_) (fun c35 => ?_)
            · replace h := aw_ifp c35 h
              refine aw_iconst (pc := 152) (v := 0) dX12_staysAhead_152 (by decide) ?_
              cases h
              subst hE
              exact aw_iret (v := (0 : Int32)) rfl aw_n0 ⟨Nat.zero_le _, Nat.zero_le _⟩ dX12_staysAhead_153
            · replace h := aw_ifn c35 h
              refine aw_iconst (pc := 148) (v := 1) dX12_staysAhead_148 (by decide) ?_
              refine aw_goto (pc := 149) (tgt := 153) dX12_staysAhead_149 (by decide) ?_
              cases h
              subst hE
              exact aw_iret (v := (1 : Int32)) rfl aw_n1 ⟨Nat.zero_le _, Nat.zero_le _⟩ dX12_staysAhead_153
  refine aw_sub [2, 3, 4, 5, 1, 0] rfl ?_
  show z_Rf_staysAhead_X8 l G E σ p1 p2 p3 (((1 : Int32), x1))
  exact aw_lp_X (Xp := z_Rf_staysAhead_X8 l G E σ p1 p2 p3) (Y := z_Rf_staysAhead_Y8 l G E σ p1 p2 p3) hl22 K23 (fun s t hf hz => t_Rf_staysAhead_B8 hf hz)
theorem c_Rf_staysAhead {l : Launch} {G : aw_G} {σ : aw_S} {p1 : Int32} {p2 : Int32} {p3 : Int32} {t : Int32} (h : m_Rf_staysAhead σ p1 p2 p3 = some t) : aw_Ct l yX12_staysAhead M_Rf_staysAhead G B_Rf_staysAhead [.ref 0, .int p1, .int p2, .int p3] xB σ (some (.int t), xB, σ) := aw_Ct_of (by decide) rfl (fun h => by cases h) (Nat.le_of_ble_eq_true rfl) (t_Rf_staysAhead h rfl)
/-! LateMoverModel.layAhead(II)V -/
def z_Rf_layAhead_X2 (l : Launch) (G : aw_G) (E : aw_E) (v1 : Int32) (v2 : Int32) (s : Int32 × aw_S) : Prop := aw_W l M_Rf_layAhead G B_Rf_layAhead E 2 [(0, .ref 0), (1, .int v1), (2, .int v2), (3, .int s.1)] [] xB s.2 0 0
def z_Rf_layAhead_Y2 (l : Launch) (G : aw_G) (E : aw_E) (v1 : Int32) (v2 : Int32) (x : (aw_S)) : Prop := aw_W l M_Rf_layAhead G B_Rf_layAhead E 24 [(0, .ref 0), (1, .int v1), (2, .int v2)] [] xB x 0 0
def z_Rf_layAhead_X26 (l : Launch) (G : aw_G) (E : aw_E) (v1 : Int32) (v2 : Int32) (s : Int32 × aw_S) : Prop := aw_W l M_Rf_layAhead G B_Rf_layAhead E 26 [(0, .ref 0), (1, .int v1), (2, .int v2), (3, .int s.1)] [] xB s.2 0 0
def z_Rf_layAhead_Y26 (l : Launch) (G : aw_G) (E : aw_E) (v1 : Int32) (v2 : Int32) (x : (aw_S)) : Prop := aw_W l M_Rf_layAhead G B_Rf_layAhead E 90 [] [] xB x 0 0
def z_Rf_layAhead_X40 (l : Launch) (G : aw_G) (E : aw_E) (v1 : Int32) (v2 : Int32) (s : Int32 × Int32 × aw_S) : Prop := aw_W l M_Rf_layAhead G B_Rf_layAhead E 40 [(0, .ref 0), (1, .int v1), (2, .int v2), (3, .int s.1), (4, .int s.2.1)] [] xB s.2.2 0 0
def z_Rf_layAhead_Y40 (l : Launch) (G : aw_G) (E : aw_E) (v1 : Int32) (v2 : Int32) (x : (Int32 × aw_S)) : Prop := aw_W l M_Rf_layAhead G B_Rf_layAhead E 87 [(0, .ref 0), (1, .int v1), (2, .int v2), (3, .int x.1)] [] xB x.2 0 0
set_option maxRecDepth 100000 in
set_option maxHeartbeats 4000000 in
theorem t_Rf_layAhead_B2 {l : Launch} {G : aw_G} {E : aw_E} {σ : aw_S} {v1 : Int32} {v2 : Int32} {v3 : Int32} {t : (aw_S) ⊕ (Int32 × aw_S)} (h : m_Rf_layAhead_B2 σ v1 v2 v3 = some t) (hz : Sum.elim (z_Rf_layAhead_Y2 l G E v1 v2) (z_Rf_layAhead_X2 l G E v1 v2) t) : aw_W l M_Rf_layAhead G B_Rf_layAhead E 2 [(0, .ref 0), (1, .int v1), (2, .int v2), (3, .int v3)] [] xB σ 0 0 := by
  unfold m_Rf_layAhead_B2 at h
  refine aw_iload_n (pc := 2) (q := 3) dX12_layAhead_2 rfl ?_
  refine aw_aload_n (pc := 3) (q := 0) dX12_layAhead_3 rfl ?_
  refine aw_getI (pc := 4) fd_X12_215.r xB_0 rfl dX12_layAhead_4 ?_
  refine aw_icmp_ge (pc := 7) (tgt := 24) dX12_layAhead_7 (by decide) (fun c1 => ?_) (fun c1 => ?_)
  · replace h := aw_ifp c1 h
    refine aw_sub [0, 1, 2] rfl ?_
    cases h
    exact hz
  · replace h := aw_ifn c1 h
    refine aw_aload_n (pc := 10) (q := 0) dX12_layAhead_10 rfl ?_
    refine aw_iload_n (pc := 11) (q := 1) dX12_layAhead_11 rfl ?_
    refine aw_iload_n (pc := 12) (q := 2) dX12_layAhead_12 rfl ?_
    refine aw_iload_n (pc := 13) (q := 3) dX12_layAhead_13 rfl ?_
    refine aw_iconst (pc := 14) (v := 1) dX12_layAhead_14 (by decide) ?_
    obtain ⟨s4, e3, h⟩ := aw_bde h
    refine aw_cV0 (pc := 15) [.int v1, .int v2, .int v3, .int ((1 : Int32))] (c_Rf_set e3) yy_Rf_set.1 wm_780 yy_Rf_set.2.1 yy_Rf_set.2.2 xB_0 ⟨_, _, rfl⟩ rfl ⟨Nat.le_of_ble_eq_true rfl, Nat.le_of_ble_eq_true rfl⟩ ⟨Nat.zero_le _, Nat.zero_le _⟩ (Nat.le_of_ble_eq_true rfl) dX12_layAhead_15 ?_
    obtain ⟨x5, e_x5⟩ : ∃ z, z = (v3 + (1 : Int32)) := ⟨_, rfl⟩
    replace h := aw_lte h x5 e_x5
    refine aw_iinc (pc := 18) (q := 3) (v := x5) [(3, .int x5), (0, .ref 0), (1, .int v1), (2, .int v2)] dX12_layAhead_18 rfl e_x5.symm (by decide) rfl ?_
    refine aw_goto (pc := 21) (tgt := 2) dX12_layAhead_21 (by decide) ?_
    refine aw_sub [1, 2, 3, 0] rfl ?_
    cases h
    exact hz
set_option maxRecDepth 100000 in
set_option maxHeartbeats 4000000 in
theorem t_Rf_layAhead_J81 {l : Launch} {G : aw_G} {E : aw_E} {σ : aw_S} {v1 : Int32} {v2 : Int32} {v3 : Int32} {v4 : Int32} {t : (Int32 × aw_S) ⊕ (Int32 × Int32 × aw_S)} (h : m_Rf_layAhead_J81 σ v1 v2 v3 v4 = some t) (hz : Sum.elim (z_Rf_layAhead_Y40 l G E v1 v2) (z_Rf_layAhead_X40 l G E v1 v2) t) : aw_W l M_Rf_layAhead G B_Rf_layAhead E 81 [(0, .ref 0), (1, .int v1), (2, .int v2), (3, .int v3), (4, .int v4)] [] xB σ 0 0 := by
  unfold m_Rf_layAhead_J81 at h
  obtain ⟨x15, e_x15⟩ : ∃ z, z = (v4 + (-1 : Int32)) := ⟨_, rfl⟩
  replace h := aw_lte h x15 e_x15
  refine aw_iinc (pc := 81) (q := 4) (v := x15) [(4, .int x15), (0, .ref 0), (1, .int v1), (2, .int v2), (3, .int v3)] dX12_layAhead_81 rfl e_x15.symm (by decide) rfl ?_
  refine aw_goto (pc := 84) (tgt := 40) dX12_layAhead_84 (by decide) ?_
  refine aw_sub [1, 2, 3, 4, 0] rfl ?_
  cases h
  exact hz
set_option maxRecDepth 100000 in
set_option maxHeartbeats 4000000 in
theorem t_Rf_layAhead_B40 {l : Launch} {G : aw_G} {E : aw_E} {σ : aw_S} {v1 : Int32} {v2 : Int32} {v3 : Int32} {v4 : Int32} {t : (Int32 × aw_S) ⊕ (Int32 × Int32 × aw_S)} (h : m_Rf_layAhead_B40 σ v1 v2 v3 v4 = some t) (hz : Sum.elim (z_Rf_layAhead_Y40 l G E v1 v2) (z_Rf_layAhead_X40 l G E v1 v2) t) : aw_W l M_Rf_layAhead G B_Rf_layAhead E 40 [(0, .ref 0), (1, .int v1), (2, .int v2), (3, .int v3), (4, .int v4)] [] xB σ 0 0 := by
  unfold m_Rf_layAhead_B40 at h
  refine aw_iload (pc := 40) (q := 4) dX12_layAhead_40 rfl ?_
  refine aw_if_lt (pc := 42) (tgt := 87) dX12_layAhead_42 (by decide) (fun c11 => ?_) (fun c11 => ?_)
  · replace h := aw_ifp c11 h
    refine aw_sub [0, 1, 2, 3] rfl ?_
    cases h
    exact hz
  · replace h := aw_ifn c11 h
    refine aw_aload_n (pc := 45) (q := 0) dX12_layAhead_45 rfl ?_
    refine aw_iload_n (pc := 46) (q := 1) dX12_layAhead_46 rfl ?_
    refine aw_iload_n (pc := 47) (q := 2) dX12_layAhead_47 rfl ?_
    refine aw_iload (pc := 48) (q := 4) dX12_layAhead_48 rfl ?_
    obtain ⟨r12, e13, h⟩ := aw_bde h
    refine aw_cV1 (pc := 50) [.int v1, .int v2, .int v4] (c_Rf_so e13) yy_Rf_so.1 wm_803 yy_Rf_so.2.1 yy_Rf_so.2.2 xB_0 ⟨_, _, rfl⟩ rfl ⟨Nat.le_of_ble_eq_true rfl, Nat.le_of_ble_eq_true rfl⟩ ⟨Nat.zero_le _, Nat.zero_le _⟩ (Nat.le_of_ble_eq_true rfl) dX12_layAhead_50 ?_
    refine aw_if_eq (pc := 53) (tgt := 81) dX12_layAhead_53 (by decide) (fun c14 => ?_) (fun c14 => ?_)
    · replace h := aw_ifp c14 h
      exact t_Rf_layAhead_J81 h hz
    · replace h := aw_ifn c14 h
      refine aw_aload_n (pc := 56) (q := 0) dX12_layAhead_56 rfl ?_
      refine aw_iload_n (pc := 57) (q := 1) dX12_layAhead_57 rfl ?_
      refine aw_iload_n (pc := 58) (q := 2) dX12_layAhead_58 rfl ?_
      refine aw_iload (pc := 59) (q := 4) dX12_layAhead_59 rfl ?_
      obtain ⟨r16, e17, h⟩ := aw_bde h
      refine aw_cV1 (pc := 61) [.int v1, .int v2, .int v4] (c_Rf_staysAhead e17) yy_Rf_staysAhead.1 wm_807 yy_Rf_staysAhead.2.1 yy_Rf_staysAhead.2.2 xB_0 ⟨_, _, rfl⟩ rfl ⟨Nat.le_of_ble_eq_true rfl, Nat.le_of_ble_eq_true rfl⟩ ⟨Nat.zero_le _, Nat.zero_le _⟩ (Nat.le_of_ble_eq_true rfl) dX12_layAhead_61 ?_
      refine aw_if_eq (pc := 64) (tgt := 70) dX12_layAhead_64 (by decide) (fun c18 => ?_) (fun c18 => ?_)
      · replace h := aw_ifp c18 h
        refine aw_aload_n (pc := 70) (q := 0) dX12_layAhead_70 rfl ?_
        refine aw_iload_n (pc := 71) (q := 1) dX12_layAhead_71 rfl ?_
        refine aw_iload_n (pc := 72) (q := 2) dX12_layAhead_72 rfl ?_
        refine aw_iload (pc := 73) (q := 4) dX12_layAhead_73 rfl ?_
        refine aw_iconst (pc := 75) (v := 0) dX12_layAhead_75 (by decide) ?_
        obtain ⟨s21, e20, h⟩ := aw_bde h
        refine aw_cV0 (pc := 76) [.int v1, .int v2, .int v4, .int ((0 : Int32))] (c_Rf_set e20) yy_Rf_set.1 wm_780 yy_Rf_set.2.1 yy_Rf_set.2.2 xB_0 ⟨_, _, rfl⟩ rfl ⟨Nat.le_of_ble_eq_true rfl, Nat.le_of_ble_eq_true rfl⟩ ⟨Nat.zero_le _, Nat.zero_le _⟩ (Nat.le_of_ble_eq_true rfl) dX12_layAhead_76 ?_
        refine aw_iconst (pc := 79) (v := 1) dX12_layAhead_79 (by decide) ?_
        refine aw_istore_n (pc := 80) [(3, .int ((1 : Int32))), (0, .ref 0), (1, .int v1), (2, .int v2), (4, .int v4)] dX12_layAhead_80 (by decide) rfl ?_
        refine aw_sub [1, 2, 3, 0, 4] rfl ?_
        exact t_Rf_layAhead_J81 h hz
      · replace h := aw_ifn c18 h
        refine aw_goto (pc := 67) (tgt := 81) dX12_layAhead_67 (by decide) ?_
        exact t_Rf_layAhead_J81 h hz
set_option maxRecDepth 100000 in
set_option maxHeartbeats 4000000 in
theorem t_Rf_layAhead_B26 {l : Launch} {G : aw_G} {E : aw_E} {σ : aw_S} {v1 : Int32} {v2 : Int32} {v3 : Int32} {t : (aw_S) ⊕ (Int32 × aw_S)} (h : m_Rf_layAhead_B26 σ v1 v2 v3 = some t) (hz : Sum.elim (z_Rf_layAhead_Y26 l G E v1 v2) (z_Rf_layAhead_X26 l G E v1 v2) t) : aw_W l M_Rf_layAhead G B_Rf_layAhead E 26 [(0, .ref 0), (1, .int v1), (2, .int v2), (3, .int v3)] [] xB σ 0 0 := by
  unfold m_Rf_layAhead_B26 at h
  refine aw_iload_n (pc := 26) (q := 3) dX12_layAhead_26 rfl ?_
  refine aw_if_eq (pc := 27) (tgt := 90) dX12_layAhead_27 (by decide) (fun c9 => ?_) (fun c9 => ?_)
  · replace h := aw_ifp c9 h
    refine aw_sub [] rfl ?_
    cases h
    exact hz
  · replace h := aw_ifn c9 h
    refine aw_iconst (pc := 30) (v := 0) dX12_layAhead_30 (by decide) ?_
    refine aw_istore_n (pc := 31) [(3, .int ((0 : Int32))), (0, .ref 0), (1, .int v1), (2, .int v2)] dX12_layAhead_31 (by decide) rfl ?_
    refine aw_aload_n (pc := 32) (q := 1) dX12_layAhead_32 rfl ?_
    refine aw_getI (pc := 33) fd_X12_215.r xB_0 rfl dX12_layAhead_33 ?_
    refine aw_iconst (pc := 36) (v := 1) dX12_layAhead_36 (by decide) ?_
    refine aw_isub (pc := 37) dX12_layAhead_37 ?_
    refine aw_nmI (fun x10 e_x10 => ?_)
    replace h := aw_lte h x10 e_x10
    refine aw_istore (pc := 38) [(4, .int x10), (3, .int ((0 : Int32))), (0, .ref 0), (1, .int v1), (2, .int v2)] dX12_layAhead_38 (by decide) rfl ?_
    obtain ⟨x22, hl23, h⟩ := aw_bde h
    have K24 : z_Rf_layAhead_Y40 l G E v1 v2 x22 := by
      show aw_W l M_Rf_layAhead G B_Rf_layAhead E 87 [(0, .ref 0), (1, .int v1), (2, .int v2), (3, .int x22.1)] [] xB x22.2 0 0
      refine aw_goto (pc := 87) (tgt := 26) dX12_layAhead_87 (by decide) ?_
      refine aw_sub [0, 1, 2, 3] rfl ?_
      cases h
      exact hz
    refine aw_sub [2, 3, 4, 1, 0] rfl ?_
    show z_Rf_layAhead_X40 l G E v1 v2 (((0 : Int32), x10, σ))
    exact aw_lp_X (Xp := z_Rf_layAhead_X40 l G E v1 v2) (Y := z_Rf_layAhead_Y40 l G E v1 v2) hl23 K24 (fun s t hf hz => t_Rf_layAhead_B40 hf hz)
set_option maxRecDepth 100000 in
set_option maxHeartbeats 4000000 in
theorem t_Rf_layAhead {l : Launch} {G : aw_G} {E : aw_E} {σ : aw_S} {p1 : Int32} {p2 : Int32} {t : aw_S} (h : m_Rf_layAhead σ p1 p2 = some t) (hE : E = (none, xB, t)) : aw_W l M_Rf_layAhead G B_Rf_layAhead E 0 [(0, .ref 0), (1, .int p1), (2, .int p2)] [] xB σ 0 0 := by
  unfold m_Rf_layAhead at h
  refine aw_iconst (pc := 0) (v := 0) dX12_layAhead_0 (by decide) ?_
  refine aw_istore_n (pc := 1) [(3, .int ((0 : Int32))), (0, .ref 0), (1, .int p1), (2, .int p2)] dX12_layAhead_1 (by decide) rfl ?_
  obtain ⟨x6, hl7, h⟩ := aw_bde h
  have K8 : z_Rf_layAhead_Y2 l G E p1 p2 x6 := by
    show aw_W l M_Rf_layAhead G B_Rf_layAhead E 24 [(0, .ref 0), (1, .int p1), (2, .int p2)] [] xB x6 0 0
    refine aw_iconst (pc := 24) (v := 1) dX12_layAhead_24 (by decide) ?_
    refine aw_istore_n (pc := 25) [(3, .int ((1 : Int32))), (0, .ref 0), (1, .int p1), (2, .int p2)] dX12_layAhead_25 (by decide) rfl ?_
    obtain ⟨x25, hl26, h⟩ := aw_bde h
    have K27 : z_Rf_layAhead_Y26 l G E p1 p2 x25 := by
      show aw_W l M_Rf_layAhead G B_Rf_layAhead E 90 [] [] xB x25 0 0
      cases h
      subst hE
      exact aw_vret rfl ⟨Nat.zero_le _, Nat.zero_le _⟩ dX12_layAhead_90
    refine aw_sub [1, 2, 3, 0] rfl ?_
    show z_Rf_layAhead_X26 l G E p1 p2 (((1 : Int32), x6))
    exact aw_lp_X (Xp := z_Rf_layAhead_X26 l G E p1 p2) (Y := z_Rf_layAhead_Y26 l G E p1 p2) hl26 K27 (fun s t hf hz => t_Rf_layAhead_B26 hf hz)
  refine aw_sub [1, 2, 3, 0] rfl ?_
  show z_Rf_layAhead_X2 l G E p1 p2 (((0 : Int32), σ))
  exact aw_lp_X (Xp := z_Rf_layAhead_X2 l G E p1 p2) (Y := z_Rf_layAhead_Y2 l G E p1 p2) hl7 K8 (fun s t hf hz => t_Rf_layAhead_B2 hf hz)
theorem c_Rf_layAhead {l : Launch} {G : aw_G} {σ : aw_S} {p1 : Int32} {p2 : Int32} {t : aw_S} (h : m_Rf_layAhead σ p1 p2 = some t) : aw_Ct l yX12_layAhead M_Rf_layAhead G B_Rf_layAhead [.ref 0, .int p1, .int p2] xB σ (none, xB, t) := aw_Ct_of (by decide) rfl (fun h => by cases h) (Nat.le_of_ble_eq_true rfl) (t_Rf_layAhead h rfl)
/-! LateMoverModel.lets(III)Z -/
set_option maxRecDepth 100000 in
set_option maxHeartbeats 4000000 in
theorem t_Rf_lets {l : Launch} {G : aw_G} {E : aw_E} {σ : aw_S} {p1 : Int32} {p2 : Int32} {p3 : Int32} {t : Int32} (h : m_Rf_lets σ p1 p2 p3 = some t) (hE : E = (some (.int t), xB, σ)) : aw_W l M_Rf_lets G B_Rf_lets E 0 [(0, .ref 0), (1, .int p1), (2, .int p2), (3, .int p3)] [] xB σ 0 0 := by
  unfold m_Rf_lets at h
  refine aw_iload_n (pc := 0) (q := 1) dX12_lets_0 rfl ?_
  refine aw_iconst (pc := 1) (v := 3) dX12_lets_1 (by decide) ?_
  refine aw_icmp_ne (pc := 2) (tgt := 43) dX12_lets_2 (by decide) (fun c1 => ?_) (fun c1 => ?_)
  · replace h := aw_ifn c1 h
    refine aw_aload_n (pc := 43) (q := 0) dX12_lets_43 rfl ?_
    refine aw_iconst (pc := 44) (v := 5) dX12_lets_44 (by decide) ?_
    refine aw_iload_n (pc := 45) (q := 2) dX12_lets_45 rfl ?_
    refine aw_iload_n (pc := 46) (q := 3) dX12_lets_46 rfl ?_
    obtain ⟨r2, e3, h⟩ := aw_bde h
    refine aw_cV1 (pc := 47) [.int ((5 : Int32)), .int p2, .int p3] (c_Rf_so e3) yy_Rf_so.1 wm_803 yy_Rf_so.2.1 yy_Rf_so.2.2 xB_0 ⟨_, _, rfl⟩ rfl ⟨Nat.le_of_ble_eq_true rfl, Nat.le_of_ble_eq_true rfl⟩ ⟨Nat.zero_le _, Nat.zero_le _⟩ (Nat.le_of_ble_eq_true rfl) dX12_lets_47 ?_
    refine aw_if_eq (pc := 50) (tgt := 67) dX12_lets_50 (by decide) (fun c4 => ?_) (fun c4 => ?_)
    · replace h := aw_ifp c4 h
      refine aw_iconst (pc := 67) (v := 0) dX12_lets_67 (by decide) ?_
      cases h
      subst hE
      exact aw_iret (v := (0 : Int32)) rfl aw_n0 ⟨Nat.zero_le _, Nat.zero_le _⟩ dX12_lets_68
    · replace h := aw_ifn c4 h
      refine aw_aload_n (pc := 53) (q := 0) dX12_lets_53 rfl ?_
      refine aw_iconst (pc := 54) (v := 0) dX12_lets_54 (by decide) ?_
      refine aw_iload_n (pc := 55) (q := 2) dX12_lets_55 rfl ?_
      refine aw_iload_n (pc := 56) (q := 3) dX12_lets_56 rfl ?_
      obtain ⟨r5, e6, h⟩ := aw_bde h
      refine aw_cV1 (pc := 57) [.int ((0 : Int32)), .int p2, .int p3] (c_Rf_so e6) yy_Rf_so.1 wm_803 yy_Rf_so.2.1 yy_Rf_so.2.2 xB_0 ⟨_, _, rfl⟩ rfl ⟨Nat.le_of_ble_eq_true rfl, Nat.le_of_ble_eq_true rfl⟩ ⟨Nat.zero_le _, Nat.zero_le _⟩ (Nat.le_of_ble_eq_true rfl) dX12_lets_57 ?_
      refine aw_if_ne (pc := 60) (tgt := 67) dX12_lets_60 (by decide) (fun c7 => ?_) (fun c7 => ?_)
      · replace h := aw_ifn c7 h
        refine aw_iconst (pc := 67) (v := 0) dX12_lets_67 (by decide) ?_
        cases h
        subst hE
        exact aw_iret (v := (0 : Int32)) rfl aw_n0 ⟨Nat.zero_le _, Nat.zero_le _⟩ dX12_lets_68
      · replace h := aw_ifp c7 h
        refine aw_iconst (pc := 63) (v := 1) dX12_lets_63 (by decide) ?_
        refine aw_goto (pc := 64) (tgt := 68) dX12_lets_64 (by decide) ?_
        cases h
        subst hE
        exact aw_iret (v := (1 : Int32)) rfl aw_n1 ⟨Nat.zero_le _, Nat.zero_le _⟩ dX12_lets_68
  · replace h := aw_ifp c1 h
    refine aw_aload_n (pc := 5) (q := 0) dX12_lets_5 rfl ?_
    refine aw_iconst (pc := 6) (v := 1) dX12_lets_6 (by decide) ?_
    refine aw_iload_n (pc := 7) (q := 2) dX12_lets_7 rfl ?_
    refine aw_iload_n (pc := 8) (q := 3) dX12_lets_8 rfl ?_
    obtain ⟨r8, e9, h⟩ := aw_bde h
    refine aw_cV1 (pc := 9) [.int ((1 : Int32)), .int p2, .int p3] (c_Rf_so e9) yy_Rf_so.1 wm_803 yy_Rf_so.2.1 yy_Rf_so.2.2 xB_0 ⟨_, _, rfl⟩ rfl ⟨Nat.le_of_ble_eq_true rfl, Nat.le_of_ble_eq_true rfl⟩ ⟨Nat.zero_le _, Nat.zero_le _⟩ (Nat.le_of_ble_eq_true rfl) dX12_lets_9 ?_
    refine aw_if_eq (pc := 12) (tgt := 39) dX12_lets_12 (by decide) (fun c10 => ?_) (fun c10 => ?_)
    · replace h := aw_ifp c10 h
      refine aw_iconst (pc := 39) (v := 0) dX12_lets_39 (by decide) ?_
      refine aw_goto (pc := 40) (tgt := 68) dX12_lets_40 (by decide) ?_
      cases h
      subst hE
      exact aw_iret (v := (0 : Int32)) rfl aw_n0 ⟨Nat.zero_le _, Nat.zero_le _⟩ dX12_lets_68
    · replace h := aw_ifn c10 h
      refine aw_aload_n (pc := 15) (q := 0) dX12_lets_15 rfl ?_
      refine aw_iconst (pc := 16) (v := 0) dX12_lets_16 (by decide) ?_
      refine aw_iload_n (pc := 17) (q := 2) dX12_lets_17 rfl ?_
      refine aw_iload_n (pc := 18) (q := 3) dX12_lets_18 rfl ?_
      obtain ⟨r11, e12, h⟩ := aw_bde h
      refine aw_cV1 (pc := 19) [.int ((0 : Int32)), .int p2, .int p3] (c_Rf_so e12) yy_Rf_so.1 wm_803 yy_Rf_so.2.1 yy_Rf_so.2.2 xB_0 ⟨_, _, rfl⟩ rfl ⟨Nat.le_of_ble_eq_true rfl, Nat.le_of_ble_eq_true rfl⟩ ⟨Nat.zero_le _, Nat.zero_le _⟩ (Nat.le_of_ble_eq_true rfl) dX12_lets_19 ?_
      refine aw_if_ne (pc := 22) (tgt := 35) dX12_lets_22 (by decide) (fun c13 => ?_) (fun c13 => ?_)
      · replace h := aw_ifn c13 h
        refine aw_iconst (pc := 35) (v := 1) dX12_lets_35 (by decide) ?_
        refine aw_goto (pc := 36) (tgt := 68) dX12_lets_36 (by decide) ?_
        cases h
        subst hE
        exact aw_iret (v := (1 : Int32)) rfl aw_n1 ⟨Nat.zero_le _, Nat.zero_le _⟩ dX12_lets_68
      · replace h := aw_ifp c13 h
        refine aw_aload_n (pc := 25) (q := 0) dX12_lets_25 rfl ?_
        refine aw_iconst (pc := 26) (v := 3) dX12_lets_26 (by decide) ?_
        refine aw_iload_n (pc := 27) (q := 2) dX12_lets_27 rfl ?_
        refine aw_iload_n (pc := 28) (q := 3) dX12_lets_28 rfl ?_
        obtain ⟨r14, e15, h⟩ := aw_bde h
        refine aw_cV1 (pc := 29) [.int ((3 : Int32)), .int p2, .int p3] (c_Rf_so e15) yy_Rf_so.1 wm_803 yy_Rf_so.2.1 yy_Rf_so.2.2 xB_0 ⟨_, _, rfl⟩ rfl ⟨Nat.le_of_ble_eq_true rfl, Nat.le_of_ble_eq_true rfl⟩ ⟨Nat.zero_le _, Nat.zero_le _⟩ (Nat.le_of_ble_eq_true rfl) dX12_lets_29 ?_
        refine aw_if_eq (pc := 32) (tgt := 39) dX12_lets_32 (by decide) (fun c16 => ?_) (fun c16 => ?_)
        · replace h := aw_ifp c16 h
          refine aw_iconst (pc := 39) (v := 0) dX12_lets_39 (by decide) ?_
          refine aw_goto (pc := 40) (tgt := 68) dX12_lets_40 (by decide) ?_
          cases h
          subst hE
          exact aw_iret (v := (0 : Int32)) rfl aw_n0 ⟨Nat.zero_le _, Nat.zero_le _⟩ dX12_lets_68
        · replace h := aw_ifn c16 h
          refine aw_iconst (pc := 35) (v := 1) dX12_lets_35 (by decide) ?_
          refine aw_goto (pc := 36) (tgt := 68) dX12_lets_36 (by decide) ?_
          cases h
          subst hE
          exact aw_iret (v := (1 : Int32)) rfl aw_n1 ⟨Nat.zero_le _, Nat.zero_le _⟩ dX12_lets_68
theorem c_Rf_lets {l : Launch} {G : aw_G} {σ : aw_S} {p1 : Int32} {p2 : Int32} {p3 : Int32} {t : Int32} (h : m_Rf_lets σ p1 p2 p3 = some t) : aw_Ct l yX12_lets M_Rf_lets G B_Rf_lets [.ref 0, .int p1, .int p2, .int p3] xB σ (some (.int t), xB, σ) := aw_Ct_of (by decide) rfl (fun h => by cases h) (Nat.le_of_ble_eq_true rfl) (t_Rf_lets h rfl)
/-! LateMoverModel.layBehind(II)V -/
def z_Rf_layBehind_X2 (l : Launch) (G : aw_G) (E : aw_E) (v1 : Int32) (v2 : Int32) (s : Int32 × aw_S) : Prop := aw_W l M_Rf_layBehind G B_Rf_layBehind E 2 [(0, .ref 0), (1, .int v1), (2, .int v2), (3, .int s.1)] [] xB s.2 0 0
def z_Rf_layBehind_Y2 (l : Launch) (G : aw_G) (E : aw_E) (v1 : Int32) (v2 : Int32) (x : (aw_S)) : Prop := aw_W l M_Rf_layBehind G B_Rf_layBehind E 47 [(0, .ref 0), (1, .int v1), (2, .int v2)] [] xB x 0 0
def z_Rf_layBehind_X49 (l : Launch) (G : aw_G) (E : aw_E) (v1 : Int32) (v2 : Int32) (s : Int32 × aw_S) : Prop := aw_W l M_Rf_layBehind G B_Rf_layBehind E 49 [(0, .ref 0), (1, .int v1), (2, .int v2), (3, .int s.1)] [] xB s.2 0 0
def z_Rf_layBehind_Y49 (l : Launch) (G : aw_G) (E : aw_E) (v1 : Int32) (v2 : Int32) (x : (aw_S)) : Prop := aw_W l M_Rf_layBehind G B_Rf_layBehind E 147 [] [] xB x 0 0
def z_Rf_layBehind_X58 (l : Launch) (G : aw_G) (E : aw_E) (v1 : Int32) (v2 : Int32) (s : Int32 × Int32 × aw_S) : Prop := aw_W l M_Rf_layBehind G B_Rf_layBehind E 58 [(0, .ref 0), (1, .int v1), (2, .int v2), (3, .int s.1), (4, .int s.2.1)] [] xB s.2.2 0 0
def z_Rf_layBehind_Y58 (l : Launch) (G : aw_G) (E : aw_E) (v1 : Int32) (v2 : Int32) (x : (Int32 × aw_S)) : Prop := aw_W l M_Rf_layBehind G B_Rf_layBehind E 144 [(0, .ref 0), (1, .int v1), (2, .int v2), (3, .int x.1)] [] xB x.2 0 0
set_option maxRecDepth 100000 in
set_option maxHeartbeats 4000000 in
theorem t_Rf_layBehind_J38 {l : Launch} {G : aw_G} {E : aw_E} {σ : aw_S} {v1 : Int32} {v2 : Int32} {v3 : Int32} {k1 : Int32} {k2 : Int32} {k3 : Int32} {k4 : Int32} {t : (aw_S) ⊕ (Int32 × aw_S)} (h : m_Rf_layBehind_J38 σ v1 v2 v3 k1 k2 k3 k4 = some t) (hz : Sum.elim (z_Rf_layBehind_Y2 l G E v1 v2) (z_Rf_layBehind_X2 l G E v1 v2) t) : aw_W l M_Rf_layBehind G B_Rf_layBehind E 38 [(0, .ref 0), (1, .int v1), (2, .int v2), (3, .int v3)] [.int k4, .int k3, .int k2, .int k1, .ref 0] xB σ 0 0 := by
  unfold m_Rf_layBehind_J38 at h
  obtain ⟨s5, e4, h⟩ := aw_bde h
  refine aw_cV0 (pc := 38) [.int k1, .int k2, .int k3, .int k4] (c_Rf_set e4) yy_Rf_set.1 wm_780 yy_Rf_set.2.1 yy_Rf_set.2.2 xB_0 ⟨_, _, rfl⟩ rfl ⟨Nat.le_of_ble_eq_true rfl, Nat.le_of_ble_eq_true rfl⟩ ⟨Nat.zero_le _, Nat.zero_le _⟩ (Nat.le_of_ble_eq_true rfl) dX12_layBehind_38 ?_
  obtain ⟨x6, e_x6⟩ : ∃ z, z = (v3 + (1 : Int32)) := ⟨_, rfl⟩
  replace h := aw_lte h x6 e_x6
  refine aw_iinc (pc := 41) (q := 3) (v := x6) [(3, .int x6), (0, .ref 0), (1, .int v1), (2, .int v2)] dX12_layBehind_41 rfl e_x6.symm (by decide) rfl ?_
  refine aw_goto (pc := 44) (tgt := 2) dX12_layBehind_44 (by decide) ?_
  refine aw_sub [1, 2, 3, 0] rfl ?_
  cases h
  exact hz
set_option maxRecDepth 100000 in
set_option maxHeartbeats 4000000 in
theorem t_Rf_layBehind_J37 {l : Launch} {G : aw_G} {E : aw_E} {σ : aw_S} {v1 : Int32} {v2 : Int32} {v3 : Int32} {k1 : Int32} {k2 : Int32} {k3 : Int32} {t : (aw_S) ⊕ (Int32 × aw_S)} (h : m_Rf_layBehind_J37 σ v1 v2 v3 k1 k2 k3 = some t) (hz : Sum.elim (z_Rf_layBehind_Y2 l G E v1 v2) (z_Rf_layBehind_X2 l G E v1 v2) t) : aw_W l M_Rf_layBehind G B_Rf_layBehind E 37 [(0, .ref 0), (1, .int v1), (2, .int v2), (3, .int v3)] [.int k3, .int k2, .int k1, .ref 0] xB σ 0 0 := by
  unfold m_Rf_layBehind_J37 at h
  refine aw_iconst (pc := 37) (v := 0) dX12_layBehind_37 (by decide) ?_
  exact t_Rf_layBehind_J38 h hz
set_option maxRecDepth 100000 in
set_option maxHeartbeats 4000000 in
theorem t_Rf_layBehind_B2 {l : Launch} {G : aw_G} {E : aw_E} {σ : aw_S} {v1 : Int32} {v2 : Int32} {v3 : Int32} {t : (aw_S) ⊕ (Int32 × aw_S)} (h : m_Rf_layBehind_B2 σ v1 v2 v3 = some t) (hz : Sum.elim (z_Rf_layBehind_Y2 l G E v1 v2) (z_Rf_layBehind_X2 l G E v1 v2) t) : aw_W l M_Rf_layBehind G B_Rf_layBehind E 2 [(0, .ref 0), (1, .int v1), (2, .int v2), (3, .int v3)] [] xB σ 0 0 := by
  unfold m_Rf_layBehind_B2 at h
  refine aw_iload_n (pc := 2) (q := 3) dX12_layBehind_2 rfl ?_
  refine aw_aload_n (pc := 3) (q := 0) dX12_layBehind_3 rfl ?_
  refine aw_getI (pc := 4) fd_X12_215.r xB_0 rfl dX12_layBehind_4 ?_
  refine aw_icmp_ge (pc := 7) (tgt := 47) dX12_layBehind_7 (by decide) (fun c1 => ?_) (fun c1 => ?_)
  · replace h := aw_ifp c1 h
    refine aw_sub [0, 1, 2] rfl ?_
    cases h
    exact hz
  · replace h := aw_ifn c1 h
    refine aw_aload_n (pc := 10) (q := 0) dX12_layBehind_10 rfl ?_
    refine aw_iload_n (pc := 11) (q := 1) dX12_layBehind_11 rfl ?_
    refine aw_iload_n (pc := 12) (q := 2) dX12_layBehind_12 rfl ?_
    refine aw_iload_n (pc := 13) (q := 3) dX12_layBehind_13 rfl ?_
    refine aw_iload_n (pc := 14) (q := 3) dX12_layBehind_14 rfl ?_
    refine aw_if_gt (pc := 15) (tgt := 33) dX12_layBehind_15 (by decide) (fun c2 => ?_) (fun c2 => ?_)
    · replace h := aw_ifp c2 h
      refine aw_iconst (pc := 33) (v := 1) dX12_layBehind_33 (by decide) ?_
      refine aw_goto (pc := 34) (tgt := 38) dX12_layBehind_34 (by decide) ?_
      exact t_Rf_layBehind_J38 h hz
    · replace h := aw_ifn c2 h
      refine aw_iload_n (pc := 18) (q := 1) dX12_layBehind_18 rfl ?_
      refine aw_iconst (pc := 19) (v := 5) dX12_layBehind_19 (by decide) ?_
      refine aw_icmp_ne (pc := 20) (tgt := 37) dX12_layBehind_20 (by decide) (fun c7 => ?_) (fun c7 => ?_)
      · replace h := aw_ifn c7 h
        exact t_Rf_layBehind_J37 h hz
      · replace h := aw_ifp c7 h
        refine aw_aload_n (pc := 23) (q := 0) dX12_layBehind_23 rfl ?_
        refine aw_iconst (pc := 24) (v := 4) dX12_layBehind_24 (by decide) ?_
        refine aw_iload_n (pc := 25) (q := 2) dX12_layBehind_25 rfl ?_
        refine aw_iconst (pc := 26) (v := 0) dX12_layBehind_26 (by decide) ?_
        obtain ⟨r8, e9, h⟩ := aw_bde h
        refine aw_cV1 (pc := 27) [.int ((4 : Int32)), .int v2, .int ((0 : Int32))] (c_Rf_so e9) yy_Rf_so.1 wm_803 yy_Rf_so.2.1 yy_Rf_so.2.2 xB_0 ⟨_, _, rfl⟩ rfl ⟨Nat.le_of_ble_eq_true rfl, Nat.le_of_ble_eq_true rfl⟩ ⟨Nat.zero_le _, Nat.zero_le _⟩ (Nat.le_of_ble_eq_true rfl) dX12_layBehind_27 ?_
        refine aw_if_eq (pc := 30) (tgt := 37) dX12_layBehind_30 (by decide) (fun c10 => ?_) (fun c10 => ?_)
        · replace h := aw_ifp c10 h
          exact t_Rf_layBehind_J37 h hz
        · replace h := aw_ifn c10 h
          refine aw_iconst (pc := 33) (v := 1) dX12_layBehind_33 (by decide) ?_
          refine aw_goto (pc := 34) (tgt := 38) dX12_layBehind_34 (by decide) ?_
          exact t_Rf_layBehind_J38 h hz
set_option maxRecDepth 100000 in
set_option maxHeartbeats 4000000 in
theorem t_Rf_layBehind_J138 {l : Launch} {G : aw_G} {E : aw_E} {σ : aw_S} {v1 : Int32} {v2 : Int32} {v3 : Int32} {v4 : Int32} {t : (Int32 × aw_S) ⊕ (Int32 × Int32 × aw_S)} (h : m_Rf_layBehind_J138 σ v1 v2 v3 v4 = some t) (hz : Sum.elim (z_Rf_layBehind_Y58 l G E v1 v2) (z_Rf_layBehind_X58 l G E v1 v2) t) : aw_W l M_Rf_layBehind G B_Rf_layBehind E 138 [(0, .ref 0), (1, .int v1), (2, .int v2), (3, .int v3), (4, .int v4)] [] xB σ 0 0 := by
  unfold m_Rf_layBehind_J138 at h
  obtain ⟨x19, e_x19⟩ : ∃ z, z = (v4 + (1 : Int32)) := ⟨_, rfl⟩
  replace h := aw_lte h x19 e_x19
  refine aw_iinc (pc := 138) (q := 4) (v := x19) [(4, .int x19), (0, .ref 0), (1, .int v1), (2, .int v2), (3, .int v3)] dX12_layBehind_138 rfl e_x19.symm (by decide) rfl ?_
  refine aw_goto (pc := 141) (tgt := 58) dX12_layBehind_141 (by decide) ?_
  refine aw_sub [1, 2, 3, 4, 0] rfl ?_
  cases h
  exact hz
set_option maxRecDepth 100000 in
set_option maxHeartbeats 4000000 in
theorem t_Rf_layBehind_J111 {l : Launch} {G : aw_G} {E : aw_E} {σ : aw_S} {v1 : Int32} {v2 : Int32} {v3 : Int32} {v4 : Int32} {v5 : Int32} {t : (Int32 × aw_S) ⊕ (Int32 × Int32 × aw_S)} (h : m_Rf_layBehind_J111 σ v1 v2 v3 v4 v5 = some t) (hz : Sum.elim (z_Rf_layBehind_Y58 l G E v1 v2) (z_Rf_layBehind_X58 l G E v1 v2) t) : aw_W l M_Rf_layBehind G B_Rf_layBehind E 111 [(0, .ref 0), (1, .int v1), (2, .int v2), (3, .int v3), (4, .int v4), (5, .int v5)] [] xB σ 0 0 := by
  unfold m_Rf_layBehind_J111 at h
  refine aw_aload_n (pc := 111) (q := 0) dX12_layBehind_111 rfl ?_
  refine aw_iload_n (pc := 112) (q := 1) dX12_layBehind_112 rfl ?_
  refine aw_iload_n (pc := 113) (q := 2) dX12_layBehind_113 rfl ?_
  refine aw_iload (pc := 114) (q := 4) dX12_layBehind_114 rfl ?_
  refine aw_iconst (pc := 116) (v := 2) dX12_layBehind_116 (by decide) ?_
  refine aw_idiv (pc := 117) dX12_layBehind_117 (by decide) ?_
  obtain ⟨r24, e25, h⟩ := aw_bde h
  refine aw_cV1 (pc := 118) [.int v1, .int v2, .int ((v4 / (2 : Int32)))] (c_Rf_lets e25) yy_Rf_lets.1 wm_815 yy_Rf_lets.2.1 yy_Rf_lets.2.2 xB_0 ⟨_, _, rfl⟩ rfl ⟨Nat.le_of_ble_eq_true rfl, Nat.le_of_ble_eq_true rfl⟩ ⟨Nat.zero_le _, Nat.zero_le _⟩ (Nat.le_of_ble_eq_true rfl) dX12_layBehind_118 ?_
  refine aw_if_eq (pc := 121) (tgt := 127) dX12_layBehind_121 (by decide) (fun c26 => ?_) (fun c26 => ?_)
  · replace h := aw_ifp c26 h
    refine aw_aload_n (pc := 127) (q := 0) dX12_layBehind_127 rfl ?_
    refine aw_iload_n (pc := 128) (q := 1) dX12_layBehind_128 rfl ?_
    refine aw_iload_n (pc := 129) (q := 2) dX12_layBehind_129 rfl ?_
    refine aw_iload (pc := 130) (q := 5) dX12_layBehind_130 rfl ?_
    refine aw_iconst (pc := 132) (v := 0) dX12_layBehind_132 (by decide) ?_
    obtain ⟨s29, e28, h⟩ := aw_bde h
    refine aw_cV0 (pc := 133) [.int v1, .int v2, .int v5, .int ((0 : Int32))] (c_Rf_set e28) yy_Rf_set.1 wm_780 yy_Rf_set.2.1 yy_Rf_set.2.2 xB_0 ⟨_, _, rfl⟩ rfl ⟨Nat.le_of_ble_eq_true rfl, Nat.le_of_ble_eq_true rfl⟩ ⟨Nat.zero_le _, Nat.zero_le _⟩ (Nat.le_of_ble_eq_true rfl) dX12_layBehind_133 ?_
    refine aw_iconst (pc := 136) (v := 1) dX12_layBehind_136 (by decide) ?_
    refine aw_istore_n (pc := 137) [(3, .int ((1 : Int32))), (0, .ref 0), (1, .int v1), (2, .int v2), (4, .int v4), (5, .int v5)] dX12_layBehind_137 (by decide) rfl ?_
    refine aw_sub [1, 2, 3, 0, 4] rfl ?_
    exact t_Rf_layBehind_J138 h hz
  · replace h := aw_ifn c26 h
    refine aw_goto (pc := 124) (tgt := 138) dX12_layBehind_124 (by decide) ?_
    refine aw_sub [0, 1, 2, 3, 4] rfl ?_
    exact t_Rf_layBehind_J138 h hz
set_option maxRecDepth 100000 in
set_option maxHeartbeats 4000000 in
theorem t_Rf_layBehind_B58 {l : Launch} {G : aw_G} {E : aw_E} {σ : aw_S} {v1 : Int32} {v2 : Int32} {v3 : Int32} {v4 : Int32} {t : (Int32 × aw_S) ⊕ (Int32 × Int32 × aw_S)} (h : m_Rf_layBehind_B58 σ v1 v2 v3 v4 = some t) (hz : Sum.elim (z_Rf_layBehind_Y58 l G E v1 v2) (z_Rf_layBehind_X58 l G E v1 v2) t) : aw_W l M_Rf_layBehind G B_Rf_layBehind E 58 [(0, .ref 0), (1, .int v1), (2, .int v2), (3, .int v3), (4, .int v4)] [] xB σ 0 0 := by
  unfold m_Rf_layBehind_B58 at h
  refine aw_iload (pc := 58) (q := 4) dX12_layBehind_58 rfl ?_
  refine aw_iconst (pc := 60) (v := 2) dX12_layBehind_60 (by decide) ?_
  refine aw_aload_n (pc := 61) (q := 0) dX12_layBehind_61 rfl ?_
  refine aw_getI (pc := 62) fd_X12_215.r xB_0 rfl dX12_layBehind_62 ?_
  refine aw_imul (pc := 65) dX12_layBehind_65 ?_
  refine aw_icmp_ge (pc := 66) (tgt := 144) dX12_layBehind_66 (by decide) (fun c15 => ?_) (fun c15 => ?_)
  · replace h := aw_ifp c15 h
    refine aw_sub [0, 1, 2, 3] rfl ?_
    cases h
    exact hz
  · replace h := aw_ifn c15 h
    refine aw_aload_n (pc := 69) (q := 0) dX12_layBehind_69 rfl ?_
    refine aw_getC (pc := 70) fd_X12_33.r xB_0 rfl dX12_layBehind_70 ?_
    refine aw_iload (pc := 73) (q := 4) dX12_layBehind_73 rfl ?_
    obtain ⟨g16, h⟩ := aw_gde h
    refine aw_iald (pc := 75) xB_7 g16 dX12_layBehind_75 ?_
    refine aw_nmI (fun x17 e_x17 => ?_)
    replace h := aw_lte h x17 e_x17
    refine aw_istore (pc := 76) [(5, .int x17), (0, .ref 0), (1, .int v1), (2, .int v2), (3, .int v3), (4, .int v4)] dX12_layBehind_76 (by decide) rfl ?_
    refine aw_iload (pc := 78) (q := 0) dX12_layBehind_78 rfl ?_
    refine aw_iconst (pc := 80) (v := -1) dX12_layBehind_80 (by decide) ?_
    refine aw_icmp_eq (pc := 81) (tgt := 138) dX12_layBehind_81 (by decide) (fun c18 => ?_) (fun c18 => ?_)
    · replace h := aw_ifp c18 h
      refine aw_sub [1, 2, 3, 4, 5] rfl ?_
      exact t_Rf_layBehind_J138 h hz
    · replace h := aw_ifn c18 h
      refine aw_aload_n (pc := 84) (q := 1) dX12_layBehind_84 rfl ?_
      refine aw_iload_n (pc := 85) (q := 2) dX12_layBehind_85 rfl ?_
      refine aw_iload_n (pc := 86) (q := 3) dX12_layBehind_86 rfl ?_
      refine aw_iload (pc := 87) (q := 0) dX12_layBehind_87 rfl ?_
      obtain ⟨r20, e21, h⟩ := aw_bde h
      refine aw_cV1 (pc := 89) [.int v1, .int v2, .int x17] (c_Rf_so e21) yy_Rf_so.1 wm_803 yy_Rf_so.2.1 yy_Rf_so.2.2 xB_0 ⟨_, _, rfl⟩ rfl ⟨Nat.le_of_ble_eq_true rfl, Nat.le_of_ble_eq_true rfl⟩ ⟨Nat.zero_le _, Nat.zero_le _⟩ (Nat.le_of_ble_eq_true rfl) dX12_layBehind_89 ?_
      refine aw_if_eq (pc := 92) (tgt := 138) dX12_layBehind_92 (by decide) (fun c22 => ?_) (fun c22 => ?_)
      · replace h := aw_ifp c22 h
        refine aw_sub [1, 2, 3, 4, 5] rfl ?_
        exact t_Rf_layBehind_J138 h hz
      · replace h := aw_ifn c22 h
        refine aw_iload_n (pc := 95) (q := 2) dX12_layBehind_95 rfl ?_
        refine aw_iconst (pc := 96) (v := 5) dX12_layBehind_96 (by decide) ?_
        refine aw_icmp_ne (pc := 97) (tgt := 111) dX12_layBehind_97 (by decide) (fun c23 => ?_) (fun c23 => ?_)
        · replace h := aw_ifn c23 h
          refine aw_sub [1, 2, 3, 4, 5, 0] rfl ?_
          exact t_Rf_layBehind_J111 h hz
        · replace h := aw_ifp c23 h
          refine aw_aload_n (pc := 100) (q := 1) dX12_layBehind_100 rfl ?_
          refine aw_iconst (pc := 101) (v := 4) dX12_layBehind_101 (by decide) ?_
          refine aw_iload_n (pc := 102) (q := 3) dX12_layBehind_102 rfl ?_
          refine aw_iload (pc := 103) (q := 0) dX12_layBehind_103 rfl ?_
          obtain ⟨r30, e31, h⟩ := aw_bde h
          refine aw_cV1 (pc := 105) [.int ((4 : Int32)), .int v2, .int x17] (c_Rf_so e31) yy_Rf_so.1 wm_803 yy_Rf_so.2.1 yy_Rf_so.2.2 xB_0 ⟨_, _, rfl⟩ rfl ⟨Nat.le_of_ble_eq_true rfl, Nat.le_of_ble_eq_true rfl⟩ ⟨Nat.zero_le _, Nat.zero_le _⟩ (Nat.le_of_ble_eq_true rfl) dX12_layBehind_105 ?_
          refine aw_if_ne (pc := 108) (tgt := 138) dX12_layBehind_108 (by decide) (fun c32 => ?_) (fun c32 => ?_)
          · replace h := aw_ifn c32 h
            refine aw_sub [1, 2, 3, 4, 5] rfl ?_
            exact t_Rf_layBehind_J138 h hz
          · replace h := aw_ifp c32 h
            refine aw_sub [1, 2, 3, 4, 5, 0] rfl ?_
            exact t_Rf_layBehind_J111 h hz
set_option maxRecDepth 100000 in
set_option maxHeartbeats 4000000 in
theorem t_Rf_layBehind_B49 {l : Launch} {G : aw_G} {E : aw_E} {σ : aw_S} {v1 : Int32} {v2 : Int32} {v3 : Int32} {t : (aw_S) ⊕ (Int32 × aw_S)} (h : m_Rf_layBehind_B49 σ v1 v2 v3 = some t) (hz : Sum.elim (z_Rf_layBehind_Y49 l G E v1 v2) (z_Rf_layBehind_X49 l G E v1 v2) t) : aw_W l M_Rf_layBehind G B_Rf_layBehind E 49 [(0, .ref 0), (1, .int v1), (2, .int v2), (3, .int v3)] [] xB σ 0 0 := by
  unfold m_Rf_layBehind_B49 at h
  refine aw_iload_n (pc := 49) (q := 3) dX12_layBehind_49 rfl ?_
  refine aw_if_eq (pc := 50) (tgt := 147) dX12_layBehind_50 (by decide) (fun c14 => ?_) (fun c14 => ?_)
  · replace h := aw_ifp c14 h
    refine aw_sub [] rfl ?_
    cases h
    exact hz
  · replace h := aw_ifn c14 h
    refine aw_iconst (pc := 53) (v := 0) dX12_layBehind_53 (by decide) ?_
    refine aw_istore_n (pc := 54) [(3, .int ((0 : Int32))), (0, .ref 0), (1, .int v1), (2, .int v2)] dX12_layBehind_54 (by decide) rfl ?_
    refine aw_iconst (pc := 55) (v := 0) dX12_layBehind_55 (by decide) ?_
    refine aw_istore (pc := 56) [(4, .int ((0 : Int32))), (3, .int ((0 : Int32))), (0, .ref 0), (1, .int v1), (2, .int v2)] dX12_layBehind_56 (by decide) rfl ?_
    obtain ⟨x33, hl34, h⟩ := aw_bde h
    have K35 : z_Rf_layBehind_Y58 l G E v1 v2 x33 := by
      show aw_W l M_Rf_layBehind G B_Rf_layBehind E 144 [(0, .ref 0), (1, .int v1), (2, .int v2), (3, .int x33.1)] [] xB x33.2 0 0
      refine aw_goto (pc := 144) (tgt := 49) dX12_layBehind_144 (by decide) ?_
      refine aw_sub [0, 1, 2, 3] rfl ?_
      cases h
      exact hz
    refine aw_sub [2, 3, 4, 1, 0] rfl ?_
    show z_Rf_layBehind_X58 l G E v1 v2 (((0 : Int32), (0 : Int32), σ))
    exact aw_lp_X (Xp := z_Rf_layBehind_X58 l G E v1 v2) (Y := z_Rf_layBehind_Y58 l G E v1 v2) hl34 K35 (fun s t hf hz => t_Rf_layBehind_B58 hf hz)
set_option maxRecDepth 100000 in
set_option maxHeartbeats 4000000 in
theorem t_Rf_layBehind {l : Launch} {G : aw_G} {E : aw_E} {σ : aw_S} {p1 : Int32} {p2 : Int32} {t : aw_S} (h : m_Rf_layBehind σ p1 p2 = some t) (hE : E = (none, xB, t)) : aw_W l M_Rf_layBehind G B_Rf_layBehind E 0 [(0, .ref 0), (1, .int p1), (2, .int p2)] [] xB σ 0 0 := by
  unfold m_Rf_layBehind at h
  refine aw_iconst (pc := 0) (v := 0) dX12_layBehind_0 (by decide) ?_
  refine aw_istore_n (pc := 1) [(3, .int ((0 : Int32))), (0, .ref 0), (1, .int p1), (2, .int p2)] dX12_layBehind_1 (by decide) rfl ?_
  obtain ⟨x11, hl12, h⟩ := aw_bde h
  have K13 : z_Rf_layBehind_Y2 l G E p1 p2 x11 := by
    show aw_W l M_Rf_layBehind G B_Rf_layBehind E 47 [(0, .ref 0), (1, .int p1), (2, .int p2)] [] xB x11 0 0
    refine aw_iconst (pc := 47) (v := 1) dX12_layBehind_47 (by decide) ?_
    refine aw_istore_n (pc := 48) [(3, .int ((1 : Int32))), (0, .ref 0), (1, .int p1), (2, .int p2)] dX12_layBehind_48 (by decide) rfl ?_
    obtain ⟨x36, hl37, h⟩ := aw_bde h
    have K38 : z_Rf_layBehind_Y49 l G E p1 p2 x36 := by
      show aw_W l M_Rf_layBehind G B_Rf_layBehind E 147 [] [] xB x36 0 0
      cases h
      subst hE
      exact aw_vret rfl ⟨Nat.zero_le _, Nat.zero_le _⟩ dX12_layBehind_147
    refine aw_sub [1, 2, 3, 0] rfl ?_
    show z_Rf_layBehind_X49 l G E p1 p2 (((1 : Int32), x11))
    exact aw_lp_X (Xp := z_Rf_layBehind_X49 l G E p1 p2) (Y := z_Rf_layBehind_Y49 l G E p1 p2) hl37 K38 (fun s t hf hz => t_Rf_layBehind_B49 hf hz)
  refine aw_sub [1, 2, 3, 0] rfl ?_
  show z_Rf_layBehind_X2 l G E p1 p2 (((0 : Int32), σ))
  exact aw_lp_X (Xp := z_Rf_layBehind_X2 l G E p1 p2) (Y := z_Rf_layBehind_Y2 l G E p1 p2) hl12 K13 (fun s t hf hz => t_Rf_layBehind_B2 hf hz)
theorem c_Rf_layBehind {l : Launch} {G : aw_G} {σ : aw_S} {p1 : Int32} {p2 : Int32} {t : aw_S} (h : m_Rf_layBehind σ p1 p2 = some t) : aw_Ct l yX12_layBehind M_Rf_layBehind G B_Rf_layBehind [.ref 0, .int p1, .int p2] xB σ (none, xB, t) := aw_Ct_of (by decide) rfl (fun h => by cases h) (Nat.le_of_ble_eq_true rfl) (t_Rf_layBehind h rfl)
/-! LateMoverModel.layEarly(I)V -/
def z_Rf_layEarly_X2 (l : Launch) (G : aw_G) (E : aw_E) (v1 : Int32) (s : Int32 × aw_S) : Prop := aw_W l M_Rf_layEarly G B_Rf_layEarly E 2 [(0, .ref 0), (1, .int v1), (2, .int s.1)] [] xB s.2 0 0
def z_Rf_layEarly_Y2 (l : Launch) (G : aw_G) (E : aw_E) (v1 : Int32) (x : (aw_S)) : Prop := aw_W l M_Rf_layEarly G B_Rf_layEarly E 42 [(0, .ref 0), (1, .int v1)] [] xB x 0 0
def z_Rf_layEarly_X44 (l : Launch) (G : aw_G) (E : aw_E) (v1 : Int32) (s : Int32 × aw_S) : Prop := aw_W l M_Rf_layEarly G B_Rf_layEarly E 44 [(0, .ref 0), (1, .int v1), (2, .int s.1)] [] xB s.2 0 0
def z_Rf_layEarly_Y44 (l : Launch) (G : aw_G) (E : aw_E) (v1 : Int32) (x : (aw_S)) : Prop := aw_W l M_Rf_layEarly G B_Rf_layEarly E 128 [] [] xB x 0 0
set_option maxRecDepth 100000 in
set_option maxHeartbeats 4000000 in
theorem t_Rf_layEarly_J33 {l : Launch} {G : aw_G} {E : aw_E} {σ : aw_S} {v1 : Int32} {v2 : Int32} {k1 : Int32} {k2 : Int32} {k3 : Int32} {k4 : Int32} {t : (aw_S) ⊕ (Int32 × aw_S)} (h : m_Rf_layEarly_J33 σ v1 v2 k1 k2 k3 k4 = some t) (hz : Sum.elim (z_Rf_layEarly_Y2 l G E v1) (z_Rf_layEarly_X2 l G E v1) t) : aw_W l M_Rf_layEarly G B_Rf_layEarly E 33 [(0, .ref 0), (1, .int v1), (2, .int v2)] [.int k4, .int k3, .int k2, .int k1, .ref 0] xB σ 0 0 := by
  unfold m_Rf_layEarly_J33 at h
  obtain ⟨s5, e4, h⟩ := aw_bde h
  refine aw_cV0 (pc := 33) [.int k1, .int k2, .int k3, .int k4] (c_Rf_set e4) yy_Rf_set.1 wm_780 yy_Rf_set.2.1 yy_Rf_set.2.2 xB_0 ⟨_, _, rfl⟩ rfl ⟨Nat.le_of_ble_eq_true rfl, Nat.le_of_ble_eq_true rfl⟩ ⟨Nat.zero_le _, Nat.zero_le _⟩ (Nat.le_of_ble_eq_true rfl) dX12_layEarly_33 ?_
  obtain ⟨x6, e_x6⟩ : ∃ z, z = (v2 + (1 : Int32)) := ⟨_, rfl⟩
  replace h := aw_lte h x6 e_x6
  refine aw_iinc (pc := 36) (q := 2) (v := x6) [(2, .int x6), (0, .ref 0), (1, .int v1)] dX12_layEarly_36 rfl e_x6.symm (by decide) rfl ?_
  refine aw_goto (pc := 39) (tgt := 2) dX12_layEarly_39 (by decide) ?_
  refine aw_sub [1, 2, 0] rfl ?_
  cases h
  exact hz
set_option maxRecDepth 100000 in
set_option maxHeartbeats 4000000 in
theorem t_Rf_layEarly_J32 {l : Launch} {G : aw_G} {E : aw_E} {σ : aw_S} {v1 : Int32} {v2 : Int32} {k1 : Int32} {k2 : Int32} {k3 : Int32} {t : (aw_S) ⊕ (Int32 × aw_S)} (h : m_Rf_layEarly_J32 σ v1 v2 k1 k2 k3 = some t) (hz : Sum.elim (z_Rf_layEarly_Y2 l G E v1) (z_Rf_layEarly_X2 l G E v1) t) : aw_W l M_Rf_layEarly G B_Rf_layEarly E 32 [(0, .ref 0), (1, .int v1), (2, .int v2)] [.int k3, .int k2, .int k1, .ref 0] xB σ 0 0 := by
  unfold m_Rf_layEarly_J32 at h
  refine aw_iconst (pc := 32) (v := 0) dX12_layEarly_32 (by decide) ?_
  exact t_Rf_layEarly_J33 h hz
set_option maxRecDepth 100000 in
set_option maxHeartbeats 4000000 in
theorem t_Rf_layEarly_B2 {l : Launch} {G : aw_G} {E : aw_E} {σ : aw_S} {v1 : Int32} {v2 : Int32} {t : (aw_S) ⊕ (Int32 × aw_S)} (h : m_Rf_layEarly_B2 σ v1 v2 = some t) (hz : Sum.elim (z_Rf_layEarly_Y2 l G E v1) (z_Rf_layEarly_X2 l G E v1) t) : aw_W l M_Rf_layEarly G B_Rf_layEarly E 2 [(0, .ref 0), (1, .int v1), (2, .int v2)] [] xB σ 0 0 := by
  unfold m_Rf_layEarly_B2 at h
  refine aw_iload_n (pc := 2) (q := 2) dX12_layEarly_2 rfl ?_
  refine aw_aload_n (pc := 3) (q := 0) dX12_layEarly_3 rfl ?_
  refine aw_getI (pc := 4) fd_X12_215.r xB_0 rfl dX12_layEarly_4 ?_
  refine aw_icmp_ge (pc := 7) (tgt := 42) dX12_layEarly_7 (by decide) (fun c1 => ?_) (fun c1 => ?_)
  · replace h := aw_ifp c1 h
    refine aw_sub [0, 1] rfl ?_
    cases h
    exact hz
  · replace h := aw_ifn c1 h
    refine aw_aload_n (pc := 10) (q := 0) dX12_layEarly_10 rfl ?_
    refine aw_iconst (pc := 11) (v := 4) dX12_layEarly_11 (by decide) ?_
    refine aw_iload_n (pc := 12) (q := 1) dX12_layEarly_12 rfl ?_
    refine aw_iload_n (pc := 13) (q := 2) dX12_layEarly_13 rfl ?_
    refine aw_iload_n (pc := 14) (q := 2) dX12_layEarly_14 rfl ?_
    refine aw_if_ne (pc := 15) (tgt := 32) dX12_layEarly_15 (by decide) (fun c2 => ?_) (fun c2 => ?_)
    · replace h := aw_ifn c2 h
      exact t_Rf_layEarly_J32 h hz
    · replace h := aw_ifp c2 h
      refine aw_aload_n (pc := 18) (q := 0) dX12_layEarly_18 rfl ?_
      refine aw_iconst (pc := 19) (v := 2) dX12_layEarly_19 (by decide) ?_
      refine aw_iload_n (pc := 20) (q := 1) dX12_layEarly_20 rfl ?_
      refine aw_iconst (pc := 21) (v := 0) dX12_layEarly_21 (by decide) ?_
      obtain ⟨r7, e8, h⟩ := aw_bde h
      refine aw_cV1 (pc := 22) [.int ((2 : Int32)), .int v1, .int ((0 : Int32))] (c_Rf_so e8) yy_Rf_so.1 wm_803 yy_Rf_so.2.1 yy_Rf_so.2.2 xB_0 ⟨_, _, rfl⟩ rfl ⟨Nat.le_of_ble_eq_true rfl, Nat.le_of_ble_eq_true rfl⟩ ⟨Nat.zero_le _, Nat.zero_le _⟩ (Nat.le_of_ble_eq_true rfl) dX12_layEarly_22 ?_
      refine aw_if_eq (pc := 25) (tgt := 32) dX12_layEarly_25 (by decide) (fun c9 => ?_) (fun c9 => ?_)
      · replace h := aw_ifp c9 h
        exact t_Rf_layEarly_J32 h hz
      · replace h := aw_ifn c9 h
        refine aw_iconst (pc := 28) (v := 1) dX12_layEarly_28 (by decide) ?_
        refine aw_goto (pc := 29) (tgt := 33) dX12_layEarly_29 (by decide) ?_
        exact t_Rf_layEarly_J33 h hz
set_option maxRecDepth 100000 in
set_option maxHeartbeats 4000000 in
theorem t_Rf_layEarly_J122 {l : Launch} {G : aw_G} {E : aw_E} {σ : aw_S} {v1 : Int32} {v2 : Int32} {t : (aw_S) ⊕ (Int32 × aw_S)} (h : m_Rf_layEarly_J122 σ v1 v2 = some t) (hz : Sum.elim (z_Rf_layEarly_Y44 l G E v1) (z_Rf_layEarly_X44 l G E v1) t) : aw_W l M_Rf_layEarly G B_Rf_layEarly E 122 [(0, .ref 0), (1, .int v1), (2, .int v2)] [] xB σ 0 0 := by
  unfold m_Rf_layEarly_J122 at h
  obtain ⟨x18, e_x18⟩ : ∃ z, z = (v2 + (1 : Int32)) := ⟨_, rfl⟩
  replace h := aw_lte h x18 e_x18
  refine aw_iinc (pc := 122) (q := 2) (v := x18) [(2, .int x18), (0, .ref 0), (1, .int v1)] dX12_layEarly_122 rfl e_x18.symm (by decide) rfl ?_
  refine aw_goto (pc := 125) (tgt := 44) dX12_layEarly_125 (by decide) ?_
  refine aw_sub [1, 2, 0] rfl ?_
  cases h
  exact hz
set_option maxRecDepth 100000 in
set_option maxHeartbeats 4000000 in
theorem t_Rf_layEarly_J114 {l : Launch} {G : aw_G} {E : aw_E} {σ : aw_S} {v1 : Int32} {v2 : Int32} {v3 : Int32} {t : (aw_S) ⊕ (Int32 × aw_S)} (h : m_Rf_layEarly_J114 σ v1 v2 v3 = some t) (hz : Sum.elim (z_Rf_layEarly_Y44 l G E v1) (z_Rf_layEarly_X44 l G E v1) t) : aw_W l M_Rf_layEarly G B_Rf_layEarly E 114 [(0, .ref 0), (1, .int v1), (2, .int v2), (3, .int v3)] [] xB σ 0 0 := by
  unfold m_Rf_layEarly_J114 at h
  refine aw_aload_n (pc := 114) (q := 0) dX12_layEarly_114 rfl ?_
  refine aw_iconst (pc := 115) (v := 4) dX12_layEarly_115 (by decide) ?_
  refine aw_iload_n (pc := 116) (q := 1) dX12_layEarly_116 rfl ?_
  refine aw_iload_n (pc := 117) (q := 3) dX12_layEarly_117 rfl ?_
  refine aw_iconst (pc := 118) (v := 1) dX12_layEarly_118 (by decide) ?_
  obtain ⟨s27, e26, h⟩ := aw_bde h
  refine aw_cV0 (pc := 119) [.int ((4 : Int32)), .int v1, .int v3, .int ((1 : Int32))] (c_Rf_set e26) yy_Rf_set.1 wm_780 yy_Rf_set.2.1 yy_Rf_set.2.2 xB_0 ⟨_, _, rfl⟩ rfl ⟨Nat.le_of_ble_eq_true rfl, Nat.le_of_ble_eq_true rfl⟩ ⟨Nat.zero_le _, Nat.zero_le _⟩ (Nat.le_of_ble_eq_true rfl) dX12_layEarly_119 ?_
  refine aw_sub [0, 1, 2] rfl ?_
  exact t_Rf_layEarly_J122 h hz
set_option maxRecDepth 100000 in
set_option maxHeartbeats 4000000 in
theorem t_Rf_layEarly_B44 {l : Launch} {G : aw_G} {E : aw_E} {σ : aw_S} {v1 : Int32} {v2 : Int32} {t : (aw_S) ⊕ (Int32 × aw_S)} (h : m_Rf_layEarly_B44 σ v1 v2 = some t) (hz : Sum.elim (z_Rf_layEarly_Y44 l G E v1) (z_Rf_layEarly_X44 l G E v1) t) : aw_W l M_Rf_layEarly G B_Rf_layEarly E 44 [(0, .ref 0), (1, .int v1), (2, .int v2)] [] xB σ 0 0 := by
  unfold m_Rf_layEarly_B44 at h
  refine aw_iload_n (pc := 44) (q := 2) dX12_layEarly_44 rfl ?_
  refine aw_iconst (pc := 45) (v := 2) dX12_layEarly_45 (by decide) ?_
  refine aw_aload_n (pc := 46) (q := 0) dX12_layEarly_46 rfl ?_
  refine aw_getI (pc := 47) fd_X12_215.r xB_0 rfl dX12_layEarly_47 ?_
  refine aw_imul (pc := 50) dX12_layEarly_50 ?_
  refine aw_icmp_ge (pc := 51) (tgt := 128) dX12_layEarly_51 (by decide) (fun c13 => ?_) (fun c13 => ?_)
  · replace h := aw_ifp c13 h
    refine aw_sub [] rfl ?_
    cases h
    exact hz
  · replace h := aw_ifn c13 h
    refine aw_aload_n (pc := 54) (q := 0) dX12_layEarly_54 rfl ?_
    refine aw_getC (pc := 55) fd_X12_33.r xB_0 rfl dX12_layEarly_55 ?_
    refine aw_iload_n (pc := 58) (q := 2) dX12_layEarly_58 rfl ?_
    obtain ⟨g14, h⟩ := aw_gde h
    refine aw_iald (pc := 59) xB_7 g14 dX12_layEarly_59 ?_
    refine aw_nmI (fun x15 e_x15 => ?_)
    replace h := aw_lte h x15 e_x15
    refine aw_istore_n (pc := 60) [(3, .int x15), (0, .ref 0), (1, .int v1), (2, .int v2)] dX12_layEarly_60 (by decide) rfl ?_
    refine aw_iload_n (pc := 61) (q := 3) dX12_layEarly_61 rfl ?_
    refine aw_iconst (pc := 62) (v := 2) dX12_layEarly_62 (by decide) ?_
    refine aw_idiv (pc := 63) dX12_layEarly_63 (by decide) ?_
    refine aw_nmI (fun x16 e_x16 => ?_)
    replace h := aw_lte h x16 e_x16
    refine aw_istore (pc := 64) [(4, .int x16), (3, .int x15), (0, .ref 0), (1, .int v1), (2, .int v2)] dX12_layEarly_64 (by decide) rfl ?_
    refine aw_iload_n (pc := 66) (q := 1) dX12_layEarly_66 rfl ?_
    refine aw_iconst (pc := 67) (v := -1) dX12_layEarly_67 (by decide) ?_
    refine aw_icmp_eq (pc := 68) (tgt := 122) dX12_layEarly_68 (by decide) (fun c17 => ?_) (fun c17 => ?_)
    · replace h := aw_ifp c17 h
      refine aw_sub [2, 3, 4] rfl ?_
      exact t_Rf_layEarly_J122 h hz
    · replace h := aw_ifn c17 h
      refine aw_aload_n (pc := 71) (q := 2) dX12_layEarly_71 rfl ?_
      refine aw_iconst (pc := 72) (v := 2) dX12_layEarly_72 (by decide) ?_
      refine aw_iload_n (pc := 73) (q := 3) dX12_layEarly_73 rfl ?_
      refine aw_iload_n (pc := 74) (q := 1) dX12_layEarly_74 rfl ?_
      obtain ⟨r19, e20, h⟩ := aw_bde h
      refine aw_cV1 (pc := 75) [.int ((2 : Int32)), .int v1, .int x15] (c_Rf_so e20) yy_Rf_so.1 wm_803 yy_Rf_so.2.1 yy_Rf_so.2.2 xB_0 ⟨_, _, rfl⟩ rfl ⟨Nat.le_of_ble_eq_true rfl, Nat.le_of_ble_eq_true rfl⟩ ⟨Nat.zero_le _, Nat.zero_le _⟩ (Nat.le_of_ble_eq_true rfl) dX12_layEarly_75 ?_
      refine aw_if_eq (pc := 78) (tgt := 122) dX12_layEarly_78 (by decide) (fun c21 => ?_) (fun c21 => ?_)
      · replace h := aw_ifp c21 h
        refine aw_sub [2, 3, 4] rfl ?_
        exact t_Rf_layEarly_J122 h hz
      · replace h := aw_ifn c21 h
        refine aw_aload_n (pc := 81) (q := 2) dX12_layEarly_81 rfl ?_
        refine aw_iconst (pc := 82) (v := 1) dX12_layEarly_82 (by decide) ?_
        refine aw_iload_n (pc := 83) (q := 3) dX12_layEarly_83 rfl ?_
        refine aw_iload (pc := 84) (q := 0) dX12_layEarly_84 rfl ?_
        obtain ⟨r22, e23, h⟩ := aw_bde h
        refine aw_cV1 (pc := 86) [.int ((1 : Int32)), .int v1, .int x16] (c_Rf_so e23) yy_Rf_so.1 wm_803 yy_Rf_so.2.1 yy_Rf_so.2.2 xB_0 ⟨_, _, rfl⟩ rfl ⟨Nat.le_of_ble_eq_true rfl, Nat.le_of_ble_eq_true rfl⟩ ⟨Nat.zero_le _, Nat.zero_le _⟩ (Nat.le_of_ble_eq_true rfl) dX12_layEarly_86 ?_
        refine aw_if_eq (pc := 89) (tgt := 114) dX12_layEarly_89 (by decide) (fun c24 => ?_) (fun c24 => ?_)
        · replace h := aw_ifp c24 h
          refine aw_sub [2, 3, 4, 1] rfl ?_
          exact t_Rf_layEarly_J114 h hz
        · replace h := aw_ifn c24 h
          refine aw_aload_n (pc := 92) (q := 2) dX12_layEarly_92 rfl ?_
          refine aw_iconst (pc := 93) (v := 2) dX12_layEarly_93 (by decide) ?_
          refine aw_iload_n (pc := 94) (q := 3) dX12_layEarly_94 rfl ?_
          refine aw_iload (pc := 95) (q := 0) dX12_layEarly_95 rfl ?_
          obtain ⟨r28, e29, h⟩ := aw_bde h
          refine aw_cV1 (pc := 97) [.int ((2 : Int32)), .int v1, .int x16] (c_Rf_so e29) yy_Rf_so.1 wm_803 yy_Rf_so.2.1 yy_Rf_so.2.2 xB_0 ⟨_, _, rfl⟩ rfl ⟨Nat.le_of_ble_eq_true rfl, Nat.le_of_ble_eq_true rfl⟩ ⟨Nat.zero_le _, Nat.zero_le _⟩ (Nat.le_of_ble_eq_true rfl) dX12_layEarly_97 ?_
          refine aw_if_ne (pc := 100) (tgt := 122) dX12_layEarly_100 (by decide) (fun c30 => ?_) (fun c30 => ?_)
          · replace h := aw_ifn c30 h
            refine aw_sub [2, 3, 4] rfl ?_
            exact t_Rf_layEarly_J122 h hz
          · replace h := aw_ifp c30 h
            refine aw_aload_n (pc := 103) (q := 2) dX12_layEarly_103 rfl ?_
            refine aw_iconst (pc := 104) (v := 3) dX12_layEarly_104 (by decide) ?_
            refine aw_iload_n (pc := 105) (q := 3) dX12_layEarly_105 rfl ?_
            refine aw_iload (pc := 106) (q := 0) dX12_layEarly_106 rfl ?_
            obtain ⟨r31, e32, h⟩ := aw_bde h
            refine aw_cV1 (pc := 108) [.int ((3 : Int32)), .int v1, .int x16] (c_Rf_so e32) yy_Rf_so.1 wm_803 yy_Rf_so.2.1 yy_Rf_so.2.2 xB_0 ⟨_, _, rfl⟩ rfl ⟨Nat.le_of_ble_eq_true rfl, Nat.le_of_ble_eq_true rfl⟩ ⟨Nat.zero_le _, Nat.zero_le _⟩ (Nat.le_of_ble_eq_true rfl) dX12_layEarly_108 ?_
            refine aw_if_ne (pc := 111) (tgt := 122) dX12_layEarly_111 (by decide) (fun c33 => ?_) (fun c33 => ?_)
            · replace h := aw_ifn c33 h
              refine aw_sub [2, 3, 4] rfl ?_
              exact t_Rf_layEarly_J122 h hz
            · replace h := aw_ifp c33 h
              refine aw_sub [2, 3, 4, 1] rfl ?_
              exact t_Rf_layEarly_J114 h hz
set_option maxRecDepth 100000 in
set_option maxHeartbeats 4000000 in
theorem t_Rf_layEarly {l : Launch} {G : aw_G} {E : aw_E} {σ : aw_S} {p1 : Int32} {t : aw_S} (h : m_Rf_layEarly σ p1 = some t) (hE : E = (none, xB, t)) : aw_W l M_Rf_layEarly G B_Rf_layEarly E 0 [(0, .ref 0), (1, .int p1)] [] xB σ 0 0 := by
  unfold m_Rf_layEarly at h
  refine aw_iconst (pc := 0) (v := 0) dX12_layEarly_0 (by decide) ?_
  refine aw_istore_n (pc := 1) [(2, .int ((0 : Int32))), (0, .ref 0), (1, .int p1)] dX12_layEarly_1 (by decide) rfl ?_
  obtain ⟨x10, hl11, h⟩ := aw_bde h
  have K12 : z_Rf_layEarly_Y2 l G E p1 x10 := by
    show aw_W l M_Rf_layEarly G B_Rf_layEarly E 42 [(0, .ref 0), (1, .int p1)] [] xB x10 0 0
    refine aw_iconst (pc := 42) (v := 0) dX12_layEarly_42 (by decide) ?_
    refine aw_istore_n (pc := 43) [(2, .int ((0 : Int32))), (0, .ref 0), (1, .int p1)] dX12_layEarly_43 (by decide) rfl ?_
    obtain ⟨x34, hl35, h⟩ := aw_bde h
    have K36 : z_Rf_layEarly_Y44 l G E p1 x34 := by
      show aw_W l M_Rf_layEarly G B_Rf_layEarly E 128 [] [] xB x34 0 0
      cases h
      subst hE
      exact aw_vret rfl ⟨Nat.zero_le _, Nat.zero_le _⟩ dX12_layEarly_128
    refine aw_sub [1, 2, 0] rfl ?_
    show z_Rf_layEarly_X44 l G E p1 (((0 : Int32), x10))
    exact aw_lp_X (Xp := z_Rf_layEarly_X44 l G E p1) (Y := z_Rf_layEarly_Y44 l G E p1) hl35 K36 (fun s t hf hz => t_Rf_layEarly_B44 hf hz)
  refine aw_sub [1, 2, 0] rfl ?_
  show z_Rf_layEarly_X2 l G E p1 (((0 : Int32), σ))
  exact aw_lp_X (Xp := z_Rf_layEarly_X2 l G E p1) (Y := z_Rf_layEarly_Y2 l G E p1) hl11 K12 (fun s t hf hz => t_Rf_layEarly_B2 hf hz)
theorem c_Rf_layEarly {l : Launch} {G : aw_G} {σ : aw_S} {p1 : Int32} {t : aw_S} (h : m_Rf_layEarly σ p1 = some t) : aw_Ct l yX12_layEarly M_Rf_layEarly G B_Rf_layEarly [.ref 0, .int p1] xB σ (none, xB, t) := aw_Ct_of (by decide) rfl (fun h => by cases h) (Nat.le_of_ble_eq_true rfl) (t_Rf_layEarly h rfl)
/-! LateMoverModel.layLate(I)V -/
def z_Rf_layLate_X2 (l : Launch) (G : aw_G) (E : aw_E) (v1 : Int32) (s : Int32 × aw_S) : Prop := aw_W l M_Rf_layLate G B_Rf_layLate E 2 [(0, .ref 0), (1, .int v1), (2, .int s.1)] [] xB s.2 0 0
def z_Rf_layLate_Y2 (l : Launch) (G : aw_G) (E : aw_E) (v1 : Int32) (x : (aw_S)) : Prop := aw_W l M_Rf_layLate G B_Rf_layLate E 109 [] [] xB x 0 0
def z_Rf_layLate_X23 (l : Launch) (G : aw_G) (E : aw_E) (σ : aw_S) (v1 : Int32) (v2 : Int32) (s : Int32 × Int32) : Prop := aw_W l M_Rf_layLate G B_Rf_layLate E 23 [(0, .ref 0), (1, .int v1), (2, .int v2), (3, .int s.1), (4, .int s.2)] [] xB σ 0 0
def z_Rf_layLate_Y23 (l : Launch) (G : aw_G) (E : aw_E) (σ : aw_S) (v1 : Int32) (v2 : Int32) (x : (Int32)) : Prop := aw_W l M_Rf_layLate G B_Rf_layLate E 76 [(0, .ref 0), (1, .int v1), (2, .int v2), (3, .int x)] [] xB σ 0 0
set_option maxRecDepth 100000 in
set_option maxHeartbeats 4000000 in
theorem t_Rf_layLate_J69 {l : Launch} {G : aw_G} {E : aw_E} {σ : aw_S} {v1 : Int32} {v2 : Int32} {v4 : Int32} {k0 : Int32} {t : (Int32) ⊕ (Int32 × Int32)} (h : m_Rf_layLate_J69 σ v1 v2 v4 k0 = some t) (hz : Sum.elim (z_Rf_layLate_Y23 l G E σ v1 v2) (z_Rf_layLate_X23 l G E σ v1 v2) t) : aw_W l M_Rf_layLate G B_Rf_layLate E 69 [(0, .ref 0), (1, .int v1), (2, .int v2), (4, .int v4)] [.int k0] xB σ 0 0 := by
  unfold m_Rf_layLate_J69 at h
  refine aw_istore_n (pc := 69) [(3, .int k0), (0, .ref 0), (1, .int v1), (2, .int v2), (4, .int v4)] dX12_layLate_69 (by decide) rfl ?_
  obtain ⟨x7, e_x7⟩ : ∃ z, z = (v4 + (1 : Int32)) := ⟨_, rfl⟩
  replace h := aw_lte h x7 e_x7
  refine aw_iinc (pc := 70) (q := 4) (v := x7) [(4, .int x7), (3, .int k0), (0, .ref 0), (1, .int v1), (2, .int v2)] dX12_layLate_70 rfl e_x7.symm (by decide) rfl ?_
  refine aw_goto (pc := 73) (tgt := 23) dX12_layLate_73 (by decide) ?_
  refine aw_sub [2, 3, 4, 1, 0] rfl ?_
  cases h
  exact hz
set_option maxRecDepth 100000 in
set_option maxHeartbeats 4000000 in
theorem t_Rf_layLate_J68 {l : Launch} {G : aw_G} {E : aw_E} {σ : aw_S} {v1 : Int32} {v2 : Int32} {v4 : Int32} {t : (Int32) ⊕ (Int32 × Int32)} (h : m_Rf_layLate_J68 σ v1 v2 v4 = some t) (hz : Sum.elim (z_Rf_layLate_Y23 l G E σ v1 v2) (z_Rf_layLate_X23 l G E σ v1 v2) t) : aw_W l M_Rf_layLate G B_Rf_layLate E 68 [(0, .ref 0), (1, .int v1), (2, .int v2), (4, .int v4)] [] xB σ 0 0 := by
  unfold m_Rf_layLate_J68 at h
  refine aw_iconst (pc := 68) (v := 0) dX12_layLate_68 (by decide) ?_
  exact t_Rf_layLate_J69 h hz
set_option maxRecDepth 100000 in
set_option maxHeartbeats 4000000 in
theorem t_Rf_layLate_B23 {l : Launch} {G : aw_G} {E : aw_E} {σ : aw_S} {v1 : Int32} {v2 : Int32} {v3 : Int32} {v4 : Int32} {t : (Int32) ⊕ (Int32 × Int32)} (h : m_Rf_layLate_B23 σ v1 v2 v3 v4 = some t) (hz : Sum.elim (z_Rf_layLate_Y23 l G E σ v1 v2) (z_Rf_layLate_X23 l G E σ v1 v2) t) : aw_W l M_Rf_layLate G B_Rf_layLate E 23 [(0, .ref 0), (1, .int v1), (2, .int v2), (3, .int v3), (4, .int v4)] [] xB σ 0 0 := by
  unfold m_Rf_layLate_B23 at h
  refine aw_iload (pc := 23) (q := 4) dX12_layLate_23 rfl ?_
  refine aw_iconst (pc := 25) (v := 2) dX12_layLate_25 (by decide) ?_
  refine aw_iload_n (pc := 26) (q := 2) dX12_layLate_26 rfl ?_
  refine aw_imul (pc := 27) dX12_layLate_27 ?_
  refine aw_iconst (pc := 28) (v := 2) dX12_layLate_28 (by decide) ?_
  refine aw_iadd (pc := 29) dX12_layLate_29 ?_
  refine aw_icmp_ge (pc := 30) (tgt := 76) dX12_layLate_30 (by decide) (fun c5 => ?_) (fun c5 => ?_)
  · replace h := aw_ifp c5 h
    refine aw_sub [0, 1, 2, 3] rfl ?_
    cases h
    exact hz
  · replace h := aw_ifn c5 h
    refine aw_iload_n (pc := 33) (q := 3) dX12_layLate_33 rfl ?_
    refine aw_if_ne (pc := 34) (tgt := 64) dX12_layLate_34 (by decide) (fun c6 => ?_) (fun c6 => ?_)
    · replace h := aw_ifn c6 h
      refine aw_iconst (pc := 64) (v := 1) dX12_layLate_64 (by decide) ?_
      refine aw_goto (pc := 65) (tgt := 69) dX12_layLate_65 (by decide) ?_
      refine aw_sub [0, 1, 2, 4] rfl ?_
      exact t_Rf_layLate_J69 h hz
    · replace h := aw_ifp c6 h
      refine aw_aload_n (pc := 37) (q := 0) dX12_layLate_37 rfl ?_
      refine aw_getC (pc := 38) fd_X12_33.r xB_0 rfl dX12_layLate_38 ?_
      refine aw_iload (pc := 41) (q := 4) dX12_layLate_41 rfl ?_
      obtain ⟨g8, h⟩ := aw_gde h
      refine aw_iald (pc := 43) xB_7 g8 dX12_layLate_43 ?_
      refine aw_iconst (pc := 44) (v := -1) dX12_layLate_44 (by decide) ?_
      refine aw_icmp_eq (pc := 45) (tgt := 68) dX12_layLate_45 (by decide) (fun c9 => ?_) (fun c9 => ?_)
      · replace h := aw_ifp c9 h
        refine aw_sub [0, 1, 2, 4] rfl ?_
        exact t_Rf_layLate_J68 h hz
      · replace h := aw_ifn c9 h
        refine aw_aload_n (pc := 48) (q := 0) dX12_layLate_48 rfl ?_
        refine aw_iconst (pc := 49) (v := 5) dX12_layLate_49 (by decide) ?_
        refine aw_iload_n (pc := 50) (q := 1) dX12_layLate_50 rfl ?_
        refine aw_aload_n (pc := 51) (q := 0) dX12_layLate_51 rfl ?_
        refine aw_getC (pc := 52) fd_X12_33.r xB_0 rfl dX12_layLate_52 ?_
        refine aw_iload (pc := 55) (q := 4) dX12_layLate_55 rfl ?_
        obtain ⟨g10, h⟩ := aw_gde h
        refine aw_iald (pc := 57) xB_7 g10 dX12_layLate_57 ?_
        obtain ⟨r11, e12, h⟩ := aw_bde h
        refine aw_cV1 (pc := 58) [.int ((5 : Int32)), .int v1, .int ((σ.1 7 v4.toNatClampNeg))] (c_Rf_so e12) yy_Rf_so.1 wm_803 yy_Rf_so.2.1 yy_Rf_so.2.2 xB_0 ⟨_, _, rfl⟩ rfl ⟨Nat.le_of_ble_eq_true rfl, Nat.le_of_ble_eq_true rfl⟩ ⟨Nat.zero_le _, Nat.zero_le _⟩ (Nat.le_of_ble_eq_true rfl) dX12_layLate_58 ?_
        refine aw_if_ne (pc := 61) (tgt := 68) dX12_layLate_61 (by decide) (fun c13 => ?_) (fun c13 => ?_)
        · replace h := aw_ifn c13 h
          refine aw_sub [0, 1, 2, 4] rfl ?_
          exact t_Rf_layLate_J68 h hz
        · replace h := aw_ifp c13 h
          refine aw_iconst (pc := 64) (v := 1) dX12_layLate_64 (by decide) ?_
          refine aw_goto (pc := 65) (tgt := 69) dX12_layLate_65 (by decide) ?_
          refine aw_sub [0, 1, 2, 4] rfl ?_
          exact t_Rf_layLate_J69 h hz
set_option maxRecDepth 100000 in
set_option maxHeartbeats 4000000 in
theorem t_Rf_layLate_J100 {l : Launch} {G : aw_G} {E : aw_E} {σ : aw_S} {v1 : Int32} {v2 : Int32} {k1 : Int32} {k2 : Int32} {k3 : Int32} {k4 : Int32} {t : (aw_S) ⊕ (Int32 × aw_S)} (h : m_Rf_layLate_J100 σ v1 v2 k1 k2 k3 k4 = some t) (hz : Sum.elim (z_Rf_layLate_Y2 l G E v1) (z_Rf_layLate_X2 l G E v1) t) : aw_W l M_Rf_layLate G B_Rf_layLate E 100 [(0, .ref 0), (1, .int v1), (2, .int v2)] [.int k4, .int k3, .int k2, .int k1, .ref 0] xB σ 0 0 := by
  unfold m_Rf_layLate_J100 at h
  obtain ⟨s20, e19, h⟩ := aw_bde h
  refine aw_cV0 (pc := 100) [.int k1, .int k2, .int k3, .int k4] (c_Rf_set e19) yy_Rf_set.1 wm_780 yy_Rf_set.2.1 yy_Rf_set.2.2 xB_0 ⟨_, _, rfl⟩ rfl ⟨Nat.le_of_ble_eq_true rfl, Nat.le_of_ble_eq_true rfl⟩ ⟨Nat.zero_le _, Nat.zero_le _⟩ (Nat.le_of_ble_eq_true rfl) dX12_layLate_100 ?_
  obtain ⟨x21, e_x21⟩ : ∃ z, z = (v2 + (1 : Int32)) := ⟨_, rfl⟩
  replace h := aw_lte h x21 e_x21
  refine aw_iinc (pc := 103) (q := 2) (v := x21) [(2, .int x21), (0, .ref 0), (1, .int v1)] dX12_layLate_103 rfl e_x21.symm (by decide) rfl ?_
  refine aw_goto (pc := 106) (tgt := 2) dX12_layLate_106 (by decide) ?_
  refine aw_sub [1, 2, 0] rfl ?_
  cases h
  exact hz
set_option maxRecDepth 100000 in
set_option maxHeartbeats 4000000 in
theorem t_Rf_layLate_J99 {l : Launch} {G : aw_G} {E : aw_E} {σ : aw_S} {v1 : Int32} {v2 : Int32} {k1 : Int32} {k2 : Int32} {k3 : Int32} {t : (aw_S) ⊕ (Int32 × aw_S)} (h : m_Rf_layLate_J99 σ v1 v2 k1 k2 k3 = some t) (hz : Sum.elim (z_Rf_layLate_Y2 l G E v1) (z_Rf_layLate_X2 l G E v1) t) : aw_W l M_Rf_layLate G B_Rf_layLate E 99 [(0, .ref 0), (1, .int v1), (2, .int v2)] [.int k3, .int k2, .int k1, .ref 0] xB σ 0 0 := by
  unfold m_Rf_layLate_J99 at h
  refine aw_iconst (pc := 99) (v := 0) dX12_layLate_99 (by decide) ?_
  exact t_Rf_layLate_J100 h hz
set_option maxRecDepth 100000 in
set_option maxHeartbeats 4000000 in
theorem t_Rf_layLate_B2 {l : Launch} {G : aw_G} {E : aw_E} {σ : aw_S} {v1 : Int32} {v2 : Int32} {t : (aw_S) ⊕ (Int32 × aw_S)} (h : m_Rf_layLate_B2 σ v1 v2 = some t) (hz : Sum.elim (z_Rf_layLate_Y2 l G E v1) (z_Rf_layLate_X2 l G E v1) t) : aw_W l M_Rf_layLate G B_Rf_layLate E 2 [(0, .ref 0), (1, .int v1), (2, .int v2)] [] xB σ 0 0 := by
  unfold m_Rf_layLate_B2 at h
  refine aw_iload_n (pc := 2) (q := 2) dX12_layLate_2 rfl ?_
  refine aw_aload_n (pc := 3) (q := 0) dX12_layLate_3 rfl ?_
  refine aw_getI (pc := 4) fd_X12_215.r xB_0 rfl dX12_layLate_4 ?_
  refine aw_icmp_ge (pc := 7) (tgt := 109) dX12_layLate_7 (by decide) (fun c1 => ?_) (fun c1 => ?_)
  · replace h := aw_ifp c1 h
    refine aw_sub [] rfl ?_
    cases h
    exact hz
  · replace h := aw_ifn c1 h
    refine aw_aload_n (pc := 10) (q := 0) dX12_layLate_10 rfl ?_
    refine aw_iconst (pc := 11) (v := 0) dX12_layLate_11 (by decide) ?_
    refine aw_iload_n (pc := 12) (q := 1) dX12_layLate_12 rfl ?_
    refine aw_iload_n (pc := 13) (q := 2) dX12_layLate_13 rfl ?_
    obtain ⟨r2, e3, h⟩ := aw_bde h
    refine aw_cV1 (pc := 14) [.int ((0 : Int32)), .int v1, .int v2] (c_Rf_so e3) yy_Rf_so.1 wm_803 yy_Rf_so.2.1 yy_Rf_so.2.2 xB_0 ⟨_, _, rfl⟩ rfl ⟨Nat.le_of_ble_eq_true rfl, Nat.le_of_ble_eq_true rfl⟩ ⟨Nat.zero_le _, Nat.zero_le _⟩ (Nat.le_of_ble_eq_true rfl) dX12_layLate_14 ?_
    refine aw_istore_n (pc := 17) [(3, .int r2), (0, .ref 0), (1, .int v1), (2, .int v2)] dX12_layLate_17 (by decide) rfl ?_
    refine aw_iconst (pc := 18) (v := 2) dX12_layLate_18 (by decide) ?_
    refine aw_iload_n (pc := 19) (q := 3) dX12_layLate_19 rfl ?_
    refine aw_imul (pc := 20) dX12_layLate_20 ?_
    refine aw_nmI (fun x4 e_x4 => ?_)
    replace h := aw_lte h x4 e_x4
    refine aw_istore (pc := 21) [(4, .int x4), (3, .int r2), (0, .ref 0), (1, .int v1), (2, .int v2)] dX12_layLate_21 (by decide) rfl ?_
    obtain ⟨x14, hl15, h⟩ := aw_bde h
    have K16 : z_Rf_layLate_Y23 l G E σ v1 v2 x14 := by
      show aw_W l M_Rf_layLate G B_Rf_layLate E 76 [(0, .ref 0), (1, .int v1), (2, .int v2), (3, .int x14)] [] xB σ 0 0
      refine aw_aload_n (pc := 76) (q := 0) dX12_layLate_76 rfl ?_
      refine aw_bipush (pc := 77) (v := 6) dX12_layLate_77 (by decide) ?_
      refine aw_iload_n (pc := 79) (q := 1) dX12_layLate_79 rfl ?_
      refine aw_iload_n (pc := 80) (q := 2) dX12_layLate_80 rfl ?_
      refine aw_iload_n (pc := 81) (q := 3) dX12_layLate_81 rfl ?_
      refine aw_if_eq (pc := 82) (tgt := 99) dX12_layLate_82 (by decide) (fun c17 => ?_) (fun c17 => ?_)
      · replace h := aw_ifp c17 h
        refine aw_sub [0, 1, 2] rfl ?_
        exact t_Rf_layLate_J99 h hz
      · replace h := aw_ifn c17 h
        refine aw_aload_n (pc := 85) (q := 0) dX12_layLate_85 rfl ?_
        refine aw_iconst (pc := 86) (v := 5) dX12_layLate_86 (by decide) ?_
        refine aw_iload_n (pc := 87) (q := 1) dX12_layLate_87 rfl ?_
        refine aw_iload_n (pc := 88) (q := 2) dX12_layLate_88 rfl ?_
        obtain ⟨r22, e23, h⟩ := aw_bde h
        refine aw_cV1 (pc := 89) [.int ((5 : Int32)), .int v1, .int v2] (c_Rf_so e23) yy_Rf_so.1 wm_803 yy_Rf_so.2.1 yy_Rf_so.2.2 xB_0 ⟨_, _, rfl⟩ rfl ⟨Nat.le_of_ble_eq_true rfl, Nat.le_of_ble_eq_true rfl⟩ ⟨Nat.zero_le _, Nat.zero_le _⟩ (Nat.le_of_ble_eq_true rfl) dX12_layLate_89 ?_
        refine aw_if_eq (pc := 92) (tgt := 99) dX12_layLate_92 (by decide) (fun c24 => ?_) (fun c24 => ?_)
        · replace h := aw_ifp c24 h
          refine aw_sub [0, 1, 2] rfl ?_
          exact t_Rf_layLate_J99 h hz
        · replace h := aw_ifn c24 h
          refine aw_iconst (pc := 95) (v := 1) dX12_layLate_95 (by decide) ?_
          refine aw_goto (pc := 96) (tgt := 100) dX12_layLate_96 (by decide) ?_
          refine aw_sub [0, 1, 2] rfl ?_
          exact t_Rf_layLate_J100 h hz
    refine aw_sub [2, 3, 4, 1, 0] rfl ?_
    show z_Rf_layLate_X23 l G E σ v1 v2 ((r2, x4))
    exact aw_lp_X (Xp := z_Rf_layLate_X23 l G E σ v1 v2) (Y := z_Rf_layLate_Y23 l G E σ v1 v2) hl15 K16 (fun s t hf hz => t_Rf_layLate_B23 hf hz)
set_option maxRecDepth 100000 in
set_option maxHeartbeats 4000000 in
theorem t_Rf_layLate {l : Launch} {G : aw_G} {E : aw_E} {σ : aw_S} {p1 : Int32} {t : aw_S} (h : m_Rf_layLate σ p1 = some t) (hE : E = (none, xB, t)) : aw_W l M_Rf_layLate G B_Rf_layLate E 0 [(0, .ref 0), (1, .int p1)] [] xB σ 0 0 := by
  unfold m_Rf_layLate at h
  refine aw_iconst (pc := 0) (v := 0) dX12_layLate_0 (by decide) ?_
  refine aw_istore_n (pc := 1) [(2, .int ((0 : Int32))), (0, .ref 0), (1, .int p1)] dX12_layLate_1 (by decide) rfl ?_
  obtain ⟨x25, hl26, h⟩ := aw_bde h
  have K27 : z_Rf_layLate_Y2 l G E p1 x25 := by
    show aw_W l M_Rf_layLate G B_Rf_layLate E 109 [] [] xB x25 0 0
    cases h
    subst hE
    exact aw_vret rfl ⟨Nat.zero_le _, Nat.zero_le _⟩ dX12_layLate_109
  refine aw_sub [1, 2, 0] rfl ?_
  show z_Rf_layLate_X2 l G E p1 (((0 : Int32), σ))
  exact aw_lp_X (Xp := z_Rf_layLate_X2 l G E p1) (Y := z_Rf_layLate_Y2 l G E p1) hl26 K27 (fun s t hf hz => t_Rf_layLate_B2 hf hz)
theorem c_Rf_layLate {l : Launch} {G : aw_G} {σ : aw_S} {p1 : Int32} {t : aw_S} (h : m_Rf_layLate σ p1 = some t) : aw_Ct l yX12_layLate M_Rf_layLate G B_Rf_layLate [.ref 0, .int p1] xB σ (none, xB, t) := aw_Ct_of (by decide) rfl (fun h => by cases h) (Nat.le_of_ble_eq_true rfl) (t_Rf_layLate h rfl)

/-! LateMoverModel.at(IIII)I -/
set_option maxRecDepth 100000 in
set_option maxHeartbeats 4000000 in
theorem t_Rf_at {l : Launch} {G : aw_G} {E : aw_E} {σ : aw_S} {p0 : Int32} {p1 : Int32} {p2 : Int32} {p3 : Int32} {t : Int32} (h : m_Rf_at σ p0 p1 p2 p3 = some t) (hE : E = (some (.int t), xB, σ)) : aw_W l M_Rf_at G B_Rf_at E 0 [(0, .int p0), (1, .int p1), (2, .int p2), (3, .int p3)] [] xB σ 0 0 := by
  unfold m_Rf_at at h
  refine aw_bipush (pc := 0) (v := 112) dX12_at_0 (by decide) ?_
  refine aw_bipush (pc := 2) (v := 24) dX12_at_2 (by decide) ?_
  refine aw_iconst (pc := 4) (v := 3) dX12_at_4 (by decide) ?_
  refine aw_iload_n (pc := 5) (q := 0) dX12_at_5 rfl ?_
  refine aw_imul (pc := 6) dX12_at_6 ?_
  refine aw_iload_n (pc := 7) (q := 1) dX12_at_7 rfl ?_
  refine aw_iadd (pc := 8) dX12_at_8 ?_
  refine aw_imul (pc := 9) dX12_at_9 ?_
  refine aw_iload_n (pc := 10) (q := 2) dX12_at_10 rfl ?_
  refine aw_iadd (pc := 11) dX12_at_11 ?_
  refine aw_imul (pc := 12) dX12_at_12 ?_
  refine aw_iload_n (pc := 13) (q := 3) dX12_at_13 rfl ?_
  refine aw_iadd (pc := 14) dX12_at_14 ?_
  cases h
  subst hE
  exact aw_iret (v := (((112 : Int32) * (((24 : Int32) * (((3 : Int32) * p0) + p1)) + p2)) + p3)) rfl aw_ni ⟨Nat.zero_le _, Nat.zero_le _⟩ dX12_at_15
theorem c_Rf_at {l : Launch} {G : aw_G} {σ : aw_S} {p0 : Int32} {p1 : Int32} {p2 : Int32} {p3 : Int32} {t : Int32} (h : m_Rf_at σ p0 p1 p2 p3 = some t) : aw_Ct l yX12_at M_Rf_at G B_Rf_at [.int p0, .int p1, .int p2, .int p3] xB σ (some (.int t), xB, σ) := aw_Ct_of (by decide) rfl (fun h => by cases h) (Nat.le_of_ble_eq_true rfl) (t_Rf_at h rfl)
/-! LateMoverModel.layAlive(II)V -/
def z_Rf_layAlive_X2 (l : Launch) (G : aw_G) (E : aw_E) (v1 : Int32) (v2 : Int32) (s : Int32 × aw_S) : Prop := aw_W l M_Rf_layAlive G B_Rf_layAlive E 2 [(0, .ref 0), (1, .int v1), (2, .int v2), (3, .int s.1)] [] xB s.2 0 0
def z_Rf_layAlive_Y2 (l : Launch) (G : aw_G) (E : aw_E) (v1 : Int32) (v2 : Int32) (x : (aw_S)) : Prop := aw_W l M_Rf_layAlive G B_Rf_layAlive E 40 [(0, .ref 0), (1, .int v1), (2, .int v2)] [] xB x 0 0
def z_Rf_layAlive_X42 (l : Launch) (G : aw_G) (E : aw_E) (v1 : Int32) (v2 : Int32) (s : Int32 × aw_S) : Prop := aw_W l M_Rf_layAlive G B_Rf_layAlive E 42 [(0, .ref 0), (1, .int v1), (2, .int v2), (3, .int s.1)] [] xB s.2 0 0
def z_Rf_layAlive_Y42 (l : Launch) (G : aw_G) (E : aw_E) (v1 : Int32) (v2 : Int32) (x : (aw_S)) : Prop := aw_W l M_Rf_layAlive G B_Rf_layAlive E 157 [] [] xB x 0 0
def z_Rf_layAlive_X51 (l : Launch) (G : aw_G) (E : aw_E) (v1 : Int32) (v2 : Int32) (s : Int32 × Int32 × aw_S) : Prop := aw_W l M_Rf_layAlive G B_Rf_layAlive E 51 [(0, .ref 0), (1, .int v1), (2, .int v2), (3, .int s.1), (4, .int s.2.1)] [] xB s.2.2 0 0
def z_Rf_layAlive_Y51 (l : Launch) (G : aw_G) (E : aw_E) (v1 : Int32) (v2 : Int32) (x : (Int32 × aw_S)) : Prop := aw_W l M_Rf_layAlive G B_Rf_layAlive E 154 [(0, .ref 0), (1, .int v1), (2, .int v2), (3, .int x.1)] [] xB x.2 0 0
set_option maxRecDepth 100000 in
set_option maxHeartbeats 4000000 in
theorem t_Rf_layAlive_B2 {l : Launch} {G : aw_G} {E : aw_E} {σ : aw_S} {v1 : Int32} {v2 : Int32} {v3 : Int32} {t : (aw_S) ⊕ (Int32 × aw_S)} (h : m_Rf_layAlive_B2 σ v1 v2 v3 = some t) (hz : Sum.elim (z_Rf_layAlive_Y2 l G E v1 v2) (z_Rf_layAlive_X2 l G E v1 v2) t) : aw_W l M_Rf_layAlive G B_Rf_layAlive E 2 [(0, .ref 0), (1, .int v1), (2, .int v2), (3, .int v3)] [] xB σ 0 0 := by
  unfold m_Rf_layAlive_B2 at h
  refine aw_iload_n (pc := 2) (q := 3) dX12_layAlive_2 rfl ?_
  refine aw_aload_n (pc := 3) (q := 0) dX12_layAlive_3 rfl ?_
  refine aw_getI (pc := 4) fd_X12_215.r xB_0 rfl dX12_layAlive_4 ?_
  refine aw_icmp_ge (pc := 7) (tgt := 40) dX12_layAlive_7 (by decide) (fun c1 => ?_) (fun c1 => ?_)
  · replace h := aw_ifp c1 h
    refine aw_sub [0, 1, 2] rfl ?_
    cases h
    exact hz
  · replace h := aw_ifn c1 h
    refine aw_aload_n (pc := 10) (q := 0) dX12_layAlive_10 rfl ?_
    refine aw_getC (pc := 11) fd_X12_52.r xB_0 rfl dX12_layAlive_11 ?_
    refine aw_iload_n (pc := 14) (q := 1) dX12_layAlive_14 rfl ?_
    refine aw_iconst (pc := 15) (v := 2) dX12_layAlive_15 (by decide) ?_
    refine aw_iload_n (pc := 16) (q := 2) dX12_layAlive_16 rfl ?_
    refine aw_iload_n (pc := 17) (q := 3) dX12_layAlive_17 rfl ?_
    obtain ⟨r2, e3, h⟩ := aw_bde h
    refine aw_cS1 (pc := 18) [.int v1, .int ((2 : Int32)), .int v2, .int v3] (c_Rf_at e3) yy_Rf_at.1 wm_827 yy_Rf_at.2 rfl ⟨Nat.le_of_ble_eq_true rfl, Nat.le_of_ble_eq_true rfl⟩ ⟨Nat.zero_le _, Nat.zero_le _⟩ (Nat.le_of_ble_eq_true rfl) dX12_layAlive_18 ?_
    refine aw_aload_n (pc := 21) (q := 0) dX12_layAlive_21 rfl ?_
    refine aw_getC (pc := 22) fd_X12_52.r xB_0 rfl dX12_layAlive_22 ?_
    refine aw_iload_n (pc := 25) (q := 1) dX12_layAlive_25 rfl ?_
    refine aw_iconst (pc := 26) (v := 1) dX12_layAlive_26 (by decide) ?_
    refine aw_iload_n (pc := 27) (q := 2) dX12_layAlive_27 rfl ?_
    refine aw_iload_n (pc := 28) (q := 3) dX12_layAlive_28 rfl ?_
    obtain ⟨r4, e5, h⟩ := aw_bde h
    refine aw_cS1 (pc := 29) [.int v1, .int ((1 : Int32)), .int v2, .int v3] (c_Rf_at e5) yy_Rf_at.1 wm_827 yy_Rf_at.2 rfl ⟨Nat.le_of_ble_eq_true rfl, Nat.le_of_ble_eq_true rfl⟩ ⟨Nat.zero_le _, Nat.zero_le _⟩ (Nat.le_of_ble_eq_true rfl) dX12_layAlive_29 ?_
    obtain ⟨g6, h⟩ := aw_gde h
    refine aw_zald (pc := 32) xB_13 g6 dX12_layAlive_32 ?_
    obtain ⟨g7, h⟩ := aw_gde h
    refine aw_zast (pc := 33) xB_13 g7 dX12_layAlive_33 ?_
    refine aw_nmS (fun s8 e_s8 => ?_)
    replace h := aw_lte h s8 e_s8
    obtain ⟨x9, e_x9⟩ : ∃ z, z = (v3 + (1 : Int32)) := ⟨_, rfl⟩
    replace h := aw_lte h x9 e_x9
    refine aw_iinc (pc := 34) (q := 3) (v := x9) [(3, .int x9), (0, .ref 0), (1, .int v1), (2, .int v2)] dX12_layAlive_34 rfl e_x9.symm (by decide) rfl ?_
    refine aw_goto (pc := 37) (tgt := 2) dX12_layAlive_37 (by decide) ?_
    refine aw_sub [1, 2, 3, 0] rfl ?_
    cases h
    exact hz
set_option maxRecDepth 100000 in
set_option maxHeartbeats 4000000 in
theorem t_Rf_layAlive_J148 {l : Launch} {G : aw_G} {E : aw_E} {σ : aw_S} {v1 : Int32} {v2 : Int32} {v3 : Int32} {v4 : Int32} {t : (Int32 × aw_S) ⊕ (Int32 × Int32 × aw_S)} (h : m_Rf_layAlive_J148 σ v1 v2 v3 v4 = some t) (hz : Sum.elim (z_Rf_layAlive_Y51 l G E v1 v2) (z_Rf_layAlive_X51 l G E v1 v2) t) : aw_W l M_Rf_layAlive G B_Rf_layAlive E 148 [(0, .ref 0), (1, .int v1), (2, .int v2), (3, .int v3), (4, .int v4)] [] xB σ 0 0 := by
  unfold m_Rf_layAlive_J148 at h
  obtain ⟨x18, e_x18⟩ : ∃ z, z = (v4 + (1 : Int32)) := ⟨_, rfl⟩
  replace h := aw_lte h x18 e_x18
  refine aw_iinc (pc := 148) (q := 4) (v := x18) [(4, .int x18), (0, .ref 0), (1, .int v1), (2, .int v2), (3, .int v3)] dX12_layAlive_148 rfl e_x18.symm (by decide) rfl ?_
  refine aw_goto (pc := 151) (tgt := 51) dX12_layAlive_151 (by decide) ?_
  refine aw_sub [1, 2, 3, 4, 0] rfl ?_
  cases h
  exact hz
set_option maxRecDepth 100000 in
set_option maxHeartbeats 4000000 in
theorem t_Rf_layAlive_B51 {l : Launch} {G : aw_G} {E : aw_E} {σ : aw_S} {v1 : Int32} {v2 : Int32} {v3 : Int32} {v4 : Int32} {t : (Int32 × aw_S) ⊕ (Int32 × Int32 × aw_S)} (h : m_Rf_layAlive_B51 σ v1 v2 v3 v4 = some t) (hz : Sum.elim (z_Rf_layAlive_Y51 l G E v1 v2) (z_Rf_layAlive_X51 l G E v1 v2) t) : aw_W l M_Rf_layAlive G B_Rf_layAlive E 51 [(0, .ref 0), (1, .int v1), (2, .int v2), (3, .int v3), (4, .int v4)] [] xB σ 0 0 := by
  unfold m_Rf_layAlive_B51 at h
  refine aw_iload (pc := 51) (q := 4) dX12_layAlive_51 rfl ?_
  refine aw_iconst (pc := 53) (v := 2) dX12_layAlive_53 (by decide) ?_
  refine aw_aload_n (pc := 54) (q := 0) dX12_layAlive_54 rfl ?_
  refine aw_getI (pc := 55) fd_X12_215.r xB_0 rfl dX12_layAlive_55 ?_
  refine aw_imul (pc := 58) dX12_layAlive_58 ?_
  refine aw_icmp_ge (pc := 59) (tgt := 154) dX12_layAlive_59 (by decide) (fun c14 => ?_) (fun c14 => ?_)
  · replace h := aw_ifp c14 h
    refine aw_sub [0, 1, 2, 3] rfl ?_
    cases h
    exact hz
  · replace h := aw_ifn c14 h
    refine aw_aload_n (pc := 62) (q := 0) dX12_layAlive_62 rfl ?_
    refine aw_getC (pc := 63) fd_X12_33.r xB_0 rfl dX12_layAlive_63 ?_
    refine aw_iload (pc := 66) (q := 4) dX12_layAlive_66 rfl ?_
    obtain ⟨g15, h⟩ := aw_gde h
    refine aw_iald (pc := 68) xB_7 g15 dX12_layAlive_68 ?_
    refine aw_nmI (fun x16 e_x16 => ?_)
    replace h := aw_lte h x16 e_x16
    refine aw_istore (pc := 69) [(5, .int x16), (0, .ref 0), (1, .int v1), (2, .int v2), (3, .int v3), (4, .int v4)] dX12_layAlive_69 (by decide) rfl ?_
    refine aw_iload (pc := 71) (q := 0) dX12_layAlive_71 rfl ?_
    refine aw_iconst (pc := 73) (v := -1) dX12_layAlive_73 (by decide) ?_
    refine aw_icmp_eq (pc := 74) (tgt := 148) dX12_layAlive_74 (by decide) (fun c17 => ?_) (fun c17 => ?_)
    · replace h := aw_ifp c17 h
      refine aw_sub [1, 2, 3, 4, 5] rfl ?_
      exact t_Rf_layAlive_J148 h hz
    · replace h := aw_ifn c17 h
      refine aw_aload_n (pc := 77) (q := 1) dX12_layAlive_77 rfl ?_
      refine aw_getC (pc := 78) fd_X12_52.r xB_0 rfl dX12_layAlive_78 ?_
      refine aw_iload_n (pc := 81) (q := 2) dX12_layAlive_81 rfl ?_
      refine aw_iconst (pc := 82) (v := 2) dX12_layAlive_82 (by decide) ?_
      refine aw_iload_n (pc := 83) (q := 3) dX12_layAlive_83 rfl ?_
      refine aw_iload (pc := 84) (q := 5) dX12_layAlive_84 rfl ?_
      refine aw_iconst (pc := 86) (v := 2) dX12_layAlive_86 (by decide) ?_
      refine aw_idiv (pc := 87) dX12_layAlive_87 (by decide) ?_
      obtain ⟨r19, e20, h⟩ := aw_bde h
      refine aw_cS1 (pc := 88) [.int v1, .int ((2 : Int32)), .int v2, .int ((v4 / (2 : Int32)))] (c_Rf_at e20) yy_Rf_at.1 wm_827 yy_Rf_at.2 rfl ⟨Nat.le_of_ble_eq_true rfl, Nat.le_of_ble_eq_true rfl⟩ ⟨Nat.zero_le _, Nat.zero_le _⟩ (Nat.le_of_ble_eq_true rfl) dX12_layAlive_88 ?_
      obtain ⟨g21, h⟩ := aw_gde h
      refine aw_zald (pc := 91) xB_13 g21 dX12_layAlive_91 ?_
      refine aw_if_ne (pc := 92) (tgt := 148) dX12_layAlive_92 (by decide) (fun c22 => ?_) (fun c22 => ?_)
      · replace h := aw_ifn c22 h
        refine aw_sub [1, 2, 3, 4, 5] rfl ?_
        exact t_Rf_layAlive_J148 h hz
      · replace h := aw_ifp c22 h
        refine aw_aload_n (pc := 95) (q := 1) dX12_layAlive_95 rfl ?_
        refine aw_getC (pc := 96) fd_X12_52.r xB_0 rfl dX12_layAlive_96 ?_
        refine aw_iload_n (pc := 99) (q := 2) dX12_layAlive_99 rfl ?_
        refine aw_iconst (pc := 100) (v := 0) dX12_layAlive_100 (by decide) ?_
        refine aw_iload_n (pc := 101) (q := 3) dX12_layAlive_101 rfl ?_
        refine aw_iload (pc := 102) (q := 0) dX12_layAlive_102 rfl ?_
        obtain ⟨r23, e24, h⟩ := aw_bde h
        refine aw_cS1 (pc := 104) [.int v1, .int ((0 : Int32)), .int v2, .int x16] (c_Rf_at e24) yy_Rf_at.1 wm_827 yy_Rf_at.2 rfl ⟨Nat.le_of_ble_eq_true rfl, Nat.le_of_ble_eq_true rfl⟩ ⟨Nat.zero_le _, Nat.zero_le _⟩ (Nat.le_of_ble_eq_true rfl) dX12_layAlive_104 ?_
        obtain ⟨g25, h⟩ := aw_gde h
        refine aw_zald (pc := 107) xB_13 g25 dX12_layAlive_107 ?_
        refine aw_if_ne (pc := 108) (tgt := 148) dX12_layAlive_108 (by decide) (fun c26 => ?_) (fun c26 => ?_)
        · replace h := aw_ifn c26 h
          refine aw_sub [1, 2, 3, 4, 5] rfl ?_
          exact t_Rf_layAlive_J148 h hz
        · replace h := aw_ifp c26 h
          refine aw_aload_n (pc := 111) (q := 1) dX12_layAlive_111 rfl ?_
          refine aw_getC (pc := 112) fd_X12_52.r xB_0 rfl dX12_layAlive_112 ?_
          refine aw_iload_n (pc := 115) (q := 2) dX12_layAlive_115 rfl ?_
          refine aw_iconst (pc := 116) (v := 2) dX12_layAlive_116 (by decide) ?_
          refine aw_iload_n (pc := 117) (q := 3) dX12_layAlive_117 rfl ?_
          refine aw_iload (pc := 118) (q := 0) dX12_layAlive_118 rfl ?_
          obtain ⟨r27, e28, h⟩ := aw_bde h
          refine aw_cS1 (pc := 120) [.int v1, .int ((2 : Int32)), .int v2, .int x16] (c_Rf_at e28) yy_Rf_at.1 wm_827 yy_Rf_at.2 rfl ⟨Nat.le_of_ble_eq_true rfl, Nat.le_of_ble_eq_true rfl⟩ ⟨Nat.zero_le _, Nat.zero_le _⟩ (Nat.le_of_ble_eq_true rfl) dX12_layAlive_120 ?_
          obtain ⟨g29, h⟩ := aw_gde h
          refine aw_zald (pc := 123) xB_13 g29 dX12_layAlive_123 ?_
          refine aw_if_ne (pc := 124) (tgt := 130) dX12_layAlive_124 (by decide) (fun c30 => ?_) (fun c30 => ?_)
          · replace h := aw_ifn c30 h
            refine aw_aload_n (pc := 130) (q := 1) dX12_layAlive_130 rfl ?_
            refine aw_getC (pc := 131) fd_X12_52.r xB_0 rfl dX12_layAlive_131 ?_
            refine aw_iload_n (pc := 134) (q := 2) dX12_layAlive_134 rfl ?_
            refine aw_iconst (pc := 135) (v := 2) dX12_layAlive_135 (by decide) ?_
            refine aw_iload_n (pc := 136) (q := 3) dX12_layAlive_136 rfl ?_
            refine aw_iload (pc := 137) (q := 5) dX12_layAlive_137 rfl ?_
            refine aw_iconst (pc := 139) (v := 2) dX12_layAlive_139 (by decide) ?_
            refine aw_idiv (pc := 140) dX12_layAlive_140 (by decide) ?_
            obtain ⟨r31, e32, h⟩ := aw_bde h
            refine aw_cS1 (pc := 141) [.int v1, .int ((2 : Int32)), .int v2, .int ((v4 / (2 : Int32)))] (c_Rf_at e32) yy_Rf_at.1 wm_827 yy_Rf_at.2 rfl ⟨Nat.le_of_ble_eq_true rfl, Nat.le_of_ble_eq_true rfl⟩ ⟨Nat.zero_le _, Nat.zero_le _⟩ (Nat.le_of_ble_eq_true rfl) dX12_layAlive_141 ?_
            refine aw_iconst (pc := 144) (v := 1) dX12_layAlive_144 (by decide) ?_
            obtain ⟨g33, h⟩ := aw_gde h
            refine aw_zast (pc := 145) xB_13 g33 dX12_layAlive_145 ?_
            refine aw_nmS (fun s34 e_s34 => ?_)
            replace h := aw_lte h s34 e_s34
            refine aw_iconst (pc := 146) (v := 1) dX12_layAlive_146 (by decide) ?_
            refine aw_istore_n (pc := 147) [(3, .int ((1 : Int32))), (5, .int x16), (0, .ref 0), (1, .int v1), (2, .int v2), (4, .int v4)] dX12_layAlive_147 (by decide) rfl ?_
            refine aw_sub [2, 3, 4, 0, 5] rfl ?_
            exact t_Rf_layAlive_J148 h hz
          · replace h := aw_ifp c30 h
            refine aw_goto (pc := 127) (tgt := 148) dX12_layAlive_127 (by decide) ?_
            refine aw_sub [1, 2, 3, 4, 5] rfl ?_
            exact t_Rf_layAlive_J148 h hz
set_option maxRecDepth 100000 in
set_option maxHeartbeats 4000000 in
theorem t_Rf_layAlive_B42 {l : Launch} {G : aw_G} {E : aw_E} {σ : aw_S} {v1 : Int32} {v2 : Int32} {v3 : Int32} {t : (aw_S) ⊕ (Int32 × aw_S)} (h : m_Rf_layAlive_B42 σ v1 v2 v3 = some t) (hz : Sum.elim (z_Rf_layAlive_Y42 l G E v1 v2) (z_Rf_layAlive_X42 l G E v1 v2) t) : aw_W l M_Rf_layAlive G B_Rf_layAlive E 42 [(0, .ref 0), (1, .int v1), (2, .int v2), (3, .int v3)] [] xB σ 0 0 := by
  unfold m_Rf_layAlive_B42 at h
  refine aw_iload_n (pc := 42) (q := 3) dX12_layAlive_42 rfl ?_
  refine aw_if_eq (pc := 43) (tgt := 157) dX12_layAlive_43 (by decide) (fun c13 => ?_) (fun c13 => ?_)
  · replace h := aw_ifp c13 h
    refine aw_sub [] rfl ?_
    cases h
    exact hz
  · replace h := aw_ifn c13 h
    refine aw_iconst (pc := 46) (v := 0) dX12_layAlive_46 (by decide) ?_
    refine aw_istore_n (pc := 47) [(3, .int ((0 : Int32))), (0, .ref 0), (1, .int v1), (2, .int v2)] dX12_layAlive_47 (by decide) rfl ?_
    refine aw_iconst (pc := 48) (v := 0) dX12_layAlive_48 (by decide) ?_
    refine aw_istore (pc := 49) [(4, .int ((0 : Int32))), (3, .int ((0 : Int32))), (0, .ref 0), (1, .int v1), (2, .int v2)] dX12_layAlive_49 (by decide) rfl ?_
    obtain ⟨x35, hl36, h⟩ := aw_bde h
    have K37 : z_Rf_layAlive_Y51 l G E v1 v2 x35 := by
      show aw_W l M_Rf_layAlive G B_Rf_layAlive E 154 [(0, .ref 0), (1, .int v1), (2, .int v2), (3, .int x35.1)] [] xB x35.2 0 0
      refine aw_goto (pc := 154) (tgt := 42) dX12_layAlive_154 (by decide) ?_
      refine aw_sub [0, 1, 2, 3] rfl ?_
      cases h
      exact hz
    refine aw_sub [2, 3, 4, 1, 0] rfl ?_
    show z_Rf_layAlive_X51 l G E v1 v2 (((0 : Int32), (0 : Int32), σ))
    exact aw_lp_X (Xp := z_Rf_layAlive_X51 l G E v1 v2) (Y := z_Rf_layAlive_Y51 l G E v1 v2) hl36 K37 (fun s t hf hz => t_Rf_layAlive_B51 hf hz)
set_option maxRecDepth 100000 in
set_option maxHeartbeats 4000000 in
theorem t_Rf_layAlive {l : Launch} {G : aw_G} {E : aw_E} {σ : aw_S} {p1 : Int32} {p2 : Int32} {t : aw_S} (h : m_Rf_layAlive σ p1 p2 = some t) (hE : E = (none, xB, t)) : aw_W l M_Rf_layAlive G B_Rf_layAlive E 0 [(0, .ref 0), (1, .int p1), (2, .int p2)] [] xB σ 0 0 := by
  unfold m_Rf_layAlive at h
  refine aw_iconst (pc := 0) (v := 0) dX12_layAlive_0 (by decide) ?_
  refine aw_istore_n (pc := 1) [(3, .int ((0 : Int32))), (0, .ref 0), (1, .int p1), (2, .int p2)] dX12_layAlive_1 (by decide) rfl ?_
  obtain ⟨x10, hl11, h⟩ := aw_bde h
  have K12 : z_Rf_layAlive_Y2 l G E p1 p2 x10 := by
    show aw_W l M_Rf_layAlive G B_Rf_layAlive E 40 [(0, .ref 0), (1, .int p1), (2, .int p2)] [] xB x10 0 0
    refine aw_iconst (pc := 40) (v := 1) dX12_layAlive_40 (by decide) ?_
    refine aw_istore_n (pc := 41) [(3, .int ((1 : Int32))), (0, .ref 0), (1, .int p1), (2, .int p2)] dX12_layAlive_41 (by decide) rfl ?_
    obtain ⟨x38, hl39, h⟩ := aw_bde h
    have K40 : z_Rf_layAlive_Y42 l G E p1 p2 x38 := by
      show aw_W l M_Rf_layAlive G B_Rf_layAlive E 157 [] [] xB x38 0 0
      cases h
      subst hE
      exact aw_vret rfl ⟨Nat.zero_le _, Nat.zero_le _⟩ dX12_layAlive_157
    refine aw_sub [1, 2, 3, 0] rfl ?_
    show z_Rf_layAlive_X42 l G E p1 p2 (((1 : Int32), x10))
    exact aw_lp_X (Xp := z_Rf_layAlive_X42 l G E p1 p2) (Y := z_Rf_layAlive_Y42 l G E p1 p2) hl39 K40 (fun s t hf hz => t_Rf_layAlive_B42 hf hz)
  refine aw_sub [1, 2, 3, 0] rfl ?_
  show z_Rf_layAlive_X2 l G E p1 p2 (((0 : Int32), σ))
  exact aw_lp_X (Xp := z_Rf_layAlive_X2 l G E p1 p2) (Y := z_Rf_layAlive_Y2 l G E p1 p2) hl11 K12 (fun s t hf hz => t_Rf_layAlive_B2 hf hz)
theorem c_Rf_layAlive {l : Launch} {G : aw_G} {σ : aw_S} {p1 : Int32} {p2 : Int32} {t : aw_S} (h : m_Rf_layAlive σ p1 p2 = some t) : aw_Ct l yX12_layAlive M_Rf_layAlive G B_Rf_layAlive [.ref 0, .int p1, .int p2] xB σ (none, xB, t) := aw_Ct_of (by decide) rfl (fun h => by cases h) (Nat.le_of_ble_eq_true rfl) (t_Rf_layAlive h rfl)
/-! LateMoverModel.layFacts(I)V -/
def z_Rf_layFacts_X2 (l : Launch) (G : aw_G) (E : aw_E) (v1 : Int32) (s : Int32 × aw_S) : Prop := aw_W l M_Rf_layFacts G B_Rf_layFacts E 2 [(0, .ref 0), (1, .int v1), (2, .int s.1)] [] xB s.2 0 0
def z_Rf_layFacts_Y2 (l : Launch) (G : aw_G) (E : aw_E) (v1 : Int32) (x : (aw_S)) : Prop := aw_W l M_Rf_layFacts G B_Rf_layFacts E 42 [(0, .ref 0), (1, .int v1)] [] xB x 0 0
def z_Rf_layFacts_X79 (l : Launch) (G : aw_G) (E : aw_E) (v1 : Int32) (s : Int32 × aw_S) : Prop := aw_W l M_Rf_layFacts G B_Rf_layFacts E 79 [(0, .ref 0), (1, .int v1), (2, .int s.1)] [] xB s.2 0 0
def z_Rf_layFacts_Y79 (l : Launch) (G : aw_G) (E : aw_E) (v1 : Int32) (x : (aw_S)) : Prop := aw_W l M_Rf_layFacts G B_Rf_layFacts E 224 [] [] xB x 0 0
def z_Rf_layFacts_X86 (l : Launch) (G : aw_G) (E : aw_E) (v1 : Int32) (v2 : Int32) (s : Int32 × aw_S) : Prop := aw_W l M_Rf_layFacts G B_Rf_layFacts E 86 [(0, .ref 0), (1, .int v1), (2, .int v2), (3, .int s.1)] [] xB s.2 0 0
def z_Rf_layFacts_Y86 (l : Launch) (G : aw_G) (E : aw_E) (v1 : Int32) (v2 : Int32) (x : (aw_S)) : Prop := aw_W l M_Rf_layFacts G B_Rf_layFacts E 212 [(0, .ref 0), (1, .int v1), (2, .int v2)] [] xB x 0 0
set_option maxRecDepth 100000 in
set_option maxHeartbeats 4000000 in
theorem t_Rf_layFacts_B2 {l : Launch} {G : aw_G} {E : aw_E} {σ : aw_S} {v1 : Int32} {v2 : Int32} {t : (aw_S) ⊕ (Int32 × aw_S)} (h : m_Rf_layFacts_B2 σ v1 v2 = some t) (hz : Sum.elim (z_Rf_layFacts_Y2 l G E v1) (z_Rf_layFacts_X2 l G E v1) t) : aw_W l M_Rf_layFacts G B_Rf_layFacts E 2 [(0, .ref 0), (1, .int v1), (2, .int v2)] [] xB σ 0 0 := by
  unfold m_Rf_layFacts_B2 at h
  refine aw_iload_n (pc := 2) (q := 2) dX12_layFacts_2 rfl ?_
  refine aw_aload_n (pc := 3) (q := 0) dX12_layFacts_3 rfl ?_
  refine aw_getI (pc := 4) fd_X12_215.r xB_0 rfl dX12_layFacts_4 ?_
  refine aw_icmp_ge (pc := 7) (tgt := 42) dX12_layFacts_7 (by decide) (fun c1 => ?_) (fun c1 => ?_)
  · replace h := aw_ifp c1 h
    refine aw_sub [0, 1] rfl ?_
    cases h
    exact hz
  · replace h := aw_ifn c1 h
    refine aw_aload_n (pc := 10) (q := 0) dX12_layFacts_10 rfl ?_
    refine aw_iconst (pc := 11) (v := 0) dX12_layFacts_11 (by decide) ?_
    refine aw_iload_n (pc := 12) (q := 1) dX12_layFacts_12 rfl ?_
    refine aw_iload_n (pc := 13) (q := 2) dX12_layFacts_13 rfl ?_
    refine aw_aload_n (pc := 14) (q := 0) dX12_layFacts_14 rfl ?_
    refine aw_iload_n (pc := 15) (q := 1) dX12_layFacts_15 rfl ?_
    refine aw_iload_n (pc := 16) (q := 2) dX12_layFacts_16 rfl ?_
    obtain ⟨r2, e3, h⟩ := aw_bde h
    refine aw_cV1 (pc := 17) [.int v1, .int v2] (c_Rf_doesUse e3) yy_Rf_doesUse.1 wm_772 yy_Rf_doesUse.2.1 yy_Rf_doesUse.2.2 xB_0 ⟨_, _, rfl⟩ rfl ⟨Nat.le_of_ble_eq_true rfl, Nat.le_of_ble_eq_true rfl⟩ ⟨Nat.zero_le _, Nat.zero_le _⟩ (Nat.le_of_ble_eq_true rfl) dX12_layFacts_17 ?_
    obtain ⟨s6, e5, h⟩ := aw_bde h
    refine aw_cV0 (pc := 20) [.int ((0 : Int32)), .int v1, .int v2, .int r2] (c_Rf_set e5) yy_Rf_set.1 wm_780 yy_Rf_set.2.1 yy_Rf_set.2.2 xB_0 ⟨_, _, rfl⟩ rfl ⟨Nat.le_of_ble_eq_true rfl, Nat.le_of_ble_eq_true rfl⟩ ⟨Nat.zero_le _, Nat.zero_le _⟩ (Nat.le_of_ble_eq_true rfl) dX12_layFacts_20 ?_
    refine aw_aload_n (pc := 23) (q := 0) dX12_layFacts_23 rfl ?_
    refine aw_iconst (pc := 24) (v := 1) dX12_layFacts_24 (by decide) ?_
    refine aw_iload_n (pc := 25) (q := 1) dX12_layFacts_25 rfl ?_
    refine aw_iload_n (pc := 26) (q := 2) dX12_layFacts_26 rfl ?_
    refine aw_aload_n (pc := 27) (q := 0) dX12_layFacts_27 rfl ?_
    refine aw_iload_n (pc := 28) (q := 1) dX12_layFacts_28 rfl ?_
    refine aw_iload_n (pc := 29) (q := 2) dX12_layFacts_29 rfl ?_
    obtain ⟨r7, e8, h⟩ := aw_bde h
    refine aw_cV1 (pc := 30) [.int v1, .int v2] (c_Rf_doesKeep e8) yy_Rf_doesKeep.1 wm_787 yy_Rf_doesKeep.2.1 yy_Rf_doesKeep.2.2 xB_0 ⟨_, _, rfl⟩ rfl ⟨Nat.le_of_ble_eq_true rfl, Nat.le_of_ble_eq_true rfl⟩ ⟨Nat.zero_le _, Nat.zero_le _⟩ (Nat.le_of_ble_eq_true rfl) dX12_layFacts_30 ?_
    obtain ⟨s11, e10, h⟩ := aw_bde h
    refine aw_cV0 (pc := 33) [.int ((1 : Int32)), .int v1, .int v2, .int r7] (c_Rf_set e10) yy_Rf_set.1 wm_780 yy_Rf_set.2.1 yy_Rf_set.2.2 xB_0 ⟨_, _, rfl⟩ rfl ⟨Nat.le_of_ble_eq_true rfl, Nat.le_of_ble_eq_true rfl⟩ ⟨Nat.zero_le _, Nat.zero_le _⟩ (Nat.le_of_ble_eq_true rfl) dX12_layFacts_33 ?_
    obtain ⟨x12, e_x12⟩ : ∃ z, z = (v2 + (1 : Int32)) := ⟨_, rfl⟩
    replace h := aw_lte h x12 e_x12
    refine aw_iinc (pc := 36) (q := 2) (v := x12) [(2, .int x12), (0, .ref 0), (1, .int v1)] dX12_layFacts_36 rfl e_x12.symm (by decide) rfl ?_
    refine aw_goto (pc := 39) (tgt := 2) dX12_layFacts_39 (by decide) ?_
    refine aw_sub [1, 2, 0] rfl ?_
    cases h
    exact hz
set_option maxRecDepth 100000 in
set_option maxHeartbeats 4000000 in
theorem t_Rf_layFacts_J205 {l : Launch} {G : aw_G} {E : aw_E} {σ : aw_S} {v1 : Int32} {v2 : Int32} {v3 : Int32} {k1 : Int32} {k2 : Int32} {t : (aw_S) ⊕ (Int32 × aw_S)} (h : m_Rf_layFacts_J205 σ v1 v2 v3 k1 k2 = some t) (hz : Sum.elim (z_Rf_layFacts_Y86 l G E v1 v2) (z_Rf_layFacts_X86 l G E v1 v2) t) : aw_W l M_Rf_layFacts G B_Rf_layFacts E 205 [(0, .ref 0), (1, .int v1), (2, .int v2), (3, .int v3)] [.int k2, .int k1, .ref 13] xB σ 0 0 := by
  unfold m_Rf_layFacts_J205 at h
  obtain ⟨g52, h⟩ := aw_gde h
  refine aw_zast (pc := 205) xB_13 g52 dX12_layFacts_205 ?_
  refine aw_nmS (fun s53 e_s53 => ?_)
  replace h := aw_lte h s53 e_s53
  obtain ⟨x54, e_x54⟩ : ∃ z, z = (v3 + (1 : Int32)) := ⟨_, rfl⟩
  replace h := aw_lte h x54 e_x54
  refine aw_iinc (pc := 206) (q := 3) (v := x54) [(3, .int x54), (0, .ref 0), (1, .int v1), (2, .int v2)] dX12_layFacts_206 rfl e_x54.symm (by decide) rfl ?_
  refine aw_goto (pc := 209) (tgt := 86) dX12_layFacts_209 (by decide) ?_
  refine aw_sub [1, 2, 3, 0] rfl ?_
  cases h
  exact hz
set_option maxRecDepth 100000 in
set_option maxHeartbeats 4000000 in
theorem t_Rf_layFacts_J204 {l : Launch} {G : aw_G} {E : aw_E} {σ : aw_S} {v1 : Int32} {v2 : Int32} {v3 : Int32} {k1 : Int32} {t : (aw_S) ⊕ (Int32 × aw_S)} (h : m_Rf_layFacts_J204 σ v1 v2 v3 k1 = some t) (hz : Sum.elim (z_Rf_layFacts_Y86 l G E v1 v2) (z_Rf_layFacts_X86 l G E v1 v2) t) : aw_W l M_Rf_layFacts G B_Rf_layFacts E 204 [(0, .ref 0), (1, .int v1), (2, .int v2), (3, .int v3)] [.int k1, .ref 13] xB σ 0 0 := by
  unfold m_Rf_layFacts_J204 at h
  refine aw_iconst (pc := 204) (v := 0) dX12_layFacts_204 (by decide) ?_
  exact t_Rf_layFacts_J205 h hz
set_option maxRecDepth 100000 in
set_option maxHeartbeats 4000000 in
theorem t_Rf_layFacts_J169 {l : Launch} {G : aw_G} {E : aw_E} {σ : aw_S} {v1 : Int32} {v2 : Int32} {v3 : Int32} {v4 : Int32} {k1 : Int32} {k2 : Int32} {t : (aw_S) ⊕ (Int32 × aw_S)} (h : m_Rf_layFacts_J169 σ v1 v2 v3 v4 k1 k2 = some t) (hz : Sum.elim (z_Rf_layFacts_Y86 l G E v1 v2) (z_Rf_layFacts_X86 l G E v1 v2) t) : aw_W l M_Rf_layFacts G B_Rf_layFacts E 169 [(0, .ref 0), (1, .int v1), (2, .int v2), (3, .int v3), (4, .int v4)] [.int k2, .int k1, .ref 13] xB σ 0 0 := by
  unfold m_Rf_layFacts_J169 at h
  obtain ⟨g45, h⟩ := aw_gde h
  refine aw_zast (pc := 169) xB_13 g45 dX12_layFacts_169 ?_
  refine aw_nmS (fun s46 e_s46 => ?_)
  replace h := aw_lte h s46 e_s46
  refine aw_aload_n (pc := 170) (q := 0) dX12_layFacts_170 rfl ?_
  refine aw_getC (pc := 171) fd_X12_52.r xB_0 rfl dX12_layFacts_171 ?_
  refine aw_iload_n (pc := 174) (q := 2) dX12_layFacts_174 rfl ?_
  refine aw_iconst (pc := 175) (v := 1) dX12_layFacts_175 (by decide) ?_
  refine aw_iload_n (pc := 176) (q := 1) dX12_layFacts_176 rfl ?_
  refine aw_iload_n (pc := 177) (q := 3) dX12_layFacts_177 rfl ?_
  obtain ⟨r47, e48, h⟩ := aw_bde h
  refine aw_cS1 (pc := 178) [.int v2, .int ((1 : Int32)), .int v1, .int v3] (c_Rf_at e48) yy_Rf_at.1 wm_827 yy_Rf_at.2 rfl ⟨Nat.le_of_ble_eq_true rfl, Nat.le_of_ble_eq_true rfl⟩ ⟨Nat.zero_le _, Nat.zero_le _⟩ (Nat.le_of_ble_eq_true rfl) dX12_layFacts_178 ?_
  refine aw_aload_n (pc := 181) (q := 0) dX12_layFacts_181 rfl ?_
  refine aw_iconst (pc := 182) (v := 0) dX12_layFacts_182 (by decide) ?_
  refine aw_iload_n (pc := 183) (q := 1) dX12_layFacts_183 rfl ?_
  refine aw_iload_n (pc := 184) (q := 3) dX12_layFacts_184 rfl ?_
  obtain ⟨r49, e50, h⟩ := aw_bde h
  refine aw_cV1 (pc := 185) [.int ((0 : Int32)), .int v1, .int v3] (c_Rf_so e50) yy_Rf_so.1 wm_803 yy_Rf_so.2.1 yy_Rf_so.2.2 xB_0 ⟨_, _, rfl⟩ rfl ⟨Nat.le_of_ble_eq_true rfl, Nat.le_of_ble_eq_true rfl⟩ ⟨Nat.zero_le _, Nat.zero_le _⟩ (Nat.le_of_ble_eq_true rfl) dX12_layFacts_185 ?_
  refine aw_if_eq (pc := 188) (tgt := 204) dX12_layFacts_188 (by decide) (fun c51 => ?_) (fun c51 => ?_)
  · replace h := aw_ifp c51 h
    refine aw_sub [0, 1, 2, 3] rfl ?_
    exact t_Rf_layFacts_J204 h hz
  · replace h := aw_ifn c51 h
    refine aw_iload_n (pc := 191) (q := 2) dX12_layFacts_191 rfl ?_
    refine aw_if_eq (pc := 192) (tgt := 200) dX12_layFacts_192 (by decide) (fun c55 => ?_) (fun c55 => ?_)
    · replace h := aw_ifp c55 h
      refine aw_iconst (pc := 200) (v := 1) dX12_layFacts_200 (by decide) ?_
      refine aw_goto (pc := 201) (tgt := 205) dX12_layFacts_201 (by decide) ?_
      refine aw_sub [0, 1, 2, 3] rfl ?_
      exact t_Rf_layFacts_J205 h hz
    · replace h := aw_ifn c55 h
      refine aw_iload (pc := 195) (q := 4) dX12_layFacts_195 rfl ?_
      refine aw_if_ne (pc := 197) (tgt := 204) dX12_layFacts_197 (by decide) (fun c56 => ?_) (fun c56 => ?_)
      · replace h := aw_ifn c56 h
        refine aw_sub [0, 1, 2, 3] rfl ?_
        exact t_Rf_layFacts_J204 h hz
      · replace h := aw_ifp c56 h
        refine aw_iconst (pc := 200) (v := 1) dX12_layFacts_200 (by decide) ?_
        refine aw_goto (pc := 201) (tgt := 205) dX12_layFacts_201 (by decide) ?_
        refine aw_sub [0, 1, 2, 3] rfl ?_
        exact t_Rf_layFacts_J205 h hz
set_option maxRecDepth 100000 in
set_option maxHeartbeats 4000000 in
theorem t_Rf_layFacts_J168 {l : Launch} {G : aw_G} {E : aw_E} {σ : aw_S} {v1 : Int32} {v2 : Int32} {v3 : Int32} {v4 : Int32} {k1 : Int32} {t : (aw_S) ⊕ (Int32 × aw_S)} (h : m_Rf_layFacts_J168 σ v1 v2 v3 v4 k1 = some t) (hz : Sum.elim (z_Rf_layFacts_Y86 l G E v1 v2) (z_Rf_layFacts_X86 l G E v1 v2) t) : aw_W l M_Rf_layFacts G B_Rf_layFacts E 168 [(0, .ref 0), (1, .int v1), (2, .int v2), (3, .int v3), (4, .int v4)] [.int k1, .ref 13] xB σ 0 0 := by
  unfold m_Rf_layFacts_J168 at h
  refine aw_iconst (pc := 168) (v := 0) dX12_layFacts_168 (by decide) ?_
  exact t_Rf_layFacts_J169 h hz
set_option maxRecDepth 100000 in
set_option maxHeartbeats 4000000 in
theorem t_Rf_layFacts_J121 {l : Launch} {G : aw_G} {E : aw_E} {σ : aw_S} {v1 : Int32} {v2 : Int32} {v3 : Int32} {k0 : Int32} {t : (aw_S) ⊕ (Int32 × aw_S)} (h : m_Rf_layFacts_J121 σ v1 v2 v3 k0 = some t) (hz : Sum.elim (z_Rf_layFacts_Y86 l G E v1 v2) (z_Rf_layFacts_X86 l G E v1 v2) t) : aw_W l M_Rf_layFacts G B_Rf_layFacts E 121 [(0, .ref 0), (1, .int v1), (2, .int v2), (3, .int v3)] [.int k0] xB σ 0 0 := by
  unfold m_Rf_layFacts_J121 at h
  refine aw_istore (pc := 121) [(4, .int k0), (0, .ref 0), (1, .int v1), (2, .int v2), (3, .int v3)] dX12_layFacts_121 (by decide) rfl ?_
  refine aw_aload_n (pc := 123) (q := 1) dX12_layFacts_123 rfl ?_
  refine aw_getC (pc := 124) fd_X12_52.r xB_0 rfl dX12_layFacts_124 ?_
  refine aw_iload_n (pc := 127) (q := 3) dX12_layFacts_127 rfl ?_
  refine aw_iconst (pc := 128) (v := 0) dX12_layFacts_128 (by decide) ?_
  refine aw_iload_n (pc := 129) (q := 2) dX12_layFacts_129 rfl ?_
  refine aw_iload_n (pc := 130) (q := 4) dX12_layFacts_130 rfl ?_
  obtain ⟨r39, e40, h⟩ := aw_bde h
  refine aw_cS1 (pc := 131) [.int v2, .int ((0 : Int32)), .int v1, .int v3] (c_Rf_at e40) yy_Rf_at.1 wm_827 yy_Rf_at.2 rfl ⟨Nat.le_of_ble_eq_true rfl, Nat.le_of_ble_eq_true rfl⟩ ⟨Nat.zero_le _, Nat.zero_le _⟩ (Nat.le_of_ble_eq_true rfl) dX12_layFacts_131 ?_
  refine aw_iload_n (pc := 134) (q := 3) dX12_layFacts_134 rfl ?_
  refine aw_if_ne (pc := 135) (tgt := 148) dX12_layFacts_135 (by decide) (fun c41 => ?_) (fun c41 => ?_)
  · replace h := aw_ifn c41 h
    refine aw_aload_n (pc := 148) (q := 1) dX12_layFacts_148 rfl ?_
    refine aw_bipush (pc := 149) (v := 6) dX12_layFacts_149 (by decide) ?_
    refine aw_iload_n (pc := 151) (q := 2) dX12_layFacts_151 rfl ?_
    refine aw_iload_n (pc := 152) (q := 4) dX12_layFacts_152 rfl ?_
    obtain ⟨r42, e43, h⟩ := aw_bde h
    refine aw_cV1 (pc := 153) [.int ((6 : Int32)), .int v1, .int v3] (c_Rf_so e43) yy_Rf_so.1 wm_803 yy_Rf_so.2.1 yy_Rf_so.2.2 xB_0 ⟨_, _, rfl⟩ rfl ⟨Nat.le_of_ble_eq_true rfl, Nat.le_of_ble_eq_true rfl⟩ ⟨Nat.zero_le _, Nat.zero_le _⟩ (Nat.le_of_ble_eq_true rfl) dX12_layFacts_153 ?_
    refine aw_if_eq (pc := 156) (tgt := 168) dX12_layFacts_156 (by decide) (fun c44 => ?_) (fun c44 => ?_)
    · replace h := aw_ifp c44 h
      refine aw_sub [1, 2, 3, 4, 0] rfl ?_
      exact t_Rf_layFacts_J168 h hz
    · replace h := aw_ifn c44 h
      refine aw_iload (pc := 159) (q := 0) dX12_layFacts_159 rfl ?_
      refine aw_if_ne (pc := 161) (tgt := 168) dX12_layFacts_161 (by decide) (fun c57 => ?_) (fun c57 => ?_)
      · replace h := aw_ifn c57 h
        refine aw_sub [1, 2, 3, 4, 0] rfl ?_
        exact t_Rf_layFacts_J168 h hz
      · replace h := aw_ifp c57 h
        refine aw_iconst (pc := 164) (v := 1) dX12_layFacts_164 (by decide) ?_
        refine aw_goto (pc := 165) (tgt := 169) dX12_layFacts_165 (by decide) ?_
        refine aw_sub [1, 2, 3, 4, 0] rfl ?_
        exact t_Rf_layFacts_J169 h hz
  · replace h := aw_ifp c41 h
    refine aw_aload_n (pc := 138) (q := 1) dX12_layFacts_138 rfl ?_
    refine aw_iconst (pc := 139) (v := 4) dX12_layFacts_139 (by decide) ?_
    refine aw_iload_n (pc := 140) (q := 2) dX12_layFacts_140 rfl ?_
    refine aw_iload_n (pc := 141) (q := 4) dX12_layFacts_141 rfl ?_
    obtain ⟨r58, e59, h⟩ := aw_bde h
    refine aw_cV1 (pc := 142) [.int ((4 : Int32)), .int v1, .int v3] (c_Rf_so e59) yy_Rf_so.1 wm_803 yy_Rf_so.2.1 yy_Rf_so.2.2 xB_0 ⟨_, _, rfl⟩ rfl ⟨Nat.le_of_ble_eq_true rfl, Nat.le_of_ble_eq_true rfl⟩ ⟨Nat.zero_le _, Nat.zero_le _⟩ (Nat.le_of_ble_eq_true rfl) dX12_layFacts_142 ?_
    refine aw_goto (pc := 145) (tgt := 169) dX12_layFacts_145 (by decide) ?_
    refine aw_sub [1, 2, 3, 4, 0] rfl ?_
    exact t_Rf_layFacts_J169 h hz
set_option maxRecDepth 100000 in
set_option maxHeartbeats 4000000 in
theorem t_Rf_layFacts_J120 {l : Launch} {G : aw_G} {E : aw_E} {σ : aw_S} {v1 : Int32} {v2 : Int32} {v3 : Int32} {t : (aw_S) ⊕ (Int32 × aw_S)} (h : m_Rf_layFacts_J120 σ v1 v2 v3 = some t) (hz : Sum.elim (z_Rf_layFacts_Y86 l G E v1 v2) (z_Rf_layFacts_X86 l G E v1 v2) t) : aw_W l M_Rf_layFacts G B_Rf_layFacts E 120 [(0, .ref 0), (1, .int v1), (2, .int v2), (3, .int v3)] [] xB σ 0 0 := by
  unfold m_Rf_layFacts_J120 at h
  refine aw_iconst (pc := 120) (v := 0) dX12_layFacts_120 (by decide) ?_
  exact t_Rf_layFacts_J121 h hz
set_option maxRecDepth 100000 in
set_option maxHeartbeats 4000000 in
theorem t_Rf_layFacts_B86 {l : Launch} {G : aw_G} {E : aw_E} {σ : aw_S} {v1 : Int32} {v2 : Int32} {v3 : Int32} {t : (aw_S) ⊕ (Int32 × aw_S)} (h : m_Rf_layFacts_B86 σ v1 v2 v3 = some t) (hz : Sum.elim (z_Rf_layFacts_Y86 l G E v1 v2) (z_Rf_layFacts_X86 l G E v1 v2) t) : aw_W l M_Rf_layFacts G B_Rf_layFacts E 86 [(0, .ref 0), (1, .int v1), (2, .int v2), (3, .int v3)] [] xB σ 0 0 := by
  unfold m_Rf_layFacts_B86 at h
  refine aw_iload_n (pc := 86) (q := 3) dX12_layFacts_86 rfl ?_
  refine aw_aload_n (pc := 87) (q := 0) dX12_layFacts_87 rfl ?_
  refine aw_getI (pc := 88) fd_X12_215.r xB_0 rfl dX12_layFacts_88 ?_
  refine aw_icmp_ge (pc := 91) (tgt := 212) dX12_layFacts_91 (by decide) (fun c35 => ?_) (fun c35 => ?_)
  · replace h := aw_ifp c35 h
    refine aw_sub [0, 1, 2] rfl ?_
    cases h
    exact hz
  · replace h := aw_ifn c35 h
    refine aw_aload_n (pc := 94) (q := 0) dX12_layFacts_94 rfl ?_
    refine aw_bipush (pc := 95) (v := 6) dX12_layFacts_95 (by decide) ?_
    refine aw_iload_n (pc := 97) (q := 1) dX12_layFacts_97 rfl ?_
    refine aw_iload_n (pc := 98) (q := 3) dX12_layFacts_98 rfl ?_
    obtain ⟨r36, e37, h⟩ := aw_bde h
    refine aw_cV1 (pc := 99) [.int ((6 : Int32)), .int v1, .int v3] (c_Rf_so e37) yy_Rf_so.1 wm_803 yy_Rf_so.2.1 yy_Rf_so.2.2 xB_0 ⟨_, _, rfl⟩ rfl ⟨Nat.le_of_ble_eq_true rfl, Nat.le_of_ble_eq_true rfl⟩ ⟨Nat.zero_le _, Nat.zero_le _⟩ (Nat.le_of_ble_eq_true rfl) dX12_layFacts_99 ?_
    refine aw_if_eq (pc := 102) (tgt := 120) dX12_layFacts_102 (by decide) (fun c38 => ?_) (fun c38 => ?_)
    · replace h := aw_ifp c38 h
      exact t_Rf_layFacts_J120 h hz
    · replace h := aw_ifn c38 h
      refine aw_aload_n (pc := 105) (q := 0) dX12_layFacts_105 rfl ?_
      refine aw_bipush (pc := 106) (v := 7) dX12_layFacts_106 (by decide) ?_
      refine aw_iload_n (pc := 108) (q := 1) dX12_layFacts_108 rfl ?_
      refine aw_iload_n (pc := 109) (q := 3) dX12_layFacts_109 rfl ?_
      obtain ⟨r60, e61, h⟩ := aw_bde h
      refine aw_cV1 (pc := 110) [.int ((7 : Int32)), .int v1, .int v3] (c_Rf_so e61) yy_Rf_so.1 wm_803 yy_Rf_so.2.1 yy_Rf_so.2.2 xB_0 ⟨_, _, rfl⟩ rfl ⟨Nat.le_of_ble_eq_true rfl, Nat.le_of_ble_eq_true rfl⟩ ⟨Nat.zero_le _, Nat.zero_le _⟩ (Nat.le_of_ble_eq_true rfl) dX12_layFacts_110 ?_
      refine aw_if_eq (pc := 113) (tgt := 120) dX12_layFacts_113 (by decide) (fun c62 => ?_) (fun c62 => ?_)
      · replace h := aw_ifp c62 h
        exact t_Rf_layFacts_J120 h hz
      · replace h := aw_ifn c62 h
        refine aw_iconst (pc := 116) (v := 1) dX12_layFacts_116 (by decide) ?_
        refine aw_goto (pc := 117) (tgt := 121) dX12_layFacts_117 (by decide) ?_
        exact t_Rf_layFacts_J121 h hz
set_option maxRecDepth 100000 in
set_option maxHeartbeats 4000000 in
theorem t_Rf_layFacts_B79 {l : Launch} {G : aw_G} {E : aw_E} {σ : aw_S} {v1 : Int32} {v2 : Int32} {t : (aw_S) ⊕ (Int32 × aw_S)} (h : m_Rf_layFacts_B79 σ v1 v2 = some t) (hz : Sum.elim (z_Rf_layFacts_Y79 l G E v1) (z_Rf_layFacts_X79 l G E v1) t) : aw_W l M_Rf_layFacts G B_Rf_layFacts E 79 [(0, .ref 0), (1, .int v1), (2, .int v2)] [] xB σ 0 0 := by
  unfold m_Rf_layFacts_B79 at h
  refine aw_iload_n (pc := 79) (q := 2) dX12_layFacts_79 rfl ?_
  refine aw_iconst (pc := 80) (v := 2) dX12_layFacts_80 (by decide) ?_
  refine aw_icmp_ge (pc := 81) (tgt := 224) dX12_layFacts_81 (by decide) (fun c34 => ?_) (fun c34 => ?_)
  · replace h := aw_ifp c34 h
    refine aw_sub [] rfl ?_
    cases h
    exact hz
  · replace h := aw_ifn c34 h
    refine aw_iconst (pc := 84) (v := 0) dX12_layFacts_84 (by decide) ?_
    refine aw_istore_n (pc := 85) [(3, .int ((0 : Int32))), (0, .ref 0), (1, .int v1), (2, .int v2)] dX12_layFacts_85 (by decide) rfl ?_
    obtain ⟨x63, hl64, h⟩ := aw_bde h
    have K65 : z_Rf_layFacts_Y86 l G E v1 v2 x63 := by
      show aw_W l M_Rf_layFacts G B_Rf_layFacts E 212 [(0, .ref 0), (1, .int v1), (2, .int v2)] [] xB x63 0 0
      refine aw_aload_n (pc := 212) (q := 0) dX12_layFacts_212 rfl ?_
      refine aw_iload_n (pc := 213) (q := 2) dX12_layFacts_213 rfl ?_
      refine aw_iload_n (pc := 214) (q := 1) dX12_layFacts_214 rfl ?_
      obtain ⟨s68, e67, h⟩ := aw_bde h
      refine aw_cV0 (pc := 215) [.int v2, .int v1] (c_Rf_layAlive e67) yy_Rf_layAlive.1 wm_830 yy_Rf_layAlive.2.1 yy_Rf_layAlive.2.2 xB_0 ⟨_, _, rfl⟩ rfl ⟨Nat.le_of_ble_eq_true rfl, Nat.le_of_ble_eq_true rfl⟩ ⟨Nat.zero_le _, Nat.zero_le _⟩ (Nat.le_of_ble_eq_true rfl) dX12_layFacts_215 ?_
      obtain ⟨x69, e_x69⟩ : ∃ z, z = (v2 + (1 : Int32)) := ⟨_, rfl⟩
      replace h := aw_lte h x69 e_x69
      refine aw_iinc (pc := 218) (q := 2) (v := x69) [(2, .int x69), (0, .ref 0), (1, .int v1)] dX12_layFacts_218 rfl e_x69.symm (by decide) rfl ?_
      refine aw_goto (pc := 221) (tgt := 79) dX12_layFacts_221 (by decide) ?_
      refine aw_sub [1, 2, 0] rfl ?_
      cases h
      exact hz
    refine aw_sub [1, 2, 3, 0] rfl ?_
    show z_Rf_layFacts_X86 l G E v1 v2 (((0 : Int32), σ))
    exact aw_lp_X (Xp := z_Rf_layFacts_X86 l G E v1 v2) (Y := z_Rf_layFacts_Y86 l G E v1 v2) hl64 K65 (fun s t hf hz => t_Rf_layFacts_B86 hf hz)
set_option maxRecDepth 100000 in
set_option maxHeartbeats 4000000 in
theorem t_Rf_layFacts {l : Launch} {G : aw_G} {E : aw_E} {σ : aw_S} {p1 : Int32} {t : aw_S} (h : m_Rf_layFacts σ p1 = some t) (hE : E = (none, xB, t)) : aw_W l M_Rf_layFacts G B_Rf_layFacts E 0 [(0, .ref 0), (1, .int p1)] [] xB σ 0 0 := by
  unfold m_Rf_layFacts at h
  refine aw_iconst (pc := 0) (v := 0) dX12_layFacts_0 (by decide) ?_
  refine aw_istore_n (pc := 1) [(2, .int ((0 : Int32))), (0, .ref 0), (1, .int p1)] dX12_layFacts_1 (by decide) rfl ?_
  obtain ⟨x13, hl14, h⟩ := aw_bde h
  have K15 : z_Rf_layFacts_Y2 l G E p1 x13 := by
    show aw_W l M_Rf_layFacts G B_Rf_layFacts E 42 [(0, .ref 0), (1, .int p1)] [] xB x13 0 0
    refine aw_aload_n (pc := 42) (q := 0) dX12_layFacts_42 rfl ?_
    refine aw_iconst (pc := 43) (v := 2) dX12_layFacts_43 (by decide) ?_
    refine aw_iload_n (pc := 44) (q := 1) dX12_layFacts_44 rfl ?_
    obtain ⟨s18, e17, h⟩ := aw_bde h
    refine aw_cV0 (pc := 45) [.int ((2 : Int32)), .int p1] (c_Rf_layAhead e17) yy_Rf_layAhead.1 wm_799 yy_Rf_layAhead.2.1 yy_Rf_layAhead.2.2 xB_0 ⟨_, _, rfl⟩ rfl ⟨Nat.le_of_ble_eq_true rfl, Nat.le_of_ble_eq_true rfl⟩ ⟨Nat.zero_le _, Nat.zero_le _⟩ (Nat.le_of_ble_eq_true rfl) dX12_layFacts_45 ?_
    refine aw_aload_n (pc := 48) (q := 0) dX12_layFacts_48 rfl ?_
    refine aw_iconst (pc := 49) (v := 3) dX12_layFacts_49 (by decide) ?_
    refine aw_iload_n (pc := 50) (q := 1) dX12_layFacts_50 rfl ?_
    obtain ⟨s21, e20, h⟩ := aw_bde h
    refine aw_cV0 (pc := 51) [.int ((3 : Int32)), .int p1] (c_Rf_layBehind e20) yy_Rf_layBehind.1 wm_811 yy_Rf_layBehind.2.1 yy_Rf_layBehind.2.2 xB_0 ⟨_, _, rfl⟩ rfl ⟨Nat.le_of_ble_eq_true rfl, Nat.le_of_ble_eq_true rfl⟩ ⟨Nat.zero_le _, Nat.zero_le _⟩ (Nat.le_of_ble_eq_true rfl) dX12_layFacts_51 ?_
    refine aw_aload_n (pc := 54) (q := 0) dX12_layFacts_54 rfl ?_
    refine aw_iload_n (pc := 55) (q := 1) dX12_layFacts_55 rfl ?_
    obtain ⟨s24, e23, h⟩ := aw_bde h
    refine aw_cV0 (pc := 56) [.int p1] (c_Rf_layEarly e23) yy_Rf_layEarly.1 wm_819 yy_Rf_layEarly.2.1 yy_Rf_layEarly.2.2 xB_0 ⟨_, _, rfl⟩ rfl ⟨Nat.le_of_ble_eq_true rfl, Nat.le_of_ble_eq_true rfl⟩ ⟨Nat.zero_le _, Nat.zero_le _⟩ (Nat.le_of_ble_eq_true rfl) dX12_layFacts_56 ?_
    refine aw_aload_n (pc := 59) (q := 0) dX12_layFacts_59 rfl ?_
    refine aw_iconst (pc := 60) (v := 5) dX12_layFacts_60 (by decide) ?_
    refine aw_iload_n (pc := 61) (q := 1) dX12_layFacts_61 rfl ?_
    obtain ⟨s27, e26, h⟩ := aw_bde h
    refine aw_cV0 (pc := 62) [.int ((5 : Int32)), .int p1] (c_Rf_layBehind e26) yy_Rf_layBehind.1 wm_811 yy_Rf_layBehind.2.1 yy_Rf_layBehind.2.2 xB_0 ⟨_, _, rfl⟩ rfl ⟨Nat.le_of_ble_eq_true rfl, Nat.le_of_ble_eq_true rfl⟩ ⟨Nat.zero_le _, Nat.zero_le _⟩ (Nat.le_of_ble_eq_true rfl) dX12_layFacts_62 ?_
    refine aw_aload_n (pc := 65) (q := 0) dX12_layFacts_65 rfl ?_
    refine aw_iload_n (pc := 66) (q := 1) dX12_layFacts_66 rfl ?_
    obtain ⟨s30, e29, h⟩ := aw_bde h
    refine aw_cV0 (pc := 67) [.int p1] (c_Rf_layLate e29) yy_Rf_layLate.1 wm_823 yy_Rf_layLate.2.1 yy_Rf_layLate.2.2 xB_0 ⟨_, _, rfl⟩ rfl ⟨Nat.le_of_ble_eq_true rfl, Nat.le_of_ble_eq_true rfl⟩ ⟨Nat.zero_le _, Nat.zero_le _⟩ (Nat.le_of_ble_eq_true rfl) dX12_layFacts_67 ?_
    refine aw_aload_n (pc := 70) (q := 0) dX12_layFacts_70 rfl ?_
    refine aw_bipush (pc := 71) (v := 7) dX12_layFacts_71 (by decide) ?_
    refine aw_iload_n (pc := 73) (q := 1) dX12_layFacts_73 rfl ?_
    obtain ⟨s33, e32, h⟩ := aw_bde h
    refine aw_cV0 (pc := 74) [.int ((7 : Int32)), .int p1] (c_Rf_layAhead e32) yy_Rf_layAhead.1 wm_799 yy_Rf_layAhead.2.1 yy_Rf_layAhead.2.2 xB_0 ⟨_, _, rfl⟩ rfl ⟨Nat.le_of_ble_eq_true rfl, Nat.le_of_ble_eq_true rfl⟩ ⟨Nat.zero_le _, Nat.zero_le _⟩ (Nat.le_of_ble_eq_true rfl) dX12_layFacts_74 ?_
    refine aw_iconst (pc := 77) (v := 0) dX12_layFacts_77 (by decide) ?_
    refine aw_istore_n (pc := 78) [(2, .int ((0 : Int32))), (0, .ref 0), (1, .int p1)] dX12_layFacts_78 (by decide) rfl ?_
    obtain ⟨x70, hl71, h⟩ := aw_bde h
    have K72 : z_Rf_layFacts_Y79 l G E p1 x70 := by
      show aw_W l M_Rf_layFacts G B_Rf_layFacts E 224 [] [] xB x70 0 0
      cases h
      subst hE
      exact aw_vret rfl ⟨Nat.zero_le _, Nat.zero_le _⟩ dX12_layFacts_224
    refine aw_sub [1, 2, 0] rfl ?_
    show z_Rf_layFacts_X79 l G E p1 (((0 : Int32), s33))
    exact aw_lp_X (Xp := z_Rf_layFacts_X79 l G E p1) (Y := z_Rf_layFacts_Y79 l G E p1) hl71 K72 (fun s t hf hz => t_Rf_layFacts_B79 hf hz)
  refine aw_sub [1, 2, 0] rfl ?_
  show z_Rf_layFacts_X2 l G E p1 (((0 : Int32), σ))
  exact aw_lp_X (Xp := z_Rf_layFacts_X2 l G E p1) (Y := z_Rf_layFacts_Y2 l G E p1) hl14 K15 (fun s t hf hz => t_Rf_layFacts_B2 hf hz)
theorem c_Rf_layFacts {l : Launch} {G : aw_G} {σ : aw_S} {p1 : Int32} {t : aw_S} (h : m_Rf_layFacts σ p1 = some t) : aw_Ct l yX12_layFacts M_Rf_layFacts G B_Rf_layFacts [.ref 0, .int p1] xB σ (none, xB, t) := aw_Ct_of (by decide) rfl (fun h => by cases h) (Nat.le_of_ble_eq_true rfl) (t_Rf_layFacts h rfl)
/-! LateMoverModel.bitOf(I)I -/
set_option maxRecDepth 100000 in
set_option maxHeartbeats 4000000 in
theorem t_Rf_bitOf {l : Launch} {G : aw_G} {E : aw_E} {σ : aw_S} {p0 : Int32} {t : Int32} (h : m_Rf_bitOf σ p0 = some t) (hE : E = (some (.int t), xB, σ)) : aw_W l M_Rf_bitOf G B_Rf_bitOf E 0 [(0, .int p0)] [] xB σ 0 0 := by
  unfold m_Rf_bitOf at h
  refine aw_iload_n (pc := 0) (q := 0) dX12_bitOf_0 rfl ?_
  refine aw_bipush (pc := 1) (v := 26) dX12_bitOf_1 (by decide) ?_
  refine aw_icmp_ge (pc := 3) (tgt := 12) dX12_bitOf_3 (by decide) (fun c1 => ?_) (fun c1 => ?_)
  · replace h := aw_ifp c1 h
    refine aw_iconst (pc := 12) (v := 0) dX12_bitOf_12 (by decide) ?_
    cases h
    subst hE
    exact aw_iret (v := (0 : Int32)) rfl aw_ni ⟨Nat.zero_le _, Nat.zero_le _⟩ dX12_bitOf_13
  · replace h := aw_ifn c1 h
    refine aw_iconst (pc := 6) (v := 1) dX12_bitOf_6 (by decide) ?_
    refine aw_iload_n (pc := 7) (q := 0) dX12_bitOf_7 rfl ?_
    refine aw_ishl (pc := 8) dX12_bitOf_8 ?_
    refine aw_goto (pc := 9) (tgt := 13) dX12_bitOf_9 (by decide) ?_
    cases h
    subst hE
    exact aw_iret (v := ((1 : Int32) <<< (p0 &&& 31))) rfl aw_ni ⟨Nat.zero_le _, Nat.zero_le _⟩ dX12_bitOf_13
theorem c_Rf_bitOf {l : Launch} {G : aw_G} {σ : aw_S} {p0 : Int32} {t : Int32} (h : m_Rf_bitOf σ p0 = some t) : aw_Ct l yX12_bitOf M_Rf_bitOf G B_Rf_bitOf [.int p0] xB σ (some (.int t), xB, σ) := aw_Ct_of (by decide) rfl (fun h => by cases h) (Nat.le_of_ble_eq_true rfl) (t_Rf_bitOf h rfl)
/-! LateMoverModel.reads(I)I -/
set_option maxRecDepth 100000 in
set_option maxHeartbeats 4000000 in
theorem t_Rf_reads {l : Launch} {G : aw_G} {E : aw_E} {σ : aw_S} {p1 : Int32} {t : Int32} (h : m_Rf_reads σ p1 = some t) (hE : E = (some (.int t), xB, σ)) : aw_W l M_Rf_reads G B_Rf_reads E 0 [(0, .ref 0), (1, .int p1)] [] xB σ 0 0 := by
  unfold m_Rf_reads at h
  refine aw_aload_n (pc := 0) (q := 0) dX12_reads_0 rfl ?_
  refine aw_getC (pc := 1) fd_X12_30.r xB_0 rfl dX12_reads_1 ?_
  refine aw_iload_n (pc := 4) (q := 1) dX12_reads_4 rfl ?_
  obtain ⟨g1, h⟩ := aw_gde h
  refine aw_iald (pc := 5) xB_6 g1 dX12_reads_5 ?_
  refine aw_nmI (fun x2 e_x2 => ?_)
  replace h := aw_lte h x2 e_x2
  refine aw_istore_n (pc := 6) [(2, .int x2), (0, .ref 0), (1, .int p1)] dX12_reads_6 (by decide) rfl ?_
  refine aw_aload_n (pc := 7) (q := 1) dX12_reads_7 rfl ?_
  refine aw_iload_n (pc := 8) (q := 2) dX12_reads_8 rfl ?_
  obtain ⟨r3, e4, h⟩ := aw_bde h
  refine aw_cV1 (pc := 9) [.int p1] (c_Rf_expressionOf e4) yy_Rf_expressionOf.1 wm_776 yy_Rf_expressionOf.2.1 yy_Rf_expressionOf.2.2 xB_0 ⟨_, _, rfl⟩ rfl ⟨Nat.le_of_ble_eq_true rfl, Nat.le_of_ble_eq_true rfl⟩ ⟨Nat.zero_le _, Nat.zero_le _⟩ (Nat.le_of_ble_eq_true rfl) dX12_reads_9 ?_
  refine aw_istore_n (pc := 12) [(3, .int r3), (2, .int x2), (0, .ref 0), (1, .int p1)] dX12_reads_12 (by decide) rfl ?_
  refine aw_iload_n (pc := 13) (q := 0) dX12_reads_13 rfl ?_
  refine aw_iconst (pc := 14) (v := -1) dX12_reads_14 (by decide) ?_
  refine aw_icmp_eq (pc := 15) (tgt := 50) dX12_reads_15 (by decide) (fun c5 => ?_) (fun c5 => ?_)
  · replace h := aw_ifp c5 h
    refine aw_aload_n (pc := 50) (q := 2) dX12_reads_50 rfl ?_
    refine aw_getC (pc := 51) fd_X12_24.r xB_0 rfl dX12_reads_51 ?_
    refine aw_iload_n (pc := 54) (q := 3) dX12_reads_54 rfl ?_
    obtain ⟨g6, h⟩ := aw_gde h
    refine aw_iald (pc := 55) xB_4 g6 dX12_reads_55 ?_
    refine aw_iconst (pc := 56) (v := 5) dX12_reads_56 (by decide) ?_
    refine aw_icmp_ne (pc := 57) (tgt := 77) dX12_reads_57 (by decide) (fun c7 => ?_) (fun c7 => ?_)
    · replace h := aw_ifn c7 h
      refine aw_iload_n (pc := 77) (q := 1) dX12_reads_77 rfl ?_
      refine aw_iconst (pc := 78) (v := -1) dX12_reads_78 (by decide) ?_
      refine aw_icmp_ne (pc := 79) (tgt := 86) dX12_reads_79 (by decide) (fun c8 => ?_) (fun c8 => ?_)
      · replace h := aw_ifn c8 h
        refine aw_aload_n (pc := 86) (q := 2) dX12_reads_86 rfl ?_
        refine aw_bipush (pc := 87) (v := 124) dX12_reads_87 (by decide) ?_
        refine aw_iload_n (pc := 89) (q := 1) dX12_reads_89 rfl ?_
        refine aw_iadd (pc := 90) dX12_reads_90 ?_
        obtain ⟨r9, e10, h⟩ := aw_bde h
        refine aw_cV1 (pc := 91) [.int (((124 : Int32) + x2))] (c_Rf_get e10) yy_Rf_get.1 wm_736 yy_Rf_get.2.1 yy_Rf_get.2.2 xB_0 ⟨_, _, rfl⟩ rfl ⟨Nat.le_of_ble_eq_true rfl, Nat.le_of_ble_eq_true rfl⟩ ⟨Nat.zero_le _, Nat.zero_le _⟩ (Nat.le_of_ble_eq_true rfl) dX12_reads_91 ?_
        obtain ⟨r11, e12, h⟩ := aw_bde h
        refine aw_cS1 (pc := 94) [.int r9] (c_Rf_bitOf e12) yy_Rf_bitOf.1 wm_842 yy_Rf_bitOf.2 rfl ⟨Nat.le_of_ble_eq_true rfl, Nat.le_of_ble_eq_true rfl⟩ ⟨Nat.zero_le _, Nat.zero_le _⟩ (Nat.le_of_ble_eq_true rfl) dX12_reads_94 ?_
        cases h
        subst hE
        exact aw_iret (v := _) rfl aw_ni ⟨Nat.zero_le _, Nat.zero_le _⟩ dX12_reads_97
      · replace h := aw_ifp c8 h
        refine aw_iconst (pc := 82) (v := 0) dX12_reads_82 (by decide) ?_
        refine aw_goto (pc := 83) (tgt := 97) dX12_reads_83 (by decide) ?_
        cases h
        subst hE
        exact aw_iret (v := (0 : Int32)) rfl aw_ni ⟨Nat.zero_le _, Nat.zero_le _⟩ dX12_reads_97
    · replace h := aw_ifp c7 h
      refine aw_iconst (pc := 60) (v := 1) dX12_reads_60 (by decide) ?_
      refine aw_aload_n (pc := 61) (q := 2) dX12_reads_61 rfl ?_
      refine aw_sipush (pc := 62) (v := 220) dX12_reads_62 (by decide) ?_
      refine aw_aload_n (pc := 65) (q := 2) dX12_reads_65 rfl ?_
      refine aw_getC (pc := 66) fd_X12_27.r xB_0 rfl dX12_reads_66 ?_
      refine aw_iload_n (pc := 69) (q := 3) dX12_reads_69 rfl ?_
      obtain ⟨g13, h⟩ := aw_gde h
      refine aw_iald (pc := 70) xB_5 g13 dX12_reads_70 ?_
      refine aw_iadd (pc := 71) dX12_reads_71 ?_
      obtain ⟨r14, e15, h⟩ := aw_bde h
      refine aw_cV1 (pc := 72) [.int (((220 : Int32) + (σ.1 5 p1.toNatClampNeg)))] (c_Rf_get e15) yy_Rf_get.1 wm_736 yy_Rf_get.2.1 yy_Rf_get.2.2 xB_0 ⟨_, _, rfl⟩ rfl ⟨Nat.le_of_ble_eq_true rfl, Nat.le_of_ble_eq_true rfl⟩ ⟨Nat.zero_le _, Nat.zero_le _⟩ (Nat.le_of_ble_eq_true rfl) dX12_reads_72 ?_
      refine aw_ishl (pc := 75) dX12_reads_75 ?_
      cases h
      subst hE
      exact aw_iret (v := ((1 : Int32) <<< (r14 &&& 31))) rfl aw_ni ⟨Nat.zero_le _, Nat.zero_le _⟩ dX12_reads_76
  · replace h := aw_ifn c5 h
    refine aw_aload_n (pc := 18) (q := 2) dX12_reads_18 rfl ?_
    refine aw_sipush (pc := 19) (v := 292) dX12_reads_19 (by decide) ?_
    refine aw_iconst (pc := 22) (v := 2) dX12_reads_22 (by decide) ?_
    refine aw_iload_n (pc := 23) (q := 0) dX12_reads_23 rfl ?_
    refine aw_imul (pc := 24) dX12_reads_24 ?_
    refine aw_iadd (pc := 25) dX12_reads_25 ?_
    obtain ⟨r16, e17, h⟩ := aw_bde h
    refine aw_cV1 (pc := 26) [.int (((292 : Int32) + ((2 : Int32) * r3)))] (c_Rf_get e17) yy_Rf_get.1 wm_736 yy_Rf_get.2.1 yy_Rf_get.2.2 xB_0 ⟨_, _, rfl⟩ rfl ⟨Nat.le_of_ble_eq_true rfl, Nat.le_of_ble_eq_true rfl⟩ ⟨Nat.zero_le _, Nat.zero_le _⟩ (Nat.le_of_ble_eq_true rfl) dX12_reads_26 ?_
    obtain ⟨r18, e19, h⟩ := aw_bde h
    refine aw_cS1 (pc := 29) [.int r16] (c_Rf_bitOf e19) yy_Rf_bitOf.1 wm_842 yy_Rf_bitOf.2 rfl ⟨Nat.le_of_ble_eq_true rfl, Nat.le_of_ble_eq_true rfl⟩ ⟨Nat.zero_le _, Nat.zero_le _⟩ (Nat.le_of_ble_eq_true rfl) dX12_reads_29 ?_
    refine aw_aload_n (pc := 32) (q := 2) dX12_reads_32 rfl ?_
    refine aw_sipush (pc := 33) (v := 292) dX12_reads_33 (by decide) ?_
    refine aw_iconst (pc := 36) (v := 2) dX12_reads_36 (by decide) ?_
    refine aw_iload_n (pc := 37) (q := 0) dX12_reads_37 rfl ?_
    refine aw_imul (pc := 38) dX12_reads_38 ?_
    refine aw_iadd (pc := 39) dX12_reads_39 ?_
    refine aw_iconst (pc := 40) (v := 1) dX12_reads_40 (by decide) ?_
    refine aw_iadd (pc := 41) dX12_reads_41 ?_
    obtain ⟨r20, e21, h⟩ := aw_bde h
    refine aw_cV1 (pc := 42) [.int ((((292 : Int32) + ((2 : Int32) * r3)) + (1 : Int32)))] (c_Rf_get e21) yy_Rf_get.1 wm_736 yy_Rf_get.2.1 yy_Rf_get.2.2 xB_0 ⟨_, _, rfl⟩ rfl ⟨Nat.le_of_ble_eq_true rfl, Nat.le_of_ble_eq_true rfl⟩ ⟨Nat.zero_le _, Nat.zero_le _⟩ (Nat.le_of_ble_eq_true rfl) dX12_reads_42 ?_
    obtain ⟨r22, e23, h⟩ := aw_bde h
    refine aw_cS1 (pc := 45) [.int r20] (c_Rf_bitOf e23) yy_Rf_bitOf.1 wm_842 yy_Rf_bitOf.2 rfl ⟨Nat.le_of_ble_eq_true rfl, Nat.le_of_ble_eq_true rfl⟩ ⟨Nat.zero_le _, Nat.zero_le _⟩ (Nat.le_of_ble_eq_true rfl) dX12_reads_45 ?_
    refine aw_ior (pc := 48) dX12_reads_48 ?_
    cases h
    subst hE
    exact aw_iret (v := (r18 ||| r22)) rfl aw_ni ⟨Nat.zero_le _, Nat.zero_le _⟩ dX12_reads_49
theorem c_Rf_reads {l : Launch} {G : aw_G} {σ : aw_S} {p1 : Int32} {t : Int32} (h : m_Rf_reads σ p1 = some t) : aw_Ct l yX12_reads M_Rf_reads G B_Rf_reads [.ref 0, .int p1] xB σ (some (.int t), xB, σ) := aw_Ct_of (by decide) rfl (fun h => by cases h) (Nat.le_of_ble_eq_true rfl) (t_Rf_reads h rfl)
/-! LateMoverModel.liveBehind(I)I -/
def z_Rf_liveBehind_X6 (l : Launch) (G : aw_G) (E : aw_E) (σ : aw_S) (v1 : Int32) (s : Int32 × Int32) : Prop := aw_W l M_Rf_liveBehind G B_Rf_liveBehind E 6 [(0, .ref 0), (1, .int v1), (2, .int s.1), (3, .int s.2)] [] xB σ 0 0
def z_Rf_liveBehind_Y6 (l : Launch) (G : aw_G) (E : aw_E) (σ : aw_S) (v1 : Int32) (x : (Int32)) : Prop := aw_W l M_Rf_liveBehind G B_Rf_liveBehind E 49 [(2, .int x)] [] xB σ 0 0
set_option maxRecDepth 100000 in
set_option maxHeartbeats 4000000 in
theorem t_Rf_liveBehind_J41 {l : Launch} {G : aw_G} {E : aw_E} {σ : aw_S} {v1 : Int32} {v3 : Int32} {k0 : Int32} {k1 : Int32} {t : (Int32) ⊕ (Int32 × Int32)} (h : m_Rf_liveBehind_J41 σ v1 v3 k0 k1 = some t) (hz : Sum.elim (z_Rf_liveBehind_Y6 l G E σ v1) (z_Rf_liveBehind_X6 l G E σ v1) t) : aw_W l M_Rf_liveBehind G B_Rf_liveBehind E 41 [(0, .ref 0), (1, .int v1), (3, .int v3)] [.int k1, .int k0] xB σ 0 0 := by
  unfold m_Rf_liveBehind_J41 at h
  refine aw_ior (pc := 41) dX12_liveBehind_41 ?_
  refine aw_nmI (fun x7 e_x7 => ?_)
  replace h := aw_lte h x7 e_x7
  refine aw_istore_n (pc := 42) [(2, .int x7), (0, .ref 0), (1, .int v1), (3, .int v3)] dX12_liveBehind_42 (by decide) rfl ?_
  obtain ⟨x8, e_x8⟩ : ∃ z, z = (v3 + (1 : Int32)) := ⟨_, rfl⟩
  replace h := aw_lte h x8 e_x8
  refine aw_iinc (pc := 43) (q := 3) (v := x8) [(3, .int x8), (2, .int x7), (0, .ref 0), (1, .int v1)] dX12_liveBehind_43 rfl e_x8.symm (by decide) rfl ?_
  refine aw_goto (pc := 46) (tgt := 6) dX12_liveBehind_46 (by decide) ?_
  refine aw_sub [2, 3, 1, 0] rfl ?_
  cases h
  exact hz
set_option maxRecDepth 100000 in
set_option maxHeartbeats 4000000 in
theorem t_Rf_liveBehind_B6 {l : Launch} {G : aw_G} {E : aw_E} {σ : aw_S} {v1 : Int32} {v2 : Int32} {v3 : Int32} {t : (Int32) ⊕ (Int32 × Int32)} (h : m_Rf_liveBehind_B6 σ v1 v2 v3 = some t) (hz : Sum.elim (z_Rf_liveBehind_Y6 l G E σ v1) (z_Rf_liveBehind_X6 l G E σ v1) t) : aw_W l M_Rf_liveBehind G B_Rf_liveBehind E 6 [(0, .ref 0), (1, .int v1), (2, .int v2), (3, .int v3)] [] xB σ 0 0 := by
  unfold m_Rf_liveBehind_B6 at h
  refine aw_iload_n (pc := 6) (q := 3) dX12_liveBehind_6 rfl ?_
  refine aw_iconst (pc := 7) (v := 2) dX12_liveBehind_7 (by decide) ?_
  refine aw_iload_n (pc := 8) (q := 1) dX12_liveBehind_8 rfl ?_
  refine aw_imul (pc := 9) dX12_liveBehind_9 ?_
  refine aw_iconst (pc := 10) (v := 2) dX12_liveBehind_10 (by decide) ?_
  refine aw_iadd (pc := 11) dX12_liveBehind_11 ?_
  refine aw_icmp_ge (pc := 12) (tgt := 49) dX12_liveBehind_12 (by decide) (fun c2 => ?_) (fun c2 => ?_)
  · replace h := aw_ifp c2 h
    refine aw_sub [2] rfl ?_
    cases h
    exact hz
  · replace h := aw_ifn c2 h
    refine aw_iload_n (pc := 15) (q := 2) dX12_liveBehind_15 rfl ?_
    refine aw_aload_n (pc := 16) (q := 0) dX12_liveBehind_16 rfl ?_
    refine aw_getC (pc := 17) fd_X12_33.r xB_0 rfl dX12_liveBehind_17 ?_
    refine aw_iload_n (pc := 20) (q := 3) dX12_liveBehind_20 rfl ?_
    obtain ⟨g3, h⟩ := aw_gde h
    refine aw_iald (pc := 21) xB_7 g3 dX12_liveBehind_21 ?_
    refine aw_iconst (pc := 22) (v := -1) dX12_liveBehind_22 (by decide) ?_
    refine aw_icmp_ne (pc := 23) (tgt := 30) dX12_liveBehind_23 (by decide) (fun c4 => ?_) (fun c4 => ?_)
    · replace h := aw_ifn c4 h
      refine aw_aload_n (pc := 30) (q := 0) dX12_liveBehind_30 rfl ?_
      refine aw_getC (pc := 31) fd_X12_122.r xB_0 rfl dX12_liveBehind_31 ?_
      refine aw_aload_n (pc := 34) (q := 0) dX12_liveBehind_34 rfl ?_
      refine aw_getC (pc := 35) fd_X12_33.r xB_0 rfl dX12_liveBehind_35 ?_
      refine aw_iload_n (pc := 38) (q := 3) dX12_liveBehind_38 rfl ?_
      obtain ⟨g5, h⟩ := aw_gde h
      refine aw_iald (pc := 39) xB_7 g5 dX12_liveBehind_39 ?_
      obtain ⟨g6, h⟩ := aw_gde h
      refine aw_iald (pc := 40) xB_36 g6 dX12_liveBehind_40 ?_
      refine aw_sub [0, 1, 3] rfl ?_
      exact t_Rf_liveBehind_J41 h hz
    · replace h := aw_ifp c4 h
      refine aw_iconst (pc := 26) (v := 0) dX12_liveBehind_26 (by decide) ?_
      refine aw_goto (pc := 27) (tgt := 41) dX12_liveBehind_27 (by decide) ?_
      refine aw_sub [0, 1, 3] rfl ?_
      exact t_Rf_liveBehind_J41 h hz
set_option maxRecDepth 100000 in
set_option maxHeartbeats 4000000 in
theorem t_Rf_liveBehind {l : Launch} {G : aw_G} {E : aw_E} {σ : aw_S} {p1 : Int32} {t : Int32} (h : m_Rf_liveBehind σ p1 = some t) (hE : E = (some (.int t), xB, σ)) : aw_W l M_Rf_liveBehind G B_Rf_liveBehind E 0 [(0, .ref 0), (1, .int p1)] [] xB σ 0 0 := by
  unfold m_Rf_liveBehind at h
  refine aw_iconst (pc := 0) (v := 0) dX12_liveBehind_0 (by decide) ?_
  refine aw_istore_n (pc := 1) [(2, .int ((0 : Int32))), (0, .ref 0), (1, .int p1)] dX12_liveBehind_1 (by decide) rfl ?_
  refine aw_iconst (pc := 2) (v := 2) dX12_liveBehind_2 (by decide) ?_
  refine aw_iload_n (pc := 3) (q := 2) dX12_liveBehind_3 rfl ?_
  refine aw_imul (pc := 4) dX12_liveBehind_4 ?_
  refine aw_nmI (fun x1 e_x1 => ?_)
  replace h := aw_lte h x1 e_x1
  refine aw_istore_n (pc := 5) [(3, .int x1), (2, .int ((0 : Int32))), (0, .ref 0), (1, .int p1)] dX12_liveBehind_5 (by decide) rfl ?_
  obtain ⟨x9, hl10, h⟩ := aw_bde h
  have K11 : z_Rf_liveBehind_Y6 l G E σ p1 x9 := by
    show aw_W l M_Rf_liveBehind G B_Rf_liveBehind E 49 [(2, .int x9)] [] xB σ 0 0
    refine aw_iload_n (pc := 49) (q := 0) dX12_liveBehind_49 rfl ?_
    cases h
    subst hE
    exact aw_iret (v := _) rfl aw_ni ⟨Nat.zero_le _, Nat.zero_le _⟩ dX12_liveBehind_50
  refine aw_sub [2, 3, 1, 0] rfl ?_
  show z_Rf_liveBehind_X6 l G E σ p1 (((0 : Int32), x1))
  exact aw_lp_X (Xp := z_Rf_liveBehind_X6 l G E σ p1) (Y := z_Rf_liveBehind_Y6 l G E σ p1) hl10 K11 (fun s t hf hz => t_Rf_liveBehind_B6 hf hz)
theorem c_Rf_liveBehind {l : Launch} {G : aw_G} {σ : aw_S} {p1 : Int32} {t : Int32} (h : m_Rf_liveBehind σ p1 = some t) : aw_Ct l yX12_liveBehind M_Rf_liveBehind G B_Rf_liveBehind [.ref 0, .int p1] xB σ (some (.int t), xB, σ) := aw_Ct_of (by decide) rfl (fun h => by cases h) (Nat.le_of_ble_eq_true rfl) (t_Rf_liveBehind h rfl)
/-! LateMoverModel.layLive()V -/
def z_Rf_layLive_X2 (l : Launch) (G : aw_G) (E : aw_E) (s : Int32 × aw_S) : Prop := aw_W l M_Rf_layLive G B_Rf_layLive E 2 [(0, .ref 0), (1, .int s.1)] [] xB s.2 0 0
def z_Rf_layLive_Y2 (l : Launch) (G : aw_G) (E : aw_E) (x : (aw_S)) : Prop := aw_W l M_Rf_layLive G B_Rf_layLive E 23 [(0, .ref 0)] [] xB x 0 0
def z_Rf_layLive_X25 (l : Launch) (G : aw_G) (E : aw_E) (s : Int32 × aw_S) : Prop := aw_W l M_Rf_layLive G B_Rf_layLive E 25 [(0, .ref 0), (1, .int s.1)] [] xB s.2 0 0
def z_Rf_layLive_Y25 (l : Launch) (G : aw_G) (E : aw_E) (x : (aw_S)) : Prop := aw_W l M_Rf_layLive G B_Rf_layLive E 114 [] [] xB x 0 0
def z_Rf_layLive_X38 (l : Launch) (G : aw_G) (E : aw_E) (s : Int32 × Int32 × aw_S) : Prop := aw_W l M_Rf_layLive G B_Rf_layLive E 38 [(0, .ref 0), (1, .int s.1), (2, .int s.2.1)] [] xB s.2.2 0 0
def z_Rf_layLive_Y38 (l : Launch) (G : aw_G) (E : aw_E) (x : (Int32 × aw_S)) : Prop := aw_W l M_Rf_layLive G B_Rf_layLive E 111 [(0, .ref 0), (1, .int x.1)] [] xB x.2 0 0
set_option maxRecDepth 100000 in
set_option maxHeartbeats 4000000 in
theorem t_Rf_layLive_B2 {l : Launch} {G : aw_G} {E : aw_E} {σ : aw_S} {v1 : Int32} {t : (aw_S) ⊕ (Int32 × aw_S)} (h : m_Rf_layLive_B2 σ v1 = some t) (hz : Sum.elim (z_Rf_layLive_Y2 l G E) (z_Rf_layLive_X2 l G E) t) : aw_W l M_Rf_layLive G B_Rf_layLive E 2 [(0, .ref 0), (1, .int v1)] [] xB σ 0 0 := by
  unfold m_Rf_layLive_B2 at h
  refine aw_iload_n (pc := 2) (q := 1) dX12_layLive_2 rfl ?_
  refine aw_aload_n (pc := 3) (q := 0) dX12_layLive_3 rfl ?_
  refine aw_getI (pc := 4) fd_X12_215.r xB_0 rfl dX12_layLive_4 ?_
  refine aw_icmp_ge (pc := 7) (tgt := 23) dX12_layLive_7 (by decide) (fun c1 => ?_) (fun c1 => ?_)
  · replace h := aw_ifp c1 h
    refine aw_sub [0] rfl ?_
    cases h
    exact hz
  · replace h := aw_ifn c1 h
    refine aw_aload_n (pc := 10) (q := 0) dX12_layLive_10 rfl ?_
    refine aw_getC (pc := 11) fd_X12_122.r xB_0 rfl dX12_layLive_11 ?_
    refine aw_iload_n (pc := 14) (q := 1) dX12_layLive_14 rfl ?_
    refine aw_iconst (pc := 15) (v := 0) dX12_layLive_15 (by decide) ?_
    obtain ⟨g2, h⟩ := aw_gde h
    refine aw_iast (pc := 16) xB_36 g2 dX12_layLive_16 ?_
    refine aw_nmS (fun s3 e_s3 => ?_)
    replace h := aw_lte h s3 e_s3
    obtain ⟨x4, e_x4⟩ : ∃ z, z = (v1 + (1 : Int32)) := ⟨_, rfl⟩
    replace h := aw_lte h x4 e_x4
    refine aw_iinc (pc := 17) (q := 1) (v := x4) [(1, .int x4), (0, .ref 0)] dX12_layLive_17 rfl e_x4.symm (by decide) rfl ?_
    refine aw_goto (pc := 20) (tgt := 2) dX12_layLive_20 (by decide) ?_
    refine aw_sub [1, 0] rfl ?_
    cases h
    exact hz
set_option maxRecDepth 100000 in
set_option maxHeartbeats 4000000 in
theorem t_Rf_layLive_J96 {l : Launch} {G : aw_G} {E : aw_E} {σ : aw_S} {v2 : Int32} {v4 : Int32} {k0 : Int32} {t : (Int32 × aw_S) ⊕ (Int32 × Int32 × aw_S)} (h : m_Rf_layLive_J96 σ v2 v4 k0 = some t) (hz : Sum.elim (z_Rf_layLive_Y38 l G E) (z_Rf_layLive_X38 l G E) t) : aw_W l M_Rf_layLive G B_Rf_layLive E 96 [(0, .ref 0), (2, .int v2), (4, .int v4)] [.int k0] xB σ 0 0 := by
  unfold m_Rf_layLive_J96 at h
  refine aw_istore_n (pc := 96) [(1, .int k0), (0, .ref 0), (2, .int v2), (4, .int v4)] dX12_layLive_96 (by decide) rfl ?_
  refine aw_aload_n (pc := 97) (q := 1) dX12_layLive_97 rfl ?_
  refine aw_getC (pc := 98) fd_X12_122.r xB_0 rfl dX12_layLive_98 ?_
  refine aw_iload_n (pc := 101) (q := 2) dX12_layLive_101 rfl ?_
  refine aw_iload (pc := 102) (q := 3) dX12_layLive_102 rfl ?_
  obtain ⟨g20, h⟩ := aw_gde h
  refine aw_iast (pc := 104) xB_36 g20 dX12_layLive_104 ?_
  refine aw_nmS (fun s21 e_s21 => ?_)
  replace h := aw_lte h s21 e_s21
  obtain ⟨x22, e_x22⟩ : ∃ z, z = (v2 + (-1 : Int32)) := ⟨_, rfl⟩
  replace h := aw_lte h x22 e_x22
  refine aw_iinc (pc := 105) (q := 2) (v := x22) [(2, .int x22), (1, .int k0), (0, .ref 0), (4, .int v4)] dX12_layLive_105 rfl e_x22.symm (by decide) rfl ?_
  refine aw_goto (pc := 108) (tgt := 38) dX12_layLive_108 (by decide) ?_
  refine aw_sub [2, 1, 0] rfl ?_
  cases h
  exact hz
set_option maxRecDepth 100000 in
set_option maxHeartbeats 4000000 in
theorem t_Rf_layLive_J70 {l : Launch} {G : aw_G} {E : aw_E} {σ : aw_S} {v1 : Int32} {v2 : Int32} {k0 : Int32} {k1 : Int32} {k2 : Int32} {t : (Int32 × aw_S) ⊕ (Int32 × Int32 × aw_S)} (h : m_Rf_layLive_J70 σ v1 v2 k0 k1 k2 = some t) (hz : Sum.elim (z_Rf_layLive_Y38 l G E) (z_Rf_layLive_X38 l G E) t) : aw_W l M_Rf_layLive G B_Rf_layLive E 70 [(0, .ref 0), (1, .int v1), (2, .int v2)] [.int k2, .int k1, .int k0] xB σ 0 0 := by
  unfold m_Rf_layLive_J70 at h
  refine aw_iconst (pc := 70) (v := -1) dX12_layLive_70 (by decide) ?_
  refine aw_ixor (pc := 71) dX12_layLive_71 ?_
  refine aw_iand (pc := 72) dX12_layLive_72 ?_
  refine aw_ior (pc := 73) dX12_layLive_73 ?_
  refine aw_nmI (fun x18 e_x18 => ?_)
  replace h := aw_lte h x18 e_x18
  refine aw_istore (pc := 74) [(4, .int x18), (0, .ref 0), (1, .int v1), (2, .int v2)] dX12_layLive_74 (by decide) rfl ?_
  refine aw_iload_n (pc := 76) (q := 2) dX12_layLive_76 rfl ?_
  refine aw_if_ne (pc := 77) (tgt := 91) dX12_layLive_77 (by decide) (fun c19 => ?_) (fun c19 => ?_)
  · replace h := aw_ifn c19 h
    refine aw_iconst (pc := 91) (v := 1) dX12_layLive_91 (by decide) ?_
    refine aw_goto (pc := 92) (tgt := 96) dX12_layLive_92 (by decide) ?_
    refine aw_sub [1, 3, 0] rfl ?_
    exact t_Rf_layLive_J96 h hz
  · replace h := aw_ifp c19 h
    refine aw_iload (pc := 80) (q := 0) dX12_layLive_80 rfl ?_
    refine aw_aload_n (pc := 82) (q := 1) dX12_layLive_82 rfl ?_
    refine aw_getC (pc := 83) fd_X12_122.r xB_0 rfl dX12_layLive_83 ?_
    refine aw_iload_n (pc := 86) (q := 3) dX12_layLive_86 rfl ?_
    obtain ⟨g23, h⟩ := aw_gde h
    refine aw_iald (pc := 87) xB_36 g23 dX12_layLive_87 ?_
    refine aw_icmp_eq (pc := 88) (tgt := 95) dX12_layLive_88 (by decide) (fun c24 => ?_) (fun c24 => ?_)
    · replace h := aw_ifp c24 h
      refine aw_iconst (pc := 95) (v := 0) dX12_layLive_95 (by decide) ?_
      refine aw_sub [1, 3, 0] rfl ?_
      exact t_Rf_layLive_J96 h hz
    · replace h := aw_ifn c24 h
      refine aw_iconst (pc := 91) (v := 1) dX12_layLive_91 (by decide) ?_
      refine aw_goto (pc := 92) (tgt := 96) dX12_layLive_92 (by decide) ?_
      refine aw_sub [1, 3, 0] rfl ?_
      exact t_Rf_layLive_J96 h hz
set_option maxRecDepth 100000 in
set_option maxHeartbeats 4000000 in
theorem t_Rf_layLive_B38 {l : Launch} {G : aw_G} {E : aw_E} {σ : aw_S} {v1 : Int32} {v2 : Int32} {t : (Int32 × aw_S) ⊕ (Int32 × Int32 × aw_S)} (h : m_Rf_layLive_B38 σ v1 v2 = some t) (hz : Sum.elim (z_Rf_layLive_Y38 l G E) (z_Rf_layLive_X38 l G E) t) : aw_W l M_Rf_layLive G B_Rf_layLive E 38 [(0, .ref 0), (1, .int v1), (2, .int v2)] [] xB σ 0 0 := by
  unfold m_Rf_layLive_B38 at h
  refine aw_iload_n (pc := 38) (q := 2) dX12_layLive_38 rfl ?_
  refine aw_if_lt (pc := 39) (tgt := 111) dX12_layLive_39 (by decide) (fun c10 => ?_) (fun c10 => ?_)
  · replace h := aw_ifp c10 h
    refine aw_sub [0, 1] rfl ?_
    cases h
    exact hz
  · replace h := aw_ifn c10 h
    refine aw_aload_n (pc := 42) (q := 0) dX12_layLive_42 rfl ?_
    refine aw_iload_n (pc := 43) (q := 2) dX12_layLive_43 rfl ?_
    obtain ⟨r11, e12, h⟩ := aw_bde h
    refine aw_cV1 (pc := 44) [.int v2] (c_Rf_changed e12) yy_Rf_changed.1 wm_791 yy_Rf_changed.2.1 yy_Rf_changed.2.2 xB_0 ⟨_, _, rfl⟩ rfl ⟨Nat.le_of_ble_eq_true rfl, Nat.le_of_ble_eq_true rfl⟩ ⟨Nat.zero_le _, Nat.zero_le _⟩ (Nat.le_of_ble_eq_true rfl) dX12_layLive_44 ?_
    refine aw_istore_n (pc := 47) [(3, .int r11), (0, .ref 0), (1, .int v1), (2, .int v2)] dX12_layLive_47 (by decide) rfl ?_
    refine aw_aload_n (pc := 48) (q := 1) dX12_layLive_48 rfl ?_
    refine aw_iload_n (pc := 49) (q := 3) dX12_layLive_49 rfl ?_
    obtain ⟨r13, e14, h⟩ := aw_bde h
    refine aw_cV1 (pc := 50) [.int v2] (c_Rf_reads e14) yy_Rf_reads.1 wm_838 yy_Rf_reads.2.1 yy_Rf_reads.2.2 xB_0 ⟨_, _, rfl⟩ rfl ⟨Nat.le_of_ble_eq_true rfl, Nat.le_of_ble_eq_true rfl⟩ ⟨Nat.zero_le _, Nat.zero_le _⟩ (Nat.le_of_ble_eq_true rfl) dX12_layLive_50 ?_
    refine aw_aload_n (pc := 53) (q := 1) dX12_layLive_53 rfl ?_
    refine aw_iload_n (pc := 54) (q := 3) dX12_layLive_54 rfl ?_
    obtain ⟨r15, e16, h⟩ := aw_bde h
    refine aw_cV1 (pc := 55) [.int v2] (c_Rf_liveBehind e16) yy_Rf_liveBehind.1 wm_845 yy_Rf_liveBehind.2.1 yy_Rf_liveBehind.2.2 xB_0 ⟨_, _, rfl⟩ rfl ⟨Nat.le_of_ble_eq_true rfl, Nat.le_of_ble_eq_true rfl⟩ ⟨Nat.zero_le _, Nat.zero_le _⟩ (Nat.le_of_ble_eq_true rfl) dX12_layLive_55 ?_
    refine aw_iload_n (pc := 58) (q := 0) dX12_layLive_58 rfl ?_
    refine aw_iconst (pc := 59) (v := -1) dX12_layLive_59 (by decide) ?_
    refine aw_icmp_ne (pc := 60) (tgt := 67) dX12_layLive_60 (by decide) (fun c17 => ?_) (fun c17 => ?_)
    · replace h := aw_ifn c17 h
      refine aw_iconst (pc := 67) (v := 1) dX12_layLive_67 (by decide) ?_
      refine aw_iload_n (pc := 68) (q := 0) dX12_layLive_68 rfl ?_
      refine aw_ishl (pc := 69) dX12_layLive_69 ?_
      refine aw_sub [1, 2, 3] rfl ?_
      exact t_Rf_layLive_J70 h hz
    · replace h := aw_ifp c17 h
      refine aw_iconst (pc := 63) (v := 0) dX12_layLive_63 (by decide) ?_
      refine aw_goto (pc := 64) (tgt := 70) dX12_layLive_64 (by decide) ?_
      refine aw_sub [1, 2, 3] rfl ?_
      exact t_Rf_layLive_J70 h hz
set_option maxRecDepth 100000 in
set_option maxHeartbeats 4000000 in
theorem t_Rf_layLive_B25 {l : Launch} {G : aw_G} {E : aw_E} {σ : aw_S} {v1 : Int32} {t : (aw_S) ⊕ (Int32 × aw_S)} (h : m_Rf_layLive_B25 σ v1 = some t) (hz : Sum.elim (z_Rf_layLive_Y25 l G E) (z_Rf_layLive_X25 l G E) t) : aw_W l M_Rf_layLive G B_Rf_layLive E 25 [(0, .ref 0), (1, .int v1)] [] xB σ 0 0 := by
  unfold m_Rf_layLive_B25 at h
  refine aw_iload_n (pc := 25) (q := 1) dX12_layLive_25 rfl ?_
  refine aw_if_eq (pc := 26) (tgt := 114) dX12_layLive_26 (by decide) (fun c8 => ?_) (fun c8 => ?_)
  · replace h := aw_ifp c8 h
    refine aw_sub [] rfl ?_
    cases h
    exact hz
  · replace h := aw_ifn c8 h
    refine aw_iconst (pc := 29) (v := 0) dX12_layLive_29 (by decide) ?_
    refine aw_istore_n (pc := 30) [(1, .int ((0 : Int32))), (0, .ref 0)] dX12_layLive_30 (by decide) rfl ?_
    refine aw_aload_n (pc := 31) (q := 1) dX12_layLive_31 rfl ?_
    refine aw_getI (pc := 32) fd_X12_215.r xB_0 rfl dX12_layLive_32 ?_
    refine aw_iconst (pc := 35) (v := 1) dX12_layLive_35 (by decide) ?_
    refine aw_isub (pc := 36) dX12_layLive_36 ?_
    refine aw_nmI (fun x9 e_x9 => ?_)
    replace h := aw_lte h x9 e_x9
    refine aw_istore_n (pc := 37) [(2, .int x9), (1, .int ((0 : Int32))), (0, .ref 0)] dX12_layLive_37 (by decide) rfl ?_
    obtain ⟨x25, hl26, h⟩ := aw_bde h
    have K27 : z_Rf_layLive_Y38 l G E x25 := by
      show aw_W l M_Rf_layLive G B_Rf_layLive E 111 [(0, .ref 0), (1, .int x25.1)] [] xB x25.2 0 0
      refine aw_goto (pc := 111) (tgt := 25) dX12_layLive_111 (by decide) ?_
      refine aw_sub [0, 1] rfl ?_
      cases h
      exact hz
    refine aw_sub [2, 1, 0] rfl ?_
    show z_Rf_layLive_X38 l G E (((0 : Int32), x9, σ))
    exact aw_lp_X (Xp := z_Rf_layLive_X38 l G E) (Y := z_Rf_layLive_Y38 l G E) hl26 K27 (fun s t hf hz => t_Rf_layLive_B38 hf hz)
set_option maxRecDepth 100000 in
set_option maxHeartbeats 4000000 in
theorem t_Rf_layLive {l : Launch} {G : aw_G} {E : aw_E} {σ : aw_S} {t : aw_S} (h : m_Rf_layLive σ = some t) (hE : E = (none, xB, t)) : aw_W l M_Rf_layLive G B_Rf_layLive E 0 [(0, .ref 0)] [] xB σ 0 0 := by
  unfold m_Rf_layLive at h
  refine aw_iconst (pc := 0) (v := 0) dX12_layLive_0 (by decide) ?_
  refine aw_istore_n (pc := 1) [(1, .int ((0 : Int32))), (0, .ref 0)] dX12_layLive_1 (by decide) rfl ?_
  obtain ⟨x5, hl6, h⟩ := aw_bde h
  have K7 : z_Rf_layLive_Y2 l G E x5 := by
    show aw_W l M_Rf_layLive G B_Rf_layLive E 23 [(0, .ref 0)] [] xB x5 0 0
    refine aw_iconst (pc := 23) (v := 1) dX12_layLive_23 (by decide) ?_
    refine aw_istore_n (pc := 24) [(1, .int ((1 : Int32))), (0, .ref 0)] dX12_layLive_24 (by decide) rfl ?_
    obtain ⟨x28, hl29, h⟩ := aw_bde h
    have K30 : z_Rf_layLive_Y25 l G E x28 := by
      show aw_W l M_Rf_layLive G B_Rf_layLive E 114 [] [] xB x28 0 0
      cases h
      subst hE
      exact aw_vret rfl ⟨Nat.zero_le _, Nat.zero_le _⟩ dX12_layLive_114
    refine aw_sub [1, 0] rfl ?_
    show z_Rf_layLive_X25 l G E (((1 : Int32), x5))
    exact aw_lp_X (Xp := z_Rf_layLive_X25 l G E) (Y := z_Rf_layLive_Y25 l G E) hl29 K30 (fun s t hf hz => t_Rf_layLive_B25 hf hz)
  refine aw_sub [1, 0] rfl ?_
  show z_Rf_layLive_X2 l G E (((0 : Int32), σ))
  exact aw_lp_X (Xp := z_Rf_layLive_X2 l G E) (Y := z_Rf_layLive_Y2 l G E) hl6 K7 (fun s t hf hz => t_Rf_layLive_B2 hf hz)
theorem c_Rf_layLive {l : Launch} {G : aw_G} {σ : aw_S} {t : aw_S} (h : m_Rf_layLive σ = some t) : aw_Ct l yX12_layLive M_Rf_layLive G B_Rf_layLive [.ref 0] xB σ (none, xB, t) := aw_Ct_of (by decide) rfl (fun h => by cases h) (Nat.le_of_ble_eq_true rfl) (t_Rf_layLive h rfl)
/-! LateMoverModel.layOver()V -/
def z_Rf_layOver_X2 (l : Launch) (G : aw_G) (E : aw_E) (s : Int32 × aw_S) : Prop := aw_W l M_Rf_layOver G B_Rf_layOver E 2 [(0, .ref 0), (1, .int s.1)] [] xB s.2 0 0
def z_Rf_layOver_Y2 (l : Launch) (G : aw_G) (E : aw_E) (x : (aw_S)) : Prop := aw_W l M_Rf_layOver G B_Rf_layOver E 183 [] [] xB x 0 0
def z_Rf_layOver_X12 (l : Launch) (G : aw_G) (E : aw_E) (v1 : Int32) (s : Int32 × aw_S) : Prop := aw_W l M_Rf_layOver G B_Rf_layOver E 12 [(0, .ref 0), (1, .int v1), (2, .int s.1)] [] xB s.2 0 0
def z_Rf_layOver_Y12 (l : Launch) (G : aw_G) (E : aw_E) (v1 : Int32) (x : (aw_S)) : Prop := aw_W l M_Rf_layOver G B_Rf_layOver E 45 [(0, .ref 0), (1, .int v1)] [] xB x 0 0
def z_Rf_layOver_X47 (l : Launch) (G : aw_G) (E : aw_E) (v1 : Int32) (s : Int32 × aw_S) : Prop := aw_W l M_Rf_layOver G B_Rf_layOver E 47 [(0, .ref 0), (1, .int v1), (2, .int s.1)] [] xB s.2 0 0
def z_Rf_layOver_Y47 (l : Launch) (G : aw_G) (E : aw_E) (v1 : Int32) (x : (aw_S)) : Prop := aw_W l M_Rf_layOver G B_Rf_layOver E 136 [(0, .ref 0), (1, .int v1)] [] xB x 0 0
def z_Rf_layOver_X55 (l : Launch) (G : aw_G) (E : aw_E) (v1 : Int32) (s : Int32 × Int32 × aw_S) : Prop := aw_W l M_Rf_layOver G B_Rf_layOver E 55 [(0, .ref 0), (1, .int v1), (2, .int s.1), (3, .int s.2.1)] [] xB s.2.2 0 0
def z_Rf_layOver_Y55 (l : Launch) (G : aw_G) (E : aw_E) (v1 : Int32) (x : (Int32 × aw_S)) : Prop := aw_W l M_Rf_layOver G B_Rf_layOver E 133 [(0, .ref 0), (1, .int v1), (2, .int x.1)] [] xB x.2 0 0
def z_Rf_layOver_X138 (l : Launch) (G : aw_G) (E : aw_E) (v1 : Int32) (s : Int32 × aw_S) : Prop := aw_W l M_Rf_layOver G B_Rf_layOver E 138 [(0, .ref 0), (1, .int v1), (3, .int s.1)] [] xB s.2 0 0
def z_Rf_layOver_Y138 (l : Launch) (G : aw_G) (E : aw_E) (v1 : Int32) (x : (aw_S)) : Prop := aw_W l M_Rf_layOver G B_Rf_layOver E 177 [(0, .ref 0), (1, .int v1)] [] xB x 0 0
set_option maxRecDepth 100000 in
set_option maxHeartbeats 4000000 in
theorem t_Rf_layOver_J38 {l : Launch} {G : aw_G} {E : aw_E} {σ : aw_S} {v1 : Int32} {v2 : Int32} {k1 : Int32} {k2 : Int32} {t : (aw_S) ⊕ (Int32 × aw_S)} (h : m_Rf_layOver_J38 σ v1 v2 k1 k2 = some t) (hz : Sum.elim (z_Rf_layOver_Y12 l G E v1) (z_Rf_layOver_X12 l G E v1) t) : aw_W l M_Rf_layOver G B_Rf_layOver E 38 [(0, .ref 0), (1, .int v1), (2, .int v2)] [.int k2, .int k1, .ref 38] xB σ 0 0 := by
  unfold m_Rf_layOver_J38 at h
  obtain ⟨g4, h⟩ := aw_gde h
  refine aw_zast (pc := 38) xB_38 g4 dX12_layOver_38 ?_
  refine aw_nmS (fun s5 e_s5 => ?_)
  replace h := aw_lte h s5 e_s5
  obtain ⟨x6, e_x6⟩ : ∃ z, z = (v2 + (1 : Int32)) := ⟨_, rfl⟩
  replace h := aw_lte h x6 e_x6
  refine aw_iinc (pc := 39) (q := 2) (v := x6) [(2, .int x6), (0, .ref 0), (1, .int v1)] dX12_layOver_39 rfl e_x6.symm (by decide) rfl ?_
  refine aw_goto (pc := 42) (tgt := 12) dX12_layOver_42 (by decide) ?_
  refine aw_sub [1, 2, 0] rfl ?_
  cases h
  exact hz
set_option maxRecDepth 100000 in
set_option maxHeartbeats 4000000 in
theorem t_Rf_layOver_J37 {l : Launch} {G : aw_G} {E : aw_E} {σ : aw_S} {v1 : Int32} {v2 : Int32} {k1 : Int32} {t : (aw_S) ⊕ (Int32 × aw_S)} (h : m_Rf_layOver_J37 σ v1 v2 k1 = some t) (hz : Sum.elim (z_Rf_layOver_Y12 l G E v1) (z_Rf_layOver_X12 l G E v1) t) : aw_W l M_Rf_layOver G B_Rf_layOver E 37 [(0, .ref 0), (1, .int v1), (2, .int v2)] [.int k1, .ref 38] xB σ 0 0 := by
  unfold m_Rf_layOver_J37 at h
  refine aw_iconst (pc := 37) (v := 0) dX12_layOver_37 (by decide) ?_
  exact t_Rf_layOver_J38 h hz
set_option maxRecDepth 100000 in
set_option maxHeartbeats 4000000 in
theorem t_Rf_layOver_B12 {l : Launch} {G : aw_G} {E : aw_E} {σ : aw_S} {v1 : Int32} {v2 : Int32} {t : (aw_S) ⊕ (Int32 × aw_S)} (h : m_Rf_layOver_B12 σ v1 v2 = some t) (hz : Sum.elim (z_Rf_layOver_Y12 l G E v1) (z_Rf_layOver_X12 l G E v1) t) : aw_W l M_Rf_layOver G B_Rf_layOver E 12 [(0, .ref 0), (1, .int v1), (2, .int v2)] [] xB σ 0 0 := by
  unfold m_Rf_layOver_B12 at h
  refine aw_iload_n (pc := 12) (q := 2) dX12_layOver_12 rfl ?_
  refine aw_aload_n (pc := 13) (q := 0) dX12_layOver_13 rfl ?_
  refine aw_getI (pc := 14) fd_X12_215.r xB_0 rfl dX12_layOver_14 ?_
  refine aw_icmp_ge (pc := 17) (tgt := 45) dX12_layOver_17 (by decide) (fun c2 => ?_) (fun c2 => ?_)
  · replace h := aw_ifp c2 h
    refine aw_sub [0, 1] rfl ?_
    cases h
    exact hz
  · replace h := aw_ifn c2 h
    refine aw_aload_n (pc := 20) (q := 0) dX12_layOver_20 rfl ?_
    refine aw_getC (pc := 21) fd_X12_128.r xB_0 rfl dX12_layOver_21 ?_
    refine aw_iload_n (pc := 24) (q := 2) dX12_layOver_24 rfl ?_
    refine aw_iload_n (pc := 25) (q := 2) dX12_layOver_25 rfl ?_
    refine aw_if_ne (pc := 26) (tgt := 37) dX12_layOver_26 (by decide) (fun c3 => ?_) (fun c3 => ?_)
    · replace h := aw_ifn c3 h
      exact t_Rf_layOver_J37 h hz
    · replace h := aw_ifp c3 h
      refine aw_iload_n (pc := 29) (q := 1) dX12_layOver_29 rfl ?_
      refine aw_if_eq (pc := 30) (tgt := 37) dX12_layOver_30 (by decide) (fun c7 => ?_) (fun c7 => ?_)
      · replace h := aw_ifp c7 h
        exact t_Rf_layOver_J37 h hz
      · replace h := aw_ifn c7 h
        refine aw_iconst (pc := 33) (v := 1) dX12_layOver_33 (by decide) ?_
        refine aw_goto (pc := 34) (tgt := 38) dX12_layOver_34 (by decide) ?_
        exact t_Rf_layOver_J38 h hz
set_option maxRecDepth 100000 in
set_option maxHeartbeats 4000000 in
theorem t_Rf_layOver_J127 {l : Launch} {G : aw_G} {E : aw_E} {σ : aw_S} {v1 : Int32} {v2 : Int32} {v3 : Int32} {t : (Int32 × aw_S) ⊕ (Int32 × Int32 × aw_S)} (h : m_Rf_layOver_J127 σ v1 v2 v3 = some t) (hz : Sum.elim (z_Rf_layOver_Y55 l G E v1) (z_Rf_layOver_X55 l G E v1) t) : aw_W l M_Rf_layOver G B_Rf_layOver E 127 [(0, .ref 0), (1, .int v1), (2, .int v2), (3, .int v3)] [] xB σ 0 0 := by
  unfold m_Rf_layOver_J127 at h
  obtain ⟨x15, e_x15⟩ : ∃ z, z = (v3 + (1 : Int32)) := ⟨_, rfl⟩
  replace h := aw_lte h x15 e_x15
  refine aw_iinc (pc := 127) (q := 3) (v := x15) [(3, .int x15), (0, .ref 0), (1, .int v1), (2, .int v2)] dX12_layOver_127 rfl e_x15.symm (by decide) rfl ?_
  refine aw_goto (pc := 130) (tgt := 55) dX12_layOver_130 (by decide) ?_
  refine aw_sub [1, 2, 3, 0] rfl ?_
  cases h
  exact hz
set_option maxRecDepth 100000 in
set_option maxHeartbeats 4000000 in
theorem t_Rf_layOver_B55 {l : Launch} {G : aw_G} {E : aw_E} {σ : aw_S} {v1 : Int32} {v2 : Int32} {v3 : Int32} {t : (Int32 × aw_S) ⊕ (Int32 × Int32 × aw_S)} (h : m_Rf_layOver_B55 σ v1 v2 v3 = some t) (hz : Sum.elim (z_Rf_layOver_Y55 l G E v1) (z_Rf_layOver_X55 l G E v1) t) : aw_W l M_Rf_layOver G B_Rf_layOver E 55 [(0, .ref 0), (1, .int v1), (2, .int v2), (3, .int v3)] [] xB σ 0 0 := by
  unfold m_Rf_layOver_B55 at h
  refine aw_iload_n (pc := 55) (q := 3) dX12_layOver_55 rfl ?_
  refine aw_iconst (pc := 56) (v := 2) dX12_layOver_56 (by decide) ?_
  refine aw_aload_n (pc := 57) (q := 0) dX12_layOver_57 rfl ?_
  refine aw_getI (pc := 58) fd_X12_215.r xB_0 rfl dX12_layOver_58 ?_
  refine aw_imul (pc := 61) dX12_layOver_61 ?_
  refine aw_icmp_ge (pc := 62) (tgt := 133) dX12_layOver_62 (by decide) (fun c12 => ?_) (fun c12 => ?_)
  · replace h := aw_ifp c12 h
    refine aw_sub [0, 1, 2] rfl ?_
    cases h
    exact hz
  · replace h := aw_ifn c12 h
    refine aw_aload_n (pc := 65) (q := 0) dX12_layOver_65 rfl ?_
    refine aw_getC (pc := 66) fd_X12_33.r xB_0 rfl dX12_layOver_66 ?_
    refine aw_iload_n (pc := 69) (q := 3) dX12_layOver_69 rfl ?_
    obtain ⟨g13, h⟩ := aw_gde h
    refine aw_iald (pc := 70) xB_7 g13 dX12_layOver_70 ?_
    refine aw_iconst (pc := 71) (v := -1) dX12_layOver_71 (by decide) ?_
    refine aw_icmp_eq (pc := 72) (tgt := 127) dX12_layOver_72 (by decide) (fun c14 => ?_) (fun c14 => ?_)
    · replace h := aw_ifp c14 h
      exact t_Rf_layOver_J127 h hz
    · replace h := aw_ifn c14 h
      refine aw_aload_n (pc := 75) (q := 0) dX12_layOver_75 rfl ?_
      refine aw_getC (pc := 76) fd_X12_33.r xB_0 rfl dX12_layOver_76 ?_
      refine aw_iload_n (pc := 79) (q := 3) dX12_layOver_79 rfl ?_
      obtain ⟨g16, h⟩ := aw_gde h
      refine aw_iald (pc := 80) xB_7 g16 dX12_layOver_80 ?_
      refine aw_iload_n (pc := 81) (q := 1) dX12_layOver_81 rfl ?_
      refine aw_icmp_eq (pc := 82) (tgt := 127) dX12_layOver_82 (by decide) (fun c17 => ?_) (fun c17 => ?_)
      · replace h := aw_ifp c17 h
        exact t_Rf_layOver_J127 h hz
      · replace h := aw_ifn c17 h
        refine aw_aload_n (pc := 85) (q := 0) dX12_layOver_85 rfl ?_
        refine aw_getC (pc := 86) fd_X12_128.r xB_0 rfl dX12_layOver_86 ?_
        refine aw_iload_n (pc := 89) (q := 3) dX12_layOver_89 rfl ?_
        refine aw_iconst (pc := 90) (v := 2) dX12_layOver_90 (by decide) ?_
        refine aw_idiv (pc := 91) dX12_layOver_91 (by decide) ?_
        obtain ⟨g18, h⟩ := aw_gde h
        refine aw_zald (pc := 92) xB_38 g18 dX12_layOver_92 ?_
        refine aw_if_eq (pc := 93) (tgt := 127) dX12_layOver_93 (by decide) (fun c19 => ?_) (fun c19 => ?_)
        · replace h := aw_ifp c19 h
          exact t_Rf_layOver_J127 h hz
        · replace h := aw_ifn c19 h
          refine aw_aload_n (pc := 96) (q := 0) dX12_layOver_96 rfl ?_
          refine aw_getC (pc := 97) fd_X12_128.r xB_0 rfl dX12_layOver_97 ?_
          refine aw_aload_n (pc := 100) (q := 0) dX12_layOver_100 rfl ?_
          refine aw_getC (pc := 101) fd_X12_33.r xB_0 rfl dX12_layOver_101 ?_
          refine aw_iload_n (pc := 104) (q := 3) dX12_layOver_104 rfl ?_
          obtain ⟨g20, h⟩ := aw_gde h
          refine aw_iald (pc := 105) xB_7 g20 dX12_layOver_105 ?_
          obtain ⟨g21, h⟩ := aw_gde h
          refine aw_zald (pc := 106) xB_38 g21 dX12_layOver_106 ?_
          refine aw_if_eq (pc := 107) (tgt := 113) dX12_layOver_107 (by decide) (fun c22 => ?_) (fun c22 => ?_)
          · replace h := aw_ifp c22 h
            refine aw_aload_n (pc := 113) (q := 0) dX12_layOver_113 rfl ?_
            refine aw_getC (pc := 114) fd_X12_128.r xB_0 rfl dX12_layOver_114 ?_
            refine aw_aload_n (pc := 117) (q := 0) dX12_layOver_117 rfl ?_
            refine aw_getC (pc := 118) fd_X12_33.r xB_0 rfl dX12_layOver_118 ?_
            refine aw_iload_n (pc := 121) (q := 3) dX12_layOver_121 rfl ?_
            obtain ⟨g23, h⟩ := aw_gde h
            refine aw_iald (pc := 122) xB_7 g23 dX12_layOver_122 ?_
            refine aw_iconst (pc := 123) (v := 1) dX12_layOver_123 (by decide) ?_
            obtain ⟨g24, h⟩ := aw_gde h
            refine aw_zast (pc := 124) xB_38 g24 dX12_layOver_124 ?_
            refine aw_nmS (fun s25 e_s25 => ?_)
            replace h := aw_lte h s25 e_s25
            refine aw_iconst (pc := 125) (v := 1) dX12_layOver_125 (by decide) ?_
            refine aw_istore_n (pc := 126) [(2, .int ((1 : Int32))), (0, .ref 0), (1, .int v1), (3, .int v3)] dX12_layOver_126 (by decide) rfl ?_
            refine aw_sub [1, 2, 0, 3] rfl ?_
            exact t_Rf_layOver_J127 h hz
          · replace h := aw_ifn c22 h
            refine aw_goto (pc := 110) (tgt := 127) dX12_layOver_110 (by decide) ?_
            exact t_Rf_layOver_J127 h hz
set_option maxRecDepth 100000 in
set_option maxHeartbeats 4000000 in
theorem t_Rf_layOver_B47 {l : Launch} {G : aw_G} {E : aw_E} {σ : aw_S} {v1 : Int32} {v2 : Int32} {t : (aw_S) ⊕ (Int32 × aw_S)} (h : m_Rf_layOver_B47 σ v1 v2 = some t) (hz : Sum.elim (z_Rf_layOver_Y47 l G E v1) (z_Rf_layOver_X47 l G E v1) t) : aw_W l M_Rf_layOver G B_Rf_layOver E 47 [(0, .ref 0), (1, .int v1), (2, .int v2)] [] xB σ 0 0 := by
  unfold m_Rf_layOver_B47 at h
  refine aw_iload_n (pc := 47) (q := 2) dX12_layOver_47 rfl ?_
  refine aw_if_eq (pc := 48) (tgt := 136) dX12_layOver_48 (by decide) (fun c11 => ?_) (fun c11 => ?_)
  · replace h := aw_ifp c11 h
    refine aw_sub [0, 1] rfl ?_
    cases h
    exact hz
  · replace h := aw_ifn c11 h
    refine aw_iconst (pc := 51) (v := 0) dX12_layOver_51 (by decide) ?_
    refine aw_istore_n (pc := 52) [(2, .int ((0 : Int32))), (0, .ref 0), (1, .int v1)] dX12_layOver_52 (by decide) rfl ?_
    refine aw_iconst (pc := 53) (v := 0) dX12_layOver_53 (by decide) ?_
    refine aw_istore_n (pc := 54) [(3, .int ((0 : Int32))), (2, .int ((0 : Int32))), (0, .ref 0), (1, .int v1)] dX12_layOver_54 (by decide) rfl ?_
    obtain ⟨x26, hl27, h⟩ := aw_bde h
    have K28 : z_Rf_layOver_Y55 l G E v1 x26 := by
      show aw_W l M_Rf_layOver G B_Rf_layOver E 133 [(0, .ref 0), (1, .int v1), (2, .int x26.1)] [] xB x26.2 0 0
      refine aw_goto (pc := 133) (tgt := 47) dX12_layOver_133 (by decide) ?_
      refine aw_sub [0, 1, 2] rfl ?_
      cases h
      exact hz
    refine aw_sub [2, 3, 1, 0] rfl ?_
    show z_Rf_layOver_X55 l G E v1 (((0 : Int32), (0 : Int32), σ))
    exact aw_lp_X (Xp := z_Rf_layOver_X55 l G E v1) (Y := z_Rf_layOver_Y55 l G E v1) hl27 K28 (fun s t hf hz => t_Rf_layOver_B55 hf hz)
set_option maxRecDepth 100000 in
set_option maxHeartbeats 4000000 in
theorem t_Rf_layOver_J170 {l : Launch} {G : aw_G} {E : aw_E} {σ : aw_S} {v1 : Int32} {v3 : Int32} {k1 : Int32} {k2 : Int32} {t : (aw_S) ⊕ (Int32 × aw_S)} (h : m_Rf_layOver_J170 σ v1 v3 k1 k2 = some t) (hz : Sum.elim (z_Rf_layOver_Y138 l G E v1) (z_Rf_layOver_X138 l G E v1) t) : aw_W l M_Rf_layOver G B_Rf_layOver E 170 [(0, .ref 0), (1, .int v1), (3, .int v3)] [.int k2, .int k1, .ref 37] xB σ 0 0 := by
  unfold m_Rf_layOver_J170 at h
  obtain ⟨g35, h⟩ := aw_gde h
  refine aw_zast (pc := 170) xB_37 g35 dX12_layOver_170 ?_
  refine aw_nmS (fun s36 e_s36 => ?_)
  replace h := aw_lte h s36 e_s36
  obtain ⟨x37, e_x37⟩ : ∃ z, z = (v3 + (1 : Int32)) := ⟨_, rfl⟩
  replace h := aw_lte h x37 e_x37
  refine aw_iinc (pc := 171) (q := 2) (v := x37) [(3, .int x37), (0, .ref 0), (1, .int v1)] dX12_layOver_171 rfl e_x37.symm (by decide) rfl ?_
  refine aw_goto (pc := 174) (tgt := 138) dX12_layOver_174 (by decide) ?_
  refine aw_sub [1, 2, 0] rfl ?_
  cases h
  exact hz
set_option maxRecDepth 100000 in
set_option maxHeartbeats 4000000 in
theorem t_Rf_layOver_B138 {l : Launch} {G : aw_G} {E : aw_E} {σ : aw_S} {v1 : Int32} {v3 : Int32} {t : (aw_S) ⊕ (Int32 × aw_S)} (h : m_Rf_layOver_B138 σ v1 v3 = some t) (hz : Sum.elim (z_Rf_layOver_Y138 l G E v1) (z_Rf_layOver_X138 l G E v1) t) : aw_W l M_Rf_layOver G B_Rf_layOver E 138 [(0, .ref 0), (1, .int v1), (3, .int v3)] [] xB σ 0 0 := by
  unfold m_Rf_layOver_B138 at h
  refine aw_iload_n (pc := 138) (q := 2) dX12_layOver_138 rfl ?_
  refine aw_aload_n (pc := 139) (q := 0) dX12_layOver_139 rfl ?_
  refine aw_getI (pc := 140) fd_X12_215.r xB_0 rfl dX12_layOver_140 ?_
  refine aw_icmp_ge (pc := 143) (tgt := 177) dX12_layOver_143 (by decide) (fun c32 => ?_) (fun c32 => ?_)
  · replace h := aw_ifp c32 h
    refine aw_sub [0, 1] rfl ?_
    cases h
    exact hz
  · replace h := aw_ifn c32 h
    refine aw_aload_n (pc := 146) (q := 0) dX12_layOver_146 rfl ?_
    refine aw_getC (pc := 147) fd_X12_125.r xB_0 rfl dX12_layOver_147 ?_
    refine aw_bipush (pc := 150) (v := 112) dX12_layOver_150 (by decide) ?_
    refine aw_iload_n (pc := 152) (q := 1) dX12_layOver_152 rfl ?_
    refine aw_imul (pc := 153) dX12_layOver_153 ?_
    refine aw_iload_n (pc := 154) (q := 2) dX12_layOver_154 rfl ?_
    refine aw_iadd (pc := 155) dX12_layOver_155 ?_
    refine aw_aload_n (pc := 156) (q := 0) dX12_layOver_156 rfl ?_
    refine aw_getC (pc := 157) fd_X12_128.r xB_0 rfl dX12_layOver_157 ?_
    refine aw_iload_n (pc := 160) (q := 2) dX12_layOver_160 rfl ?_
    obtain ⟨g33, h⟩ := aw_gde h
    refine aw_zald (pc := 161) xB_38 g33 dX12_layOver_161 ?_
    refine aw_if_ne (pc := 162) (tgt := 169) dX12_layOver_162 (by decide) (fun c34 => ?_) (fun c34 => ?_)
    · replace h := aw_ifn c34 h
      refine aw_iconst (pc := 169) (v := 0) dX12_layOver_169 (by decide) ?_
      exact t_Rf_layOver_J170 h hz
    · replace h := aw_ifp c34 h
      refine aw_iconst (pc := 165) (v := 1) dX12_layOver_165 (by decide) ?_
      refine aw_goto (pc := 166) (tgt := 170) dX12_layOver_166 (by decide) ?_
      exact t_Rf_layOver_J170 h hz
set_option maxRecDepth 100000 in
set_option maxHeartbeats 4000000 in
theorem t_Rf_layOver_B2 {l : Launch} {G : aw_G} {E : aw_E} {σ : aw_S} {v1 : Int32} {t : (aw_S) ⊕ (Int32 × aw_S)} (h : m_Rf_layOver_B2 σ v1 = some t) (hz : Sum.elim (z_Rf_layOver_Y2 l G E) (z_Rf_layOver_X2 l G E) t) : aw_W l M_Rf_layOver G B_Rf_layOver E 2 [(0, .ref 0), (1, .int v1)] [] xB σ 0 0 := by
  unfold m_Rf_layOver_B2 at h
  refine aw_iload_n (pc := 2) (q := 1) dX12_layOver_2 rfl ?_
  refine aw_aload_n (pc := 3) (q := 0) dX12_layOver_3 rfl ?_
  refine aw_getI (pc := 4) fd_X12_215.r xB_0 rfl dX12_layOver_4 ?_
  refine aw_icmp_ge (pc := 7) (tgt := 183) dX12_layOver_7 (by decide) (fun c1 => ?_) (fun c1 => ?_)
  · replace h := aw_ifp c1 h
    refine aw_sub [] rfl ?_
    cases h
    exact hz
  · replace h := aw_ifn c1 h
    refine aw_iconst (pc := 10) (v := 0) dX12_layOver_10 (by decide) ?_
    refine aw_istore_n (pc := 11) [(2, .int ((0 : Int32))), (0, .ref 0), (1, .int v1)] dX12_layOver_11 (by decide) rfl ?_
    obtain ⟨x8, hl9, h⟩ := aw_bde h
    have K10 : z_Rf_layOver_Y12 l G E v1 x8 := by
      show aw_W l M_Rf_layOver G B_Rf_layOver E 45 [(0, .ref 0), (1, .int v1)] [] xB x8 0 0
      refine aw_iconst (pc := 45) (v := 1) dX12_layOver_45 (by decide) ?_
      refine aw_istore_n (pc := 46) [(2, .int ((1 : Int32))), (0, .ref 0), (1, .int v1)] dX12_layOver_46 (by decide) rfl ?_
      obtain ⟨x29, hl30, h⟩ := aw_bde h
      have K31 : z_Rf_layOver_Y47 l G E v1 x29 := by
        show aw_W l M_Rf_layOver G B_Rf_layOver E 136 [(0, .ref 0), (1, .int v1)] [] xB x29 0 0
        refine aw_iconst (pc := 136) (v := 0) dX12_layOver_136 (by decide) ?_
        refine aw_istore_n (pc := 137) [(3, .int ((0 : Int32))), (0, .ref 0), (1, .int v1)] dX12_layOver_137 (by decide) rfl ?_
        obtain ⟨x38, hl39, h⟩ := aw_bde h
        have K40 : z_Rf_layOver_Y138 l G E v1 x38 := by
          show aw_W l M_Rf_layOver G B_Rf_layOver E 177 [(0, .ref 0), (1, .int v1)] [] xB x38 0 0
          obtain ⟨x41, e_x41⟩ : ∃ z, z = (v1 + (1 : Int32)) := ⟨_, rfl⟩
          replace h := aw_lte h x41 e_x41
          refine aw_iinc (pc := 177) (q := 1) (v := x41) [(1, .int x41), (0, .ref 0)] dX12_layOver_177 rfl e_x41.symm (by decide) rfl ?_
          refine aw_goto (pc := 180) (tgt := 2) dX12_layOver_180 (by decide) ?_
          refine aw_sub [1, 0] rfl ?_
          cases h
          exact hz
        refine aw_sub [1, 2, 0] rfl ?_
        show z_Rf_layOver_X138 l G E v1 (((0 : Int32), x29))
        exact aw_lp_X (Xp := z_Rf_layOver_X138 l G E v1) (Y := z_Rf_layOver_Y138 l G E v1) hl39 K40 (fun s t hf hz => t_Rf_layOver_B138 hf hz)
      refine aw_sub [1, 2, 0] rfl ?_
      show z_Rf_layOver_X47 l G E v1 (((1 : Int32), x8))
      exact aw_lp_X (Xp := z_Rf_layOver_X47 l G E v1) (Y := z_Rf_layOver_Y47 l G E v1) hl30 K31 (fun s t hf hz => t_Rf_layOver_B47 hf hz)
    refine aw_sub [1, 2, 0] rfl ?_
    show z_Rf_layOver_X12 l G E v1 (((0 : Int32), σ))
    exact aw_lp_X (Xp := z_Rf_layOver_X12 l G E v1) (Y := z_Rf_layOver_Y12 l G E v1) hl9 K10 (fun s t hf hz => t_Rf_layOver_B12 hf hz)
set_option maxRecDepth 100000 in
set_option maxHeartbeats 4000000 in
theorem t_Rf_layOver {l : Launch} {G : aw_G} {E : aw_E} {σ : aw_S} {t : aw_S} (h : m_Rf_layOver σ = some t) (hE : E = (none, xB, t)) : aw_W l M_Rf_layOver G B_Rf_layOver E 0 [(0, .ref 0)] [] xB σ 0 0 := by
  unfold m_Rf_layOver at h
  refine aw_iconst (pc := 0) (v := 0) dX12_layOver_0 (by decide) ?_
  refine aw_istore_n (pc := 1) [(1, .int ((0 : Int32))), (0, .ref 0)] dX12_layOver_1 (by decide) rfl ?_
  obtain ⟨x42, hl43, h⟩ := aw_bde h
  have K44 : z_Rf_layOver_Y2 l G E x42 := by
    show aw_W l M_Rf_layOver G B_Rf_layOver E 183 [] [] xB x42 0 0
    cases h
    subst hE
    exact aw_vret rfl ⟨Nat.zero_le _, Nat.zero_le _⟩ dX12_layOver_183
  refine aw_sub [1, 0] rfl ?_
  show z_Rf_layOver_X2 l G E (((0 : Int32), σ))
  exact aw_lp_X (Xp := z_Rf_layOver_X2 l G E) (Y := z_Rf_layOver_Y2 l G E) hl43 K44 (fun s t hf hz => t_Rf_layOver_B2 hf hz)
theorem c_Rf_layOver {l : Launch} {G : aw_G} {σ : aw_S} {t : aw_S} (h : m_Rf_layOver σ = some t) : aw_Ct l yX12_layOver M_Rf_layOver G B_Rf_layOver [.ref 0] xB σ (none, xB, t) := aw_Ct_of (by decide) rfl (fun h => by cases h) (Nat.le_of_ble_eq_true rfl) (t_Rf_layOver h rfl)
/-! LateMoverModel.isOver(II)Z -/
set_option maxRecDepth 100000 in
set_option maxHeartbeats 4000000 in
theorem t_Rf_isOver {l : Launch} {G : aw_G} {E : aw_E} {σ : aw_S} {p1 : Int32} {p2 : Int32} {t : Int32} (h : m_Rf_isOver σ p1 p2 = some t) (hE : E = (some (.int t), xB, σ)) : aw_W l M_Rf_isOver G B_Rf_isOver E 0 [(0, .ref 0), (1, .int p1), (2, .int p2)] [] xB σ 0 0 := by
  unfold m_Rf_isOver at h
  refine aw_aload_n (pc := 0) (q := 0) dX12_isOver_0 rfl ?_
  refine aw_getC (pc := 1) fd_X12_125.r xB_0 rfl dX12_isOver_1 ?_
  refine aw_bipush (pc := 4) (v := 112) dX12_isOver_4 (by decide) ?_
  refine aw_iload_n (pc := 6) (q := 1) dX12_isOver_6 rfl ?_
  refine aw_imul (pc := 7) dX12_isOver_7 ?_
  refine aw_iload_n (pc := 8) (q := 2) dX12_isOver_8 rfl ?_
  refine aw_iadd (pc := 9) dX12_isOver_9 ?_
  obtain ⟨g1, h⟩ := aw_gde h
  refine aw_zald (pc := 10) xB_37 g1 dX12_isOver_10 ?_
  obtain ⟨g2, h⟩ := aw_gde h
  cases h
  subst hE
  exact aw_iret (v := (σ.1 37 ((((112 : Int32) * p1) + p2)).toNatClampNeg)) rfl (aw_nz g2) ⟨Nat.zero_le _, Nat.zero_le _⟩ dX12_isOver_11
theorem c_Rf_isOver {l : Launch} {G : aw_G} {σ : aw_S} {p1 : Int32} {p2 : Int32} {t : Int32} (h : m_Rf_isOver σ p1 p2 = some t) : aw_Ct l yX12_isOver M_Rf_isOver G B_Rf_isOver [.ref 0, .int p1, .int p2] xB σ (some (.int t), xB, σ) := aw_Ct_of (by decide) rfl (fun h => by cases h) (Nat.le_of_ble_eq_true rfl) (t_Rf_isOver h rfl)
/-! LateMoverModel.isHead(I)Z -/
def z_Rf_isHead_X2 (l : Launch) (G : aw_G) (E : aw_E) (σ : aw_S) (v1 : Int32) (s : Int32) : Prop := aw_W l M_Rf_isHead G B_Rf_isHead E 2 [(0, .ref 0), (1, .int v1), (2, .int s)] [] xB σ 0 0
def z_Rf_isHead_Y2 (l : Launch) (G : aw_G) (E : aw_E) (σ : aw_S) (v1 : Int32) (x : ((Int32) ⊕ (Unit))) : Prop := (Sum.elim (fun r0 => E = (some (.int r0), xB, σ)) (fun r1 => aw_W l M_Rf_isHead G B_Rf_isHead E 41 [] [] xB σ 0 0)) x
set_option maxRecDepth 100000 in
set_option maxHeartbeats 4000000 in
theorem t_Rf_isHead_J35 {l : Launch} {G : aw_G} {E : aw_E} {σ : aw_S} {v1 : Int32} {v2 : Int32} {t : ((Int32) ⊕ (Unit)) ⊕ Int32} (h : m_Rf_isHead_J35 σ v1 v2 = some t) (hz : Sum.elim (z_Rf_isHead_Y2 l G E σ v1) (z_Rf_isHead_X2 l G E σ v1) t) : aw_W l M_Rf_isHead G B_Rf_isHead E 35 [(0, .ref 0), (1, .int v1), (2, .int v2)] [] xB σ 0 0 := by
  unfold m_Rf_isHead_J35 at h
  obtain ⟨x4, e_x4⟩ : ∃ z, z = (v2 + (1 : Int32)) := ⟨_, rfl⟩
  replace h := aw_lte h x4 e_x4
  refine aw_iinc (pc := 35) (q := 2) (v := x4) [(2, .int x4), (0, .ref 0), (1, .int v1)] dX12_isHead_35 rfl e_x4.symm (by decide) rfl ?_
  refine aw_goto (pc := 38) (tgt := 2) dX12_isHead_38 (by decide) ?_
  refine aw_sub [1, 2, 0] rfl ?_
  cases h
  exact hz
set_option maxRecDepth 100000 in
set_option maxHeartbeats 4000000 in
theorem t_Rf_isHead_B2 {l : Launch} {G : aw_G} {E : aw_E} {σ : aw_S} {v1 : Int32} {v2 : Int32} {t : ((Int32) ⊕ (Unit)) ⊕ Int32} (h : m_Rf_isHead_B2 σ v1 v2 = some t) (hz : Sum.elim (z_Rf_isHead_Y2 l G E σ v1) (z_Rf_isHead_X2 l G E σ v1) t) : aw_W l M_Rf_isHead G B_Rf_isHead E 2 [(0, .ref 0), (1, .int v1), (2, .int v2)] [] xB σ 0 0 := by
  unfold m_Rf_isHead_B2 at h
  refine aw_iload_n (pc := 2) (q := 2) dX12_isHead_2 rfl ?_
  refine aw_iconst (pc := 3) (v := 2) dX12_isHead_3 (by decide) ?_
  refine aw_aload_n (pc := 4) (q := 0) dX12_isHead_4 rfl ?_
  refine aw_getI (pc := 5) fd_X12_215.r xB_0 rfl dX12_isHead_5 ?_
  refine aw_imul (pc := 8) dX12_isHead_8 ?_
  refine aw_icmp_ge (pc := 9) (tgt := 41) dX12_isHead_9 (by decide) (fun c1 => ?_) (fun c1 => ?_)
  · replace h := aw_ifp c1 h
    refine aw_sub [] rfl ?_
    cases h
    exact hz
  · replace h := aw_ifn c1 h
    refine aw_aload_n (pc := 12) (q := 0) dX12_isHead_12 rfl ?_
    refine aw_getC (pc := 13) fd_X12_33.r xB_0 rfl dX12_isHead_13 ?_
    refine aw_iload_n (pc := 16) (q := 2) dX12_isHead_16 rfl ?_
    obtain ⟨g2, h⟩ := aw_gde h
    refine aw_iald (pc := 17) xB_7 g2 dX12_isHead_17 ?_
    refine aw_iload_n (pc := 18) (q := 1) dX12_isHead_18 rfl ?_
    refine aw_icmp_ne (pc := 19) (tgt := 35) dX12_isHead_19 (by decide) (fun c3 => ?_) (fun c3 => ?_)
    · replace h := aw_ifn c3 h
      exact t_Rf_isHead_J35 h hz
    · replace h := aw_ifp c3 h
      refine aw_aload_n (pc := 22) (q := 0) dX12_isHead_22 rfl ?_
      refine aw_iload_n (pc := 23) (q := 1) dX12_isHead_23 rfl ?_
      refine aw_iload_n (pc := 24) (q := 2) dX12_isHead_24 rfl ?_
      refine aw_iconst (pc := 25) (v := 2) dX12_isHead_25 (by decide) ?_
      refine aw_idiv (pc := 26) dX12_isHead_26 (by decide) ?_
      obtain ⟨r5, e6, h⟩ := aw_bde h
      refine aw_cV1 (pc := 27) [.int v1, .int ((v2 / (2 : Int32)))] (c_Rf_isOver e6) yy_Rf_isOver.1 wm_862 yy_Rf_isOver.2.1 yy_Rf_isOver.2.2 xB_0 ⟨_, _, rfl⟩ rfl ⟨Nat.le_of_ble_eq_true rfl, Nat.le_of_ble_eq_true rfl⟩ ⟨Nat.zero_le _, Nat.zero_le _⟩ (Nat.le_of_ble_eq_true rfl) dX12_isHead_27 ?_
      refine aw_if_eq (pc := 30) (tgt := 35) dX12_isHead_30 (by decide) (fun c7 => ?_) (fun c7 => ?_)
      · replace h := aw_ifp c7 h
        exact t_Rf_isHead_J35 h hz
      · replace h := aw_ifn c7 h
        refine aw_iconst (pc := 33) (v := 1) dX12_isHead_33 (by decide) ?_
        cases h
        have hE : E = _ := hz
        subst hE
        exact aw_iret (v := (1 : Int32)) rfl aw_n1 ⟨Nat.zero_le _, Nat.zero_le _⟩ dX12_isHead_34
set_option maxRecDepth 100000 in
set_option maxHeartbeats 4000000 in
theorem t_Rf_isHead {l : Launch} {G : aw_G} {E : aw_E} {σ : aw_S} {p1 : Int32} {t : Int32} (h : m_Rf_isHead σ p1 = some t) (hE : E = (some (.int t), xB, σ)) : aw_W l M_Rf_isHead G B_Rf_isHead E 0 [(0, .ref 0), (1, .int p1)] [] xB σ 0 0 := by
  unfold m_Rf_isHead at h
  refine aw_iconst (pc := 0) (v := 0) dX12_isHead_0 (by decide) ?_
  refine aw_istore_n (pc := 1) [(2, .int ((0 : Int32))), (0, .ref 0), (1, .int p1)] dX12_isHead_1 (by decide) rfl ?_
  obtain ⟨x8, hl9, h⟩ := aw_bde h
  have K10 : z_Rf_isHead_Y2 l G E σ p1 x8 := by
    cases x8 with
    | inl y11 =>
      replace h := aw_eL h
      show E = _
      cases h
      exact hE
    | inr y12 =>
      replace h := aw_eR h
      show aw_W l M_Rf_isHead G B_Rf_isHead E 41 [] [] xB σ 0 0
      refine aw_iconst (pc := 41) (v := 0) dX12_isHead_41 (by decide) ?_
      cases h
      subst hE
      exact aw_iret (v := (0 : Int32)) rfl aw_n0 ⟨Nat.zero_le _, Nat.zero_le _⟩ dX12_isHead_42
  refine aw_sub [1, 2, 0] rfl ?_
  show z_Rf_isHead_X2 l G E σ p1 ((0 : Int32))
  exact aw_lp_X (Xp := z_Rf_isHead_X2 l G E σ p1) (Y := z_Rf_isHead_Y2 l G E σ p1) hl9 K10 (fun s t hf hz => t_Rf_isHead_B2 hf hz)
theorem c_Rf_isHead {l : Launch} {G : aw_G} {σ : aw_S} {p1 : Int32} {t : Int32} (h : m_Rf_isHead σ p1 = some t) : aw_Ct l yX12_isHead M_Rf_isHead G B_Rf_isHead [.ref 0, .int p1] xB σ (some (.int t), xB, σ) := aw_Ct_of (by decide) rfl (fun h => by cases h) (Nat.le_of_ble_eq_true rfl) (t_Rf_isHead h rfl)
/-! LateMoverModel.layComing(I)V -/
def z_Rf_layComing_X2 (l : Launch) (G : aw_G) (E : aw_E) (v1 : Int32) (s : Int32 × aw_S) : Prop := aw_W l M_Rf_layComing G B_Rf_layComing E 2 [(0, .ref 0), (1, .int v1), (2, .int s.1)] [] xB s.2 0 0
def z_Rf_layComing_Y2 (l : Launch) (G : aw_G) (E : aw_E) (v1 : Int32) (x : (aw_S)) : Prop := aw_W l M_Rf_layComing G B_Rf_layComing E 32 [(0, .ref 0), (1, .int v1)] [] xB x 0 0
def z_Rf_layComing_X34 (l : Launch) (G : aw_G) (E : aw_E) (v1 : Int32) (s : Int32 × aw_S) : Prop := aw_W l M_Rf_layComing G B_Rf_layComing E 34 [(0, .ref 0), (1, .int v1), (2, .int s.1)] [] xB s.2 0 0
def z_Rf_layComing_Y34 (l : Launch) (G : aw_G) (E : aw_E) (v1 : Int32) (x : (aw_S)) : Prop := aw_W l M_Rf_layComing G B_Rf_layComing E 121 [] [] xB x 0 0
def z_Rf_layComing_X42 (l : Launch) (G : aw_G) (E : aw_E) (v1 : Int32) (s : Int32 × Int32 × aw_S) : Prop := aw_W l M_Rf_layComing G B_Rf_layComing E 42 [(0, .ref 0), (1, .int v1), (2, .int s.1), (3, .int s.2.1)] [] xB s.2.2 0 0
def z_Rf_layComing_Y42 (l : Launch) (G : aw_G) (E : aw_E) (v1 : Int32) (x : (Int32 × aw_S)) : Prop := aw_W l M_Rf_layComing G B_Rf_layComing E 118 [(0, .ref 0), (1, .int v1), (2, .int x.1)] [] xB x.2 0 0
set_option maxRecDepth 100000 in
set_option maxHeartbeats 4000000 in
theorem t_Rf_layComing_J25 {l : Launch} {G : aw_G} {E : aw_E} {σ : aw_S} {v1 : Int32} {v2 : Int32} {k1 : Int32} {k2 : Int32} {t : (aw_S) ⊕ (Int32 × aw_S)} (h : m_Rf_layComing_J25 σ v1 v2 k1 k2 = some t) (hz : Sum.elim (z_Rf_layComing_Y2 l G E v1) (z_Rf_layComing_X2 l G E v1) t) : aw_W l M_Rf_layComing G B_Rf_layComing E 25 [(0, .ref 0), (1, .int v1), (2, .int v2)] [.int k2, .int k1, .ref 38] xB σ 0 0 := by
  unfold m_Rf_layComing_J25 at h
  obtain ⟨g3, h⟩ := aw_gde h
  refine aw_zast (pc := 25) xB_38 g3 dX12_layComing_25 ?_
  refine aw_nmS (fun s4 e_s4 => ?_)
  replace h := aw_lte h s4 e_s4
  obtain ⟨x5, e_x5⟩ : ∃ z, z = (v2 + (1 : Int32)) := ⟨_, rfl⟩
  replace h := aw_lte h x5 e_x5
  refine aw_iinc (pc := 26) (q := 2) (v := x5) [(2, .int x5), (0, .ref 0), (1, .int v1)] dX12_layComing_26 rfl e_x5.symm (by decide) rfl ?_
  refine aw_goto (pc := 29) (tgt := 2) dX12_layComing_29 (by decide) ?_
  refine aw_sub [1, 2, 0] rfl ?_
  cases h
  exact hz
set_option maxRecDepth 100000 in
set_option maxHeartbeats 4000000 in
theorem t_Rf_layComing_B2 {l : Launch} {G : aw_G} {E : aw_E} {σ : aw_S} {v1 : Int32} {v2 : Int32} {t : (aw_S) ⊕ (Int32 × aw_S)} (h : m_Rf_layComing_B2 σ v1 v2 = some t) (hz : Sum.elim (z_Rf_layComing_Y2 l G E v1) (z_Rf_layComing_X2 l G E v1) t) : aw_W l M_Rf_layComing G B_Rf_layComing E 2 [(0, .ref 0), (1, .int v1), (2, .int v2)] [] xB σ 0 0 := by
  unfold m_Rf_layComing_B2 at h
  refine aw_iload_n (pc := 2) (q := 2) dX12_layComing_2 rfl ?_
  refine aw_aload_n (pc := 3) (q := 0) dX12_layComing_3 rfl ?_
  refine aw_getI (pc := 4) fd_X12_215.r xB_0 rfl dX12_layComing_4 ?_
  refine aw_icmp_ge (pc := 7) (tgt := 32) dX12_layComing_7 (by decide) (fun c1 => ?_) (fun c1 => ?_)
  · replace h := aw_ifp c1 h
    refine aw_sub [0, 1] rfl ?_
    cases h
    exact hz
  · replace h := aw_ifn c1 h
    refine aw_aload_n (pc := 10) (q := 0) dX12_layComing_10 rfl ?_
    refine aw_getC (pc := 11) fd_X12_128.r xB_0 rfl dX12_layComing_11 ?_
    refine aw_iload_n (pc := 14) (q := 2) dX12_layComing_14 rfl ?_
    refine aw_iload_n (pc := 15) (q := 2) dX12_layComing_15 rfl ?_
    refine aw_iload_n (pc := 16) (q := 1) dX12_layComing_16 rfl ?_
    refine aw_icmp_ne (pc := 17) (tgt := 24) dX12_layComing_17 (by decide) (fun c2 => ?_) (fun c2 => ?_)
    · replace h := aw_ifn c2 h
      refine aw_iconst (pc := 24) (v := 0) dX12_layComing_24 (by decide) ?_
      exact t_Rf_layComing_J25 h hz
    · replace h := aw_ifp c2 h
      refine aw_iconst (pc := 20) (v := 1) dX12_layComing_20 (by decide) ?_
      refine aw_goto (pc := 21) (tgt := 25) dX12_layComing_21 (by decide) ?_
      exact t_Rf_layComing_J25 h hz
set_option maxRecDepth 100000 in
set_option maxHeartbeats 4000000 in
theorem t_Rf_layComing_J112 {l : Launch} {G : aw_G} {E : aw_E} {σ : aw_S} {v1 : Int32} {v2 : Int32} {v3 : Int32} {t : (Int32 × aw_S) ⊕ (Int32 × Int32 × aw_S)} (h : m_Rf_layComing_J112 σ v1 v2 v3 = some t) (hz : Sum.elim (z_Rf_layComing_Y42 l G E v1) (z_Rf_layComing_X42 l G E v1) t) : aw_W l M_Rf_layComing G B_Rf_layComing E 112 [(0, .ref 0), (1, .int v1), (2, .int v2), (3, .int v3)] [] xB σ 0 0 := by
  unfold m_Rf_layComing_J112 at h
  obtain ⟨x13, e_x13⟩ : ∃ z, z = (v3 + (1 : Int32)) := ⟨_, rfl⟩
  replace h := aw_lte h x13 e_x13
  refine aw_iinc (pc := 112) (q := 3) (v := x13) [(3, .int x13), (0, .ref 0), (1, .int v1), (2, .int v2)] dX12_layComing_112 rfl e_x13.symm (by decide) rfl ?_
  refine aw_goto (pc := 115) (tgt := 42) dX12_layComing_115 (by decide) ?_
  refine aw_sub [1, 2, 3, 0] rfl ?_
  cases h
  exact hz
set_option maxRecDepth 100000 in
set_option maxHeartbeats 4000000 in
theorem t_Rf_layComing_B42 {l : Launch} {G : aw_G} {E : aw_E} {σ : aw_S} {v1 : Int32} {v2 : Int32} {v3 : Int32} {t : (Int32 × aw_S) ⊕ (Int32 × Int32 × aw_S)} (h : m_Rf_layComing_B42 σ v1 v2 v3 = some t) (hz : Sum.elim (z_Rf_layComing_Y42 l G E v1) (z_Rf_layComing_X42 l G E v1) t) : aw_W l M_Rf_layComing G B_Rf_layComing E 42 [(0, .ref 0), (1, .int v1), (2, .int v2), (3, .int v3)] [] xB σ 0 0 := by
  unfold m_Rf_layComing_B42 at h
  refine aw_iload_n (pc := 42) (q := 3) dX12_layComing_42 rfl ?_
  refine aw_iconst (pc := 43) (v := 2) dX12_layComing_43 (by decide) ?_
  refine aw_aload_n (pc := 44) (q := 0) dX12_layComing_44 rfl ?_
  refine aw_getI (pc := 45) fd_X12_215.r xB_0 rfl dX12_layComing_45 ?_
  refine aw_imul (pc := 48) dX12_layComing_48 ?_
  refine aw_icmp_ge (pc := 49) (tgt := 118) dX12_layComing_49 (by decide) (fun c10 => ?_) (fun c10 => ?_)
  · replace h := aw_ifp c10 h
    refine aw_sub [0, 1, 2] rfl ?_
    cases h
    exact hz
  · replace h := aw_ifn c10 h
    refine aw_aload_n (pc := 52) (q := 0) dX12_layComing_52 rfl ?_
    refine aw_getC (pc := 53) fd_X12_33.r xB_0 rfl dX12_layComing_53 ?_
    refine aw_iload_n (pc := 56) (q := 3) dX12_layComing_56 rfl ?_
    obtain ⟨g11, h⟩ := aw_gde h
    refine aw_iald (pc := 57) xB_7 g11 dX12_layComing_57 ?_
    refine aw_iconst (pc := 58) (v := -1) dX12_layComing_58 (by decide) ?_
    refine aw_icmp_eq (pc := 59) (tgt := 112) dX12_layComing_59 (by decide) (fun c12 => ?_) (fun c12 => ?_)
    · replace h := aw_ifp c12 h
      exact t_Rf_layComing_J112 h hz
    · replace h := aw_ifn c12 h
      refine aw_aload_n (pc := 62) (q := 0) dX12_layComing_62 rfl ?_
      refine aw_getC (pc := 63) fd_X12_128.r xB_0 rfl dX12_layComing_63 ?_
      refine aw_aload_n (pc := 66) (q := 0) dX12_layComing_66 rfl ?_
      refine aw_getC (pc := 67) fd_X12_33.r xB_0 rfl dX12_layComing_67 ?_
      refine aw_iload_n (pc := 70) (q := 3) dX12_layComing_70 rfl ?_
      obtain ⟨g14, h⟩ := aw_gde h
      refine aw_iald (pc := 71) xB_7 g14 dX12_layComing_71 ?_
      obtain ⟨g15, h⟩ := aw_gde h
      refine aw_zald (pc := 72) xB_38 g15 dX12_layComing_72 ?_
      refine aw_if_eq (pc := 73) (tgt := 112) dX12_layComing_73 (by decide) (fun c16 => ?_) (fun c16 => ?_)
      · replace h := aw_ifp c16 h
        exact t_Rf_layComing_J112 h hz
      · replace h := aw_ifn c16 h
        refine aw_aload_n (pc := 76) (q := 0) dX12_layComing_76 rfl ?_
        refine aw_getC (pc := 77) fd_X12_128.r xB_0 rfl dX12_layComing_77 ?_
        refine aw_iload_n (pc := 80) (q := 3) dX12_layComing_80 rfl ?_
        refine aw_iconst (pc := 81) (v := 2) dX12_layComing_81 (by decide) ?_
        refine aw_idiv (pc := 82) dX12_layComing_82 (by decide) ?_
        obtain ⟨g17, h⟩ := aw_gde h
        refine aw_zald (pc := 83) xB_38 g17 dX12_layComing_83 ?_
        refine aw_if_ne (pc := 84) (tgt := 112) dX12_layComing_84 (by decide) (fun c18 => ?_) (fun c18 => ?_)
        · replace h := aw_ifn c18 h
          exact t_Rf_layComing_J112 h hz
        · replace h := aw_ifp c18 h
          refine aw_aload_n (pc := 87) (q := 0) dX12_layComing_87 rfl ?_
          refine aw_iload_n (pc := 88) (q := 1) dX12_layComing_88 rfl ?_
          refine aw_iload_n (pc := 89) (q := 3) dX12_layComing_89 rfl ?_
          refine aw_iconst (pc := 90) (v := 2) dX12_layComing_90 (by decide) ?_
          refine aw_idiv (pc := 91) dX12_layComing_91 (by decide) ?_
          obtain ⟨r19, e20, h⟩ := aw_bde h
          refine aw_cV1 (pc := 92) [.int v1, .int ((v3 / (2 : Int32)))] (c_Rf_isOver e20) yy_Rf_isOver.1 wm_862 yy_Rf_isOver.2.1 yy_Rf_isOver.2.2 xB_0 ⟨_, _, rfl⟩ rfl ⟨Nat.le_of_ble_eq_true rfl, Nat.le_of_ble_eq_true rfl⟩ ⟨Nat.zero_le _, Nat.zero_le _⟩ (Nat.le_of_ble_eq_true rfl) dX12_layComing_92 ?_
          refine aw_if_ne (pc := 95) (tgt := 101) dX12_layComing_95 (by decide) (fun c21 => ?_) (fun c21 => ?_)
          · replace h := aw_ifn c21 h
            refine aw_aload_n (pc := 101) (q := 0) dX12_layComing_101 rfl ?_
            refine aw_getC (pc := 102) fd_X12_128.r xB_0 rfl dX12_layComing_102 ?_
            refine aw_iload_n (pc := 105) (q := 3) dX12_layComing_105 rfl ?_
            refine aw_iconst (pc := 106) (v := 2) dX12_layComing_106 (by decide) ?_
            refine aw_idiv (pc := 107) dX12_layComing_107 (by decide) ?_
            refine aw_iconst (pc := 108) (v := 1) dX12_layComing_108 (by decide) ?_
            obtain ⟨g22, h⟩ := aw_gde h
            refine aw_zast (pc := 109) xB_38 g22 dX12_layComing_109 ?_
            refine aw_nmS (fun s23 e_s23 => ?_)
            replace h := aw_lte h s23 e_s23
            refine aw_iconst (pc := 110) (v := 1) dX12_layComing_110 (by decide) ?_
            refine aw_istore_n (pc := 111) [(2, .int ((1 : Int32))), (0, .ref 0), (1, .int v1), (3, .int v3)] dX12_layComing_111 (by decide) rfl ?_
            refine aw_sub [1, 2, 0, 3] rfl ?_
            exact t_Rf_layComing_J112 h hz
          · replace h := aw_ifp c21 h
            refine aw_goto (pc := 98) (tgt := 112) dX12_layComing_98 (by decide) ?_
            exact t_Rf_layComing_J112 h hz
set_option maxRecDepth 100000 in
set_option maxHeartbeats 4000000 in
theorem t_Rf_layComing_B34 {l : Launch} {G : aw_G} {E : aw_E} {σ : aw_S} {v1 : Int32} {v2 : Int32} {t : (aw_S) ⊕ (Int32 × aw_S)} (h : m_Rf_layComing_B34 σ v1 v2 = some t) (hz : Sum.elim (z_Rf_layComing_Y34 l G E v1) (z_Rf_layComing_X34 l G E v1) t) : aw_W l M_Rf_layComing G B_Rf_layComing E 34 [(0, .ref 0), (1, .int v1), (2, .int v2)] [] xB σ 0 0 := by
  unfold m_Rf_layComing_B34 at h
  refine aw_iload_n (pc := 34) (q := 2) dX12_layComing_34 rfl ?_
  refine aw_if_eq (pc := 35) (tgt := 121) dX12_layComing_35 (by decide) (fun c9 => ?_) (fun c9 => ?_)
  · replace h := aw_ifp c9 h
    refine aw_sub [] rfl ?_
    cases h
    exact hz
  · replace h := aw_ifn c9 h
    refine aw_iconst (pc := 38) (v := 0) dX12_layComing_38 (by decide) ?_
    refine aw_istore_n (pc := 39) [(2, .int ((0 : Int32))), (0, .ref 0), (1, .int v1)] dX12_layComing_39 (by decide) rfl ?_
    refine aw_iconst (pc := 40) (v := 0) dX12_layComing_40 (by decide) ?_
    refine aw_istore_n (pc := 41) [(3, .int ((0 : Int32))), (2, .int ((0 : Int32))), (0, .ref 0), (1, .int v1)] dX12_layComing_41 (by decide) rfl ?_
    obtain ⟨x24, hl25, h⟩ := aw_bde h
    have K26 : z_Rf_layComing_Y42 l G E v1 x24 := by
      show aw_W l M_Rf_layComing G B_Rf_layComing E 118 [(0, .ref 0), (1, .int v1), (2, .int x24.1)] [] xB x24.2 0 0
      refine aw_goto (pc := 118) (tgt := 34) dX12_layComing_118 (by decide) ?_
      refine aw_sub [0, 1, 2] rfl ?_
      cases h
      exact hz
    refine aw_sub [2, 3, 1, 0] rfl ?_
    show z_Rf_layComing_X42 l G E v1 (((0 : Int32), (0 : Int32), σ))
    exact aw_lp_X (Xp := z_Rf_layComing_X42 l G E v1) (Y := z_Rf_layComing_Y42 l G E v1) hl25 K26 (fun s t hf hz => t_Rf_layComing_B42 hf hz)
set_option maxRecDepth 100000 in
set_option maxHeartbeats 4000000 in
theorem t_Rf_layComing {l : Launch} {G : aw_G} {E : aw_E} {σ : aw_S} {p1 : Int32} {t : aw_S} (h : m_Rf_layComing σ p1 = some t) (hE : E = (none, xB, t)) : aw_W l M_Rf_layComing G B_Rf_layComing E 0 [(0, .ref 0), (1, .int p1)] [] xB σ 0 0 := by
  unfold m_Rf_layComing at h
  refine aw_iconst (pc := 0) (v := 0) dX12_layComing_0 (by decide) ?_
  refine aw_istore_n (pc := 1) [(2, .int ((0 : Int32))), (0, .ref 0), (1, .int p1)] dX12_layComing_1 (by decide) rfl ?_
  obtain ⟨x6, hl7, h⟩ := aw_bde h
  have K8 : z_Rf_layComing_Y2 l G E p1 x6 := by
    show aw_W l M_Rf_layComing G B_Rf_layComing E 32 [(0, .ref 0), (1, .int p1)] [] xB x6 0 0
    refine aw_iconst (pc := 32) (v := 1) dX12_layComing_32 (by decide) ?_
    refine aw_istore_n (pc := 33) [(2, .int ((1 : Int32))), (0, .ref 0), (1, .int p1)] dX12_layComing_33 (by decide) rfl ?_
    obtain ⟨x27, hl28, h⟩ := aw_bde h
    have K29 : z_Rf_layComing_Y34 l G E p1 x27 := by
      show aw_W l M_Rf_layComing G B_Rf_layComing E 121 [] [] xB x27 0 0
      cases h
      subst hE
      exact aw_vret rfl ⟨Nat.zero_le _, Nat.zero_le _⟩ dX12_layComing_121
    refine aw_sub [1, 2, 0] rfl ?_
    show z_Rf_layComing_X34 l G E p1 (((1 : Int32), x6))
    exact aw_lp_X (Xp := z_Rf_layComing_X34 l G E p1) (Y := z_Rf_layComing_Y34 l G E p1) hl28 K29 (fun s t hf hz => t_Rf_layComing_B34 hf hz)
  refine aw_sub [1, 2, 0] rfl ?_
  show z_Rf_layComing_X2 l G E p1 (((0 : Int32), σ))
  exact aw_lp_X (Xp := z_Rf_layComing_X2 l G E p1) (Y := z_Rf_layComing_Y2 l G E p1) hl7 K8 (fun s t hf hz => t_Rf_layComing_B2 hf hz)
theorem c_Rf_layComing {l : Launch} {G : aw_G} {σ : aw_S} {p1 : Int32} {t : aw_S} (h : m_Rf_layComing σ p1 = some t) : aw_Ct l yX12_layComing M_Rf_layComing G B_Rf_layComing [.ref 0, .int p1] xB σ (none, xB, t) := aw_Ct_of (by decide) rfl (fun h => by cases h) (Nat.le_of_ble_eq_true rfl) (t_Rf_layComing h rfl)
/-! LateMoverModel.layDeep()V -/
def z_Rf_layDeep_X7 (l : Launch) (G : aw_G) (E : aw_E) (s : Int32 × aw_S) : Prop := aw_W l M_Rf_layDeep G B_Rf_layDeep E 7 [(0, .ref 0), (1, .int s.1)] [] xB s.2 0 0
def z_Rf_layDeep_Y7 (l : Launch) (G : aw_G) (E : aw_E) (x : (aw_S)) : Prop := aw_W l M_Rf_layDeep G B_Rf_layDeep E 28 [(0, .ref 0)] [] xB x 0 0
def z_Rf_layDeep_X30 (l : Launch) (G : aw_G) (E : aw_E) (s : Int32 × aw_S) : Prop := aw_W l M_Rf_layDeep G B_Rf_layDeep E 30 [(0, .ref 0), (1, .int s.1)] [] xB s.2 0 0
def z_Rf_layDeep_Y30 (l : Launch) (G : aw_G) (E : aw_E) (x : (aw_S)) : Prop := aw_W l M_Rf_layDeep G B_Rf_layDeep E 118 [] [] xB x 0 0
def z_Rf_layDeep_X66 (l : Launch) (G : aw_G) (E : aw_E) (v1 : Int32) (s : Int32 × aw_S) : Prop := aw_W l M_Rf_layDeep G B_Rf_layDeep E 66 [(0, .ref 0), (1, .int v1), (2, .int s.1)] [] xB s.2 0 0
def z_Rf_layDeep_Y66 (l : Launch) (G : aw_G) (E : aw_E) (v1 : Int32) (x : (aw_S)) : Prop := aw_W l M_Rf_layDeep G B_Rf_layDeep E 112 [(0, .ref 0), (1, .int v1)] [] xB x 0 0
set_option maxRecDepth 100000 in
set_option maxHeartbeats 4000000 in
theorem t_Rf_layDeep_B7 {l : Launch} {G : aw_G} {E : aw_E} {σ : aw_S} {v1 : Int32} {t : (aw_S) ⊕ (Int32 × aw_S)} (h : m_Rf_layDeep_B7 σ v1 = some t) (hz : Sum.elim (z_Rf_layDeep_Y7 l G E) (z_Rf_layDeep_X7 l G E) t) : aw_W l M_Rf_layDeep G B_Rf_layDeep E 7 [(0, .ref 0), (1, .int v1)] [] xB σ 0 0 := by
  unfold m_Rf_layDeep_B7 at h
  refine aw_iload_n (pc := 7) (q := 1) dX12_layDeep_7 rfl ?_
  refine aw_aload_n (pc := 8) (q := 0) dX12_layDeep_8 rfl ?_
  refine aw_getI (pc := 9) fd_X12_215.r xB_0 rfl dX12_layDeep_9 ?_
  refine aw_icmp_ge (pc := 12) (tgt := 28) dX12_layDeep_12 (by decide) (fun c2 => ?_) (fun c2 => ?_)
  · replace h := aw_ifp c2 h
    refine aw_sub [0] rfl ?_
    cases h
    exact hz
  · replace h := aw_ifn c2 h
    refine aw_aload_n (pc := 15) (q := 0) dX12_layDeep_15 rfl ?_
    refine aw_getC (pc := 16) fd_X12_131.r xB_0 rfl dX12_layDeep_16 ?_
    refine aw_iload_n (pc := 19) (q := 1) dX12_layDeep_19 rfl ?_
    refine aw_iconst (pc := 20) (v := 0) dX12_layDeep_20 (by decide) ?_
    obtain ⟨g3, h⟩ := aw_gde h
    refine aw_iast (pc := 21) xB_39 g3 dX12_layDeep_21 ?_
    refine aw_nmS (fun s4 e_s4 => ?_)
    replace h := aw_lte h s4 e_s4
    obtain ⟨x5, e_x5⟩ : ∃ z, z = (v1 + (1 : Int32)) := ⟨_, rfl⟩
    replace h := aw_lte h x5 e_x5
    refine aw_iinc (pc := 22) (q := 1) (v := x5) [(1, .int x5), (0, .ref 0)] dX12_layDeep_22 rfl e_x5.symm (by decide) rfl ?_
    refine aw_goto (pc := 25) (tgt := 7) dX12_layDeep_25 (by decide) ?_
    refine aw_sub [1, 0] rfl ?_
    cases h
    exact hz
set_option maxRecDepth 100000 in
set_option maxHeartbeats 4000000 in
theorem t_Rf_layDeep_J104 {l : Launch} {G : aw_G} {E : aw_E} {σ : aw_S} {v1 : Int32} {v2 : Int32} {k1 : Int32} {k2 : Int32} {k3 : Int32} {t : (aw_S) ⊕ (Int32 × aw_S)} (h : m_Rf_layDeep_J104 σ v1 v2 k1 k2 k3 = some t) (hz : Sum.elim (z_Rf_layDeep_Y66 l G E v1) (z_Rf_layDeep_X66 l G E v1) t) : aw_W l M_Rf_layDeep G B_Rf_layDeep E 104 [(0, .ref 0), (1, .int v1), (2, .int v2)] [.int k3, .int k2, .int k1, .ref 39] xB σ 0 0 := by
  unfold m_Rf_layDeep_J104 at h
  refine aw_iadd (pc := 104) dX12_layDeep_104 ?_
  obtain ⟨g21, h⟩ := aw_gde h
  refine aw_iast (pc := 105) xB_39 g21 dX12_layDeep_105 ?_
  refine aw_nmS (fun s22 e_s22 => ?_)
  replace h := aw_lte h s22 e_s22
  obtain ⟨x23, e_x23⟩ : ∃ z, z = (v2 + (1 : Int32)) := ⟨_, rfl⟩
  replace h := aw_lte h x23 e_x23
  refine aw_iinc (pc := 106) (q := 2) (v := x23) [(2, .int x23), (0, .ref 0), (1, .int v1)] dX12_layDeep_106 rfl e_x23.symm (by decide) rfl ?_
  refine aw_goto (pc := 109) (tgt := 66) dX12_layDeep_109 (by decide) ?_
  refine aw_sub [1, 2, 0] rfl ?_
  cases h
  exact hz
set_option maxRecDepth 100000 in
set_option maxHeartbeats 4000000 in
theorem t_Rf_layDeep_J103 {l : Launch} {G : aw_G} {E : aw_E} {σ : aw_S} {v1 : Int32} {v2 : Int32} {k1 : Int32} {k2 : Int32} {t : (aw_S) ⊕ (Int32 × aw_S)} (h : m_Rf_layDeep_J103 σ v1 v2 k1 k2 = some t) (hz : Sum.elim (z_Rf_layDeep_Y66 l G E v1) (z_Rf_layDeep_X66 l G E v1) t) : aw_W l M_Rf_layDeep G B_Rf_layDeep E 103 [(0, .ref 0), (1, .int v1), (2, .int v2)] [.int k2, .int k1, .ref 39] xB σ 0 0 := by
  unfold m_Rf_layDeep_J103 at h
  refine aw_iconst (pc := 103) (v := 0) dX12_layDeep_103 (by decide) ?_
  exact t_Rf_layDeep_J104 h hz
set_option maxRecDepth 100000 in
set_option maxHeartbeats 4000000 in
theorem t_Rf_layDeep_B66 {l : Launch} {G : aw_G} {E : aw_E} {σ : aw_S} {v1 : Int32} {v2 : Int32} {t : (aw_S) ⊕ (Int32 × aw_S)} (h : m_Rf_layDeep_B66 σ v1 v2 = some t) (hz : Sum.elim (z_Rf_layDeep_Y66 l G E v1) (z_Rf_layDeep_X66 l G E v1) t) : aw_W l M_Rf_layDeep G B_Rf_layDeep E 66 [(0, .ref 0), (1, .int v1), (2, .int v2)] [] xB σ 0 0 := by
  unfold m_Rf_layDeep_B66 at h
  refine aw_iload_n (pc := 66) (q := 2) dX12_layDeep_66 rfl ?_
  refine aw_aload_n (pc := 67) (q := 0) dX12_layDeep_67 rfl ?_
  refine aw_getI (pc := 68) fd_X12_215.r xB_0 rfl dX12_layDeep_68 ?_
  refine aw_icmp_ge (pc := 71) (tgt := 112) dX12_layDeep_71 (by decide) (fun c17 => ?_) (fun c17 => ?_)
  · replace h := aw_ifp c17 h
    refine aw_sub [0, 1] rfl ?_
    cases h
    exact hz
  · replace h := aw_ifn c17 h
    refine aw_aload_n (pc := 74) (q := 0) dX12_layDeep_74 rfl ?_
    refine aw_getC (pc := 75) fd_X12_131.r xB_0 rfl dX12_layDeep_75 ?_
    refine aw_iload_n (pc := 78) (q := 2) dX12_layDeep_78 rfl ?_
    refine aw_dup2 (pc := 79) dX12_layDeep_79 rfl rfl ?_
    obtain ⟨g18, h⟩ := aw_gde h
    refine aw_iald (pc := 80) xB_39 g18 dX12_layDeep_80 ?_
    refine aw_aload_n (pc := 81) (q := 0) dX12_layDeep_81 rfl ?_
    refine aw_getC (pc := 82) fd_X12_128.r xB_0 rfl dX12_layDeep_82 ?_
    refine aw_iload_n (pc := 85) (q := 2) dX12_layDeep_85 rfl ?_
    obtain ⟨g19, h⟩ := aw_gde h
    refine aw_zald (pc := 86) xB_38 g19 dX12_layDeep_86 ?_
    refine aw_if_eq (pc := 87) (tgt := 103) dX12_layDeep_87 (by decide) (fun c20 => ?_) (fun c20 => ?_)
    · replace h := aw_ifp c20 h
      exact t_Rf_layDeep_J103 h hz
    · replace h := aw_ifn c20 h
      refine aw_aload_n (pc := 90) (q := 0) dX12_layDeep_90 rfl ?_
      refine aw_iload_n (pc := 91) (q := 1) dX12_layDeep_91 rfl ?_
      refine aw_iload_n (pc := 92) (q := 2) dX12_layDeep_92 rfl ?_
      obtain ⟨r24, e25, h⟩ := aw_bde h
      refine aw_cV1 (pc := 93) [.int v1, .int v2] (c_Rf_isOver e25) yy_Rf_isOver.1 wm_862 yy_Rf_isOver.2.1 yy_Rf_isOver.2.2 xB_0 ⟨_, _, rfl⟩ rfl ⟨Nat.le_of_ble_eq_true rfl, Nat.le_of_ble_eq_true rfl⟩ ⟨Nat.zero_le _, Nat.zero_le _⟩ (Nat.le_of_ble_eq_true rfl) dX12_layDeep_93 ?_
      refine aw_if_eq (pc := 96) (tgt := 103) dX12_layDeep_96 (by decide) (fun c26 => ?_) (fun c26 => ?_)
      · replace h := aw_ifp c26 h
        exact t_Rf_layDeep_J103 h hz
      · replace h := aw_ifn c26 h
        refine aw_iconst (pc := 99) (v := 1) dX12_layDeep_99 (by decide) ?_
        refine aw_goto (pc := 100) (tgt := 104) dX12_layDeep_100 (by decide) ?_
        exact t_Rf_layDeep_J104 h hz
set_option maxRecDepth 100000 in
set_option maxHeartbeats 4000000 in
theorem t_Rf_layDeep_J112 {l : Launch} {G : aw_G} {E : aw_E} {σ : aw_S} {v1 : Int32} {t : (aw_S) ⊕ (Int32 × aw_S)} (h : m_Rf_layDeep_J112 σ v1 = some t) (hz : Sum.elim (z_Rf_layDeep_Y30 l G E) (z_Rf_layDeep_X30 l G E) t) : aw_W l M_Rf_layDeep G B_Rf_layDeep E 112 [(0, .ref 0), (1, .int v1)] [] xB σ 0 0 := by
  unfold m_Rf_layDeep_J112 at h
  obtain ⟨x30, e_x30⟩ : ∃ z, z = (v1 + (1 : Int32)) := ⟨_, rfl⟩
  replace h := aw_lte h x30 e_x30
  refine aw_iinc (pc := 112) (q := 1) (v := x30) [(1, .int x30), (0, .ref 0)] dX12_layDeep_112 rfl e_x30.symm (by decide) rfl ?_
  refine aw_goto (pc := 115) (tgt := 30) dX12_layDeep_115 (by decide) ?_
  refine aw_sub [1, 0] rfl ?_
  cases h
  exact hz
set_option maxRecDepth 100000 in
set_option maxHeartbeats 4000000 in
theorem t_Rf_layDeep_B30 {l : Launch} {G : aw_G} {E : aw_E} {σ : aw_S} {v1 : Int32} {t : (aw_S) ⊕ (Int32 × aw_S)} (h : m_Rf_layDeep_B30 σ v1 = some t) (hz : Sum.elim (z_Rf_layDeep_Y30 l G E) (z_Rf_layDeep_X30 l G E) t) : aw_W l M_Rf_layDeep G B_Rf_layDeep E 30 [(0, .ref 0), (1, .int v1)] [] xB σ 0 0 := by
  unfold m_Rf_layDeep_B30 at h
  refine aw_iload_n (pc := 30) (q := 1) dX12_layDeep_30 rfl ?_
  refine aw_aload_n (pc := 31) (q := 0) dX12_layDeep_31 rfl ?_
  refine aw_getI (pc := 32) fd_X12_215.r xB_0 rfl dX12_layDeep_32 ?_
  refine aw_icmp_ge (pc := 35) (tgt := 118) dX12_layDeep_35 (by decide) (fun c9 => ?_) (fun c9 => ?_)
  · replace h := aw_ifp c9 h
    refine aw_sub [] rfl ?_
    cases h
    exact hz
  · replace h := aw_ifn c9 h
    refine aw_aload_n (pc := 38) (q := 0) dX12_layDeep_38 rfl ?_
    refine aw_iload_n (pc := 39) (q := 1) dX12_layDeep_39 rfl ?_
    obtain ⟨r10, e11, h⟩ := aw_bde h
    refine aw_cV1 (pc := 40) [.int v1] (c_Rf_isHead e11) yy_Rf_isHead.1 wm_858 yy_Rf_isHead.2.1 yy_Rf_isHead.2.2 xB_0 ⟨_, _, rfl⟩ rfl ⟨Nat.le_of_ble_eq_true rfl, Nat.le_of_ble_eq_true rfl⟩ ⟨Nat.zero_le _, Nat.zero_le _⟩ (Nat.le_of_ble_eq_true rfl) dX12_layDeep_40 ?_
    refine aw_if_ne (pc := 43) (tgt := 49) dX12_layDeep_43 (by decide) (fun c12 => ?_) (fun c12 => ?_)
    · replace h := aw_ifn c12 h
      refine aw_aload_n (pc := 49) (q := 0) dX12_layDeep_49 rfl ?_
      refine aw_dup (pc := 50) dX12_layDeep_50 rfl ?_
      refine aw_getI (pc := 51) fd_X12_466.r xB_0 rfl dX12_layDeep_51 ?_
      refine aw_iconst (pc := 54) (v := 1) dX12_layDeep_54 (by decide) ?_
      refine aw_iadd (pc := 55) dX12_layDeep_55 ?_
      refine aw_putI (pc := 56) fd_X12_466 xB_0 rfl (fun _ => rfl) (fun _ => rfl) dX12_layDeep_56 ?_
      refine aw_nmS (fun s13 e_s13 => ?_)
      replace h := aw_lte h s13 e_s13
      refine aw_aload_n (pc := 59) (q := 0) dX12_layDeep_59 rfl ?_
      refine aw_iload_n (pc := 60) (q := 1) dX12_layDeep_60 rfl ?_
      obtain ⟨s16, e15, h⟩ := aw_bde h
      refine aw_cV0 (pc := 61) [.int v1] (c_Rf_layComing e15) yy_Rf_layComing.1 wm_866 yy_Rf_layComing.2.1 yy_Rf_layComing.2.2 xB_0 ⟨_, _, rfl⟩ rfl ⟨Nat.le_of_ble_eq_true rfl, Nat.le_of_ble_eq_true rfl⟩ ⟨Nat.zero_le _, Nat.zero_le _⟩ (Nat.le_of_ble_eq_true rfl) dX12_layDeep_61 ?_
      refine aw_iconst (pc := 64) (v := 0) dX12_layDeep_64 (by decide) ?_
      refine aw_istore_n (pc := 65) [(2, .int ((0 : Int32))), (0, .ref 0), (1, .int v1)] dX12_layDeep_65 (by decide) rfl ?_
      obtain ⟨x27, hl28, h⟩ := aw_bde h
      have K29 : z_Rf_layDeep_Y66 l G E v1 x27 := by
        show aw_W l M_Rf_layDeep G B_Rf_layDeep E 112 [(0, .ref 0), (1, .int v1)] [] xB x27 0 0
        exact t_Rf_layDeep_J112 h hz
      refine aw_sub [1, 2, 0] rfl ?_
      show z_Rf_layDeep_X66 l G E v1 (((0 : Int32), s16))
      exact aw_lp_X (Xp := z_Rf_layDeep_X66 l G E v1) (Y := z_Rf_layDeep_Y66 l G E v1) hl28 K29 (fun s t hf hz => t_Rf_layDeep_B66 hf hz)
    · replace h := aw_ifp c12 h
      refine aw_goto (pc := 46) (tgt := 112) dX12_layDeep_46 (by decide) ?_
      exact t_Rf_layDeep_J112 h hz
set_option maxRecDepth 100000 in
set_option maxHeartbeats 4000000 in
theorem t_Rf_layDeep {l : Launch} {G : aw_G} {E : aw_E} {σ : aw_S} {t : aw_S} (h : m_Rf_layDeep σ = some t) (hE : E = (none, xB, t)) : aw_W l M_Rf_layDeep G B_Rf_layDeep E 0 [(0, .ref 0)] [] xB σ 0 0 := by
  unfold m_Rf_layDeep at h
  refine aw_aload_n (pc := 0) (q := 0) dX12_layDeep_0 rfl ?_
  refine aw_iconst (pc := 1) (v := 0) dX12_layDeep_1 (by decide) ?_
  refine aw_putI (pc := 2) fd_X12_466 xB_0 rfl (fun _ => rfl) (fun _ => rfl) dX12_layDeep_2 ?_
  refine aw_nmS (fun s1 e_s1 => ?_)
  replace h := aw_lte h s1 e_s1
  refine aw_iconst (pc := 5) (v := 0) dX12_layDeep_5 (by decide) ?_
  refine aw_istore_n (pc := 6) [(1, .int ((0 : Int32))), (0, .ref 0)] dX12_layDeep_6 (by decide) rfl ?_
  obtain ⟨x6, hl7, h⟩ := aw_bde h
  have K8 : z_Rf_layDeep_Y7 l G E x6 := by
    show aw_W l M_Rf_layDeep G B_Rf_layDeep E 28 [(0, .ref 0)] [] xB x6 0 0
    refine aw_iconst (pc := 28) (v := 0) dX12_layDeep_28 (by decide) ?_
    refine aw_istore_n (pc := 29) [(1, .int ((0 : Int32))), (0, .ref 0)] dX12_layDeep_29 (by decide) rfl ?_
    obtain ⟨x31, hl32, h⟩ := aw_bde h
    have K33 : z_Rf_layDeep_Y30 l G E x31 := by
      show aw_W l M_Rf_layDeep G B_Rf_layDeep E 118 [] [] xB x31 0 0
      cases h
      subst hE
      exact aw_vret rfl ⟨Nat.zero_le _, Nat.zero_le _⟩ dX12_layDeep_118
    refine aw_sub [1, 0] rfl ?_
    show z_Rf_layDeep_X30 l G E (((0 : Int32), x6))
    exact aw_lp_X (Xp := z_Rf_layDeep_X30 l G E) (Y := z_Rf_layDeep_Y30 l G E) hl32 K33 (fun s t hf hz => t_Rf_layDeep_B30 hf hz)
  refine aw_sub [1, 0] rfl ?_
  show z_Rf_layDeep_X7 l G E (((0 : Int32), s1))
  exact aw_lp_X (Xp := z_Rf_layDeep_X7 l G E) (Y := z_Rf_layDeep_Y7 l G E) hl7 K8 (fun s t hf hz => t_Rf_layDeep_B7 hf hz)
theorem c_Rf_layDeep {l : Launch} {G : aw_G} {σ : aw_S} {t : aw_S} (h : m_Rf_layDeep σ = some t) : aw_Ct l yX12_layDeep M_Rf_layDeep G B_Rf_layDeep [.ref 0] xB σ (none, xB, t) := aw_Ct_of (by decide) rfl (fun h => by cases h) (Nat.le_of_ble_eq_true rfl) (t_Rf_layDeep h rfl)
/-! LateMoverModel.lay()V -/
def z_Rf_lay_X40 (l : Launch) (G : aw_G) (E : aw_E) (s : Int32 × aw_S) : Prop := aw_W l M_Rf_lay G B_Rf_lay E 40 [(0, .ref 0), (1, .int s.1)] [] xB s.2 0 0
def z_Rf_lay_Y40 (l : Launch) (G : aw_G) (E : aw_E) (x : (aw_S)) : Prop := aw_W l M_Rf_lay G B_Rf_lay E 60 [(0, .ref 0)] [] xB x 0 0
set_option maxRecDepth 100000 in
set_option maxHeartbeats 4000000 in
theorem t_Rf_lay_B40 {l : Launch} {G : aw_G} {E : aw_E} {σ : aw_S} {v1 : Int32} {t : (aw_S) ⊕ (Int32 × aw_S)} (h : m_Rf_lay_B40 σ v1 = some t) (hz : Sum.elim (z_Rf_lay_Y40 l G E) (z_Rf_lay_X40 l G E) t) : aw_W l M_Rf_lay G B_Rf_lay E 40 [(0, .ref 0), (1, .int v1)] [] xB σ 0 0 := by
  unfold m_Rf_lay_B40 at h
  refine aw_iload_n (pc := 40) (q := 1) dX12_lay_40 rfl ?_
  refine aw_aload_n (pc := 41) (q := 0) dX12_lay_41 rfl ?_
  refine aw_iconst (pc := 42) (v := 2) dX12_lay_42 (by decide) ?_
  obtain ⟨r23, e24, h⟩ := aw_bde h
  refine aw_cV1 (pc := 43) [.int ((2 : Int32))] (c_Rf_get e24) yy_Rf_get.1 wm_736 yy_Rf_get.2.1 yy_Rf_get.2.2 xB_0 ⟨_, _, rfl⟩ rfl ⟨Nat.le_of_ble_eq_true rfl, Nat.le_of_ble_eq_true rfl⟩ ⟨Nat.zero_le _, Nat.zero_le _⟩ (Nat.le_of_ble_eq_true rfl) dX12_lay_43 ?_
  refine aw_icmp_ge (pc := 46) (tgt := 60) dX12_lay_46 (by decide) (fun c25 => ?_) (fun c25 => ?_)
  · replace h := aw_ifp c25 h
    refine aw_sub [0] rfl ?_
    cases h
    exact hz
  · replace h := aw_ifn c25 h
    refine aw_aload_n (pc := 49) (q := 0) dX12_lay_49 rfl ?_
    refine aw_iload_n (pc := 50) (q := 1) dX12_lay_50 rfl ?_
    obtain ⟨s28, e27, h⟩ := aw_bde h
    refine aw_cV0 (pc := 51) [.int v1] (c_Rf_layFacts e27) yy_Rf_layFacts.1 wm_768 yy_Rf_layFacts.2.1 yy_Rf_layFacts.2.2 xB_0 ⟨_, _, rfl⟩ rfl ⟨Nat.le_of_ble_eq_true rfl, Nat.le_of_ble_eq_true rfl⟩ ⟨Nat.zero_le _, Nat.zero_le _⟩ (Nat.le_of_ble_eq_true rfl) dX12_lay_51 ?_
    obtain ⟨x29, e_x29⟩ : ∃ z, z = (v1 + (1 : Int32)) := ⟨_, rfl⟩
    replace h := aw_lte h x29 e_x29
    refine aw_iinc (pc := 54) (q := 1) (v := x29) [(1, .int x29), (0, .ref 0)] dX12_lay_54 rfl e_x29.symm (by decide) rfl ?_
    refine aw_goto (pc := 57) (tgt := 40) dX12_lay_57 (by decide) ?_
    refine aw_sub [1, 0] rfl ?_
    cases h
    exact hz
set_option maxRecDepth 100000 in
set_option maxHeartbeats 4000000 in
theorem t_Rf_lay {l : Launch} {G : aw_G} {E : aw_E} {σ : aw_S} {t : aw_S} (h : m_Rf_lay σ = some t) (hE : E = (none, xB, t)) : aw_W l M_Rf_lay G B_Rf_lay E 0 [(0, .ref 0)] [] xB σ 0 0 := by
  unfold m_Rf_lay at h
  refine aw_aload_n (pc := 0) (q := 0) dX12_lay_0 rfl ?_
  refine aw_iconst (pc := 1) (v := 1) dX12_lay_1 (by decide) ?_
  refine aw_putI (pc := 2) fd_X12_231 xB_0 rfl (fun _ => aw_n1) (fun _ => aw_fz (Or.inr rfl)) dX12_lay_2 ?_
  refine aw_nmS (fun s1 e_s1 => ?_)
  replace h := aw_lte h s1 e_s1
  refine aw_aload_n (pc := 5) (q := 0) dX12_lay_5 rfl ?_
  refine aw_iconst (pc := 6) (v := 0) dX12_lay_6 (by decide) ?_
  refine aw_putI (pc := 7) fd_X12_235 xB_0 rfl (fun _ => aw_n0) (fun _ => aw_fz (Or.inl rfl)) dX12_lay_7 ?_
  refine aw_nmS (fun s2 e_s2 => ?_)
  replace h := aw_lte h s2 e_s2
  refine aw_aload_n (pc := 10) (q := 0) dX12_lay_10 rfl ?_
  obtain ⟨s5, e4, h⟩ := aw_bde h
  refine aw_cV0 (pc := 11) [] (c_Rf_layCome e4) yy_Rf_layCome.1 wm_732 yy_Rf_layCome.2.1 yy_Rf_layCome.2.2 xB_0 ⟨_, _, rfl⟩ rfl ⟨Nat.le_of_ble_eq_true rfl, Nat.le_of_ble_eq_true rfl⟩ ⟨Nat.zero_le _, Nat.zero_le _⟩ (Nat.le_of_ble_eq_true rfl) dX12_lay_11 ?_
  refine aw_aload_n (pc := 14) (q := 0) dX12_lay_14 rfl ?_
  obtain ⟨s8, e7, h⟩ := aw_bde h
  refine aw_cV0 (pc := 15) [] (c_Rf_layNodes e7) yy_Rf_layNodes.1 wm_740 yy_Rf_layNodes.2.1 yy_Rf_layNodes.2.2 xB_0 ⟨_, _, rfl⟩ rfl ⟨Nat.le_of_ble_eq_true rfl, Nat.le_of_ble_eq_true rfl⟩ ⟨Nat.zero_le _, Nat.zero_le _⟩ (Nat.le_of_ble_eq_true rfl) dX12_lay_15 ?_
  refine aw_aload_n (pc := 18) (q := 0) dX12_lay_18 rfl ?_
  obtain ⟨s11, e10, h⟩ := aw_bde h
  refine aw_cV0 (pc := 19) [] (c_Rf_countCome e10) yy_Rf_countCome.1 wm_752 yy_Rf_countCome.2.1 yy_Rf_countCome.2.2 xB_0 ⟨_, _, rfl⟩ rfl ⟨Nat.le_of_ble_eq_true rfl, Nat.le_of_ble_eq_true rfl⟩ ⟨Nat.zero_le _, Nat.zero_le _⟩ (Nat.le_of_ble_eq_true rfl) dX12_lay_19 ?_
  refine aw_aload_n (pc := 22) (q := 0) dX12_lay_22 rfl ?_
  obtain ⟨s14, e13, h⟩ := aw_bde h
  refine aw_cV0 (pc := 23) [] (c_Rf_split e13) yy_Rf_split.1 wm_756 yy_Rf_split.2.1 yy_Rf_split.2.2 xB_0 ⟨_, _, rfl⟩ rfl ⟨Nat.le_of_ble_eq_true rfl, Nat.le_of_ble_eq_true rfl⟩ ⟨Nat.zero_le _, Nat.zero_le _⟩ (Nat.le_of_ble_eq_true rfl) dX12_lay_23 ?_
  refine aw_aload_n (pc := 26) (q := 0) dX12_lay_26 rfl ?_
  obtain ⟨s17, e16, h⟩ := aw_bde h
  refine aw_cV0 (pc := 27) [] (c_Rf_countCome e16) yy_Rf_countCome.1 wm_752 yy_Rf_countCome.2.1 yy_Rf_countCome.2.2 xB_0 ⟨_, _, rfl⟩ rfl ⟨Nat.le_of_ble_eq_true rfl, Nat.le_of_ble_eq_true rfl⟩ ⟨Nat.zero_le _, Nat.zero_le _⟩ (Nat.le_of_ble_eq_true rfl) dX12_lay_27 ?_
  refine aw_aload_n (pc := 30) (q := 0) dX12_lay_30 rfl ?_
  refine aw_aload_n (pc := 31) (q := 0) dX12_lay_31 rfl ?_
  obtain ⟨r18, s20, e19, h⟩ := aw_bd2e h
  refine aw_cV1 (pc := 32) [] (c_Rf_areAllLeading e19) yy_Rf_areAllLeading.1 wm_760 yy_Rf_areAllLeading.2.1 yy_Rf_areAllLeading.2.2 xB_0 ⟨_, _, rfl⟩ rfl ⟨Nat.le_of_ble_eq_true rfl, Nat.le_of_ble_eq_true rfl⟩ ⟨Nat.zero_le _, Nat.zero_le _⟩ (Nat.le_of_ble_eq_true rfl) dX12_lay_32 ?_
  obtain ⟨g22, h⟩ := aw_gde h
  refine aw_putI (pc := 35) fd_X12_253 xB_0 rfl (fun _ => aw_nz g22) (fun _ => aw_fz g22) dX12_lay_35 ?_
  refine aw_nmS (fun s21 e_s21 => ?_)
  replace h := aw_lte h s21 e_s21
  refine aw_iconst (pc := 38) (v := 0) dX12_lay_38 (by decide) ?_
  refine aw_istore_n (pc := 39) [(1, .int ((0 : Int32))), (0, .ref 0)] dX12_lay_39 (by decide) rfl ?_
  obtain ⟨x30, hl31, h⟩ := aw_bde h
  have K32 : z_Rf_lay_Y40 l G E x30 := by
    show aw_W l M_Rf_lay G B_Rf_lay E 60 [(0, .ref 0)] [] xB x30 0 0
    refine aw_aload_n (pc := 60) (q := 0) dX12_lay_60 rfl ?_
    obtain ⟨s35, e34, h⟩ := aw_bde h
    refine aw_cV0 (pc := 61) [] (c_Rf_layLive e34) yy_Rf_layLive.1 wm_834 yy_Rf_layLive.2.1 yy_Rf_layLive.2.2 xB_0 ⟨_, _, rfl⟩ rfl ⟨Nat.le_of_ble_eq_true rfl, Nat.le_of_ble_eq_true rfl⟩ ⟨Nat.zero_le _, Nat.zero_le _⟩ (Nat.le_of_ble_eq_true rfl) dX12_lay_61 ?_
    refine aw_aload_n (pc := 64) (q := 0) dX12_lay_64 rfl ?_
    obtain ⟨s38, e37, h⟩ := aw_bde h
    refine aw_cV0 (pc := 65) [] (c_Rf_layOver e37) yy_Rf_layOver.1 wm_849 yy_Rf_layOver.2.1 yy_Rf_layOver.2.2 xB_0 ⟨_, _, rfl⟩ rfl ⟨Nat.le_of_ble_eq_true rfl, Nat.le_of_ble_eq_true rfl⟩ ⟨Nat.zero_le _, Nat.zero_le _⟩ (Nat.le_of_ble_eq_true rfl) dX12_lay_65 ?_
    refine aw_aload_n (pc := 68) (q := 0) dX12_lay_68 rfl ?_
    obtain ⟨s41, e40, h⟩ := aw_bde h
    refine aw_cV0 (pc := 69) [] (c_Rf_layDeep e40) yy_Rf_layDeep.1 wm_853 yy_Rf_layDeep.2.1 yy_Rf_layDeep.2.2 xB_0 ⟨_, _, rfl⟩ rfl ⟨Nat.le_of_ble_eq_true rfl, Nat.le_of_ble_eq_true rfl⟩ ⟨Nat.zero_le _, Nat.zero_le _⟩ (Nat.le_of_ble_eq_true rfl) dX12_lay_69 ?_
    cases h
    subst hE
    exact aw_vret rfl ⟨Nat.zero_le _, Nat.zero_le _⟩ dX12_lay_72
  refine aw_sub [1, 0] rfl ?_
  show z_Rf_lay_X40 l G E (((0 : Int32), s21))
  exact aw_lp_X (Xp := z_Rf_lay_X40 l G E) (Y := z_Rf_lay_Y40 l G E) hl31 K32 (fun s t hf hz => t_Rf_lay_B40 hf hz)
theorem c_Rf_lay {l : Launch} {G : aw_G} {σ : aw_S} {t : aw_S} (h : m_Rf_lay σ = some t) : aw_Ct l yX12_lay M_Rf_lay G B_Rf_lay [.ref 0] xB σ (none, xB, t) := aw_Ct_of (by decide) rfl (fun h => by cases h) (Nat.le_of_ble_eq_true rfl) (t_Rf_lay h rfl)
/-! LateMoverModel.program()I -/
set_option maxRecDepth 100000 in
set_option maxHeartbeats 4000000 in
theorem t_Rf_program {l : Launch} {G : aw_G} {E : aw_E} {σ : aw_S} {t : (Int32 × aw_S)} (h : m_Rf_program σ = some t) (hE : E = (some (.int t.1), xB, t.2)) : aw_W l M_Rf_program G B_Rf_program E 0 [(0, .ref 0)] [] xB σ 0 0 := by
  unfold m_Rf_program at h
  refine aw_aload_n (pc := 0) (q := 0) dX12_program_0 rfl ?_
  obtain ⟨r1, s3, e2, h⟩ := aw_bd2e h
  refine aw_cV1 (pc := 1) [] (c_Rf_readProgram e2) yy_Rf_readProgram.1 wm_654 yy_Rf_readProgram.2.1 yy_Rf_readProgram.2.2 xB_0 ⟨_, _, rfl⟩ rfl ⟨Nat.le_of_ble_eq_true rfl, Nat.le_of_ble_eq_true rfl⟩ ⟨Nat.zero_le _, Nat.zero_le _⟩ (Nat.le_of_ble_eq_true rfl) dX12_program_1 ?_
  refine aw_istore_n (pc := 4) [(1, .int r1), (0, .ref 0)] dX12_program_4 (by decide) rfl ?_
  refine aw_aload_n (pc := 5) (q := 1) dX12_program_5 rfl ?_
  refine aw_iconst (pc := 6) (v := 0) dX12_program_6 (by decide) ?_
  refine aw_putI (pc := 7) fd_X12_134 xB_0 rfl (fun _ => rfl) (fun _ => rfl) dX12_program_7 ?_
  refine aw_nmS (fun s4 e_s4 => ?_)
  replace h := aw_lte h s4 e_s4
  refine aw_iload_n (pc := 10) (q := 0) dX12_program_10 rfl ?_
  refine aw_if_ne (pc := 11) (tgt := 16) dX12_program_11 (by decide) (fun c5 => ?_) (fun c5 => ?_)
  · replace h := aw_ifn c5 h
    refine aw_aload_n (pc := 16) (q := 1) dX12_program_16 rfl ?_
    refine aw_iconst (pc := 17) (v := 4) dX12_program_17 (by decide) ?_
    refine aw_iconst (pc := 18) (v := 0) dX12_program_18 (by decide) ?_
    obtain ⟨s8, e7, h⟩ := aw_bde h
    refine aw_cV0 (pc := 19) [.int ((4 : Int32)), .int ((0 : Int32))] (c_Rf_copyRow e7) yy_Rf_copyRow.1 wm_721 yy_Rf_copyRow.2.1 yy_Rf_copyRow.2.2 xB_0 ⟨_, _, rfl⟩ rfl ⟨Nat.le_of_ble_eq_true rfl, Nat.le_of_ble_eq_true rfl⟩ ⟨Nat.zero_le _, Nat.zero_le _⟩ (Nat.le_of_ble_eq_true rfl) dX12_program_19 ?_
    refine aw_aload_n (pc := 22) (q := 1) dX12_program_22 rfl ?_
    obtain ⟨s11, e10, h⟩ := aw_bde h
    refine aw_cV0 (pc := 23) [] (c_Rf_lay e10) yy_Rf_lay.1 wm_725 yy_Rf_lay.2.1 yy_Rf_lay.2.2 xB_0 ⟨_, _, rfl⟩ rfl ⟨Nat.le_of_ble_eq_true rfl, Nat.le_of_ble_eq_true rfl⟩ ⟨Nat.zero_le _, Nat.zero_le _⟩ (Nat.le_of_ble_eq_true rfl) dX12_program_23 ?_
    refine aw_aload_n (pc := 26) (q := 1) dX12_program_26 rfl ?_
    refine aw_getI (pc := 27) fd_X12_215.r xB_0 rfl dX12_program_27 ?_
    cases h
    subst hE
    exact aw_iret (v := (s11.1 0 14)) rfl aw_ni ⟨Nat.zero_le _, Nat.zero_le _⟩ dX12_program_30
  · replace h := aw_ifp c5 h
    refine aw_iconst (pc := 14) (v := -1) dX12_program_14 (by decide) ?_
    cases h
    subst hE
    exact aw_iret (v := (-1 : Int32)) rfl aw_ni ⟨Nat.zero_le _, Nat.zero_le _⟩ dX12_program_15
theorem c_Rf_program {l : Launch} {G : aw_G} {σ : aw_S} {t : (Int32 × aw_S)} (h : m_Rf_program σ = some t) : aw_Ct l yX12_program M_Rf_program G B_Rf_program [.ref 0] xB σ (some (.int t.1), xB, t.2) := aw_Ct_of (by decide) rfl (fun h => by cases h) (Nat.le_of_ble_eq_true rfl) (t_Rf_program h rfl)
/-! LateMoverModel.fault()I -/
set_option maxRecDepth 100000 in
set_option maxHeartbeats 4000000 in
theorem t_Rf_fault {l : Launch} {G : aw_G} {E : aw_E} {σ : aw_S} {t : Int32} (h : m_Rf_fault σ = some t) (hE : E = (some (.int t), xB, σ)) : aw_W l M_Rf_fault G B_Rf_fault E 0 [(0, .ref 0)] [] xB σ 0 0 := by
  unfold m_Rf_fault at h
  refine aw_aload_n (pc := 0) (q := 0) dX12_fault_0 rfl ?_
  refine aw_getI (pc := 1) fd_X12_17.r xB_0 rfl dX12_fault_1 ?_
  cases h
  subst hE
  exact aw_iret (v := (σ.1 0 4)) rfl aw_ni ⟨Nat.zero_le _, Nat.zero_le _⟩ dX12_fault_4
theorem c_Rf_fault {l : Launch} {G : aw_G} {σ : aw_S} {t : Int32} (h : m_Rf_fault σ = some t) : aw_Ct l yX12_fault M_Rf_fault G B_Rf_fault [.ref 0] xB σ (some (.int t), xB, σ) := aw_Ct_of (by decide) rfl (fun h => by cases h) (Nat.le_of_ble_eq_true rfl) (t_Rf_fault h rfl)
/-! LateMoverModel.edges()I -/
def z_Rf_edges_X4 (l : Launch) (G : aw_G) (E : aw_E) (σ : aw_S) (s : Int32 × Int32) : Prop := aw_W l M_Rf_edges G B_Rf_edges E 4 [(0, .ref 0), (1, .int s.1), (2, .int s.2)] [] xB σ 0 0
def z_Rf_edges_Y4 (l : Launch) (G : aw_G) (E : aw_E) (σ : aw_S) (x : (Int32)) : Prop := aw_W l M_Rf_edges G B_Rf_edges E 27 [(1, .int x)] [] xB σ 0 0
set_option maxRecDepth 100000 in
set_option maxHeartbeats 4000000 in
theorem t_Rf_edges_B4 {l : Launch} {G : aw_G} {E : aw_E} {σ : aw_S} {v1 : Int32} {v2 : Int32} {t : (Int32) ⊕ (Int32 × Int32)} (h : m_Rf_edges_B4 σ v1 v2 = some t) (hz : Sum.elim (z_Rf_edges_Y4 l G E σ) (z_Rf_edges_X4 l G E σ) t) : aw_W l M_Rf_edges G B_Rf_edges E 4 [(0, .ref 0), (1, .int v1), (2, .int v2)] [] xB σ 0 0 := by
  unfold m_Rf_edges_B4 at h
  refine aw_iload_n (pc := 4) (q := 2) dX12_edges_4 rfl ?_
  refine aw_aload_n (pc := 5) (q := 0) dX12_edges_5 rfl ?_
  refine aw_getI (pc := 6) fd_X12_215.r xB_0 rfl dX12_edges_6 ?_
  refine aw_icmp_ge (pc := 9) (tgt := 27) dX12_edges_9 (by decide) (fun c1 => ?_) (fun c1 => ?_)
  · replace h := aw_ifp c1 h
    refine aw_sub [1] rfl ?_
    cases h
    exact hz
  · replace h := aw_ifn c1 h
    refine aw_iload_n (pc := 12) (q := 1) dX12_edges_12 rfl ?_
    refine aw_aload_n (pc := 13) (q := 0) dX12_edges_13 rfl ?_
    refine aw_getC (pc := 14) fd_X12_36.r xB_0 rfl dX12_edges_14 ?_
    refine aw_iload_n (pc := 17) (q := 2) dX12_edges_17 rfl ?_
    obtain ⟨g2, h⟩ := aw_gde h
    refine aw_iald (pc := 18) xB_8 g2 dX12_edges_18 ?_
    refine aw_iadd (pc := 19) dX12_edges_19 ?_
    refine aw_nmI (fun x3 e_x3 => ?_)
    replace h := aw_lte h x3 e_x3
    refine aw_istore_n (pc := 20) [(1, .int x3), (0, .ref 0), (2, .int v2)] dX12_edges_20 (by decide) rfl ?_
    obtain ⟨x4, e_x4⟩ : ∃ z, z = (v2 + (1 : Int32)) := ⟨_, rfl⟩
    replace h := aw_lte h x4 e_x4
    refine aw_iinc (pc := 21) (q := 2) (v := x4) [(2, .int x4), (1, .int x3), (0, .ref 0)] dX12_edges_21 rfl e_x4.symm (by decide) rfl ?_
    refine aw_goto (pc := 24) (tgt := 4) dX12_edges_24 (by decide) ?_
    refine aw_sub [2, 1, 0] rfl ?_
    cases h
    exact hz
set_option maxRecDepth 100000 in
set_option maxHeartbeats 4000000 in
theorem t_Rf_edges {l : Launch} {G : aw_G} {E : aw_E} {σ : aw_S} {t : Int32} (h : m_Rf_edges σ = some t) (hE : E = (some (.int t), xB, σ)) : aw_W l M_Rf_edges G B_Rf_edges E 0 [(0, .ref 0)] [] xB σ 0 0 := by
  unfold m_Rf_edges at h
  refine aw_iconst (pc := 0) (v := 0) dX12_edges_0 (by decide) ?_
  refine aw_istore_n (pc := 1) [(1, .int ((0 : Int32))), (0, .ref 0)] dX12_edges_1 (by decide) rfl ?_
  refine aw_iconst (pc := 2) (v := 0) dX12_edges_2 (by decide) ?_
  refine aw_istore_n (pc := 3) [(2, .int ((0 : Int32))), (1, .int ((0 : Int32))), (0, .ref 0)] dX12_edges_3 (by decide) rfl ?_
  obtain ⟨x5, hl6, h⟩ := aw_bde h
  have K7 : z_Rf_edges_Y4 l G E σ x5 := by
    show aw_W l M_Rf_edges G B_Rf_edges E 27 [(1, .int x5)] [] xB σ 0 0
    refine aw_iload_n (pc := 27) (q := 0) dX12_edges_27 rfl ?_
    cases h
    subst hE
    exact aw_iret (v := _) rfl aw_ni ⟨Nat.zero_le _, Nat.zero_le _⟩ dX12_edges_28
  refine aw_sub [2, 1, 0] rfl ?_
  show z_Rf_edges_X4 l G E σ (((0 : Int32), (0 : Int32)))
  exact aw_lp_X (Xp := z_Rf_edges_X4 l G E σ) (Y := z_Rf_edges_Y4 l G E σ) hl6 K7 (fun s t hf hz => t_Rf_edges_B4 hf hz)
theorem c_Rf_edges {l : Launch} {G : aw_G} {σ : aw_S} {t : Int32} (h : m_Rf_edges σ = some t) : aw_Ct l yX12_edges M_Rf_edges G B_Rf_edges [.ref 0] xB σ (some (.int t), xB, σ) := aw_Ct_of (by decide) rfl (fun h => by cases h) (Nat.le_of_ble_eq_true rfl) (t_Rf_edges h rfl)
/-! LateMoverModel.countNodes(I)I -/
def z_Rf_countNodes_X4 (l : Launch) (G : aw_G) (E : aw_E) (σ : aw_S) (v1 : Int32) (s : Int32 × Int32) : Prop := aw_W l M_Rf_countNodes G B_Rf_countNodes E 4 [(0, .ref 0), (1, .int v1), (2, .int s.1), (3, .int s.2)] [] xB σ 0 0
def z_Rf_countNodes_Y4 (l : Launch) (G : aw_G) (E : aw_E) (σ : aw_S) (v1 : Int32) (x : (Int32)) : Prop := aw_W l M_Rf_countNodes G B_Rf_countNodes E 57 [(2, .int x)] [] xB σ 0 0
set_option maxRecDepth 100000 in
set_option maxHeartbeats 4000000 in
theorem t_Rf_countNodes_J49 {l : Launch} {G : aw_G} {E : aw_E} {σ : aw_S} {v1 : Int32} {v3 : Int32} {k0 : Int32} {k1 : Int32} {t : (Int32) ⊕ (Int32 × Int32)} (h : m_Rf_countNodes_J49 σ v1 v3 k0 k1 = some t) (hz : Sum.elim (z_Rf_countNodes_Y4 l G E σ v1) (z_Rf_countNodes_X4 l G E σ v1) t) : aw_W l M_Rf_countNodes G B_Rf_countNodes E 49 [(0, .ref 0), (1, .int v1), (3, .int v3)] [.int k1, .int k0] xB σ 0 0 := by
  unfold m_Rf_countNodes_J49 at h
  refine aw_iadd (pc := 49) dX12_countNodes_49 ?_
  refine aw_nmI (fun x5 e_x5 => ?_)
  replace h := aw_lte h x5 e_x5
  refine aw_istore_n (pc := 50) [(2, .int x5), (0, .ref 0), (1, .int v1), (3, .int v3)] dX12_countNodes_50 (by decide) rfl ?_
  obtain ⟨x6, e_x6⟩ : ∃ z, z = (v3 + (1 : Int32)) := ⟨_, rfl⟩
  replace h := aw_lte h x6 e_x6
  refine aw_iinc (pc := 51) (q := 3) (v := x6) [(3, .int x6), (2, .int x5), (0, .ref 0), (1, .int v1)] dX12_countNodes_51 rfl e_x6.symm (by decide) rfl ?_
  refine aw_goto (pc := 54) (tgt := 4) dX12_countNodes_54 (by decide) ?_
  refine aw_sub [2, 3, 1, 0] rfl ?_
  cases h
  exact hz
set_option maxRecDepth 100000 in
set_option maxHeartbeats 4000000 in
theorem t_Rf_countNodes_B4 {l : Launch} {G : aw_G} {E : aw_E} {σ : aw_S} {v1 : Int32} {v2 : Int32} {v3 : Int32} {t : (Int32) ⊕ (Int32 × Int32)} (h : m_Rf_countNodes_B4 σ v1 v2 v3 = some t) (hz : Sum.elim (z_Rf_countNodes_Y4 l G E σ v1) (z_Rf_countNodes_X4 l G E σ v1) t) : aw_W l M_Rf_countNodes G B_Rf_countNodes E 4 [(0, .ref 0), (1, .int v1), (2, .int v2), (3, .int v3)] [] xB σ 0 0 := by
  unfold m_Rf_countNodes_B4 at h
  refine aw_iload_n (pc := 4) (q := 3) dX12_countNodes_4 rfl ?_
  refine aw_aload_n (pc := 5) (q := 0) dX12_countNodes_5 rfl ?_
  refine aw_getI (pc := 6) fd_X12_215.r xB_0 rfl dX12_countNodes_6 ?_
  refine aw_icmp_ge (pc := 9) (tgt := 57) dX12_countNodes_9 (by decide) (fun c1 => ?_) (fun c1 => ?_)
  · replace h := aw_ifp c1 h
    refine aw_sub [2] rfl ?_
    cases h
    exact hz
  · replace h := aw_ifn c1 h
    refine aw_iload_n (pc := 12) (q := 2) dX12_countNodes_12 rfl ?_
    refine aw_iload_n (pc := 13) (q := 1) dX12_countNodes_13 rfl ?_
    refine aw_iconst (pc := 14) (v := -1) dX12_countNodes_14 (by decide) ?_
    refine aw_icmp_ne (pc := 15) (tgt := 34) dX12_countNodes_15 (by decide) (fun c2 => ?_) (fun c2 => ?_)
    · replace h := aw_ifn c2 h
      refine aw_aload_n (pc := 34) (q := 0) dX12_countNodes_34 rfl ?_
      refine aw_getC (pc := 35) fd_X12_24.r xB_0 rfl dX12_countNodes_35 ?_
      refine aw_iload_n (pc := 38) (q := 3) dX12_countNodes_38 rfl ?_
      obtain ⟨g3, h⟩ := aw_gde h
      refine aw_iald (pc := 39) xB_4 g3 dX12_countNodes_39 ?_
      refine aw_iload_n (pc := 40) (q := 1) dX12_countNodes_40 rfl ?_
      refine aw_icmp_ne (pc := 41) (tgt := 48) dX12_countNodes_41 (by decide) (fun c4 => ?_) (fun c4 => ?_)
      · replace h := aw_ifn c4 h
        refine aw_iconst (pc := 48) (v := 0) dX12_countNodes_48 (by decide) ?_
        refine aw_sub [0, 1, 3] rfl ?_
        exact t_Rf_countNodes_J49 h hz
      · replace h := aw_ifp c4 h
        refine aw_iconst (pc := 44) (v := 1) dX12_countNodes_44 (by decide) ?_
        refine aw_goto (pc := 45) (tgt := 49) dX12_countNodes_45 (by decide) ?_
        refine aw_sub [0, 1, 3] rfl ?_
        exact t_Rf_countNodes_J49 h hz
    · replace h := aw_ifp c2 h
      refine aw_aload_n (pc := 18) (q := 0) dX12_countNodes_18 rfl ?_
      refine aw_iload_n (pc := 19) (q := 3) dX12_countNodes_19 rfl ?_
      obtain ⟨r7, e8, h⟩ := aw_bde h
      refine aw_cV1 (pc := 20) [.int v3] (c_Rf_isLast e8) yy_Rf_isLast.1 wm_764 yy_Rf_isLast.2.1 yy_Rf_isLast.2.2 xB_0 ⟨_, _, rfl⟩ rfl ⟨Nat.le_of_ble_eq_true rfl, Nat.le_of_ble_eq_true rfl⟩ ⟨Nat.zero_le _, Nat.zero_le _⟩ (Nat.le_of_ble_eq_true rfl) dX12_countNodes_20 ?_
      refine aw_if_eq (pc := 23) (tgt := 30) dX12_countNodes_23 (by decide) (fun c9 => ?_) (fun c9 => ?_)
      · replace h := aw_ifp c9 h
        refine aw_iconst (pc := 30) (v := 0) dX12_countNodes_30 (by decide) ?_
        refine aw_goto (pc := 31) (tgt := 49) dX12_countNodes_31 (by decide) ?_
        refine aw_sub [0, 1, 3] rfl ?_
        exact t_Rf_countNodes_J49 h hz
      · replace h := aw_ifn c9 h
        refine aw_iconst (pc := 26) (v := 1) dX12_countNodes_26 (by decide) ?_
        refine aw_goto (pc := 27) (tgt := 49) dX12_countNodes_27 (by decide) ?_
        refine aw_sub [0, 1, 3] rfl ?_
        exact t_Rf_countNodes_J49 h hz
set_option maxRecDepth 100000 in
set_option maxHeartbeats 4000000 in
theorem t_Rf_countNodes {l : Launch} {G : aw_G} {E : aw_E} {σ : aw_S} {p1 : Int32} {t : Int32} (h : m_Rf_countNodes σ p1 = some t) (hE : E = (some (.int t), xB, σ)) : aw_W l M_Rf_countNodes G B_Rf_countNodes E 0 [(0, .ref 0), (1, .int p1)] [] xB σ 0 0 := by
  unfold m_Rf_countNodes at h
  refine aw_iconst (pc := 0) (v := 0) dX12_countNodes_0 (by decide) ?_
  refine aw_istore_n (pc := 1) [(2, .int ((0 : Int32))), (0, .ref 0), (1, .int p1)] dX12_countNodes_1 (by decide) rfl ?_
  refine aw_iconst (pc := 2) (v := 0) dX12_countNodes_2 (by decide) ?_
  refine aw_istore_n (pc := 3) [(3, .int ((0 : Int32))), (2, .int ((0 : Int32))), (0, .ref 0), (1, .int p1)] dX12_countNodes_3 (by decide) rfl ?_
  obtain ⟨x10, hl11, h⟩ := aw_bde h
  have K12 : z_Rf_countNodes_Y4 l G E σ p1 x10 := by
    show aw_W l M_Rf_countNodes G B_Rf_countNodes E 57 [(2, .int x10)] [] xB σ 0 0
    refine aw_iload_n (pc := 57) (q := 0) dX12_countNodes_57 rfl ?_
    cases h
    subst hE
    exact aw_iret (v := _) rfl aw_ni ⟨Nat.zero_le _, Nat.zero_le _⟩ dX12_countNodes_58
  refine aw_sub [2, 3, 1, 0] rfl ?_
  show z_Rf_countNodes_X4 l G E σ p1 (((0 : Int32), (0 : Int32)))
  exact aw_lp_X (Xp := z_Rf_countNodes_X4 l G E σ p1) (Y := z_Rf_countNodes_Y4 l G E σ p1) hl11 K12 (fun s t hf hz => t_Rf_countNodes_B4 hf hz)
theorem c_Rf_countNodes {l : Launch} {G : aw_G} {σ : aw_S} {p1 : Int32} {t : Int32} (h : m_Rf_countNodes σ p1 = some t) : aw_Ct l yX12_countNodes M_Rf_countNodes G B_Rf_countNodes [.ref 0, .int p1] xB σ (some (.int t), xB, σ) := aw_Ct_of (by decide) rfl (fun h => by cases h) (Nat.le_of_ble_eq_true rfl) (t_Rf_countNodes h rfl)
/-! LateMoverModel.is(I)I -/
set_option maxRecDepth 100000 in
set_option maxHeartbeats 4000000 in
theorem t_Rf_is {l : Launch} {G : aw_G} {E : aw_E} {σ : aw_S} {p1 : Int32} {t : Int32} (h : m_Rf_is σ p1 = some t) (hE : E = (some (.int t), xB, σ)) : aw_W l M_Rf_is G B_Rf_is E 0 [(0, .ref 0), (1, .int p1)] [] xB σ 0 0 := by
  unfold m_Rf_is at h
  refine aw_iload_n (pc := 0) (q := 1) dX12_is_0 rfl ?_
  by_cases c1 : p1 = (0 : Int32)
  · replace h := aw_ifp c1 h
    refine aw_tableIn (pc := 1) (tgt := 48) dX12_is_1 0 (by rw [c1]; decide) (by decide) rfl (by decide) ?_
    refine aw_aload_n (pc := 48) (q := 0) dX12_is_48 rfl ?_
    refine aw_getI (pc := 49) fd_X12_231.r xB_0 rfl dX12_is_49 ?_
    refine aw_if_eq (pc := 52) (tgt := 63) dX12_is_52 (by decide) (fun c2 => ?_) (fun c2 => ?_)
    · replace h := aw_ifp c2 h
      refine aw_iconst (pc := 63) (v := 0) dX12_is_63 (by decide) ?_
      cases h
      subst hE
      exact aw_iret (v := (0 : Int32)) rfl aw_ni ⟨Nat.zero_le _, Nat.zero_le _⟩ dX12_is_64
    · replace h := aw_ifn c2 h
      refine aw_aload_n (pc := 55) (q := 0) dX12_is_55 rfl ?_
      refine aw_iconst (pc := 56) (v := 0) dX12_is_56 (by decide) ?_
      obtain ⟨r3, e4, h⟩ := aw_bde h
      refine aw_cV1 (pc := 57) [.int ((0 : Int32))] (c_Rf_get e4) yy_Rf_get.1 wm_736 yy_Rf_get.2.1 yy_Rf_get.2.2 xB_0 ⟨_, _, rfl⟩ rfl ⟨Nat.le_of_ble_eq_true rfl, Nat.le_of_ble_eq_true rfl⟩ ⟨Nat.zero_le _, Nat.zero_le _⟩ (Nat.le_of_ble_eq_true rfl) dX12_is_57 ?_
      refine aw_goto (pc := 60) (tgt := 64) dX12_is_60 (by decide) ?_
      cases h
      subst hE
      exact aw_iret (v := _) rfl aw_ni ⟨Nat.zero_le _, Nat.zero_le _⟩ dX12_is_64
  · replace h := aw_ifn c1 h
    by_cases c5 : p1 = (1 : Int32)
    · replace h := aw_ifp c5 h
      refine aw_tableIn (pc := 1) (tgt := 65) dX12_is_1 1 (by rw [c5]; decide) (by decide) rfl (by decide) ?_
      refine aw_aload_n (pc := 65) (q := 0) dX12_is_65 rfl ?_
      refine aw_getI (pc := 66) fd_X12_215.r xB_0 rfl dX12_is_66 ?_
      cases h
      subst hE
      exact aw_iret (v := (σ.1 0 14)) rfl aw_ni ⟨Nat.zero_le _, Nat.zero_le _⟩ dX12_is_69
    · replace h := aw_ifn c5 h
      by_cases c6 : p1 = (2 : Int32)
      · replace h := aw_ifp c6 h
        refine aw_tableIn (pc := 1) (tgt := 70) dX12_is_1 2 (by rw [c6]; decide) (by decide) rfl (by decide) ?_
        refine aw_aload_n (pc := 70) (q := 0) dX12_is_70 rfl ?_
        refine aw_iconst (pc := 71) (v := 2) dX12_is_71 (by decide) ?_
        obtain ⟨r7, e8, h⟩ := aw_bde h
        refine aw_cV1 (pc := 72) [.int ((2 : Int32))] (c_Rf_get e8) yy_Rf_get.1 wm_736 yy_Rf_get.2.1 yy_Rf_get.2.2 xB_0 ⟨_, _, rfl⟩ rfl ⟨Nat.le_of_ble_eq_true rfl, Nat.le_of_ble_eq_true rfl⟩ ⟨Nat.zero_le _, Nat.zero_le _⟩ (Nat.le_of_ble_eq_true rfl) dX12_is_72 ?_
        cases h
        subst hE
        exact aw_iret (v := _) rfl aw_ni ⟨Nat.zero_le _, Nat.zero_le _⟩ dX12_is_75
      · replace h := aw_ifn c6 h
        by_cases c9 : p1 = (3 : Int32)
        · replace h := aw_ifp c9 h
          refine aw_tableIn (pc := 1) (tgt := 76) dX12_is_1 3 (by rw [c9]; decide) (by decide) rfl (by decide) ?_
          refine aw_aload_n (pc := 76) (q := 0) dX12_is_76 rfl ?_
          obtain ⟨r10, e11, h⟩ := aw_bde h
          refine aw_cV1 (pc := 77) [] (c_Rf_edges e11) yy_Rf_edges.1 wm_899 yy_Rf_edges.2.1 yy_Rf_edges.2.2 xB_0 ⟨_, _, rfl⟩ rfl ⟨Nat.le_of_ble_eq_true rfl, Nat.le_of_ble_eq_true rfl⟩ ⟨Nat.zero_le _, Nat.zero_le _⟩ (Nat.le_of_ble_eq_true rfl) dX12_is_77 ?_
          cases h
          subst hE
          exact aw_iret (v := _) rfl aw_ni ⟨Nat.zero_le _, Nat.zero_le _⟩ dX12_is_80
        · replace h := aw_ifn c9 h
          by_cases c12 : p1 = (4 : Int32)
          · replace h := aw_ifp c12 h
            refine aw_tableIn (pc := 1) (tgt := 81) dX12_is_1 4 (by rw [c12]; decide) (by decide) rfl (by decide) ?_
            refine aw_aload_n (pc := 81) (q := 0) dX12_is_81 rfl ?_
            refine aw_iconst (pc := 82) (v := 0) dX12_is_82 (by decide) ?_
            obtain ⟨r13, e14, h⟩ := aw_bde h
            refine aw_cV1 (pc := 83) [.int ((0 : Int32))] (c_Rf_countNodes e14) yy_Rf_countNodes.1 wm_903 yy_Rf_countNodes.2.1 yy_Rf_countNodes.2.2 xB_0 ⟨_, _, rfl⟩ rfl ⟨Nat.le_of_ble_eq_true rfl, Nat.le_of_ble_eq_true rfl⟩ ⟨Nat.zero_le _, Nat.zero_le _⟩ (Nat.le_of_ble_eq_true rfl) dX12_is_83 ?_
            cases h
            subst hE
            exact aw_iret (v := _) rfl aw_ni ⟨Nat.zero_le _, Nat.zero_le _⟩ dX12_is_86
          · replace h := aw_ifn c12 h
            by_cases c15 : p1 = (5 : Int32)
            · replace h := aw_ifp c15 h
              refine aw_tableIn (pc := 1) (tgt := 87) dX12_is_1 5 (by rw [c15]; decide) (by decide) rfl (by decide) ?_
              refine aw_aload_n (pc := 87) (q := 0) dX12_is_87 rfl ?_
              refine aw_getI (pc := 88) fd_X12_231.r xB_0 rfl dX12_is_88 ?_
              refine aw_if_eq (pc := 91) (tgt := 105) dX12_is_91 (by decide) (fun c16 => ?_) (fun c16 => ?_)
              · replace h := aw_ifp c16 h
                refine aw_iconst (pc := 105) (v := 0) dX12_is_105 (by decide) ?_
                cases h
                subst hE
                exact aw_iret (v := (0 : Int32)) rfl aw_ni ⟨Nat.zero_le _, Nat.zero_le _⟩ dX12_is_106
              · replace h := aw_ifn c16 h
                refine aw_aload_n (pc := 94) (q := 0) dX12_is_94 rfl ?_
                refine aw_getI (pc := 95) fd_X12_253.r xB_0 rfl dX12_is_95 ?_
                refine aw_if_eq (pc := 98) (tgt := 105) dX12_is_98 (by decide) (fun c17 => ?_) (fun c17 => ?_)
                · replace h := aw_ifp c17 h
                  refine aw_iconst (pc := 105) (v := 0) dX12_is_105 (by decide) ?_
                  cases h
                  subst hE
                  exact aw_iret (v := (0 : Int32)) rfl aw_ni ⟨Nat.zero_le _, Nat.zero_le _⟩ dX12_is_106
                · replace h := aw_ifn c17 h
                  refine aw_iconst (pc := 101) (v := 1) dX12_is_101 (by decide) ?_
                  refine aw_goto (pc := 102) (tgt := 106) dX12_is_102 (by decide) ?_
                  cases h
                  subst hE
                  exact aw_iret (v := (1 : Int32)) rfl aw_ni ⟨Nat.zero_le _, Nat.zero_le _⟩ dX12_is_106
            · replace h := aw_ifn c15 h
              by_cases c18 : p1 = (6 : Int32)
              · replace h := aw_ifp c18 h
                refine aw_tableIn (pc := 1) (tgt := 107) dX12_is_1 6 (by rw [c18]; decide) (by decide) rfl (by decide) ?_
                refine aw_aload_n (pc := 107) (q := 0) dX12_is_107 rfl ?_
                refine aw_iconst (pc := 108) (v := -1) dX12_is_108 (by decide) ?_
                obtain ⟨r19, e20, h⟩ := aw_bde h
                refine aw_cV1 (pc := 109) [.int ((-1 : Int32))] (c_Rf_countNodes e20) yy_Rf_countNodes.1 wm_903 yy_Rf_countNodes.2.1 yy_Rf_countNodes.2.2 xB_0 ⟨_, _, rfl⟩ rfl ⟨Nat.le_of_ble_eq_true rfl, Nat.le_of_ble_eq_true rfl⟩ ⟨Nat.zero_le _, Nat.zero_le _⟩ (Nat.le_of_ble_eq_true rfl) dX12_is_109 ?_
                cases h
                subst hE
                exact aw_iret (v := _) rfl aw_ni ⟨Nat.zero_le _, Nat.zero_le _⟩ dX12_is_112
              · replace h := aw_ifn c18 h
                by_cases c21 : p1 = (7 : Int32)
                · replace h := aw_ifp c21 h
                  refine aw_tableIn (pc := 1) (tgt := 113) dX12_is_1 7 (by rw [c21]; decide) (by decide) rfl (by decide) ?_
                  refine aw_aload_n (pc := 113) (q := 0) dX12_is_113 rfl ?_
                  refine aw_getI (pc := 114) fd_X12_134.r xB_0 rfl dX12_is_114 ?_
                  cases h
                  subst hE
                  exact aw_iret (v := (σ.1 0 2)) rfl aw_ni ⟨Nat.zero_le _, Nat.zero_le _⟩ dX12_is_117
                · replace h := aw_ifn c21 h
                  refine aw_tableOut (pc := 1) (tgt := 118) dX12_is_1 (aw_tout 0 7 (fun k h1 h2 => by
                    have hk : k = 0 ∨ k = 1 ∨ k = 2 ∨ k = 3 ∨ k = 4 ∨ k = 5 ∨ k = 6 ∨ k = 7 := by omega
                    rcases hk with rfl | rfl | rfl | rfl | rfl | rfl | rfl | rfl
                    · exact fun e => c1 (e.trans (by decide))
                    · exact fun e => c5 (e.trans (by decide))
                    · exact fun e => c6 (e.trans (by decide))
                    · exact fun e => c9 (e.trans (by decide))
                    · exact fun e => c12 (e.trans (by decide))
                    · exact fun e => c15 (e.trans (by decide))
                    · exact fun e => c18 (e.trans (by decide))
                    · exact fun e => c21 (e.trans (by decide)))) (by decide) ?_
                  refine aw_iconst (pc := 118) (v := -1) dX12_is_118 (by decide) ?_
                  cases h
                  subst hE
                  exact aw_iret (v := (-1 : Int32)) rfl aw_ni ⟨Nat.zero_le _, Nat.zero_le _⟩ dX12_is_119
theorem c_Rf_is {l : Launch} {G : aw_G} {σ : aw_S} {p1 : Int32} {t : Int32} (h : m_Rf_is σ p1 = some t) : aw_Ct l yX12_is M_Rf_is G B_Rf_is [.ref 0, .int p1] xB σ (some (.int t), xB, σ) := aw_Ct_of (by decide) rfl (fun h => by cases h) (Nat.le_of_ble_eq_true rfl) (t_Rf_is h rfl)
/-! LateMoverModel.isNode(I)Z -/
set_option maxRecDepth 100000 in
set_option maxHeartbeats 4000000 in
theorem t_Rf_isNode {l : Launch} {G : aw_G} {E : aw_E} {σ : aw_S} {p1 : Int32} {t : Int32} (h : m_Rf_isNode σ p1 = some t) (hE : E = (some (.int t), xB, σ)) : aw_W l M_Rf_isNode G B_Rf_isNode E 0 [(0, .ref 0), (1, .int p1)] [] xB σ 0 0 := by
  unfold m_Rf_isNode at h
  refine aw_iload_n (pc := 0) (q := 1) dX12_isNode_0 rfl ?_
  refine aw_iconst (pc := 1) (v := 0) dX12_isNode_1 (by decide) ?_
  refine aw_aload_n (pc := 2) (q := 0) dX12_isNode_2 rfl ?_
  refine aw_getI (pc := 3) fd_X12_215.r xB_0 rfl dX12_isNode_3 ?_
  refine aw_iconst (pc := 6) (v := 1) dX12_isNode_6 (by decide) ?_
  refine aw_isub (pc := 7) dX12_isNode_7 ?_
  obtain ⟨r1, e2, h⟩ := aw_bde h
  refine aw_cS1 (pc := 8) [.int p1, .int ((0 : Int32)), .int (((σ.1 0 14) - (1 : Int32)))] (c_Rf_isIn e2) yy_Rf_isIn.1 wm_255 yy_Rf_isIn.2 rfl ⟨Nat.le_of_ble_eq_true rfl, Nat.le_of_ble_eq_true rfl⟩ ⟨Nat.zero_le _, Nat.zero_le _⟩ (Nat.le_of_ble_eq_true rfl) dX12_isNode_8 ?_
  obtain ⟨g3, h⟩ := aw_gde h
  cases h
  subst hE
  exact aw_iret (v := _) rfl (aw_nz g3) ⟨Nat.zero_le _, Nat.zero_le _⟩ dX12_isNode_11
theorem c_Rf_isNode {l : Launch} {G : aw_G} {σ : aw_S} {p1 : Int32} {t : Int32} (h : m_Rf_isNode σ p1 = some t) : aw_Ct l yX12_isNode M_Rf_isNode G B_Rf_isNode [.ref 0, .int p1] xB σ (some (.int t), xB, σ) := aw_Ct_of (by decide) rfl (fun h => by cases h) (Nat.le_of_ble_eq_true rfl) (t_Rf_isNode h rfl)
/-! LateMoverModel.letterOf(I)I -/
set_option maxRecDepth 100000 in
set_option maxHeartbeats 4000000 in
theorem t_Rf_letterOf {l : Launch} {G : aw_G} {E : aw_E} {σ : aw_S} {p1 : Int32} {t : Int32} (h : m_Rf_letterOf σ p1 = some t) (hE : E = (some (.int t), xB, σ)) : aw_W l M_Rf_letterOf G B_Rf_letterOf E 0 [(0, .ref 0), (1, .int p1)] [] xB σ 0 0 := by
  unfold m_Rf_letterOf at h
  refine aw_aload_n (pc := 0) (q := 0) dX12_letterOf_0 rfl ?_
  refine aw_getC (pc := 1) fd_X12_24.r xB_0 rfl dX12_letterOf_1 ?_
  refine aw_iload_n (pc := 4) (q := 1) dX12_letterOf_4 rfl ?_
  obtain ⟨g1, h⟩ := aw_gde h
  refine aw_iald (pc := 5) xB_4 g1 dX12_letterOf_5 ?_
  refine aw_iconst (pc := 6) (v := 5) dX12_letterOf_6 (by decide) ?_
  refine aw_icmp_ne (pc := 7) (tgt := 27) dX12_letterOf_7 (by decide) (fun c2 => ?_) (fun c2 => ?_)
  · replace h := aw_ifn c2 h
    refine aw_aload_n (pc := 27) (q := 0) dX12_letterOf_27 rfl ?_
    refine aw_iload_n (pc := 28) (q := 1) dX12_letterOf_28 rfl ?_
    obtain ⟨r3, e4, h⟩ := aw_bde h
    refine aw_cV1 (pc := 29) [.int p1] (c_Rf_changed e4) yy_Rf_changed.1 wm_791 yy_Rf_changed.2.1 yy_Rf_changed.2.2 xB_0 ⟨_, _, rfl⟩ rfl ⟨Nat.le_of_ble_eq_true rfl, Nat.le_of_ble_eq_true rfl⟩ ⟨Nat.zero_le _, Nat.zero_le _⟩ (Nat.le_of_ble_eq_true rfl) dX12_letterOf_29 ?_
    cases h
    subst hE
    exact aw_iret (v := _) rfl aw_ni ⟨Nat.zero_le _, Nat.zero_le _⟩ dX12_letterOf_32
  · replace h := aw_ifp c2 h
    refine aw_aload_n (pc := 10) (q := 0) dX12_letterOf_10 rfl ?_
    refine aw_sipush (pc := 11) (v := 220) dX12_letterOf_11 (by decide) ?_
    refine aw_aload_n (pc := 14) (q := 0) dX12_letterOf_14 rfl ?_
    refine aw_getC (pc := 15) fd_X12_27.r xB_0 rfl dX12_letterOf_15 ?_
    refine aw_iload_n (pc := 18) (q := 1) dX12_letterOf_18 rfl ?_
    obtain ⟨g5, h⟩ := aw_gde h
    refine aw_iald (pc := 19) xB_5 g5 dX12_letterOf_19 ?_
    refine aw_iadd (pc := 20) dX12_letterOf_20 ?_
    obtain ⟨r6, e7, h⟩ := aw_bde h
    refine aw_cV1 (pc := 21) [.int (((220 : Int32) + (σ.1 5 p1.toNatClampNeg)))] (c_Rf_get e7) yy_Rf_get.1 wm_736 yy_Rf_get.2.1 yy_Rf_get.2.2 xB_0 ⟨_, _, rfl⟩ rfl ⟨Nat.le_of_ble_eq_true rfl, Nat.le_of_ble_eq_true rfl⟩ ⟨Nat.zero_le _, Nat.zero_le _⟩ (Nat.le_of_ble_eq_true rfl) dX12_letterOf_21 ?_
    refine aw_goto (pc := 24) (tgt := 32) dX12_letterOf_24 (by decide) ?_
    cases h
    subst hE
    exact aw_iret (v := _) rfl aw_ni ⟨Nat.zero_le _, Nat.zero_le _⟩ dX12_letterOf_32
theorem c_Rf_letterOf {l : Launch} {G : aw_G} {σ : aw_S} {p1 : Int32} {t : Int32} (h : m_Rf_letterOf σ p1 = some t) : aw_Ct l yX12_letterOf M_Rf_letterOf G B_Rf_letterOf [.ref 0, .int p1] xB σ (some (.int t), xB, σ) := aw_Ct_of (by decide) rfl (fun h => by cases h) (Nat.le_of_ble_eq_true rfl) (t_Rf_letterOf h rfl)
/-! LateMoverModel.node(II)I -/
set_option maxRecDepth 100000 in
set_option maxHeartbeats 4000000 in
theorem t_Rf_node_J122 {l : Launch} {G : aw_G} {E : aw_E} {σ : aw_S} {k0 : Int32} {k1 : Int32} {t : Int32} (h : m_Rf_node_J122 σ k0 k1 = some t) (hE : E = (some (.int t), xB, σ)) : aw_W l M_Rf_node G B_Rf_node E 122 [] [.int k1, .int k0] xB σ 0 0 := by
  unfold m_Rf_node_J122 at h
  refine aw_iadd (pc := 122) dX12_node_122 ?_
  cases h
  subst hE
  exact aw_iret (v := (k0 + k1)) rfl aw_ni ⟨Nat.zero_le _, Nat.zero_le _⟩ dX12_node_123
set_option maxRecDepth 100000 in
set_option maxHeartbeats 4000000 in
theorem t_Rf_node_J103 {l : Launch} {G : aw_G} {E : aw_E} {σ : aw_S} {v1 : Int32} {k0 : Int32} {t : Int32} (h : m_Rf_node_J103 σ v1 k0 = some t) (hE : E = (some (.int t), xB, σ)) : aw_W l M_Rf_node G B_Rf_node E 103 [(0, .ref 0), (1, .int v1)] [.int k0] xB σ 0 0 := by
  unfold m_Rf_node_J103 at h
  refine aw_aload_n (pc := 103) (q := 0) dX12_node_103 rfl ?_
  refine aw_getC (pc := 104) fd_X12_33.r xB_0 rfl dX12_node_104 ?_
  refine aw_iconst (pc := 107) (v := 2) dX12_node_107 (by decide) ?_
  refine aw_iload_n (pc := 108) (q := 1) dX12_node_108 rfl ?_
  refine aw_imul (pc := 109) dX12_node_109 ?_
  refine aw_iconst (pc := 110) (v := 1) dX12_node_110 (by decide) ?_
  refine aw_iadd (pc := 111) dX12_node_111 ?_
  obtain ⟨g17, h⟩ := aw_gde h
  refine aw_iald (pc := 112) xB_7 g17 dX12_node_112 ?_
  refine aw_iconst (pc := 113) (v := -1) dX12_node_113 (by decide) ?_
  refine aw_icmp_eq (pc := 114) (tgt := 121) dX12_node_114 (by decide) (fun c18 => ?_) (fun c18 => ?_)
  · replace h := aw_ifp c18 h
    refine aw_iconst (pc := 121) (v := 0) dX12_node_121 (by decide) ?_
    refine aw_sub [] rfl ?_
    exact t_Rf_node_J122 h hE
  · replace h := aw_ifn c18 h
    refine aw_iconst (pc := 117) (v := 1) dX12_node_117 (by decide) ?_
    refine aw_goto (pc := 118) (tgt := 122) dX12_node_118 (by decide) ?_
    refine aw_sub [] rfl ?_
    exact t_Rf_node_J122 h hE
set_option maxRecDepth 100000 in
set_option maxHeartbeats 4000000 in
theorem t_Rf_node {l : Launch} {G : aw_G} {E : aw_E} {σ : aw_S} {p1 : Int32} {p2 : Int32} {t : Int32} (h : m_Rf_node σ p1 p2 = some t) (hE : E = (some (.int t), xB, σ)) : aw_W l M_Rf_node G B_Rf_node E 0 [(0, .ref 0), (1, .int p1), (2, .int p2)] [] xB σ 0 0 := by
  unfold m_Rf_node at h
  refine aw_aload_n (pc := 0) (q := 0) dX12_node_0 rfl ?_
  refine aw_iload_n (pc := 1) (q := 1) dX12_node_1 rfl ?_
  obtain ⟨r1, e2, h⟩ := aw_bde h
  refine aw_cV1 (pc := 2) [.int p1] (c_Rf_isNode e2) yy_Rf_isNode.1 wm_924 yy_Rf_isNode.2.1 yy_Rf_isNode.2.2 xB_0 ⟨_, _, rfl⟩ rfl ⟨Nat.le_of_ble_eq_true rfl, Nat.le_of_ble_eq_true rfl⟩ ⟨Nat.zero_le _, Nat.zero_le _⟩ (Nat.le_of_ble_eq_true rfl) dX12_node_2 ?_
  refine aw_if_ne (pc := 5) (tgt := 11) dX12_node_5 (by decide) (fun c3 => ?_) (fun c3 => ?_)
  · replace h := aw_ifn c3 h
    refine aw_iload_n (pc := 11) (q := 2) dX12_node_11 rfl ?_
    by_cases c4 : p2 = (0 : Int32)
    · replace h := aw_ifp c4 h
      refine aw_tableIn (pc := 12) (tgt := 60) dX12_node_12 0 (by rw [c4]; decide) (by decide) rfl (by decide) ?_
      refine aw_aload_n (pc := 60) (q := 0) dX12_node_60 rfl ?_
      refine aw_getC (pc := 61) fd_X12_24.r xB_0 rfl dX12_node_61 ?_
      refine aw_iload_n (pc := 64) (q := 1) dX12_node_64 rfl ?_
      obtain ⟨g5, h⟩ := aw_gde h
      refine aw_iald (pc := 65) xB_4 g5 dX12_node_65 ?_
      cases h
      subst hE
      exact aw_iret (v := (σ.1 4 p1.toNatClampNeg)) rfl aw_ni ⟨Nat.zero_le _, Nat.zero_le _⟩ dX12_node_66
    · replace h := aw_ifn c4 h
      by_cases c6 : p2 = (1 : Int32)
      · replace h := aw_ifp c6 h
        refine aw_tableIn (pc := 12) (tgt := 67) dX12_node_12 1 (by rw [c6]; decide) (by decide) rfl (by decide) ?_
        refine aw_aload_n (pc := 67) (q := 0) dX12_node_67 rfl ?_
        refine aw_getC (pc := 68) fd_X12_27.r xB_0 rfl dX12_node_68 ?_
        refine aw_iload_n (pc := 71) (q := 1) dX12_node_71 rfl ?_
        obtain ⟨g7, h⟩ := aw_gde h
        refine aw_iald (pc := 72) xB_5 g7 dX12_node_72 ?_
        cases h
        subst hE
        exact aw_iret (v := (σ.1 5 p1.toNatClampNeg)) rfl aw_ni ⟨Nat.zero_le _, Nat.zero_le _⟩ dX12_node_73
      · replace h := aw_ifn c6 h
        by_cases c8 : p2 = (2 : Int32)
        · replace h := aw_ifp c8 h
          refine aw_tableIn (pc := 12) (tgt := 74) dX12_node_12 2 (by rw [c8]; decide) (by decide) rfl (by decide) ?_
          refine aw_aload_n (pc := 74) (q := 0) dX12_node_74 rfl ?_
          refine aw_iload_n (pc := 75) (q := 1) dX12_node_75 rfl ?_
          obtain ⟨r9, e10, h⟩ := aw_bde h
          refine aw_cV1 (pc := 76) [.int p1] (c_Rf_expressionOf e10) yy_Rf_expressionOf.1 wm_776 yy_Rf_expressionOf.2.1 yy_Rf_expressionOf.2.2 xB_0 ⟨_, _, rfl⟩ rfl ⟨Nat.le_of_ble_eq_true rfl, Nat.le_of_ble_eq_true rfl⟩ ⟨Nat.zero_le _, Nat.zero_le _⟩ (Nat.le_of_ble_eq_true rfl) dX12_node_76 ?_
          cases h
          subst hE
          exact aw_iret (v := _) rfl aw_ni ⟨Nat.zero_le _, Nat.zero_le _⟩ dX12_node_79
        · replace h := aw_ifn c8 h
          by_cases c11 : p2 = (3 : Int32)
          · replace h := aw_ifp c11 h
            refine aw_tableIn (pc := 12) (tgt := 80) dX12_node_12 3 (by rw [c11]; decide) (by decide) rfl (by decide) ?_
            refine aw_aload_n (pc := 80) (q := 0) dX12_node_80 rfl ?_
            refine aw_iload_n (pc := 81) (q := 1) dX12_node_81 rfl ?_
            obtain ⟨r12, e13, h⟩ := aw_bde h
            refine aw_cV1 (pc := 82) [.int p1] (c_Rf_letterOf e13) yy_Rf_letterOf.1 wm_928 yy_Rf_letterOf.2.1 yy_Rf_letterOf.2.2 xB_0 ⟨_, _, rfl⟩ rfl ⟨Nat.le_of_ble_eq_true rfl, Nat.le_of_ble_eq_true rfl⟩ ⟨Nat.zero_le _, Nat.zero_le _⟩ (Nat.le_of_ble_eq_true rfl) dX12_node_82 ?_
            cases h
            subst hE
            exact aw_iret (v := _) rfl aw_ni ⟨Nat.zero_le _, Nat.zero_le _⟩ dX12_node_85
          · replace h := aw_ifn c11 h
            by_cases c14 : p2 = (4 : Int32)
            · replace h := aw_ifp c14 h
              refine aw_tableIn (pc := 12) (tgt := 86) dX12_node_12 4 (by rw [c14]; decide) (by decide) rfl (by decide) ?_
              refine aw_aload_n (pc := 86) (q := 0) dX12_node_86 rfl ?_
              refine aw_getC (pc := 87) fd_X12_33.r xB_0 rfl dX12_node_87 ?_
              refine aw_iconst (pc := 90) (v := 2) dX12_node_90 (by decide) ?_
              refine aw_iload_n (pc := 91) (q := 1) dX12_node_91 rfl ?_
              refine aw_imul (pc := 92) dX12_node_92 ?_
              obtain ⟨g15, h⟩ := aw_gde h
              refine aw_iald (pc := 93) xB_7 g15 dX12_node_93 ?_
              refine aw_iconst (pc := 94) (v := -1) dX12_node_94 (by decide) ?_
              refine aw_icmp_eq (pc := 95) (tgt := 102) dX12_node_95 (by decide) (fun c16 => ?_) (fun c16 => ?_)
              · replace h := aw_ifp c16 h
                refine aw_iconst (pc := 102) (v := 0) dX12_node_102 (by decide) ?_
                refine aw_sub [0, 1] rfl ?_
                exact t_Rf_node_J103 h hE
              · replace h := aw_ifn c16 h
                refine aw_iconst (pc := 98) (v := 1) dX12_node_98 (by decide) ?_
                refine aw_goto (pc := 99) (tgt := 103) dX12_node_99 (by decide) ?_
                refine aw_sub [0, 1] rfl ?_
                exact t_Rf_node_J103 h hE
            · replace h := aw_ifn c14 h
              by_cases c19 : p2 = (5 : Int32)
              · replace h := aw_ifp c19 h
                refine aw_tableIn (pc := 12) (tgt := 124) dX12_node_12 5 (by rw [c19]; decide) (by decide) rfl (by decide) ?_
                refine aw_aload_n (pc := 124) (q := 0) dX12_node_124 rfl ?_
                refine aw_getC (pc := 125) fd_X12_36.r xB_0 rfl dX12_node_125 ?_
                refine aw_iload_n (pc := 128) (q := 1) dX12_node_128 rfl ?_
                obtain ⟨g20, h⟩ := aw_gde h
                refine aw_iald (pc := 129) xB_8 g20 dX12_node_129 ?_
                cases h
                subst hE
                exact aw_iret (v := (σ.1 8 p1.toNatClampNeg)) rfl aw_ni ⟨Nat.zero_le _, Nat.zero_le _⟩ dX12_node_130
              · replace h := aw_ifn c19 h
                by_cases c21 : p2 = (6 : Int32)
                · replace h := aw_ifp c21 h
                  refine aw_tableIn (pc := 12) (tgt := 131) dX12_node_12 6 (by rw [c21]; decide) (by decide) rfl (by decide) ?_
                  refine aw_aload_n (pc := 131) (q := 0) dX12_node_131 rfl ?_
                  refine aw_getC (pc := 132) fd_X12_33.r xB_0 rfl dX12_node_132 ?_
                  refine aw_iconst (pc := 135) (v := 2) dX12_node_135 (by decide) ?_
                  refine aw_iload_n (pc := 136) (q := 1) dX12_node_136 rfl ?_
                  refine aw_imul (pc := 137) dX12_node_137 ?_
                  obtain ⟨g22, h⟩ := aw_gde h
                  refine aw_iald (pc := 138) xB_7 g22 dX12_node_138 ?_
                  cases h
                  subst hE
                  exact aw_iret (v := (σ.1 7 (((2 : Int32) * p1)).toNatClampNeg)) rfl aw_ni ⟨Nat.zero_le _, Nat.zero_le _⟩ dX12_node_139
                · replace h := aw_ifn c21 h
                  by_cases c23 : p2 = (7 : Int32)
                  · replace h := aw_ifp c23 h
                    refine aw_tableIn (pc := 12) (tgt := 140) dX12_node_12 7 (by rw [c23]; decide) (by decide) rfl (by decide) ?_
                    refine aw_aload_n (pc := 140) (q := 0) dX12_node_140 rfl ?_
                    refine aw_getC (pc := 141) fd_X12_33.r xB_0 rfl dX12_node_141 ?_
                    refine aw_iconst (pc := 144) (v := 2) dX12_node_144 (by decide) ?_
                    refine aw_iload_n (pc := 145) (q := 1) dX12_node_145 rfl ?_
                    refine aw_imul (pc := 146) dX12_node_146 ?_
                    refine aw_iconst (pc := 147) (v := 1) dX12_node_147 (by decide) ?_
                    refine aw_iadd (pc := 148) dX12_node_148 ?_
                    obtain ⟨g24, h⟩ := aw_gde h
                    refine aw_iald (pc := 149) xB_7 g24 dX12_node_149 ?_
                    cases h
                    subst hE
                    exact aw_iret (v := (σ.1 7 ((((2 : Int32) * p1) + (1 : Int32))).toNatClampNeg)) rfl aw_ni ⟨Nat.zero_le _, Nat.zero_le _⟩ dX12_node_150
                  · replace h := aw_ifn c23 h
                    refine aw_tableOut (pc := 12) (tgt := 151) dX12_node_12 (aw_tout 0 7 (fun k h1 h2 => by
                      have hk : k = 0 ∨ k = 1 ∨ k = 2 ∨ k = 3 ∨ k = 4 ∨ k = 5 ∨ k = 6 ∨ k = 7 := by omega
                      rcases hk with rfl | rfl | rfl | rfl | rfl | rfl | rfl | rfl
                      · exact fun e => c4 (e.trans (by decide))
                      · exact fun e => c6 (e.trans (by decide))
                      · exact fun e => c8 (e.trans (by decide))
                      · exact fun e => c11 (e.trans (by decide))
                      · exact fun e => c14 (e.trans (by decide))
                      · exact fun e => c19 (e.trans (by decide))
                      · exact fun e => c21 (e.trans (by decide))
                      · exact fun e => c23 (e.trans (by decide)))) (by decide) ?_
                    refine aw_bipush (pc := 151) (v := -2) dX12_node_151 (by decide) ?_
                    cases h
                    subst hE
                    exact aw_iret (v := (-2 : Int32)) rfl aw_ni ⟨Nat.zero_le _, Nat.zero_le _⟩ dX12_node_153
  · replace h := aw_ifp c3 h
    refine aw_bipush (pc := 8) (v := -2) dX12_node_8 (by decide) ?_
    cases h
    subst hE
    exact aw_iret (v := (-2 : Int32)) rfl aw_ni ⟨Nat.zero_le _, Nat.zero_le _⟩ dX12_node_10
theorem c_Rf_node {l : Launch} {G : aw_G} {σ : aw_S} {p1 : Int32} {p2 : Int32} {t : Int32} (h : m_Rf_node σ p1 p2 = some t) : aw_Ct l yX12_node M_Rf_node G B_Rf_node [.ref 0, .int p1, .int p2] xB σ (some (.int t), xB, σ) := aw_Ct_of (by decide) rfl (fun h => by cases h) (Nat.le_of_ble_eq_true rfl) (t_Rf_node h rfl)
/-! LateMoverModel.risky()I -/
def z_Rf_risky_X4 (l : Launch) (G : aw_G) (E : aw_E) (σ : aw_S) (s : Int32 × Int32) : Prop := aw_W l M_Rf_risky G B_Rf_risky E 4 [(0, .ref 0), (1, .int s.1), (2, .int s.2)] [] xB σ 0 0
def z_Rf_risky_Y4 (l : Launch) (G : aw_G) (E : aw_E) (σ : aw_S) (x : (Int32)) : Prop := aw_W l M_Rf_risky G B_Rf_risky E 35 [(1, .int x)] [] xB σ 0 0
set_option maxRecDepth 100000 in
set_option maxHeartbeats 4000000 in
theorem t_Rf_risky_J27 {l : Launch} {G : aw_G} {E : aw_E} {σ : aw_S} {v2 : Int32} {k0 : Int32} {k1 : Int32} {t : (Int32) ⊕ (Int32 × Int32)} (h : m_Rf_risky_J27 σ v2 k0 k1 = some t) (hz : Sum.elim (z_Rf_risky_Y4 l G E σ) (z_Rf_risky_X4 l G E σ) t) : aw_W l M_Rf_risky G B_Rf_risky E 27 [(0, .ref 0), (2, .int v2)] [.int k1, .int k0] xB σ 0 0 := by
  unfold m_Rf_risky_J27 at h
  refine aw_iadd (pc := 27) dX12_risky_27 ?_
  refine aw_nmI (fun x7 e_x7 => ?_)
  replace h := aw_lte h x7 e_x7
  refine aw_istore_n (pc := 28) [(1, .int x7), (0, .ref 0), (2, .int v2)] dX12_risky_28 (by decide) rfl ?_
  obtain ⟨x8, e_x8⟩ : ∃ z, z = (v2 + (1 : Int32)) := ⟨_, rfl⟩
  replace h := aw_lte h x8 e_x8
  refine aw_iinc (pc := 29) (q := 2) (v := x8) [(2, .int x8), (1, .int x7), (0, .ref 0)] dX12_risky_29 rfl e_x8.symm (by decide) rfl ?_
  refine aw_goto (pc := 32) (tgt := 4) dX12_risky_32 (by decide) ?_
  refine aw_sub [2, 1, 0] rfl ?_
  cases h
  exact hz
set_option maxRecDepth 100000 in
set_option maxHeartbeats 4000000 in
theorem t_Rf_risky_B4 {l : Launch} {G : aw_G} {E : aw_E} {σ : aw_S} {v1 : Int32} {v2 : Int32} {t : (Int32) ⊕ (Int32 × Int32)} (h : m_Rf_risky_B4 σ v1 v2 = some t) (hz : Sum.elim (z_Rf_risky_Y4 l G E σ) (z_Rf_risky_X4 l G E σ) t) : aw_W l M_Rf_risky G B_Rf_risky E 4 [(0, .ref 0), (1, .int v1), (2, .int v2)] [] xB σ 0 0 := by
  unfold m_Rf_risky_B4 at h
  refine aw_iload_n (pc := 4) (q := 2) dX12_risky_4 rfl ?_
  refine aw_aload_n (pc := 5) (q := 0) dX12_risky_5 rfl ?_
  refine aw_iconst (pc := 6) (v := 2) dX12_risky_6 (by decide) ?_
  obtain ⟨r1, e2, h⟩ := aw_bde h
  refine aw_cV1 (pc := 7) [.int ((2 : Int32))] (c_Rf_get e2) yy_Rf_get.1 wm_736 yy_Rf_get.2.1 yy_Rf_get.2.2 xB_0 ⟨_, _, rfl⟩ rfl ⟨Nat.le_of_ble_eq_true rfl, Nat.le_of_ble_eq_true rfl⟩ ⟨Nat.zero_le _, Nat.zero_le _⟩ (Nat.le_of_ble_eq_true rfl) dX12_risky_7 ?_
  refine aw_icmp_ge (pc := 10) (tgt := 35) dX12_risky_10 (by decide) (fun c3 => ?_) (fun c3 => ?_)
  · replace h := aw_ifp c3 h
    refine aw_sub [1] rfl ?_
    cases h
    exact hz
  · replace h := aw_ifn c3 h
    refine aw_iload_n (pc := 13) (q := 1) dX12_risky_13 rfl ?_
    refine aw_aload_n (pc := 14) (q := 0) dX12_risky_14 rfl ?_
    refine aw_iload_n (pc := 15) (q := 2) dX12_risky_15 rfl ?_
    obtain ⟨r4, e5, h⟩ := aw_bde h
    refine aw_cV1 (pc := 16) [.int v2] (c_Rf_isRisky e5) yy_Rf_isRisky.1 wm_795 yy_Rf_isRisky.2.1 yy_Rf_isRisky.2.2 xB_0 ⟨_, _, rfl⟩ rfl ⟨Nat.le_of_ble_eq_true rfl, Nat.le_of_ble_eq_true rfl⟩ ⟨Nat.zero_le _, Nat.zero_le _⟩ (Nat.le_of_ble_eq_true rfl) dX12_risky_16 ?_
    refine aw_if_eq (pc := 19) (tgt := 26) dX12_risky_19 (by decide) (fun c6 => ?_) (fun c6 => ?_)
    · replace h := aw_ifp c6 h
      refine aw_iconst (pc := 26) (v := 0) dX12_risky_26 (by decide) ?_
      refine aw_sub [0, 2] rfl ?_
      exact t_Rf_risky_J27 h hz
    · replace h := aw_ifn c6 h
      refine aw_iconst (pc := 22) (v := 1) dX12_risky_22 (by decide) ?_
      refine aw_goto (pc := 23) (tgt := 27) dX12_risky_23 (by decide) ?_
      refine aw_sub [0, 2] rfl ?_
      exact t_Rf_risky_J27 h hz
set_option maxRecDepth 100000 in
set_option maxHeartbeats 4000000 in
theorem t_Rf_risky {l : Launch} {G : aw_G} {E : aw_E} {σ : aw_S} {t : Int32} (h : m_Rf_risky σ = some t) (hE : E = (some (.int t), xB, σ)) : aw_W l M_Rf_risky G B_Rf_risky E 0 [(0, .ref 0)] [] xB σ 0 0 := by
  unfold m_Rf_risky at h
  refine aw_iconst (pc := 0) (v := 0) dX12_risky_0 (by decide) ?_
  refine aw_istore_n (pc := 1) [(1, .int ((0 : Int32))), (0, .ref 0)] dX12_risky_1 (by decide) rfl ?_
  refine aw_iconst (pc := 2) (v := 0) dX12_risky_2 (by decide) ?_
  refine aw_istore_n (pc := 3) [(2, .int ((0 : Int32))), (1, .int ((0 : Int32))), (0, .ref 0)] dX12_risky_3 (by decide) rfl ?_
  obtain ⟨x9, hl10, h⟩ := aw_bde h
  have K11 : z_Rf_risky_Y4 l G E σ x9 := by
    show aw_W l M_Rf_risky G B_Rf_risky E 35 [(1, .int x9)] [] xB σ 0 0
    refine aw_iload_n (pc := 35) (q := 0) dX12_risky_35 rfl ?_
    cases h
    subst hE
    exact aw_iret (v := _) rfl aw_ni ⟨Nat.zero_le _, Nat.zero_le _⟩ dX12_risky_36
  refine aw_sub [2, 1, 0] rfl ?_
  show z_Rf_risky_X4 l G E σ (((0 : Int32), (0 : Int32)))
  exact aw_lp_X (Xp := z_Rf_risky_X4 l G E σ) (Y := z_Rf_risky_Y4 l G E σ) hl10 K11 (fun s t hf hz => t_Rf_risky_B4 hf hz)
theorem c_Rf_risky {l : Launch} {G : aw_G} {σ : aw_S} {t : Int32} (h : m_Rf_risky σ = some t) : aw_Ct l yX12_risky M_Rf_risky G B_Rf_risky [.ref 0] xB σ (some (.int t), xB, σ) := aw_Ct_of (by decide) rfl (fun h => by cases h) (Nat.le_of_ble_eq_true rfl) (t_Rf_risky h rfl)
/-! LateMoverModel.isExpression(I)Z -/
set_option maxRecDepth 100000 in
set_option maxHeartbeats 4000000 in
theorem t_Rf_isExpression {l : Launch} {G : aw_G} {E : aw_E} {σ : aw_S} {p1 : Int32} {t : Int32} (h : m_Rf_isExpression σ p1 = some t) (hE : E = (some (.int t), xB, σ)) : aw_W l M_Rf_isExpression G B_Rf_isExpression E 0 [(0, .ref 0), (1, .int p1)] [] xB σ 0 0 := by
  unfold m_Rf_isExpression at h
  refine aw_iload_n (pc := 0) (q := 1) dX12_isExpression_0 rfl ?_
  refine aw_iconst (pc := 1) (v := 0) dX12_isExpression_1 (by decide) ?_
  refine aw_aload_n (pc := 2) (q := 0) dX12_isExpression_2 rfl ?_
  refine aw_iconst (pc := 3) (v := 2) dX12_isExpression_3 (by decide) ?_
  obtain ⟨r1, e2, h⟩ := aw_bde h
  refine aw_cV1 (pc := 4) [.int ((2 : Int32))] (c_Rf_get e2) yy_Rf_get.1 wm_736 yy_Rf_get.2.1 yy_Rf_get.2.2 xB_0 ⟨_, _, rfl⟩ rfl ⟨Nat.le_of_ble_eq_true rfl, Nat.le_of_ble_eq_true rfl⟩ ⟨Nat.zero_le _, Nat.zero_le _⟩ (Nat.le_of_ble_eq_true rfl) dX12_isExpression_4 ?_
  refine aw_iconst (pc := 7) (v := 1) dX12_isExpression_7 (by decide) ?_
  refine aw_isub (pc := 8) dX12_isExpression_8 ?_
  obtain ⟨r3, e4, h⟩ := aw_bde h
  refine aw_cS1 (pc := 9) [.int p1, .int ((0 : Int32)), .int ((r1 - (1 : Int32)))] (c_Rf_isIn e4) yy_Rf_isIn.1 wm_255 yy_Rf_isIn.2 rfl ⟨Nat.le_of_ble_eq_true rfl, Nat.le_of_ble_eq_true rfl⟩ ⟨Nat.zero_le _, Nat.zero_le _⟩ (Nat.le_of_ble_eq_true rfl) dX12_isExpression_9 ?_
  obtain ⟨g5, h⟩ := aw_gde h
  cases h
  subst hE
  exact aw_iret (v := _) rfl (aw_nz g5) ⟨Nat.zero_le _, Nat.zero_le _⟩ dX12_isExpression_12
theorem c_Rf_isExpression {l : Launch} {G : aw_G} {σ : aw_S} {p1 : Int32} {t : Int32} (h : m_Rf_isExpression σ p1 = some t) : aw_Ct l yX12_isExpression M_Rf_isExpression G B_Rf_isExpression [.ref 0, .int p1] xB σ (some (.int t), xB, σ) := aw_Ct_of (by decide) rfl (fun h => by cases h) (Nat.le_of_ble_eq_true rfl) (t_Rf_isExpression h rfl)
/-! LateMoverModel.fact(III)I -/
set_option maxRecDepth 100000 in
set_option maxHeartbeats 4000000 in
theorem t_Rf_fact {l : Launch} {G : aw_G} {E : aw_E} {σ : aw_S} {p1 : Int32} {p2 : Int32} {p3 : Int32} {t : Int32} (h : m_Rf_fact σ p1 p2 p3 = some t) (hE : E = (some (.int t), xB, σ)) : aw_W l M_Rf_fact G B_Rf_fact E 0 [(0, .ref 0), (1, .int p1), (2, .int p2), (3, .int p3)] [] xB σ 0 0 := by
  unfold m_Rf_fact at h
  refine aw_aload_n (pc := 0) (q := 0) dX12_fact_0 rfl ?_
  refine aw_getI (pc := 1) fd_X12_253.r xB_0 rfl dX12_fact_1 ?_
  refine aw_if_eq (pc := 4) (tgt := 51) dX12_fact_4 (by decide) (fun c1 => ?_) (fun c1 => ?_)
  · replace h := aw_ifp c1 h
    refine aw_iconst (pc := 51) (v := -1) dX12_fact_51 (by decide) ?_
    cases h
    subst hE
    exact aw_iret (v := (-1 : Int32)) rfl aw_ni ⟨Nat.zero_le _, Nat.zero_le _⟩ dX12_fact_52
  · replace h := aw_ifn c1 h
    refine aw_aload_n (pc := 7) (q := 0) dX12_fact_7 rfl ?_
    refine aw_iload_n (pc := 8) (q := 1) dX12_fact_8 rfl ?_
    obtain ⟨r2, e3, h⟩ := aw_bde h
    refine aw_cV1 (pc := 9) [.int p1] (c_Rf_isExpression e3) yy_Rf_isExpression.1 wm_947 yy_Rf_isExpression.2.1 yy_Rf_isExpression.2.2 xB_0 ⟨_, _, rfl⟩ rfl ⟨Nat.le_of_ble_eq_true rfl, Nat.le_of_ble_eq_true rfl⟩ ⟨Nat.zero_le _, Nat.zero_le _⟩ (Nat.le_of_ble_eq_true rfl) dX12_fact_9 ?_
    refine aw_if_eq (pc := 12) (tgt := 51) dX12_fact_12 (by decide) (fun c4 => ?_) (fun c4 => ?_)
    · replace h := aw_ifp c4 h
      refine aw_iconst (pc := 51) (v := -1) dX12_fact_51 (by decide) ?_
      cases h
      subst hE
      exact aw_iret (v := (-1 : Int32)) rfl aw_ni ⟨Nat.zero_le _, Nat.zero_le _⟩ dX12_fact_52
    · replace h := aw_ifn c4 h
      refine aw_aload_n (pc := 15) (q := 0) dX12_fact_15 rfl ?_
      refine aw_iload_n (pc := 16) (q := 2) dX12_fact_16 rfl ?_
      obtain ⟨r5, e6, h⟩ := aw_bde h
      refine aw_cV1 (pc := 17) [.int p2] (c_Rf_isNode e6) yy_Rf_isNode.1 wm_924 yy_Rf_isNode.2.1 yy_Rf_isNode.2.2 xB_0 ⟨_, _, rfl⟩ rfl ⟨Nat.le_of_ble_eq_true rfl, Nat.le_of_ble_eq_true rfl⟩ ⟨Nat.zero_le _, Nat.zero_le _⟩ (Nat.le_of_ble_eq_true rfl) dX12_fact_17 ?_
      refine aw_if_eq (pc := 20) (tgt := 51) dX12_fact_20 (by decide) (fun c7 => ?_) (fun c7 => ?_)
      · replace h := aw_ifp c7 h
        refine aw_iconst (pc := 51) (v := -1) dX12_fact_51 (by decide) ?_
        cases h
        subst hE
        exact aw_iret (v := (-1 : Int32)) rfl aw_ni ⟨Nat.zero_le _, Nat.zero_le _⟩ dX12_fact_52
      · replace h := aw_ifn c7 h
        refine aw_iload_n (pc := 23) (q := 3) dX12_fact_23 rfl ?_
        refine aw_iconst (pc := 24) (v := 0) dX12_fact_24 (by decide) ?_
        refine aw_bipush (pc := 25) (v := 7) dX12_fact_25 (by decide) ?_
        obtain ⟨r8, e9, h⟩ := aw_bde h
        refine aw_cS1 (pc := 27) [.int p3, .int ((0 : Int32)), .int ((7 : Int32))] (c_Rf_isIn e9) yy_Rf_isIn.1 wm_255 yy_Rf_isIn.2 rfl ⟨Nat.le_of_ble_eq_true rfl, Nat.le_of_ble_eq_true rfl⟩ ⟨Nat.zero_le _, Nat.zero_le _⟩ (Nat.le_of_ble_eq_true rfl) dX12_fact_27 ?_
        refine aw_if_eq (pc := 30) (tgt := 51) dX12_fact_30 (by decide) (fun c10 => ?_) (fun c10 => ?_)
        · replace h := aw_ifp c10 h
          refine aw_iconst (pc := 51) (v := -1) dX12_fact_51 (by decide) ?_
          cases h
          subst hE
          exact aw_iret (v := (-1 : Int32)) rfl aw_ni ⟨Nat.zero_le _, Nat.zero_le _⟩ dX12_fact_52
        · replace h := aw_ifn c10 h
          refine aw_aload_n (pc := 33) (q := 0) dX12_fact_33 rfl ?_
          refine aw_iload_n (pc := 34) (q := 3) dX12_fact_34 rfl ?_
          refine aw_iload_n (pc := 35) (q := 1) dX12_fact_35 rfl ?_
          refine aw_iload_n (pc := 36) (q := 2) dX12_fact_36 rfl ?_
          obtain ⟨r11, e12, h⟩ := aw_bde h
          refine aw_cV1 (pc := 37) [.int p3, .int p1, .int p2] (c_Rf_so e12) yy_Rf_so.1 wm_803 yy_Rf_so.2.1 yy_Rf_so.2.2 xB_0 ⟨_, _, rfl⟩ rfl ⟨Nat.le_of_ble_eq_true rfl, Nat.le_of_ble_eq_true rfl⟩ ⟨Nat.zero_le _, Nat.zero_le _⟩ (Nat.le_of_ble_eq_true rfl) dX12_fact_37 ?_
          refine aw_if_eq (pc := 40) (tgt := 47) dX12_fact_40 (by decide) (fun c13 => ?_) (fun c13 => ?_)
          · replace h := aw_ifp c13 h
            refine aw_iconst (pc := 47) (v := 0) dX12_fact_47 (by decide) ?_
            refine aw_goto (pc := 48) (tgt := 52) dX12_fact_48 (by decide) ?_
            cases h
            subst hE
            exact aw_iret (v := (0 : Int32)) rfl aw_ni ⟨Nat.zero_le _, Nat.zero_le _⟩ dX12_fact_52
          · replace h := aw_ifn c13 h
            refine aw_iconst (pc := 43) (v := 1) dX12_fact_43 (by decide) ?_
            refine aw_goto (pc := 44) (tgt := 52) dX12_fact_44 (by decide) ?_
            cases h
            subst hE
            exact aw_iret (v := (1 : Int32)) rfl aw_ni ⟨Nat.zero_le _, Nat.zero_le _⟩ dX12_fact_52
theorem c_Rf_fact {l : Launch} {G : aw_G} {σ : aw_S} {p1 : Int32} {p2 : Int32} {p3 : Int32} {t : Int32} (h : m_Rf_fact σ p1 p2 p3 = some t) : aw_Ct l yX12_fact M_Rf_fact G B_Rf_fact [.ref 0, .int p1, .int p2, .int p3] xB σ (some (.int t), xB, σ) := aw_Ct_of (by decide) rfl (fun h => by cases h) (Nat.le_of_ble_eq_true rfl) (t_Rf_fact h rfl)
/-! LateMoverModel.isHow(I)Z -/
set_option maxRecDepth 100000 in
set_option maxHeartbeats 4000000 in
theorem t_Rf_isHow {l : Launch} {G : aw_G} {E : aw_E} {σ : aw_S} {p0 : Int32} {t : Int32} (h : m_Rf_isHow σ p0 = some t) (hE : E = (some (.int t), xB, σ)) : aw_W l M_Rf_isHow G B_Rf_isHow E 0 [(0, .int p0)] [] xB σ 0 0 := by
  unfold m_Rf_isHow at h
  refine aw_iload_n (pc := 0) (q := 0) dX12_isHow_0 rfl ?_
  refine aw_iconst (pc := 1) (v := 0) dX12_isHow_1 (by decide) ?_
  refine aw_iconst (pc := 2) (v := 1) dX12_isHow_2 (by decide) ?_
  obtain ⟨r1, e2, h⟩ := aw_bde h
  refine aw_cS1 (pc := 3) [.int p0, .int ((0 : Int32)), .int ((1 : Int32))] (c_Rf_isIn e2) yy_Rf_isIn.1 wm_255 yy_Rf_isIn.2 rfl ⟨Nat.le_of_ble_eq_true rfl, Nat.le_of_ble_eq_true rfl⟩ ⟨Nat.zero_le _, Nat.zero_le _⟩ (Nat.le_of_ble_eq_true rfl) dX12_isHow_3 ?_
  obtain ⟨g3, h⟩ := aw_gde h
  cases h
  subst hE
  exact aw_iret (v := _) rfl (aw_nz g3) ⟨Nat.zero_le _, Nat.zero_le _⟩ dX12_isHow_6
theorem c_Rf_isHow {l : Launch} {G : aw_G} {σ : aw_S} {p0 : Int32} {t : Int32} (h : m_Rf_isHow σ p0 = some t) : aw_Ct l yX12_isHow M_Rf_isHow G B_Rf_isHow [.int p0] xB σ (some (.int t), xB, σ) := aw_Ct_of (by decide) rfl (fun h => by cases h) (Nat.le_of_ble_eq_true rfl) (t_Rf_isHow h rfl)
/-! LateMoverModel.placed(IIII)I -/
set_option maxRecDepth 100000 in
set_option maxHeartbeats 4000000 in
theorem t_Rf_placed {l : Launch} {G : aw_G} {E : aw_E} {σ : aw_S} {p1 : Int32} {p2 : Int32} {p3 : Int32} {p4 : Int32} {t : Int32} (h : m_Rf_placed σ p1 p2 p3 p4 = some t) (hE : E = (some (.int t), xB, σ)) : aw_W l M_Rf_placed G B_Rf_placed E 0 [(0, .ref 0), (1, .int p1), (2, .int p2), (3, .int p3), (4, .int p4)] [] xB σ 0 0 := by
  unfold m_Rf_placed at h
  refine aw_aload_n (pc := 0) (q := 0) dX12_placed_0 rfl ?_
  refine aw_getI (pc := 1) fd_X12_253.r xB_0 rfl dX12_placed_1 ?_
  refine aw_if_eq (pc := 4) (tgt := 64) dX12_placed_4 (by decide) (fun c1 => ?_) (fun c1 => ?_)
  · replace h := aw_ifp c1 h
    refine aw_iconst (pc := 64) (v := -1) dX12_placed_64 (by decide) ?_
    cases h
    subst hE
    exact aw_iret (v := (-1 : Int32)) rfl aw_ni ⟨Nat.zero_le _, Nat.zero_le _⟩ dX12_placed_65
  · replace h := aw_ifn c1 h
    refine aw_aload_n (pc := 7) (q := 0) dX12_placed_7 rfl ?_
    refine aw_iload_n (pc := 8) (q := 1) dX12_placed_8 rfl ?_
    obtain ⟨r2, e3, h⟩ := aw_bde h
    refine aw_cV1 (pc := 9) [.int p1] (c_Rf_isExpression e3) yy_Rf_isExpression.1 wm_947 yy_Rf_isExpression.2.1 yy_Rf_isExpression.2.2 xB_0 ⟨_, _, rfl⟩ rfl ⟨Nat.le_of_ble_eq_true rfl, Nat.le_of_ble_eq_true rfl⟩ ⟨Nat.zero_le _, Nat.zero_le _⟩ (Nat.le_of_ble_eq_true rfl) dX12_placed_9 ?_
    refine aw_if_eq (pc := 12) (tgt := 64) dX12_placed_12 (by decide) (fun c4 => ?_) (fun c4 => ?_)
    · replace h := aw_ifp c4 h
      refine aw_iconst (pc := 64) (v := -1) dX12_placed_64 (by decide) ?_
      cases h
      subst hE
      exact aw_iret (v := (-1 : Int32)) rfl aw_ni ⟨Nat.zero_le _, Nat.zero_le _⟩ dX12_placed_65
    · replace h := aw_ifn c4 h
      refine aw_aload_n (pc := 15) (q := 0) dX12_placed_15 rfl ?_
      refine aw_iload_n (pc := 16) (q := 2) dX12_placed_16 rfl ?_
      obtain ⟨r5, e6, h⟩ := aw_bde h
      refine aw_cV1 (pc := 17) [.int p2] (c_Rf_isNode e6) yy_Rf_isNode.1 wm_924 yy_Rf_isNode.2.1 yy_Rf_isNode.2.2 xB_0 ⟨_, _, rfl⟩ rfl ⟨Nat.le_of_ble_eq_true rfl, Nat.le_of_ble_eq_true rfl⟩ ⟨Nat.zero_le _, Nat.zero_le _⟩ (Nat.le_of_ble_eq_true rfl) dX12_placed_17 ?_
      refine aw_if_eq (pc := 20) (tgt := 64) dX12_placed_20 (by decide) (fun c7 => ?_) (fun c7 => ?_)
      · replace h := aw_ifp c7 h
        refine aw_iconst (pc := 64) (v := -1) dX12_placed_64 (by decide) ?_
        cases h
        subst hE
        exact aw_iret (v := (-1 : Int32)) rfl aw_ni ⟨Nat.zero_le _, Nat.zero_le _⟩ dX12_placed_65
      · replace h := aw_ifn c7 h
        refine aw_iload_n (pc := 23) (q := 3) dX12_placed_23 rfl ?_
        obtain ⟨r8, e9, h⟩ := aw_bde h
        refine aw_cS1 (pc := 24) [.int p3] (c_Rf_isHow e9) yy_Rf_isHow.1 wm_994 yy_Rf_isHow.2 rfl ⟨Nat.le_of_ble_eq_true rfl, Nat.le_of_ble_eq_true rfl⟩ ⟨Nat.zero_le _, Nat.zero_le _⟩ (Nat.le_of_ble_eq_true rfl) dX12_placed_24 ?_
        refine aw_if_eq (pc := 27) (tgt := 64) dX12_placed_27 (by decide) (fun c10 => ?_) (fun c10 => ?_)
        · replace h := aw_ifp c10 h
          refine aw_iconst (pc := 64) (v := -1) dX12_placed_64 (by decide) ?_
          cases h
          subst hE
          exact aw_iret (v := (-1 : Int32)) rfl aw_ni ⟨Nat.zero_le _, Nat.zero_le _⟩ dX12_placed_65
        · replace h := aw_ifn c10 h
          refine aw_iload (pc := 30) (q := 4) dX12_placed_30 rfl ?_
          refine aw_iconst (pc := 32) (v := 0) dX12_placed_32 (by decide) ?_
          refine aw_iconst (pc := 33) (v := 2) dX12_placed_33 (by decide) ?_
          obtain ⟨r11, e12, h⟩ := aw_bde h
          refine aw_cS1 (pc := 34) [.int p4, .int ((0 : Int32)), .int ((2 : Int32))] (c_Rf_isIn e12) yy_Rf_isIn.1 wm_255 yy_Rf_isIn.2 rfl ⟨Nat.le_of_ble_eq_true rfl, Nat.le_of_ble_eq_true rfl⟩ ⟨Nat.zero_le _, Nat.zero_le _⟩ (Nat.le_of_ble_eq_true rfl) dX12_placed_34 ?_
          refine aw_if_eq (pc := 37) (tgt := 64) dX12_placed_37 (by decide) (fun c13 => ?_) (fun c13 => ?_)
          · replace h := aw_ifp c13 h
            refine aw_iconst (pc := 64) (v := -1) dX12_placed_64 (by decide) ?_
            cases h
            subst hE
            exact aw_iret (v := (-1 : Int32)) rfl aw_ni ⟨Nat.zero_le _, Nat.zero_le _⟩ dX12_placed_65
          · replace h := aw_ifn c13 h
            refine aw_aload_n (pc := 40) (q := 0) dX12_placed_40 rfl ?_
            refine aw_getC (pc := 41) fd_X12_52.r xB_0 rfl dX12_placed_41 ?_
            refine aw_iload_n (pc := 44) (q := 3) dX12_placed_44 rfl ?_
            refine aw_iload (pc := 45) (q := 4) dX12_placed_45 rfl ?_
            refine aw_iload_n (pc := 47) (q := 1) dX12_placed_47 rfl ?_
            refine aw_iload_n (pc := 48) (q := 2) dX12_placed_48 rfl ?_
            obtain ⟨r14, e15, h⟩ := aw_bde h
            refine aw_cS1 (pc := 49) [.int p3, .int p4, .int p1, .int p2] (c_Rf_at e15) yy_Rf_at.1 wm_827 yy_Rf_at.2 rfl ⟨Nat.le_of_ble_eq_true rfl, Nat.le_of_ble_eq_true rfl⟩ ⟨Nat.zero_le _, Nat.zero_le _⟩ (Nat.le_of_ble_eq_true rfl) dX12_placed_49 ?_
            obtain ⟨g16, h⟩ := aw_gde h
            refine aw_zald (pc := 52) xB_13 g16 dX12_placed_52 ?_
            refine aw_if_eq (pc := 53) (tgt := 60) dX12_placed_53 (by decide) (fun c17 => ?_) (fun c17 => ?_)
            · replace h := aw_ifp c17 h
              refine aw_iconst (pc := 60) (v := 0) dX12_placed_60 (by decide) ?_
              refine aw_goto (pc := 61) (tgt := 65) dX12_placed_61 (by decide) ?_
              cases h
              subst hE
              exact aw_iret (v := (0 : Int32)) rfl aw_ni ⟨Nat.zero_le _, Nat.zero_le _⟩ dX12_placed_65
            · replace h := aw_ifn c17 h
              refine aw_iconst (pc := 56) (v := 1) dX12_placed_56 (by decide) ?_
              refine aw_goto (pc := 57) (tgt := 65) dX12_placed_57 (by decide) ?_
              cases h
              subst hE
              exact aw_iret (v := (1 : Int32)) rfl aw_ni ⟨Nat.zero_le _, Nat.zero_le _⟩ dX12_placed_65
theorem c_Rf_placed {l : Launch} {G : aw_G} {σ : aw_S} {p1 : Int32} {p2 : Int32} {p3 : Int32} {p4 : Int32} {t : Int32} (h : m_Rf_placed σ p1 p2 p3 p4 = some t) : aw_Ct l yX12_placed M_Rf_placed G B_Rf_placed [.ref 0, .int p1, .int p2, .int p3, .int p4] xB σ (some (.int t), xB, σ) := aw_Ct_of (by decide) rfl (fun h => by cases h) (Nat.le_of_ble_eq_true rfl) (t_Rf_placed h rfl)
/-! LateMoverModel.expression(II)I -/
def z_Rf_expression_X95 (l : Launch) (G : aw_G) (E : aw_E) (σ : aw_S) (v1 : Int32) (v2 : Int32) (s : Int32 × Int32) : Prop := aw_W l M_Rf_expression G B_Rf_expression E 95 [(0, .ref 0), (1, .int v1), (2, .int v2), (3, .int s.1), (4, .int s.2)] [] xB σ 0 0
def z_Rf_expression_Y95 (l : Launch) (G : aw_G) (E : aw_E) (σ : aw_S) (v1 : Int32) (v2 : Int32) (x : (Int32)) : Prop := aw_W l M_Rf_expression G B_Rf_expression E 141 [(3, .int x)] [] xB σ 0 0
set_option maxRecDepth 100000 in
set_option maxHeartbeats 4000000 in
theorem t_Rf_expression_J62 {l : Launch} {G : aw_G} {E : aw_E} {σ : aw_S} {v1 : Int32} {v2 : Int32} {t : Int32} (h : m_Rf_expression_J62 σ v1 v2 = some t) (hE : E = (some (.int t), xB, σ)) : aw_W l M_Rf_expression G B_Rf_expression E 62 [(0, .ref 0), (1, .int v1), (2, .int v2)] [] xB σ 0 0 := by
  unfold m_Rf_expression_J62 at h
  refine aw_aload_n (pc := 62) (q := 0) dX12_expression_62 rfl ?_
  refine aw_sipush (pc := 63) (v := 292) dX12_expression_63 (by decide) ?_
  refine aw_iconst (pc := 66) (v := 2) dX12_expression_66 (by decide) ?_
  refine aw_iload_n (pc := 67) (q := 1) dX12_expression_67 rfl ?_
  refine aw_imul (pc := 68) dX12_expression_68 ?_
  refine aw_iadd (pc := 69) dX12_expression_69 ?_
  refine aw_iload_n (pc := 70) (q := 2) dX12_expression_70 rfl ?_
  refine aw_iadd (pc := 71) dX12_expression_71 ?_
  refine aw_iconst (pc := 72) (v := 1) dX12_expression_72 (by decide) ?_
  refine aw_isub (pc := 73) dX12_expression_73 ?_
  obtain ⟨r8, e9, h⟩ := aw_bde h
  refine aw_cV1 (pc := 74) [.int (((((292 : Int32) + ((2 : Int32) * v1)) + v2) - (1 : Int32)))] (c_Rf_get e9) yy_Rf_get.1 wm_736 yy_Rf_get.2.1 yy_Rf_get.2.2 xB_0 ⟨_, _, rfl⟩ rfl ⟨Nat.le_of_ble_eq_true rfl, Nat.le_of_ble_eq_true rfl⟩ ⟨Nat.zero_le _, Nat.zero_le _⟩ (Nat.le_of_ble_eq_true rfl) dX12_expression_74 ?_
  cases h
  subst hE
  exact aw_iret (v := _) rfl aw_ni ⟨Nat.zero_le _, Nat.zero_le _⟩ dX12_expression_77
set_option maxRecDepth 100000 in
set_option maxHeartbeats 4000000 in
theorem t_Rf_expression_J133 {l : Launch} {G : aw_G} {E : aw_E} {σ : aw_S} {v1 : Int32} {v2 : Int32} {v4 : Int32} {k0 : Int32} {k1 : Int32} {t : (Int32) ⊕ (Int32 × Int32)} (h : m_Rf_expression_J133 σ v1 v2 v4 k0 k1 = some t) (hz : Sum.elim (z_Rf_expression_Y95 l G E σ v1 v2) (z_Rf_expression_X95 l G E σ v1 v2) t) : aw_W l M_Rf_expression G B_Rf_expression E 133 [(0, .ref 0), (1, .int v1), (2, .int v2), (4, .int v4)] [.int k1, .int k0] xB σ 0 0 := by
  unfold m_Rf_expression_J133 at h
  refine aw_iadd (pc := 133) dX12_expression_133 ?_
  refine aw_nmI (fun x21 e_x21 => ?_)
  replace h := aw_lte h x21 e_x21
  refine aw_istore_n (pc := 134) [(3, .int x21), (0, .ref 0), (1, .int v1), (2, .int v2), (4, .int v4)] dX12_expression_134 (by decide) rfl ?_
  obtain ⟨x22, e_x22⟩ : ∃ z, z = (v4 + (1 : Int32)) := ⟨_, rfl⟩
  replace h := aw_lte h x22 e_x22
  refine aw_iinc (pc := 135) (q := 4) (v := x22) [(4, .int x22), (3, .int x21), (0, .ref 0), (1, .int v1), (2, .int v2)] dX12_expression_135 rfl e_x22.symm (by decide) rfl ?_
  refine aw_goto (pc := 138) (tgt := 95) dX12_expression_138 (by decide) ?_
  refine aw_sub [2, 3, 4, 1, 0] rfl ?_
  cases h
  exact hz
set_option maxRecDepth 100000 in
set_option maxHeartbeats 4000000 in
theorem t_Rf_expression_J125 {l : Launch} {G : aw_G} {E : aw_E} {σ : aw_S} {v1 : Int32} {v2 : Int32} {v4 : Int32} {k0 : Int32} {k1 : Int32} {k2 : Int32} {t : (Int32) ⊕ (Int32 × Int32)} (h : m_Rf_expression_J125 σ v1 v2 v4 k0 k1 k2 = some t) (hz : Sum.elim (z_Rf_expression_Y95 l G E σ v1 v2) (z_Rf_expression_X95 l G E σ v1 v2) t) : aw_W l M_Rf_expression G B_Rf_expression E 125 [(0, .ref 0), (1, .int v1), (2, .int v2), (4, .int v4)] [.int k2, .int k1, .int k0] xB σ 0 0 := by
  unfold m_Rf_expression_J125 at h
  refine aw_icmp_ne (pc := 125) (tgt := 132) dX12_expression_125 (by decide) (fun c20 => ?_) (fun c20 => ?_)
  · replace h := aw_ifn c20 h
    refine aw_iconst (pc := 132) (v := 0) dX12_expression_132 (by decide) ?_
    exact t_Rf_expression_J133 h hz
  · replace h := aw_ifp c20 h
    refine aw_iconst (pc := 128) (v := 1) dX12_expression_128 (by decide) ?_
    refine aw_goto (pc := 129) (tgt := 133) dX12_expression_129 (by decide) ?_
    exact t_Rf_expression_J133 h hz
set_option maxRecDepth 100000 in
set_option maxHeartbeats 4000000 in
theorem t_Rf_expression_B95 {l : Launch} {G : aw_G} {E : aw_E} {σ : aw_S} {v1 : Int32} {v2 : Int32} {v3 : Int32} {v4 : Int32} {t : (Int32) ⊕ (Int32 × Int32)} (h : m_Rf_expression_B95 σ v1 v2 v3 v4 = some t) (hz : Sum.elim (z_Rf_expression_Y95 l G E σ v1 v2) (z_Rf_expression_X95 l G E σ v1 v2) t) : aw_W l M_Rf_expression G B_Rf_expression E 95 [(0, .ref 0), (1, .int v1), (2, .int v2), (3, .int v3), (4, .int v4)] [] xB σ 0 0 := by
  unfold m_Rf_expression_B95 at h
  refine aw_iload (pc := 95) (q := 4) dX12_expression_95 rfl ?_
  refine aw_aload_n (pc := 97) (q := 0) dX12_expression_97 rfl ?_
  refine aw_getI (pc := 98) fd_X12_215.r xB_0 rfl dX12_expression_98 ?_
  refine aw_icmp_ge (pc := 101) (tgt := 141) dX12_expression_101 (by decide) (fun c16 => ?_) (fun c16 => ?_)
  · replace h := aw_ifp c16 h
    refine aw_sub [3] rfl ?_
    cases h
    exact hz
  · replace h := aw_ifn c16 h
    refine aw_iload_n (pc := 104) (q := 3) dX12_expression_104 rfl ?_
    refine aw_aload_n (pc := 105) (q := 0) dX12_expression_105 rfl ?_
    refine aw_iload_n (pc := 106) (q := 2) dX12_expression_106 rfl ?_
    refine aw_iconst (pc := 107) (v := 4) dX12_expression_107 (by decide) ?_
    refine aw_isub (pc := 108) dX12_expression_108 ?_
    refine aw_iload_n (pc := 109) (q := 1) dX12_expression_109 rfl ?_
    refine aw_iload (pc := 110) (q := 4) dX12_expression_110 rfl ?_
    obtain ⟨r17, e18, h⟩ := aw_bde h
    refine aw_cV1 (pc := 112) [.int ((v2 - (4 : Int32))), .int v1, .int v4] (c_Rf_so e18) yy_Rf_so.1 wm_803 yy_Rf_so.2.1 yy_Rf_so.2.2 xB_0 ⟨_, _, rfl⟩ rfl ⟨Nat.le_of_ble_eq_true rfl, Nat.le_of_ble_eq_true rfl⟩ ⟨Nat.zero_le _, Nat.zero_le _⟩ (Nat.le_of_ble_eq_true rfl) dX12_expression_112 ?_
    refine aw_iload_n (pc := 115) (q := 2) dX12_expression_115 rfl ?_
    refine aw_iconst (pc := 116) (v := 4) dX12_expression_116 (by decide) ?_
    refine aw_icmp_ne (pc := 117) (tgt := 124) dX12_expression_117 (by decide) (fun c19 => ?_) (fun c19 => ?_)
    · replace h := aw_ifn c19 h
      refine aw_iconst (pc := 124) (v := 0) dX12_expression_124 (by decide) ?_
      refine aw_sub [0, 1, 2, 4] rfl ?_
      exact t_Rf_expression_J125 h hz
    · replace h := aw_ifp c19 h
      refine aw_iconst (pc := 120) (v := 1) dX12_expression_120 (by decide) ?_
      refine aw_goto (pc := 121) (tgt := 125) dX12_expression_121 (by decide) ?_
      refine aw_sub [0, 1, 2, 4] rfl ?_
      exact t_Rf_expression_J125 h hz
set_option maxRecDepth 100000 in
set_option maxHeartbeats 4000000 in
theorem t_Rf_expression_J92 {l : Launch} {G : aw_G} {E : aw_E} {σ : aw_S} {v1 : Int32} {v2 : Int32} {v3 : Int32} {t : Int32} (h : m_Rf_expression_J92 σ v1 v2 v3 = some t) (hE : E = (some (.int t), xB, σ)) : aw_W l M_Rf_expression G B_Rf_expression E 92 [(0, .ref 0), (1, .int v1), (2, .int v2), (3, .int v3)] [] xB σ 0 0 := by
  unfold m_Rf_expression_J92 at h
  refine aw_iconst (pc := 92) (v := 0) dX12_expression_92 (by decide) ?_
  refine aw_istore (pc := 93) [(4, .int ((0 : Int32))), (0, .ref 0), (1, .int v1), (2, .int v2), (3, .int v3)] dX12_expression_93 (by decide) rfl ?_
  obtain ⟨x23, hl24, h⟩ := aw_bde h
  have K25 : z_Rf_expression_Y95 l G E σ v1 v2 x23 := by
    show aw_W l M_Rf_expression G B_Rf_expression E 141 [(3, .int x23)] [] xB σ 0 0
    refine aw_iload_n (pc := 141) (q := 0) dX12_expression_141 rfl ?_
    cases h
    subst hE
    exact aw_iret (v := _) rfl aw_ni ⟨Nat.zero_le _, Nat.zero_le _⟩ dX12_expression_142
  refine aw_sub [1, 2, 3, 4, 0] rfl ?_
  show z_Rf_expression_X95 l G E σ v1 v2 ((v3, (0 : Int32)))
  exact aw_lp_X (Xp := z_Rf_expression_X95 l G E σ v1 v2) (Y := z_Rf_expression_Y95 l G E σ v1 v2) hl24 K25 (fun s t hf hz => t_Rf_expression_B95 hf hz)
set_option maxRecDepth 100000 in
set_option maxHeartbeats 4000000 in
theorem t_Rf_expression {l : Launch} {G : aw_G} {E : aw_E} {σ : aw_S} {p1 : Int32} {p2 : Int32} {t : Int32} (h : m_Rf_expression σ p1 p2 = some t) (hE : E = (some (.int t), xB, σ)) : aw_W l M_Rf_expression G B_Rf_expression E 0 [(0, .ref 0), (1, .int p1), (2, .int p2)] [] xB σ 0 0 := by
  unfold m_Rf_expression at h
  refine aw_aload_n (pc := 0) (q := 0) dX12_expression_0 rfl ?_
  refine aw_iload_n (pc := 1) (q := 1) dX12_expression_1 rfl ?_
  obtain ⟨r1, e2, h⟩ := aw_bde h
  refine aw_cV1 (pc := 2) [.int p1] (c_Rf_isExpression e2) yy_Rf_isExpression.1 wm_947 yy_Rf_isExpression.2.1 yy_Rf_isExpression.2.2 xB_0 ⟨_, _, rfl⟩ rfl ⟨Nat.le_of_ble_eq_true rfl, Nat.le_of_ble_eq_true rfl⟩ ⟨Nat.zero_le _, Nat.zero_le _⟩ (Nat.le_of_ble_eq_true rfl) dX12_expression_2 ?_
  refine aw_if_ne (pc := 5) (tgt := 11) dX12_expression_5 (by decide) (fun c3 => ?_) (fun c3 => ?_)
  · replace h := aw_ifn c3 h
    refine aw_iconst (pc := 11) (v := 0) dX12_expression_11 (by decide) ?_
    refine aw_istore_n (pc := 12) [(3, .int ((0 : Int32))), (0, .ref 0), (1, .int p1), (2, .int p2)] dX12_expression_12 (by decide) rfl ?_
    refine aw_iload_n (pc := 13) (q := 3) dX12_expression_13 rfl ?_
    by_cases c4 : p2 = (0 : Int32)
    · replace h := aw_ifp c4 h
      refine aw_tableIn (pc := 14) (tgt := 52) dX12_expression_14 0 (by rw [c4]; decide) (by decide) rfl (by decide) ?_
      refine aw_aload_n (pc := 52) (q := 1) dX12_expression_52 rfl ?_
      refine aw_sipush (pc := 53) (v := 268) dX12_expression_53 (by decide) ?_
      refine aw_iload_n (pc := 56) (q := 2) dX12_expression_56 rfl ?_
      refine aw_iadd (pc := 57) dX12_expression_57 ?_
      obtain ⟨r5, e6, h⟩ := aw_bde h
      refine aw_cV1 (pc := 58) [.int (((268 : Int32) + p1))] (c_Rf_get e6) yy_Rf_get.1 wm_736 yy_Rf_get.2.1 yy_Rf_get.2.2 xB_0 ⟨_, _, rfl⟩ rfl ⟨Nat.le_of_ble_eq_true rfl, Nat.le_of_ble_eq_true rfl⟩ ⟨Nat.zero_le _, Nat.zero_le _⟩ (Nat.le_of_ble_eq_true rfl) dX12_expression_58 ?_
      cases h
      subst hE
      exact aw_iret (v := _) rfl aw_ni ⟨Nat.zero_le _, Nat.zero_le _⟩ dX12_expression_61
    · replace h := aw_ifn c4 h
      by_cases c7 : p2 = (1 : Int32)
      · replace h := aw_ifp c7 h
        refine aw_tableIn (pc := 14) (tgt := 62) dX12_expression_14 1 (by rw [c7]; decide) (by decide) rfl (by decide) ?_
        refine aw_sub [1, 2, 3] rfl ?_
        exact t_Rf_expression_J62 h hE
      · replace h := aw_ifn c7 h
        by_cases c10 : p2 = (2 : Int32)
        · replace h := aw_ifp c10 h
          refine aw_tableIn (pc := 14) (tgt := 62) dX12_expression_14 2 (by rw [c10]; decide) (by decide) rfl (by decide) ?_
          refine aw_sub [1, 2, 3] rfl ?_
          exact t_Rf_expression_J62 h hE
        · replace h := aw_ifn c10 h
          by_cases c11 : p2 = (3 : Int32)
          · replace h := aw_ifp c11 h
            refine aw_tableIn (pc := 14) (tgt := 78) dX12_expression_14 3 (by rw [c11]; decide) (by decide) rfl (by decide) ?_
            refine aw_aload_n (pc := 78) (q := 1) dX12_expression_78 rfl ?_
            refine aw_iload_n (pc := 79) (q := 2) dX12_expression_79 rfl ?_
            obtain ⟨r12, e13, h⟩ := aw_bde h
            refine aw_cV1 (pc := 80) [.int p1] (c_Rf_isRisky e13) yy_Rf_isRisky.1 wm_795 yy_Rf_isRisky.2.1 yy_Rf_isRisky.2.2 xB_0 ⟨_, _, rfl⟩ rfl ⟨Nat.le_of_ble_eq_true rfl, Nat.le_of_ble_eq_true rfl⟩ ⟨Nat.zero_le _, Nat.zero_le _⟩ (Nat.le_of_ble_eq_true rfl) dX12_expression_80 ?_
            refine aw_if_eq (pc := 83) (tgt := 90) dX12_expression_83 (by decide) (fun c14 => ?_) (fun c14 => ?_)
            · replace h := aw_ifp c14 h
              refine aw_iconst (pc := 90) (v := 0) dX12_expression_90 (by decide) ?_
              cases h
              subst hE
              exact aw_iret (v := (0 : Int32)) rfl aw_ni ⟨Nat.zero_le _, Nat.zero_le _⟩ dX12_expression_91
            · replace h := aw_ifn c14 h
              refine aw_iconst (pc := 86) (v := 1) dX12_expression_86 (by decide) ?_
              refine aw_goto (pc := 87) (tgt := 91) dX12_expression_87 (by decide) ?_
              cases h
              subst hE
              exact aw_iret (v := (1 : Int32)) rfl aw_ni ⟨Nat.zero_le _, Nat.zero_le _⟩ dX12_expression_91
          · replace h := aw_ifn c11 h
            by_cases c15 : p2 = (4 : Int32)
            · replace h := aw_ifp c15 h
              refine aw_tableIn (pc := 14) (tgt := 92) dX12_expression_14 4 (by rw [c15]; decide) (by decide) rfl (by decide) ?_
              refine aw_sub [1, 2, 3, 0] rfl ?_
              exact t_Rf_expression_J92 h hE
            · replace h := aw_ifn c15 h
              by_cases c26 : p2 = (5 : Int32)
              · replace h := aw_ifp c26 h
                refine aw_tableIn (pc := 14) (tgt := 92) dX12_expression_14 5 (by rw [c26]; decide) (by decide) rfl (by decide) ?_
                refine aw_sub [1, 2, 3, 0] rfl ?_
                exact t_Rf_expression_J92 h hE
              · replace h := aw_ifn c26 h
                refine aw_tableOut (pc := 14) (tgt := 143) dX12_expression_14 (aw_tout 0 5 (fun k h1 h2 => by
                  have hk : k = 0 ∨ k = 1 ∨ k = 2 ∨ k = 3 ∨ k = 4 ∨ k = 5 := by omega
                  rcases hk with rfl | rfl | rfl | rfl | rfl | rfl
                  · exact fun e => c4 (e.trans (by decide))
                  · exact fun e => c7 (e.trans (by decide))
                  · exact fun e => c10 (e.trans (by decide))
                  · exact fun e => c11 (e.trans (by decide))
                  · exact fun e => c15 (e.trans (by decide))
                  · exact fun e => c26 (e.trans (by decide)))) (by decide) ?_
                refine aw_bipush (pc := 143) (v := -2) dX12_expression_143 (by decide) ?_
                cases h
                subst hE
                exact aw_iret (v := (-2 : Int32)) rfl aw_ni ⟨Nat.zero_le _, Nat.zero_le _⟩ dX12_expression_145
  · replace h := aw_ifp c3 h
    refine aw_bipush (pc := 8) (v := -2) dX12_expression_8 (by decide) ?_
    cases h
    subst hE
    exact aw_iret (v := (-2 : Int32)) rfl aw_ni ⟨Nat.zero_le _, Nat.zero_le _⟩ dX12_expression_10
theorem c_Rf_expression {l : Launch} {G : aw_G} {σ : aw_S} {p1 : Int32} {p2 : Int32} {t : Int32} (h : m_Rf_expression σ p1 p2 = some t) : aw_Ct l yX12_expression M_Rf_expression G B_Rf_expression [.ref 0, .int p1, .int p2] xB σ (some (.int t), xB, σ) := aw_Ct_of (by decide) rfl (fun h => by cases h) (Nat.le_of_ble_eq_true rfl) (t_Rf_expression h rfl)
/-! LateMoverModel.doClash(III)Z -/
def z_Rf_doClash_X3 (l : Launch) (G : aw_G) (E : aw_E) (σ : aw_S) (v1 : Int32) (v2 : Int32) (v3 : Int32) (s : Int32) : Prop := aw_W l M_Rf_doClash G B_Rf_doClash E 3 [(0, .ref 0), (1, .int v1), (2, .int v2), (3, .int v3), (4, .int s)] [] xB σ 0 0
def z_Rf_doClash_Y3 (l : Launch) (G : aw_G) (E : aw_E) (σ : aw_S) (v1 : Int32) (v2 : Int32) (v3 : Int32) (x : ((Int32) ⊕ (Unit))) : Prop := (Sum.elim (fun r0 => E = (some (.int r0), xB, σ)) (fun r1 => aw_W l M_Rf_doClash G B_Rf_doClash E 52 [] [] xB σ 0 0)) x
set_option maxRecDepth 100000 in
set_option maxHeartbeats 4000000 in
theorem t_Rf_doClash_J46 {l : Launch} {G : aw_G} {E : aw_E} {σ : aw_S} {v1 : Int32} {v2 : Int32} {v3 : Int32} {v4 : Int32} {t : ((Int32) ⊕ (Unit)) ⊕ Int32} (h : m_Rf_doClash_J46 σ v1 v2 v3 v4 = some t) (hz : Sum.elim (z_Rf_doClash_Y3 l G E σ v1 v2 v3) (z_Rf_doClash_X3 l G E σ v1 v2 v3) t) : aw_W l M_Rf_doClash G B_Rf_doClash E 46 [(0, .ref 0), (1, .int v1), (2, .int v2), (3, .int v3), (4, .int v4)] [] xB σ 0 0 := by
  unfold m_Rf_doClash_J46 at h
  obtain ⟨x6, e_x6⟩ : ∃ z, z = (v4 + (1 : Int32)) := ⟨_, rfl⟩
  replace h := aw_lte h x6 e_x6
  refine aw_iinc (pc := 46) (q := 4) (v := x6) [(4, .int x6), (0, .ref 0), (1, .int v1), (2, .int v2), (3, .int v3)] dX12_doClash_46 rfl e_x6.symm (by decide) rfl ?_
  refine aw_goto (pc := 49) (tgt := 3) dX12_doClash_49 (by decide) ?_
  refine aw_sub [1, 2, 3, 4, 0] rfl ?_
  cases h
  exact hz
set_option maxRecDepth 100000 in
set_option maxHeartbeats 4000000 in
theorem t_Rf_doClash_B3 {l : Launch} {G : aw_G} {E : aw_E} {σ : aw_S} {v1 : Int32} {v2 : Int32} {v3 : Int32} {v4 : Int32} {t : ((Int32) ⊕ (Unit)) ⊕ Int32} (h : m_Rf_doClash_B3 σ v1 v2 v3 v4 = some t) (hz : Sum.elim (z_Rf_doClash_Y3 l G E σ v1 v2 v3) (z_Rf_doClash_X3 l G E σ v1 v2 v3) t) : aw_W l M_Rf_doClash G B_Rf_doClash E 3 [(0, .ref 0), (1, .int v1), (2, .int v2), (3, .int v3), (4, .int v4)] [] xB σ 0 0 := by
  unfold m_Rf_doClash_B3 at h
  refine aw_iload (pc := 3) (q := 4) dX12_doClash_3 rfl ?_
  refine aw_aload_n (pc := 5) (q := 0) dX12_doClash_5 rfl ?_
  refine aw_getI (pc := 6) fd_X12_215.r xB_0 rfl dX12_doClash_6 ?_
  refine aw_icmp_ge (pc := 9) (tgt := 52) dX12_doClash_9 (by decide) (fun c1 => ?_) (fun c1 => ?_)
  · replace h := aw_ifp c1 h
    refine aw_sub [] rfl ?_
    cases h
    exact hz
  · replace h := aw_ifn c1 h
    refine aw_aload_n (pc := 12) (q := 0) dX12_doClash_12 rfl ?_
    refine aw_getC (pc := 13) fd_X12_52.r xB_0 rfl dX12_doClash_13 ?_
    refine aw_iload_n (pc := 16) (q := 1) dX12_doClash_16 rfl ?_
    refine aw_iconst (pc := 17) (v := 2) dX12_doClash_17 (by decide) ?_
    refine aw_iload_n (pc := 18) (q := 2) dX12_doClash_18 rfl ?_
    refine aw_iload (pc := 19) (q := 4) dX12_doClash_19 rfl ?_
    obtain ⟨r2, e3, h⟩ := aw_bde h
    refine aw_cS1 (pc := 21) [.int v1, .int ((2 : Int32)), .int v2, .int v4] (c_Rf_at e3) yy_Rf_at.1 wm_827 yy_Rf_at.2 rfl ⟨Nat.le_of_ble_eq_true rfl, Nat.le_of_ble_eq_true rfl⟩ ⟨Nat.zero_le _, Nat.zero_le _⟩ (Nat.le_of_ble_eq_true rfl) dX12_doClash_21 ?_
    obtain ⟨g4, h⟩ := aw_gde h
    refine aw_zald (pc := 24) xB_13 g4 dX12_doClash_24 ?_
    refine aw_if_eq (pc := 25) (tgt := 46) dX12_doClash_25 (by decide) (fun c5 => ?_) (fun c5 => ?_)
    · replace h := aw_ifp c5 h
      exact t_Rf_doClash_J46 h hz
    · replace h := aw_ifn c5 h
      refine aw_aload_n (pc := 28) (q := 0) dX12_doClash_28 rfl ?_
      refine aw_getC (pc := 29) fd_X12_52.r xB_0 rfl dX12_doClash_29 ?_
      refine aw_iload_n (pc := 32) (q := 1) dX12_doClash_32 rfl ?_
      refine aw_iconst (pc := 33) (v := 2) dX12_doClash_33 (by decide) ?_
      refine aw_iload_n (pc := 34) (q := 3) dX12_doClash_34 rfl ?_
      refine aw_iload (pc := 35) (q := 4) dX12_doClash_35 rfl ?_
      obtain ⟨r7, e8, h⟩ := aw_bde h
      refine aw_cS1 (pc := 37) [.int v1, .int ((2 : Int32)), .int v3, .int v4] (c_Rf_at e8) yy_Rf_at.1 wm_827 yy_Rf_at.2 rfl ⟨Nat.le_of_ble_eq_true rfl, Nat.le_of_ble_eq_true rfl⟩ ⟨Nat.zero_le _, Nat.zero_le _⟩ (Nat.le_of_ble_eq_true rfl) dX12_doClash_37 ?_
      obtain ⟨g9, h⟩ := aw_gde h
      refine aw_zald (pc := 40) xB_13 g9 dX12_doClash_40 ?_
      refine aw_if_eq (pc := 41) (tgt := 46) dX12_doClash_41 (by decide) (fun c10 => ?_) (fun c10 => ?_)
      · replace h := aw_ifp c10 h
        exact t_Rf_doClash_J46 h hz
      · replace h := aw_ifn c10 h
        refine aw_iconst (pc := 44) (v := 1) dX12_doClash_44 (by decide) ?_
        cases h
        have hE : E = _ := hz
        subst hE
        exact aw_iret (v := (1 : Int32)) rfl aw_n1 ⟨Nat.zero_le _, Nat.zero_le _⟩ dX12_doClash_45
set_option maxRecDepth 100000 in
set_option maxHeartbeats 4000000 in
theorem t_Rf_doClash {l : Launch} {G : aw_G} {E : aw_E} {σ : aw_S} {p1 : Int32} {p2 : Int32} {p3 : Int32} {t : Int32} (h : m_Rf_doClash σ p1 p2 p3 = some t) (hE : E = (some (.int t), xB, σ)) : aw_W l M_Rf_doClash G B_Rf_doClash E 0 [(0, .ref 0), (1, .int p1), (2, .int p2), (3, .int p3)] [] xB σ 0 0 := by
  unfold m_Rf_doClash at h
  refine aw_iconst (pc := 0) (v := 0) dX12_doClash_0 (by decide) ?_
  refine aw_istore (pc := 1) [(4, .int ((0 : Int32))), (0, .ref 0), (1, .int p1), (2, .int p2), (3, .int p3)] dX12_doClash_1 (by decide) rfl ?_
  obtain ⟨x11, hl12, h⟩ := aw_bde h
  have K13 : z_Rf_doClash_Y3 l G E σ p1 p2 p3 x11 := by
    cases x11 with
    | inl y14 =>
      replace h := aw_eL h
      show E = _
      cases h
      exact hE
    | inr y15 =>
      replace h := aw_eR h
      show aw_W l M_Rf_doClash G B_Rf_doClash E 52 [] [] xB σ 0 0
      refine aw_iconst (pc := 52) (v := 0) dX12_doClash_52 (by decide) ?_
      cases h
      subst hE
      exact aw_iret (v := (0 : Int32)) rfl aw_n0 ⟨Nat.zero_le _, Nat.zero_le _⟩ dX12_doClash_53
  refine aw_sub [1, 2, 3, 4, 0] rfl ?_
  show z_Rf_doClash_X3 l G E σ p1 p2 p3 ((0 : Int32))
  exact aw_lp_X (Xp := z_Rf_doClash_X3 l G E σ p1 p2 p3) (Y := z_Rf_doClash_Y3 l G E σ p1 p2 p3) hl12 K13 (fun s t hf hz => t_Rf_doClash_B3 hf hz)
theorem c_Rf_doClash {l : Launch} {G : aw_G} {σ : aw_S} {p1 : Int32} {p2 : Int32} {p3 : Int32} {t : Int32} (h : m_Rf_doClash σ p1 p2 p3 = some t) : aw_Ct l yX12_doClash M_Rf_doClash G B_Rf_doClash [.ref 0, .int p1, .int p2, .int p3] xB σ (some (.int t), xB, σ) := aw_Ct_of (by decide) rfl (fun h => by cases h) (Nat.le_of_ble_eq_true rfl) (t_Rf_doClash h rfl)
/-! LateMoverModel.clashes(II)I -/
def z_Rf_clashes_X5 (l : Launch) (G : aw_G) (E : aw_E) (σ : aw_S) (v1 : Int32) (v2 : Int32) (s : Int32 × Int32) : Prop := aw_W l M_Rf_clashes G B_Rf_clashes E 5 [(0, .ref 0), (1, .int v1), (2, .int v2), (3, .int s.1), (4, .int s.2)] [] xB σ 0 0
def z_Rf_clashes_Y5 (l : Launch) (G : aw_G) (E : aw_E) (σ : aw_S) (v1 : Int32) (v2 : Int32) (x : (Int32)) : Prop := aw_W l M_Rf_clashes G B_Rf_clashes E 46 [(3, .int x)] [] xB σ 0 0
set_option maxRecDepth 100000 in
set_option maxHeartbeats 4000000 in
theorem t_Rf_clashes_J38 {l : Launch} {G : aw_G} {E : aw_E} {σ : aw_S} {v1 : Int32} {v2 : Int32} {v4 : Int32} {k0 : Int32} {k1 : Int32} {t : (Int32) ⊕ (Int32 × Int32)} (h : m_Rf_clashes_J38 σ v1 v2 v4 k0 k1 = some t) (hz : Sum.elim (z_Rf_clashes_Y5 l G E σ v1 v2) (z_Rf_clashes_X5 l G E σ v1 v2) t) : aw_W l M_Rf_clashes G B_Rf_clashes E 38 [(0, .ref 0), (1, .int v1), (2, .int v2), (4, .int v4)] [.int k1, .int k0] xB σ 0 0 := by
  unfold m_Rf_clashes_J38 at h
  refine aw_iadd (pc := 38) dX12_clashes_38 ?_
  refine aw_nmI (fun x5 e_x5 => ?_)
  replace h := aw_lte h x5 e_x5
  refine aw_istore_n (pc := 39) [(3, .int x5), (0, .ref 0), (1, .int v1), (2, .int v2), (4, .int v4)] dX12_clashes_39 (by decide) rfl ?_
  obtain ⟨x6, e_x6⟩ : ∃ z, z = (v4 + (1 : Int32)) := ⟨_, rfl⟩
  replace h := aw_lte h x6 e_x6
  refine aw_iinc (pc := 40) (q := 4) (v := x6) [(4, .int x6), (3, .int x5), (0, .ref 0), (1, .int v1), (2, .int v2)] dX12_clashes_40 rfl e_x6.symm (by decide) rfl ?_
  refine aw_goto (pc := 43) (tgt := 5) dX12_clashes_43 (by decide) ?_
  refine aw_sub [2, 3, 4, 1, 0] rfl ?_
  cases h
  exact hz
set_option maxRecDepth 100000 in
set_option maxHeartbeats 4000000 in
theorem t_Rf_clashes_J37 {l : Launch} {G : aw_G} {E : aw_E} {σ : aw_S} {v1 : Int32} {v2 : Int32} {v4 : Int32} {k0 : Int32} {t : (Int32) ⊕ (Int32 × Int32)} (h : m_Rf_clashes_J37 σ v1 v2 v4 k0 = some t) (hz : Sum.elim (z_Rf_clashes_Y5 l G E σ v1 v2) (z_Rf_clashes_X5 l G E σ v1 v2) t) : aw_W l M_Rf_clashes G B_Rf_clashes E 37 [(0, .ref 0), (1, .int v1), (2, .int v2), (4, .int v4)] [.int k0] xB σ 0 0 := by
  unfold m_Rf_clashes_J37 at h
  refine aw_iconst (pc := 37) (v := 0) dX12_clashes_37 (by decide) ?_
  exact t_Rf_clashes_J38 h hz
set_option maxRecDepth 100000 in
set_option maxHeartbeats 4000000 in
theorem t_Rf_clashes_B5 {l : Launch} {G : aw_G} {E : aw_E} {σ : aw_S} {v1 : Int32} {v2 : Int32} {v3 : Int32} {v4 : Int32} {t : (Int32) ⊕ (Int32 × Int32)} (h : m_Rf_clashes_B5 σ v1 v2 v3 v4 = some t) (hz : Sum.elim (z_Rf_clashes_Y5 l G E σ v1 v2) (z_Rf_clashes_X5 l G E σ v1 v2) t) : aw_W l M_Rf_clashes G B_Rf_clashes E 5 [(0, .ref 0), (1, .int v1), (2, .int v2), (3, .int v3), (4, .int v4)] [] xB σ 0 0 := by
  unfold m_Rf_clashes_B5 at h
  refine aw_iload (pc := 5) (q := 4) dX12_clashes_5 rfl ?_
  refine aw_aload_n (pc := 7) (q := 0) dX12_clashes_7 rfl ?_
  refine aw_iconst (pc := 8) (v := 2) dX12_clashes_8 (by decide) ?_
  obtain ⟨r1, e2, h⟩ := aw_bde h
  refine aw_cV1 (pc := 9) [.int ((2 : Int32))] (c_Rf_get e2) yy_Rf_get.1 wm_736 yy_Rf_get.2.1 yy_Rf_get.2.2 xB_0 ⟨_, _, rfl⟩ rfl ⟨Nat.le_of_ble_eq_true rfl, Nat.le_of_ble_eq_true rfl⟩ ⟨Nat.zero_le _, Nat.zero_le _⟩ (Nat.le_of_ble_eq_true rfl) dX12_clashes_9 ?_
  refine aw_icmp_ge (pc := 12) (tgt := 46) dX12_clashes_12 (by decide) (fun c3 => ?_) (fun c3 => ?_)
  · replace h := aw_ifp c3 h
    refine aw_sub [3] rfl ?_
    cases h
    exact hz
  · replace h := aw_ifn c3 h
    refine aw_iload_n (pc := 15) (q := 3) dX12_clashes_15 rfl ?_
    refine aw_iload (pc := 16) (q := 4) dX12_clashes_16 rfl ?_
    refine aw_iload_n (pc := 18) (q := 2) dX12_clashes_18 rfl ?_
    refine aw_icmp_eq (pc := 19) (tgt := 37) dX12_clashes_19 (by decide) (fun c4 => ?_) (fun c4 => ?_)
    · replace h := aw_ifp c4 h
      refine aw_sub [0, 1, 2, 4] rfl ?_
      exact t_Rf_clashes_J37 h hz
    · replace h := aw_ifn c4 h
      refine aw_aload_n (pc := 22) (q := 0) dX12_clashes_22 rfl ?_
      refine aw_iload_n (pc := 23) (q := 1) dX12_clashes_23 rfl ?_
      refine aw_iload_n (pc := 24) (q := 2) dX12_clashes_24 rfl ?_
      refine aw_iload (pc := 25) (q := 4) dX12_clashes_25 rfl ?_
      obtain ⟨r7, e8, h⟩ := aw_bde h
      refine aw_cV1 (pc := 27) [.int v1, .int v2, .int v4] (c_Rf_doClash e8) yy_Rf_doClash.1 wm_1035 yy_Rf_doClash.2.1 yy_Rf_doClash.2.2 xB_0 ⟨_, _, rfl⟩ rfl ⟨Nat.le_of_ble_eq_true rfl, Nat.le_of_ble_eq_true rfl⟩ ⟨Nat.zero_le _, Nat.zero_le _⟩ (Nat.le_of_ble_eq_true rfl) dX12_clashes_27 ?_
      refine aw_if_eq (pc := 30) (tgt := 37) dX12_clashes_30 (by decide) (fun c9 => ?_) (fun c9 => ?_)
      · replace h := aw_ifp c9 h
        refine aw_sub [0, 1, 2, 4] rfl ?_
        exact t_Rf_clashes_J37 h hz
      · replace h := aw_ifn c9 h
        refine aw_iconst (pc := 33) (v := 1) dX12_clashes_33 (by decide) ?_
        refine aw_goto (pc := 34) (tgt := 38) dX12_clashes_34 (by decide) ?_
        refine aw_sub [0, 1, 2, 4] rfl ?_
        exact t_Rf_clashes_J38 h hz
set_option maxRecDepth 100000 in
set_option maxHeartbeats 4000000 in
theorem t_Rf_clashes {l : Launch} {G : aw_G} {E : aw_E} {σ : aw_S} {p1 : Int32} {p2 : Int32} {t : Int32} (h : m_Rf_clashes σ p1 p2 = some t) (hE : E = (some (.int t), xB, σ)) : aw_W l M_Rf_clashes G B_Rf_clashes E 0 [(0, .ref 0), (1, .int p1), (2, .int p2)] [] xB σ 0 0 := by
  unfold m_Rf_clashes at h
  refine aw_iconst (pc := 0) (v := 0) dX12_clashes_0 (by decide) ?_
  refine aw_istore_n (pc := 1) [(3, .int ((0 : Int32))), (0, .ref 0), (1, .int p1), (2, .int p2)] dX12_clashes_1 (by decide) rfl ?_
  refine aw_iconst (pc := 2) (v := 0) dX12_clashes_2 (by decide) ?_
  refine aw_istore (pc := 3) [(4, .int ((0 : Int32))), (3, .int ((0 : Int32))), (0, .ref 0), (1, .int p1), (2, .int p2)] dX12_clashes_3 (by decide) rfl ?_
  obtain ⟨x10, hl11, h⟩ := aw_bde h
  have K12 : z_Rf_clashes_Y5 l G E σ p1 p2 x10 := by
    show aw_W l M_Rf_clashes G B_Rf_clashes E 46 [(3, .int x10)] [] xB σ 0 0
    refine aw_iload_n (pc := 46) (q := 0) dX12_clashes_46 rfl ?_
    cases h
    subst hE
    exact aw_iret (v := _) rfl aw_ni ⟨Nat.zero_le _, Nat.zero_le _⟩ dX12_clashes_47
  refine aw_sub [2, 3, 4, 1, 0] rfl ?_
  show z_Rf_clashes_X5 l G E σ p1 p2 (((0 : Int32), (0 : Int32)))
  exact aw_lp_X (Xp := z_Rf_clashes_X5 l G E σ p1 p2) (Y := z_Rf_clashes_Y5 l G E σ p1 p2) hl11 K12 (fun s t hf hz => t_Rf_clashes_B5 hf hz)
theorem c_Rf_clashes {l : Launch} {G : aw_G} {σ : aw_S} {p1 : Int32} {p2 : Int32} {t : Int32} (h : m_Rf_clashes σ p1 p2 = some t) : aw_Ct l yX12_clashes M_Rf_clashes G B_Rf_clashes [.ref 0, .int p1, .int p2] xB σ (some (.int t), xB, σ) := aw_Ct_of (by decide) rfl (fun h => by cases h) (Nat.le_of_ble_eq_true rfl) (t_Rf_clashes h rfl)
/-! LateMoverModel.countPlaced(III)I -/
def z_Rf_countPlaced_X6 (l : Launch) (G : aw_G) (E : aw_E) (σ : aw_S) (v1 : Int32) (v2 : Int32) (v3 : Int32) (s : Int32 × Int32) : Prop := aw_W l M_Rf_countPlaced G B_Rf_countPlaced E 6 [(0, .ref 0), (1, .int v1), (2, .int v2), (3, .int v3), (4, .int s.1), (5, .int s.2)] [] xB σ 0 0
def z_Rf_countPlaced_Y6 (l : Launch) (G : aw_G) (E : aw_E) (σ : aw_S) (v1 : Int32) (v2 : Int32) (v3 : Int32) (x : (Int32)) : Prop := aw_W l M_Rf_countPlaced G B_Rf_countPlaced E 47 [(4, .int x)] [] xB σ 0 0
set_option maxRecDepth 100000 in
set_option maxHeartbeats 4000000 in
theorem t_Rf_countPlaced_J38 {l : Launch} {G : aw_G} {E : aw_E} {σ : aw_S} {v1 : Int32} {v2 : Int32} {v3 : Int32} {v5 : Int32} {k0 : Int32} {k1 : Int32} {t : (Int32) ⊕ (Int32 × Int32)} (h : m_Rf_countPlaced_J38 σ v1 v2 v3 v5 k0 k1 = some t) (hz : Sum.elim (z_Rf_countPlaced_Y6 l G E σ v1 v2 v3) (z_Rf_countPlaced_X6 l G E σ v1 v2 v3) t) : aw_W l M_Rf_countPlaced G B_Rf_countPlaced E 38 [(0, .ref 0), (1, .int v1), (2, .int v2), (3, .int v3), (5, .int v5)] [.int k1, .int k0] xB σ 0 0 := by
  unfold m_Rf_countPlaced_J38 at h
  refine aw_iadd (pc := 38) dX12_countPlaced_38 ?_
  refine aw_nmI (fun x6 e_x6 => ?_)
  replace h := aw_lte h x6 e_x6
  refine aw_istore (pc := 39) [(4, .int x6), (0, .ref 0), (1, .int v1), (2, .int v2), (3, .int v3), (5, .int v5)] dX12_countPlaced_39 (by decide) rfl ?_
  obtain ⟨x7, e_x7⟩ : ∃ z, z = (v5 + (1 : Int32)) := ⟨_, rfl⟩
  replace h := aw_lte h x7 e_x7
  refine aw_iinc (pc := 41) (q := 5) (v := x7) [(5, .int x7), (4, .int x6), (0, .ref 0), (1, .int v1), (2, .int v2), (3, .int v3)] dX12_countPlaced_41 rfl e_x7.symm (by decide) rfl ?_
  refine aw_goto (pc := 44) (tgt := 6) dX12_countPlaced_44 (by decide) ?_
  refine aw_sub [2, 3, 4, 5, 1, 0] rfl ?_
  cases h
  exact hz
set_option maxRecDepth 100000 in
set_option maxHeartbeats 4000000 in
theorem t_Rf_countPlaced_B6 {l : Launch} {G : aw_G} {E : aw_E} {σ : aw_S} {v1 : Int32} {v2 : Int32} {v3 : Int32} {v4 : Int32} {v5 : Int32} {t : (Int32) ⊕ (Int32 × Int32)} (h : m_Rf_countPlaced_B6 σ v1 v2 v3 v4 v5 = some t) (hz : Sum.elim (z_Rf_countPlaced_Y6 l G E σ v1 v2 v3) (z_Rf_countPlaced_X6 l G E σ v1 v2 v3) t) : aw_W l M_Rf_countPlaced G B_Rf_countPlaced E 6 [(0, .ref 0), (1, .int v1), (2, .int v2), (3, .int v3), (4, .int v4), (5, .int v5)] [] xB σ 0 0 := by
  unfold m_Rf_countPlaced_B6 at h
  refine aw_iload (pc := 6) (q := 5) dX12_countPlaced_6 rfl ?_
  refine aw_aload_n (pc := 8) (q := 0) dX12_countPlaced_8 rfl ?_
  refine aw_getI (pc := 9) fd_X12_215.r xB_0 rfl dX12_countPlaced_9 ?_
  refine aw_icmp_ge (pc := 12) (tgt := 47) dX12_countPlaced_12 (by decide) (fun c1 => ?_) (fun c1 => ?_)
  · replace h := aw_ifp c1 h
    refine aw_sub [4] rfl ?_
    cases h
    exact hz
  · replace h := aw_ifn c1 h
    refine aw_iload (pc := 15) (q := 4) dX12_countPlaced_15 rfl ?_
    refine aw_aload_n (pc := 17) (q := 0) dX12_countPlaced_17 rfl ?_
    refine aw_getC (pc := 18) fd_X12_52.r xB_0 rfl dX12_countPlaced_18 ?_
    refine aw_iload_n (pc := 21) (q := 1) dX12_countPlaced_21 rfl ?_
    refine aw_iload_n (pc := 22) (q := 2) dX12_countPlaced_22 rfl ?_
    refine aw_iload_n (pc := 23) (q := 3) dX12_countPlaced_23 rfl ?_
    refine aw_iload (pc := 24) (q := 5) dX12_countPlaced_24 rfl ?_
    obtain ⟨r2, e3, h⟩ := aw_bde h
    refine aw_cS1 (pc := 26) [.int v1, .int v2, .int v3, .int v5] (c_Rf_at e3) yy_Rf_at.1 wm_827 yy_Rf_at.2 rfl ⟨Nat.le_of_ble_eq_true rfl, Nat.le_of_ble_eq_true rfl⟩ ⟨Nat.zero_le _, Nat.zero_le _⟩ (Nat.le_of_ble_eq_true rfl) dX12_countPlaced_26 ?_
    obtain ⟨g4, h⟩ := aw_gde h
    refine aw_zald (pc := 29) xB_13 g4 dX12_countPlaced_29 ?_
    refine aw_if_eq (pc := 30) (tgt := 37) dX12_countPlaced_30 (by decide) (fun c5 => ?_) (fun c5 => ?_)
    · replace h := aw_ifp c5 h
      refine aw_iconst (pc := 37) (v := 0) dX12_countPlaced_37 (by decide) ?_
      refine aw_sub [0, 1, 2, 3, 5] rfl ?_
      exact t_Rf_countPlaced_J38 h hz
    · replace h := aw_ifn c5 h
      refine aw_iconst (pc := 33) (v := 1) dX12_countPlaced_33 (by decide) ?_
      refine aw_goto (pc := 34) (tgt := 38) dX12_countPlaced_34 (by decide) ?_
      refine aw_sub [0, 1, 2, 3, 5] rfl ?_
      exact t_Rf_countPlaced_J38 h hz
set_option maxRecDepth 100000 in
set_option maxHeartbeats 4000000 in
theorem t_Rf_countPlaced {l : Launch} {G : aw_G} {E : aw_E} {σ : aw_S} {p1 : Int32} {p2 : Int32} {p3 : Int32} {t : Int32} (h : m_Rf_countPlaced σ p1 p2 p3 = some t) (hE : E = (some (.int t), xB, σ)) : aw_W l M_Rf_countPlaced G B_Rf_countPlaced E 0 [(0, .ref 0), (1, .int p1), (2, .int p2), (3, .int p3)] [] xB σ 0 0 := by
  unfold m_Rf_countPlaced at h
  refine aw_iconst (pc := 0) (v := 0) dX12_countPlaced_0 (by decide) ?_
  refine aw_istore (pc := 1) [(4, .int ((0 : Int32))), (0, .ref 0), (1, .int p1), (2, .int p2), (3, .int p3)] dX12_countPlaced_1 (by decide) rfl ?_
  refine aw_iconst (pc := 3) (v := 0) dX12_countPlaced_3 (by decide) ?_
  refine aw_istore (pc := 4) [(5, .int ((0 : Int32))), (4, .int ((0 : Int32))), (0, .ref 0), (1, .int p1), (2, .int p2), (3, .int p3)] dX12_countPlaced_4 (by decide) rfl ?_
  obtain ⟨x8, hl9, h⟩ := aw_bde h
  have K10 : z_Rf_countPlaced_Y6 l G E σ p1 p2 p3 x8 := by
    show aw_W l M_Rf_countPlaced G B_Rf_countPlaced E 47 [(4, .int x8)] [] xB σ 0 0
    refine aw_iload (pc := 47) (q := 0) dX12_countPlaced_47 rfl ?_
    cases h
    subst hE
    exact aw_iret (v := _) rfl aw_ni ⟨Nat.zero_le _, Nat.zero_le _⟩ dX12_countPlaced_49
  refine aw_sub [2, 3, 4, 5, 1, 0] rfl ?_
  show z_Rf_countPlaced_X6 l G E σ p1 p2 p3 (((0 : Int32), (0 : Int32)))
  exact aw_lp_X (Xp := z_Rf_countPlaced_X6 l G E σ p1 p2 p3) (Y := z_Rf_countPlaced_Y6 l G E σ p1 p2 p3) hl9 K10 (fun s t hf hz => t_Rf_countPlaced_B6 hf hz)
theorem c_Rf_countPlaced {l : Launch} {G : aw_G} {σ : aw_S} {p1 : Int32} {p2 : Int32} {p3 : Int32} {t : Int32} (h : m_Rf_countPlaced σ p1 p2 p3 = some t) : aw_Ct l yX12_countPlaced M_Rf_countPlaced G B_Rf_countPlaced [.ref 0, .int p1, .int p2, .int p3] xB σ (some (.int t), xB, σ) := aw_Ct_of (by decide) rfl (fun h => by cases h) (Nat.le_of_ble_eq_true rfl) (t_Rf_countPlaced h rfl)
/-! LateMoverModel.placement(III)I -/
def z_Rf_placement_X71 (l : Launch) (G : aw_G) (E : aw_E) (σ : aw_S) (v2 : Int32) (v3 : Int32) (s : Int32 × Int32) : Prop := aw_W l M_Rf_placement G B_Rf_placement E 71 [(0, .ref 0), (2, .int v2), (3, .int v3), (4, .int s.1), (5, .int s.2)] [] xB σ 0 0
def z_Rf_placement_Y71 (l : Launch) (G : aw_G) (E : aw_E) (σ : aw_S) (v2 : Int32) (v3 : Int32) (x : (Int32)) : Prop := aw_W l M_Rf_placement G B_Rf_placement E 115 [(3, .int v3), (4, .int x)] [] xB σ 0 0
set_option maxRecDepth 100000 in
set_option maxHeartbeats 4000000 in
theorem t_Rf_placement_J106 {l : Launch} {G : aw_G} {E : aw_E} {σ : aw_S} {v2 : Int32} {v3 : Int32} {v5 : Int32} {k0 : Int32} {k1 : Int32} {t : (Int32) ⊕ (Int32 × Int32)} (h : m_Rf_placement_J106 σ v2 v3 v5 k0 k1 = some t) (hz : Sum.elim (z_Rf_placement_Y71 l G E σ v2 v3) (z_Rf_placement_X71 l G E σ v2 v3) t) : aw_W l M_Rf_placement G B_Rf_placement E 106 [(0, .ref 0), (2, .int v2), (3, .int v3), (5, .int v5)] [.int k1, .int k0] xB σ 0 0 := by
  unfold m_Rf_placement_J106 at h
  refine aw_iadd (pc := 106) dX12_placement_106 ?_
  refine aw_nmI (fun x16 e_x16 => ?_)
  replace h := aw_lte h x16 e_x16
  refine aw_istore (pc := 107) [(4, .int x16), (0, .ref 0), (2, .int v2), (3, .int v3), (5, .int v5)] dX12_placement_107 (by decide) rfl ?_
  obtain ⟨x17, e_x17⟩ : ∃ z, z = (v5 + (1 : Int32)) := ⟨_, rfl⟩
  replace h := aw_lte h x17 e_x17
  refine aw_iinc (pc := 109) (q := 4) (v := x17) [(5, .int x17), (4, .int x16), (0, .ref 0), (2, .int v2), (3, .int v3)] dX12_placement_109 rfl e_x17.symm (by decide) rfl ?_
  refine aw_goto (pc := 112) (tgt := 71) dX12_placement_112 (by decide) ?_
  refine aw_sub [2, 3, 4, 1, 0] rfl ?_
  cases h
  exact hz
set_option maxRecDepth 100000 in
set_option maxHeartbeats 4000000 in
theorem t_Rf_placement_B71 {l : Launch} {G : aw_G} {E : aw_E} {σ : aw_S} {v2 : Int32} {v3 : Int32} {v4 : Int32} {v5 : Int32} {t : (Int32) ⊕ (Int32 × Int32)} (h : m_Rf_placement_B71 σ v2 v3 v4 v5 = some t) (hz : Sum.elim (z_Rf_placement_Y71 l G E σ v2 v3) (z_Rf_placement_X71 l G E σ v2 v3) t) : aw_W l M_Rf_placement G B_Rf_placement E 71 [(0, .ref 0), (2, .int v2), (3, .int v3), (4, .int v4), (5, .int v5)] [] xB σ 0 0 := by
  unfold m_Rf_placement_B71 at h
  refine aw_iload (pc := 71) (q := 4) dX12_placement_71 rfl ?_
  refine aw_aload_n (pc := 73) (q := 0) dX12_placement_73 rfl ?_
  refine aw_iconst (pc := 74) (v := 2) dX12_placement_74 (by decide) ?_
  obtain ⟨r10, e11, h⟩ := aw_bde h
  refine aw_cV1 (pc := 75) [.int ((2 : Int32))] (c_Rf_get e11) yy_Rf_get.1 wm_736 yy_Rf_get.2.1 yy_Rf_get.2.2 xB_0 ⟨_, _, rfl⟩ rfl ⟨Nat.le_of_ble_eq_true rfl, Nat.le_of_ble_eq_true rfl⟩ ⟨Nat.zero_le _, Nat.zero_le _⟩ (Nat.le_of_ble_eq_true rfl) dX12_placement_75 ?_
  refine aw_icmp_ge (pc := 78) (tgt := 115) dX12_placement_78 (by decide) (fun c12 => ?_) (fun c12 => ?_)
  · replace h := aw_ifp c12 h
    refine aw_sub [2, 3] rfl ?_
    cases h
    exact hz
  · replace h := aw_ifn c12 h
    refine aw_iload (pc := 81) (q := 3) dX12_placement_81 rfl ?_
    refine aw_iload_n (pc := 83) (q := 2) dX12_placement_83 rfl ?_
    refine aw_iconst (pc := 84) (v := 3) dX12_placement_84 (by decide) ?_
    refine aw_icmp_ge (pc := 85) (tgt := 99) dX12_placement_85 (by decide) (fun c13 => ?_) (fun c13 => ?_)
    · replace h := aw_ifp c13 h
      refine aw_aload_n (pc := 99) (q := 0) dX12_placement_99 rfl ?_
      refine aw_iload_n (pc := 100) (q := 1) dX12_placement_100 rfl ?_
      refine aw_iload (pc := 101) (q := 4) dX12_placement_101 rfl ?_
      obtain ⟨r14, e15, h⟩ := aw_bde h
      refine aw_cV1 (pc := 103) [.int v2, .int v5] (c_Rf_clashes e15) yy_Rf_clashes.1 wm_1031 yy_Rf_clashes.2.1 yy_Rf_clashes.2.2 xB_0 ⟨_, _, rfl⟩ rfl ⟨Nat.le_of_ble_eq_true rfl, Nat.le_of_ble_eq_true rfl⟩ ⟨Nat.zero_le _, Nat.zero_le _⟩ (Nat.le_of_ble_eq_true rfl) dX12_placement_103 ?_
      refine aw_sub [0, 1, 2, 4] rfl ?_
      exact t_Rf_placement_J106 h hz
    · replace h := aw_ifn c13 h
      refine aw_aload_n (pc := 88) (q := 0) dX12_placement_88 rfl ?_
      refine aw_iload_n (pc := 89) (q := 1) dX12_placement_89 rfl ?_
      refine aw_iload_n (pc := 90) (q := 2) dX12_placement_90 rfl ?_
      refine aw_iload (pc := 91) (q := 4) dX12_placement_91 rfl ?_
      obtain ⟨r18, e19, h⟩ := aw_bde h
      refine aw_cV1 (pc := 93) [.int v2, .int v3, .int v5] (c_Rf_countPlaced e19) yy_Rf_countPlaced.1 wm_1027 yy_Rf_countPlaced.2.1 yy_Rf_countPlaced.2.2 xB_0 ⟨_, _, rfl⟩ rfl ⟨Nat.le_of_ble_eq_true rfl, Nat.le_of_ble_eq_true rfl⟩ ⟨Nat.zero_le _, Nat.zero_le _⟩ (Nat.le_of_ble_eq_true rfl) dX12_placement_93 ?_
      refine aw_goto (pc := 96) (tgt := 106) dX12_placement_96 (by decide) ?_
      refine aw_sub [0, 1, 2, 4] rfl ?_
      exact t_Rf_placement_J106 h hz
set_option maxRecDepth 100000 in
set_option maxHeartbeats 4000000 in
theorem t_Rf_placement_J20 {l : Launch} {G : aw_G} {E : aw_E} {σ : aw_S} {v1 : Int32} {v2 : Int32} {v3 : Int32} {t : Int32} (h : m_Rf_placement_J20 σ v1 v2 v3 = some t) (hE : E = (some (.int t), xB, σ)) : aw_W l M_Rf_placement G B_Rf_placement E 20 [(0, .ref 0), (1, .int v1), (2, .int v2), (3, .int v3)] [] xB σ 0 0 := by
  unfold m_Rf_placement_J20 at h
  refine aw_iload_n (pc := 20) (q := 2) dX12_placement_20 rfl ?_
  obtain ⟨r3, e4, h⟩ := aw_bde h
  refine aw_cS1 (pc := 21) [.int v2] (c_Rf_isHow e4) yy_Rf_isHow.1 wm_994 yy_Rf_isHow.2 rfl ⟨Nat.le_of_ble_eq_true rfl, Nat.le_of_ble_eq_true rfl⟩ ⟨Nat.zero_le _, Nat.zero_le _⟩ (Nat.le_of_ble_eq_true rfl) dX12_placement_21 ?_
  refine aw_if_eq (pc := 24) (tgt := 36) dX12_placement_24 (by decide) (fun c5 => ?_) (fun c5 => ?_)
  · replace h := aw_ifp c5 h
    refine aw_iconst (pc := 36) (v := -1) dX12_placement_36 (by decide) ?_
    cases h
    subst hE
    exact aw_iret (v := (-1 : Int32)) rfl aw_ni ⟨Nat.zero_le _, Nat.zero_le _⟩ dX12_placement_37
  · replace h := aw_ifn c5 h
    refine aw_iload_n (pc := 27) (q := 3) dX12_placement_27 rfl ?_
    refine aw_iconst (pc := 28) (v := 0) dX12_placement_28 (by decide) ?_
    refine aw_iconst (pc := 29) (v := 3) dX12_placement_29 (by decide) ?_
    obtain ⟨r6, e7, h⟩ := aw_bde h
    refine aw_cS1 (pc := 30) [.int v3, .int ((0 : Int32)), .int ((3 : Int32))] (c_Rf_isIn e7) yy_Rf_isIn.1 wm_255 yy_Rf_isIn.2 rfl ⟨Nat.le_of_ble_eq_true rfl, Nat.le_of_ble_eq_true rfl⟩ ⟨Nat.zero_le _, Nat.zero_le _⟩ (Nat.le_of_ble_eq_true rfl) dX12_placement_30 ?_
    refine aw_if_ne (pc := 33) (tgt := 38) dX12_placement_33 (by decide) (fun c8 => ?_) (fun c8 => ?_)
    · replace h := aw_ifn c8 h
      refine aw_iload_n (pc := 38) (q := 1) dX12_placement_38 rfl ?_
      refine aw_iconst (pc := 39) (v := -1) dX12_placement_39 (by decide) ?_
      refine aw_icmp_eq (pc := 40) (tgt := 65) dX12_placement_40 (by decide) (fun c9 => ?_) (fun c9 => ?_)
      · replace h := aw_ifp c9 h
        refine aw_iconst (pc := 65) (v := 0) dX12_placement_65 (by decide) ?_
        refine aw_istore (pc := 66) [(4, .int ((0 : Int32))), (0, .ref 0), (1, .int v1), (2, .int v2), (3, .int v3)] dX12_placement_66 (by decide) rfl ?_
        refine aw_iconst (pc := 68) (v := 0) dX12_placement_68 (by decide) ?_
        refine aw_istore (pc := 69) [(5, .int ((0 : Int32))), (4, .int ((0 : Int32))), (0, .ref 0), (1, .int v1), (2, .int v2), (3, .int v3)] dX12_placement_69 (by decide) rfl ?_
        obtain ⟨x20, hl21, h⟩ := aw_bde h
        have K22 : z_Rf_placement_Y71 l G E σ v2 v3 x20 := by
          show aw_W l M_Rf_placement G B_Rf_placement E 115 [(3, .int v3), (4, .int x20)] [] xB σ 0 0
          refine aw_iload_n (pc := 115) (q := 0) dX12_placement_115 rfl ?_
          refine aw_iconst (pc := 116) (v := 3) dX12_placement_116 (by decide) ?_
          refine aw_icmp_ge (pc := 117) (tgt := 125) dX12_placement_117 (by decide) (fun c23 => ?_) (fun c23 => ?_)
          · replace h := aw_ifp c23 h
            refine aw_iload (pc := 125) (q := 1) dX12_placement_125 rfl ?_
            refine aw_iconst (pc := 127) (v := 2) dX12_placement_127 (by decide) ?_
            refine aw_idiv (pc := 128) dX12_placement_128 (by decide) ?_
            cases h
            subst hE
            exact aw_iret (v := (x20 / (2 : Int32))) rfl aw_ni ⟨Nat.zero_le _, Nat.zero_le _⟩ dX12_placement_129
          · replace h := aw_ifn c23 h
            refine aw_iload (pc := 120) (q := 1) dX12_placement_120 rfl ?_
            refine aw_goto (pc := 122) (tgt := 129) dX12_placement_122 (by decide) ?_
            cases h
            subst hE
            exact aw_iret (v := _) rfl aw_ni ⟨Nat.zero_le _, Nat.zero_le _⟩ dX12_placement_129
        refine aw_sub [2, 4, 5, 1, 0] rfl ?_
        show z_Rf_placement_X71 l G E σ v2 v3 (((0 : Int32), (0 : Int32)))
        exact aw_lp_X (Xp := z_Rf_placement_X71 l G E σ v2 v3) (Y := z_Rf_placement_Y71 l G E σ v2 v3) hl21 K22 (fun s t hf hz => t_Rf_placement_B71 hf hz)
      · replace h := aw_ifn c9 h
        refine aw_iload_n (pc := 43) (q := 3) dX12_placement_43 rfl ?_
        refine aw_iconst (pc := 44) (v := 3) dX12_placement_44 (by decide) ?_
        refine aw_icmp_ge (pc := 45) (tgt := 58) dX12_placement_45 (by decide) (fun c24 => ?_) (fun c24 => ?_)
        · replace h := aw_ifp c24 h
          refine aw_aload_n (pc := 58) (q := 0) dX12_placement_58 rfl ?_
          refine aw_iload_n (pc := 59) (q := 2) dX12_placement_59 rfl ?_
          refine aw_iload_n (pc := 60) (q := 1) dX12_placement_60 rfl ?_
          obtain ⟨r25, e26, h⟩ := aw_bde h
          refine aw_cV1 (pc := 61) [.int v2, .int v1] (c_Rf_clashes e26) yy_Rf_clashes.1 wm_1031 yy_Rf_clashes.2.1 yy_Rf_clashes.2.2 xB_0 ⟨_, _, rfl⟩ rfl ⟨Nat.le_of_ble_eq_true rfl, Nat.le_of_ble_eq_true rfl⟩ ⟨Nat.zero_le _, Nat.zero_le _⟩ (Nat.le_of_ble_eq_true rfl) dX12_placement_61 ?_
          cases h
          subst hE
          exact aw_iret (v := _) rfl aw_ni ⟨Nat.zero_le _, Nat.zero_le _⟩ dX12_placement_64
        · replace h := aw_ifn c24 h
          refine aw_aload_n (pc := 48) (q := 0) dX12_placement_48 rfl ?_
          refine aw_iload_n (pc := 49) (q := 2) dX12_placement_49 rfl ?_
          refine aw_iload_n (pc := 50) (q := 3) dX12_placement_50 rfl ?_
          refine aw_iload_n (pc := 51) (q := 1) dX12_placement_51 rfl ?_
          obtain ⟨r27, e28, h⟩ := aw_bde h
          refine aw_cV1 (pc := 52) [.int v2, .int v3, .int v1] (c_Rf_countPlaced e28) yy_Rf_countPlaced.1 wm_1027 yy_Rf_countPlaced.2.1 yy_Rf_countPlaced.2.2 xB_0 ⟨_, _, rfl⟩ rfl ⟨Nat.le_of_ble_eq_true rfl, Nat.le_of_ble_eq_true rfl⟩ ⟨Nat.zero_le _, Nat.zero_le _⟩ (Nat.le_of_ble_eq_true rfl) dX12_placement_52 ?_
          refine aw_goto (pc := 55) (tgt := 64) dX12_placement_55 (by decide) ?_
          cases h
          subst hE
          exact aw_iret (v := _) rfl aw_ni ⟨Nat.zero_le _, Nat.zero_le _⟩ dX12_placement_64
    · replace h := aw_ifp c8 h
      refine aw_iconst (pc := 36) (v := -1) dX12_placement_36 (by decide) ?_
      cases h
      subst hE
      exact aw_iret (v := (-1 : Int32)) rfl aw_ni ⟨Nat.zero_le _, Nat.zero_le _⟩ dX12_placement_37
set_option maxRecDepth 100000 in
set_option maxHeartbeats 4000000 in
theorem t_Rf_placement {l : Launch} {G : aw_G} {E : aw_E} {σ : aw_S} {p1 : Int32} {p2 : Int32} {p3 : Int32} {t : Int32} (h : m_Rf_placement σ p1 p2 p3 = some t) (hE : E = (some (.int t), xB, σ)) : aw_W l M_Rf_placement G B_Rf_placement E 0 [(0, .ref 0), (1, .int p1), (2, .int p2), (3, .int p3)] [] xB σ 0 0 := by
  unfold m_Rf_placement at h
  refine aw_aload_n (pc := 0) (q := 0) dX12_placement_0 rfl ?_
  refine aw_getI (pc := 1) fd_X12_253.r xB_0 rfl dX12_placement_1 ?_
  refine aw_if_eq (pc := 4) (tgt := 36) dX12_placement_4 (by decide) (fun c1 => ?_) (fun c1 => ?_)
  · replace h := aw_ifp c1 h
    refine aw_iconst (pc := 36) (v := -1) dX12_placement_36 (by decide) ?_
    cases h
    subst hE
    exact aw_iret (v := (-1 : Int32)) rfl aw_ni ⟨Nat.zero_le _, Nat.zero_le _⟩ dX12_placement_37
  · replace h := aw_ifn c1 h
    refine aw_iload_n (pc := 7) (q := 1) dX12_placement_7 rfl ?_
    refine aw_iconst (pc := 8) (v := -1) dX12_placement_8 (by decide) ?_
    refine aw_icmp_eq (pc := 9) (tgt := 20) dX12_placement_9 (by decide) (fun c2 => ?_) (fun c2 => ?_)
    · replace h := aw_ifp c2 h
      exact t_Rf_placement_J20 h hE
    · replace h := aw_ifn c2 h
      refine aw_aload_n (pc := 12) (q := 0) dX12_placement_12 rfl ?_
      refine aw_iload_n (pc := 13) (q := 1) dX12_placement_13 rfl ?_
      obtain ⟨r29, e30, h⟩ := aw_bde h
      refine aw_cV1 (pc := 14) [.int p1] (c_Rf_isExpression e30) yy_Rf_isExpression.1 wm_947 yy_Rf_isExpression.2.1 yy_Rf_isExpression.2.2 xB_0 ⟨_, _, rfl⟩ rfl ⟨Nat.le_of_ble_eq_true rfl, Nat.le_of_ble_eq_true rfl⟩ ⟨Nat.zero_le _, Nat.zero_le _⟩ (Nat.le_of_ble_eq_true rfl) dX12_placement_14 ?_
      refine aw_if_eq (pc := 17) (tgt := 36) dX12_placement_17 (by decide) (fun c31 => ?_) (fun c31 => ?_)
      · replace h := aw_ifp c31 h
        refine aw_iconst (pc := 36) (v := -1) dX12_placement_36 (by decide) ?_
        cases h
        subst hE
        exact aw_iret (v := (-1 : Int32)) rfl aw_ni ⟨Nat.zero_le _, Nat.zero_le _⟩ dX12_placement_37
      · replace h := aw_ifn c31 h
        exact t_Rf_placement_J20 h hE
theorem c_Rf_placement {l : Launch} {G : aw_G} {σ : aw_S} {p1 : Int32} {p2 : Int32} {p3 : Int32} {t : Int32} (h : m_Rf_placement σ p1 p2 p3 = some t) : aw_Ct l yX12_placement M_Rf_placement G B_Rf_placement [.ref 0, .int p1, .int p2, .int p3] xB σ (some (.int t), xB, σ) := aw_Ct_of (by decide) rfl (fun h => by cases h) (Nat.le_of_ble_eq_true rfl) (t_Rf_placement h rfl)
/-! LateMoverModel.layNames(I)I -/
def z_Rf_layNames_X4 (l : Launch) (G : aw_G) (E : aw_E) (v1 : Int32) (s : Int32 × Int32 × aw_S) : Prop := aw_W l M_Rf_layNames G B_Rf_layNames E 4 [(0, .ref 0), (1, .int v1), (2, .int s.1), (3, .int s.2.1)] [] xB s.2.2 0 0
def z_Rf_layNames_Y4 (l : Launch) (G : aw_G) (E : aw_E) (v1 : Int32) (x : (Int32 × aw_S)) : Prop := aw_W l M_Rf_layNames G B_Rf_layNames E 138 [(2, .int x.1)] [] xB x.2 0 0
def z_Rf_layNames_X39 (l : Launch) (G : aw_G) (E : aw_E) (σ : aw_S) (v1 : Int32) (v2 : Int32) (v3 : Int32) (s : Int32 × Int32) : Prop := aw_W l M_Rf_layNames G B_Rf_layNames E 39 [(0, .ref 0), (1, .int v1), (2, .int v2), (3, .int v3), (4, .int s.1), (5, .int s.2)] [] xB σ 0 0
def z_Rf_layNames_Y39 (l : Launch) (G : aw_G) (E : aw_E) (σ : aw_S) (v1 : Int32) (v2 : Int32) (v3 : Int32) (x : (Int32)) : Prop := aw_W l M_Rf_layNames G B_Rf_layNames E 87 [(0, .ref 0), (1, .int v1), (2, .int v2), (3, .int v3), (4, .int x)] [] xB σ 0 0
def z_Rf_layNames_X90 (l : Launch) (G : aw_G) (E : aw_E) (σ : aw_S) (v1 : Int32) (v2 : Int32) (v3 : Int32) (v4 : Int32) (s : Int32) : Prop := aw_W l M_Rf_layNames G B_Rf_layNames E 90 [(0, .ref 0), (1, .int v1), (2, .int v2), (3, .int v3), (4, .int v4), (5, .int s)] [] xB σ 0 0
def z_Rf_layNames_Y90 (l : Launch) (G : aw_G) (E : aw_E) (σ : aw_S) (v1 : Int32) (v2 : Int32) (v3 : Int32) (v4 : Int32) (x : (Int32)) : Prop := aw_W l M_Rf_layNames G B_Rf_layNames E 107 [(0, .ref 0), (1, .int v1), (2, .int v2), (3, .int v3), (5, .int x)] [] xB σ 0 0
set_option maxRecDepth 100000 in
set_option maxHeartbeats 4000000 in
theorem t_Rf_layNames_J81 {l : Launch} {G : aw_G} {E : aw_E} {σ : aw_S} {v1 : Int32} {v2 : Int32} {v3 : Int32} {v4 : Int32} {v5 : Int32} {t : (Int32) ⊕ (Int32 × Int32)} (h : m_Rf_layNames_J81 σ v1 v2 v3 v4 v5 = some t) (hz : Sum.elim (z_Rf_layNames_Y39 l G E σ v1 v2 v3) (z_Rf_layNames_X39 l G E σ v1 v2 v3) t) : aw_W l M_Rf_layNames G B_Rf_layNames E 81 [(0, .ref 0), (1, .int v1), (2, .int v2), (3, .int v3), (4, .int v4), (5, .int v5)] [] xB σ 0 0 := by
  unfold m_Rf_layNames_J81 at h
  obtain ⟨x12, e_x12⟩ : ∃ z, z = (v5 + (1 : Int32)) := ⟨_, rfl⟩
  replace h := aw_lte h x12 e_x12
  refine aw_iinc (pc := 81) (q := 5) (v := x12) [(5, .int x12), (0, .ref 0), (1, .int v1), (2, .int v2), (3, .int v3), (4, .int v4)] dX12_layNames_81 rfl e_x12.symm (by decide) rfl ?_
  refine aw_goto (pc := 84) (tgt := 39) dX12_layNames_84 (by decide) ?_
  refine aw_sub [1, 2, 3, 4, 5, 0] rfl ?_
  cases h
  exact hz
set_option maxRecDepth 100000 in
set_option maxHeartbeats 4000000 in
theorem t_Rf_layNames_B39 {l : Launch} {G : aw_G} {E : aw_E} {σ : aw_S} {v1 : Int32} {v2 : Int32} {v3 : Int32} {v4 : Int32} {v5 : Int32} {t : (Int32) ⊕ (Int32 × Int32)} (h : m_Rf_layNames_B39 σ v1 v2 v3 v4 v5 = some t) (hz : Sum.elim (z_Rf_layNames_Y39 l G E σ v1 v2 v3) (z_Rf_layNames_X39 l G E σ v1 v2 v3) t) : aw_W l M_Rf_layNames G B_Rf_layNames E 39 [(0, .ref 0), (1, .int v1), (2, .int v2), (3, .int v3), (4, .int v4), (5, .int v5)] [] xB σ 0 0 := by
  unfold m_Rf_layNames_B39 at h
  refine aw_iload (pc := 39) (q := 5) dX12_layNames_39 rfl ?_
  refine aw_iload_n (pc := 41) (q := 3) dX12_layNames_41 rfl ?_
  refine aw_icmp_ge (pc := 42) (tgt := 87) dX12_layNames_42 (by decide) (fun c9 => ?_) (fun c9 => ?_)
  · replace h := aw_ifp c9 h
    refine aw_sub [0, 1, 2, 3, 4] rfl ?_
    cases h
    exact hz
  · replace h := aw_ifn c9 h
    refine aw_aload_n (pc := 45) (q := 0) dX12_layNames_45 rfl ?_
    refine aw_getC (pc := 46) fd_X12_55.r xB_0 rfl dX12_layNames_46 ?_
    refine aw_iload (pc := 49) (q := 5) dX12_layNames_49 rfl ?_
    obtain ⟨g10, h⟩ := aw_gde h
    refine aw_iald (pc := 51) xB_14 g10 dX12_layNames_51 ?_
    refine aw_iconst (pc := 52) (v := -1) dX12_layNames_52 (by decide) ?_
    refine aw_icmp_eq (pc := 53) (tgt := 81) dX12_layNames_53 (by decide) (fun c11 => ?_) (fun c11 => ?_)
    · replace h := aw_ifp c11 h
      exact t_Rf_layNames_J81 h hz
    · replace h := aw_ifn c11 h
      refine aw_aload_n (pc := 56) (q := 0) dX12_layNames_56 rfl ?_
      refine aw_iload_n (pc := 57) (q := 1) dX12_layNames_57 rfl ?_
      refine aw_iload_n (pc := 58) (q := 3) dX12_layNames_58 rfl ?_
      refine aw_iload (pc := 59) (q := 5) dX12_layNames_59 rfl ?_
      obtain ⟨r13, e14, h⟩ := aw_bde h
      refine aw_cV1 (pc := 61) [.int v1, .int v3, .int v5] (c_Rf_doClash e14) yy_Rf_doClash.1 wm_1035 yy_Rf_doClash.2.1 yy_Rf_doClash.2.2 xB_0 ⟨_, _, rfl⟩ rfl ⟨Nat.le_of_ble_eq_true rfl, Nat.le_of_ble_eq_true rfl⟩ ⟨Nat.zero_le _, Nat.zero_le _⟩ (Nat.le_of_ble_eq_true rfl) dX12_layNames_61 ?_
      refine aw_if_eq (pc := 64) (tgt := 81) dX12_layNames_64 (by decide) (fun c15 => ?_) (fun c15 => ?_)
      · replace h := aw_ifp c15 h
        exact t_Rf_layNames_J81 h hz
      · replace h := aw_ifn c15 h
        refine aw_iload (pc := 67) (q := 4) dX12_layNames_67 rfl ?_
        refine aw_iconst (pc := 69) (v := 1) dX12_layNames_69 (by decide) ?_
        refine aw_aload_n (pc := 70) (q := 0) dX12_layNames_70 rfl ?_
        refine aw_getC (pc := 71) fd_X12_55.r xB_0 rfl dX12_layNames_71 ?_
        refine aw_iload (pc := 74) (q := 5) dX12_layNames_74 rfl ?_
        obtain ⟨g16, h⟩ := aw_gde h
        refine aw_iald (pc := 76) xB_14 g16 dX12_layNames_76 ?_
        refine aw_ishl (pc := 77) dX12_layNames_77 ?_
        refine aw_ior (pc := 78) dX12_layNames_78 ?_
        refine aw_nmI (fun x17 e_x17 => ?_)
        replace h := aw_lte h x17 e_x17
        refine aw_istore (pc := 79) [(4, .int x17), (0, .ref 0), (1, .int v1), (2, .int v2), (3, .int v3), (5, .int v5)] dX12_layNames_79 (by decide) rfl ?_
        refine aw_sub [1, 2, 3, 4, 0, 5] rfl ?_
        exact t_Rf_layNames_J81 h hz
set_option maxRecDepth 100000 in
set_option maxHeartbeats 4000000 in
theorem t_Rf_layNames_B90 {l : Launch} {G : aw_G} {E : aw_E} {σ : aw_S} {v1 : Int32} {v2 : Int32} {v3 : Int32} {v4 : Int32} {v5 : Int32} {t : (Int32) ⊕ Int32} (h : m_Rf_layNames_B90 σ v1 v2 v3 v4 v5 = some t) (hz : Sum.elim (z_Rf_layNames_Y90 l G E σ v1 v2 v3 v4) (z_Rf_layNames_X90 l G E σ v1 v2 v3 v4) t) : aw_W l M_Rf_layNames G B_Rf_layNames E 90 [(0, .ref 0), (1, .int v1), (2, .int v2), (3, .int v3), (4, .int v4), (5, .int v5)] [] xB σ 0 0 := by
  unfold m_Rf_layNames_B90 at h
  refine aw_iload (pc := 90) (q := 4) dX12_layNames_90 rfl ?_
  refine aw_iload (pc := 92) (q := 5) dX12_layNames_92 rfl ?_
  refine aw_ishr (pc := 94) dX12_layNames_94 ?_
  refine aw_iconst (pc := 95) (v := 1) dX12_layNames_95 (by decide) ?_
  refine aw_iand (pc := 96) dX12_layNames_96 ?_
  refine aw_iconst (pc := 97) (v := 1) dX12_layNames_97 (by decide) ?_
  refine aw_icmp_ne (pc := 98) (tgt := 107) dX12_layNames_98 (by decide) (fun c21 => ?_) (fun c21 => ?_)
  · replace h := aw_ifn c21 h
    refine aw_sub [0, 1, 2, 3, 5] rfl ?_
    cases h
    exact hz
  · replace h := aw_ifp c21 h
    obtain ⟨x22, e_x22⟩ : ∃ z, z = (v5 + (1 : Int32)) := ⟨_, rfl⟩
    replace h := aw_lte h x22 e_x22
    refine aw_iinc (pc := 101) (q := 5) (v := x22) [(5, .int x22), (0, .ref 0), (1, .int v1), (2, .int v2), (3, .int v3), (4, .int v4)] dX12_layNames_101 rfl e_x22.symm (by decide) rfl ?_
    refine aw_goto (pc := 104) (tgt := 90) dX12_layNames_104 (by decide) ?_
    refine aw_sub [1, 2, 3, 4, 5, 0] rfl ?_
    cases h
    exact hz
set_option maxRecDepth 100000 in
set_option maxHeartbeats 4000000 in
theorem t_Rf_layNames_J132 {l : Launch} {G : aw_G} {E : aw_E} {σ : aw_S} {v1 : Int32} {v2 : Int32} {v3 : Int32} {t : (Int32 × aw_S) ⊕ (Int32 × Int32 × aw_S)} (h : m_Rf_layNames_J132 σ v1 v2 v3 = some t) (hz : Sum.elim (z_Rf_layNames_Y4 l G E v1) (z_Rf_layNames_X4 l G E v1) t) : aw_W l M_Rf_layNames G B_Rf_layNames E 132 [(0, .ref 0), (1, .int v1), (2, .int v2), (3, .int v3)] [] xB σ 0 0 := by
  unfold m_Rf_layNames_J132 at h
  obtain ⟨x29, e_x29⟩ : ∃ z, z = (v3 + (1 : Int32)) := ⟨_, rfl⟩
  replace h := aw_lte h x29 e_x29
  refine aw_iinc (pc := 132) (q := 3) (v := x29) [(3, .int x29), (0, .ref 0), (1, .int v1), (2, .int v2)] dX12_layNames_132 rfl e_x29.symm (by decide) rfl ?_
  refine aw_goto (pc := 135) (tgt := 4) dX12_layNames_135 (by decide) ?_
  refine aw_sub [1, 2, 3, 0] rfl ?_
  cases h
  exact hz
set_option maxRecDepth 100000 in
set_option maxHeartbeats 4000000 in
theorem t_Rf_layNames_J131 {l : Launch} {G : aw_G} {E : aw_E} {σ : aw_S} {v1 : Int32} {v3 : Int32} {k0 : Int32} {t : (Int32 × aw_S) ⊕ (Int32 × Int32 × aw_S)} (h : m_Rf_layNames_J131 σ v1 v3 k0 = some t) (hz : Sum.elim (z_Rf_layNames_Y4 l G E v1) (z_Rf_layNames_X4 l G E v1) t) : aw_W l M_Rf_layNames G B_Rf_layNames E 131 [(0, .ref 0), (1, .int v1), (3, .int v3)] [.int k0] xB σ 0 0 := by
  unfold m_Rf_layNames_J131 at h
  refine aw_istore_n (pc := 131) [(2, .int k0), (0, .ref 0), (1, .int v1), (3, .int v3)] dX12_layNames_131 (by decide) rfl ?_
  refine aw_sub [1, 2, 0, 3] rfl ?_
  exact t_Rf_layNames_J132 h hz
set_option maxRecDepth 100000 in
set_option maxHeartbeats 4000000 in
theorem t_Rf_layNames_B4 {l : Launch} {G : aw_G} {E : aw_E} {σ : aw_S} {v1 : Int32} {v2 : Int32} {v3 : Int32} {t : (Int32 × aw_S) ⊕ (Int32 × Int32 × aw_S)} (h : m_Rf_layNames_B4 σ v1 v2 v3 = some t) (hz : Sum.elim (z_Rf_layNames_Y4 l G E v1) (z_Rf_layNames_X4 l G E v1) t) : aw_W l M_Rf_layNames G B_Rf_layNames E 4 [(0, .ref 0), (1, .int v1), (2, .int v2), (3, .int v3)] [] xB σ 0 0 := by
  unfold m_Rf_layNames_B4 at h
  refine aw_iload_n (pc := 4) (q := 3) dX12_layNames_4 rfl ?_
  refine aw_aload_n (pc := 5) (q := 0) dX12_layNames_5 rfl ?_
  refine aw_iconst (pc := 6) (v := 2) dX12_layNames_6 (by decide) ?_
  obtain ⟨r1, e2, h⟩ := aw_bde h
  refine aw_cV1 (pc := 7) [.int ((2 : Int32))] (c_Rf_get e2) yy_Rf_get.1 wm_736 yy_Rf_get.2.1 yy_Rf_get.2.2 xB_0 ⟨_, _, rfl⟩ rfl ⟨Nat.le_of_ble_eq_true rfl, Nat.le_of_ble_eq_true rfl⟩ ⟨Nat.zero_le _, Nat.zero_le _⟩ (Nat.le_of_ble_eq_true rfl) dX12_layNames_7 ?_
  refine aw_icmp_ge (pc := 10) (tgt := 138) dX12_layNames_10 (by decide) (fun c3 => ?_) (fun c3 => ?_)
  · replace h := aw_ifp c3 h
    refine aw_sub [2] rfl ?_
    cases h
    exact hz
  · replace h := aw_ifn c3 h
    refine aw_aload_n (pc := 13) (q := 0) dX12_layNames_13 rfl ?_
    refine aw_getC (pc := 14) fd_X12_55.r xB_0 rfl dX12_layNames_14 ?_
    refine aw_iload_n (pc := 17) (q := 3) dX12_layNames_17 rfl ?_
    refine aw_iconst (pc := 18) (v := -1) dX12_layNames_18 (by decide) ?_
    obtain ⟨g4, h⟩ := aw_gde h
    refine aw_iast (pc := 19) xB_14 g4 dX12_layNames_19 ?_
    refine aw_nmS (fun s5 e_s5 => ?_)
    replace h := aw_lte h s5 e_s5
    refine aw_aload_n (pc := 20) (q := 0) dX12_layNames_20 rfl ?_
    refine aw_iload_n (pc := 21) (q := 1) dX12_layNames_21 rfl ?_
    refine aw_iconst (pc := 22) (v := 0) dX12_layNames_22 (by decide) ?_
    refine aw_iload_n (pc := 23) (q := 3) dX12_layNames_23 rfl ?_
    obtain ⟨r6, e7, h⟩ := aw_bde h
    refine aw_cV1 (pc := 24) [.int v1, .int ((0 : Int32)), .int v3] (c_Rf_countPlaced e7) yy_Rf_countPlaced.1 wm_1027 yy_Rf_countPlaced.2.1 yy_Rf_countPlaced.2.2 xB_0 ⟨_, _, rfl⟩ rfl ⟨Nat.le_of_ble_eq_true rfl, Nat.le_of_ble_eq_true rfl⟩ ⟨Nat.zero_le _, Nat.zero_le _⟩ (Nat.le_of_ble_eq_true rfl) dX12_layNames_24 ?_
    refine aw_if_ne (pc := 27) (tgt := 33) dX12_layNames_27 (by decide) (fun c8 => ?_) (fun c8 => ?_)
    · replace h := aw_ifn c8 h
      refine aw_iconst (pc := 33) (v := 0) dX12_layNames_33 (by decide) ?_
      refine aw_istore (pc := 34) [(4, .int ((0 : Int32))), (0, .ref 0), (1, .int v1), (2, .int v2), (3, .int v3)] dX12_layNames_34 (by decide) rfl ?_
      refine aw_iconst (pc := 36) (v := 0) dX12_layNames_36 (by decide) ?_
      refine aw_istore (pc := 37) [(5, .int ((0 : Int32))), (4, .int ((0 : Int32))), (0, .ref 0), (1, .int v1), (2, .int v2), (3, .int v3)] dX12_layNames_37 (by decide) rfl ?_
      obtain ⟨x18, hl19, h⟩ := aw_bde h
      have K20 : z_Rf_layNames_Y39 l G E s5 v1 v2 v3 x18 := by
        show aw_W l M_Rf_layNames G B_Rf_layNames E 87 [(0, .ref 0), (1, .int v1), (2, .int v2), (3, .int v3), (4, .int x18)] [] xB s5 0 0
        refine aw_iconst (pc := 87) (v := 0) dX12_layNames_87 (by decide) ?_
        refine aw_istore (pc := 88) [(5, .int ((0 : Int32))), (0, .ref 0), (1, .int v1), (2, .int v2), (3, .int v3), (4, .int x18)] dX12_layNames_88 (by decide) rfl ?_
        obtain ⟨x23, hl24, h⟩ := aw_bde h
        have K25 : z_Rf_layNames_Y90 l G E s5 v1 v2 v3 x18 x23 := by
          show aw_W l M_Rf_layNames G B_Rf_layNames E 107 [(0, .ref 0), (1, .int v1), (2, .int v2), (3, .int v3), (5, .int x23)] [] xB s5 0 0
          refine aw_aload_n (pc := 107) (q := 0) dX12_layNames_107 rfl ?_
          refine aw_getC (pc := 108) fd_X12_55.r xB_0 rfl dX12_layNames_108 ?_
          refine aw_iload_n (pc := 111) (q := 3) dX12_layNames_111 rfl ?_
          refine aw_iload (pc := 112) (q := 4) dX12_layNames_112 rfl ?_
          obtain ⟨g26, h⟩ := aw_gde h
          refine aw_iast (pc := 114) xB_14 g26 dX12_layNames_114 ?_
          refine aw_nmS (fun s27 e_s27 => ?_)
          replace h := aw_lte h s27 e_s27
          refine aw_iload (pc := 115) (q := 4) dX12_layNames_115 rfl ?_
          refine aw_iconst (pc := 117) (v := 1) dX12_layNames_117 (by decide) ?_
          refine aw_iadd (pc := 118) dX12_layNames_118 ?_
          refine aw_iload_n (pc := 119) (q := 2) dX12_layNames_119 rfl ?_
          refine aw_icmp_le (pc := 120) (tgt := 130) dX12_layNames_120 (by decide) (fun c28 => ?_) (fun c28 => ?_)
          · replace h := aw_ifp c28 h
            refine aw_iload_n (pc := 130) (q := 2) dX12_layNames_130 rfl ?_
            refine aw_sub [0, 1, 3] rfl ?_
            exact t_Rf_layNames_J131 h hz
          · replace h := aw_ifn c28 h
            refine aw_iload (pc := 123) (q := 4) dX12_layNames_123 rfl ?_
            refine aw_iconst (pc := 125) (v := 1) dX12_layNames_125 (by decide) ?_
            refine aw_iadd (pc := 126) dX12_layNames_126 ?_
            refine aw_goto (pc := 127) (tgt := 131) dX12_layNames_127 (by decide) ?_
            refine aw_sub [0, 1, 3] rfl ?_
            exact t_Rf_layNames_J131 h hz
        refine aw_sub [1, 2, 3, 4, 5, 0] rfl ?_
        show z_Rf_layNames_X90 l G E s5 v1 v2 v3 x18 ((0 : Int32))
        exact aw_lp_X (Xp := z_Rf_layNames_X90 l G E s5 v1 v2 v3 x18) (Y := z_Rf_layNames_Y90 l G E s5 v1 v2 v3 x18) hl24 K25 (fun s t hf hz => t_Rf_layNames_B90 hf hz)
      refine aw_sub [2, 3, 4, 5, 1, 0] rfl ?_
      show z_Rf_layNames_X39 l G E s5 v1 v2 v3 (((0 : Int32), (0 : Int32)))
      exact aw_lp_X (Xp := z_Rf_layNames_X39 l G E s5 v1 v2 v3) (Y := z_Rf_layNames_Y39 l G E s5 v1 v2 v3) hl19 K20 (fun s t hf hz => t_Rf_layNames_B39 hf hz)
    · replace h := aw_ifp c8 h
      refine aw_goto (pc := 30) (tgt := 132) dX12_layNames_30 (by decide) ?_
      exact t_Rf_layNames_J132 h hz
set_option maxRecDepth 100000 in
set_option maxHeartbeats 4000000 in
theorem t_Rf_layNames {l : Launch} {G : aw_G} {E : aw_E} {σ : aw_S} {p1 : Int32} {t : (Int32 × aw_S)} (h : m_Rf_layNames σ p1 = some t) (hE : E = (some (.int t.1), xB, t.2)) : aw_W l M_Rf_layNames G B_Rf_layNames E 0 [(0, .ref 0), (1, .int p1)] [] xB σ 0 0 := by
  unfold m_Rf_layNames at h
  refine aw_iconst (pc := 0) (v := 0) dX12_layNames_0 (by decide) ?_
  refine aw_istore_n (pc := 1) [(2, .int ((0 : Int32))), (0, .ref 0), (1, .int p1)] dX12_layNames_1 (by decide) rfl ?_
  refine aw_iconst (pc := 2) (v := 0) dX12_layNames_2 (by decide) ?_
  refine aw_istore_n (pc := 3) [(3, .int ((0 : Int32))), (2, .int ((0 : Int32))), (0, .ref 0), (1, .int p1)] dX12_layNames_3 (by decide) rfl ?_
  obtain ⟨x30, hl31, h⟩ := aw_bde h
  have K32 : z_Rf_layNames_Y4 l G E p1 x30 := by
    show aw_W l M_Rf_layNames G B_Rf_layNames E 138 [(2, .int x30.1)] [] xB x30.2 0 0
    refine aw_iload_n (pc := 138) (q := 0) dX12_layNames_138 rfl ?_
    cases h
    subst hE
    exact aw_iret (v := x30.1) rfl aw_ni ⟨Nat.zero_le _, Nat.zero_le _⟩ dX12_layNames_139
  refine aw_sub [2, 3, 1, 0] rfl ?_
  show z_Rf_layNames_X4 l G E p1 (((0 : Int32), (0 : Int32), σ))
  exact aw_lp_X (Xp := z_Rf_layNames_X4 l G E p1) (Y := z_Rf_layNames_Y4 l G E p1) hl31 K32 (fun s t hf hz => t_Rf_layNames_B4 hf hz)
theorem c_Rf_layNames {l : Launch} {G : aw_G} {σ : aw_S} {p1 : Int32} {t : (Int32 × aw_S)} (h : m_Rf_layNames σ p1 = some t) : aw_Ct l yX12_layNames M_Rf_layNames G B_Rf_layNames [.ref 0, .int p1] xB σ (some (.int t.1), xB, t.2) := aw_Ct_of (by decide) rfl (fun h => by cases h) (Nat.le_of_ble_eq_true rfl) (t_Rf_layNames h rfl)
/-! LateMoverModel.shared(II)I -/
set_option maxRecDepth 100000 in
set_option maxHeartbeats 4000000 in
theorem t_Rf_shared_J20 {l : Launch} {G : aw_G} {E : aw_E} {σ : aw_S} {v1 : Int32} {v2 : Int32} {t : (Int32 × aw_S)} (h : m_Rf_shared_J20 σ v1 v2 = some t) (hE : E = (some (.int t.1), xB, t.2)) : aw_W l M_Rf_shared G B_Rf_shared E 20 [(0, .ref 0), (1, .int v1), (2, .int v2)] [] xB σ 0 0 := by
  unfold m_Rf_shared_J20 at h
  refine aw_iload_n (pc := 20) (q := 2) dX12_shared_20 rfl ?_
  obtain ⟨r3, e4, h⟩ := aw_bde h
  refine aw_cS1 (pc := 21) [.int v2] (c_Rf_isHow e4) yy_Rf_isHow.1 wm_994 yy_Rf_isHow.2 rfl ⟨Nat.le_of_ble_eq_true rfl, Nat.le_of_ble_eq_true rfl⟩ ⟨Nat.zero_le _, Nat.zero_le _⟩ (Nat.le_of_ble_eq_true rfl) dX12_shared_21 ?_
  refine aw_if_ne (pc := 24) (tgt := 29) dX12_shared_24 (by decide) (fun c5 => ?_) (fun c5 => ?_)
  · replace h := aw_ifn c5 h
    refine aw_aload_n (pc := 29) (q := 0) dX12_shared_29 rfl ?_
    refine aw_iload_n (pc := 30) (q := 2) dX12_shared_30 rfl ?_
    obtain ⟨r6, s8, e7, h⟩ := aw_bd2e h
    refine aw_cV1 (pc := 31) [.int v2] (c_Rf_layNames e7) yy_Rf_layNames.1 wm_1049 yy_Rf_layNames.2.1 yy_Rf_layNames.2.2 xB_0 ⟨_, _, rfl⟩ rfl ⟨Nat.le_of_ble_eq_true rfl, Nat.le_of_ble_eq_true rfl⟩ ⟨Nat.zero_le _, Nat.zero_le _⟩ (Nat.le_of_ble_eq_true rfl) dX12_shared_31 ?_
    refine aw_istore_n (pc := 34) [(3, .int r6), (0, .ref 0), (1, .int v1), (2, .int v2)] dX12_shared_34 (by decide) rfl ?_
    refine aw_iload_n (pc := 35) (q := 2) dX12_shared_35 rfl ?_
    refine aw_iconst (pc := 36) (v := -1) dX12_shared_36 (by decide) ?_
    refine aw_icmp_ne (pc := 37) (tgt := 44) dX12_shared_37 (by decide) (fun c9 => ?_) (fun c9 => ?_)
    · replace h := aw_ifn c9 h
      refine aw_aload_n (pc := 44) (q := 1) dX12_shared_44 rfl ?_
      refine aw_getC (pc := 45) fd_X12_55.r xB_0 rfl dX12_shared_45 ?_
      refine aw_iload_n (pc := 48) (q := 2) dX12_shared_48 rfl ?_
      obtain ⟨g10, h⟩ := aw_gde h
      refine aw_iald (pc := 49) xB_14 g10 dX12_shared_49 ?_
      cases h
      subst hE
      exact aw_iret (v := (s8.1 14 v1.toNatClampNeg)) rfl aw_ni ⟨Nat.zero_le _, Nat.zero_le _⟩ dX12_shared_50
    · replace h := aw_ifp c9 h
      refine aw_iload_n (pc := 40) (q := 0) dX12_shared_40 rfl ?_
      refine aw_goto (pc := 41) (tgt := 50) dX12_shared_41 (by decide) ?_
      cases h
      subst hE
      exact aw_iret (v := _) rfl aw_ni ⟨Nat.zero_le _, Nat.zero_le _⟩ dX12_shared_50
  · replace h := aw_ifp c5 h
    refine aw_iconst (pc := 27) (v := -1) dX12_shared_27 (by decide) ?_
    cases h
    subst hE
    exact aw_iret (v := (-1 : Int32)) rfl aw_ni ⟨Nat.zero_le _, Nat.zero_le _⟩ dX12_shared_28
set_option maxRecDepth 100000 in
set_option maxHeartbeats 4000000 in
theorem t_Rf_shared {l : Launch} {G : aw_G} {E : aw_E} {σ : aw_S} {p1 : Int32} {p2 : Int32} {t : (Int32 × aw_S)} (h : m_Rf_shared σ p1 p2 = some t) (hE : E = (some (.int t.1), xB, t.2)) : aw_W l M_Rf_shared G B_Rf_shared E 0 [(0, .ref 0), (1, .int p1), (2, .int p2)] [] xB σ 0 0 := by
  unfold m_Rf_shared at h
  refine aw_aload_n (pc := 0) (q := 0) dX12_shared_0 rfl ?_
  refine aw_getI (pc := 1) fd_X12_253.r xB_0 rfl dX12_shared_1 ?_
  refine aw_if_eq (pc := 4) (tgt := 27) dX12_shared_4 (by decide) (fun c1 => ?_) (fun c1 => ?_)
  · replace h := aw_ifp c1 h
    refine aw_iconst (pc := 27) (v := -1) dX12_shared_27 (by decide) ?_
    cases h
    subst hE
    exact aw_iret (v := (-1 : Int32)) rfl aw_ni ⟨Nat.zero_le _, Nat.zero_le _⟩ dX12_shared_28
  · replace h := aw_ifn c1 h
    refine aw_iload_n (pc := 7) (q := 1) dX12_shared_7 rfl ?_
    refine aw_iconst (pc := 8) (v := -1) dX12_shared_8 (by decide) ?_
    refine aw_icmp_eq (pc := 9) (tgt := 20) dX12_shared_9 (by decide) (fun c2 => ?_) (fun c2 => ?_)
    · replace h := aw_ifp c2 h
      exact t_Rf_shared_J20 h hE
    · replace h := aw_ifn c2 h
      refine aw_aload_n (pc := 12) (q := 0) dX12_shared_12 rfl ?_
      refine aw_iload_n (pc := 13) (q := 1) dX12_shared_13 rfl ?_
      obtain ⟨r11, e12, h⟩ := aw_bde h
      refine aw_cV1 (pc := 14) [.int p1] (c_Rf_isExpression e12) yy_Rf_isExpression.1 wm_947 yy_Rf_isExpression.2.1 yy_Rf_isExpression.2.2 xB_0 ⟨_, _, rfl⟩ rfl ⟨Nat.le_of_ble_eq_true rfl, Nat.le_of_ble_eq_true rfl⟩ ⟨Nat.zero_le _, Nat.zero_le _⟩ (Nat.le_of_ble_eq_true rfl) dX12_shared_14 ?_
      refine aw_if_eq (pc := 17) (tgt := 27) dX12_shared_17 (by decide) (fun c13 => ?_) (fun c13 => ?_)
      · replace h := aw_ifp c13 h
        refine aw_iconst (pc := 27) (v := -1) dX12_shared_27 (by decide) ?_
        cases h
        subst hE
        exact aw_iret (v := (-1 : Int32)) rfl aw_ni ⟨Nat.zero_le _, Nat.zero_le _⟩ dX12_shared_28
      · replace h := aw_ifn c13 h
        exact t_Rf_shared_J20 h hE
theorem c_Rf_shared {l : Launch} {G : aw_G} {σ : aw_S} {p1 : Int32} {p2 : Int32} {t : (Int32 × aw_S)} (h : m_Rf_shared σ p1 p2 = some t) : aw_Ct l yX12_shared M_Rf_shared G B_Rf_shared [.ref 0, .int p1, .int p2] xB σ (some (.int t.1), xB, t.2) := aw_Ct_of (by decide) rfl (fun h => by cases h) (Nat.le_of_ble_eq_true rfl) (t_Rf_shared h rfl)
/-! LateMoverModel.most(I)I -/
def z_Rf_most_X20 (l : Launch) (G : aw_G) (E : aw_E) (σ : aw_S) (v1 : Int32) (s : Int32 × Int32) : Prop := aw_W l M_Rf_most G B_Rf_most E 20 [(0, .ref 0), (1, .int v1), (2, .int s.1), (3, .int s.2)] [] xB σ 0 0
def z_Rf_most_Y20 (l : Launch) (G : aw_G) (E : aw_E) (σ : aw_S) (v1 : Int32) (x : (Int32)) : Prop := aw_W l M_Rf_most G B_Rf_most E 95 [(2, .int x)] [] xB σ 0 0
def z_Rf_most_X34 (l : Launch) (G : aw_G) (E : aw_E) (σ : aw_S) (v1 : Int32) (v2 : Int32) (v3 : Int32) (s : Int32 × Int32) : Prop := aw_W l M_Rf_most G B_Rf_most E 34 [(0, .ref 0), (1, .int v1), (2, .int v2), (3, .int v3), (4, .int s.1), (5, .int s.2)] [] xB σ 0 0
def z_Rf_most_Y34 (l : Launch) (G : aw_G) (E : aw_E) (σ : aw_S) (v1 : Int32) (v2 : Int32) (v3 : Int32) (x : (Int32)) : Prop := aw_W l M_Rf_most G B_Rf_most E 76 [(0, .ref 0), (1, .int v1), (2, .int v2), (3, .int v3), (4, .int x)] [] xB σ 0 0
set_option maxRecDepth 100000 in
set_option maxHeartbeats 4000000 in
theorem t_Rf_most_J67 {l : Launch} {G : aw_G} {E : aw_E} {σ : aw_S} {v1 : Int32} {v2 : Int32} {v3 : Int32} {v5 : Int32} {k0 : Int32} {k1 : Int32} {t : (Int32) ⊕ (Int32 × Int32)} (h : m_Rf_most_J67 σ v1 v2 v3 v5 k0 k1 = some t) (hz : Sum.elim (z_Rf_most_Y34 l G E σ v1 v2 v3) (z_Rf_most_X34 l G E σ v1 v2 v3) t) : aw_W l M_Rf_most G B_Rf_most E 67 [(0, .ref 0), (1, .int v1), (2, .int v2), (3, .int v3), (5, .int v5)] [.int k1, .int k0] xB σ 0 0 := by
  unfold m_Rf_most_J67 at h
  refine aw_iadd (pc := 67) dX12_most_67 ?_
  refine aw_nmI (fun x13 e_x13 => ?_)
  replace h := aw_lte h x13 e_x13
  refine aw_istore (pc := 68) [(4, .int x13), (0, .ref 0), (1, .int v1), (2, .int v2), (3, .int v3), (5, .int v5)] dX12_most_68 (by decide) rfl ?_
  obtain ⟨x14, e_x14⟩ : ∃ z, z = (v5 + (1 : Int32)) := ⟨_, rfl⟩
  replace h := aw_lte h x14 e_x14
  refine aw_iinc (pc := 70) (q := 5) (v := x14) [(5, .int x14), (4, .int x13), (0, .ref 0), (1, .int v1), (2, .int v2), (3, .int v3)] dX12_most_70 rfl e_x14.symm (by decide) rfl ?_
  refine aw_goto (pc := 73) (tgt := 34) dX12_most_73 (by decide) ?_
  refine aw_sub [2, 3, 4, 5, 1, 0] rfl ?_
  cases h
  exact hz
set_option maxRecDepth 100000 in
set_option maxHeartbeats 4000000 in
theorem t_Rf_most_B34 {l : Launch} {G : aw_G} {E : aw_E} {σ : aw_S} {v1 : Int32} {v2 : Int32} {v3 : Int32} {v4 : Int32} {v5 : Int32} {t : (Int32) ⊕ (Int32 × Int32)} (h : m_Rf_most_B34 σ v1 v2 v3 v4 v5 = some t) (hz : Sum.elim (z_Rf_most_Y34 l G E σ v1 v2 v3) (z_Rf_most_X34 l G E σ v1 v2 v3) t) : aw_W l M_Rf_most G B_Rf_most E 34 [(0, .ref 0), (1, .int v1), (2, .int v2), (3, .int v3), (4, .int v4), (5, .int v5)] [] xB σ 0 0 := by
  unfold m_Rf_most_B34 at h
  refine aw_iload (pc := 34) (q := 5) dX12_most_34 rfl ?_
  refine aw_aload_n (pc := 36) (q := 0) dX12_most_36 rfl ?_
  refine aw_iconst (pc := 37) (v := 2) dX12_most_37 (by decide) ?_
  obtain ⟨r6, e7, h⟩ := aw_bde h
  refine aw_cV1 (pc := 38) [.int ((2 : Int32))] (c_Rf_get e7) yy_Rf_get.1 wm_736 yy_Rf_get.2.1 yy_Rf_get.2.2 xB_0 ⟨_, _, rfl⟩ rfl ⟨Nat.le_of_ble_eq_true rfl, Nat.le_of_ble_eq_true rfl⟩ ⟨Nat.zero_le _, Nat.zero_le _⟩ (Nat.le_of_ble_eq_true rfl) dX12_most_38 ?_
  refine aw_icmp_ge (pc := 41) (tgt := 76) dX12_most_41 (by decide) (fun c8 => ?_) (fun c8 => ?_)
  · replace h := aw_ifp c8 h
    refine aw_sub [0, 1, 2, 3, 4] rfl ?_
    cases h
    exact hz
  · replace h := aw_ifn c8 h
    refine aw_iload (pc := 44) (q := 4) dX12_most_44 rfl ?_
    refine aw_aload_n (pc := 46) (q := 0) dX12_most_46 rfl ?_
    refine aw_getC (pc := 47) fd_X12_52.r xB_0 rfl dX12_most_47 ?_
    refine aw_iload_n (pc := 50) (q := 1) dX12_most_50 rfl ?_
    refine aw_iconst (pc := 51) (v := 2) dX12_most_51 (by decide) ?_
    refine aw_iload (pc := 52) (q := 5) dX12_most_52 rfl ?_
    refine aw_iload_n (pc := 54) (q := 3) dX12_most_54 rfl ?_
    obtain ⟨r9, e10, h⟩ := aw_bde h
    refine aw_cS1 (pc := 55) [.int v1, .int ((2 : Int32)), .int v5, .int v3] (c_Rf_at e10) yy_Rf_at.1 wm_827 yy_Rf_at.2 rfl ⟨Nat.le_of_ble_eq_true rfl, Nat.le_of_ble_eq_true rfl⟩ ⟨Nat.zero_le _, Nat.zero_le _⟩ (Nat.le_of_ble_eq_true rfl) dX12_most_55 ?_
    obtain ⟨g11, h⟩ := aw_gde h
    refine aw_zald (pc := 58) xB_13 g11 dX12_most_58 ?_
    refine aw_if_eq (pc := 59) (tgt := 66) dX12_most_59 (by decide) (fun c12 => ?_) (fun c12 => ?_)
    · replace h := aw_ifp c12 h
      refine aw_iconst (pc := 66) (v := 0) dX12_most_66 (by decide) ?_
      refine aw_sub [0, 1, 2, 3, 5] rfl ?_
      exact t_Rf_most_J67 h hz
    · replace h := aw_ifn c12 h
      refine aw_iconst (pc := 62) (v := 1) dX12_most_62 (by decide) ?_
      refine aw_goto (pc := 63) (tgt := 67) dX12_most_63 (by decide) ?_
      refine aw_sub [0, 1, 2, 3, 5] rfl ?_
      exact t_Rf_most_J67 h hz
set_option maxRecDepth 100000 in
set_option maxHeartbeats 4000000 in
theorem t_Rf_most_J88 {l : Launch} {G : aw_G} {E : aw_E} {σ : aw_S} {v1 : Int32} {v3 : Int32} {k0 : Int32} {t : (Int32) ⊕ (Int32 × Int32)} (h : m_Rf_most_J88 σ v1 v3 k0 = some t) (hz : Sum.elim (z_Rf_most_Y20 l G E σ v1) (z_Rf_most_X20 l G E σ v1) t) : aw_W l M_Rf_most G B_Rf_most E 88 [(0, .ref 0), (1, .int v1), (3, .int v3)] [.int k0] xB σ 0 0 := by
  unfold m_Rf_most_J88 at h
  refine aw_istore_n (pc := 88) [(2, .int k0), (0, .ref 0), (1, .int v1), (3, .int v3)] dX12_most_88 (by decide) rfl ?_
  obtain ⟨x19, e_x19⟩ : ∃ z, z = (v3 + (1 : Int32)) := ⟨_, rfl⟩
  replace h := aw_lte h x19 e_x19
  refine aw_iinc (pc := 89) (q := 3) (v := x19) [(3, .int x19), (2, .int k0), (0, .ref 0), (1, .int v1)] dX12_most_89 rfl e_x19.symm (by decide) rfl ?_
  refine aw_goto (pc := 92) (tgt := 20) dX12_most_92 (by decide) ?_
  refine aw_sub [2, 3, 1, 0] rfl ?_
  cases h
  exact hz
set_option maxRecDepth 100000 in
set_option maxHeartbeats 4000000 in
theorem t_Rf_most_B20 {l : Launch} {G : aw_G} {E : aw_E} {σ : aw_S} {v1 : Int32} {v2 : Int32} {v3 : Int32} {t : (Int32) ⊕ (Int32 × Int32)} (h : m_Rf_most_B20 σ v1 v2 v3 = some t) (hz : Sum.elim (z_Rf_most_Y20 l G E σ v1) (z_Rf_most_X20 l G E σ v1) t) : aw_W l M_Rf_most G B_Rf_most E 20 [(0, .ref 0), (1, .int v1), (2, .int v2), (3, .int v3)] [] xB σ 0 0 := by
  unfold m_Rf_most_B20 at h
  refine aw_iload_n (pc := 20) (q := 3) dX12_most_20 rfl ?_
  refine aw_aload_n (pc := 21) (q := 0) dX12_most_21 rfl ?_
  refine aw_getI (pc := 22) fd_X12_215.r xB_0 rfl dX12_most_22 ?_
  refine aw_icmp_ge (pc := 25) (tgt := 95) dX12_most_25 (by decide) (fun c5 => ?_) (fun c5 => ?_)
  · replace h := aw_ifp c5 h
    refine aw_sub [2] rfl ?_
    cases h
    exact hz
  · replace h := aw_ifn c5 h
    refine aw_iconst (pc := 28) (v := 0) dX12_most_28 (by decide) ?_
    refine aw_istore (pc := 29) [(4, .int ((0 : Int32))), (0, .ref 0), (1, .int v1), (2, .int v2), (3, .int v3)] dX12_most_29 (by decide) rfl ?_
    refine aw_iconst (pc := 31) (v := 0) dX12_most_31 (by decide) ?_
    refine aw_istore (pc := 32) [(5, .int ((0 : Int32))), (4, .int ((0 : Int32))), (0, .ref 0), (1, .int v1), (2, .int v2), (3, .int v3)] dX12_most_32 (by decide) rfl ?_
    obtain ⟨x15, hl16, h⟩ := aw_bde h
    have K17 : z_Rf_most_Y34 l G E σ v1 v2 v3 x15 := by
      show aw_W l M_Rf_most G B_Rf_most E 76 [(0, .ref 0), (1, .int v1), (2, .int v2), (3, .int v3), (4, .int x15)] [] xB σ 0 0
      refine aw_iload (pc := 76) (q := 4) dX12_most_76 rfl ?_
      refine aw_iload_n (pc := 78) (q := 2) dX12_most_78 rfl ?_
      refine aw_icmp_le (pc := 79) (tgt := 87) dX12_most_79 (by decide) (fun c18 => ?_) (fun c18 => ?_)
      · replace h := aw_ifp c18 h
        refine aw_iload_n (pc := 87) (q := 2) dX12_most_87 rfl ?_
        refine aw_sub [0, 1, 3] rfl ?_
        exact t_Rf_most_J88 h hz
      · replace h := aw_ifn c18 h
        refine aw_iload (pc := 82) (q := 4) dX12_most_82 rfl ?_
        refine aw_goto (pc := 84) (tgt := 88) dX12_most_84 (by decide) ?_
        refine aw_sub [0, 1, 3] rfl ?_
        exact t_Rf_most_J88 h hz
    refine aw_sub [2, 3, 4, 5, 1, 0] rfl ?_
    show z_Rf_most_X34 l G E σ v1 v2 v3 (((0 : Int32), (0 : Int32)))
    exact aw_lp_X (Xp := z_Rf_most_X34 l G E σ v1 v2 v3) (Y := z_Rf_most_Y34 l G E σ v1 v2 v3) hl16 K17 (fun s t hf hz => t_Rf_most_B34 hf hz)
set_option maxRecDepth 100000 in
set_option maxHeartbeats 4000000 in
theorem t_Rf_most {l : Launch} {G : aw_G} {E : aw_E} {σ : aw_S} {p1 : Int32} {t : Int32} (h : m_Rf_most σ p1 = some t) (hE : E = (some (.int t), xB, σ)) : aw_W l M_Rf_most G B_Rf_most E 0 [(0, .ref 0), (1, .int p1)] [] xB σ 0 0 := by
  unfold m_Rf_most at h
  refine aw_aload_n (pc := 0) (q := 0) dX12_most_0 rfl ?_
  refine aw_getI (pc := 1) fd_X12_253.r xB_0 rfl dX12_most_1 ?_
  refine aw_if_eq (pc := 4) (tgt := 14) dX12_most_4 (by decide) (fun c1 => ?_) (fun c1 => ?_)
  · replace h := aw_ifp c1 h
    refine aw_iconst (pc := 14) (v := -1) dX12_most_14 (by decide) ?_
    cases h
    subst hE
    exact aw_iret (v := (-1 : Int32)) rfl aw_ni ⟨Nat.zero_le _, Nat.zero_le _⟩ dX12_most_15
  · replace h := aw_ifn c1 h
    refine aw_iload_n (pc := 7) (q := 1) dX12_most_7 rfl ?_
    obtain ⟨r2, e3, h⟩ := aw_bde h
    refine aw_cS1 (pc := 8) [.int p1] (c_Rf_isHow e3) yy_Rf_isHow.1 wm_994 yy_Rf_isHow.2 rfl ⟨Nat.le_of_ble_eq_true rfl, Nat.le_of_ble_eq_true rfl⟩ ⟨Nat.zero_le _, Nat.zero_le _⟩ (Nat.le_of_ble_eq_true rfl) dX12_most_8 ?_
    refine aw_if_ne (pc := 11) (tgt := 16) dX12_most_11 (by decide) (fun c4 => ?_) (fun c4 => ?_)
    · replace h := aw_ifn c4 h
      refine aw_iconst (pc := 16) (v := 0) dX12_most_16 (by decide) ?_
      refine aw_istore_n (pc := 17) [(2, .int ((0 : Int32))), (0, .ref 0), (1, .int p1)] dX12_most_17 (by decide) rfl ?_
      refine aw_iconst (pc := 18) (v := 0) dX12_most_18 (by decide) ?_
      refine aw_istore_n (pc := 19) [(3, .int ((0 : Int32))), (2, .int ((0 : Int32))), (0, .ref 0), (1, .int p1)] dX12_most_19 (by decide) rfl ?_
      obtain ⟨x20, hl21, h⟩ := aw_bde h
      have K22 : z_Rf_most_Y20 l G E σ p1 x20 := by
        show aw_W l M_Rf_most G B_Rf_most E 95 [(2, .int x20)] [] xB σ 0 0
        refine aw_iload_n (pc := 95) (q := 0) dX12_most_95 rfl ?_
        cases h
        subst hE
        exact aw_iret (v := _) rfl aw_ni ⟨Nat.zero_le _, Nat.zero_le _⟩ dX12_most_96
      refine aw_sub [2, 3, 1, 0] rfl ?_
      show z_Rf_most_X20 l G E σ p1 (((0 : Int32), (0 : Int32)))
      exact aw_lp_X (Xp := z_Rf_most_X20 l G E σ p1) (Y := z_Rf_most_Y20 l G E σ p1) hl21 K22 (fun s t hf hz => t_Rf_most_B20 hf hz)
    · replace h := aw_ifp c4 h
      refine aw_iconst (pc := 14) (v := -1) dX12_most_14 (by decide) ?_
      cases h
      subst hE
      exact aw_iret (v := (-1 : Int32)) rfl aw_ni ⟨Nat.zero_le _, Nat.zero_le _⟩ dX12_most_15
theorem c_Rf_most {l : Launch} {G : aw_G} {σ : aw_S} {p1 : Int32} {t : Int32} (h : m_Rf_most σ p1 = some t) : aw_Ct l yX12_most M_Rf_most G B_Rf_most [.ref 0, .int p1] xB σ (some (.int t), xB, σ) := aw_Ct_of (by decide) rfl (fun h => by cases h) (Nat.le_of_ble_eq_true rfl) (t_Rf_most h rfl)
/-! LateMoverModel.letter(II)I -/
set_option maxRecDepth 100000 in
set_option maxHeartbeats 4000000 in
theorem t_Rf_letter {l : Launch} {G : aw_G} {E : aw_E} {σ : aw_S} {p1 : Int32} {p2 : Int32} {t : (Int32 × aw_S)} (h : m_Rf_letter σ p1 p2 = some t) (hE : E = (some (.int t.1), xB, t.2)) : aw_W l M_Rf_letter G B_Rf_letter E 0 [(0, .ref 0), (1, .int p1), (2, .int p2)] [] xB σ 0 0 := by
  unfold m_Rf_letter at h
  refine aw_iload_n (pc := 0) (q := 1) dX12_letter_0 rfl ?_
  refine aw_iconst (pc := 1) (v := 0) dX12_letter_1 (by decide) ?_
  refine aw_bipush (pc := 2) (v := 25) dX12_letter_2 (by decide) ?_
  obtain ⟨r1, e2, h⟩ := aw_bde h
  refine aw_cS1 (pc := 4) [.int p1, .int ((0 : Int32)), .int ((25 : Int32))] (c_Rf_isIn e2) yy_Rf_isIn.1 wm_255 yy_Rf_isIn.2 rfl ⟨Nat.le_of_ble_eq_true rfl, Nat.le_of_ble_eq_true rfl⟩ ⟨Nat.zero_le _, Nat.zero_le _⟩ (Nat.le_of_ble_eq_true rfl) dX12_letter_4 ?_
  refine aw_if_ne (pc := 7) (tgt := 12) dX12_letter_7 (by decide) (fun c3 => ?_) (fun c3 => ?_)
  · replace h := aw_ifn c3 h
    refine aw_aload_n (pc := 12) (q := 0) dX12_letter_12 rfl ?_
    refine aw_getC (pc := 13) fd_X12_58.r xB_0 rfl dX12_letter_13 ?_
    refine aw_iload_n (pc := 16) (q := 1) dX12_letter_16 rfl ?_
    obtain ⟨g4, h⟩ := aw_gde h
    refine aw_iald (pc := 17) xB_15 g4 dX12_letter_17 ?_
    refine aw_nmI (fun x5 e_x5 => ?_)
    replace h := aw_lte h x5 e_x5
    refine aw_istore_n (pc := 18) [(3, .int x5), (0, .ref 0), (1, .int p1), (2, .int p2)] dX12_letter_18 (by decide) rfl ?_
    refine aw_aload_n (pc := 19) (q := 1) dX12_letter_19 rfl ?_
    refine aw_getC (pc := 20) fd_X12_58.r xB_0 rfl dX12_letter_20 ?_
    refine aw_iload_n (pc := 23) (q := 2) dX12_letter_23 rfl ?_
    refine aw_iload_n (pc := 24) (q := 3) dX12_letter_24 rfl ?_
    obtain ⟨g6, h⟩ := aw_gde h
    refine aw_iast (pc := 25) xB_15 g6 dX12_letter_25 ?_
    refine aw_nmS (fun s7 e_s7 => ?_)
    replace h := aw_lte h s7 e_s7
    refine aw_iload_n (pc := 26) (q := 0) dX12_letter_26 rfl ?_
    cases h
    subst hE
    exact aw_iret (v := _) rfl aw_ni ⟨Nat.zero_le _, Nat.zero_le _⟩ dX12_letter_27
  · replace h := aw_ifp c3 h
    refine aw_iconst (pc := 10) (v := 0) dX12_letter_10 (by decide) ?_
    cases h
    subst hE
    exact aw_iret (v := (0 : Int32)) rfl aw_ni ⟨Nat.zero_le _, Nat.zero_le _⟩ dX12_letter_11
theorem c_Rf_letter {l : Launch} {G : aw_G} {σ : aw_S} {p1 : Int32} {p2 : Int32} {t : (Int32 × aw_S)} (h : m_Rf_letter σ p1 p2 = some t) : aw_Ct l yX12_letter M_Rf_letter G B_Rf_letter [.ref 0, .int p1, .int p2] xB σ (some (.int t.1), xB, t.2) := aw_Ct_of (by decide) rfl (fun h => by cases h) (Nat.le_of_ble_eq_true rfl) (t_Rf_letter h rfl)
/-! LateMoverModel.canRun(I)Z -/
set_option maxRecDepth 100000 in
set_option maxHeartbeats 4000000 in
theorem t_Rf_canRun {l : Launch} {G : aw_G} {E : aw_E} {σ : aw_S} {p1 : Int32} {t : Int32} (h : m_Rf_canRun σ p1 = some t) (hE : E = (some (.int t), xB, σ)) : aw_W l M_Rf_canRun G B_Rf_canRun E 0 [(0, .ref 0), (1, .int p1)] [] xB σ 0 0 := by
  unfold m_Rf_canRun at h
  refine aw_aload_n (pc := 0) (q := 0) dX12_canRun_0 rfl ?_
  refine aw_getI (pc := 1) fd_X12_231.r xB_0 rfl dX12_canRun_1 ?_
  refine aw_if_eq (pc := 4) (tgt := 32) dX12_canRun_4 (by decide) (fun c1 => ?_) (fun c1 => ?_)
  · replace h := aw_ifp c1 h
    refine aw_iconst (pc := 32) (v := 0) dX12_canRun_32 (by decide) ?_
    cases h
    subst hE
    exact aw_iret (v := (0 : Int32)) rfl aw_n0 ⟨Nat.zero_le _, Nat.zero_le _⟩ dX12_canRun_33
  · replace h := aw_ifn c1 h
    refine aw_iload_n (pc := 7) (q := 1) dX12_canRun_7 rfl ?_
    refine aw_iconst (pc := 8) (v := -1) dX12_canRun_8 (by decide) ?_
    refine aw_iconst (pc := 9) (v := 1) dX12_canRun_9 (by decide) ?_
    obtain ⟨r2, e3, h⟩ := aw_bde h
    refine aw_cS1 (pc := 10) [.int p1, .int ((-1 : Int32)), .int ((1 : Int32))] (c_Rf_isIn e3) yy_Rf_isIn.1 wm_255 yy_Rf_isIn.2 rfl ⟨Nat.le_of_ble_eq_true rfl, Nat.le_of_ble_eq_true rfl⟩ ⟨Nat.zero_le _, Nat.zero_le _⟩ (Nat.le_of_ble_eq_true rfl) dX12_canRun_10 ?_
    refine aw_if_eq (pc := 13) (tgt := 32) dX12_canRun_13 (by decide) (fun c4 => ?_) (fun c4 => ?_)
    · replace h := aw_ifp c4 h
      refine aw_iconst (pc := 32) (v := 0) dX12_canRun_32 (by decide) ?_
      cases h
      subst hE
      exact aw_iret (v := (0 : Int32)) rfl aw_n0 ⟨Nat.zero_le _, Nat.zero_le _⟩ dX12_canRun_33
    · replace h := aw_ifn c4 h
      refine aw_iload_n (pc := 16) (q := 1) dX12_canRun_16 rfl ?_
      refine aw_iconst (pc := 17) (v := -1) dX12_canRun_17 (by decide) ?_
      refine aw_icmp_eq (pc := 18) (tgt := 28) dX12_canRun_18 (by decide) (fun c5 => ?_) (fun c5 => ?_)
      · replace h := aw_ifp c5 h
        refine aw_iconst (pc := 28) (v := 1) dX12_canRun_28 (by decide) ?_
        refine aw_goto (pc := 29) (tgt := 33) dX12_canRun_29 (by decide) ?_
        cases h
        subst hE
        exact aw_iret (v := (1 : Int32)) rfl aw_n1 ⟨Nat.zero_le _, Nat.zero_le _⟩ dX12_canRun_33
      · replace h := aw_ifn c5 h
        refine aw_aload_n (pc := 21) (q := 0) dX12_canRun_21 rfl ?_
        refine aw_getI (pc := 22) fd_X12_253.r xB_0 rfl dX12_canRun_22 ?_
        refine aw_if_eq (pc := 25) (tgt := 32) dX12_canRun_25 (by decide) (fun c6 => ?_) (fun c6 => ?_)
        · replace h := aw_ifp c6 h
          refine aw_iconst (pc := 32) (v := 0) dX12_canRun_32 (by decide) ?_
          cases h
          subst hE
          exact aw_iret (v := (0 : Int32)) rfl aw_n0 ⟨Nat.zero_le _, Nat.zero_le _⟩ dX12_canRun_33
        · replace h := aw_ifn c6 h
          refine aw_iconst (pc := 28) (v := 1) dX12_canRun_28 (by decide) ?_
          refine aw_goto (pc := 29) (tgt := 33) dX12_canRun_29 (by decide) ?_
          cases h
          subst hE
          exact aw_iret (v := (1 : Int32)) rfl aw_n1 ⟨Nat.zero_le _, Nat.zero_le _⟩ dX12_canRun_33
theorem c_Rf_canRun {l : Launch} {G : aw_G} {σ : aw_S} {p1 : Int32} {t : Int32} (h : m_Rf_canRun σ p1 = some t) : aw_Ct l yX12_canRun M_Rf_canRun G B_Rf_canRun [.ref 0, .int p1] xB σ (some (.int t), xB, σ) := aw_Ct_of (by decide) rfl (fun h => by cases h) (Nat.le_of_ble_eq_true rfl) (t_Rf_canRun h rfl)
/-! LateMoverModel.worthOf(I)I -/
set_option maxRecDepth 100000 in
set_option maxHeartbeats 4000000 in
theorem t_Rf_worthOf {l : Launch} {G : aw_G} {E : aw_E} {σ : aw_S} {p1 : Int32} {t : Int32} (h : m_Rf_worthOf σ p1 = some t) (hE : E = (some (.int t), xB, σ)) : aw_W l M_Rf_worthOf G B_Rf_worthOf E 0 [(0, .ref 0), (1, .int p1)] [] xB σ 0 0 := by
  unfold m_Rf_worthOf at h
  refine aw_iload_n (pc := 0) (q := 1) dX12_worthOf_0 rfl ?_
  refine aw_bipush (pc := 1) (v := 26) dX12_worthOf_1 (by decide) ?_
  refine aw_icmp_ge (pc := 3) (tgt := 15) dX12_worthOf_3 (by decide) (fun c1 => ?_) (fun c1 => ?_)
  · replace h := aw_ifp c1 h
    refine aw_iload_n (pc := 15) (q := 1) dX12_worthOf_15 rfl ?_
    refine aw_bipush (pc := 16) (v := 26) dX12_worthOf_16 (by decide) ?_
    refine aw_isub (pc := 18) dX12_worthOf_18 ?_
    cases h
    subst hE
    exact aw_iret (v := (p1 - (26 : Int32))) rfl aw_ni ⟨Nat.zero_le _, Nat.zero_le _⟩ dX12_worthOf_19
  · replace h := aw_ifn c1 h
    refine aw_aload_n (pc := 6) (q := 0) dX12_worthOf_6 rfl ?_
    refine aw_getC (pc := 7) fd_X12_61.r xB_0 rfl dX12_worthOf_7 ?_
    refine aw_iload_n (pc := 10) (q := 1) dX12_worthOf_10 rfl ?_
    obtain ⟨g2, h⟩ := aw_gde h
    refine aw_iald (pc := 11) xB_16 g2 dX12_worthOf_11 ?_
    refine aw_goto (pc := 12) (tgt := 19) dX12_worthOf_12 (by decide) ?_
    cases h
    subst hE
    exact aw_iret (v := (σ.1 16 p1.toNatClampNeg)) rfl aw_ni ⟨Nat.zero_le _, Nat.zero_le _⟩ dX12_worthOf_19
theorem c_Rf_worthOf {l : Launch} {G : aw_G} {σ : aw_S} {p1 : Int32} {t : Int32} (h : m_Rf_worthOf σ p1 = some t) : aw_Ct l yX12_worthOf M_Rf_worthOf G B_Rf_worthOf [.ref 0, .int p1] xB σ (some (.int t), xB, σ) := aw_Ct_of (by decide) rfl (fun h => by cases h) (Nat.le_of_ble_eq_true rfl) (t_Rf_worthOf h rfl)
/-! LateMoverModel.works(I)Z -/
set_option maxRecDepth 100000 in
set_option maxHeartbeats 4000000 in
theorem t_Rf_works_J155 {l : Launch} {G : aw_G} {E : aw_E} {σ : aw_S} {k1 : Int32} {t : (Int32 × aw_S)} (h : m_Rf_works_J155 σ k1 = some t) (hE : E = (some (.int t.1), xB, t.2)) : aw_W l M_Rf_works G B_Rf_works E 155 [] [.int k1, .ref 0] xB σ 0 0 := by
  unfold m_Rf_works_J155 at h
  refine aw_putI (pc := 155) fd_X12_351 xB_0 rfl (fun _ => rfl) (fun _ => rfl) dX12_works_155 ?_
  refine aw_nmS (fun s24 e_s24 => ?_)
  replace h := aw_lte h s24 e_s24
  refine aw_goto (pc := 158) (tgt := 194) dX12_works_158 (by decide) ?_
  refine aw_iconst (pc := 194) (v := 1) dX12_works_194 (by decide) ?_
  cases h
  subst hE
  exact aw_iret (v := (1 : Int32)) rfl aw_n1 ⟨Nat.zero_le _, Nat.zero_le _⟩ dX12_works_195
set_option maxRecDepth 100000 in
set_option maxHeartbeats 4000000 in
theorem t_Rf_works_J191 {l : Launch} {G : aw_G} {E : aw_E} {σ : aw_S} {k1 : Int32} {t : (Int32 × aw_S)} (h : m_Rf_works_J191 σ k1 = some t) (hE : E = (some (.int t.1), xB, t.2)) : aw_W l M_Rf_works G B_Rf_works E 191 [] [.int k1, .ref 0] xB σ 0 0 := by
  unfold m_Rf_works_J191 at h
  refine aw_putI (pc := 191) fd_X12_351 xB_0 rfl (fun _ => rfl) (fun _ => rfl) dX12_works_191 ?_
  refine aw_nmS (fun s30 e_s30 => ?_)
  replace h := aw_lte h s30 e_s30
  refine aw_iconst (pc := 194) (v := 1) dX12_works_194 (by decide) ?_
  cases h
  subst hE
  exact aw_iret (v := (1 : Int32)) rfl aw_n1 ⟨Nat.zero_le _, Nat.zero_le _⟩ dX12_works_195
set_option maxRecDepth 100000 in
set_option maxHeartbeats 4000000 in
theorem t_Rf_works {l : Launch} {G : aw_G} {E : aw_E} {σ : aw_S} {p1 : Int32} {t : (Int32 × aw_S)} (h : m_Rf_works σ p1 = some t) (hE : E = (some (.int t.1), xB, t.2)) : aw_W l M_Rf_works G B_Rf_works E 0 [(0, .ref 0), (1, .int p1)] [] xB σ 0 0 := by
  unfold m_Rf_works at h
  refine aw_aload_n (pc := 0) (q := 0) dX12_works_0 rfl ?_
  refine aw_getC (pc := 1) fd_X12_67.r xB_0 rfl dX12_works_1 ?_
  refine aw_iload_n (pc := 4) (q := 1) dX12_works_4 rfl ?_
  refine aw_dup2 (pc := 5) dX12_works_5 rfl rfl ?_
  obtain ⟨g1, h⟩ := aw_gde h
  refine aw_iald (pc := 6) xB_18 g1 dX12_works_6 ?_
  refine aw_iconst (pc := 7) (v := 1) dX12_works_7 (by decide) ?_
  refine aw_iadd (pc := 8) dX12_works_8 ?_
  obtain ⟨g2, h⟩ := aw_gde h
  refine aw_iast (pc := 9) xB_18 g2 dX12_works_9 ?_
  refine aw_nmS (fun s3 e_s3 => ?_)
  replace h := aw_lte h s3 e_s3
  refine aw_aload_n (pc := 10) (q := 0) dX12_works_10 rfl ?_
  refine aw_aload_n (pc := 11) (q := 0) dX12_works_11 rfl ?_
  refine aw_sipush (pc := 12) (v := 292) dX12_works_12 (by decide) ?_
  refine aw_iconst (pc := 15) (v := 2) dX12_works_15 (by decide) ?_
  refine aw_iload_n (pc := 16) (q := 1) dX12_works_16 rfl ?_
  refine aw_imul (pc := 17) dX12_works_17 ?_
  refine aw_iadd (pc := 18) dX12_works_18 ?_
  obtain ⟨r4, e5, h⟩ := aw_bde h
  refine aw_cV1 (pc := 19) [.int (((292 : Int32) + ((2 : Int32) * p1)))] (c_Rf_get e5) yy_Rf_get.1 wm_736 yy_Rf_get.2.1 yy_Rf_get.2.2 xB_0 ⟨_, _, rfl⟩ rfl ⟨Nat.le_of_ble_eq_true rfl, Nat.le_of_ble_eq_true rfl⟩ ⟨Nat.zero_le _, Nat.zero_le _⟩ (Nat.le_of_ble_eq_true rfl) dX12_works_19 ?_
  obtain ⟨r6, e7, h⟩ := aw_bde h
  refine aw_cV1 (pc := 22) [.int r4] (c_Rf_worthOf e7) yy_Rf_worthOf.1 wm_1181 yy_Rf_worthOf.2.1 yy_Rf_worthOf.2.2 xB_0 ⟨_, _, rfl⟩ rfl ⟨Nat.le_of_ble_eq_true rfl, Nat.le_of_ble_eq_true rfl⟩ ⟨Nat.zero_le _, Nat.zero_le _⟩ (Nat.le_of_ble_eq_true rfl) dX12_works_22 ?_
  refine aw_istore_n (pc := 25) [(2, .int r6), (0, .ref 0), (1, .int p1)] dX12_works_25 (by decide) rfl ?_
  refine aw_aload_n (pc := 26) (q := 1) dX12_works_26 rfl ?_
  refine aw_aload_n (pc := 27) (q := 1) dX12_works_27 rfl ?_
  refine aw_sipush (pc := 28) (v := 292) dX12_works_28 (by decide) ?_
  refine aw_iconst (pc := 31) (v := 2) dX12_works_31 (by decide) ?_
  refine aw_iload_n (pc := 32) (q := 2) dX12_works_32 rfl ?_
  refine aw_imul (pc := 33) dX12_works_33 ?_
  refine aw_iadd (pc := 34) dX12_works_34 ?_
  refine aw_iconst (pc := 35) (v := 1) dX12_works_35 (by decide) ?_
  refine aw_iadd (pc := 36) dX12_works_36 ?_
  obtain ⟨r8, e9, h⟩ := aw_bde h
  refine aw_cV1 (pc := 37) [.int ((((292 : Int32) + ((2 : Int32) * p1)) + (1 : Int32)))] (c_Rf_get e9) yy_Rf_get.1 wm_736 yy_Rf_get.2.1 yy_Rf_get.2.2 xB_0 ⟨_, _, rfl⟩ rfl ⟨Nat.le_of_ble_eq_true rfl, Nat.le_of_ble_eq_true rfl⟩ ⟨Nat.zero_le _, Nat.zero_le _⟩ (Nat.le_of_ble_eq_true rfl) dX12_works_37 ?_
  obtain ⟨r10, e11, h⟩ := aw_bde h
  refine aw_cV1 (pc := 40) [.int r8] (c_Rf_worthOf e11) yy_Rf_worthOf.1 wm_1181 yy_Rf_worthOf.2.1 yy_Rf_worthOf.2.2 xB_0 ⟨_, _, rfl⟩ rfl ⟨Nat.le_of_ble_eq_true rfl, Nat.le_of_ble_eq_true rfl⟩ ⟨Nat.zero_le _, Nat.zero_le _⟩ (Nat.le_of_ble_eq_true rfl) dX12_works_40 ?_
  refine aw_istore_n (pc := 43) [(3, .int r10), (2, .int r6), (0, .ref 0), (1, .int p1)] dX12_works_43 (by decide) rfl ?_
  refine aw_aload_n (pc := 44) (q := 2) dX12_works_44 rfl ?_
  refine aw_sipush (pc := 45) (v := 268) dX12_works_45 (by decide) ?_
  refine aw_iload_n (pc := 48) (q := 3) dX12_works_48 rfl ?_
  refine aw_iadd (pc := 49) dX12_works_49 ?_
  obtain ⟨r12, e13, h⟩ := aw_bde h
  refine aw_cV1 (pc := 50) [.int (((268 : Int32) + p1))] (c_Rf_get e13) yy_Rf_get.1 wm_736 yy_Rf_get.2.1 yy_Rf_get.2.2 xB_0 ⟨_, _, rfl⟩ rfl ⟨Nat.le_of_ble_eq_true rfl, Nat.le_of_ble_eq_true rfl⟩ ⟨Nat.zero_le _, Nat.zero_le _⟩ (Nat.le_of_ble_eq_true rfl) dX12_works_50 ?_
  by_cases c14 : r12 = (38 : Int32)
  · replace h := aw_ifp c14 h
    refine aw_lookup (tgt := 134) dX12_works_53 (by decide) (by (try rw [c14]); (try rfl)) (by decide) ?_
    refine aw_aload_n (pc := 134) (q := 2) dX12_works_134 rfl ?_
    refine aw_iload_n (pc := 135) (q := 1) dX12_works_135 rfl ?_
    refine aw_iload_n (pc := 136) (q := 0) dX12_works_136 rfl ?_
    refine aw_iand (pc := 137) dX12_works_137 ?_
    refine aw_putI (pc := 138) fd_X12_351 xB_0 rfl (fun _ => rfl) (fun _ => rfl) dX12_works_138 ?_
    refine aw_nmS (fun s15 e_s15 => ?_)
    replace h := aw_lte h s15 e_s15
    refine aw_goto (pc := 141) (tgt := 194) dX12_works_141 (by decide) ?_
    refine aw_iconst (pc := 194) (v := 1) dX12_works_194 (by decide) ?_
    cases h
    subst hE
    exact aw_iret (v := (1 : Int32)) rfl aw_n1 ⟨Nat.zero_le _, Nat.zero_le _⟩ dX12_works_195
  · replace h := aw_ifn c14 h
    by_cases c16 : r12 = (42 : Int32)
    · replace h := aw_ifp c16 h
      refine aw_lookup (tgt := 124) dX12_works_53 (by decide) (by (try rw [c16]); (try rfl)) (by decide) ?_
      refine aw_aload_n (pc := 124) (q := 2) dX12_works_124 rfl ?_
      refine aw_iload_n (pc := 125) (q := 1) dX12_works_125 rfl ?_
      refine aw_iload_n (pc := 126) (q := 0) dX12_works_126 rfl ?_
      refine aw_imul (pc := 127) dX12_works_127 ?_
      refine aw_putI (pc := 128) fd_X12_351 xB_0 rfl (fun _ => rfl) (fun _ => rfl) dX12_works_128 ?_
      refine aw_nmS (fun s17 e_s17 => ?_)
      replace h := aw_lte h s17 e_s17
      refine aw_goto (pc := 131) (tgt := 194) dX12_works_131 (by decide) ?_
      refine aw_iconst (pc := 194) (v := 1) dX12_works_194 (by decide) ?_
      cases h
      subst hE
      exact aw_iret (v := (1 : Int32)) rfl aw_n1 ⟨Nat.zero_le _, Nat.zero_le _⟩ dX12_works_195
    · replace h := aw_ifn c16 h
      by_cases c18 : r12 = (43 : Int32)
      · replace h := aw_ifp c18 h
        refine aw_lookup (tgt := 104) dX12_works_53 (by decide) (by (try rw [c18]); (try rfl)) (by decide) ?_
        refine aw_aload_n (pc := 104) (q := 2) dX12_works_104 rfl ?_
        refine aw_iload_n (pc := 105) (q := 1) dX12_works_105 rfl ?_
        refine aw_iload_n (pc := 106) (q := 0) dX12_works_106 rfl ?_
        refine aw_iadd (pc := 107) dX12_works_107 ?_
        refine aw_putI (pc := 108) fd_X12_351 xB_0 rfl (fun _ => rfl) (fun _ => rfl) dX12_works_108 ?_
        refine aw_nmS (fun s19 e_s19 => ?_)
        replace h := aw_lte h s19 e_s19
        refine aw_goto (pc := 111) (tgt := 194) dX12_works_111 (by decide) ?_
        refine aw_iconst (pc := 194) (v := 1) dX12_works_194 (by decide) ?_
        cases h
        subst hE
        exact aw_iret (v := (1 : Int32)) rfl aw_n1 ⟨Nat.zero_le _, Nat.zero_le _⟩ dX12_works_195
      · replace h := aw_ifn c18 h
        by_cases c20 : r12 = (45 : Int32)
        · replace h := aw_ifp c20 h
          refine aw_lookup (tgt := 114) dX12_works_53 (by decide) (by (try rw [c20]); (try rfl)) (by decide) ?_
          refine aw_aload_n (pc := 114) (q := 2) dX12_works_114 rfl ?_
          refine aw_iload_n (pc := 115) (q := 1) dX12_works_115 rfl ?_
          refine aw_iload_n (pc := 116) (q := 0) dX12_works_116 rfl ?_
          refine aw_isub (pc := 117) dX12_works_117 ?_
          refine aw_putI (pc := 118) fd_X12_351 xB_0 rfl (fun _ => rfl) (fun _ => rfl) dX12_works_118 ?_
          refine aw_nmS (fun s21 e_s21 => ?_)
          replace h := aw_lte h s21 e_s21
          refine aw_goto (pc := 121) (tgt := 194) dX12_works_121 (by decide) ?_
          refine aw_iconst (pc := 194) (v := 1) dX12_works_194 (by decide) ?_
          cases h
          subst hE
          exact aw_iret (v := (1 : Int32)) rfl aw_n1 ⟨Nat.zero_le _, Nat.zero_le _⟩ dX12_works_195
        · replace h := aw_ifn c20 h
          by_cases c22 : r12 = (60 : Int32)
          · replace h := aw_ifp c22 h
            refine aw_lookup (tgt := 144) dX12_works_53 (by decide) (by (try rw [c22]); (try rfl)) (by decide) ?_
            refine aw_aload_n (pc := 144) (q := 2) dX12_works_144 rfl ?_
            refine aw_iload_n (pc := 145) (q := 1) dX12_works_145 rfl ?_
            refine aw_iload_n (pc := 146) (q := 0) dX12_works_146 rfl ?_
            refine aw_icmp_ge (pc := 147) (tgt := 154) dX12_works_147 (by decide) (fun c23 => ?_) (fun c23 => ?_)
            · replace h := aw_ifp c23 h
              refine aw_iconst (pc := 154) (v := 0) dX12_works_154 (by decide) ?_
              refine aw_sub [] rfl ?_
              exact t_Rf_works_J155 h hE
            · replace h := aw_ifn c23 h
              refine aw_iconst (pc := 150) (v := 1) dX12_works_150 (by decide) ?_
              refine aw_goto (pc := 151) (tgt := 155) dX12_works_151 (by decide) ?_
              refine aw_sub [] rfl ?_
              exact t_Rf_works_J155 h hE
          · replace h := aw_ifn c22 h
            refine aw_lookup (pc := 53) (tgt := 161) (off := 108) dX12_works_53 (by decide) (aw_lkout [(38, 81), (42, 71), (43, 51), (45, 61), (60, 91)] (fun k hk => by
              have hk : k = 38 ∨ k = 42 ∨ k = 43 ∨ k = 45 ∨ k = 60 := by simpa using hk
              rcases hk with rfl | rfl | rfl | rfl | rfl
              · exact fun e => c14 (Int32.toInt_inj.mp (e.trans (by decide)))
              · exact fun e => c16 (Int32.toInt_inj.mp (e.trans (by decide)))
              · exact fun e => c18 (Int32.toInt_inj.mp (e.trans (by decide)))
              · exact fun e => c20 (Int32.toInt_inj.mp (e.trans (by decide)))
              · exact fun e => c22 (Int32.toInt_inj.mp (e.trans (by decide))))) (by decide) ?_
            refine aw_iload_n (pc := 161) (q := 0) dX12_works_161 rfl ?_
            refine aw_if_ne (pc := 162) (tgt := 167) dX12_works_162 (by decide) (fun c25 => ?_) (fun c25 => ?_)
            · replace h := aw_ifn c25 h
              refine aw_aload_n (pc := 167) (q := 2) dX12_works_167 rfl ?_
              refine aw_aload_n (pc := 168) (q := 2) dX12_works_168 rfl ?_
              refine aw_sipush (pc := 169) (v := 268) dX12_works_169 (by decide) ?_
              refine aw_iload_n (pc := 172) (q := 3) dX12_works_172 rfl ?_
              refine aw_iadd (pc := 173) dX12_works_173 ?_
              obtain ⟨r26, e27, h⟩ := aw_bde h
              refine aw_cV1 (pc := 174) [.int (((268 : Int32) + p1))] (c_Rf_get e27) yy_Rf_get.1 wm_736 yy_Rf_get.2.1 yy_Rf_get.2.2 xB_0 ⟨_, _, rfl⟩ rfl ⟨Nat.le_of_ble_eq_true rfl, Nat.le_of_ble_eq_true rfl⟩ ⟨Nat.zero_le _, Nat.zero_le _⟩ (Nat.le_of_ble_eq_true rfl) dX12_works_174 ?_
              refine aw_bipush (pc := 177) (v := 47) dX12_works_177 (by decide) ?_
              refine aw_icmp_ne (pc := 179) (tgt := 188) dX12_works_179 (by decide) (fun c28 => ?_) (fun c28 => ?_)
              · replace h := aw_ifn c28 h
                refine aw_iload_n (pc := 188) (q := 1) dX12_works_188 rfl ?_
                refine aw_iload_n (pc := 189) (q := 0) dX12_works_189 rfl ?_
                obtain ⟨g29, h⟩ := aw_gde h
                refine aw_irem (pc := 190) dX12_works_190 g29 ?_
                refine aw_sub [] rfl ?_
                exact t_Rf_works_J191 h hE
              · replace h := aw_ifp c28 h
                refine aw_iload_n (pc := 182) (q := 1) dX12_works_182 rfl ?_
                refine aw_iload_n (pc := 183) (q := 0) dX12_works_183 rfl ?_
                obtain ⟨g31, h⟩ := aw_gde h
                refine aw_idiv (pc := 184) dX12_works_184 g31 ?_
                refine aw_goto (pc := 185) (tgt := 191) dX12_works_185 (by decide) ?_
                refine aw_sub [] rfl ?_
                exact t_Rf_works_J191 h hE
            · replace h := aw_ifp c25 h
              refine aw_iconst (pc := 165) (v := 0) dX12_works_165 (by decide) ?_
              cases h
              subst hE
              exact aw_iret (v := (0 : Int32)) rfl aw_n0 ⟨Nat.zero_le _, Nat.zero_le _⟩ dX12_works_166
theorem c_Rf_works {l : Launch} {G : aw_G} {σ : aw_S} {p1 : Int32} {t : (Int32 × aw_S)} (h : m_Rf_works σ p1 = some t) : aw_Ct l yX12_works M_Rf_works G B_Rf_works [.ref 0, .int p1] xB σ (some (.int t.1), xB, t.2) := aw_Ct_of (by decide) rfl (fun h => by cases h) (Nat.le_of_ble_eq_true rfl) (t_Rf_works h rfl)
/-! LateMoverModel.does(II)Z -/
set_option maxRecDepth 100000 in
set_option maxHeartbeats 4000000 in
theorem t_Rf_does_J154 {l : Launch} {G : aw_G} {E : aw_E} {σ : aw_S} {v3 : Int32} {v4 : Int32} {t : (Int32 × aw_S)} (h : m_Rf_does_J154 σ v3 v4 = some t) (hE : E = (some (.int t.1), xB, t.2)) : aw_W l M_Rf_does G B_Rf_does E 154 [(0, .ref 0), (3, .int v3), (4, .int v4)] [] xB σ 0 0 := by
  unfold m_Rf_does_J154 at h
  refine aw_aload_n (pc := 154) (q := 0) dX12_does_154 rfl ?_
  refine aw_iload (pc := 155) (q := 2) dX12_does_155 rfl ?_
  obtain ⟨r12, s14, e13, h⟩ := aw_bd2e h
  refine aw_cV1 (pc := 157) [.int v4] (c_Rf_works e13) yy_Rf_works.1 wm_1177 yy_Rf_works.2.1 yy_Rf_works.2.2 xB_0 ⟨_, _, rfl⟩ rfl ⟨Nat.le_of_ble_eq_true rfl, Nat.le_of_ble_eq_true rfl⟩ ⟨Nat.zero_le _, Nat.zero_le _⟩ (Nat.le_of_ble_eq_true rfl) dX12_does_157 ?_
  refine aw_if_ne (pc := 160) (tgt := 165) dX12_does_160 (by decide) (fun c15 => ?_) (fun c15 => ?_)
  · replace h := aw_ifn c15 h
    refine aw_aload_n (pc := 165) (q := 0) dX12_does_165 rfl ?_
    refine aw_getC (pc := 166) fd_X12_61.r xB_0 rfl dX12_does_166 ?_
    refine aw_aload_n (pc := 169) (q := 0) dX12_does_169 rfl ?_
    refine aw_bipush (pc := 170) (v := 64) dX12_does_170 (by decide) ?_
    refine aw_iload_n (pc := 172) (q := 1) dX12_does_172 rfl ?_
    refine aw_iadd (pc := 173) dX12_does_173 ?_
    obtain ⟨r16, e17, h⟩ := aw_bde h
    refine aw_cV1 (pc := 174) [.int (((64 : Int32) + v3))] (c_Rf_get e17) yy_Rf_get.1 wm_736 yy_Rf_get.2.1 yy_Rf_get.2.2 xB_0 ⟨_, _, rfl⟩ rfl ⟨Nat.le_of_ble_eq_true rfl, Nat.le_of_ble_eq_true rfl⟩ ⟨Nat.zero_le _, Nat.zero_le _⟩ (Nat.le_of_ble_eq_true rfl) dX12_does_174 ?_
    refine aw_aload_n (pc := 177) (q := 0) dX12_does_177 rfl ?_
    refine aw_getI (pc := 178) fd_X12_351.r xB_0 rfl dX12_does_178 ?_
    obtain ⟨g18, h⟩ := aw_gde h
    refine aw_iast (pc := 181) xB_16 g18 dX12_does_181 ?_
    refine aw_nmS (fun s19 e_s19 => ?_)
    replace h := aw_lte h s19 e_s19
    refine aw_iconst (pc := 182) (v := 1) dX12_does_182 (by decide) ?_
    cases h
    subst hE
    exact aw_iret (v := (1 : Int32)) rfl aw_n1 ⟨Nat.zero_le _, Nat.zero_le _⟩ dX12_does_183
  · replace h := aw_ifp c15 h
    refine aw_iconst (pc := 163) (v := 0) dX12_does_163 (by decide) ?_
    cases h
    subst hE
    exact aw_iret (v := (0 : Int32)) rfl aw_n0 ⟨Nat.zero_le _, Nat.zero_le _⟩ dX12_does_164
set_option maxRecDepth 100000 in
set_option maxHeartbeats 4000000 in
theorem t_Rf_does_J99 {l : Launch} {G : aw_G} {E : aw_E} {σ : aw_S} {v1 : Int32} {v2 : Int32} {v3 : Int32} {v4 : Int32} {t : (Int32 × aw_S)} (h : m_Rf_does_J99 σ v1 v2 v3 v4 = some t) (hE : E = (some (.int t.1), xB, t.2)) : aw_W l M_Rf_does G B_Rf_does E 99 [(0, .ref 0), (1, .int v1), (2, .int v2), (3, .int v3), (4, .int v4)] [] xB σ 0 0 := by
  unfold m_Rf_does_J99 at h
  refine aw_aload_n (pc := 99) (q := 0) dX12_does_99 rfl ?_
  refine aw_getC (pc := 100) fd_X12_24.r xB_0 rfl dX12_does_100 ?_
  refine aw_iload_n (pc := 103) (q := 1) dX12_does_103 rfl ?_
  obtain ⟨g9, h⟩ := aw_gde h
  refine aw_iald (pc := 104) xB_4 g9 dX12_does_104 ?_
  refine aw_iconst (pc := 105) (v := 2) dX12_does_105 (by decide) ?_
  refine aw_icmp_eq (pc := 106) (tgt := 111) dX12_does_106 (by decide) (fun c10 => ?_) (fun c10 => ?_)
  · replace h := aw_ifp c10 h
    refine aw_iload_n (pc := 111) (q := 2) dX12_does_111 rfl ?_
    refine aw_iconst (pc := 112) (v := -1) dX12_does_112 (by decide) ?_
    refine aw_icmp_eq (pc := 113) (tgt := 154) dX12_does_113 (by decide) (fun c11 => ?_) (fun c11 => ?_)
    · replace h := aw_ifp c11 h
      refine aw_sub [0, 3, 4] rfl ?_
      exact t_Rf_does_J154 h hE
    · replace h := aw_ifn c11 h
      refine aw_aload_n (pc := 116) (q := 0) dX12_does_116 rfl ?_
      refine aw_getC (pc := 117) fd_X12_52.r xB_0 rfl dX12_does_117 ?_
      refine aw_iload_n (pc := 120) (q := 2) dX12_does_120 rfl ?_
      refine aw_iconst (pc := 121) (v := 1) dX12_does_121 (by decide) ?_
      refine aw_iload (pc := 122) (q := 4) dX12_does_122 rfl ?_
      refine aw_iload_n (pc := 124) (q := 1) dX12_does_124 rfl ?_
      obtain ⟨r20, e21, h⟩ := aw_bde h
      refine aw_cS1 (pc := 125) [.int v2, .int ((1 : Int32)), .int v4, .int v1] (c_Rf_at e21) yy_Rf_at.1 wm_827 yy_Rf_at.2 rfl ⟨Nat.le_of_ble_eq_true rfl, Nat.le_of_ble_eq_true rfl⟩ ⟨Nat.zero_le _, Nat.zero_le _⟩ (Nat.le_of_ble_eq_true rfl) dX12_does_125 ?_
      obtain ⟨g22, h⟩ := aw_gde h
      refine aw_zald (pc := 128) xB_13 g22 dX12_does_128 ?_
      refine aw_if_eq (pc := 129) (tgt := 154) dX12_does_129 (by decide) (fun c23 => ?_) (fun c23 => ?_)
      · replace h := aw_ifp c23 h
        refine aw_sub [0, 3, 4] rfl ?_
        exact t_Rf_does_J154 h hE
      · replace h := aw_ifn c23 h
        refine aw_aload_n (pc := 132) (q := 0) dX12_does_132 rfl ?_
        refine aw_getC (pc := 133) fd_X12_61.r xB_0 rfl dX12_does_133 ?_
        refine aw_aload_n (pc := 136) (q := 0) dX12_does_136 rfl ?_
        refine aw_bipush (pc := 137) (v := 64) dX12_does_137 (by decide) ?_
        refine aw_iload_n (pc := 139) (q := 3) dX12_does_139 rfl ?_
        refine aw_iadd (pc := 140) dX12_does_140 ?_
        obtain ⟨r24, e25, h⟩ := aw_bde h
        refine aw_cV1 (pc := 141) [.int (((64 : Int32) + v3))] (c_Rf_get e25) yy_Rf_get.1 wm_736 yy_Rf_get.2.1 yy_Rf_get.2.2 xB_0 ⟨_, _, rfl⟩ rfl ⟨Nat.le_of_ble_eq_true rfl, Nat.le_of_ble_eq_true rfl⟩ ⟨Nat.zero_le _, Nat.zero_le _⟩ (Nat.le_of_ble_eq_true rfl) dX12_does_141 ?_
        refine aw_aload_n (pc := 144) (q := 0) dX12_does_144 rfl ?_
        refine aw_getC (pc := 145) fd_X12_64.r xB_0 rfl dX12_does_145 ?_
        refine aw_iload (pc := 148) (q := 4) dX12_does_148 rfl ?_
        obtain ⟨g26, h⟩ := aw_gde h
        refine aw_iald (pc := 150) xB_17 g26 dX12_does_150 ?_
        obtain ⟨g27, h⟩ := aw_gde h
        refine aw_iast (pc := 151) xB_16 g27 dX12_does_151 ?_
        refine aw_nmS (fun s28 e_s28 => ?_)
        replace h := aw_lte h s28 e_s28
        refine aw_iconst (pc := 152) (v := 1) dX12_does_152 (by decide) ?_
        cases h
        subst hE
        exact aw_iret (v := (1 : Int32)) rfl aw_n1 ⟨Nat.zero_le _, Nat.zero_le _⟩ dX12_does_153
  · replace h := aw_ifn c10 h
    refine aw_iconst (pc := 109) (v := 1) dX12_does_109 (by decide) ?_
    cases h
    subst hE
    exact aw_iret (v := (1 : Int32)) rfl aw_n1 ⟨Nat.zero_le _, Nat.zero_le _⟩ dX12_does_110
set_option maxRecDepth 100000 in
set_option maxHeartbeats 4000000 in
theorem t_Rf_does_J89 {l : Launch} {G : aw_G} {E : aw_E} {σ : aw_S} {v1 : Int32} {v2 : Int32} {v3 : Int32} {v4 : Int32} {t : (Int32 × aw_S)} (h : m_Rf_does_J89 σ v1 v2 v3 v4 = some t) (hE : E = (some (.int t.1), xB, t.2)) : aw_W l M_Rf_does G B_Rf_does E 89 [(0, .ref 0), (1, .int v1), (2, .int v2), (3, .int v3), (4, .int v4)] [] xB σ 0 0 := by
  unfold m_Rf_does_J89 at h
  refine aw_aload_n (pc := 89) (q := 0) dX12_does_89 rfl ?_
  refine aw_dup (pc := 90) dX12_does_90 rfl ?_
  refine aw_getI (pc := 91) fd_X12_357.r xB_0 rfl dX12_does_91 ?_
  refine aw_iconst (pc := 94) (v := 1) dX12_does_94 (by decide) ?_
  refine aw_iadd (pc := 95) dX12_does_95 ?_
  refine aw_putI (pc := 96) fd_X12_357 xB_0 rfl (fun _ => rfl) (fun _ => rfl) dX12_does_96 ?_
  refine aw_nmS (fun s30 e_s30 => ?_)
  replace h := aw_lte h s30 e_s30
  exact t_Rf_does_J99 h hE
set_option maxRecDepth 100000 in
set_option maxHeartbeats 4000000 in
theorem t_Rf_does_J49 {l : Launch} {G : aw_G} {E : aw_E} {σ : aw_S} {v1 : Int32} {v2 : Int32} {v3 : Int32} {v4 : Int32} {t : (Int32 × aw_S)} (h : m_Rf_does_J49 σ v1 v2 v3 v4 = some t) (hE : E = (some (.int t.1), xB, t.2)) : aw_W l M_Rf_does G B_Rf_does E 49 [(0, .ref 0), (1, .int v1), (2, .int v2), (3, .int v3), (4, .int v4)] [] xB σ 0 0 := by
  unfold m_Rf_does_J49 at h
  refine aw_aload_n (pc := 49) (q := 0) dX12_does_49 rfl ?_
  refine aw_getC (pc := 50) fd_X12_24.r xB_0 rfl dX12_does_50 ?_
  refine aw_iload_n (pc := 53) (q := 1) dX12_does_53 rfl ?_
  obtain ⟨g7, h⟩ := aw_gde h
  refine aw_iald (pc := 54) xB_4 g7 dX12_does_54 ?_
  refine aw_iconst (pc := 55) (v := 3) dX12_does_55 (by decide) ?_
  refine aw_icmp_ne (pc := 56) (tgt := 99) dX12_does_56 (by decide) (fun c8 => ?_) (fun c8 => ?_)
  · replace h := aw_ifn c8 h
    exact t_Rf_does_J99 h hE
  · replace h := aw_ifp c8 h
    refine aw_aload_n (pc := 59) (q := 0) dX12_does_59 rfl ?_
    refine aw_getI (pc := 60) fd_X12_357.r xB_0 rfl dX12_does_60 ?_
    refine aw_bipush (pc := 63) (v := 40) dX12_does_63 (by decide) ?_
    refine aw_icmp_ge (pc := 65) (tgt := 89) dX12_does_65 (by decide) (fun c29 => ?_) (fun c29 => ?_)
    · replace h := aw_ifp c29 h
      exact t_Rf_does_J89 h hE
    · replace h := aw_ifn c29 h
      refine aw_aload_n (pc := 68) (q := 0) dX12_does_68 rfl ?_
      refine aw_getC (pc := 69) fd_X12_70.r xB_0 rfl dX12_does_69 ?_
      refine aw_aload_n (pc := 72) (q := 0) dX12_does_72 rfl ?_
      refine aw_getI (pc := 73) fd_X12_357.r xB_0 rfl dX12_does_73 ?_
      refine aw_aload_n (pc := 76) (q := 0) dX12_does_76 rfl ?_
      refine aw_aload_n (pc := 77) (q := 0) dX12_does_77 rfl ?_
      refine aw_bipush (pc := 78) (v := 124) dX12_does_78 (by decide) ?_
      refine aw_iload_n (pc := 80) (q := 3) dX12_does_80 rfl ?_
      refine aw_iadd (pc := 81) dX12_does_81 ?_
      obtain ⟨r31, e32, h⟩ := aw_bde h
      refine aw_cV1 (pc := 82) [.int (((124 : Int32) + v3))] (c_Rf_get e32) yy_Rf_get.1 wm_736 yy_Rf_get.2.1 yy_Rf_get.2.2 xB_0 ⟨_, _, rfl⟩ rfl ⟨Nat.le_of_ble_eq_true rfl, Nat.le_of_ble_eq_true rfl⟩ ⟨Nat.zero_le _, Nat.zero_le _⟩ (Nat.le_of_ble_eq_true rfl) dX12_does_82 ?_
      obtain ⟨r33, e34, h⟩ := aw_bde h
      refine aw_cV1 (pc := 85) [.int r31] (c_Rf_worthOf e34) yy_Rf_worthOf.1 wm_1181 yy_Rf_worthOf.2.1 yy_Rf_worthOf.2.2 xB_0 ⟨_, _, rfl⟩ rfl ⟨Nat.le_of_ble_eq_true rfl, Nat.le_of_ble_eq_true rfl⟩ ⟨Nat.zero_le _, Nat.zero_le _⟩ (Nat.le_of_ble_eq_true rfl) dX12_does_85 ?_
      obtain ⟨g35, h⟩ := aw_gde h
      refine aw_iast (pc := 88) xB_19 g35 dX12_does_88 ?_
      refine aw_nmS (fun s36 e_s36 => ?_)
      replace h := aw_lte h s36 e_s36
      exact t_Rf_does_J89 h hE
set_option maxRecDepth 100000 in
set_option maxHeartbeats 4000000 in
theorem t_Rf_does {l : Launch} {G : aw_G} {E : aw_E} {σ : aw_S} {p1 : Int32} {p2 : Int32} {t : (Int32 × aw_S)} (h : m_Rf_does σ p1 p2 = some t) (hE : E = (some (.int t.1), xB, t.2)) : aw_W l M_Rf_does G B_Rf_does E 0 [(0, .ref 0), (1, .int p1), (2, .int p2)] [] xB σ 0 0 := by
  unfold m_Rf_does at h
  refine aw_aload_n (pc := 0) (q := 0) dX12_does_0 rfl ?_
  refine aw_getC (pc := 1) fd_X12_30.r xB_0 rfl dX12_does_1 ?_
  refine aw_iload_n (pc := 4) (q := 1) dX12_does_4 rfl ?_
  obtain ⟨g1, h⟩ := aw_gde h
  refine aw_iald (pc := 5) xB_6 g1 dX12_does_5 ?_
  refine aw_nmI (fun x2 e_x2 => ?_)
  replace h := aw_lte h x2 e_x2
  refine aw_istore_n (pc := 6) [(3, .int x2), (0, .ref 0), (1, .int p1), (2, .int p2)] dX12_does_6 (by decide) rfl ?_
  refine aw_aload_n (pc := 7) (q := 1) dX12_does_7 rfl ?_
  refine aw_iload_n (pc := 8) (q := 2) dX12_does_8 rfl ?_
  obtain ⟨r3, e4, h⟩ := aw_bde h
  refine aw_cV1 (pc := 9) [.int p1] (c_Rf_expressionOf e4) yy_Rf_expressionOf.1 wm_776 yy_Rf_expressionOf.2.1 yy_Rf_expressionOf.2.2 xB_0 ⟨_, _, rfl⟩ rfl ⟨Nat.le_of_ble_eq_true rfl, Nat.le_of_ble_eq_true rfl⟩ ⟨Nat.zero_le _, Nat.zero_le _⟩ (Nat.le_of_ble_eq_true rfl) dX12_does_9 ?_
  refine aw_istore (pc := 12) [(4, .int r3), (3, .int x2), (0, .ref 0), (1, .int p1), (2, .int p2)] dX12_does_12 (by decide) rfl ?_
  refine aw_aload_n (pc := 14) (q := 2) dX12_does_14 rfl ?_
  refine aw_getC (pc := 15) fd_X12_24.r xB_0 rfl dX12_does_15 ?_
  refine aw_iload_n (pc := 18) (q := 3) dX12_does_18 rfl ?_
  obtain ⟨g5, h⟩ := aw_gde h
  refine aw_iald (pc := 19) xB_4 g5 dX12_does_19 ?_
  refine aw_iconst (pc := 20) (v := 1) dX12_does_20 (by decide) ?_
  refine aw_icmp_ne (pc := 21) (tgt := 49) dX12_does_21 (by decide) (fun c6 => ?_) (fun c6 => ?_)
  · replace h := aw_ifn c6 h
    refine aw_sub [2, 3, 4, 1, 0] rfl ?_
    exact t_Rf_does_J49 h hE
  · replace h := aw_ifp c6 h
    refine aw_aload_n (pc := 24) (q := 2) dX12_does_24 rfl ?_
    refine aw_getC (pc := 25) fd_X12_61.r xB_0 rfl dX12_does_25 ?_
    refine aw_aload_n (pc := 28) (q := 2) dX12_does_28 rfl ?_
    refine aw_bipush (pc := 29) (v := 64) dX12_does_29 (by decide) ?_
    refine aw_iload_n (pc := 31) (q := 1) dX12_does_31 rfl ?_
    refine aw_iadd (pc := 32) dX12_does_32 ?_
    obtain ⟨r37, e38, h⟩ := aw_bde h
    refine aw_cV1 (pc := 33) [.int (((64 : Int32) + x2))] (c_Rf_get e38) yy_Rf_get.1 wm_736 yy_Rf_get.2.1 yy_Rf_get.2.2 xB_0 ⟨_, _, rfl⟩ rfl ⟨Nat.le_of_ble_eq_true rfl, Nat.le_of_ble_eq_true rfl⟩ ⟨Nat.zero_le _, Nat.zero_le _⟩ (Nat.le_of_ble_eq_true rfl) dX12_does_33 ?_
    refine aw_aload_n (pc := 36) (q := 2) dX12_does_36 rfl ?_
    refine aw_aload_n (pc := 37) (q := 2) dX12_does_37 rfl ?_
    refine aw_bipush (pc := 38) (v := 124) dX12_does_38 (by decide) ?_
    refine aw_iload_n (pc := 40) (q := 1) dX12_does_40 rfl ?_
    refine aw_iadd (pc := 41) dX12_does_41 ?_
    obtain ⟨r39, e40, h⟩ := aw_bde h
    refine aw_cV1 (pc := 42) [.int (((124 : Int32) + x2))] (c_Rf_get e40) yy_Rf_get.1 wm_736 yy_Rf_get.2.1 yy_Rf_get.2.2 xB_0 ⟨_, _, rfl⟩ rfl ⟨Nat.le_of_ble_eq_true rfl, Nat.le_of_ble_eq_true rfl⟩ ⟨Nat.zero_le _, Nat.zero_le _⟩ (Nat.le_of_ble_eq_true rfl) dX12_does_42 ?_
    obtain ⟨r41, e42, h⟩ := aw_bde h
    refine aw_cV1 (pc := 45) [.int r39] (c_Rf_worthOf e42) yy_Rf_worthOf.1 wm_1181 yy_Rf_worthOf.2.1 yy_Rf_worthOf.2.2 xB_0 ⟨_, _, rfl⟩ rfl ⟨Nat.le_of_ble_eq_true rfl, Nat.le_of_ble_eq_true rfl⟩ ⟨Nat.zero_le _, Nat.zero_le _⟩ (Nat.le_of_ble_eq_true rfl) dX12_does_45 ?_
    obtain ⟨g43, h⟩ := aw_gde h
    refine aw_iast (pc := 48) xB_16 g43 dX12_does_48 ?_
    refine aw_nmS (fun s44 e_s44 => ?_)
    replace h := aw_lte h s44 e_s44
    refine aw_sub [2, 3, 4, 1, 0] rfl ?_
    exact t_Rf_does_J49 h hE
theorem c_Rf_does {l : Launch} {G : aw_G} {σ : aw_S} {p1 : Int32} {p2 : Int32} {t : (Int32 × aw_S)} (h : m_Rf_does σ p1 p2 = some t) : aw_Ct l yX12_does M_Rf_does G B_Rf_does [.ref 0, .int p1, .int p2] xB σ (some (.int t.1), xB, t.2) := aw_Ct_of (by decide) rfl (fun h => by cases h) (Nat.le_of_ble_eq_true rfl) (t_Rf_does h rfl)
/-! LateMoverModel.goesTo(I)I -/
set_option maxRecDepth 100000 in
set_option maxHeartbeats 4000000 in
theorem t_Rf_goesTo_J24 {l : Launch} {G : aw_G} {E : aw_E} {σ : aw_S} {v1 : Int32} {t : Int32} (h : m_Rf_goesTo_J24 σ v1 = some t) (hE : E = (some (.int t), xB, σ)) : aw_W l M_Rf_goesTo G B_Rf_goesTo E 24 [(0, .ref 0), (1, .int v1)] [] xB σ 0 0 := by
  unfold m_Rf_goesTo_J24 at h
  refine aw_aload_n (pc := 24) (q := 0) dX12_goesTo_24 rfl ?_
  refine aw_getC (pc := 25) fd_X12_33.r xB_0 rfl dX12_goesTo_25 ?_
  refine aw_iconst (pc := 28) (v := 2) dX12_goesTo_28 (by decide) ?_
  refine aw_iload_n (pc := 29) (q := 1) dX12_goesTo_29 rfl ?_
  refine aw_imul (pc := 30) dX12_goesTo_30 ?_
  obtain ⟨g3, h⟩ := aw_gde h
  refine aw_iald (pc := 31) xB_7 g3 dX12_goesTo_31 ?_
  cases h
  subst hE
  exact aw_iret (v := (σ.1 7 (((2 : Int32) * v1)).toNatClampNeg)) rfl aw_ni ⟨Nat.zero_le _, Nat.zero_le _⟩ dX12_goesTo_32
set_option maxRecDepth 100000 in
set_option maxHeartbeats 4000000 in
theorem t_Rf_goesTo {l : Launch} {G : aw_G} {E : aw_E} {σ : aw_S} {p1 : Int32} {t : Int32} (h : m_Rf_goesTo σ p1 = some t) (hE : E = (some (.int t), xB, σ)) : aw_W l M_Rf_goesTo G B_Rf_goesTo E 0 [(0, .ref 0), (1, .int p1)] [] xB σ 0 0 := by
  unfold m_Rf_goesTo at h
  refine aw_aload_n (pc := 0) (q := 0) dX12_goesTo_0 rfl ?_
  refine aw_getC (pc := 1) fd_X12_24.r xB_0 rfl dX12_goesTo_1 ?_
  refine aw_iload_n (pc := 4) (q := 1) dX12_goesTo_4 rfl ?_
  obtain ⟨g1, h⟩ := aw_gde h
  refine aw_iald (pc := 5) xB_4 g1 dX12_goesTo_5 ?_
  refine aw_iconst (pc := 6) (v := 5) dX12_goesTo_6 (by decide) ?_
  refine aw_icmp_ne (pc := 7) (tgt := 24) dX12_goesTo_7 (by decide) (fun c2 => ?_) (fun c2 => ?_)
  · replace h := aw_ifn c2 h
    exact t_Rf_goesTo_J24 h hE
  · replace h := aw_ifp c2 h
    refine aw_aload_n (pc := 10) (q := 0) dX12_goesTo_10 rfl ?_
    refine aw_getC (pc := 11) fd_X12_33.r xB_0 rfl dX12_goesTo_11 ?_
    refine aw_iconst (pc := 14) (v := 2) dX12_goesTo_14 (by decide) ?_
    refine aw_iload_n (pc := 15) (q := 1) dX12_goesTo_15 rfl ?_
    refine aw_imul (pc := 16) dX12_goesTo_16 ?_
    refine aw_iconst (pc := 17) (v := 1) dX12_goesTo_17 (by decide) ?_
    refine aw_iadd (pc := 18) dX12_goesTo_18 ?_
    obtain ⟨g4, h⟩ := aw_gde h
    refine aw_iald (pc := 19) xB_7 g4 dX12_goesTo_19 ?_
    refine aw_iconst (pc := 20) (v := -1) dX12_goesTo_20 (by decide) ?_
    refine aw_icmp_ne (pc := 21) (tgt := 33) dX12_goesTo_21 (by decide) (fun c5 => ?_) (fun c5 => ?_)
    · replace h := aw_ifn c5 h
      refine aw_aload_n (pc := 33) (q := 0) dX12_goesTo_33 rfl ?_
      refine aw_getC (pc := 34) fd_X12_61.r xB_0 rfl dX12_goesTo_34 ?_
      refine aw_aload_n (pc := 37) (q := 0) dX12_goesTo_37 rfl ?_
      refine aw_sipush (pc := 38) (v := 220) dX12_goesTo_38 (by decide) ?_
      refine aw_aload_n (pc := 41) (q := 0) dX12_goesTo_41 rfl ?_
      refine aw_getC (pc := 42) fd_X12_27.r xB_0 rfl dX12_goesTo_42 ?_
      refine aw_iload_n (pc := 45) (q := 1) dX12_goesTo_45 rfl ?_
      obtain ⟨g6, h⟩ := aw_gde h
      refine aw_iald (pc := 46) xB_5 g6 dX12_goesTo_46 ?_
      refine aw_iadd (pc := 47) dX12_goesTo_47 ?_
      obtain ⟨r7, e8, h⟩ := aw_bde h
      refine aw_cV1 (pc := 48) [.int (((220 : Int32) + (σ.1 5 p1.toNatClampNeg)))] (c_Rf_get e8) yy_Rf_get.1 wm_736 yy_Rf_get.2.1 yy_Rf_get.2.2 xB_0 ⟨_, _, rfl⟩ rfl ⟨Nat.le_of_ble_eq_true rfl, Nat.le_of_ble_eq_true rfl⟩ ⟨Nat.zero_le _, Nat.zero_le _⟩ (Nat.le_of_ble_eq_true rfl) dX12_goesTo_48 ?_
      obtain ⟨g9, h⟩ := aw_gde h
      refine aw_iald (pc := 51) xB_16 g9 dX12_goesTo_51 ?_
      refine aw_if_eq (pc := 52) (tgt := 66) dX12_goesTo_52 (by decide) (fun c10 => ?_) (fun c10 => ?_)
      · replace h := aw_ifp c10 h
        refine aw_aload_n (pc := 66) (q := 0) dX12_goesTo_66 rfl ?_
        refine aw_getC (pc := 67) fd_X12_33.r xB_0 rfl dX12_goesTo_67 ?_
        refine aw_iconst (pc := 70) (v := 2) dX12_goesTo_70 (by decide) ?_
        refine aw_iload_n (pc := 71) (q := 1) dX12_goesTo_71 rfl ?_
        refine aw_imul (pc := 72) dX12_goesTo_72 ?_
        refine aw_iconst (pc := 73) (v := 1) dX12_goesTo_73 (by decide) ?_
        refine aw_iadd (pc := 74) dX12_goesTo_74 ?_
        obtain ⟨g11, h⟩ := aw_gde h
        refine aw_iald (pc := 75) xB_7 g11 dX12_goesTo_75 ?_
        cases h
        subst hE
        exact aw_iret (v := (σ.1 7 ((((2 : Int32) * p1) + (1 : Int32))).toNatClampNeg)) rfl aw_ni ⟨Nat.zero_le _, Nat.zero_le _⟩ dX12_goesTo_76
      · replace h := aw_ifn c10 h
        refine aw_aload_n (pc := 55) (q := 0) dX12_goesTo_55 rfl ?_
        refine aw_getC (pc := 56) fd_X12_33.r xB_0 rfl dX12_goesTo_56 ?_
        refine aw_iconst (pc := 59) (v := 2) dX12_goesTo_59 (by decide) ?_
        refine aw_iload_n (pc := 60) (q := 1) dX12_goesTo_60 rfl ?_
        refine aw_imul (pc := 61) dX12_goesTo_61 ?_
        obtain ⟨g12, h⟩ := aw_gde h
        refine aw_iald (pc := 62) xB_7 g12 dX12_goesTo_62 ?_
        refine aw_goto (pc := 63) (tgt := 76) dX12_goesTo_63 (by decide) ?_
        cases h
        subst hE
        exact aw_iret (v := (σ.1 7 (((2 : Int32) * p1)).toNatClampNeg)) rfl aw_ni ⟨Nat.zero_le _, Nat.zero_le _⟩ dX12_goesTo_76
    · replace h := aw_ifp c5 h
      exact t_Rf_goesTo_J24 h hE
theorem c_Rf_goesTo {l : Launch} {G : aw_G} {σ : aw_S} {p1 : Int32} {t : Int32} (h : m_Rf_goesTo σ p1 = some t) : aw_Ct l yX12_goesTo M_Rf_goesTo G B_Rf_goesTo [.ref 0, .int p1] xB σ (some (.int t), xB, σ) := aw_Ct_of (by decide) rfl (fun h => by cases h) (Nat.le_of_ble_eq_true rfl) (t_Rf_goesTo h rfl)
/-! LateMoverModel.putsIn(II)Z -/
def z_Rf_putsIn_X2 (l : Launch) (G : aw_G) (E : aw_E) (v1 : Int32) (v2 : Int32) (s : Int32 × aw_S) : Prop := aw_W l M_Rf_putsIn G B_Rf_putsIn E 2 [(0, .ref 0), (1, .int v1), (2, .int v2), (3, .int s.1)] [] xB s.2 0 0
def z_Rf_putsIn_Y2 (l : Launch) (G : aw_G) (E : aw_E) (v1 : Int32) (v2 : Int32) (x : (((Int32 × aw_S)) ⊕ (aw_S))) : Prop := (Sum.elim (fun r0 => E = (some (.int r0.1), xB, r0.2)) (fun r1 => aw_W l M_Rf_putsIn G B_Rf_putsIn E 55 [] [] xB r1 0 0)) x
set_option maxRecDepth 100000 in
set_option maxHeartbeats 4000000 in
theorem t_Rf_putsIn_J49 {l : Launch} {G : aw_G} {E : aw_E} {σ : aw_S} {v1 : Int32} {v2 : Int32} {v3 : Int32} {t : (((Int32 × aw_S)) ⊕ (aw_S)) ⊕ (Int32 × aw_S)} (h : m_Rf_putsIn_J49 σ v1 v2 v3 = some t) (hz : Sum.elim (z_Rf_putsIn_Y2 l G E v1 v2) (z_Rf_putsIn_X2 l G E v1 v2) t) : aw_W l M_Rf_putsIn G B_Rf_putsIn E 49 [(0, .ref 0), (1, .int v1), (2, .int v2), (3, .int v3)] [] xB σ 0 0 := by
  unfold m_Rf_putsIn_J49 at h
  obtain ⟨x14, e_x14⟩ : ∃ z, z = (v3 + (1 : Int32)) := ⟨_, rfl⟩
  replace h := aw_lte h x14 e_x14
  refine aw_iinc (pc := 49) (q := 3) (v := x14) [(3, .int x14), (0, .ref 0), (1, .int v1), (2, .int v2)] dX12_putsIn_49 rfl e_x14.symm (by decide) rfl ?_
  refine aw_goto (pc := 52) (tgt := 2) dX12_putsIn_52 (by decide) ?_
  refine aw_sub [1, 2, 3, 0] rfl ?_
  cases h
  exact hz
set_option maxRecDepth 100000 in
set_option maxHeartbeats 4000000 in
theorem t_Rf_putsIn_B2 {l : Launch} {G : aw_G} {E : aw_E} {σ : aw_S} {v1 : Int32} {v2 : Int32} {v3 : Int32} {t : (((Int32 × aw_S)) ⊕ (aw_S)) ⊕ (Int32 × aw_S)} (h : m_Rf_putsIn_B2 σ v1 v2 v3 = some t) (hz : Sum.elim (z_Rf_putsIn_Y2 l G E v1 v2) (z_Rf_putsIn_X2 l G E v1 v2) t) : aw_W l M_Rf_putsIn G B_Rf_putsIn E 2 [(0, .ref 0), (1, .int v1), (2, .int v2), (3, .int v3)] [] xB σ 0 0 := by
  unfold m_Rf_putsIn_B2 at h
  refine aw_iload_n (pc := 2) (q := 3) dX12_putsIn_2 rfl ?_
  refine aw_aload_n (pc := 3) (q := 0) dX12_putsIn_3 rfl ?_
  refine aw_iconst (pc := 4) (v := 2) dX12_putsIn_4 (by decide) ?_
  obtain ⟨r1, e2, h⟩ := aw_bde h
  refine aw_cV1 (pc := 5) [.int ((2 : Int32))] (c_Rf_get e2) yy_Rf_get.1 wm_736 yy_Rf_get.2.1 yy_Rf_get.2.2 xB_0 ⟨_, _, rfl⟩ rfl ⟨Nat.le_of_ble_eq_true rfl, Nat.le_of_ble_eq_true rfl⟩ ⟨Nat.zero_le _, Nat.zero_le _⟩ (Nat.le_of_ble_eq_true rfl) dX12_putsIn_5 ?_
  refine aw_icmp_ge (pc := 8) (tgt := 55) dX12_putsIn_8 (by decide) (fun c3 => ?_) (fun c3 => ?_)
  · replace h := aw_ifp c3 h
    refine aw_sub [] rfl ?_
    cases h
    exact hz
  · replace h := aw_ifn c3 h
    refine aw_aload_n (pc := 11) (q := 0) dX12_putsIn_11 rfl ?_
    refine aw_getC (pc := 12) fd_X12_52.r xB_0 rfl dX12_putsIn_12 ?_
    refine aw_iload_n (pc := 15) (q := 2) dX12_putsIn_15 rfl ?_
    refine aw_iconst (pc := 16) (v := 0) dX12_putsIn_16 (by decide) ?_
    refine aw_iload_n (pc := 17) (q := 3) dX12_putsIn_17 rfl ?_
    refine aw_iload_n (pc := 18) (q := 1) dX12_putsIn_18 rfl ?_
    obtain ⟨r4, e5, h⟩ := aw_bde h
    refine aw_cS1 (pc := 19) [.int v2, .int ((0 : Int32)), .int v3, .int v1] (c_Rf_at e5) yy_Rf_at.1 wm_827 yy_Rf_at.2 rfl ⟨Nat.le_of_ble_eq_true rfl, Nat.le_of_ble_eq_true rfl⟩ ⟨Nat.zero_le _, Nat.zero_le _⟩ (Nat.le_of_ble_eq_true rfl) dX12_putsIn_19 ?_
    obtain ⟨g6, h⟩ := aw_gde h
    refine aw_zald (pc := 22) xB_13 g6 dX12_putsIn_22 ?_
    refine aw_if_ne (pc := 23) (tgt := 29) dX12_putsIn_23 (by decide) (fun c7 => ?_) (fun c7 => ?_)
    · replace h := aw_ifn c7 h
      refine aw_aload_n (pc := 29) (q := 0) dX12_putsIn_29 rfl ?_
      refine aw_iload_n (pc := 30) (q := 3) dX12_putsIn_30 rfl ?_
      obtain ⟨r8, s10, e9, h⟩ := aw_bd2e h
      refine aw_cV1 (pc := 31) [.int v3] (c_Rf_works e9) yy_Rf_works.1 wm_1177 yy_Rf_works.2.1 yy_Rf_works.2.2 xB_0 ⟨_, _, rfl⟩ rfl ⟨Nat.le_of_ble_eq_true rfl, Nat.le_of_ble_eq_true rfl⟩ ⟨Nat.zero_le _, Nat.zero_le _⟩ (Nat.le_of_ble_eq_true rfl) dX12_putsIn_31 ?_
      refine aw_if_ne (pc := 34) (tgt := 39) dX12_putsIn_34 (by decide) (fun c11 => ?_) (fun c11 => ?_)
      · replace h := aw_ifn c11 h
        refine aw_aload_n (pc := 39) (q := 0) dX12_putsIn_39 rfl ?_
        refine aw_getC (pc := 40) fd_X12_64.r xB_0 rfl dX12_putsIn_40 ?_
        refine aw_iload_n (pc := 43) (q := 3) dX12_putsIn_43 rfl ?_
        refine aw_aload_n (pc := 44) (q := 0) dX12_putsIn_44 rfl ?_
        refine aw_getI (pc := 45) fd_X12_351.r xB_0 rfl dX12_putsIn_45 ?_
        obtain ⟨g12, h⟩ := aw_gde h
        refine aw_iast (pc := 48) xB_17 g12 dX12_putsIn_48 ?_
        refine aw_nmS (fun s13 e_s13 => ?_)
        replace h := aw_lte h s13 e_s13
        exact t_Rf_putsIn_J49 h hz
      · replace h := aw_ifp c11 h
        refine aw_iconst (pc := 37) (v := 0) dX12_putsIn_37 (by decide) ?_
        cases h
        have hE : E = _ := hz
        subst hE
        exact aw_iret (v := (0 : Int32)) rfl aw_n0 ⟨Nat.zero_le _, Nat.zero_le _⟩ dX12_putsIn_38
    · replace h := aw_ifp c7 h
      refine aw_goto (pc := 26) (tgt := 49) dX12_putsIn_26 (by decide) ?_
      exact t_Rf_putsIn_J49 h hz
set_option maxRecDepth 100000 in
set_option maxHeartbeats 4000000 in
theorem t_Rf_putsIn {l : Launch} {G : aw_G} {E : aw_E} {σ : aw_S} {p1 : Int32} {p2 : Int32} {t : (Int32 × aw_S)} (h : m_Rf_putsIn σ p1 p2 = some t) (hE : E = (some (.int t.1), xB, t.2)) : aw_W l M_Rf_putsIn G B_Rf_putsIn E 0 [(0, .ref 0), (1, .int p1), (2, .int p2)] [] xB σ 0 0 := by
  unfold m_Rf_putsIn at h
  refine aw_iconst (pc := 0) (v := 0) dX12_putsIn_0 (by decide) ?_
  refine aw_istore_n (pc := 1) [(3, .int ((0 : Int32))), (0, .ref 0), (1, .int p1), (2, .int p2)] dX12_putsIn_1 (by decide) rfl ?_
  obtain ⟨x15, hl16, h⟩ := aw_bde h
  have K17 : z_Rf_putsIn_Y2 l G E p1 p2 x15 := by
    cases x15 with
    | inl y18 =>
      replace h := aw_eL h
      show E = _
      cases h
      exact hE
    | inr y19 =>
      replace h := aw_eR h
      show aw_W l M_Rf_putsIn G B_Rf_putsIn E 55 [] [] xB y19 0 0
      refine aw_iconst (pc := 55) (v := 1) dX12_putsIn_55 (by decide) ?_
      cases h
      subst hE
      exact aw_iret (v := (1 : Int32)) rfl aw_n1 ⟨Nat.zero_le _, Nat.zero_le _⟩ dX12_putsIn_56
  refine aw_sub [1, 2, 3, 0] rfl ?_
  show z_Rf_putsIn_X2 l G E p1 p2 (((0 : Int32), σ))
  exact aw_lp_X (Xp := z_Rf_putsIn_X2 l G E p1 p2) (Y := z_Rf_putsIn_Y2 l G E p1 p2) hl16 K17 (fun s t hf hz => t_Rf_putsIn_B2 hf hz)
theorem c_Rf_putsIn {l : Launch} {G : aw_G} {σ : aw_S} {p1 : Int32} {p2 : Int32} {t : (Int32 × aw_S)} (h : m_Rf_putsIn σ p1 p2 = some t) : aw_Ct l yX12_putsIn M_Rf_putsIn G B_Rf_putsIn [.ref 0, .int p1, .int p2] xB σ (some (.int t.1), xB, t.2) := aw_Ct_of (by decide) rfl (fun h => by cases h) (Nat.le_of_ble_eq_true rfl) (t_Rf_putsIn h rfl)

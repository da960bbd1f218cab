/-! LateMoverModel.runNow(I)V -/
def z_Rf_runNow_X2 (l : Launch) (G : aw_G) (E : aw_E) (v1 : Int32) (s : Int32 × aw_S) : Prop := aw_W l M_Rf_runNow G B_Rf_runNow E 2 [(0, .ref 0), (1, .int v1), (2, .int s.1)] [] xB s.2 0 0
def z_Rf_runNow_Y2 (l : Launch) (G : aw_G) (E : aw_E) (v1 : Int32) (x : (aw_S)) : Prop := aw_W l M_Rf_runNow G B_Rf_runNow E 26 [(0, .ref 0), (1, .int v1)] [] xB x 0 0
def z_Rf_runNow_X28 (l : Launch) (G : aw_G) (E : aw_E) (v1 : Int32) (s : Int32 × aw_S) : Prop := aw_W l M_Rf_runNow G B_Rf_runNow E 28 [(0, .ref 0), (1, .int v1), (2, .int s.1)] [] xB s.2 0 0
def z_Rf_runNow_Y28 (l : Launch) (G : aw_G) (E : aw_E) (v1 : Int32) (x : (aw_S)) : Prop := aw_W l M_Rf_runNow G B_Rf_runNow E 54 [(0, .ref 0), (1, .int v1)] [] xB x 0 0
def z_Rf_runNow_X71 (l : Launch) (G : aw_G) (E : aw_E) (v1 : Int32) (s : Int32 × aw_S) : Prop := aw_W l M_Rf_runNow G B_Rf_runNow E 71 [(0, .ref 0), (1, .int v1), (2, .int s.1)] [] xB s.2 0 0
def z_Rf_runNow_Y71 (l : Launch) (G : aw_G) (E : aw_E) (v1 : Int32) (x : ((aw_S) ⊕ (aw_S))) : Prop := (Sum.elim (fun r0 => E = (none, xB, r0)) (fun r1 => aw_W l M_Rf_runNow G B_Rf_runNow E 166 [] [] xB r1 0 0)) x
set_option maxRecDepth 100000 in
set_option maxHeartbeats 4000000 in
theorem t_Rf_runNow_B2 {l : Launch} {G : aw_G} {E : aw_E} {σ : aw_S} {v1 : Int32} {v2 : Int32} {t : (aw_S) ⊕ (Int32 × aw_S)} (h : m_Rf_runNow_B2 σ v1 v2 = some t) (hz : Sum.elim (z_Rf_runNow_Y2 l G E v1) (z_Rf_runNow_X2 l G E v1) t) : aw_W l M_Rf_runNow G B_Rf_runNow E 2 [(0, .ref 0), (1, .int v1), (2, .int v2)] [] xB σ 0 0 := by
  unfold m_Rf_runNow_B2 at h
  refine aw_iload_n (pc := 2) (q := 2) dX12_runNow_2 rfl ?_
  refine aw_bipush (pc := 3) (v := 26) dX12_runNow_3 (by decide) ?_
  refine aw_icmp_ge (pc := 5) (tgt := 26) dX12_runNow_5 (by decide) (fun c1 => ?_) (fun c1 => ?_)
  · replace h := aw_ifp c1 h
    refine aw_sub [0, 1] rfl ?_
    cases h
    exact hz
  · replace h := aw_ifn c1 h
    refine aw_aload_n (pc := 8) (q := 0) dX12_runNow_8 rfl ?_
    refine aw_getC (pc := 9) fd_X12_61.r xB_0 rfl dX12_runNow_9 ?_
    refine aw_iload_n (pc := 12) (q := 2) dX12_runNow_12 rfl ?_
    refine aw_aload_n (pc := 13) (q := 0) dX12_runNow_13 rfl ?_
    refine aw_getC (pc := 14) fd_X12_58.r xB_0 rfl dX12_runNow_14 ?_
    refine aw_iload_n (pc := 17) (q := 2) dX12_runNow_17 rfl ?_
    obtain ⟨g2, h⟩ := aw_gde h
    refine aw_iald (pc := 18) xB_15 g2 dX12_runNow_18 ?_
    obtain ⟨g3, h⟩ := aw_gde h
    refine aw_iast (pc := 19) xB_16 g3 dX12_runNow_19 ?_
    refine aw_nmS (fun s4 e_s4 => ?_)
    replace h := aw_lte h s4 e_s4
    obtain ⟨x5, e_x5⟩ : ∃ z, z = (v2 + (1 : Int32)) := ⟨_, rfl⟩
    replace h := aw_lte h x5 e_x5
    refine aw_iinc (pc := 20) (q := 2) (v := x5) [(2, .int x5), (0, .ref 0), (1, .int v1)] dX12_runNow_20 rfl e_x5.symm (by decide) rfl ?_
    refine aw_goto (pc := 23) (tgt := 2) dX12_runNow_23 (by decide) ?_
    refine aw_sub [1, 2, 0] rfl ?_
    cases h
    exact hz
set_option maxRecDepth 100000 in
set_option maxHeartbeats 4000000 in
theorem t_Rf_runNow_B28 {l : Launch} {G : aw_G} {E : aw_E} {σ : aw_S} {v1 : Int32} {v2 : Int32} {t : (aw_S) ⊕ (Int32 × aw_S)} (h : m_Rf_runNow_B28 σ v1 v2 = some t) (hz : Sum.elim (z_Rf_runNow_Y28 l G E v1) (z_Rf_runNow_X28 l G E v1) t) : aw_W l M_Rf_runNow G B_Rf_runNow E 28 [(0, .ref 0), (1, .int v1), (2, .int v2)] [] xB σ 0 0 := by
  unfold m_Rf_runNow_B28 at h
  refine aw_iload_n (pc := 28) (q := 2) dX12_runNow_28 rfl ?_
  refine aw_bipush (pc := 29) (v := 24) dX12_runNow_29 (by decide) ?_
  refine aw_icmp_ge (pc := 31) (tgt := 54) dX12_runNow_31 (by decide) (fun c9 => ?_) (fun c9 => ?_)
  · replace h := aw_ifp c9 h
    refine aw_sub [0, 1] rfl ?_
    cases h
    exact hz
  · replace h := aw_ifn c9 h
    refine aw_aload_n (pc := 34) (q := 0) dX12_runNow_34 rfl ?_
    refine aw_getC (pc := 35) fd_X12_64.r xB_0 rfl dX12_runNow_35 ?_
    refine aw_iload_n (pc := 38) (q := 2) dX12_runNow_38 rfl ?_
    refine aw_iconst (pc := 39) (v := 0) dX12_runNow_39 (by decide) ?_
    obtain ⟨g10, h⟩ := aw_gde h
    refine aw_iast (pc := 40) xB_17 g10 dX12_runNow_40 ?_
    refine aw_nmS (fun s11 e_s11 => ?_)
    replace h := aw_lte h s11 e_s11
    refine aw_aload_n (pc := 41) (q := 0) dX12_runNow_41 rfl ?_
    refine aw_getC (pc := 42) fd_X12_67.r xB_0 rfl dX12_runNow_42 ?_
    refine aw_iload_n (pc := 45) (q := 2) dX12_runNow_45 rfl ?_
    refine aw_iconst (pc := 46) (v := 0) dX12_runNow_46 (by decide) ?_
    obtain ⟨g12, h⟩ := aw_gde h
    refine aw_iast (pc := 47) xB_18 g12 dX12_runNow_47 ?_
    refine aw_nmS (fun s13 e_s13 => ?_)
    replace h := aw_lte h s13 e_s13
    obtain ⟨x14, e_x14⟩ : ∃ z, z = (v2 + (1 : Int32)) := ⟨_, rfl⟩
    replace h := aw_lte h x14 e_x14
    refine aw_iinc (pc := 48) (q := 2) (v := x14) [(2, .int x14), (0, .ref 0), (1, .int v1)] dX12_runNow_48 rfl e_x14.symm (by decide) rfl ?_
    refine aw_goto (pc := 51) (tgt := 28) dX12_runNow_51 (by decide) ?_
    refine aw_sub [1, 2, 0] rfl ?_
    cases h
    exact hz
set_option maxRecDepth 100000 in
set_option maxHeartbeats 4000000 in
theorem t_Rf_runNow_J133 {l : Launch} {G : aw_G} {E : aw_E} {σ : aw_S} {v1 : Int32} {v2 : Int32} {t : ((aw_S) ⊕ (aw_S)) ⊕ (Int32 × aw_S)} (h : m_Rf_runNow_J133 σ v1 v2 = some t) (hz : Sum.elim (z_Rf_runNow_Y71 l G E v1) (z_Rf_runNow_X71 l G E v1) t) : aw_W l M_Rf_runNow G B_Rf_runNow E 133 [(0, .ref 0), (1, .int v1), (2, .int v2)] [] xB σ 0 0 := by
  unfold m_Rf_runNow_J133 at h
  refine aw_aload_n (pc := 133) (q := 0) dX12_runNow_133 rfl ?_
  refine aw_iconst (pc := 134) (v := 2) dX12_runNow_134 (by decide) ?_
  refine aw_putI (pc := 135) fd_X12_363 xB_0 rfl (fun _ => rfl) (fun _ => rfl) dX12_runNow_135 ?_
  refine aw_nmS (fun s36 e_s36 => ?_)
  replace h := aw_lte h s36 e_s36
  refine aw_goto (pc := 138) (tgt := 71) dX12_runNow_138 (by decide) ?_
  refine aw_sub [0, 1, 2] rfl ?_
  cases h
  exact hz
set_option maxRecDepth 100000 in
set_option maxHeartbeats 4000000 in
theorem t_Rf_runNow_J124 {l : Launch} {G : aw_G} {E : aw_E} {σ : aw_S} {v1 : Int32} {v2 : Int32} {t : ((aw_S) ⊕ (aw_S)) ⊕ (Int32 × aw_S)} (h : m_Rf_runNow_J124 σ v1 v2 = some t) (hz : Sum.elim (z_Rf_runNow_Y71 l G E v1) (z_Rf_runNow_X71 l G E v1) t) : aw_W l M_Rf_runNow G B_Rf_runNow E 124 [(0, .ref 0), (1, .int v1), (2, .int v2)] [] xB σ 0 0 := by
  unfold m_Rf_runNow_J124 at h
  refine aw_aload_n (pc := 124) (q := 0) dX12_runNow_124 rfl ?_
  refine aw_iload_n (pc := 125) (q := 2) dX12_runNow_125 rfl ?_
  refine aw_iload_n (pc := 126) (q := 1) dX12_runNow_126 rfl ?_
  obtain ⟨r26, s28, e27, h⟩ := aw_bd2e h
  refine aw_cV1 (pc := 127) [.int v2, .int v1] (c_Rf_does e27) yy_Rf_does.1 wm_1185 yy_Rf_does.2.1 yy_Rf_does.2.2 xB_0 ⟨_, _, rfl⟩ rfl ⟨Nat.le_of_ble_eq_true rfl, Nat.le_of_ble_eq_true rfl⟩ ⟨Nat.zero_le _, Nat.zero_le _⟩ (Nat.le_of_ble_eq_true rfl) dX12_runNow_127 ?_
  refine aw_if_ne (pc := 130) (tgt := 141) dX12_runNow_130 (by decide) (fun c29 => ?_) (fun c29 => ?_)
  · replace h := aw_ifn c29 h
    refine aw_aload_n (pc := 141) (q := 0) dX12_runNow_141 rfl ?_
    refine aw_iload_n (pc := 142) (q := 2) dX12_runNow_142 rfl ?_
    obtain ⟨r30, e31, h⟩ := aw_bde h
    refine aw_cV1 (pc := 143) [.int v2] (c_Rf_isLast e31) yy_Rf_isLast.1 wm_764 yy_Rf_isLast.2.1 yy_Rf_isLast.2.2 xB_0 ⟨_, _, rfl⟩ rfl ⟨Nat.le_of_ble_eq_true rfl, Nat.le_of_ble_eq_true rfl⟩ ⟨Nat.zero_le _, Nat.zero_le _⟩ (Nat.le_of_ble_eq_true rfl) dX12_runNow_143 ?_
    refine aw_if_eq (pc := 146) (tgt := 157) dX12_runNow_146 (by decide) (fun c32 => ?_) (fun c32 => ?_)
    · replace h := aw_ifp c32 h
      refine aw_aload_n (pc := 157) (q := 0) dX12_runNow_157 rfl ?_
      refine aw_iload_n (pc := 158) (q := 2) dX12_runNow_158 rfl ?_
      obtain ⟨r33, e34, h⟩ := aw_bde h
      refine aw_cV1 (pc := 159) [.int v2] (c_Rf_goesTo e34) yy_Rf_goesTo.1 wm_1189 yy_Rf_goesTo.2.1 yy_Rf_goesTo.2.2 xB_0 ⟨_, _, rfl⟩ rfl ⟨Nat.le_of_ble_eq_true rfl, Nat.le_of_ble_eq_true rfl⟩ ⟨Nat.zero_le _, Nat.zero_le _⟩ (Nat.le_of_ble_eq_true rfl) dX12_runNow_159 ?_
      refine aw_istore_n (pc := 162) [(2, .int r33), (0, .ref 0), (1, .int v1)] dX12_runNow_162 (by decide) rfl ?_
      refine aw_goto (pc := 163) (tgt := 71) dX12_runNow_163 (by decide) ?_
      refine aw_sub [1, 2, 0] rfl ?_
      cases h
      exact hz
    · replace h := aw_ifn c32 h
      refine aw_aload_n (pc := 149) (q := 0) dX12_runNow_149 rfl ?_
      refine aw_iconst (pc := 150) (v := 0) dX12_runNow_150 (by decide) ?_
      refine aw_putI (pc := 151) fd_X12_363 xB_0 rfl (fun _ => rfl) (fun _ => rfl) dX12_runNow_151 ?_
      refine aw_nmS (fun s35 e_s35 => ?_)
      replace h := aw_lte h s35 e_s35
      refine aw_goto (pc := 154) (tgt := 71) dX12_runNow_154 (by decide) ?_
      refine aw_sub [0, 1, 2] rfl ?_
      cases h
      exact hz
  · replace h := aw_ifp c29 h
    exact t_Rf_runNow_J133 h hz
set_option maxRecDepth 100000 in
set_option maxHeartbeats 4000000 in
theorem t_Rf_runNow_B71 {l : Launch} {G : aw_G} {E : aw_E} {σ : aw_S} {v1 : Int32} {v2 : Int32} {t : ((aw_S) ⊕ (aw_S)) ⊕ (Int32 × aw_S)} (h : m_Rf_runNow_B71 σ v1 v2 = some t) (hz : Sum.elim (z_Rf_runNow_Y71 l G E v1) (z_Rf_runNow_X71 l G E v1) t) : aw_W l M_Rf_runNow G B_Rf_runNow E 71 [(0, .ref 0), (1, .int v1), (2, .int v2)] [] xB σ 0 0 := by
  unfold m_Rf_runNow_B71 at h
  refine aw_aload_n (pc := 71) (q := 0) dX12_runNow_71 rfl ?_
  refine aw_getI (pc := 72) fd_X12_363.r xB_0 rfl dX12_runNow_72 ?_
  refine aw_iconst (pc := 75) (v := -1) dX12_runNow_75 (by decide) ?_
  refine aw_icmp_ne (pc := 76) (tgt := 166) dX12_runNow_76 (by decide) (fun c21 => ?_) (fun c21 => ?_)
  · replace h := aw_ifn c21 h
    refine aw_sub [] rfl ?_
    cases h
    exact hz
  · replace h := aw_ifp c21 h
    refine aw_aload_n (pc := 79) (q := 0) dX12_runNow_79 rfl ?_
    refine aw_iload_n (pc := 80) (q := 2) dX12_runNow_80 rfl ?_
    refine aw_putI (pc := 81) fd_X12_366 xB_0 rfl (fun _ => rfl) (fun _ => rfl) dX12_runNow_81 ?_
    refine aw_nmS (fun s22 e_s22 => ?_)
    replace h := aw_lte h s22 e_s22
    refine aw_aload_n (pc := 84) (q := 0) dX12_runNow_84 rfl ?_
    refine aw_getI (pc := 85) fd_X12_360.r xB_0 rfl dX12_runNow_85 ?_
    refine aw_sipush (pc := 88) (v := 400) dX12_runNow_88 (by decide) ?_
    refine aw_icmp_ne (pc := 91) (tgt := 100) dX12_runNow_91 (by decide) (fun c23 => ?_) (fun c23 => ?_)
    · replace h := aw_ifn c23 h
      refine aw_aload_n (pc := 100) (q := 0) dX12_runNow_100 rfl ?_
      refine aw_dup (pc := 101) dX12_runNow_101 rfl ?_
      refine aw_getI (pc := 102) fd_X12_360.r xB_0 rfl dX12_runNow_102 ?_
      refine aw_iconst (pc := 105) (v := 1) dX12_runNow_105 (by decide) ?_
      refine aw_iadd (pc := 106) dX12_runNow_106 ?_
      refine aw_putI (pc := 107) fd_X12_360 xB_0 rfl (fun _ => rfl) (fun _ => rfl) dX12_runNow_107 ?_
      refine aw_nmS (fun s24 e_s24 => ?_)
      replace h := aw_lte h s24 e_s24
      refine aw_iload_n (pc := 110) (q := 1) dX12_runNow_110 rfl ?_
      refine aw_iconst (pc := 111) (v := -1) dX12_runNow_111 (by decide) ?_
      refine aw_icmp_eq (pc := 112) (tgt := 124) dX12_runNow_112 (by decide) (fun c25 => ?_) (fun c25 => ?_)
      · replace h := aw_ifp c25 h
        exact t_Rf_runNow_J124 h hz
      · replace h := aw_ifn c25 h
        refine aw_aload_n (pc := 115) (q := 0) dX12_runNow_115 rfl ?_
        refine aw_iload_n (pc := 116) (q := 2) dX12_runNow_116 rfl ?_
        refine aw_iload_n (pc := 117) (q := 1) dX12_runNow_117 rfl ?_
        obtain ⟨r37, s39, e38, h⟩ := aw_bd2e h
        refine aw_cV1 (pc := 118) [.int v2, .int v1] (c_Rf_putsIn e38) yy_Rf_putsIn.1 wm_1172 yy_Rf_putsIn.2.1 yy_Rf_putsIn.2.2 xB_0 ⟨_, _, rfl⟩ rfl ⟨Nat.le_of_ble_eq_true rfl, Nat.le_of_ble_eq_true rfl⟩ ⟨Nat.zero_le _, Nat.zero_le _⟩ (Nat.le_of_ble_eq_true rfl) dX12_runNow_118 ?_
        refine aw_if_eq (pc := 121) (tgt := 133) dX12_runNow_121 (by decide) (fun c40 => ?_) (fun c40 => ?_)
        · replace h := aw_ifp c40 h
          exact t_Rf_runNow_J133 h hz
        · replace h := aw_ifn c40 h
          exact t_Rf_runNow_J124 h hz
    · replace h := aw_ifp c23 h
      refine aw_aload_n (pc := 94) (q := 0) dX12_runNow_94 rfl ?_
      refine aw_iconst (pc := 95) (v := 1) dX12_runNow_95 (by decide) ?_
      refine aw_putI (pc := 96) fd_X12_363 xB_0 rfl (fun _ => rfl) (fun _ => rfl) dX12_runNow_96 ?_
      refine aw_nmS (fun s41 e_s41 => ?_)
      replace h := aw_lte h s41 e_s41
      cases h
      have hE : E = _ := hz
      subst hE
      exact aw_vret rfl ⟨Nat.zero_le _, Nat.zero_le _⟩ dX12_runNow_99
set_option maxRecDepth 100000 in
set_option maxHeartbeats 4000000 in
theorem t_Rf_runNow {l : Launch} {G : aw_G} {E : aw_E} {σ : aw_S} {p1 : Int32} {t : aw_S} (h : m_Rf_runNow σ p1 = some t) (hE : E = (none, xB, t)) : aw_W l M_Rf_runNow G B_Rf_runNow E 0 [(0, .ref 0), (1, .int p1)] [] xB σ 0 0 := by
  unfold m_Rf_runNow at h
  refine aw_iconst (pc := 0) (v := 0) dX12_runNow_0 (by decide) ?_
  refine aw_istore_n (pc := 1) [(2, .int ((0 : Int32))), (0, .ref 0), (1, .int p1)] dX12_runNow_1 (by decide) rfl ?_
  obtain ⟨x6, hl7, h⟩ := aw_bde h
  have K8 : z_Rf_runNow_Y2 l G E p1 x6 := by
    show aw_W l M_Rf_runNow G B_Rf_runNow E 26 [(0, .ref 0), (1, .int p1)] [] xB x6 0 0
    refine aw_iconst (pc := 26) (v := 0) dX12_runNow_26 (by decide) ?_
    refine aw_istore_n (pc := 27) [(2, .int ((0 : Int32))), (0, .ref 0), (1, .int p1)] dX12_runNow_27 (by decide) rfl ?_
    obtain ⟨x15, hl16, h⟩ := aw_bde h
    have K17 : z_Rf_runNow_Y28 l G E p1 x15 := by
      show aw_W l M_Rf_runNow G B_Rf_runNow E 54 [(0, .ref 0), (1, .int p1)] [] xB x15 0 0
      refine aw_aload_n (pc := 54) (q := 0) dX12_runNow_54 rfl ?_
      refine aw_iconst (pc := 55) (v := 0) dX12_runNow_55 (by decide) ?_
      refine aw_putI (pc := 56) fd_X12_357 xB_0 rfl (fun _ => rfl) (fun _ => rfl) dX12_runNow_56 ?_
      refine aw_nmS (fun s18 e_s18 => ?_)
      replace h := aw_lte h s18 e_s18
      refine aw_aload_n (pc := 59) (q := 0) dX12_runNow_59 rfl ?_
      refine aw_iconst (pc := 60) (v := 0) dX12_runNow_60 (by decide) ?_
      refine aw_putI (pc := 61) fd_X12_360 xB_0 rfl (fun _ => rfl) (fun _ => rfl) dX12_runNow_61 ?_
      refine aw_nmS (fun s19 e_s19 => ?_)
      replace h := aw_lte h s19 e_s19
      refine aw_aload_n (pc := 64) (q := 0) dX12_runNow_64 rfl ?_
      refine aw_iconst (pc := 65) (v := -1) dX12_runNow_65 (by decide) ?_
      refine aw_putI (pc := 66) fd_X12_363 xB_0 rfl (fun _ => rfl) (fun _ => rfl) dX12_runNow_66 ?_
      refine aw_nmS (fun s20 e_s20 => ?_)
      replace h := aw_lte h s20 e_s20
      refine aw_iconst (pc := 69) (v := 0) dX12_runNow_69 (by decide) ?_
      refine aw_istore_n (pc := 70) [(2, .int ((0 : Int32))), (0, .ref 0), (1, .int p1)] dX12_runNow_70 (by decide) rfl ?_
      obtain ⟨x42, hl43, h⟩ := aw_bde h
      have K44 : z_Rf_runNow_Y71 l G E p1 x42 := by
        cases x42 with
        | inl y45 =>
          replace h := aw_eL h
          show E = _
          cases h
          exact hE
        | inr y46 =>
          replace h := aw_eR h
          show aw_W l M_Rf_runNow G B_Rf_runNow E 166 [] [] xB y46 0 0
          cases h
          subst hE
          exact aw_vret rfl ⟨Nat.zero_le _, Nat.zero_le _⟩ dX12_runNow_166
      refine aw_sub [1, 2, 0] rfl ?_
      show z_Rf_runNow_X71 l G E p1 (((0 : Int32), s20))
      exact aw_lp_X (Xp := z_Rf_runNow_X71 l G E p1) (Y := z_Rf_runNow_Y71 l G E p1) hl43 K44 (fun s t hf hz => t_Rf_runNow_B71 hf hz)
    refine aw_sub [1, 2, 0] rfl ?_
    show z_Rf_runNow_X28 l G E p1 (((0 : Int32), x6))
    exact aw_lp_X (Xp := z_Rf_runNow_X28 l G E p1) (Y := z_Rf_runNow_Y28 l G E p1) hl16 K17 (fun s t hf hz => t_Rf_runNow_B28 hf hz)
  refine aw_sub [1, 2, 0] rfl ?_
  show z_Rf_runNow_X2 l G E p1 (((0 : Int32), σ))
  exact aw_lp_X (Xp := z_Rf_runNow_X2 l G E p1) (Y := z_Rf_runNow_Y2 l G E p1) hl7 K8 (fun s t hf hz => t_Rf_runNow_B2 hf hz)
theorem c_Rf_runNow {l : Launch} {G : aw_G} {σ : aw_S} {p1 : Int32} {t : aw_S} (h : m_Rf_runNow σ p1 = some t) : aw_Ct l yX12_runNow M_Rf_runNow G B_Rf_runNow [.ref 0, .int p1] xB σ (none, xB, t) := aw_Ct_of (by decide) rfl (fun h => by cases h) (Nat.le_of_ble_eq_true rfl) (t_Rf_runNow h rfl)
/-! LateMoverModel.allWorked()I -/
def z_Rf_allWorked_X4 (l : Launch) (G : aw_G) (E : aw_E) (σ : aw_S) (s : Int32 × Int32) : Prop := aw_W l M_Rf_allWorked G B_Rf_allWorked E 4 [(0, .ref 0), (1, .int s.1), (2, .int s.2)] [] xB σ 0 0
def z_Rf_allWorked_Y4 (l : Launch) (G : aw_G) (E : aw_E) (σ : aw_S) (x : (Int32)) : Prop := aw_W l M_Rf_allWorked G B_Rf_allWorked E 25 [(1, .int x)] [] xB σ 0 0
set_option maxRecDepth 100000 in
set_option maxHeartbeats 4000000 in
theorem t_Rf_allWorked_B4 {l : Launch} {G : aw_G} {E : aw_E} {σ : aw_S} {v1 : Int32} {v2 : Int32} {t : (Int32) ⊕ (Int32 × Int32)} (h : m_Rf_allWorked_B4 σ v1 v2 = some t) (hz : Sum.elim (z_Rf_allWorked_Y4 l G E σ) (z_Rf_allWorked_X4 l G E σ) t) : aw_W l M_Rf_allWorked G B_Rf_allWorked E 4 [(0, .ref 0), (1, .int v1), (2, .int v2)] [] xB σ 0 0 := by
  unfold m_Rf_allWorked_B4 at h
  refine aw_iload_n (pc := 4) (q := 2) dX12_allWorked_4 rfl ?_
  refine aw_bipush (pc := 5) (v := 24) dX12_allWorked_5 (by decide) ?_
  refine aw_icmp_ge (pc := 7) (tgt := 25) dX12_allWorked_7 (by decide) (fun c1 => ?_) (fun c1 => ?_)
  · replace h := aw_ifp c1 h
    refine aw_sub [1] rfl ?_
    cases h
    exact hz
  · replace h := aw_ifn c1 h
    refine aw_iload_n (pc := 10) (q := 1) dX12_allWorked_10 rfl ?_
    refine aw_aload_n (pc := 11) (q := 0) dX12_allWorked_11 rfl ?_
    refine aw_getC (pc := 12) fd_X12_67.r xB_0 rfl dX12_allWorked_12 ?_
    refine aw_iload_n (pc := 15) (q := 2) dX12_allWorked_15 rfl ?_
    obtain ⟨g2, h⟩ := aw_gde h
    refine aw_iald (pc := 16) xB_18 g2 dX12_allWorked_16 ?_
    refine aw_iadd (pc := 17) dX12_allWorked_17 ?_
    refine aw_nmI (fun x3 e_x3 => ?_)
    replace h := aw_lte h x3 e_x3
    refine aw_istore_n (pc := 18) [(1, .int x3), (0, .ref 0), (2, .int v2)] dX12_allWorked_18 (by decide) rfl ?_
    obtain ⟨x4, e_x4⟩ : ∃ z, z = (v2 + (1 : Int32)) := ⟨_, rfl⟩
    replace h := aw_lte h x4 e_x4
    refine aw_iinc (pc := 19) (q := 2) (v := x4) [(2, .int x4), (1, .int x3), (0, .ref 0)] dX12_allWorked_19 rfl e_x4.symm (by decide) rfl ?_
    refine aw_goto (pc := 22) (tgt := 4) dX12_allWorked_22 (by decide) ?_
    refine aw_sub [2, 1, 0] rfl ?_
    cases h
    exact hz
set_option maxRecDepth 100000 in
set_option maxHeartbeats 4000000 in
theorem t_Rf_allWorked {l : Launch} {G : aw_G} {E : aw_E} {σ : aw_S} {t : Int32} (h : m_Rf_allWorked σ = some t) (hE : E = (some (.int t), xB, σ)) : aw_W l M_Rf_allWorked G B_Rf_allWorked E 0 [(0, .ref 0)] [] xB σ 0 0 := by
  unfold m_Rf_allWorked at h
  refine aw_iconst (pc := 0) (v := 0) dX12_allWorked_0 (by decide) ?_
  refine aw_istore_n (pc := 1) [(1, .int ((0 : Int32))), (0, .ref 0)] dX12_allWorked_1 (by decide) rfl ?_
  refine aw_iconst (pc := 2) (v := 0) dX12_allWorked_2 (by decide) ?_
  refine aw_istore_n (pc := 3) [(2, .int ((0 : Int32))), (1, .int ((0 : Int32))), (0, .ref 0)] dX12_allWorked_3 (by decide) rfl ?_
  obtain ⟨x5, hl6, h⟩ := aw_bde h
  have K7 : z_Rf_allWorked_Y4 l G E σ x5 := by
    show aw_W l M_Rf_allWorked G B_Rf_allWorked E 25 [(1, .int x5)] [] xB σ 0 0
    refine aw_iload_n (pc := 25) (q := 0) dX12_allWorked_25 rfl ?_
    cases h
    subst hE
    exact aw_iret (v := _) rfl aw_ni ⟨Nat.zero_le _, Nat.zero_le _⟩ dX12_allWorked_26
  refine aw_sub [2, 1, 0] rfl ?_
  show z_Rf_allWorked_X4 l G E σ (((0 : Int32), (0 : Int32)))
  exact aw_lp_X (Xp := z_Rf_allWorked_X4 l G E σ) (Y := z_Rf_allWorked_Y4 l G E σ) hl6 K7 (fun s t hf hz => t_Rf_allWorked_B4 hf hz)
theorem c_Rf_allWorked {l : Launch} {G : aw_G} {σ : aw_S} {t : Int32} (h : m_Rf_allWorked σ = some t) : aw_Ct l yX12_allWorked M_Rf_allWorked G B_Rf_allWorked [.ref 0] xB σ (some (.int t), xB, σ) := aw_Ct_of (by decide) rfl (fun h => by cases h) (Nat.le_of_ble_eq_true rfl) (t_Rf_allWorked h rfl)
/-! LateMoverModel.run(II)I -/
def z_Rf_run_X31 (l : Launch) (G : aw_G) (E : aw_E) (v2 : Int32) (s : Int32 × aw_S) : Prop := aw_W l M_Rf_run G B_Rf_run E 31 [(0, .ref 0), (2, .int v2), (3, .int s.1)] [] xB s.2 0 0
def z_Rf_run_Y31 (l : Launch) (G : aw_G) (E : aw_E) (v2 : Int32) (x : (aw_S)) : Prop := aw_W l M_Rf_run G B_Rf_run E 55 [(0, .ref 0), (2, .int v2)] [] xB x 0 0
def z_Rf_run_X57 (l : Launch) (G : aw_G) (E : aw_E) (v2 : Int32) (s : Int32 × aw_S) : Prop := aw_W l M_Rf_run G B_Rf_run E 57 [(0, .ref 0), (2, .int v2), (3, .int s.1)] [] xB s.2 0 0
def z_Rf_run_Y57 (l : Launch) (G : aw_G) (E : aw_E) (v2 : Int32) (x : (aw_S)) : Prop := aw_W l M_Rf_run G B_Rf_run E 81 [(0, .ref 0), (2, .int v2)] [] xB x 0 0
def z_Rf_run_X83 (l : Launch) (G : aw_G) (E : aw_E) (v2 : Int32) (s : Int32 × aw_S) : Prop := aw_W l M_Rf_run G B_Rf_run E 83 [(0, .ref 0), (2, .int v2), (3, .int s.1)] [] xB s.2 0 0
def z_Rf_run_Y83 (l : Launch) (G : aw_G) (E : aw_E) (v2 : Int32) (x : (aw_S)) : Prop := aw_W l M_Rf_run G B_Rf_run E 107 [(0, .ref 0), (2, .int v2)] [] xB x 0 0
set_option maxRecDepth 100000 in
set_option maxHeartbeats 4000000 in
theorem t_Rf_run_B31 {l : Launch} {G : aw_G} {E : aw_E} {σ : aw_S} {v2 : Int32} {v3 : Int32} {t : (aw_S) ⊕ (Int32 × aw_S)} (h : m_Rf_run_B31 σ v2 v3 = some t) (hz : Sum.elim (z_Rf_run_Y31 l G E v2) (z_Rf_run_X31 l G E v2) t) : aw_W l M_Rf_run G B_Rf_run E 31 [(0, .ref 0), (2, .int v2), (3, .int v3)] [] xB σ 0 0 := by
  unfold m_Rf_run_B31 at h
  refine aw_iload_n (pc := 31) (q := 2) dX12_run_31 rfl ?_
  refine aw_bipush (pc := 32) (v := 26) dX12_run_32 (by decide) ?_
  refine aw_icmp_ge (pc := 34) (tgt := 55) dX12_run_34 (by decide) (fun c11 => ?_) (fun c11 => ?_)
  · replace h := aw_ifp c11 h
    refine aw_sub [0, 1] rfl ?_
    cases h
    exact hz
  · replace h := aw_ifn c11 h
    refine aw_aload_n (pc := 37) (q := 0) dX12_run_37 rfl ?_
    refine aw_getC (pc := 38) fd_X12_73.r xB_0 rfl dX12_run_38 ?_
    refine aw_iload_n (pc := 41) (q := 2) dX12_run_41 rfl ?_
    refine aw_aload_n (pc := 42) (q := 0) dX12_run_42 rfl ?_
    refine aw_getC (pc := 43) fd_X12_61.r xB_0 rfl dX12_run_43 ?_
    refine aw_iload_n (pc := 46) (q := 2) dX12_run_46 rfl ?_
    obtain ⟨g12, h⟩ := aw_gde h
    refine aw_iald (pc := 47) xB_16 g12 dX12_run_47 ?_
    obtain ⟨g13, h⟩ := aw_gde h
    refine aw_iast (pc := 48) xB_20 g13 dX12_run_48 ?_
    refine aw_nmS (fun s14 e_s14 => ?_)
    replace h := aw_lte h s14 e_s14
    obtain ⟨x15, e_x15⟩ : ∃ z, z = (v3 + (1 : Int32)) := ⟨_, rfl⟩
    replace h := aw_lte h x15 e_x15
    refine aw_iinc (pc := 49) (q := 2) (v := x15) [(3, .int x15), (0, .ref 0), (2, .int v2)] dX12_run_49 rfl e_x15.symm (by decide) rfl ?_
    refine aw_goto (pc := 52) (tgt := 31) dX12_run_52 (by decide) ?_
    refine aw_sub [1, 2, 0] rfl ?_
    cases h
    exact hz
set_option maxRecDepth 100000 in
set_option maxHeartbeats 4000000 in
theorem t_Rf_run_B57 {l : Launch} {G : aw_G} {E : aw_E} {σ : aw_S} {v2 : Int32} {v3 : Int32} {t : (aw_S) ⊕ (Int32 × aw_S)} (h : m_Rf_run_B57 σ v2 v3 = some t) (hz : Sum.elim (z_Rf_run_Y57 l G E v2) (z_Rf_run_X57 l G E v2) t) : aw_W l M_Rf_run G B_Rf_run E 57 [(0, .ref 0), (2, .int v2), (3, .int v3)] [] xB σ 0 0 := by
  unfold m_Rf_run_B57 at h
  refine aw_iload_n (pc := 57) (q := 2) dX12_run_57 rfl ?_
  refine aw_bipush (pc := 58) (v := 24) dX12_run_58 (by decide) ?_
  refine aw_icmp_ge (pc := 60) (tgt := 81) dX12_run_60 (by decide) (fun c19 => ?_) (fun c19 => ?_)
  · replace h := aw_ifp c19 h
    refine aw_sub [0, 1] rfl ?_
    cases h
    exact hz
  · replace h := aw_ifn c19 h
    refine aw_aload_n (pc := 63) (q := 0) dX12_run_63 rfl ?_
    refine aw_getC (pc := 64) fd_X12_76.r xB_0 rfl dX12_run_64 ?_
    refine aw_iload_n (pc := 67) (q := 2) dX12_run_67 rfl ?_
    refine aw_aload_n (pc := 68) (q := 0) dX12_run_68 rfl ?_
    refine aw_getC (pc := 69) fd_X12_67.r xB_0 rfl dX12_run_69 ?_
    refine aw_iload_n (pc := 72) (q := 2) dX12_run_72 rfl ?_
    obtain ⟨g20, h⟩ := aw_gde h
    refine aw_iald (pc := 73) xB_18 g20 dX12_run_73 ?_
    obtain ⟨g21, h⟩ := aw_gde h
    refine aw_iast (pc := 74) xB_21 g21 dX12_run_74 ?_
    refine aw_nmS (fun s22 e_s22 => ?_)
    replace h := aw_lte h s22 e_s22
    obtain ⟨x23, e_x23⟩ : ∃ z, z = (v3 + (1 : Int32)) := ⟨_, rfl⟩
    replace h := aw_lte h x23 e_x23
    refine aw_iinc (pc := 75) (q := 2) (v := x23) [(3, .int x23), (0, .ref 0), (2, .int v2)] dX12_run_75 rfl e_x23.symm (by decide) rfl ?_
    refine aw_goto (pc := 78) (tgt := 57) dX12_run_78 (by decide) ?_
    refine aw_sub [1, 2, 0] rfl ?_
    cases h
    exact hz
set_option maxRecDepth 100000 in
set_option maxHeartbeats 4000000 in
theorem t_Rf_run_B83 {l : Launch} {G : aw_G} {E : aw_E} {σ : aw_S} {v2 : Int32} {v3 : Int32} {t : (aw_S) ⊕ (Int32 × aw_S)} (h : m_Rf_run_B83 σ v2 v3 = some t) (hz : Sum.elim (z_Rf_run_Y83 l G E v2) (z_Rf_run_X83 l G E v2) t) : aw_W l M_Rf_run G B_Rf_run E 83 [(0, .ref 0), (2, .int v2), (3, .int v3)] [] xB σ 0 0 := by
  unfold m_Rf_run_B83 at h
  refine aw_iload_n (pc := 83) (q := 2) dX12_run_83 rfl ?_
  refine aw_bipush (pc := 84) (v := 40) dX12_run_84 (by decide) ?_
  refine aw_icmp_ge (pc := 86) (tgt := 107) dX12_run_86 (by decide) (fun c27 => ?_) (fun c27 => ?_)
  · replace h := aw_ifp c27 h
    refine aw_sub [0, 1] rfl ?_
    cases h
    exact hz
  · replace h := aw_ifn c27 h
    refine aw_aload_n (pc := 89) (q := 0) dX12_run_89 rfl ?_
    refine aw_getC (pc := 90) fd_X12_79.r xB_0 rfl dX12_run_90 ?_
    refine aw_iload_n (pc := 93) (q := 2) dX12_run_93 rfl ?_
    refine aw_aload_n (pc := 94) (q := 0) dX12_run_94 rfl ?_
    refine aw_getC (pc := 95) fd_X12_70.r xB_0 rfl dX12_run_95 ?_
    refine aw_iload_n (pc := 98) (q := 2) dX12_run_98 rfl ?_
    obtain ⟨g28, h⟩ := aw_gde h
    refine aw_iald (pc := 99) xB_19 g28 dX12_run_99 ?_
    obtain ⟨g29, h⟩ := aw_gde h
    refine aw_iast (pc := 100) xB_22 g29 dX12_run_100 ?_
    refine aw_nmS (fun s30 e_s30 => ?_)
    replace h := aw_lte h s30 e_s30
    obtain ⟨x31, e_x31⟩ : ∃ z, z = (v3 + (1 : Int32)) := ⟨_, rfl⟩
    replace h := aw_lte h x31 e_x31
    refine aw_iinc (pc := 101) (q := 2) (v := x31) [(3, .int x31), (0, .ref 0), (2, .int v2)] dX12_run_101 rfl e_x31.symm (by decide) rfl ?_
    refine aw_goto (pc := 104) (tgt := 83) dX12_run_104 (by decide) ?_
    refine aw_sub [1, 2, 0] rfl ?_
    cases h
    exact hz
set_option maxRecDepth 100000 in
set_option maxHeartbeats 4000000 in
theorem t_Rf_run {l : Launch} {G : aw_G} {E : aw_E} {σ : aw_S} {p1 : Int32} {p2 : Int32} {t : (Int32 × aw_S)} (h : m_Rf_run σ p1 p2 = some t) (hE : E = (some (.int t.1), xB, t.2)) : aw_W l M_Rf_run G B_Rf_run E 0 [(0, .ref 0), (1, .int p1), (2, .int p2)] [] xB σ 0 0 := by
  unfold m_Rf_run at h
  refine aw_aload_n (pc := 0) (q := 0) dX12_run_0 rfl ?_
  refine aw_iload_n (pc := 1) (q := 1) dX12_run_1 rfl ?_
  obtain ⟨r1, e2, h⟩ := aw_bde h
  refine aw_cV1 (pc := 2) [.int p1] (c_Rf_canRun e2) yy_Rf_canRun.1 wm_1164 yy_Rf_canRun.2.1 yy_Rf_canRun.2.2 xB_0 ⟨_, _, rfl⟩ rfl ⟨Nat.le_of_ble_eq_true rfl, Nat.le_of_ble_eq_true rfl⟩ ⟨Nat.zero_le _, Nat.zero_le _⟩ (Nat.le_of_ble_eq_true rfl) dX12_run_2 ?_
  refine aw_if_eq (pc := 5) (tgt := 17) dX12_run_5 (by decide) (fun c3 => ?_) (fun c3 => ?_)
  · replace h := aw_ifp c3 h
    refine aw_iconst (pc := 17) (v := -1) dX12_run_17 (by decide) ?_
    cases h
    subst hE
    exact aw_iret (v := (-1 : Int32)) rfl aw_ni ⟨Nat.zero_le _, Nat.zero_le _⟩ dX12_run_18
  · replace h := aw_ifn c3 h
    refine aw_iload_n (pc := 8) (q := 2) dX12_run_8 rfl ?_
    refine aw_iconst (pc := 9) (v := 0) dX12_run_9 (by decide) ?_
    refine aw_iconst (pc := 10) (v := 4) dX12_run_10 (by decide) ?_
    obtain ⟨r4, e5, h⟩ := aw_bde h
    refine aw_cS1 (pc := 11) [.int p2, .int ((0 : Int32)), .int ((4 : Int32))] (c_Rf_isIn e5) yy_Rf_isIn.1 wm_255 yy_Rf_isIn.2 rfl ⟨Nat.le_of_ble_eq_true rfl, Nat.le_of_ble_eq_true rfl⟩ ⟨Nat.zero_le _, Nat.zero_le _⟩ (Nat.le_of_ble_eq_true rfl) dX12_run_11 ?_
    refine aw_if_ne (pc := 14) (tgt := 19) dX12_run_14 (by decide) (fun c6 => ?_) (fun c6 => ?_)
    · replace h := aw_ifn c6 h
      refine aw_aload_n (pc := 19) (q := 0) dX12_run_19 rfl ?_
      refine aw_iload_n (pc := 20) (q := 1) dX12_run_20 rfl ?_
      obtain ⟨s9, e8, h⟩ := aw_bde h
      refine aw_cV0 (pc := 21) [.int p1] (c_Rf_runNow e8) yy_Rf_runNow.1 wm_1168 yy_Rf_runNow.2.1 yy_Rf_runNow.2.2 xB_0 ⟨_, _, rfl⟩ rfl ⟨Nat.le_of_ble_eq_true rfl, Nat.le_of_ble_eq_true rfl⟩ ⟨Nat.zero_le _, Nat.zero_le _⟩ (Nat.le_of_ble_eq_true rfl) dX12_run_21 ?_
      refine aw_aload_n (pc := 24) (q := 0) dX12_run_24 rfl ?_
      refine aw_iconst (pc := 25) (v := 1) dX12_run_25 (by decide) ?_
      refine aw_putI (pc := 26) fd_X12_235 xB_0 rfl (fun _ => aw_n1) (fun _ => aw_fz (Or.inr rfl)) dX12_run_26 ?_
      refine aw_nmS (fun s10 e_s10 => ?_)
      replace h := aw_lte h s10 e_s10
      refine aw_iconst (pc := 29) (v := 0) dX12_run_29 (by decide) ?_
      refine aw_istore_n (pc := 30) [(3, .int ((0 : Int32))), (0, .ref 0), (1, .int p1), (2, .int p2)] dX12_run_30 (by decide) rfl ?_
      obtain ⟨x16, hl17, h⟩ := aw_bde h
      have K18 : z_Rf_run_Y31 l G E p2 x16 := by
        show aw_W l M_Rf_run G B_Rf_run E 55 [(0, .ref 0), (2, .int p2)] [] xB x16 0 0
        refine aw_iconst (pc := 55) (v := 0) dX12_run_55 (by decide) ?_
        refine aw_istore_n (pc := 56) [(3, .int ((0 : Int32))), (0, .ref 0), (2, .int p2)] dX12_run_56 (by decide) rfl ?_
        obtain ⟨x24, hl25, h⟩ := aw_bde h
        have K26 : z_Rf_run_Y57 l G E p2 x24 := by
          show aw_W l M_Rf_run G B_Rf_run E 81 [(0, .ref 0), (2, .int p2)] [] xB x24 0 0
          refine aw_iconst (pc := 81) (v := 0) dX12_run_81 (by decide) ?_
          refine aw_istore_n (pc := 82) [(3, .int ((0 : Int32))), (0, .ref 0), (2, .int p2)] dX12_run_82 (by decide) rfl ?_
          obtain ⟨x32, hl33, h⟩ := aw_bde h
          have K34 : z_Rf_run_Y83 l G E p2 x32 := by
            show aw_W l M_Rf_run G B_Rf_run E 107 [(0, .ref 0), (2, .int p2)] [] xB x32 0 0
            refine aw_aload_n (pc := 107) (q := 0) dX12_run_107 rfl ?_
            refine aw_aload_n (pc := 108) (q := 0) dX12_run_108 rfl ?_
            refine aw_getI (pc := 109) fd_X12_357.r xB_0 rfl dX12_run_109 ?_
            refine aw_putI (pc := 112) fd_X12_384 xB_0 rfl (fun _ => rfl) (fun _ => rfl) dX12_run_112 ?_
            refine aw_nmS (fun s35 e_s35 => ?_)
            replace h := aw_lte h s35 e_s35
            refine aw_iload_n (pc := 115) (q := 1) dX12_run_115 rfl ?_
            refine aw_if_ne (pc := 116) (tgt := 126) dX12_run_116 (by decide) (fun c36 => ?_) (fun c36 => ?_)
            · replace h := aw_ifn c36 h
              refine aw_iload_n (pc := 126) (q := 1) dX12_run_126 rfl ?_
              refine aw_iconst (pc := 127) (v := 1) dX12_run_127 (by decide) ?_
              refine aw_icmp_ne (pc := 128) (tgt := 138) dX12_run_128 (by decide) (fun c37 => ?_) (fun c37 => ?_)
              · replace h := aw_ifn c37 h
                refine aw_iload_n (pc := 138) (q := 1) dX12_run_138 rfl ?_
                refine aw_iconst (pc := 139) (v := 2) dX12_run_139 (by decide) ?_
                refine aw_icmp_ne (pc := 140) (tgt := 150) dX12_run_140 (by decide) (fun c38 => ?_) (fun c38 => ?_)
                · replace h := aw_ifn c38 h
                  refine aw_iload_n (pc := 150) (q := 1) dX12_run_150 rfl ?_
                  refine aw_iconst (pc := 151) (v := 3) dX12_run_151 (by decide) ?_
                  refine aw_icmp_ne (pc := 152) (tgt := 162) dX12_run_152 (by decide) (fun c39 => ?_) (fun c39 => ?_)
                  · replace h := aw_ifn c39 h
                    refine aw_aload_n (pc := 162) (q := 0) dX12_run_162 rfl ?_
                    refine aw_getI (pc := 163) fd_X12_366.r xB_0 rfl dX12_run_163 ?_
                    cases h
                    subst hE
                    exact aw_iret (v := (s35.1 0 28)) rfl aw_ni ⟨Nat.zero_le _, Nat.zero_le _⟩ dX12_run_166
                  · replace h := aw_ifp c39 h
                    refine aw_aload_n (pc := 155) (q := 0) dX12_run_155 rfl ?_
                    refine aw_getI (pc := 156) fd_X12_357.r xB_0 rfl dX12_run_156 ?_
                    refine aw_goto (pc := 159) (tgt := 166) dX12_run_159 (by decide) ?_
                    cases h
                    subst hE
                    exact aw_iret (v := (s35.1 0 26)) rfl aw_ni ⟨Nat.zero_le _, Nat.zero_le _⟩ dX12_run_166
                · replace h := aw_ifp c38 h
                  refine aw_aload_n (pc := 143) (q := 0) dX12_run_143 rfl ?_
                  obtain ⟨r40, e41, h⟩ := aw_bde h
                  refine aw_cV1 (pc := 144) [] (c_Rf_allWorked e41) yy_Rf_allWorked.1 wm_1193 yy_Rf_allWorked.2.1 yy_Rf_allWorked.2.2 xB_0 ⟨_, _, rfl⟩ rfl ⟨Nat.le_of_ble_eq_true rfl, Nat.le_of_ble_eq_true rfl⟩ ⟨Nat.zero_le _, Nat.zero_le _⟩ (Nat.le_of_ble_eq_true rfl) dX12_run_144 ?_
                  refine aw_goto (pc := 147) (tgt := 166) dX12_run_147 (by decide) ?_
                  cases h
                  subst hE
                  exact aw_iret (v := _) rfl aw_ni ⟨Nat.zero_le _, Nat.zero_le _⟩ dX12_run_166
              · replace h := aw_ifp c37 h
                refine aw_aload_n (pc := 131) (q := 0) dX12_run_131 rfl ?_
                refine aw_getI (pc := 132) fd_X12_360.r xB_0 rfl dX12_run_132 ?_
                refine aw_goto (pc := 135) (tgt := 166) dX12_run_135 (by decide) ?_
                cases h
                subst hE
                exact aw_iret (v := (s35.1 0 27)) rfl aw_ni ⟨Nat.zero_le _, Nat.zero_le _⟩ dX12_run_166
            · replace h := aw_ifp c36 h
              refine aw_aload_n (pc := 119) (q := 0) dX12_run_119 rfl ?_
              refine aw_getI (pc := 120) fd_X12_363.r xB_0 rfl dX12_run_120 ?_
              refine aw_goto (pc := 123) (tgt := 166) dX12_run_123 (by decide) ?_
              cases h
              subst hE
              exact aw_iret (v := (s35.1 0 29)) rfl aw_ni ⟨Nat.zero_le _, Nat.zero_le _⟩ dX12_run_166
          refine aw_sub [1, 2, 0] rfl ?_
          show z_Rf_run_X83 l G E p2 (((0 : Int32), x24))
          exact aw_lp_X (Xp := z_Rf_run_X83 l G E p2) (Y := z_Rf_run_Y83 l G E p2) hl33 K34 (fun s t hf hz => t_Rf_run_B83 hf hz)
        refine aw_sub [1, 2, 0] rfl ?_
        show z_Rf_run_X57 l G E p2 (((0 : Int32), x16))
        exact aw_lp_X (Xp := z_Rf_run_X57 l G E p2) (Y := z_Rf_run_Y57 l G E p2) hl25 K26 (fun s t hf hz => t_Rf_run_B57 hf hz)
      refine aw_sub [1, 3, 0] rfl ?_
      show z_Rf_run_X31 l G E p2 (((0 : Int32), s10))
      exact aw_lp_X (Xp := z_Rf_run_X31 l G E p2) (Y := z_Rf_run_Y31 l G E p2) hl17 K18 (fun s t hf hz => t_Rf_run_B31 hf hz)
    · replace h := aw_ifp c6 h
      refine aw_iconst (pc := 17) (v := -1) dX12_run_17 (by decide) ?_
      cases h
      subst hE
      exact aw_iret (v := (-1 : Int32)) rfl aw_ni ⟨Nat.zero_le _, Nat.zero_le _⟩ dX12_run_18
theorem c_Rf_run {l : Launch} {G : aw_G} {σ : aw_S} {p1 : Int32} {p2 : Int32} {t : (Int32 × aw_S)} (h : m_Rf_run σ p1 p2 = some t) : aw_Ct l yX12_run M_Rf_run G B_Rf_run [.ref 0, .int p1, .int p2] xB σ (some (.int t.1), xB, t.2) := aw_Ct_of (by decide) rfl (fun h => by cases h) (Nat.le_of_ble_eq_true rfl) (t_Rf_run h rfl)
/-! LateMoverModel.computed(I)I -/
set_option maxRecDepth 100000 in
set_option maxHeartbeats 4000000 in
theorem t_Rf_computed {l : Launch} {G : aw_G} {E : aw_E} {σ : aw_S} {p1 : Int32} {t : Int32} (h : m_Rf_computed σ p1 = some t) (hE : E = (some (.int t), xB, σ)) : aw_W l M_Rf_computed G B_Rf_computed E 0 [(0, .ref 0), (1, .int p1)] [] xB σ 0 0 := by
  unfold m_Rf_computed at h
  refine aw_aload_n (pc := 0) (q := 0) dX12_computed_0 rfl ?_
  refine aw_getI (pc := 1) fd_X12_235.r xB_0 rfl dX12_computed_1 ?_
  refine aw_if_eq (pc := 4) (tgt := 24) dX12_computed_4 (by decide) (fun c1 => ?_) (fun c1 => ?_)
  · replace h := aw_ifp c1 h
    refine aw_iconst (pc := 24) (v := -1) dX12_computed_24 (by decide) ?_
    cases h
    subst hE
    exact aw_iret (v := (-1 : Int32)) rfl aw_ni ⟨Nat.zero_le _, Nat.zero_le _⟩ dX12_computed_25
  · replace h := aw_ifn c1 h
    refine aw_aload_n (pc := 7) (q := 0) dX12_computed_7 rfl ?_
    refine aw_iload_n (pc := 8) (q := 1) dX12_computed_8 rfl ?_
    obtain ⟨r2, e3, h⟩ := aw_bde h
    refine aw_cV1 (pc := 9) [.int p1] (c_Rf_isExpression e3) yy_Rf_isExpression.1 wm_947 yy_Rf_isExpression.2.1 yy_Rf_isExpression.2.2 xB_0 ⟨_, _, rfl⟩ rfl ⟨Nat.le_of_ble_eq_true rfl, Nat.le_of_ble_eq_true rfl⟩ ⟨Nat.zero_le _, Nat.zero_le _⟩ (Nat.le_of_ble_eq_true rfl) dX12_computed_9 ?_
    refine aw_if_eq (pc := 12) (tgt := 24) dX12_computed_12 (by decide) (fun c4 => ?_) (fun c4 => ?_)
    · replace h := aw_ifp c4 h
      refine aw_iconst (pc := 24) (v := -1) dX12_computed_24 (by decide) ?_
      cases h
      subst hE
      exact aw_iret (v := (-1 : Int32)) rfl aw_ni ⟨Nat.zero_le _, Nat.zero_le _⟩ dX12_computed_25
    · replace h := aw_ifn c4 h
      refine aw_aload_n (pc := 15) (q := 0) dX12_computed_15 rfl ?_
      refine aw_getC (pc := 16) fd_X12_76.r xB_0 rfl dX12_computed_16 ?_
      refine aw_iload_n (pc := 19) (q := 1) dX12_computed_19 rfl ?_
      obtain ⟨g5, h⟩ := aw_gde h
      refine aw_iald (pc := 20) xB_21 g5 dX12_computed_20 ?_
      refine aw_goto (pc := 21) (tgt := 25) dX12_computed_21 (by decide) ?_
      cases h
      subst hE
      exact aw_iret (v := (σ.1 21 p1.toNatClampNeg)) rfl aw_ni ⟨Nat.zero_le _, Nat.zero_le _⟩ dX12_computed_25
theorem c_Rf_computed {l : Launch} {G : aw_G} {σ : aw_S} {p1 : Int32} {t : Int32} (h : m_Rf_computed σ p1 = some t) : aw_Ct l yX12_computed M_Rf_computed G B_Rf_computed [.ref 0, .int p1] xB σ (some (.int t), xB, σ) := aw_Ct_of (by decide) rfl (fun h => by cases h) (Nat.le_of_ble_eq_true rfl) (t_Rf_computed h rfl)
/-! LateMoverModel.least(II)I -/
set_option maxRecDepth 100000 in
set_option maxHeartbeats 4000000 in
theorem t_Rf_least {l : Launch} {G : aw_G} {E : aw_E} {σ : aw_S} {p1 : Int32} {p2 : Int32} {t : Int32} (h : m_Rf_least σ p1 p2 = some t) (hE : E = (some (.int t), xB, σ)) : aw_W l M_Rf_least G B_Rf_least E 0 [(0, .ref 0), (1, .int p1), (2, .int p2)] [] xB σ 0 0 := by
  unfold m_Rf_least at h
  refine aw_iload_n (pc := 0) (q := 1) dX12_least_0 rfl ?_
  refine aw_iload_n (pc := 1) (q := 2) dX12_least_1 rfl ?_
  refine aw_icmp_ge (pc := 2) (tgt := 9) dX12_least_2 (by decide) (fun c1 => ?_) (fun c1 => ?_)
  · replace h := aw_ifp c1 h
    refine aw_iload_n (pc := 9) (q := 2) dX12_least_9 rfl ?_
    cases h
    subst hE
    exact aw_iret (v := _) rfl aw_ni ⟨Nat.zero_le _, Nat.zero_le _⟩ dX12_least_10
  · replace h := aw_ifn c1 h
    refine aw_iload_n (pc := 5) (q := 1) dX12_least_5 rfl ?_
    refine aw_goto (pc := 6) (tgt := 10) dX12_least_6 (by decide) ?_
    cases h
    subst hE
    exact aw_iret (v := _) rfl aw_ni ⟨Nat.zero_le _, Nat.zero_le _⟩ dX12_least_10
theorem c_Rf_least {l : Launch} {G : aw_G} {σ : aw_S} {p1 : Int32} {p2 : Int32} {t : Int32} (h : m_Rf_least σ p1 p2 = some t) : aw_Ct l yX12_least M_Rf_least G B_Rf_least [.ref 0, .int p1, .int p2] xB σ (some (.int t), xB, σ) := aw_Ct_of (by decide) rfl (fun h => by cases h) (Nat.le_of_ble_eq_true rfl) (t_Rf_least h rfl)
/-! LateMoverModel.output(I)I -/
set_option maxRecDepth 100000 in
set_option maxHeartbeats 4000000 in
theorem t_Rf_output {l : Launch} {G : aw_G} {E : aw_E} {σ : aw_S} {p1 : Int32} {t : Int32} (h : m_Rf_output σ p1 = some t) (hE : E = (some (.int t), xB, σ)) : aw_W l M_Rf_output G B_Rf_output E 0 [(0, .ref 0), (1, .int p1)] [] xB σ 0 0 := by
  unfold m_Rf_output at h
  refine aw_aload_n (pc := 0) (q := 0) dX12_output_0 rfl ?_
  refine aw_getI (pc := 1) fd_X12_235.r xB_0 rfl dX12_output_1 ?_
  refine aw_if_eq (pc := 4) (tgt := 36) dX12_output_4 (by decide) (fun c1 => ?_) (fun c1 => ?_)
  · replace h := aw_ifp c1 h
    refine aw_iconst (pc := 36) (v := 0) dX12_output_36 (by decide) ?_
    cases h
    subst hE
    exact aw_iret (v := (0 : Int32)) rfl aw_ni ⟨Nat.zero_le _, Nat.zero_le _⟩ dX12_output_37
  · replace h := aw_ifn c1 h
    refine aw_iload_n (pc := 7) (q := 1) dX12_output_7 rfl ?_
    refine aw_iconst (pc := 8) (v := 0) dX12_output_8 (by decide) ?_
    refine aw_aload_n (pc := 9) (q := 0) dX12_output_9 rfl ?_
    refine aw_aload_n (pc := 10) (q := 0) dX12_output_10 rfl ?_
    refine aw_getI (pc := 11) fd_X12_384.r xB_0 rfl dX12_output_11 ?_
    refine aw_bipush (pc := 14) (v := 40) dX12_output_14 (by decide) ?_
    obtain ⟨r2, e3, h⟩ := aw_bde h
    refine aw_cV1 (pc := 16) [.int ((σ.1 0 33)), .int ((40 : Int32))] (c_Rf_least e3) yy_Rf_least.1 wm_1215 yy_Rf_least.2.1 yy_Rf_least.2.2 xB_0 ⟨_, _, rfl⟩ rfl ⟨Nat.le_of_ble_eq_true rfl, Nat.le_of_ble_eq_true rfl⟩ ⟨Nat.zero_le _, Nat.zero_le _⟩ (Nat.le_of_ble_eq_true rfl) dX12_output_16 ?_
    refine aw_iconst (pc := 19) (v := 1) dX12_output_19 (by decide) ?_
    refine aw_isub (pc := 20) dX12_output_20 ?_
    obtain ⟨r4, e5, h⟩ := aw_bde h
    refine aw_cS1 (pc := 21) [.int p1, .int ((0 : Int32)), .int ((r2 - (1 : Int32)))] (c_Rf_isIn e5) yy_Rf_isIn.1 wm_255 yy_Rf_isIn.2 rfl ⟨Nat.le_of_ble_eq_true rfl, Nat.le_of_ble_eq_true rfl⟩ ⟨Nat.zero_le _, Nat.zero_le _⟩ (Nat.le_of_ble_eq_true rfl) dX12_output_21 ?_
    refine aw_if_eq (pc := 24) (tgt := 36) dX12_output_24 (by decide) (fun c6 => ?_) (fun c6 => ?_)
    · replace h := aw_ifp c6 h
      refine aw_iconst (pc := 36) (v := 0) dX12_output_36 (by decide) ?_
      cases h
      subst hE
      exact aw_iret (v := (0 : Int32)) rfl aw_ni ⟨Nat.zero_le _, Nat.zero_le _⟩ dX12_output_37
    · replace h := aw_ifn c6 h
      refine aw_aload_n (pc := 27) (q := 0) dX12_output_27 rfl ?_
      refine aw_getC (pc := 28) fd_X12_79.r xB_0 rfl dX12_output_28 ?_
      refine aw_iload_n (pc := 31) (q := 1) dX12_output_31 rfl ?_
      obtain ⟨g7, h⟩ := aw_gde h
      refine aw_iald (pc := 32) xB_22 g7 dX12_output_32 ?_
      refine aw_goto (pc := 33) (tgt := 37) dX12_output_33 (by decide) ?_
      cases h
      subst hE
      exact aw_iret (v := (σ.1 22 p1.toNatClampNeg)) rfl aw_ni ⟨Nat.zero_le _, Nat.zero_le _⟩ dX12_output_37
theorem c_Rf_output {l : Launch} {G : aw_G} {σ : aw_S} {p1 : Int32} {t : Int32} (h : m_Rf_output σ p1 = some t) : aw_Ct l yX12_output M_Rf_output G B_Rf_output [.ref 0, .int p1] xB σ (some (.int t), xB, σ) := aw_Ct_of (by decide) rfl (fun h => by cases h) (Nat.le_of_ble_eq_true rfl) (t_Rf_output h rfl)
/-! LateMoverModel.behind(I)I -/
set_option maxRecDepth 100000 in
set_option maxHeartbeats 4000000 in
theorem t_Rf_behind {l : Launch} {G : aw_G} {E : aw_E} {σ : aw_S} {p1 : Int32} {t : Int32} (h : m_Rf_behind σ p1 = some t) (hE : E = (some (.int t), xB, σ)) : aw_W l M_Rf_behind G B_Rf_behind E 0 [(0, .ref 0), (1, .int p1)] [] xB σ 0 0 := by
  unfold m_Rf_behind at h
  refine aw_aload_n (pc := 0) (q := 0) dX12_behind_0 rfl ?_
  refine aw_getI (pc := 1) fd_X12_235.r xB_0 rfl dX12_behind_1 ?_
  refine aw_if_eq (pc := 4) (tgt := 26) dX12_behind_4 (by decide) (fun c1 => ?_) (fun c1 => ?_)
  · replace h := aw_ifp c1 h
    refine aw_iconst (pc := 26) (v := 0) dX12_behind_26 (by decide) ?_
    cases h
    subst hE
    exact aw_iret (v := (0 : Int32)) rfl aw_ni ⟨Nat.zero_le _, Nat.zero_le _⟩ dX12_behind_27
  · replace h := aw_ifn c1 h
    refine aw_iload_n (pc := 7) (q := 1) dX12_behind_7 rfl ?_
    refine aw_iconst (pc := 8) (v := 0) dX12_behind_8 (by decide) ?_
    refine aw_bipush (pc := 9) (v := 25) dX12_behind_9 (by decide) ?_
    obtain ⟨r2, e3, h⟩ := aw_bde h
    refine aw_cS1 (pc := 11) [.int p1, .int ((0 : Int32)), .int ((25 : Int32))] (c_Rf_isIn e3) yy_Rf_isIn.1 wm_255 yy_Rf_isIn.2 rfl ⟨Nat.le_of_ble_eq_true rfl, Nat.le_of_ble_eq_true rfl⟩ ⟨Nat.zero_le _, Nat.zero_le _⟩ (Nat.le_of_ble_eq_true rfl) dX12_behind_11 ?_
    refine aw_if_eq (pc := 14) (tgt := 26) dX12_behind_14 (by decide) (fun c4 => ?_) (fun c4 => ?_)
    · replace h := aw_ifp c4 h
      refine aw_iconst (pc := 26) (v := 0) dX12_behind_26 (by decide) ?_
      cases h
      subst hE
      exact aw_iret (v := (0 : Int32)) rfl aw_ni ⟨Nat.zero_le _, Nat.zero_le _⟩ dX12_behind_27
    · replace h := aw_ifn c4 h
      refine aw_aload_n (pc := 17) (q := 0) dX12_behind_17 rfl ?_
      refine aw_getC (pc := 18) fd_X12_73.r xB_0 rfl dX12_behind_18 ?_
      refine aw_iload_n (pc := 21) (q := 1) dX12_behind_21 rfl ?_
      obtain ⟨g5, h⟩ := aw_gde h
      refine aw_iald (pc := 22) xB_20 g5 dX12_behind_22 ?_
      refine aw_goto (pc := 23) (tgt := 27) dX12_behind_23 (by decide) ?_
      cases h
      subst hE
      exact aw_iret (v := (σ.1 20 p1.toNatClampNeg)) rfl aw_ni ⟨Nat.zero_le _, Nat.zero_le _⟩ dX12_behind_27
theorem c_Rf_behind {l : Launch} {G : aw_G} {σ : aw_S} {p1 : Int32} {t : Int32} (h : m_Rf_behind σ p1 = some t) : aw_Ct l yX12_behind M_Rf_behind G B_Rf_behind [.ref 0, .int p1] xB σ (some (.int t), xB, σ) := aw_Ct_of (by decide) rfl (fun h => by cases h) (Nat.le_of_ble_eq_true rfl) (t_Rf_behind h rfl)
/-! LateMoverModel.alike(I)I -/
def z_Rf_alike_X28 (l : Launch) (G : aw_G) (E : aw_E) (v1 : Int32) (v2 : Int32) (v3 : Int32) (s : Int32 × aw_S) : Prop := aw_W l M_Rf_alike G B_Rf_alike E 28 [(0, .ref 0), (1, .int v1), (2, .int v2), (3, .int v3), (4, .int s.1)] [] xB s.2 0 0
def z_Rf_alike_Y28 (l : Launch) (G : aw_G) (E : aw_E) (v1 : Int32) (v2 : Int32) (v3 : Int32) (x : (aw_S)) : Prop := aw_W l M_Rf_alike G B_Rf_alike E 55 [(0, .ref 0), (1, .int v1), (2, .int v2), (3, .int v3)] [] xB x 0 0
def z_Rf_alike_X81 (l : Launch) (G : aw_G) (E : aw_E) (σ : aw_S) (v3 : Int32) (s : Int32) : Prop := aw_W l M_Rf_alike G B_Rf_alike E 81 [(0, .ref 0), (3, .int v3), (4, .int s)] [] xB σ 0 0
def z_Rf_alike_Y81 (l : Launch) (G : aw_G) (E : aw_E) (σ : aw_S) (v3 : Int32) (x : (((Int32 × aw_S)) ⊕ (Unit))) : Prop := (Sum.elim (fun r0 => E = (some (.int r0.1), xB, r0.2)) (fun r1 => aw_W l M_Rf_alike G B_Rf_alike E 118 [] [] xB σ 0 0)) x
set_option maxRecDepth 100000 in
set_option maxHeartbeats 4000000 in
theorem t_Rf_alike_B28 {l : Launch} {G : aw_G} {E : aw_E} {σ : aw_S} {v1 : Int32} {v2 : Int32} {v3 : Int32} {v4 : Int32} {t : (aw_S) ⊕ (Int32 × aw_S)} (h : m_Rf_alike_B28 σ v1 v2 v3 v4 = some t) (hz : Sum.elim (z_Rf_alike_Y28 l G E v1 v2 v3) (z_Rf_alike_X28 l G E v1 v2 v3) t) : aw_W l M_Rf_alike G B_Rf_alike E 28 [(0, .ref 0), (1, .int v1), (2, .int v2), (3, .int v3), (4, .int v4)] [] xB σ 0 0 := by
  unfold m_Rf_alike_B28 at h
  refine aw_iload (pc := 28) (q := 4) dX12_alike_28 rfl ?_
  refine aw_bipush (pc := 30) (v := 40) dX12_alike_30 (by decide) ?_
  refine aw_icmp_ge (pc := 32) (tgt := 55) dX12_alike_32 (by decide) (fun c9 => ?_) (fun c9 => ?_)
  · replace h := aw_ifp c9 h
    refine aw_sub [0, 1, 2, 3] rfl ?_
    cases h
    exact hz
  · replace h := aw_ifn c9 h
    refine aw_aload_n (pc := 35) (q := 0) dX12_alike_35 rfl ?_
    refine aw_getC (pc := 36) fd_X12_82.r xB_0 rfl dX12_alike_36 ?_
    refine aw_iload (pc := 39) (q := 4) dX12_alike_39 rfl ?_
    refine aw_aload_n (pc := 41) (q := 0) dX12_alike_41 rfl ?_
    refine aw_getC (pc := 42) fd_X12_70.r xB_0 rfl dX12_alike_42 ?_
    refine aw_iload (pc := 45) (q := 4) dX12_alike_45 rfl ?_
    obtain ⟨g10, h⟩ := aw_gde h
    refine aw_iald (pc := 47) xB_19 g10 dX12_alike_47 ?_
    obtain ⟨g11, h⟩ := aw_gde h
    refine aw_iast (pc := 48) xB_23 g11 dX12_alike_48 ?_
    refine aw_nmS (fun s12 e_s12 => ?_)
    replace h := aw_lte h s12 e_s12
    obtain ⟨x13, e_x13⟩ : ∃ z, z = (v4 + (1 : Int32)) := ⟨_, rfl⟩
    replace h := aw_lte h x13 e_x13
    refine aw_iinc (pc := 49) (q := 4) (v := x13) [(4, .int x13), (0, .ref 0), (1, .int v1), (2, .int v2), (3, .int v3)] dX12_alike_49 rfl e_x13.symm (by decide) rfl ?_
    refine aw_goto (pc := 52) (tgt := 28) dX12_alike_52 (by decide) ?_
    refine aw_sub [1, 2, 3, 4, 0] rfl ?_
    cases h
    exact hz
set_option maxRecDepth 100000 in
set_option maxHeartbeats 4000000 in
theorem t_Rf_alike_B81 {l : Launch} {G : aw_G} {E : aw_E} {σ : aw_S} {v3 : Int32} {v4 : Int32} {t : (((Int32 × aw_S)) ⊕ (Unit)) ⊕ Int32} (h : m_Rf_alike_B81 σ v3 v4 = some t) (hz : Sum.elim (z_Rf_alike_Y81 l G E σ v3) (z_Rf_alike_X81 l G E σ v3) t) : aw_W l M_Rf_alike G B_Rf_alike E 81 [(0, .ref 0), (3, .int v3), (4, .int v4)] [] xB σ 0 0 := by
  unfold m_Rf_alike_B81 at h
  refine aw_iload (pc := 81) (q := 2) dX12_alike_81 rfl ?_
  refine aw_aload_n (pc := 83) (q := 0) dX12_alike_83 rfl ?_
  refine aw_iload_n (pc := 84) (q := 1) dX12_alike_84 rfl ?_
  refine aw_bipush (pc := 85) (v := 40) dX12_alike_85 (by decide) ?_
  obtain ⟨r22, e23, h⟩ := aw_bde h
  refine aw_cV1 (pc := 87) [.int v3, .int ((40 : Int32))] (c_Rf_least e23) yy_Rf_least.1 wm_1215 yy_Rf_least.2.1 yy_Rf_least.2.2 xB_0 ⟨_, _, rfl⟩ rfl ⟨Nat.le_of_ble_eq_true rfl, Nat.le_of_ble_eq_true rfl⟩ ⟨Nat.zero_le _, Nat.zero_le _⟩ (Nat.le_of_ble_eq_true rfl) dX12_alike_87 ?_
  refine aw_icmp_ge (pc := 90) (tgt := 118) dX12_alike_90 (by decide) (fun c24 => ?_) (fun c24 => ?_)
  · replace h := aw_ifp c24 h
    refine aw_sub [] rfl ?_
    cases h
    exact hz
  · replace h := aw_ifn c24 h
    refine aw_aload_n (pc := 93) (q := 0) dX12_alike_93 rfl ?_
    refine aw_getC (pc := 94) fd_X12_70.r xB_0 rfl dX12_alike_94 ?_
    refine aw_iload (pc := 97) (q := 2) dX12_alike_97 rfl ?_
    obtain ⟨g25, h⟩ := aw_gde h
    refine aw_iald (pc := 99) xB_19 g25 dX12_alike_99 ?_
    refine aw_aload_n (pc := 100) (q := 0) dX12_alike_100 rfl ?_
    refine aw_getC (pc := 101) fd_X12_82.r xB_0 rfl dX12_alike_101 ?_
    refine aw_iload (pc := 104) (q := 2) dX12_alike_104 rfl ?_
    obtain ⟨g26, h⟩ := aw_gde h
    refine aw_iald (pc := 106) xB_23 g26 dX12_alike_106 ?_
    refine aw_icmp_eq (pc := 107) (tgt := 112) dX12_alike_107 (by decide) (fun c27 => ?_) (fun c27 => ?_)
    · replace h := aw_ifp c27 h
      obtain ⟨x28, e_x28⟩ : ∃ z, z = (v4 + (1 : Int32)) := ⟨_, rfl⟩
      replace h := aw_lte h x28 e_x28
      refine aw_iinc (pc := 112) (q := 2) (v := x28) [(4, .int x28), (0, .ref 0), (3, .int v3)] dX12_alike_112 rfl e_x28.symm (by decide) rfl ?_
      refine aw_goto (pc := 115) (tgt := 81) dX12_alike_115 (by decide) ?_
      refine aw_sub [1, 2, 0] rfl ?_
      cases h
      exact hz
    · replace h := aw_ifn c27 h
      refine aw_iconst (pc := 110) (v := 0) dX12_alike_110 (by decide) ?_
      cases h
      have hE : E = _ := hz
      subst hE
      exact aw_iret (v := (0 : Int32)) rfl aw_ni ⟨Nat.zero_le _, Nat.zero_le _⟩ dX12_alike_111
set_option maxRecDepth 100000 in
set_option maxHeartbeats 4000000 in
theorem t_Rf_alike {l : Launch} {G : aw_G} {E : aw_E} {σ : aw_S} {p1 : Int32} {t : (Int32 × aw_S)} (h : m_Rf_alike σ p1 = some t) (hE : E = (some (.int t.1), xB, t.2)) : aw_W l M_Rf_alike G B_Rf_alike E 0 [(0, .ref 0), (1, .int p1)] [] xB σ 0 0 := by
  unfold m_Rf_alike at h
  refine aw_aload_n (pc := 0) (q := 0) dX12_alike_0 rfl ?_
  refine aw_iload_n (pc := 1) (q := 1) dX12_alike_1 rfl ?_
  obtain ⟨r1, e2, h⟩ := aw_bde h
  refine aw_cV1 (pc := 2) [.int p1] (c_Rf_canRun e2) yy_Rf_canRun.1 wm_1164 yy_Rf_canRun.2.1 yy_Rf_canRun.2.2 xB_0 ⟨_, _, rfl⟩ rfl ⟨Nat.le_of_ble_eq_true rfl, Nat.le_of_ble_eq_true rfl⟩ ⟨Nat.zero_le _, Nat.zero_le _⟩ (Nat.le_of_ble_eq_true rfl) dX12_alike_2 ?_
  refine aw_if_ne (pc := 5) (tgt := 10) dX12_alike_5 (by decide) (fun c3 => ?_) (fun c3 => ?_)
  · replace h := aw_ifn c3 h
    refine aw_aload_n (pc := 10) (q := 0) dX12_alike_10 rfl ?_
    refine aw_iconst (pc := 11) (v := -1) dX12_alike_11 (by decide) ?_
    obtain ⟨s6, e5, h⟩ := aw_bde h
    refine aw_cV0 (pc := 12) [.int ((-1 : Int32))] (c_Rf_runNow e5) yy_Rf_runNow.1 wm_1168 yy_Rf_runNow.2.1 yy_Rf_runNow.2.2 xB_0 ⟨_, _, rfl⟩ rfl ⟨Nat.le_of_ble_eq_true rfl, Nat.le_of_ble_eq_true rfl⟩ ⟨Nat.zero_le _, Nat.zero_le _⟩ (Nat.le_of_ble_eq_true rfl) dX12_alike_12 ?_
    refine aw_aload_n (pc := 15) (q := 0) dX12_alike_15 rfl ?_
    refine aw_getI (pc := 16) fd_X12_363.r xB_0 rfl dX12_alike_16 ?_
    refine aw_nmI (fun x7 e_x7 => ?_)
    replace h := aw_lte h x7 e_x7
    refine aw_istore_n (pc := 19) [(2, .int x7), (0, .ref 0), (1, .int p1)] dX12_alike_19 (by decide) rfl ?_
    refine aw_aload_n (pc := 20) (q := 1) dX12_alike_20 rfl ?_
    refine aw_getI (pc := 21) fd_X12_357.r xB_0 rfl dX12_alike_21 ?_
    refine aw_nmI (fun x8 e_x8 => ?_)
    replace h := aw_lte h x8 e_x8
    refine aw_istore_n (pc := 24) [(3, .int x8), (2, .int x7), (0, .ref 0), (1, .int p1)] dX12_alike_24 (by decide) rfl ?_
    refine aw_iconst (pc := 25) (v := 0) dX12_alike_25 (by decide) ?_
    refine aw_istore (pc := 26) [(4, .int ((0 : Int32))), (3, .int x8), (2, .int x7), (0, .ref 0), (1, .int p1)] dX12_alike_26 (by decide) rfl ?_
    obtain ⟨x14, hl15, h⟩ := aw_bde h
    have K16 : z_Rf_alike_Y28 l G E p1 x7 x8 x14 := by
      show aw_W l M_Rf_alike G B_Rf_alike E 55 [(0, .ref 0), (1, .int p1), (2, .int x7), (3, .int x8)] [] xB x14 0 0
      refine aw_aload_n (pc := 55) (q := 0) dX12_alike_55 rfl ?_
      refine aw_iload_n (pc := 56) (q := 1) dX12_alike_56 rfl ?_
      obtain ⟨s19, e18, h⟩ := aw_bde h
      refine aw_cV0 (pc := 57) [.int p1] (c_Rf_runNow e18) yy_Rf_runNow.1 wm_1168 yy_Rf_runNow.2.1 yy_Rf_runNow.2.2 xB_0 ⟨_, _, rfl⟩ rfl ⟨Nat.le_of_ble_eq_true rfl, Nat.le_of_ble_eq_true rfl⟩ ⟨Nat.zero_le _, Nat.zero_le _⟩ (Nat.le_of_ble_eq_true rfl) dX12_alike_57 ?_
      refine aw_aload_n (pc := 60) (q := 0) dX12_alike_60 rfl ?_
      refine aw_getI (pc := 61) fd_X12_363.r xB_0 rfl dX12_alike_61 ?_
      refine aw_iload_n (pc := 64) (q := 2) dX12_alike_64 rfl ?_
      refine aw_icmp_ne (pc := 65) (tgt := 76) dX12_alike_65 (by decide) (fun c20 => ?_) (fun c20 => ?_)
      · replace h := aw_ifn c20 h
        refine aw_iconst (pc := 76) (v := 0) dX12_alike_76 (by decide) ?_
        cases h
        subst hE
        exact aw_iret (v := (0 : Int32)) rfl aw_ni ⟨Nat.zero_le _, Nat.zero_le _⟩ dX12_alike_77
      · replace h := aw_ifp c20 h
        refine aw_aload_n (pc := 68) (q := 0) dX12_alike_68 rfl ?_
        refine aw_getI (pc := 69) fd_X12_357.r xB_0 rfl dX12_alike_69 ?_
        refine aw_iload_n (pc := 72) (q := 3) dX12_alike_72 rfl ?_
        refine aw_icmp_eq (pc := 73) (tgt := 78) dX12_alike_73 (by decide) (fun c21 => ?_) (fun c21 => ?_)
        · replace h := aw_ifp c21 h
          refine aw_iconst (pc := 78) (v := 0) dX12_alike_78 (by decide) ?_
          refine aw_istore (pc := 79) [(4, .int ((0 : Int32))), (0, .ref 0), (1, .int p1), (2, .int x7), (3, .int x8)] dX12_alike_79 (by decide) rfl ?_
          obtain ⟨x29, hl30, h⟩ := aw_bde h
          have K31 : z_Rf_alike_Y81 l G E s19 x8 x29 := by
            cases x29 with
            | inl y32 =>
              replace h := aw_eL h
              show E = _
              cases h
              exact hE
            | inr y33 =>
              replace h := aw_eR h
              show aw_W l M_Rf_alike G B_Rf_alike E 118 [] [] xB s19 0 0
              refine aw_iconst (pc := 118) (v := 1) dX12_alike_118 (by decide) ?_
              cases h
              subst hE
              exact aw_iret (v := (1 : Int32)) rfl aw_ni ⟨Nat.zero_le _, Nat.zero_le _⟩ dX12_alike_119
          refine aw_sub [1, 4, 0] rfl ?_
          show z_Rf_alike_X81 l G E s19 x8 ((0 : Int32))
          exact aw_lp_X (Xp := z_Rf_alike_X81 l G E s19 x8) (Y := z_Rf_alike_Y81 l G E s19 x8) hl30 K31 (fun s t hf hz => t_Rf_alike_B81 hf hz)
        · replace h := aw_ifn c21 h
          refine aw_iconst (pc := 76) (v := 0) dX12_alike_76 (by decide) ?_
          cases h
          subst hE
          exact aw_iret (v := (0 : Int32)) rfl aw_ni ⟨Nat.zero_le _, Nat.zero_le _⟩ dX12_alike_77
    refine aw_sub [3, 4, 2, 1, 0] rfl ?_
    show z_Rf_alike_X28 l G E p1 x7 x8 (((0 : Int32), s6))
    exact aw_lp_X (Xp := z_Rf_alike_X28 l G E p1 x7 x8) (Y := z_Rf_alike_Y28 l G E p1 x7 x8) hl15 K16 (fun s t hf hz => t_Rf_alike_B28 hf hz)
  · replace h := aw_ifp c3 h
    refine aw_iconst (pc := 8) (v := -1) dX12_alike_8 (by decide) ?_
    cases h
    subst hE
    exact aw_iret (v := (-1 : Int32)) rfl aw_ni ⟨Nat.zero_le _, Nat.zero_le _⟩ dX12_alike_9
theorem c_Rf_alike {l : Launch} {G : aw_G} {σ : aw_S} {p1 : Int32} {t : (Int32 × aw_S)} (h : m_Rf_alike σ p1 = some t) : aw_Ct l yX12_alike M_Rf_alike G B_Rf_alike [.ref 0, .int p1] xB σ (some (.int t.1), xB, t.2) := aw_Ct_of (by decide) rfl (fun h => by cases h) (Nat.le_of_ble_eq_true rfl) (t_Rf_alike h rfl)
/-! LateMoverModel.has(II)Z -/
set_option maxRecDepth 100000 in
set_option maxHeartbeats 4000000 in
theorem t_Rf_has {l : Launch} {G : aw_G} {E : aw_E} {σ : aw_S} {p0 : Int32} {p1 : Int32} {t : Int32} (h : m_Rf_has σ p0 p1 = some t) (hE : E = (some (.int t), xB, σ)) : aw_W l M_Rf_has G B_Rf_has E 0 [(0, .int p0), (1, .int p1)] [] xB σ 0 0 := by
  unfold m_Rf_has at h
  refine aw_iload_n (pc := 0) (q := 0) dX12_has_0 rfl ?_
  refine aw_iload_n (pc := 1) (q := 1) dX12_has_1 rfl ?_
  refine aw_ishr (pc := 2) dX12_has_2 ?_
  refine aw_iconst (pc := 3) (v := 1) dX12_has_3 (by decide) ?_
  refine aw_iand (pc := 4) dX12_has_4 ?_
  refine aw_iconst (pc := 5) (v := 1) dX12_has_5 (by decide) ?_
  refine aw_icmp_ne (pc := 6) (tgt := 13) dX12_has_6 (by decide) (fun c1 => ?_) (fun c1 => ?_)
  · replace h := aw_ifn c1 h
    refine aw_iconst (pc := 13) (v := 0) dX12_has_13 (by decide) ?_
    cases h
    subst hE
    exact aw_iret (v := (0 : Int32)) rfl aw_n0 ⟨Nat.zero_le _, Nat.zero_le _⟩ dX12_has_14
  · replace h := aw_ifp c1 h
    refine aw_iconst (pc := 9) (v := 1) dX12_has_9 (by decide) ?_
    refine aw_goto (pc := 10) (tgt := 14) dX12_has_10 (by decide) ?_
    cases h
    subst hE
    exact aw_iret (v := (1 : Int32)) rfl aw_n1 ⟨Nat.zero_le _, Nat.zero_le _⟩ dX12_has_14
theorem c_Rf_has {l : Launch} {G : aw_G} {σ : aw_S} {p0 : Int32} {p1 : Int32} {t : Int32} (h : m_Rf_has σ p0 p1 = some t) : aw_Ct l yX12_has M_Rf_has G B_Rf_has [.int p0, .int p1] xB σ (some (.int t), xB, σ) := aw_Ct_of (by decide) rfl (fun h => by cases h) (Nat.le_of_ble_eq_true rfl) (t_Rf_has h rfl)
/-! LateMoverModel.isRight(II)Z -/
def z_Rf_isRight_X2 (l : Launch) (G : aw_G) (E : aw_E) (v1 : Int32) (v2 : Int32) (s : Int32 × aw_S) : Prop := aw_W l M_Rf_isRight G B_Rf_isRight E 2 [(0, .ref 0), (1, .int v1), (2, .int v2), (3, .int s.1)] [] xB s.2 0 0
def z_Rf_isRight_Y2 (l : Launch) (G : aw_G) (E : aw_E) (v1 : Int32) (v2 : Int32) (x : (((Int32 × aw_S)) ⊕ (aw_S))) : Prop := (Sum.elim (fun r0 => E = (some (.int r0.1), xB, r0.2)) (fun r1 => aw_W l M_Rf_isRight G B_Rf_isRight E 59 [(0, .ref 0), (1, .int v1), (2, .int v2)] [] xB r1 0 0)) x
def z_Rf_isRight_X61 (l : Launch) (G : aw_G) (E : aw_E) (v1 : Int32) (v2 : Int32) (s : Int32 × aw_S) : Prop := aw_W l M_Rf_isRight G B_Rf_isRight E 61 [(0, .ref 0), (1, .int v1), (2, .int v2), (3, .int s.1)] [] xB s.2 0 0
def z_Rf_isRight_Y61 (l : Launch) (G : aw_G) (E : aw_E) (v1 : Int32) (v2 : Int32) (x : (aw_S)) : Prop := aw_W l M_Rf_isRight G B_Rf_isRight E 162 [(0, .ref 0), (1, .int v1)] [] xB x 0 0
def z_Rf_isRight_X70 (l : Launch) (G : aw_G) (E : aw_E) (v1 : Int32) (v2 : Int32) (s : Int32 × Int32 × aw_S) : Prop := aw_W l M_Rf_isRight G B_Rf_isRight E 70 [(0, .ref 0), (1, .int v1), (2, .int v2), (3, .int s.1), (4, .int s.2.1)] [] xB s.2.2 0 0
def z_Rf_isRight_Y70 (l : Launch) (G : aw_G) (E : aw_E) (v1 : Int32) (v2 : Int32) (x : (Int32 × aw_S)) : Prop := aw_W l M_Rf_isRight G B_Rf_isRight E 159 [(0, .ref 0), (1, .int v1), (2, .int v2), (3, .int x.1)] [] xB x.2 0 0
def z_Rf_isRight_X165 (l : Launch) (G : aw_G) (E : aw_E) (σ : aw_S) (v1 : Int32) (s : Int32) : Prop := aw_W l M_Rf_isRight G B_Rf_isRight E 165 [(0, .ref 0), (1, .int v1), (4, .int s)] [] xB σ 0 0
def z_Rf_isRight_Y165 (l : Launch) (G : aw_G) (E : aw_E) (σ : aw_S) (v1 : Int32) (x : (((Int32 × aw_S)) ⊕ (Unit))) : Prop := (Sum.elim (fun r0 => E = (some (.int r0.1), xB, r0.2)) (fun r1 => aw_W l M_Rf_isRight G B_Rf_isRight E 203 [] [] xB σ 0 0)) x
set_option maxRecDepth 100000 in
set_option maxHeartbeats 4000000 in
theorem t_Rf_isRight_J52 {l : Launch} {G : aw_G} {E : aw_E} {σ : aw_S} {v1 : Int32} {v2 : Int32} {v3 : Int32} {k1 : Int32} {k2 : Int32} {t : (((Int32 × aw_S)) ⊕ (aw_S)) ⊕ (Int32 × aw_S)} (h : m_Rf_isRight_J52 σ v1 v2 v3 k1 k2 = some t) (hz : Sum.elim (z_Rf_isRight_Y2 l G E v1 v2) (z_Rf_isRight_X2 l G E v1 v2) t) : aw_W l M_Rf_isRight G B_Rf_isRight E 52 [(0, .ref 0), (1, .int v1), (2, .int v2), (3, .int v3)] [.int k2, .int k1, .ref 24] xB σ 0 0 := by
  unfold m_Rf_isRight_J52 at h
  obtain ⟨g6, h⟩ := aw_gde h
  refine aw_zast (pc := 52) xB_24 g6 dX12_isRight_52 ?_
  refine aw_nmS (fun s7 e_s7 => ?_)
  replace h := aw_lte h s7 e_s7
  obtain ⟨x8, e_x8⟩ : ∃ z, z = (v3 + (1 : Int32)) := ⟨_, rfl⟩
  replace h := aw_lte h x8 e_x8
  refine aw_iinc (pc := 53) (q := 3) (v := x8) [(3, .int x8), (0, .ref 0), (1, .int v1), (2, .int v2)] dX12_isRight_53 rfl e_x8.symm (by decide) rfl ?_
  refine aw_goto (pc := 56) (tgt := 2) dX12_isRight_56 (by decide) ?_
  refine aw_sub [1, 2, 3, 0] rfl ?_
  cases h
  exact hz
set_option maxRecDepth 100000 in
set_option maxHeartbeats 4000000 in
theorem t_Rf_isRight_J30 {l : Launch} {G : aw_G} {E : aw_E} {σ : aw_S} {v1 : Int32} {v2 : Int32} {v3 : Int32} {t : (((Int32 × aw_S)) ⊕ (aw_S)) ⊕ (Int32 × aw_S)} (h : m_Rf_isRight_J30 σ v1 v2 v3 = some t) (hz : Sum.elim (z_Rf_isRight_Y2 l G E v1 v2) (z_Rf_isRight_X2 l G E v1 v2) t) : aw_W l M_Rf_isRight G B_Rf_isRight E 30 [(0, .ref 0), (1, .int v1), (2, .int v2), (3, .int v3)] [] xB σ 0 0 := by
  unfold m_Rf_isRight_J30 at h
  refine aw_aload_n (pc := 30) (q := 0) dX12_isRight_30 rfl ?_
  refine aw_getC (pc := 31) fd_X12_85.r xB_0 rfl dX12_isRight_31 ?_
  refine aw_iload_n (pc := 34) (q := 3) dX12_isRight_34 rfl ?_
  refine aw_iload_n (pc := 35) (q := 3) dX12_isRight_35 rfl ?_
  refine aw_if_gt (pc := 36) (tgt := 47) dX12_isRight_36 (by decide) (fun c5 => ?_) (fun c5 => ?_)
  · replace h := aw_ifp c5 h
    refine aw_iconst (pc := 47) (v := 1) dX12_isRight_47 (by decide) ?_
    refine aw_goto (pc := 48) (tgt := 52) dX12_isRight_48 (by decide) ?_
    exact t_Rf_isRight_J52 h hz
  · replace h := aw_ifn c5 h
    refine aw_iload_n (pc := 39) (q := 2) dX12_isRight_39 rfl ?_
    refine aw_iconst (pc := 40) (v := 0) dX12_isRight_40 (by decide) ?_
    obtain ⟨r9, e10, h⟩ := aw_bde h
    refine aw_cS1 (pc := 41) [.int v2, .int ((0 : Int32))] (c_Rf_has e10) yy_Rf_has.1 wm_1410 yy_Rf_has.2 rfl ⟨Nat.le_of_ble_eq_true rfl, Nat.le_of_ble_eq_true rfl⟩ ⟨Nat.zero_le _, Nat.zero_le _⟩ (Nat.le_of_ble_eq_true rfl) dX12_isRight_41 ?_
    refine aw_if_eq (pc := 44) (tgt := 51) dX12_isRight_44 (by decide) (fun c11 => ?_) (fun c11 => ?_)
    · replace h := aw_ifp c11 h
      refine aw_iconst (pc := 51) (v := 0) dX12_isRight_51 (by decide) ?_
      exact t_Rf_isRight_J52 h hz
    · replace h := aw_ifn c11 h
      refine aw_iconst (pc := 47) (v := 1) dX12_isRight_47 (by decide) ?_
      refine aw_goto (pc := 48) (tgt := 52) dX12_isRight_48 (by decide) ?_
      exact t_Rf_isRight_J52 h hz
set_option maxRecDepth 100000 in
set_option maxHeartbeats 4000000 in
theorem t_Rf_isRight_B2 {l : Launch} {G : aw_G} {E : aw_E} {σ : aw_S} {v1 : Int32} {v2 : Int32} {v3 : Int32} {t : (((Int32 × aw_S)) ⊕ (aw_S)) ⊕ (Int32 × aw_S)} (h : m_Rf_isRight_B2 σ v1 v2 v3 = some t) (hz : Sum.elim (z_Rf_isRight_Y2 l G E v1 v2) (z_Rf_isRight_X2 l G E v1 v2) t) : aw_W l M_Rf_isRight G B_Rf_isRight E 2 [(0, .ref 0), (1, .int v1), (2, .int v2), (3, .int v3)] [] xB σ 0 0 := by
  unfold m_Rf_isRight_B2 at h
  refine aw_iload_n (pc := 2) (q := 3) dX12_isRight_2 rfl ?_
  refine aw_aload_n (pc := 3) (q := 0) dX12_isRight_3 rfl ?_
  refine aw_getI (pc := 4) fd_X12_215.r xB_0 rfl dX12_isRight_4 ?_
  refine aw_icmp_ge (pc := 7) (tgt := 59) dX12_isRight_7 (by decide) (fun c1 => ?_) (fun c1 => ?_)
  · replace h := aw_ifp c1 h
    refine aw_sub [0, 1, 2] rfl ?_
    cases h
    exact hz
  · replace h := aw_ifn c1 h
    refine aw_iload_n (pc := 10) (q := 2) dX12_isRight_10 rfl ?_
    refine aw_iload_n (pc := 11) (q := 3) dX12_isRight_11 rfl ?_
    obtain ⟨r2, e3, h⟩ := aw_bde h
    refine aw_cS1 (pc := 12) [.int v2, .int v3] (c_Rf_has e3) yy_Rf_has.1 wm_1410 yy_Rf_has.2 rfl ⟨Nat.le_of_ble_eq_true rfl, Nat.le_of_ble_eq_true rfl⟩ ⟨Nat.zero_le _, Nat.zero_le _⟩ (Nat.le_of_ble_eq_true rfl) dX12_isRight_12 ?_
    refine aw_if_eq (pc := 15) (tgt := 30) dX12_isRight_15 (by decide) (fun c4 => ?_) (fun c4 => ?_)
    · replace h := aw_ifp c4 h
      exact t_Rf_isRight_J30 h hz
    · replace h := aw_ifn c4 h
      refine aw_aload_n (pc := 18) (q := 0) dX12_isRight_18 rfl ?_
      refine aw_iconst (pc := 19) (v := 2) dX12_isRight_19 (by decide) ?_
      refine aw_iload_n (pc := 20) (q := 1) dX12_isRight_20 rfl ?_
      refine aw_iload_n (pc := 21) (q := 3) dX12_isRight_21 rfl ?_
      obtain ⟨r12, e13, h⟩ := aw_bde h
      refine aw_cV1 (pc := 22) [.int ((2 : Int32)), .int v1, .int v3] (c_Rf_so e13) yy_Rf_so.1 wm_803 yy_Rf_so.2.1 yy_Rf_so.2.2 xB_0 ⟨_, _, rfl⟩ rfl ⟨Nat.le_of_ble_eq_true rfl, Nat.le_of_ble_eq_true rfl⟩ ⟨Nat.zero_le _, Nat.zero_le _⟩ (Nat.le_of_ble_eq_true rfl) dX12_isRight_22 ?_
      refine aw_if_ne (pc := 25) (tgt := 30) dX12_isRight_25 (by decide) (fun c14 => ?_) (fun c14 => ?_)
      · replace h := aw_ifn c14 h
        exact t_Rf_isRight_J30 h hz
      · replace h := aw_ifp c14 h
        refine aw_iconst (pc := 28) (v := 0) dX12_isRight_28 (by decide) ?_
        cases h
        have hE : E = _ := hz
        subst hE
        exact aw_iret (v := (0 : Int32)) rfl aw_n0 ⟨Nat.zero_le _, Nat.zero_le _⟩ dX12_isRight_29
set_option maxRecDepth 100000 in
set_option maxHeartbeats 4000000 in
theorem t_Rf_isRight_J153 {l : Launch} {G : aw_G} {E : aw_E} {σ : aw_S} {v1 : Int32} {v2 : Int32} {v3 : Int32} {v4 : Int32} {t : (Int32 × aw_S) ⊕ (Int32 × Int32 × aw_S)} (h : m_Rf_isRight_J153 σ v1 v2 v3 v4 = some t) (hz : Sum.elim (z_Rf_isRight_Y70 l G E v1 v2) (z_Rf_isRight_X70 l G E v1 v2) t) : aw_W l M_Rf_isRight G B_Rf_isRight E 153 [(0, .ref 0), (1, .int v1), (2, .int v2), (3, .int v3), (4, .int v4)] [] xB σ 0 0 := by
  unfold m_Rf_isRight_J153 at h
  obtain ⟨x25, e_x25⟩ : ∃ z, z = (v4 + (1 : Int32)) := ⟨_, rfl⟩
  replace h := aw_lte h x25 e_x25
  refine aw_iinc (pc := 153) (q := 4) (v := x25) [(4, .int x25), (0, .ref 0), (1, .int v1), (2, .int v2), (3, .int v3)] dX12_isRight_153 rfl e_x25.symm (by decide) rfl ?_
  refine aw_goto (pc := 156) (tgt := 70) dX12_isRight_156 (by decide) ?_
  refine aw_sub [1, 2, 3, 4, 0] rfl ?_
  cases h
  exact hz
set_option maxRecDepth 100000 in
set_option maxHeartbeats 4000000 in
theorem t_Rf_isRight_J143 {l : Launch} {G : aw_G} {E : aw_E} {σ : aw_S} {v1 : Int32} {v2 : Int32} {v4 : Int32} {v5 : Int32} {t : (Int32 × aw_S) ⊕ (Int32 × Int32 × aw_S)} (h : m_Rf_isRight_J143 σ v1 v2 v4 v5 = some t) (hz : Sum.elim (z_Rf_isRight_Y70 l G E v1 v2) (z_Rf_isRight_X70 l G E v1 v2) t) : aw_W l M_Rf_isRight G B_Rf_isRight E 143 [(0, .ref 0), (1, .int v1), (2, .int v2), (4, .int v4), (5, .int v5)] [] xB σ 0 0 := by
  unfold m_Rf_isRight_J143 at h
  refine aw_aload_n (pc := 143) (q := 0) dX12_isRight_143 rfl ?_
  refine aw_getC (pc := 144) fd_X12_85.r xB_0 rfl dX12_isRight_144 ?_
  refine aw_iload (pc := 147) (q := 4) dX12_isRight_147 rfl ?_
  refine aw_iconst (pc := 149) (v := 0) dX12_isRight_149 (by decide) ?_
  obtain ⟨g33, h⟩ := aw_gde h
  refine aw_zast (pc := 150) xB_24 g33 dX12_isRight_150 ?_
  refine aw_nmS (fun s34 e_s34 => ?_)
  replace h := aw_lte h s34 e_s34
  refine aw_iconst (pc := 151) (v := 1) dX12_isRight_151 (by decide) ?_
  refine aw_istore_n (pc := 152) [(3, .int ((1 : Int32))), (0, .ref 0), (1, .int v1), (2, .int v2), (4, .int v4), (5, .int v5)] dX12_isRight_152 (by decide) rfl ?_
  refine aw_sub [1, 2, 3, 0, 4] rfl ?_
  exact t_Rf_isRight_J153 h hz
set_option maxRecDepth 100000 in
set_option maxHeartbeats 4000000 in
theorem t_Rf_isRight_B70 {l : Launch} {G : aw_G} {E : aw_E} {σ : aw_S} {v1 : Int32} {v2 : Int32} {v3 : Int32} {v4 : Int32} {t : (Int32 × aw_S) ⊕ (Int32 × Int32 × aw_S)} (h : m_Rf_isRight_B70 σ v1 v2 v3 v4 = some t) (hz : Sum.elim (z_Rf_isRight_Y70 l G E v1 v2) (z_Rf_isRight_X70 l G E v1 v2) t) : aw_W l M_Rf_isRight G B_Rf_isRight E 70 [(0, .ref 0), (1, .int v1), (2, .int v2), (3, .int v3), (4, .int v4)] [] xB σ 0 0 := by
  unfold m_Rf_isRight_B70 at h
  refine aw_iload (pc := 70) (q := 4) dX12_isRight_70 rfl ?_
  refine aw_iconst (pc := 72) (v := 2) dX12_isRight_72 (by decide) ?_
  refine aw_aload_n (pc := 73) (q := 0) dX12_isRight_73 rfl ?_
  refine aw_getI (pc := 74) fd_X12_215.r xB_0 rfl dX12_isRight_74 ?_
  refine aw_imul (pc := 77) dX12_isRight_77 ?_
  refine aw_icmp_ge (pc := 78) (tgt := 159) dX12_isRight_78 (by decide) (fun c21 => ?_) (fun c21 => ?_)
  · replace h := aw_ifp c21 h
    refine aw_sub [0, 1, 2, 3] rfl ?_
    cases h
    exact hz
  · replace h := aw_ifn c21 h
    refine aw_aload_n (pc := 81) (q := 0) dX12_isRight_81 rfl ?_
    refine aw_getC (pc := 82) fd_X12_33.r xB_0 rfl dX12_isRight_82 ?_
    refine aw_iload (pc := 85) (q := 4) dX12_isRight_85 rfl ?_
    obtain ⟨g22, h⟩ := aw_gde h
    refine aw_iald (pc := 87) xB_7 g22 dX12_isRight_87 ?_
    refine aw_nmI (fun x23 e_x23 => ?_)
    replace h := aw_lte h x23 e_x23
    refine aw_istore (pc := 88) [(5, .int x23), (0, .ref 0), (1, .int v1), (2, .int v2), (3, .int v3), (4, .int v4)] dX12_isRight_88 (by decide) rfl ?_
    refine aw_iload (pc := 90) (q := 0) dX12_isRight_90 rfl ?_
    refine aw_iconst (pc := 92) (v := -1) dX12_isRight_92 (by decide) ?_
    refine aw_icmp_eq (pc := 93) (tgt := 153) dX12_isRight_93 (by decide) (fun c24 => ?_) (fun c24 => ?_)
    · replace h := aw_ifp c24 h
      refine aw_sub [1, 2, 3, 4, 5] rfl ?_
      exact t_Rf_isRight_J153 h hz
    · replace h := aw_ifn c24 h
      refine aw_aload_n (pc := 96) (q := 1) dX12_isRight_96 rfl ?_
      refine aw_getC (pc := 97) fd_X12_85.r xB_0 rfl dX12_isRight_97 ?_
      refine aw_iload (pc := 100) (q := 0) dX12_isRight_100 rfl ?_
      obtain ⟨g26, h⟩ := aw_gde h
      refine aw_zald (pc := 102) xB_24 g26 dX12_isRight_102 ?_
      refine aw_if_eq (pc := 103) (tgt := 153) dX12_isRight_103 (by decide) (fun c27 => ?_) (fun c27 => ?_)
      · replace h := aw_ifp c27 h
        refine aw_sub [1, 2, 3, 4, 5] rfl ?_
        exact t_Rf_isRight_J153 h hz
      · replace h := aw_ifn c27 h
        refine aw_iload_n (pc := 106) (q := 3) dX12_isRight_106 rfl ?_
        refine aw_iload (pc := 107) (q := 0) dX12_isRight_107 rfl ?_
        obtain ⟨r28, e29, h⟩ := aw_bde h
        refine aw_cS1 (pc := 109) [.int v2, .int x23] (c_Rf_has e29) yy_Rf_has.1 wm_1410 yy_Rf_has.2 rfl ⟨Nat.le_of_ble_eq_true rfl, Nat.le_of_ble_eq_true rfl⟩ ⟨Nat.zero_le _, Nat.zero_le _⟩ (Nat.le_of_ble_eq_true rfl) dX12_isRight_109 ?_
        refine aw_if_ne (pc := 112) (tgt := 153) dX12_isRight_112 (by decide) (fun c30 => ?_) (fun c30 => ?_)
        · replace h := aw_ifn c30 h
          refine aw_sub [1, 2, 3, 4, 5] rfl ?_
          exact t_Rf_isRight_J153 h hz
        · replace h := aw_ifp c30 h
          refine aw_aload_n (pc := 115) (q := 1) dX12_isRight_115 rfl ?_
          refine aw_getC (pc := 116) fd_X12_85.r xB_0 rfl dX12_isRight_116 ?_
          refine aw_iload (pc := 119) (q := 5) dX12_isRight_119 rfl ?_
          refine aw_iconst (pc := 121) (v := 2) dX12_isRight_121 (by decide) ?_
          refine aw_idiv (pc := 122) dX12_isRight_122 (by decide) ?_
          obtain ⟨g31, h⟩ := aw_gde h
          refine aw_zald (pc := 123) xB_24 g31 dX12_isRight_123 ?_
          refine aw_if_eq (pc := 124) (tgt := 143) dX12_isRight_124 (by decide) (fun c32 => ?_) (fun c32 => ?_)
          · replace h := aw_ifp c32 h
            refine aw_sub [1, 2, 3, 5, 0] rfl ?_
            exact t_Rf_isRight_J143 h hz
          · replace h := aw_ifn c32 h
            refine aw_aload_n (pc := 127) (q := 1) dX12_isRight_127 rfl ?_
            refine aw_iconst (pc := 128) (v := 1) dX12_isRight_128 (by decide) ?_
            refine aw_iload_n (pc := 129) (q := 2) dX12_isRight_129 rfl ?_
            refine aw_iload (pc := 130) (q := 5) dX12_isRight_130 rfl ?_
            refine aw_iconst (pc := 132) (v := 2) dX12_isRight_132 (by decide) ?_
            refine aw_idiv (pc := 133) dX12_isRight_133 (by decide) ?_
            obtain ⟨r35, e36, h⟩ := aw_bde h
            refine aw_cV1 (pc := 134) [.int ((1 : Int32)), .int v1, .int ((v4 / (2 : Int32)))] (c_Rf_so e36) yy_Rf_so.1 wm_803 yy_Rf_so.2.1 yy_Rf_so.2.2 xB_0 ⟨_, _, rfl⟩ rfl ⟨Nat.le_of_ble_eq_true rfl, Nat.le_of_ble_eq_true rfl⟩ ⟨Nat.zero_le _, Nat.zero_le _⟩ (Nat.le_of_ble_eq_true rfl) dX12_isRight_134 ?_
            refine aw_if_eq (pc := 137) (tgt := 143) dX12_isRight_137 (by decide) (fun c37 => ?_) (fun c37 => ?_)
            · replace h := aw_ifp c37 h
              refine aw_sub [1, 2, 3, 5, 0] rfl ?_
              exact t_Rf_isRight_J143 h hz
            · replace h := aw_ifn c37 h
              refine aw_goto (pc := 140) (tgt := 153) dX12_isRight_140 (by decide) ?_
              refine aw_sub [1, 2, 3, 4, 5] rfl ?_
              exact t_Rf_isRight_J153 h hz
set_option maxRecDepth 100000 in
set_option maxHeartbeats 4000000 in
theorem t_Rf_isRight_B61 {l : Launch} {G : aw_G} {E : aw_E} {σ : aw_S} {v1 : Int32} {v2 : Int32} {v3 : Int32} {t : (aw_S) ⊕ (Int32 × aw_S)} (h : m_Rf_isRight_B61 σ v1 v2 v3 = some t) (hz : Sum.elim (z_Rf_isRight_Y61 l G E v1 v2) (z_Rf_isRight_X61 l G E v1 v2) t) : aw_W l M_Rf_isRight G B_Rf_isRight E 61 [(0, .ref 0), (1, .int v1), (2, .int v2), (3, .int v3)] [] xB σ 0 0 := by
  unfold m_Rf_isRight_B61 at h
  refine aw_iload_n (pc := 61) (q := 3) dX12_isRight_61 rfl ?_
  refine aw_if_eq (pc := 62) (tgt := 162) dX12_isRight_62 (by decide) (fun c20 => ?_) (fun c20 => ?_)
  · replace h := aw_ifp c20 h
    refine aw_sub [0, 1] rfl ?_
    cases h
    exact hz
  · replace h := aw_ifn c20 h
    refine aw_iconst (pc := 65) (v := 0) dX12_isRight_65 (by decide) ?_
    refine aw_istore_n (pc := 66) [(3, .int ((0 : Int32))), (0, .ref 0), (1, .int v1), (2, .int v2)] dX12_isRight_66 (by decide) rfl ?_
    refine aw_iconst (pc := 67) (v := 0) dX12_isRight_67 (by decide) ?_
    refine aw_istore (pc := 68) [(4, .int ((0 : Int32))), (3, .int ((0 : Int32))), (0, .ref 0), (1, .int v1), (2, .int v2)] dX12_isRight_68 (by decide) rfl ?_
    obtain ⟨x38, hl39, h⟩ := aw_bde h
    have K40 : z_Rf_isRight_Y70 l G E v1 v2 x38 := by
      show aw_W l M_Rf_isRight G B_Rf_isRight E 159 [(0, .ref 0), (1, .int v1), (2, .int v2), (3, .int x38.1)] [] xB x38.2 0 0
      refine aw_goto (pc := 159) (tgt := 61) dX12_isRight_159 (by decide) ?_
      refine aw_sub [0, 1, 2, 3] rfl ?_
      cases h
      exact hz
    refine aw_sub [2, 3, 4, 1, 0] rfl ?_
    show z_Rf_isRight_X70 l G E v1 v2 (((0 : Int32), (0 : Int32), σ))
    exact aw_lp_X (Xp := z_Rf_isRight_X70 l G E v1 v2) (Y := z_Rf_isRight_Y70 l G E v1 v2) hl39 K40 (fun s t hf hz => t_Rf_isRight_B70 hf hz)
set_option maxRecDepth 100000 in
set_option maxHeartbeats 4000000 in
theorem t_Rf_isRight_J197 {l : Launch} {G : aw_G} {E : aw_E} {σ : aw_S} {v1 : Int32} {v4 : Int32} {t : (((Int32 × aw_S)) ⊕ (Unit)) ⊕ Int32} (h : m_Rf_isRight_J197 σ v1 v4 = some t) (hz : Sum.elim (z_Rf_isRight_Y165 l G E σ v1) (z_Rf_isRight_X165 l G E σ v1) t) : aw_W l M_Rf_isRight G B_Rf_isRight E 197 [(0, .ref 0), (1, .int v1), (4, .int v4)] [] xB σ 0 0 := by
  unfold m_Rf_isRight_J197 at h
  obtain ⟨x48, e_x48⟩ : ∃ z, z = (v4 + (1 : Int32)) := ⟨_, rfl⟩
  replace h := aw_lte h x48 e_x48
  refine aw_iinc (pc := 197) (q := 2) (v := x48) [(4, .int x48), (0, .ref 0), (1, .int v1)] dX12_isRight_197 rfl e_x48.symm (by decide) rfl ?_
  refine aw_goto (pc := 200) (tgt := 165) dX12_isRight_200 (by decide) ?_
  refine aw_sub [1, 2, 0] rfl ?_
  cases h
  exact hz
set_option maxRecDepth 100000 in
set_option maxHeartbeats 4000000 in
theorem t_Rf_isRight_B165 {l : Launch} {G : aw_G} {E : aw_E} {σ : aw_S} {v1 : Int32} {v4 : Int32} {t : (((Int32 × aw_S)) ⊕ (Unit)) ⊕ Int32} (h : m_Rf_isRight_B165 σ v1 v4 = some t) (hz : Sum.elim (z_Rf_isRight_Y165 l G E σ v1) (z_Rf_isRight_X165 l G E σ v1) t) : aw_W l M_Rf_isRight G B_Rf_isRight E 165 [(0, .ref 0), (1, .int v1), (4, .int v4)] [] xB σ 0 0 := by
  unfold m_Rf_isRight_B165 at h
  refine aw_iload (pc := 165) (q := 2) dX12_isRight_165 rfl ?_
  refine aw_aload_n (pc := 167) (q := 0) dX12_isRight_167 rfl ?_
  refine aw_getI (pc := 168) fd_X12_215.r xB_0 rfl dX12_isRight_168 ?_
  refine aw_icmp_ge (pc := 171) (tgt := 203) dX12_isRight_171 (by decide) (fun c44 => ?_) (fun c44 => ?_)
  · replace h := aw_ifp c44 h
    refine aw_sub [] rfl ?_
    cases h
    exact hz
  · replace h := aw_ifn c44 h
    refine aw_aload_n (pc := 174) (q := 0) dX12_isRight_174 rfl ?_
    refine aw_iconst (pc := 175) (v := 0) dX12_isRight_175 (by decide) ?_
    refine aw_iload_n (pc := 176) (q := 1) dX12_isRight_176 rfl ?_
    refine aw_iload (pc := 177) (q := 2) dX12_isRight_177 rfl ?_
    obtain ⟨r45, e46, h⟩ := aw_bde h
    refine aw_cV1 (pc := 179) [.int ((0 : Int32)), .int v1, .int v4] (c_Rf_so e46) yy_Rf_so.1 wm_803 yy_Rf_so.2.1 yy_Rf_so.2.2 xB_0 ⟨_, _, rfl⟩ rfl ⟨Nat.le_of_ble_eq_true rfl, Nat.le_of_ble_eq_true rfl⟩ ⟨Nat.zero_le _, Nat.zero_le _⟩ (Nat.le_of_ble_eq_true rfl) dX12_isRight_179 ?_
    refine aw_if_eq (pc := 182) (tgt := 197) dX12_isRight_182 (by decide) (fun c47 => ?_) (fun c47 => ?_)
    · replace h := aw_ifp c47 h
      exact t_Rf_isRight_J197 h hz
    · replace h := aw_ifn c47 h
      refine aw_aload_n (pc := 185) (q := 0) dX12_isRight_185 rfl ?_
      refine aw_getC (pc := 186) fd_X12_85.r xB_0 rfl dX12_isRight_186 ?_
      refine aw_iload (pc := 189) (q := 2) dX12_isRight_189 rfl ?_
      obtain ⟨g49, h⟩ := aw_gde h
      refine aw_zald (pc := 191) xB_24 g49 dX12_isRight_191 ?_
      refine aw_if_ne (pc := 192) (tgt := 197) dX12_isRight_192 (by decide) (fun c50 => ?_) (fun c50 => ?_)
      · replace h := aw_ifn c50 h
        exact t_Rf_isRight_J197 h hz
      · replace h := aw_ifp c50 h
        refine aw_iconst (pc := 195) (v := 0) dX12_isRight_195 (by decide) ?_
        cases h
        have hE : E = _ := hz
        subst hE
        exact aw_iret (v := (0 : Int32)) rfl aw_n0 ⟨Nat.zero_le _, Nat.zero_le _⟩ dX12_isRight_196
set_option maxRecDepth 100000 in
set_option maxHeartbeats 4000000 in
theorem t_Rf_isRight {l : Launch} {G : aw_G} {E : aw_E} {σ : aw_S} {p1 : Int32} {p2 : Int32} {t : (Int32 × aw_S)} (h : m_Rf_isRight σ p1 p2 = some t) (hE : E = (some (.int t.1), xB, t.2)) : aw_W l M_Rf_isRight G B_Rf_isRight E 0 [(0, .ref 0), (1, .int p1), (2, .int p2)] [] xB σ 0 0 := by
  unfold m_Rf_isRight at h
  refine aw_iconst (pc := 0) (v := 0) dX12_isRight_0 (by decide) ?_
  refine aw_istore_n (pc := 1) [(3, .int ((0 : Int32))), (0, .ref 0), (1, .int p1), (2, .int p2)] dX12_isRight_1 (by decide) rfl ?_
  obtain ⟨x15, hl16, h⟩ := aw_bde h
  have K17 : z_Rf_isRight_Y2 l G E p1 p2 x15 := by
    cases x15 with
    | inl y18 =>
      replace h := aw_eL h
      show E = _
      cases h
      exact hE
    | inr y19 =>
      replace h := aw_eR h
      show aw_W l M_Rf_isRight G B_Rf_isRight E 59 [(0, .ref 0), (1, .int p1), (2, .int p2)] [] xB y19 0 0
      refine aw_iconst (pc := 59) (v := 1) dX12_isRight_59 (by decide) ?_
      refine aw_istore_n (pc := 60) [(3, .int ((1 : Int32))), (0, .ref 0), (1, .int p1), (2, .int p2)] dX12_isRight_60 (by decide) rfl ?_
      obtain ⟨x41, hl42, h⟩ := aw_bde h
      have K43 : z_Rf_isRight_Y61 l G E p1 p2 x41 := by
        show aw_W l M_Rf_isRight G B_Rf_isRight E 162 [(0, .ref 0), (1, .int p1)] [] xB x41 0 0
        refine aw_iconst (pc := 162) (v := 0) dX12_isRight_162 (by decide) ?_
        refine aw_istore (pc := 163) [(4, .int ((0 : Int32))), (0, .ref 0), (1, .int p1)] dX12_isRight_163 (by decide) rfl ?_
        obtain ⟨x51, hl52, h⟩ := aw_bde h
        have K53 : z_Rf_isRight_Y165 l G E x41 p1 x51 := by
          cases x51 with
          | inl y54 =>
            replace h := aw_eL h
            show E = _
            cases h
            exact hE
          | inr y55 =>
            replace h := aw_eR h
            show aw_W l M_Rf_isRight G B_Rf_isRight E 203 [] [] xB x41 0 0
            refine aw_iconst (pc := 203) (v := 1) dX12_isRight_203 (by decide) ?_
            cases h
            subst hE
            exact aw_iret (v := (1 : Int32)) rfl aw_n1 ⟨Nat.zero_le _, Nat.zero_le _⟩ dX12_isRight_204
        refine aw_sub [1, 2, 0] rfl ?_
        show z_Rf_isRight_X165 l G E x41 p1 ((0 : Int32))
        exact aw_lp_X (Xp := z_Rf_isRight_X165 l G E x41 p1) (Y := z_Rf_isRight_Y165 l G E x41 p1) hl52 K53 (fun s t hf hz => t_Rf_isRight_B165 hf hz)
      refine aw_sub [1, 2, 3, 0] rfl ?_
      show z_Rf_isRight_X61 l G E p1 p2 (((1 : Int32), y19))
      exact aw_lp_X (Xp := z_Rf_isRight_X61 l G E p1 p2) (Y := z_Rf_isRight_Y61 l G E p1 p2) hl42 K43 (fun s t hf hz => t_Rf_isRight_B61 hf hz)
  refine aw_sub [1, 2, 3, 0] rfl ?_
  show z_Rf_isRight_X2 l G E p1 p2 (((0 : Int32), σ))
  exact aw_lp_X (Xp := z_Rf_isRight_X2 l G E p1 p2) (Y := z_Rf_isRight_Y2 l G E p1 p2) hl16 K17 (fun s t hf hz => t_Rf_isRight_B2 hf hz)
theorem c_Rf_isRight {l : Launch} {G : aw_G} {σ : aw_S} {p1 : Int32} {p2 : Int32} {t : (Int32 × aw_S)} (h : m_Rf_isRight σ p1 p2 = some t) : aw_Ct l yX12_isRight M_Rf_isRight G B_Rf_isRight [.ref 0, .int p1, .int p2] xB σ (some (.int t.1), xB, t.2) := aw_Ct_of (by decide) rfl (fun h => by cases h) (Nat.le_of_ble_eq_true rfl) (t_Rf_isRight h rfl)
/-! LateMoverModel.overBy(III)I -/
set_option maxRecDepth 100000 in
set_option maxHeartbeats 4000000 in
theorem t_Rf_overBy_J33 {l : Launch} {G : aw_G} {E : aw_E} {σ : aw_S} {k0 : Int32} {k1 : Int32} {t : Int32} (h : m_Rf_overBy_J33 σ k0 k1 = some t) (hE : E = (some (.int t), xB, σ)) : aw_W l M_Rf_overBy G B_Rf_overBy E 33 [] [.int k1, .int k0] xB σ 0 0 := by
  unfold m_Rf_overBy_J33 at h
  refine aw_isub (pc := 33) dX12_overBy_33 ?_
  cases h
  subst hE
  exact aw_iret (v := (k0 - k1)) rfl aw_ni ⟨Nat.zero_le _, Nat.zero_le _⟩ dX12_overBy_34
set_option maxRecDepth 100000 in
set_option maxHeartbeats 4000000 in
theorem t_Rf_overBy_J13 {l : Launch} {G : aw_G} {E : aw_E} {σ : aw_S} {v1 : Int32} {v3 : Int32} {k0 : Int32} {t : Int32} (h : m_Rf_overBy_J13 σ v1 v3 k0 = some t) (hE : E = (some (.int t), xB, σ)) : aw_W l M_Rf_overBy G B_Rf_overBy E 13 [(0, .ref 0), (1, .int v1), (3, .int v3)] [.int k0] xB σ 0 0 := by
  unfold m_Rf_overBy_J13 at h
  refine aw_aload_n (pc := 13) (q := 0) dX12_overBy_13 rfl ?_
  refine aw_getC (pc := 14) fd_X12_52.r xB_0 rfl dX12_overBy_14 ?_
  refine aw_iconst (pc := 17) (v := 0) dX12_overBy_17 (by decide) ?_
  refine aw_iconst (pc := 18) (v := 0) dX12_overBy_18 (by decide) ?_
  refine aw_iload_n (pc := 19) (q := 1) dX12_overBy_19 rfl ?_
  refine aw_iload_n (pc := 20) (q := 2) dX12_overBy_20 rfl ?_
  obtain ⟨r4, e5, h⟩ := aw_bde h
  refine aw_cS1 (pc := 21) [.int ((0 : Int32)), .int ((0 : Int32)), .int v1, .int v3] (c_Rf_at e5) yy_Rf_at.1 wm_827 yy_Rf_at.2 rfl ⟨Nat.le_of_ble_eq_true rfl, Nat.le_of_ble_eq_true rfl⟩ ⟨Nat.zero_le _, Nat.zero_le _⟩ (Nat.le_of_ble_eq_true rfl) dX12_overBy_21 ?_
  obtain ⟨g6, h⟩ := aw_gde h
  refine aw_zald (pc := 24) xB_13 g6 dX12_overBy_24 ?_
  refine aw_if_eq (pc := 25) (tgt := 32) dX12_overBy_25 (by decide) (fun c7 => ?_) (fun c7 => ?_)
  · replace h := aw_ifp c7 h
    refine aw_iconst (pc := 32) (v := 0) dX12_overBy_32 (by decide) ?_
    refine aw_sub [] rfl ?_
    exact t_Rf_overBy_J33 h hE
  · replace h := aw_ifn c7 h
    refine aw_iconst (pc := 28) (v := 1) dX12_overBy_28 (by decide) ?_
    refine aw_goto (pc := 29) (tgt := 33) dX12_overBy_29 (by decide) ?_
    refine aw_sub [] rfl ?_
    exact t_Rf_overBy_J33 h hE
set_option maxRecDepth 100000 in
set_option maxHeartbeats 4000000 in
theorem t_Rf_overBy {l : Launch} {G : aw_G} {E : aw_E} {σ : aw_S} {p1 : Int32} {p2 : Int32} {p3 : Int32} {t : Int32} (h : m_Rf_overBy σ p1 p2 p3 = some t) (hE : E = (some (.int t), xB, σ)) : aw_W l M_Rf_overBy G B_Rf_overBy E 0 [(0, .ref 0), (1, .int p1), (2, .int p2), (3, .int p3)] [] xB σ 0 0 := by
  unfold m_Rf_overBy at h
  refine aw_iload_n (pc := 0) (q := 2) dX12_overBy_0 rfl ?_
  refine aw_iload_n (pc := 1) (q := 3) dX12_overBy_1 rfl ?_
  obtain ⟨r1, e2, h⟩ := aw_bde h
  refine aw_cS1 (pc := 2) [.int p2, .int p3] (c_Rf_has e2) yy_Rf_has.1 wm_1410 yy_Rf_has.2 rfl ⟨Nat.le_of_ble_eq_true rfl, Nat.le_of_ble_eq_true rfl⟩ ⟨Nat.zero_le _, Nat.zero_le _⟩ (Nat.le_of_ble_eq_true rfl) dX12_overBy_2 ?_
  refine aw_if_eq (pc := 5) (tgt := 12) dX12_overBy_5 (by decide) (fun c3 => ?_) (fun c3 => ?_)
  · replace h := aw_ifp c3 h
    refine aw_iconst (pc := 12) (v := 0) dX12_overBy_12 (by decide) ?_
    refine aw_sub [0, 1, 3] rfl ?_
    exact t_Rf_overBy_J13 h hE
  · replace h := aw_ifn c3 h
    refine aw_iconst (pc := 8) (v := 1) dX12_overBy_8 (by decide) ?_
    refine aw_goto (pc := 9) (tgt := 13) dX12_overBy_9 (by decide) ?_
    refine aw_sub [0, 1, 3] rfl ?_
    exact t_Rf_overBy_J13 h hE
theorem c_Rf_overBy {l : Launch} {G : aw_G} {σ : aw_S} {p1 : Int32} {p2 : Int32} {p3 : Int32} {t : Int32} (h : m_Rf_overBy σ p1 p2 p3 = some t) : aw_Ct l yX12_overBy M_Rf_overBy G B_Rf_overBy [.ref 0, .int p1, .int p2, .int p3] xB σ (some (.int t), xB, σ) := aw_Ct_of (by decide) rfl (fun h => by cases h) (Nat.le_of_ble_eq_true rfl) (t_Rf_overBy h rfl)
/-! LateMoverModel.isFew(II)Z -/
def z_Rf_isFew_X2 (l : Launch) (G : aw_G) (E : aw_E) (v1 : Int32) (v2 : Int32) (s : Int32 × aw_S) : Prop := aw_W l M_Rf_isFew G B_Rf_isFew E 2 [(0, .ref 0), (1, .int v1), (2, .int v2), (3, .int s.1)] [] xB s.2 0 0
def z_Rf_isFew_Y2 (l : Launch) (G : aw_G) (E : aw_E) (v1 : Int32) (v2 : Int32) (x : (aw_S)) : Prop := aw_W l M_Rf_isFew G B_Rf_isFew E 25 [(0, .ref 0), (1, .int v1), (2, .int v2)] [] xB x 0 0
def z_Rf_isFew_X43 (l : Launch) (G : aw_G) (E : aw_E) (v1 : Int32) (v2 : Int32) (s : Int32 × Int32 × aw_S) : Prop := aw_W l M_Rf_isFew G B_Rf_isFew E 43 [(0, .ref 0), (1, .int v1), (2, .int v2), (3, .int s.1), (4, .int s.2.1)] [] xB s.2.2 0 0
def z_Rf_isFew_Y43 (l : Launch) (G : aw_G) (E : aw_E) (v1 : Int32) (v2 : Int32) (x : (Int32 × aw_S)) : Prop := aw_W l M_Rf_isFew G B_Rf_isFew E 172 [(0, .ref 0), (3, .int x.1)] [] xB x.2 0 0
def z_Rf_isFew_X61 (l : Launch) (G : aw_G) (E : aw_E) (v1 : Int32) (v2 : Int32) (v4 : Int32) (s : Int32 × Int32 × aw_S) : Prop := aw_W l M_Rf_isFew G B_Rf_isFew E 61 [(0, .ref 0), (1, .int v1), (2, .int v2), (3, .int s.1), (4, .int v4), (5, .int s.2.1)] [] xB s.2.2 0 0
def z_Rf_isFew_Y61 (l : Launch) (G : aw_G) (E : aw_E) (v1 : Int32) (v2 : Int32) (v4 : Int32) (x : (Int32 × aw_S)) : Prop := aw_W l M_Rf_isFew G B_Rf_isFew E 166 [(0, .ref 0), (1, .int v1), (2, .int v2), (3, .int x.1), (4, .int v4)] [] xB x.2 0 0
def z_Rf_isFew_X181 (l : Launch) (G : aw_G) (E : aw_E) (σ : aw_S) (s : Int32) : Prop := aw_W l M_Rf_isFew G B_Rf_isFew E 181 [(0, .ref 0), (4, .int s)] [] xB σ 0 0
def z_Rf_isFew_Y181 (l : Launch) (G : aw_G) (E : aw_E) (σ : aw_S) (x : (((Int32 × aw_S)) ⊕ (Unit))) : Prop := (Sum.elim (fun r0 => E = (some (.int r0.1), xB, r0.2)) (fun r1 => aw_W l M_Rf_isFew G B_Rf_isFew E 217 [] [] xB σ 0 0)) x
set_option maxRecDepth 100000 in
set_option maxHeartbeats 4000000 in
theorem t_Rf_isFew_B2 {l : Launch} {G : aw_G} {E : aw_E} {σ : aw_S} {v1 : Int32} {v2 : Int32} {v3 : Int32} {t : (aw_S) ⊕ (Int32 × aw_S)} (h : m_Rf_isFew_B2 σ v1 v2 v3 = some t) (hz : Sum.elim (z_Rf_isFew_Y2 l G E v1 v2) (z_Rf_isFew_X2 l G E v1 v2) t) : aw_W l M_Rf_isFew G B_Rf_isFew E 2 [(0, .ref 0), (1, .int v1), (2, .int v2), (3, .int v3)] [] xB σ 0 0 := by
  unfold m_Rf_isFew_B2 at h
  refine aw_iload_n (pc := 2) (q := 3) dX12_isFew_2 rfl ?_
  refine aw_aload_n (pc := 3) (q := 0) dX12_isFew_3 rfl ?_
  refine aw_getI (pc := 4) fd_X12_215.r xB_0 rfl dX12_isFew_4 ?_
  refine aw_icmp_ge (pc := 7) (tgt := 25) dX12_isFew_7 (by decide) (fun c1 => ?_) (fun c1 => ?_)
  · replace h := aw_ifp c1 h
    refine aw_sub [0, 1, 2] rfl ?_
    cases h
    exact hz
  · replace h := aw_ifn c1 h
    refine aw_aload_n (pc := 10) (q := 0) dX12_isFew_10 rfl ?_
    refine aw_getC (pc := 11) fd_X12_91.r xB_0 rfl dX12_isFew_11 ?_
    refine aw_iload_n (pc := 14) (q := 3) dX12_isFew_14 rfl ?_
    refine aw_sipush (pc := 15) (v := -1000) dX12_isFew_15 (by decide) ?_
    obtain ⟨g2, h⟩ := aw_gde h
    refine aw_iast (pc := 18) xB_26 g2 dX12_isFew_18 ?_
    refine aw_nmS (fun s3 e_s3 => ?_)
    replace h := aw_lte h s3 e_s3
    obtain ⟨x4, e_x4⟩ : ∃ z, z = (v3 + (1 : Int32)) := ⟨_, rfl⟩
    replace h := aw_lte h x4 e_x4
    refine aw_iinc (pc := 19) (q := 3) (v := x4) [(3, .int x4), (0, .ref 0), (1, .int v1), (2, .int v2)] dX12_isFew_19 rfl e_x4.symm (by decide) rfl ?_
    refine aw_goto (pc := 22) (tgt := 2) dX12_isFew_22 (by decide) ?_
    refine aw_sub [1, 2, 3, 0] rfl ?_
    cases h
    exact hz
set_option maxRecDepth 100000 in
set_option maxHeartbeats 4000000 in
theorem t_Rf_isFew_J160 {l : Launch} {G : aw_G} {E : aw_E} {σ : aw_S} {v1 : Int32} {v2 : Int32} {v3 : Int32} {v4 : Int32} {v5 : Int32} {t : (Int32 × aw_S) ⊕ (Int32 × Int32 × aw_S)} (h : m_Rf_isFew_J160 σ v1 v2 v3 v4 v5 = some t) (hz : Sum.elim (z_Rf_isFew_Y61 l G E v1 v2 v4) (z_Rf_isFew_X61 l G E v1 v2 v4) t) : aw_W l M_Rf_isFew G B_Rf_isFew E 160 [(0, .ref 0), (1, .int v1), (2, .int v2), (3, .int v3), (4, .int v4), (5, .int v5)] [] xB σ 0 0 := by
  unfold m_Rf_isFew_J160 at h
  obtain ⟨x18, e_x18⟩ : ∃ z, z = (v5 + (1 : Int32)) := ⟨_, rfl⟩
  replace h := aw_lte h x18 e_x18
  refine aw_iinc (pc := 160) (q := 5) (v := x18) [(5, .int x18), (0, .ref 0), (1, .int v1), (2, .int v2), (3, .int v3), (4, .int v4)] dX12_isFew_160 rfl e_x18.symm (by decide) rfl ?_
  refine aw_goto (pc := 163) (tgt := 61) dX12_isFew_163 (by decide) ?_
  refine aw_sub [1, 2, 3, 4, 5, 0] rfl ?_
  cases h
  exact hz
set_option maxRecDepth 100000 in
set_option maxHeartbeats 4000000 in
theorem t_Rf_isFew_B61 {l : Launch} {G : aw_G} {E : aw_E} {σ : aw_S} {v1 : Int32} {v2 : Int32} {v4 : Int32} {v3 : Int32} {v5 : Int32} {t : (Int32 × aw_S) ⊕ (Int32 × Int32 × aw_S)} (h : m_Rf_isFew_B61 σ v1 v2 v4 v3 v5 = some t) (hz : Sum.elim (z_Rf_isFew_Y61 l G E v1 v2 v4) (z_Rf_isFew_X61 l G E v1 v2 v4) t) : aw_W l M_Rf_isFew G B_Rf_isFew E 61 [(0, .ref 0), (1, .int v1), (2, .int v2), (3, .int v3), (4, .int v4), (5, .int v5)] [] xB σ 0 0 := by
  unfold m_Rf_isFew_B61 at h
  refine aw_iload (pc := 61) (q := 5) dX12_isFew_61 rfl ?_
  refine aw_iconst (pc := 63) (v := 2) dX12_isFew_63 (by decide) ?_
  refine aw_aload_n (pc := 64) (q := 0) dX12_isFew_64 rfl ?_
  refine aw_getI (pc := 65) fd_X12_215.r xB_0 rfl dX12_isFew_65 ?_
  refine aw_imul (pc := 68) dX12_isFew_68 ?_
  refine aw_icmp_ge (pc := 69) (tgt := 166) dX12_isFew_69 (by decide) (fun c14 => ?_) (fun c14 => ?_)
  · replace h := aw_ifp c14 h
    refine aw_sub [0, 1, 2, 3, 4] rfl ?_
    cases h
    exact hz
  · replace h := aw_ifn c14 h
    refine aw_aload_n (pc := 72) (q := 0) dX12_isFew_72 rfl ?_
    refine aw_getC (pc := 73) fd_X12_33.r xB_0 rfl dX12_isFew_73 ?_
    refine aw_iload (pc := 76) (q := 5) dX12_isFew_76 rfl ?_
    obtain ⟨g15, h⟩ := aw_gde h
    refine aw_iald (pc := 78) xB_7 g15 dX12_isFew_78 ?_
    refine aw_nmI (fun x16 e_x16 => ?_)
    replace h := aw_lte h x16 e_x16
    refine aw_istore (pc := 79) [(6, .int x16), (0, .ref 0), (1, .int v1), (2, .int v2), (3, .int v3), (4, .int v4), (5, .int v5)] dX12_isFew_79 (by decide) rfl ?_
    refine aw_iload (pc := 81) (q := 0) dX12_isFew_81 rfl ?_
    refine aw_iconst (pc := 83) (v := -1) dX12_isFew_83 (by decide) ?_
    refine aw_icmp_eq (pc := 84) (tgt := 160) dX12_isFew_84 (by decide) (fun c17 => ?_) (fun c17 => ?_)
    · replace h := aw_ifp c17 h
      refine aw_sub [1, 2, 3, 4, 5, 6] rfl ?_
      exact t_Rf_isFew_J160 h hz
    · replace h := aw_ifn c17 h
      refine aw_aload_n (pc := 87) (q := 1) dX12_isFew_87 rfl ?_
      refine aw_getC (pc := 88) fd_X12_91.r xB_0 rfl dX12_isFew_88 ?_
      refine aw_iload (pc := 91) (q := 6) dX12_isFew_91 rfl ?_
      refine aw_iconst (pc := 93) (v := 2) dX12_isFew_93 (by decide) ?_
      refine aw_idiv (pc := 94) dX12_isFew_94 (by decide) ?_
      obtain ⟨g19, h⟩ := aw_gde h
      refine aw_iald (pc := 95) xB_26 g19 dX12_isFew_95 ?_
      refine aw_sipush (pc := 96) (v := -1000) dX12_isFew_96 (by decide) ?_
      refine aw_icmp_eq (pc := 99) (tgt := 160) dX12_isFew_99 (by decide) (fun c20 => ?_) (fun c20 => ?_)
      · replace h := aw_ifp c20 h
        refine aw_sub [1, 2, 3, 4, 5, 6] rfl ?_
        exact t_Rf_isFew_J160 h hz
      · replace h := aw_ifn c20 h
        refine aw_aload_n (pc := 102) (q := 1) dX12_isFew_102 rfl ?_
        refine aw_getC (pc := 103) fd_X12_91.r xB_0 rfl dX12_isFew_103 ?_
        refine aw_iload (pc := 106) (q := 6) dX12_isFew_106 rfl ?_
        refine aw_iconst (pc := 108) (v := 2) dX12_isFew_108 (by decide) ?_
        refine aw_idiv (pc := 109) dX12_isFew_109 (by decide) ?_
        obtain ⟨g21, h⟩ := aw_gde h
        refine aw_iald (pc := 110) xB_26 g21 dX12_isFew_110 ?_
        refine aw_aload_n (pc := 111) (q := 1) dX12_isFew_111 rfl ?_
        refine aw_iload_n (pc := 112) (q := 2) dX12_isFew_112 rfl ?_
        refine aw_iload_n (pc := 113) (q := 3) dX12_isFew_113 rfl ?_
        refine aw_iload (pc := 114) (q := 0) dX12_isFew_114 rfl ?_
        obtain ⟨r22, e23, h⟩ := aw_bde h
        refine aw_cV1 (pc := 116) [.int v1, .int v2, .int x16] (c_Rf_overBy e23) yy_Rf_overBy.1 wm_1417 yy_Rf_overBy.2.1 yy_Rf_overBy.2.2 xB_0 ⟨_, _, rfl⟩ rfl ⟨Nat.le_of_ble_eq_true rfl, Nat.le_of_ble_eq_true rfl⟩ ⟨Nat.zero_le _, Nat.zero_le _⟩ (Nat.le_of_ble_eq_true rfl) dX12_isFew_116 ?_
        refine aw_iadd (pc := 119) dX12_isFew_119 ?_
        refine aw_aload_n (pc := 120) (q := 1) dX12_isFew_120 rfl ?_
        refine aw_getC (pc := 121) fd_X12_91.r xB_0 rfl dX12_isFew_121 ?_
        refine aw_iload (pc := 124) (q := 0) dX12_isFew_124 rfl ?_
        obtain ⟨g24, h⟩ := aw_gde h
        refine aw_iald (pc := 126) xB_26 g24 dX12_isFew_126 ?_
        refine aw_icmp_gt (pc := 127) (tgt := 133) dX12_isFew_127 (by decide) (fun c25 => ?_) (fun c25 => ?_)
        · replace h := aw_ifp c25 h
          refine aw_aload_n (pc := 133) (q := 1) dX12_isFew_133 rfl ?_
          refine aw_getC (pc := 134) fd_X12_91.r xB_0 rfl dX12_isFew_134 ?_
          refine aw_iload (pc := 137) (q := 0) dX12_isFew_137 rfl ?_
          refine aw_aload_n (pc := 139) (q := 1) dX12_isFew_139 rfl ?_
          refine aw_getC (pc := 140) fd_X12_91.r xB_0 rfl dX12_isFew_140 ?_
          refine aw_iload (pc := 143) (q := 6) dX12_isFew_143 rfl ?_
          refine aw_iconst (pc := 145) (v := 2) dX12_isFew_145 (by decide) ?_
          refine aw_idiv (pc := 146) dX12_isFew_146 (by decide) ?_
          obtain ⟨g26, h⟩ := aw_gde h
          refine aw_iald (pc := 147) xB_26 g26 dX12_isFew_147 ?_
          refine aw_aload_n (pc := 148) (q := 1) dX12_isFew_148 rfl ?_
          refine aw_iload_n (pc := 149) (q := 2) dX12_isFew_149 rfl ?_
          refine aw_iload_n (pc := 150) (q := 3) dX12_isFew_150 rfl ?_
          refine aw_iload (pc := 151) (q := 0) dX12_isFew_151 rfl ?_
          obtain ⟨r27, e28, h⟩ := aw_bde h
          refine aw_cV1 (pc := 153) [.int v1, .int v2, .int x16] (c_Rf_overBy e28) yy_Rf_overBy.1 wm_1417 yy_Rf_overBy.2.1 yy_Rf_overBy.2.2 xB_0 ⟨_, _, rfl⟩ rfl ⟨Nat.le_of_ble_eq_true rfl, Nat.le_of_ble_eq_true rfl⟩ ⟨Nat.zero_le _, Nat.zero_le _⟩ (Nat.le_of_ble_eq_true rfl) dX12_isFew_153 ?_
          refine aw_iadd (pc := 156) dX12_isFew_156 ?_
          obtain ⟨g29, h⟩ := aw_gde h
          refine aw_iast (pc := 157) xB_26 g29 dX12_isFew_157 ?_
          refine aw_nmS (fun s30 e_s30 => ?_)
          replace h := aw_lte h s30 e_s30
          refine aw_iconst (pc := 158) (v := 1) dX12_isFew_158 (by decide) ?_
          refine aw_istore_n (pc := 159) [(3, .int ((1 : Int32))), (6, .int x16), (0, .ref 0), (1, .int v1), (2, .int v2), (4, .int v4), (5, .int v5)] dX12_isFew_159 (by decide) rfl ?_
          refine aw_sub [2, 3, 4, 0, 5, 6] rfl ?_
          exact t_Rf_isFew_J160 h hz
        · replace h := aw_ifn c25 h
          refine aw_goto (pc := 130) (tgt := 160) dX12_isFew_130 (by decide) ?_
          refine aw_sub [1, 2, 3, 4, 5, 6] rfl ?_
          exact t_Rf_isFew_J160 h hz
set_option maxRecDepth 100000 in
set_option maxHeartbeats 4000000 in
theorem t_Rf_isFew_B43 {l : Launch} {G : aw_G} {E : aw_E} {σ : aw_S} {v1 : Int32} {v2 : Int32} {v3 : Int32} {v4 : Int32} {t : (Int32 × aw_S) ⊕ (Int32 × Int32 × aw_S)} (h : m_Rf_isFew_B43 σ v1 v2 v3 v4 = some t) (hz : Sum.elim (z_Rf_isFew_Y43 l G E v1 v2) (z_Rf_isFew_X43 l G E v1 v2) t) : aw_W l M_Rf_isFew G B_Rf_isFew E 43 [(0, .ref 0), (1, .int v1), (2, .int v2), (3, .int v3), (4, .int v4)] [] xB σ 0 0 := by
  unfold m_Rf_isFew_B43 at h
  refine aw_iload (pc := 43) (q := 4) dX12_isFew_43 rfl ?_
  refine aw_aload_n (pc := 45) (q := 0) dX12_isFew_45 rfl ?_
  refine aw_getI (pc := 46) fd_X12_215.r xB_0 rfl dX12_isFew_46 ?_
  refine aw_icmp_gt (pc := 49) (tgt := 172) dX12_isFew_49 (by decide) (fun c12 => ?_) (fun c12 => ?_)
  · replace h := aw_ifp c12 h
    refine aw_sub [0, 3] rfl ?_
    cases h
    exact hz
  · replace h := aw_ifn c12 h
    refine aw_iload_n (pc := 52) (q := 3) dX12_isFew_52 rfl ?_
    refine aw_if_eq (pc := 53) (tgt := 172) dX12_isFew_53 (by decide) (fun c13 => ?_) (fun c13 => ?_)
    · replace h := aw_ifp c13 h
      refine aw_sub [0, 3] rfl ?_
      cases h
      exact hz
    · replace h := aw_ifn c13 h
      refine aw_iconst (pc := 56) (v := 0) dX12_isFew_56 (by decide) ?_
      refine aw_istore_n (pc := 57) [(3, .int ((0 : Int32))), (0, .ref 0), (1, .int v1), (2, .int v2), (4, .int v4)] dX12_isFew_57 (by decide) rfl ?_
      refine aw_iconst (pc := 58) (v := 0) dX12_isFew_58 (by decide) ?_
      refine aw_istore (pc := 59) [(5, .int ((0 : Int32))), (3, .int ((0 : Int32))), (0, .ref 0), (1, .int v1), (2, .int v2), (4, .int v4)] dX12_isFew_59 (by decide) rfl ?_
      obtain ⟨x31, hl32, h⟩ := aw_bde h
      have K33 : z_Rf_isFew_Y61 l G E v1 v2 v4 x31 := by
        show aw_W l M_Rf_isFew G B_Rf_isFew E 166 [(0, .ref 0), (1, .int v1), (2, .int v2), (3, .int x31.1), (4, .int v4)] [] xB x31.2 0 0
        obtain ⟨x34, e_x34⟩ : ∃ z, z = (v4 + (1 : Int32)) := ⟨_, rfl⟩
        replace h := aw_lte h x34 e_x34
        refine aw_iinc (pc := 166) (q := 4) (v := x34) [(4, .int x34), (0, .ref 0), (1, .int v1), (2, .int v2), (3, .int x31.1)] dX12_isFew_166 rfl e_x34.symm (by decide) rfl ?_
        refine aw_goto (pc := 169) (tgt := 43) dX12_isFew_169 (by decide) ?_
        refine aw_sub [1, 2, 3, 4, 0] rfl ?_
        cases h
        exact hz
      refine aw_sub [2, 3, 4, 1, 5, 0] rfl ?_
      show z_Rf_isFew_X61 l G E v1 v2 v4 (((0 : Int32), (0 : Int32), σ))
      exact aw_lp_X (Xp := z_Rf_isFew_X61 l G E v1 v2 v4) (Y := z_Rf_isFew_Y61 l G E v1 v2 v4) hl32 K33 (fun s t hf hz => t_Rf_isFew_B61 hf hz)
set_option maxRecDepth 100000 in
set_option maxHeartbeats 4000000 in
theorem t_Rf_isFew_J211 {l : Launch} {G : aw_G} {E : aw_E} {σ : aw_S} {v4 : Int32} {t : (((Int32 × aw_S)) ⊕ (Unit)) ⊕ Int32} (h : m_Rf_isFew_J211 σ v4 = some t) (hz : Sum.elim (z_Rf_isFew_Y181 l G E σ) (z_Rf_isFew_X181 l G E σ) t) : aw_W l M_Rf_isFew G B_Rf_isFew E 211 [(0, .ref 0), (4, .int v4)] [] xB σ 0 0 := by
  unfold m_Rf_isFew_J211 at h
  obtain ⟨x43, e_x43⟩ : ∃ z, z = (v4 + (1 : Int32)) := ⟨_, rfl⟩
  replace h := aw_lte h x43 e_x43
  refine aw_iinc (pc := 211) (q := 1) (v := x43) [(4, .int x43), (0, .ref 0)] dX12_isFew_211 rfl e_x43.symm (by decide) rfl ?_
  refine aw_goto (pc := 214) (tgt := 181) dX12_isFew_214 (by decide) ?_
  refine aw_sub [1, 0] rfl ?_
  cases h
  exact hz
set_option maxRecDepth 100000 in
set_option maxHeartbeats 4000000 in
theorem t_Rf_isFew_B181 {l : Launch} {G : aw_G} {E : aw_E} {σ : aw_S} {v4 : Int32} {t : (((Int32 × aw_S)) ⊕ (Unit)) ⊕ Int32} (h : m_Rf_isFew_B181 σ v4 = some t) (hz : Sum.elim (z_Rf_isFew_Y181 l G E σ) (z_Rf_isFew_X181 l G E σ) t) : aw_W l M_Rf_isFew G B_Rf_isFew E 181 [(0, .ref 0), (4, .int v4)] [] xB σ 0 0 := by
  unfold m_Rf_isFew_B181 at h
  refine aw_iload (pc := 181) (q := 1) dX12_isFew_181 rfl ?_
  refine aw_aload_n (pc := 183) (q := 0) dX12_isFew_183 rfl ?_
  refine aw_getI (pc := 184) fd_X12_215.r xB_0 rfl dX12_isFew_184 ?_
  refine aw_icmp_ge (pc := 187) (tgt := 217) dX12_isFew_187 (by decide) (fun c39 => ?_) (fun c39 => ?_)
  · replace h := aw_ifp c39 h
    refine aw_sub [] rfl ?_
    cases h
    exact hz
  · replace h := aw_ifn c39 h
    refine aw_aload_n (pc := 190) (q := 0) dX12_isFew_190 rfl ?_
    refine aw_iload (pc := 191) (q := 1) dX12_isFew_191 rfl ?_
    obtain ⟨r40, e41, h⟩ := aw_bde h
    refine aw_cV1 (pc := 193) [.int v4] (c_Rf_isLast e41) yy_Rf_isLast.1 wm_764 yy_Rf_isLast.2.1 yy_Rf_isLast.2.2 xB_0 ⟨_, _, rfl⟩ rfl ⟨Nat.le_of_ble_eq_true rfl, Nat.le_of_ble_eq_true rfl⟩ ⟨Nat.zero_le _, Nat.zero_le _⟩ (Nat.le_of_ble_eq_true rfl) dX12_isFew_193 ?_
    refine aw_if_eq (pc := 196) (tgt := 211) dX12_isFew_196 (by decide) (fun c42 => ?_) (fun c42 => ?_)
    · replace h := aw_ifp c42 h
      exact t_Rf_isFew_J211 h hz
    · replace h := aw_ifn c42 h
      refine aw_aload_n (pc := 199) (q := 0) dX12_isFew_199 rfl ?_
      refine aw_getC (pc := 200) fd_X12_91.r xB_0 rfl dX12_isFew_200 ?_
      refine aw_iload (pc := 203) (q := 1) dX12_isFew_203 rfl ?_
      obtain ⟨g44, h⟩ := aw_gde h
      refine aw_iald (pc := 205) xB_26 g44 dX12_isFew_205 ?_
      refine aw_if_le (pc := 206) (tgt := 211) dX12_isFew_206 (by decide) (fun c45 => ?_) (fun c45 => ?_)
      · replace h := aw_ifp c45 h
        exact t_Rf_isFew_J211 h hz
      · replace h := aw_ifn c45 h
        refine aw_iconst (pc := 209) (v := 0) dX12_isFew_209 (by decide) ?_
        cases h
        have hE : E = _ := hz
        subst hE
        exact aw_iret (v := (0 : Int32)) rfl aw_n0 ⟨Nat.zero_le _, Nat.zero_le _⟩ dX12_isFew_210
set_option maxRecDepth 100000 in
set_option maxHeartbeats 4000000 in
theorem t_Rf_isFew {l : Launch} {G : aw_G} {E : aw_E} {σ : aw_S} {p1 : Int32} {p2 : Int32} {t : (Int32 × aw_S)} (h : m_Rf_isFew σ p1 p2 = some t) (hE : E = (some (.int t.1), xB, t.2)) : aw_W l M_Rf_isFew G B_Rf_isFew E 0 [(0, .ref 0), (1, .int p1), (2, .int p2)] [] xB σ 0 0 := by
  unfold m_Rf_isFew at h
  refine aw_iconst (pc := 0) (v := 0) dX12_isFew_0 (by decide) ?_
  refine aw_istore_n (pc := 1) [(3, .int ((0 : Int32))), (0, .ref 0), (1, .int p1), (2, .int p2)] dX12_isFew_1 (by decide) rfl ?_
  obtain ⟨x5, hl6, h⟩ := aw_bde h
  have K7 : z_Rf_isFew_Y2 l G E p1 p2 x5 := by
    show aw_W l M_Rf_isFew G B_Rf_isFew E 25 [(0, .ref 0), (1, .int p1), (2, .int p2)] [] xB x5 0 0
    refine aw_aload_n (pc := 25) (q := 0) dX12_isFew_25 rfl ?_
    refine aw_getC (pc := 26) fd_X12_91.r xB_0 rfl dX12_isFew_26 ?_
    refine aw_iconst (pc := 29) (v := 0) dX12_isFew_29 (by decide) ?_
    refine aw_aload_n (pc := 30) (q := 0) dX12_isFew_30 rfl ?_
    refine aw_iload_n (pc := 31) (q := 1) dX12_isFew_31 rfl ?_
    refine aw_iload_n (pc := 32) (q := 2) dX12_isFew_32 rfl ?_
    refine aw_iconst (pc := 33) (v := 0) dX12_isFew_33 (by decide) ?_
    obtain ⟨r8, e9, h⟩ := aw_bde h
    refine aw_cV1 (pc := 34) [.int p1, .int p2, .int ((0 : Int32))] (c_Rf_overBy e9) yy_Rf_overBy.1 wm_1417 yy_Rf_overBy.2.1 yy_Rf_overBy.2.2 xB_0 ⟨_, _, rfl⟩ rfl ⟨Nat.le_of_ble_eq_true rfl, Nat.le_of_ble_eq_true rfl⟩ ⟨Nat.zero_le _, Nat.zero_le _⟩ (Nat.le_of_ble_eq_true rfl) dX12_isFew_34 ?_
    obtain ⟨g10, h⟩ := aw_gde h
    refine aw_iast (pc := 37) xB_26 g10 dX12_isFew_37 ?_
    refine aw_nmS (fun s11 e_s11 => ?_)
    replace h := aw_lte h s11 e_s11
    refine aw_iconst (pc := 38) (v := 1) dX12_isFew_38 (by decide) ?_
    refine aw_istore_n (pc := 39) [(3, .int ((1 : Int32))), (0, .ref 0), (1, .int p1), (2, .int p2)] dX12_isFew_39 (by decide) rfl ?_
    refine aw_iconst (pc := 40) (v := 0) dX12_isFew_40 (by decide) ?_
    refine aw_istore (pc := 41) [(4, .int ((0 : Int32))), (3, .int ((1 : Int32))), (0, .ref 0), (1, .int p1), (2, .int p2)] dX12_isFew_41 (by decide) rfl ?_
    obtain ⟨x35, hl36, h⟩ := aw_bde h
    have K37 : z_Rf_isFew_Y43 l G E p1 p2 x35 := by
      show aw_W l M_Rf_isFew G B_Rf_isFew E 172 [(0, .ref 0), (3, .int x35.1)] [] xB x35.2 0 0
      refine aw_iload_n (pc := 172) (q := 1) dX12_isFew_172 rfl ?_
      refine aw_if_eq (pc := 173) (tgt := 178) dX12_isFew_173 (by decide) (fun c38 => ?_) (fun c38 => ?_)
      · replace h := aw_ifp c38 h
        refine aw_iconst (pc := 178) (v := 0) dX12_isFew_178 (by decide) ?_
        refine aw_istore (pc := 179) [(4, .int ((0 : Int32))), (0, .ref 0), (3, .int x35.1)] dX12_isFew_179 (by decide) rfl ?_
        obtain ⟨x46, hl47, h⟩ := aw_bde h
        have K48 : z_Rf_isFew_Y181 l G E x35.2 x46 := by
          cases x46 with
          | inl y49 =>
            replace h := aw_eL h
            show E = _
            cases h
            exact hE
          | inr y50 =>
            replace h := aw_eR h
            show aw_W l M_Rf_isFew G B_Rf_isFew E 217 [] [] xB x35.2 0 0
            refine aw_iconst (pc := 217) (v := 1) dX12_isFew_217 (by decide) ?_
            cases h
            subst hE
            exact aw_iret (v := (1 : Int32)) rfl aw_n1 ⟨Nat.zero_le _, Nat.zero_le _⟩ dX12_isFew_218
        refine aw_sub [1, 0] rfl ?_
        show z_Rf_isFew_X181 l G E x35.2 ((0 : Int32))
        exact aw_lp_X (Xp := z_Rf_isFew_X181 l G E x35.2) (Y := z_Rf_isFew_Y181 l G E x35.2) hl47 K48 (fun s t hf hz => t_Rf_isFew_B181 hf hz)
      · replace h := aw_ifn c38 h
        refine aw_iconst (pc := 176) (v := 0) dX12_isFew_176 (by decide) ?_
        cases h
        subst hE
        exact aw_iret (v := (0 : Int32)) rfl aw_n0 ⟨Nat.zero_le _, Nat.zero_le _⟩ dX12_isFew_177
    refine aw_sub [2, 3, 4, 1, 0] rfl ?_
    show z_Rf_isFew_X43 l G E p1 p2 (((1 : Int32), (0 : Int32), s11))
    exact aw_lp_X (Xp := z_Rf_isFew_X43 l G E p1 p2) (Y := z_Rf_isFew_Y43 l G E p1 p2) hl36 K37 (fun s t hf hz => t_Rf_isFew_B43 hf hz)
  refine aw_sub [1, 2, 3, 0] rfl ?_
  show z_Rf_isFew_X2 l G E p1 p2 (((0 : Int32), σ))
  exact aw_lp_X (Xp := z_Rf_isFew_X2 l G E p1 p2) (Y := z_Rf_isFew_Y2 l G E p1 p2) hl6 K7 (fun s t hf hz => t_Rf_isFew_B2 hf hz)
theorem c_Rf_isFew {l : Launch} {G : aw_G} {σ : aw_S} {p1 : Int32} {p2 : Int32} {t : (Int32 × aw_S)} (h : m_Rf_isFew σ p1 p2 = some t) : aw_Ct l yX12_isFew M_Rf_isFew G B_Rf_isFew [.ref 0, .int p1, .int p2] xB σ (some (.int t.1), xB, t.2) := aw_Ct_of (by decide) rfl (fun h => by cases h) (Nat.le_of_ble_eq_true rfl) (t_Rf_isFew h rfl)
/-! LateMoverModel.lifeOf(II)I -/
def z_Rf_lifeOf_X2 (l : Launch) (G : aw_G) (E : aw_E) (v1 : Int32) (v2 : Int32) (s : Int32 × aw_S) : Prop := aw_W l M_Rf_lifeOf G B_Rf_lifeOf E 2 [(0, .ref 0), (1, .int v1), (2, .int v2), (3, .int s.1)] [] xB s.2 0 0
def z_Rf_lifeOf_Y2 (l : Launch) (G : aw_G) (E : aw_E) (v1 : Int32) (v2 : Int32) (x : (aw_S)) : Prop := aw_W l M_Rf_lifeOf G B_Rf_lifeOf E 29 [(0, .ref 0), (2, .int v2)] [] xB x 0 0
def z_Rf_lifeOf_X31 (l : Launch) (G : aw_G) (E : aw_E) (v2 : Int32) (s : Int32 × aw_S) : Prop := aw_W l M_Rf_lifeOf G B_Rf_lifeOf E 31 [(0, .ref 0), (2, .int v2), (3, .int s.1)] [] xB s.2 0 0
def z_Rf_lifeOf_Y31 (l : Launch) (G : aw_G) (E : aw_E) (v2 : Int32) (x : (aw_S)) : Prop := aw_W l M_Rf_lifeOf G B_Rf_lifeOf E 121 [(0, .ref 0)] [] xB x 0 0
def z_Rf_lifeOf_X40 (l : Launch) (G : aw_G) (E : aw_E) (v2 : Int32) (s : Int32 × Int32 × aw_S) : Prop := aw_W l M_Rf_lifeOf G B_Rf_lifeOf E 40 [(0, .ref 0), (2, .int v2), (3, .int s.1), (4, .int s.2.1)] [] xB s.2.2 0 0
def z_Rf_lifeOf_Y40 (l : Launch) (G : aw_G) (E : aw_E) (v2 : Int32) (x : (Int32 × aw_S)) : Prop := aw_W l M_Rf_lifeOf G B_Rf_lifeOf E 118 [(0, .ref 0), (2, .int v2), (3, .int x.1)] [] xB x.2 0 0
def z_Rf_lifeOf_X127 (l : Launch) (G : aw_G) (E : aw_E) (σ : aw_S) (s : Int32 × Int32) : Prop := aw_W l M_Rf_lifeOf G B_Rf_lifeOf E 127 [(0, .ref 0), (4, .int s.1), (5, .int s.2)] [] xB σ 0 0
def z_Rf_lifeOf_Y127 (l : Launch) (G : aw_G) (E : aw_E) (σ : aw_S) (x : (Int32)) : Prop := aw_W l M_Rf_lifeOf G B_Rf_lifeOf E 162 [(4, .int x)] [] xB σ 0 0
set_option maxRecDepth 100000 in
set_option maxHeartbeats 4000000 in
theorem t_Rf_lifeOf_B2 {l : Launch} {G : aw_G} {E : aw_E} {σ : aw_S} {v1 : Int32} {v2 : Int32} {v3 : Int32} {t : (aw_S) ⊕ (Int32 × aw_S)} (h : m_Rf_lifeOf_B2 σ v1 v2 v3 = some t) (hz : Sum.elim (z_Rf_lifeOf_Y2 l G E v1 v2) (z_Rf_lifeOf_X2 l G E v1 v2) t) : aw_W l M_Rf_lifeOf G B_Rf_lifeOf E 2 [(0, .ref 0), (1, .int v1), (2, .int v2), (3, .int v3)] [] xB σ 0 0 := by
  unfold m_Rf_lifeOf_B2 at h
  refine aw_iload_n (pc := 2) (q := 3) dX12_lifeOf_2 rfl ?_
  refine aw_aload_n (pc := 3) (q := 0) dX12_lifeOf_3 rfl ?_
  refine aw_getI (pc := 4) fd_X12_215.r xB_0 rfl dX12_lifeOf_4 ?_
  refine aw_icmp_ge (pc := 7) (tgt := 29) dX12_lifeOf_7 (by decide) (fun c1 => ?_) (fun c1 => ?_)
  · replace h := aw_ifp c1 h
    refine aw_sub [0, 2] rfl ?_
    cases h
    exact hz
  · replace h := aw_ifn c1 h
    refine aw_aload_n (pc := 10) (q := 0) dX12_lifeOf_10 rfl ?_
    refine aw_getC (pc := 11) fd_X12_88.r xB_0 rfl dX12_lifeOf_11 ?_
    refine aw_iload_n (pc := 14) (q := 3) dX12_lifeOf_14 rfl ?_
    refine aw_aload_n (pc := 15) (q := 0) dX12_lifeOf_15 rfl ?_
    refine aw_iconst (pc := 16) (v := 0) dX12_lifeOf_16 (by decide) ?_
    refine aw_iload_n (pc := 17) (q := 1) dX12_lifeOf_17 rfl ?_
    refine aw_iload_n (pc := 18) (q := 3) dX12_lifeOf_18 rfl ?_
    obtain ⟨r2, e3, h⟩ := aw_bde h
    refine aw_cV1 (pc := 19) [.int ((0 : Int32)), .int v1, .int v3] (c_Rf_so e3) yy_Rf_so.1 wm_803 yy_Rf_so.2.1 yy_Rf_so.2.2 xB_0 ⟨_, _, rfl⟩ rfl ⟨Nat.le_of_ble_eq_true rfl, Nat.le_of_ble_eq_true rfl⟩ ⟨Nat.zero_le _, Nat.zero_le _⟩ (Nat.le_of_ble_eq_true rfl) dX12_lifeOf_19 ?_
    obtain ⟨g4, h⟩ := aw_gde h
    refine aw_zast (pc := 22) xB_25 g4 dX12_lifeOf_22 ?_
    refine aw_nmS (fun s5 e_s5 => ?_)
    replace h := aw_lte h s5 e_s5
    obtain ⟨x6, e_x6⟩ : ∃ z, z = (v3 + (1 : Int32)) := ⟨_, rfl⟩
    replace h := aw_lte h x6 e_x6
    refine aw_iinc (pc := 23) (q := 3) (v := x6) [(3, .int x6), (0, .ref 0), (1, .int v1), (2, .int v2)] dX12_lifeOf_23 rfl e_x6.symm (by decide) rfl ?_
    refine aw_goto (pc := 26) (tgt := 2) dX12_lifeOf_26 (by decide) ?_
    refine aw_sub [1, 2, 3, 0] rfl ?_
    cases h
    exact hz
set_option maxRecDepth 100000 in
set_option maxHeartbeats 4000000 in
theorem t_Rf_lifeOf_J112 {l : Launch} {G : aw_G} {E : aw_E} {σ : aw_S} {v2 : Int32} {v3 : Int32} {v4 : Int32} {t : (Int32 × aw_S) ⊕ (Int32 × Int32 × aw_S)} (h : m_Rf_lifeOf_J112 σ v2 v3 v4 = some t) (hz : Sum.elim (z_Rf_lifeOf_Y40 l G E v2) (z_Rf_lifeOf_X40 l G E v2) t) : aw_W l M_Rf_lifeOf G B_Rf_lifeOf E 112 [(0, .ref 0), (2, .int v2), (3, .int v3), (4, .int v4)] [] xB σ 0 0 := by
  unfold m_Rf_lifeOf_J112 at h
  obtain ⟨x15, e_x15⟩ : ∃ z, z = (v4 + (1 : Int32)) := ⟨_, rfl⟩
  replace h := aw_lte h x15 e_x15
  refine aw_iinc (pc := 112) (q := 3) (v := x15) [(4, .int x15), (0, .ref 0), (2, .int v2), (3, .int v3)] dX12_lifeOf_112 rfl e_x15.symm (by decide) rfl ?_
  refine aw_goto (pc := 115) (tgt := 40) dX12_lifeOf_115 (by decide) ?_
  refine aw_sub [1, 2, 3, 0] rfl ?_
  cases h
  exact hz
set_option maxRecDepth 100000 in
set_option maxHeartbeats 4000000 in
theorem t_Rf_lifeOf_B40 {l : Launch} {G : aw_G} {E : aw_E} {σ : aw_S} {v2 : Int32} {v3 : Int32} {v4 : Int32} {t : (Int32 × aw_S) ⊕ (Int32 × Int32 × aw_S)} (h : m_Rf_lifeOf_B40 σ v2 v3 v4 = some t) (hz : Sum.elim (z_Rf_lifeOf_Y40 l G E v2) (z_Rf_lifeOf_X40 l G E v2) t) : aw_W l M_Rf_lifeOf G B_Rf_lifeOf E 40 [(0, .ref 0), (2, .int v2), (3, .int v3), (4, .int v4)] [] xB σ 0 0 := by
  unfold m_Rf_lifeOf_B40 at h
  refine aw_iload (pc := 40) (q := 3) dX12_lifeOf_40 rfl ?_
  refine aw_iconst (pc := 42) (v := 2) dX12_lifeOf_42 (by decide) ?_
  refine aw_aload_n (pc := 43) (q := 0) dX12_lifeOf_43 rfl ?_
  refine aw_getI (pc := 44) fd_X12_215.r xB_0 rfl dX12_lifeOf_44 ?_
  refine aw_imul (pc := 47) dX12_lifeOf_47 ?_
  refine aw_icmp_ge (pc := 48) (tgt := 118) dX12_lifeOf_48 (by decide) (fun c11 => ?_) (fun c11 => ?_)
  · replace h := aw_ifp c11 h
    refine aw_sub [0, 1, 2] rfl ?_
    cases h
    exact hz
  · replace h := aw_ifn c11 h
    refine aw_aload_n (pc := 51) (q := 0) dX12_lifeOf_51 rfl ?_
    refine aw_getC (pc := 52) fd_X12_33.r xB_0 rfl dX12_lifeOf_52 ?_
    refine aw_iload (pc := 55) (q := 3) dX12_lifeOf_55 rfl ?_
    obtain ⟨g12, h⟩ := aw_gde h
    refine aw_iald (pc := 57) xB_7 g12 dX12_lifeOf_57 ?_
    refine aw_nmI (fun x13 e_x13 => ?_)
    replace h := aw_lte h x13 e_x13
    refine aw_istore (pc := 58) [(5, .int x13), (0, .ref 0), (2, .int v2), (3, .int v3), (4, .int v4)] dX12_lifeOf_58 (by decide) rfl ?_
    refine aw_iload (pc := 60) (q := 0) dX12_lifeOf_60 rfl ?_
    refine aw_iconst (pc := 62) (v := -1) dX12_lifeOf_62 (by decide) ?_
    refine aw_icmp_eq (pc := 63) (tgt := 112) dX12_lifeOf_63 (by decide) (fun c14 => ?_) (fun c14 => ?_)
    · replace h := aw_ifp c14 h
      refine aw_sub [1, 2, 3, 4] rfl ?_
      exact t_Rf_lifeOf_J112 h hz
    · replace h := aw_ifn c14 h
      refine aw_aload_n (pc := 66) (q := 1) dX12_lifeOf_66 rfl ?_
      refine aw_getC (pc := 67) fd_X12_88.r xB_0 rfl dX12_lifeOf_67 ?_
      refine aw_iload (pc := 70) (q := 4) dX12_lifeOf_70 rfl ?_
      refine aw_iconst (pc := 72) (v := 2) dX12_lifeOf_72 (by decide) ?_
      refine aw_idiv (pc := 73) dX12_lifeOf_73 (by decide) ?_
      obtain ⟨g16, h⟩ := aw_gde h
      refine aw_zald (pc := 74) xB_25 g16 dX12_lifeOf_74 ?_
      refine aw_if_ne (pc := 75) (tgt := 112) dX12_lifeOf_75 (by decide) (fun c17 => ?_) (fun c17 => ?_)
      · replace h := aw_ifn c17 h
        refine aw_sub [1, 2, 3, 4] rfl ?_
        exact t_Rf_lifeOf_J112 h hz
      · replace h := aw_ifp c17 h
        refine aw_iload_n (pc := 78) (q := 2) dX12_lifeOf_78 rfl ?_
        refine aw_iload (pc := 79) (q := 0) dX12_lifeOf_79 rfl ?_
        obtain ⟨r18, e19, h⟩ := aw_bde h
        refine aw_cS1 (pc := 81) [.int v2, .int x13] (c_Rf_has e19) yy_Rf_has.1 wm_1410 yy_Rf_has.2 rfl ⟨Nat.le_of_ble_eq_true rfl, Nat.le_of_ble_eq_true rfl⟩ ⟨Nat.zero_le _, Nat.zero_le _⟩ (Nat.le_of_ble_eq_true rfl) dX12_lifeOf_81 ?_
        refine aw_if_ne (pc := 84) (tgt := 112) dX12_lifeOf_84 (by decide) (fun c20 => ?_) (fun c20 => ?_)
        · replace h := aw_ifn c20 h
          refine aw_sub [1, 2, 3, 4] rfl ?_
          exact t_Rf_lifeOf_J112 h hz
        · replace h := aw_ifp c20 h
          refine aw_aload_n (pc := 87) (q := 1) dX12_lifeOf_87 rfl ?_
          refine aw_getC (pc := 88) fd_X12_88.r xB_0 rfl dX12_lifeOf_88 ?_
          refine aw_iload (pc := 91) (q := 0) dX12_lifeOf_91 rfl ?_
          obtain ⟨g21, h⟩ := aw_gde h
          refine aw_zald (pc := 93) xB_25 g21 dX12_lifeOf_93 ?_
          refine aw_if_ne (pc := 94) (tgt := 100) dX12_lifeOf_94 (by decide) (fun c22 => ?_) (fun c22 => ?_)
          · replace h := aw_ifn c22 h
            refine aw_aload_n (pc := 100) (q := 1) dX12_lifeOf_100 rfl ?_
            refine aw_getC (pc := 101) fd_X12_88.r xB_0 rfl dX12_lifeOf_101 ?_
            refine aw_iload (pc := 104) (q := 4) dX12_lifeOf_104 rfl ?_
            refine aw_iconst (pc := 106) (v := 2) dX12_lifeOf_106 (by decide) ?_
            refine aw_idiv (pc := 107) dX12_lifeOf_107 (by decide) ?_
            refine aw_iconst (pc := 108) (v := 1) dX12_lifeOf_108 (by decide) ?_
            obtain ⟨g23, h⟩ := aw_gde h
            refine aw_zast (pc := 109) xB_25 g23 dX12_lifeOf_109 ?_
            refine aw_nmS (fun s24 e_s24 => ?_)
            replace h := aw_lte h s24 e_s24
            refine aw_iconst (pc := 110) (v := 1) dX12_lifeOf_110 (by decide) ?_
            refine aw_istore_n (pc := 111) [(3, .int ((1 : Int32))), (5, .int x13), (0, .ref 0), (2, .int v2), (4, .int v4)] dX12_lifeOf_111 (by decide) rfl ?_
            refine aw_sub [2, 3, 0, 4] rfl ?_
            exact t_Rf_lifeOf_J112 h hz
          · replace h := aw_ifp c22 h
            refine aw_goto (pc := 97) (tgt := 112) dX12_lifeOf_97 (by decide) ?_
            refine aw_sub [1, 2, 3, 4] rfl ?_
            exact t_Rf_lifeOf_J112 h hz
set_option maxRecDepth 100000 in
set_option maxHeartbeats 4000000 in
theorem t_Rf_lifeOf_B31 {l : Launch} {G : aw_G} {E : aw_E} {σ : aw_S} {v2 : Int32} {v3 : Int32} {t : (aw_S) ⊕ (Int32 × aw_S)} (h : m_Rf_lifeOf_B31 σ v2 v3 = some t) (hz : Sum.elim (z_Rf_lifeOf_Y31 l G E v2) (z_Rf_lifeOf_X31 l G E v2) t) : aw_W l M_Rf_lifeOf G B_Rf_lifeOf E 31 [(0, .ref 0), (2, .int v2), (3, .int v3)] [] xB σ 0 0 := by
  unfold m_Rf_lifeOf_B31 at h
  refine aw_iload_n (pc := 31) (q := 2) dX12_lifeOf_31 rfl ?_
  refine aw_if_eq (pc := 32) (tgt := 121) dX12_lifeOf_32 (by decide) (fun c10 => ?_) (fun c10 => ?_)
  · replace h := aw_ifp c10 h
    refine aw_sub [0] rfl ?_
    cases h
    exact hz
  · replace h := aw_ifn c10 h
    refine aw_iconst (pc := 35) (v := 0) dX12_lifeOf_35 (by decide) ?_
    refine aw_istore_n (pc := 36) [(3, .int ((0 : Int32))), (0, .ref 0), (2, .int v2)] dX12_lifeOf_36 (by decide) rfl ?_
    refine aw_iconst (pc := 37) (v := 0) dX12_lifeOf_37 (by decide) ?_
    refine aw_istore (pc := 38) [(4, .int ((0 : Int32))), (3, .int ((0 : Int32))), (0, .ref 0), (2, .int v2)] dX12_lifeOf_38 (by decide) rfl ?_
    obtain ⟨x25, hl26, h⟩ := aw_bde h
    have K27 : z_Rf_lifeOf_Y40 l G E v2 x25 := by
      show aw_W l M_Rf_lifeOf G B_Rf_lifeOf E 118 [(0, .ref 0), (2, .int v2), (3, .int x25.1)] [] xB x25.2 0 0
      refine aw_goto (pc := 118) (tgt := 31) dX12_lifeOf_118 (by decide) ?_
      refine aw_sub [0, 1, 2] rfl ?_
      cases h
      exact hz
    refine aw_sub [2, 3, 1, 0] rfl ?_
    show z_Rf_lifeOf_X40 l G E v2 (((0 : Int32), (0 : Int32), σ))
    exact aw_lp_X (Xp := z_Rf_lifeOf_X40 l G E v2) (Y := z_Rf_lifeOf_Y40 l G E v2) hl26 K27 (fun s t hf hz => t_Rf_lifeOf_B40 hf hz)
set_option maxRecDepth 100000 in
set_option maxHeartbeats 4000000 in
theorem t_Rf_lifeOf_J153 {l : Launch} {G : aw_G} {E : aw_E} {σ : aw_S} {v5 : Int32} {k0 : Int32} {k1 : Int32} {t : (Int32) ⊕ (Int32 × Int32)} (h : m_Rf_lifeOf_J153 σ v5 k0 k1 = some t) (hz : Sum.elim (z_Rf_lifeOf_Y127 l G E σ) (z_Rf_lifeOf_X127 l G E σ) t) : aw_W l M_Rf_lifeOf G B_Rf_lifeOf E 153 [(0, .ref 0), (5, .int v5)] [.int k1, .int k0] xB σ 0 0 := by
  unfold m_Rf_lifeOf_J153 at h
  refine aw_iadd (pc := 153) dX12_lifeOf_153 ?_
  refine aw_nmI (fun x34 e_x34 => ?_)
  replace h := aw_lte h x34 e_x34
  refine aw_istore (pc := 154) [(4, .int x34), (0, .ref 0), (5, .int v5)] dX12_lifeOf_154 (by decide) rfl ?_
  obtain ⟨x35, e_x35⟩ : ∃ z, z = (v5 + (1 : Int32)) := ⟨_, rfl⟩
  replace h := aw_lte h x35 e_x35
  refine aw_iinc (pc := 156) (q := 2) (v := x35) [(5, .int x35), (4, .int x34), (0, .ref 0)] dX12_lifeOf_156 rfl e_x35.symm (by decide) rfl ?_
  refine aw_goto (pc := 159) (tgt := 127) dX12_lifeOf_159 (by decide) ?_
  refine aw_sub [2, 1, 0] rfl ?_
  cases h
  exact hz
set_option maxRecDepth 100000 in
set_option maxHeartbeats 4000000 in
theorem t_Rf_lifeOf_B127 {l : Launch} {G : aw_G} {E : aw_E} {σ : aw_S} {v4 : Int32} {v5 : Int32} {t : (Int32) ⊕ (Int32 × Int32)} (h : m_Rf_lifeOf_B127 σ v4 v5 = some t) (hz : Sum.elim (z_Rf_lifeOf_Y127 l G E σ) (z_Rf_lifeOf_X127 l G E σ) t) : aw_W l M_Rf_lifeOf G B_Rf_lifeOf E 127 [(0, .ref 0), (4, .int v4), (5, .int v5)] [] xB σ 0 0 := by
  unfold m_Rf_lifeOf_B127 at h
  refine aw_iload (pc := 127) (q := 2) dX12_lifeOf_127 rfl ?_
  refine aw_aload_n (pc := 129) (q := 0) dX12_lifeOf_129 rfl ?_
  refine aw_getI (pc := 130) fd_X12_215.r xB_0 rfl dX12_lifeOf_130 ?_
  refine aw_icmp_ge (pc := 133) (tgt := 162) dX12_lifeOf_133 (by decide) (fun c31 => ?_) (fun c31 => ?_)
  · replace h := aw_ifp c31 h
    refine aw_sub [1] rfl ?_
    cases h
    exact hz
  · replace h := aw_ifn c31 h
    refine aw_iload (pc := 136) (q := 1) dX12_lifeOf_136 rfl ?_
    refine aw_aload_n (pc := 138) (q := 0) dX12_lifeOf_138 rfl ?_
    refine aw_getC (pc := 139) fd_X12_88.r xB_0 rfl dX12_lifeOf_139 ?_
    refine aw_iload (pc := 142) (q := 2) dX12_lifeOf_142 rfl ?_
    obtain ⟨g32, h⟩ := aw_gde h
    refine aw_zald (pc := 144) xB_25 g32 dX12_lifeOf_144 ?_
    refine aw_if_eq (pc := 145) (tgt := 152) dX12_lifeOf_145 (by decide) (fun c33 => ?_) (fun c33 => ?_)
    · replace h := aw_ifp c33 h
      refine aw_iconst (pc := 152) (v := 0) dX12_lifeOf_152 (by decide) ?_
      refine aw_sub [0, 2] rfl ?_
      exact t_Rf_lifeOf_J153 h hz
    · replace h := aw_ifn c33 h
      refine aw_iconst (pc := 148) (v := 1) dX12_lifeOf_148 (by decide) ?_
      refine aw_goto (pc := 149) (tgt := 153) dX12_lifeOf_149 (by decide) ?_
      refine aw_sub [0, 2] rfl ?_
      exact t_Rf_lifeOf_J153 h hz
set_option maxRecDepth 100000 in
set_option maxHeartbeats 4000000 in
theorem t_Rf_lifeOf {l : Launch} {G : aw_G} {E : aw_E} {σ : aw_S} {p1 : Int32} {p2 : Int32} {t : (Int32 × aw_S)} (h : m_Rf_lifeOf σ p1 p2 = some t) (hE : E = (some (.int t.1), xB, t.2)) : aw_W l M_Rf_lifeOf G B_Rf_lifeOf E 0 [(0, .ref 0), (1, .int p1), (2, .int p2)] [] xB σ 0 0 := by
  unfold m_Rf_lifeOf at h
  refine aw_iconst (pc := 0) (v := 0) dX12_lifeOf_0 (by decide) ?_
  refine aw_istore_n (pc := 1) [(3, .int ((0 : Int32))), (0, .ref 0), (1, .int p1), (2, .int p2)] dX12_lifeOf_1 (by decide) rfl ?_
  obtain ⟨x7, hl8, h⟩ := aw_bde h
  have K9 : z_Rf_lifeOf_Y2 l G E p1 p2 x7 := by
    show aw_W l M_Rf_lifeOf G B_Rf_lifeOf E 29 [(0, .ref 0), (2, .int p2)] [] xB x7 0 0
    refine aw_iconst (pc := 29) (v := 1) dX12_lifeOf_29 (by decide) ?_
    refine aw_istore_n (pc := 30) [(3, .int ((1 : Int32))), (0, .ref 0), (2, .int p2)] dX12_lifeOf_30 (by decide) rfl ?_
    obtain ⟨x28, hl29, h⟩ := aw_bde h
    have K30 : z_Rf_lifeOf_Y31 l G E p2 x28 := by
      show aw_W l M_Rf_lifeOf G B_Rf_lifeOf E 121 [(0, .ref 0)] [] xB x28 0 0
      refine aw_iconst (pc := 121) (v := 0) dX12_lifeOf_121 (by decide) ?_
      refine aw_istore (pc := 122) [(4, .int ((0 : Int32))), (0, .ref 0)] dX12_lifeOf_122 (by decide) rfl ?_
      refine aw_iconst (pc := 124) (v := 0) dX12_lifeOf_124 (by decide) ?_
      refine aw_istore (pc := 125) [(5, .int ((0 : Int32))), (4, .int ((0 : Int32))), (0, .ref 0)] dX12_lifeOf_125 (by decide) rfl ?_
      obtain ⟨x36, hl37, h⟩ := aw_bde h
      have K38 : z_Rf_lifeOf_Y127 l G E x28 x36 := by
        show aw_W l M_Rf_lifeOf G B_Rf_lifeOf E 162 [(4, .int x36)] [] xB x28 0 0
        refine aw_iload (pc := 162) (q := 0) dX12_lifeOf_162 rfl ?_
        cases h
        subst hE
        exact aw_iret (v := _) rfl aw_ni ⟨Nat.zero_le _, Nat.zero_le _⟩ dX12_lifeOf_164
      refine aw_sub [2, 1, 0] rfl ?_
      show z_Rf_lifeOf_X127 l G E x28 (((0 : Int32), (0 : Int32)))
      exact aw_lp_X (Xp := z_Rf_lifeOf_X127 l G E x28) (Y := z_Rf_lifeOf_Y127 l G E x28) hl37 K38 (fun s t hf hz => t_Rf_lifeOf_B127 hf hz)
    refine aw_sub [1, 2, 0] rfl ?_
    show z_Rf_lifeOf_X31 l G E p2 (((1 : Int32), x7))
    exact aw_lp_X (Xp := z_Rf_lifeOf_X31 l G E p2) (Y := z_Rf_lifeOf_Y31 l G E p2) hl29 K30 (fun s t hf hz => t_Rf_lifeOf_B31 hf hz)
  refine aw_sub [1, 2, 3, 0] rfl ?_
  show z_Rf_lifeOf_X2 l G E p1 p2 (((0 : Int32), σ))
  exact aw_lp_X (Xp := z_Rf_lifeOf_X2 l G E p1 p2) (Y := z_Rf_lifeOf_Y2 l G E p1 p2) hl8 K9 (fun s t hf hz => t_Rf_lifeOf_B2 hf hz)
theorem c_Rf_lifeOf {l : Launch} {G : aw_G} {σ : aw_S} {p1 : Int32} {p2 : Int32} {t : (Int32 × aw_S)} (h : m_Rf_lifeOf σ p1 p2 = some t) : aw_Ct l yX12_lifeOf M_Rf_lifeOf G B_Rf_lifeOf [.ref 0, .int p1, .int p2] xB σ (some (.int t.1), xB, t.2) := aw_Ct_of (by decide) rfl (fun h => by cases h) (Nat.le_of_ble_eq_true rfl) (t_Rf_lifeOf h rfl)
/-! LateMoverModel.bits(I)I -/
def z_Rf_bits_X4 (l : Launch) (G : aw_G) (E : aw_E) (σ : aw_S) (s : Int32 × Int32) : Prop := aw_W l M_Rf_bits G B_Rf_bits E 4 [(1, .int s.1), (2, .int s.2)] [] xB σ 0 0
def z_Rf_bits_Y4 (l : Launch) (G : aw_G) (E : aw_E) (σ : aw_S) (x : (Int32)) : Prop := aw_W l M_Rf_bits G B_Rf_bits E 20 [(1, .int x)] [] xB σ 0 0
set_option maxRecDepth 100000 in
set_option maxHeartbeats 4000000 in
theorem t_Rf_bits_B4 {l : Launch} {G : aw_G} {E : aw_E} {σ : aw_S} {v1 : Int32} {v2 : Int32} {t : (Int32) ⊕ (Int32 × Int32)} (h : m_Rf_bits_B4 σ v1 v2 = some t) (hz : Sum.elim (z_Rf_bits_Y4 l G E σ) (z_Rf_bits_X4 l G E σ) t) : aw_W l M_Rf_bits G B_Rf_bits E 4 [(1, .int v1), (2, .int v2)] [] xB σ 0 0 := by
  unfold m_Rf_bits_B4 at h
  refine aw_iload_n (pc := 4) (q := 1) dX12_bits_4 rfl ?_
  refine aw_if_eq (pc := 5) (tgt := 20) dX12_bits_5 (by decide) (fun c1 => ?_) (fun c1 => ?_)
  · replace h := aw_ifp c1 h
    refine aw_sub [0] rfl ?_
    cases h
    exact hz
  · replace h := aw_ifn c1 h
    obtain ⟨x2, e_x2⟩ : ∃ z, z = (v1 + (1 : Int32)) := ⟨_, rfl⟩
    replace h := aw_lte h x2 e_x2
    refine aw_iinc (pc := 8) (q := 0) (v := x2) [(1, .int x2), (2, .int v2)] dX12_bits_8 rfl e_x2.symm (by decide) rfl ?_
    refine aw_iload_n (pc := 11) (q := 1) dX12_bits_11 rfl ?_
    refine aw_iload_n (pc := 12) (q := 1) dX12_bits_12 rfl ?_
    refine aw_iconst (pc := 13) (v := 1) dX12_bits_13 (by decide) ?_
    refine aw_isub (pc := 14) dX12_bits_14 ?_
    refine aw_iand (pc := 15) dX12_bits_15 ?_
    refine aw_nmI (fun x3 e_x3 => ?_)
    replace h := aw_lte h x3 e_x3
    refine aw_istore_n (pc := 16) [(2, .int x3), (1, .int x2)] dX12_bits_16 (by decide) rfl ?_
    refine aw_goto (pc := 17) (tgt := 4) dX12_bits_17 (by decide) ?_
    refine aw_sub [1, 0] rfl ?_
    cases h
    exact hz
set_option maxRecDepth 100000 in
set_option maxHeartbeats 4000000 in
theorem t_Rf_bits {l : Launch} {G : aw_G} {E : aw_E} {σ : aw_S} {p0 : Int32} {t : Int32} (h : m_Rf_bits σ p0 = some t) (hE : E = (some (.int t), xB, σ)) : aw_W l M_Rf_bits G B_Rf_bits E 0 [(0, .int p0)] [] xB σ 0 0 := by
  unfold m_Rf_bits at h
  refine aw_iconst (pc := 0) (v := 0) dX12_bits_0 (by decide) ?_
  refine aw_istore_n (pc := 1) [(1, .int ((0 : Int32))), (0, .int p0)] dX12_bits_1 (by decide) rfl ?_
  refine aw_iload_n (pc := 2) (q := 1) dX12_bits_2 rfl ?_
  refine aw_istore_n (pc := 3) [(2, .int p0), (1, .int ((0 : Int32))), (0, .int p0)] dX12_bits_3 (by decide) rfl ?_
  obtain ⟨x4, hl5, h⟩ := aw_bde h
  have K6 : z_Rf_bits_Y4 l G E σ x4 := by
    show aw_W l M_Rf_bits G B_Rf_bits E 20 [(1, .int x4)] [] xB σ 0 0
    refine aw_iload_n (pc := 20) (q := 0) dX12_bits_20 rfl ?_
    cases h
    subst hE
    exact aw_iret (v := _) rfl aw_ni ⟨Nat.zero_le _, Nat.zero_le _⟩ dX12_bits_21
  refine aw_sub [1, 0] rfl ?_
  show z_Rf_bits_X4 l G E σ (((0 : Int32), p0))
  exact aw_lp_X (Xp := z_Rf_bits_X4 l G E σ) (Y := z_Rf_bits_Y4 l G E σ) hl5 K6 (fun s t hf hz => t_Rf_bits_B4 hf hz)
theorem c_Rf_bits {l : Launch} {G : aw_G} {σ : aw_S} {p0 : Int32} {t : Int32} (h : m_Rf_bits σ p0 = some t) : aw_Ct l yX12_bits M_Rf_bits G B_Rf_bits [.int p0] xB σ (some (.int t), xB, σ) := aw_Ct_of (by decide) rfl (fun h => by cases h) (Nat.le_of_ble_eq_true rfl) (t_Rf_bits h rfl)
/-! LateMoverModel.others(II)I -/
def z_Rf_others_X50 (l : Launch) (G : aw_G) (E : aw_E) (v1 : Int32) (v2 : Int32) (s : Int32 × Int32 × Int32 × Int32 × Int32 × aw_S) : Prop := aw_W l M_Rf_others G B_Rf_others E 50 [(0, .ref 0), (1, .int v1), (2, .int v2), (3, .int s.1), (4, .int s.2.1), (5, .int s.2.2.1), (6, .int s.2.2.2.1), (7, .int s.2.2.2.2.1)] [] xB s.2.2.2.2.2 0 0
def z_Rf_others_Y50 (l : Launch) (G : aw_G) (E : aw_E) (v1 : Int32) (v2 : Int32) (x : (Int32 × Int32 × Int32 × Int32 × aw_S)) : Prop := aw_W l M_Rf_others G B_Rf_others E 158 [(2, .int v2), (3, .int x.1), (4, .int x.2.1), (5, .int x.2.2.1), (6, .int x.2.2.2.1)] [] xB x.2.2.2.2 0 0
set_option maxRecDepth 100000 in
set_option maxHeartbeats 4000000 in
theorem t_Rf_others_J152 {l : Launch} {G : aw_G} {E : aw_E} {σ : aw_S} {v1 : Int32} {v2 : Int32} {v3 : Int32} {v4 : Int32} {v5 : Int32} {v6 : Int32} {v7 : Int32} {t : (Int32 × Int32 × Int32 × Int32 × aw_S) ⊕ (Int32 × Int32 × Int32 × Int32 × Int32 × aw_S)} (h : m_Rf_others_J152 σ v1 v2 v3 v4 v5 v6 v7 = some t) (hz : Sum.elim (z_Rf_others_Y50 l G E v1 v2) (z_Rf_others_X50 l G E v1 v2) t) : aw_W l M_Rf_others G B_Rf_others E 152 [(0, .ref 0), (1, .int v1), (2, .int v2), (3, .int v3), (4, .int v4), (5, .int v5), (6, .int v6), (7, .int v7)] [] xB σ 0 0 := by
  unfold m_Rf_others_J152 at h
  obtain ⟨x27, e_x27⟩ : ∃ z, z = (v7 + (1 : Int32)) := ⟨_, rfl⟩
  replace h := aw_lte h x27 e_x27
  refine aw_iinc (pc := 152) (q := 7) (v := x27) [(7, .int x27), (0, .ref 0), (1, .int v1), (2, .int v2), (3, .int v3), (4, .int v4), (5, .int v5), (6, .int v6)] dX12_others_152 rfl e_x27.symm (by decide) rfl ?_
  refine aw_goto (pc := 155) (tgt := 50) dX12_others_155 (by decide) ?_
  refine aw_sub [1, 2, 3, 4, 5, 6, 7, 0] rfl ?_
  cases h
  exact hz
set_option maxRecDepth 100000 in
set_option maxHeartbeats 4000000 in
theorem t_Rf_others_J150 {l : Launch} {G : aw_G} {E : aw_E} {σ : aw_S} {v1 : Int32} {v2 : Int32} {v3 : Int32} {v4 : Int32} {v5 : Int32} {v7 : Int32} {k0 : Int32} {t : (Int32 × Int32 × Int32 × Int32 × aw_S) ⊕ (Int32 × Int32 × Int32 × Int32 × Int32 × aw_S)} (h : m_Rf_others_J150 σ v1 v2 v3 v4 v5 v7 k0 = some t) (hz : Sum.elim (z_Rf_others_Y50 l G E v1 v2) (z_Rf_others_X50 l G E v1 v2) t) : aw_W l M_Rf_others G B_Rf_others E 150 [(0, .ref 0), (1, .int v1), (2, .int v2), (3, .int v3), (4, .int v4), (5, .int v5), (7, .int v7)] [.int k0] xB σ 0 0 := by
  unfold m_Rf_others_J150 at h
  refine aw_istore (pc := 150) [(6, .int k0), (0, .ref 0), (1, .int v1), (2, .int v2), (3, .int v3), (4, .int v4), (5, .int v5), (7, .int v7)] dX12_others_150 (by decide) rfl ?_
  refine aw_sub [1, 2, 3, 4, 5, 6, 0, 7] rfl ?_
  exact t_Rf_others_J152 h hz
set_option maxRecDepth 100000 in
set_option maxHeartbeats 4000000 in
theorem t_Rf_others_J140 {l : Launch} {G : aw_G} {E : aw_E} {σ : aw_S} {v1 : Int32} {v2 : Int32} {v3 : Int32} {v4 : Int32} {v5 : Int32} {v7 : Int32} {t : (Int32 × Int32 × Int32 × Int32 × aw_S) ⊕ (Int32 × Int32 × Int32 × Int32 × Int32 × aw_S)} (h : m_Rf_others_J140 σ v1 v2 v3 v4 v5 v7 = some t) (hz : Sum.elim (z_Rf_others_Y50 l G E v1 v2) (z_Rf_others_X50 l G E v1 v2) t) : aw_W l M_Rf_others G B_Rf_others E 140 [(0, .ref 0), (1, .int v1), (2, .int v2), (3, .int v3), (4, .int v4), (5, .int v5), (7, .int v7)] [] xB σ 0 0 := by
  unfold m_Rf_others_J140 at h
  refine aw_iload (pc := 140) (q := 6) dX12_others_140 rfl ?_
  obtain ⟨r25, e26, h⟩ := aw_bde h
  refine aw_cS1 (pc := 142) [.int v7] (c_Rf_bits e26) yy_Rf_bits.1 wm_1425 yy_Rf_bits.2 rfl ⟨Nat.le_of_ble_eq_true rfl, Nat.le_of_ble_eq_true rfl⟩ ⟨Nat.zero_le _, Nat.zero_le _⟩ (Nat.le_of_ble_eq_true rfl) dX12_others_142 ?_
  refine aw_goto (pc := 145) (tgt := 150) dX12_others_145 (by decide) ?_
  exact t_Rf_others_J150 h hz
set_option maxRecDepth 100000 in
set_option maxHeartbeats 4000000 in
theorem t_Rf_others_J122 {l : Launch} {G : aw_G} {E : aw_E} {σ : aw_S} {v1 : Int32} {v2 : Int32} {v3 : Int32} {v4 : Int32} {v6 : Int32} {v7 : Int32} {k0 : Int32} {t : (Int32 × Int32 × Int32 × Int32 × aw_S) ⊕ (Int32 × Int32 × Int32 × Int32 × Int32 × aw_S)} (h : m_Rf_others_J122 σ v1 v2 v3 v4 v6 v7 k0 = some t) (hz : Sum.elim (z_Rf_others_Y50 l G E v1 v2) (z_Rf_others_X50 l G E v1 v2) t) : aw_W l M_Rf_others G B_Rf_others E 122 [(0, .ref 0), (1, .int v1), (2, .int v2), (3, .int v3), (4, .int v4), (6, .int v6), (7, .int v7)] [.int k0] xB σ 0 0 := by
  unfold m_Rf_others_J122 at h
  refine aw_istore (pc := 122) [(5, .int k0), (0, .ref 0), (1, .int v1), (2, .int v2), (3, .int v3), (4, .int v4), (6, .int v6), (7, .int v7)] dX12_others_122 (by decide) rfl ?_
  refine aw_iload (pc := 124) (q := 6) dX12_others_124 rfl ?_
  refine aw_iconst (pc := 126) (v := -1) dX12_others_126 (by decide) ?_
  refine aw_icmp_eq (pc := 127) (tgt := 140) dX12_others_127 (by decide) (fun c24 => ?_) (fun c24 => ?_)
  · replace h := aw_ifp c24 h
    refine aw_sub [1, 2, 3, 4, 5, 0, 7] rfl ?_
    exact t_Rf_others_J140 h hz
  · replace h := aw_ifn c24 h
    refine aw_iload (pc := 130) (q := 7) dX12_others_130 rfl ?_
    obtain ⟨r28, e29, h⟩ := aw_bde h
    refine aw_cS1 (pc := 132) [.int v7] (c_Rf_bits e29) yy_Rf_bits.1 wm_1425 yy_Rf_bits.2 rfl ⟨Nat.le_of_ble_eq_true rfl, Nat.le_of_ble_eq_true rfl⟩ ⟨Nat.zero_le _, Nat.zero_le _⟩ (Nat.le_of_ble_eq_true rfl) dX12_others_132 ?_
    refine aw_iload (pc := 135) (q := 6) dX12_others_135 rfl ?_
    refine aw_icmp_ge (pc := 137) (tgt := 148) dX12_others_137 (by decide) (fun c30 => ?_) (fun c30 => ?_)
    · replace h := aw_ifp c30 h
      refine aw_iload (pc := 148) (q := 6) dX12_others_148 rfl ?_
      refine aw_sub [1, 2, 3, 4, 5, 0, 7] rfl ?_
      exact t_Rf_others_J150 h hz
    · replace h := aw_ifn c30 h
      refine aw_sub [1, 2, 3, 4, 5, 0, 7] rfl ?_
      exact t_Rf_others_J140 h hz
set_option maxRecDepth 100000 in
set_option maxHeartbeats 4000000 in
theorem t_Rf_others_J115 {l : Launch} {G : aw_G} {E : aw_E} {σ : aw_S} {v1 : Int32} {v2 : Int32} {v3 : Int32} {v4 : Int32} {v6 : Int32} {v7 : Int32} {v8 : Int32} {t : (Int32 × Int32 × Int32 × Int32 × aw_S) ⊕ (Int32 × Int32 × Int32 × Int32 × Int32 × aw_S)} (h : m_Rf_others_J115 σ v1 v2 v3 v4 v6 v7 v8 = some t) (hz : Sum.elim (z_Rf_others_Y50 l G E v1 v2) (z_Rf_others_X50 l G E v1 v2) t) : aw_W l M_Rf_others G B_Rf_others E 115 [(0, .ref 0), (1, .int v1), (2, .int v2), (3, .int v3), (4, .int v4), (6, .int v6), (7, .int v7), (8, .int v8)] [] xB σ 0 0 := by
  unfold m_Rf_others_J115 at h
  refine aw_iload (pc := 115) (q := 7) dX12_others_115 rfl ?_
  refine aw_goto (pc := 117) (tgt := 122) dX12_others_117 (by decide) ?_
  refine aw_sub [0, 1, 2, 3, 4, 5, 6] rfl ?_
  exact t_Rf_others_J122 h hz
set_option maxRecDepth 100000 in
set_option maxHeartbeats 4000000 in
theorem t_Rf_others_B50 {l : Launch} {G : aw_G} {E : aw_E} {σ : aw_S} {v1 : Int32} {v2 : Int32} {v3 : Int32} {v4 : Int32} {v5 : Int32} {v6 : Int32} {v7 : Int32} {t : (Int32 × Int32 × Int32 × Int32 × aw_S) ⊕ (Int32 × Int32 × Int32 × Int32 × Int32 × aw_S)} (h : m_Rf_others_B50 σ v1 v2 v3 v4 v5 v6 v7 = some t) (hz : Sum.elim (z_Rf_others_Y50 l G E v1 v2) (z_Rf_others_X50 l G E v1 v2) t) : aw_W l M_Rf_others G B_Rf_others E 50 [(0, .ref 0), (1, .int v1), (2, .int v2), (3, .int v3), (4, .int v4), (5, .int v5), (6, .int v6), (7, .int v7)] [] xB σ 0 0 := by
  unfold m_Rf_others_B50 at h
  refine aw_iload (pc := 50) (q := 7) dX12_others_50 rfl ?_
  refine aw_iconst (pc := 52) (v := 1) dX12_others_52 (by decide) ?_
  refine aw_aload_n (pc := 53) (q := 0) dX12_others_53 rfl ?_
  refine aw_getI (pc := 54) fd_X12_215.r xB_0 rfl dX12_others_54 ?_
  refine aw_ishl (pc := 57) dX12_others_57 ?_
  refine aw_icmp_ge (pc := 58) (tgt := 158) dX12_others_58 (by decide) (fun c9 => ?_) (fun c9 => ?_)
  · replace h := aw_ifp c9 h
    refine aw_sub [2, 3, 4, 5, 6] rfl ?_
    cases h
    exact hz
  · replace h := aw_ifn c9 h
    refine aw_aload_n (pc := 61) (q := 0) dX12_others_61 rfl ?_
    refine aw_iload_n (pc := 62) (q := 1) dX12_others_62 rfl ?_
    refine aw_iload (pc := 63) (q := 7) dX12_others_63 rfl ?_
    obtain ⟨r10, s12, e11, h⟩ := aw_bd2e h
    refine aw_cV1 (pc := 65) [.int v1, .int v7] (c_Rf_isRight e11) yy_Rf_isRight.1 wm_1406 yy_Rf_isRight.2.1 yy_Rf_isRight.2.2 xB_0 ⟨_, _, rfl⟩ rfl ⟨Nat.le_of_ble_eq_true rfl, Nat.le_of_ble_eq_true rfl⟩ ⟨Nat.zero_le _, Nat.zero_le _⟩ (Nat.le_of_ble_eq_true rfl) dX12_others_65 ?_
    refine aw_if_ne (pc := 68) (tgt := 74) dX12_others_68 (by decide) (fun c13 => ?_) (fun c13 => ?_)
    · replace h := aw_ifn c13 h
      obtain ⟨x14, e_x14⟩ : ∃ z, z = (v3 + (1 : Int32)) := ⟨_, rfl⟩
      replace h := aw_lte h x14 e_x14
      refine aw_iinc (pc := 74) (q := 3) (v := x14) [(3, .int x14), (0, .ref 0), (1, .int v1), (2, .int v2), (4, .int v4), (5, .int v5), (6, .int v6), (7, .int v7)] dX12_others_74 rfl e_x14.symm (by decide) rfl ?_
      refine aw_aload_n (pc := 77) (q := 1) dX12_others_77 rfl ?_
      refine aw_iload_n (pc := 78) (q := 2) dX12_others_78 rfl ?_
      refine aw_iload (pc := 79) (q := 7) dX12_others_79 rfl ?_
      obtain ⟨r15, s17, e16, h⟩ := aw_bd2e h
      refine aw_cV1 (pc := 81) [.int v1, .int v7] (c_Rf_isFew e16) yy_Rf_isFew.1 wm_1413 yy_Rf_isFew.2.1 yy_Rf_isFew.2.2 xB_0 ⟨_, _, rfl⟩ rfl ⟨Nat.le_of_ble_eq_true rfl, Nat.le_of_ble_eq_true rfl⟩ ⟨Nat.zero_le _, Nat.zero_le _⟩ (Nat.le_of_ble_eq_true rfl) dX12_others_81 ?_
      refine aw_if_ne (pc := 84) (tgt := 90) dX12_others_84 (by decide) (fun c18 => ?_) (fun c18 => ?_)
      · replace h := aw_ifn c18 h
        obtain ⟨x19, e_x19⟩ : ∃ z, z = (v4 + (1 : Int32)) := ⟨_, rfl⟩
        replace h := aw_lte h x19 e_x19
        refine aw_iinc (pc := 90) (q := 4) (v := x19) [(4, .int x19), (3, .int x14), (0, .ref 0), (1, .int v1), (2, .int v2), (5, .int v5), (6, .int v6), (7, .int v7)] dX12_others_90 rfl e_x19.symm (by decide) rfl ?_
        refine aw_aload_n (pc := 93) (q := 2) dX12_others_93 rfl ?_
        refine aw_iload_n (pc := 94) (q := 3) dX12_others_94 rfl ?_
        refine aw_iload (pc := 95) (q := 7) dX12_others_95 rfl ?_
        obtain ⟨r20, s22, e21, h⟩ := aw_bd2e h
        refine aw_cV1 (pc := 97) [.int v1, .int v7] (c_Rf_lifeOf e21) yy_Rf_lifeOf.1 wm_1421 yy_Rf_lifeOf.2.1 yy_Rf_lifeOf.2.2 xB_0 ⟨_, _, rfl⟩ rfl ⟨Nat.le_of_ble_eq_true rfl, Nat.le_of_ble_eq_true rfl⟩ ⟨Nat.zero_le _, Nat.zero_le _⟩ (Nat.le_of_ble_eq_true rfl) dX12_others_97 ?_
        refine aw_istore (pc := 100) [(8, .int r20), (4, .int x19), (3, .int x14), (0, .ref 0), (1, .int v1), (2, .int v2), (5, .int v5), (6, .int v6), (7, .int v7)] dX12_others_100 (by decide) rfl ?_
        refine aw_iload (pc := 102) (q := 6) dX12_others_102 rfl ?_
        refine aw_iconst (pc := 104) (v := -1) dX12_others_104 (by decide) ?_
        refine aw_icmp_eq (pc := 105) (tgt := 115) dX12_others_105 (by decide) (fun c23 => ?_) (fun c23 => ?_)
        · replace h := aw_ifp c23 h
          refine aw_sub [3, 4, 5, 2, 1, 7, 8, 0] rfl ?_
          exact t_Rf_others_J115 h hz
        · replace h := aw_ifn c23 h
          refine aw_iload (pc := 108) (q := 0) dX12_others_108 rfl ?_
          refine aw_iload (pc := 110) (q := 6) dX12_others_110 rfl ?_
          refine aw_icmp_ge (pc := 112) (tgt := 120) dX12_others_112 (by decide) (fun c31 => ?_) (fun c31 => ?_)
          · replace h := aw_ifp c31 h
            refine aw_iload (pc := 120) (q := 6) dX12_others_120 rfl ?_
            refine aw_sub [3, 4, 5, 2, 1, 7, 8] rfl ?_
            exact t_Rf_others_J122 h hz
          · replace h := aw_ifn c31 h
            refine aw_sub [3, 4, 5, 2, 1, 7, 8, 0] rfl ?_
            exact t_Rf_others_J115 h hz
      · replace h := aw_ifp c18 h
        refine aw_goto (pc := 87) (tgt := 152) dX12_others_87 (by decide) ?_
        refine aw_sub [1, 2, 3, 0, 4, 5, 6, 7] rfl ?_
        exact t_Rf_others_J152 h hz
    · replace h := aw_ifp c13 h
      refine aw_goto (pc := 71) (tgt := 152) dX12_others_71 (by decide) ?_
      exact t_Rf_others_J152 h hz
set_option maxRecDepth 100000 in
set_option maxHeartbeats 4000000 in
theorem t_Rf_others {l : Launch} {G : aw_G} {E : aw_E} {σ : aw_S} {p1 : Int32} {p2 : Int32} {t : (Int32 × aw_S)} (h : m_Rf_others σ p1 p2 = some t) (hE : E = (some (.int t.1), xB, t.2)) : aw_W l M_Rf_others G B_Rf_others E 0 [(0, .ref 0), (1, .int p1), (2, .int p2)] [] xB σ 0 0 := by
  unfold m_Rf_others at h
  refine aw_aload_n (pc := 0) (q := 0) dX12_others_0 rfl ?_
  refine aw_getI (pc := 1) fd_X12_253.r xB_0 rfl dX12_others_1 ?_
  refine aw_if_eq (pc := 4) (tgt := 33) dX12_others_4 (by decide) (fun c1 => ?_) (fun c1 => ?_)
  · replace h := aw_ifp c1 h
    refine aw_bipush (pc := 33) (v := -2) dX12_others_33 (by decide) ?_
    cases h
    subst hE
    exact aw_iret (v := (-2 : Int32)) rfl aw_ni ⟨Nat.zero_le _, Nat.zero_le _⟩ dX12_others_35
  · replace h := aw_ifn c1 h
    refine aw_aload_n (pc := 7) (q := 0) dX12_others_7 rfl ?_
    refine aw_getI (pc := 8) fd_X12_215.r xB_0 rfl dX12_others_8 ?_
    refine aw_bipush (pc := 11) (v := 12) dX12_others_11 (by decide) ?_
    refine aw_icmp_gt (pc := 13) (tgt := 33) dX12_others_13 (by decide) (fun c2 => ?_) (fun c2 => ?_)
    · replace h := aw_ifp c2 h
      refine aw_bipush (pc := 33) (v := -2) dX12_others_33 (by decide) ?_
      cases h
      subst hE
      exact aw_iret (v := (-2 : Int32)) rfl aw_ni ⟨Nat.zero_le _, Nat.zero_le _⟩ dX12_others_35
    · replace h := aw_ifn c2 h
      refine aw_aload_n (pc := 16) (q := 0) dX12_others_16 rfl ?_
      refine aw_iload_n (pc := 17) (q := 1) dX12_others_17 rfl ?_
      obtain ⟨r3, e4, h⟩ := aw_bde h
      refine aw_cV1 (pc := 18) [.int p1] (c_Rf_isExpression e4) yy_Rf_isExpression.1 wm_947 yy_Rf_isExpression.2.1 yy_Rf_isExpression.2.2 xB_0 ⟨_, _, rfl⟩ rfl ⟨Nat.le_of_ble_eq_true rfl, Nat.le_of_ble_eq_true rfl⟩ ⟨Nat.zero_le _, Nat.zero_le _⟩ (Nat.le_of_ble_eq_true rfl) dX12_others_18 ?_
      refine aw_if_eq (pc := 21) (tgt := 33) dX12_others_21 (by decide) (fun c5 => ?_) (fun c5 => ?_)
      · replace h := aw_ifp c5 h
        refine aw_bipush (pc := 33) (v := -2) dX12_others_33 (by decide) ?_
        cases h
        subst hE
        exact aw_iret (v := (-2 : Int32)) rfl aw_ni ⟨Nat.zero_le _, Nat.zero_le _⟩ dX12_others_35
      · replace h := aw_ifn c5 h
        refine aw_iload_n (pc := 24) (q := 2) dX12_others_24 rfl ?_
        refine aw_iconst (pc := 25) (v := 0) dX12_others_25 (by decide) ?_
        refine aw_iconst (pc := 26) (v := 3) dX12_others_26 (by decide) ?_
        obtain ⟨r6, e7, h⟩ := aw_bde h
        refine aw_cS1 (pc := 27) [.int p2, .int ((0 : Int32)), .int ((3 : Int32))] (c_Rf_isIn e7) yy_Rf_isIn.1 wm_255 yy_Rf_isIn.2 rfl ⟨Nat.le_of_ble_eq_true rfl, Nat.le_of_ble_eq_true rfl⟩ ⟨Nat.zero_le _, Nat.zero_le _⟩ (Nat.le_of_ble_eq_true rfl) dX12_others_27 ?_
        refine aw_if_ne (pc := 30) (tgt := 36) dX12_others_30 (by decide) (fun c8 => ?_) (fun c8 => ?_)
        · replace h := aw_ifn c8 h
          refine aw_iconst (pc := 36) (v := 0) dX12_others_36 (by decide) ?_
          refine aw_istore_n (pc := 37) [(3, .int ((0 : Int32))), (0, .ref 0), (1, .int p1), (2, .int p2)] dX12_others_37 (by decide) rfl ?_
          refine aw_iconst (pc := 38) (v := 0) dX12_others_38 (by decide) ?_
          refine aw_istore (pc := 39) [(4, .int ((0 : Int32))), (3, .int ((0 : Int32))), (0, .ref 0), (1, .int p1), (2, .int p2)] dX12_others_39 (by decide) rfl ?_
          refine aw_iconst (pc := 41) (v := -1) dX12_others_41 (by decide) ?_
          refine aw_istore (pc := 42) [(5, .int ((-1 : Int32))), (4, .int ((0 : Int32))), (3, .int ((0 : Int32))), (0, .ref 0), (1, .int p1), (2, .int p2)] dX12_others_42 (by decide) rfl ?_
          refine aw_iconst (pc := 44) (v := -1) dX12_others_44 (by decide) ?_
          refine aw_istore (pc := 45) [(6, .int ((-1 : Int32))), (5, .int ((-1 : Int32))), (4, .int ((0 : Int32))), (3, .int ((0 : Int32))), (0, .ref 0), (1, .int p1), (2, .int p2)] dX12_others_45 (by decide) rfl ?_
          refine aw_iconst (pc := 47) (v := 0) dX12_others_47 (by decide) ?_
          refine aw_istore (pc := 48) [(7, .int ((0 : Int32))), (6, .int ((-1 : Int32))), (5, .int ((-1 : Int32))), (4, .int ((0 : Int32))), (3, .int ((0 : Int32))), (0, .ref 0), (1, .int p1), (2, .int p2)] dX12_others_48 (by decide) rfl ?_
          obtain ⟨x32, hl33, h⟩ := aw_bde h
          have K34 : z_Rf_others_Y50 l G E p1 p2 x32 := by
            show aw_W l M_Rf_others G B_Rf_others E 158 [(2, .int p2), (3, .int x32.1), (4, .int x32.2.1), (5, .int x32.2.2.1), (6, .int x32.2.2.2.1)] [] xB x32.2.2.2.2 0 0
            refine aw_iload_n (pc := 158) (q := 0) dX12_others_158 rfl ?_
            refine aw_if_ne (pc := 159) (tgt := 166) dX12_others_159 (by decide) (fun c35 => ?_) (fun c35 => ?_)
            · replace h := aw_ifn c35 h
              refine aw_iload_n (pc := 166) (q := 0) dX12_others_166 rfl ?_
              refine aw_iconst (pc := 167) (v := 1) dX12_others_167 (by decide) ?_
              refine aw_icmp_ne (pc := 168) (tgt := 176) dX12_others_168 (by decide) (fun c36 => ?_) (fun c36 => ?_)
              · replace h := aw_ifn c36 h
                refine aw_iload_n (pc := 176) (q := 0) dX12_others_176 rfl ?_
                refine aw_iconst (pc := 177) (v := 2) dX12_others_177 (by decide) ?_
                refine aw_icmp_ne (pc := 178) (tgt := 186) dX12_others_178 (by decide) (fun c37 => ?_) (fun c37 => ?_)
                · replace h := aw_ifn c37 h
                  refine aw_iload (pc := 186) (q := 4) dX12_others_186 rfl ?_
                  cases h
                  subst hE
                  exact aw_iret (v := x32.2.2.2.1) rfl aw_ni ⟨Nat.zero_le _, Nat.zero_le _⟩ dX12_others_188
                · replace h := aw_ifp c37 h
                  refine aw_iload (pc := 181) (q := 3) dX12_others_181 rfl ?_
                  refine aw_goto (pc := 183) (tgt := 188) dX12_others_183 (by decide) ?_
                  cases h
                  subst hE
                  exact aw_iret (v := x32.2.2.1) rfl aw_ni ⟨Nat.zero_le _, Nat.zero_le _⟩ dX12_others_188
              · replace h := aw_ifp c36 h
                refine aw_iload (pc := 171) (q := 2) dX12_others_171 rfl ?_
                refine aw_goto (pc := 173) (tgt := 188) dX12_others_173 (by decide) ?_
                cases h
                subst hE
                exact aw_iret (v := x32.2.1) rfl aw_ni ⟨Nat.zero_le _, Nat.zero_le _⟩ dX12_others_188
            · replace h := aw_ifp c35 h
              refine aw_iload_n (pc := 162) (q := 1) dX12_others_162 rfl ?_
              refine aw_goto (pc := 163) (tgt := 188) dX12_others_163 (by decide) ?_
              cases h
              subst hE
              exact aw_iret (v := x32.1) rfl aw_ni ⟨Nat.zero_le _, Nat.zero_le _⟩ dX12_others_188
          refine aw_sub [5, 6, 7, 4, 3, 2, 1, 0] rfl ?_
          show z_Rf_others_X50 l G E p1 p2 (((0 : Int32), (0 : Int32), (-1 : Int32), (-1 : Int32), (0 : Int32), σ))
          exact aw_lp_X (Xp := z_Rf_others_X50 l G E p1 p2) (Y := z_Rf_others_Y50 l G E p1 p2) hl33 K34 (fun s t hf hz => t_Rf_others_B50 hf hz)
        · replace h := aw_ifp c8 h
          refine aw_bipush (pc := 33) (v := -2) dX12_others_33 (by decide) ?_
          cases h
          subst hE
          exact aw_iret (v := (-2 : Int32)) rfl aw_ni ⟨Nat.zero_le _, Nat.zero_le _⟩ dX12_others_35
theorem c_Rf_others {l : Launch} {G : aw_G} {σ : aw_S} {p1 : Int32} {p2 : Int32} {t : (Int32 × aw_S)} (h : m_Rf_others σ p1 p2 = some t) : aw_Ct l yX12_others M_Rf_others G B_Rf_others [.ref 0, .int p1, .int p2] xB σ (some (.int t.1), xB, t.2) := aw_Ct_of (by decide) rfl (fun h => by cases h) (Nat.le_of_ble_eq_true rfl) (t_Rf_others h rfl)
/-! LateMoverModel.costs(II)I -/
def z_Rf_costs_X43 (l : Launch) (G : aw_G) (E : aw_E) (σ : aw_S) (v1 : Int32) (v2 : Int32) (s : Int32 × Int32) : Prop := aw_W l M_Rf_costs G B_Rf_costs E 43 [(0, .ref 0), (1, .int v1), (2, .int v2), (3, .int s.1), (4, .int s.2)] [] xB σ 0 0
def z_Rf_costs_Y43 (l : Launch) (G : aw_G) (E : aw_E) (σ : aw_S) (v1 : Int32) (v2 : Int32) (x : (Int32)) : Prop := aw_W l M_Rf_costs G B_Rf_costs E 88 [(3, .int x)] [] xB σ 0 0
set_option maxRecDepth 100000 in
set_option maxHeartbeats 4000000 in
theorem t_Rf_costs_J80 {l : Launch} {G : aw_G} {E : aw_E} {σ : aw_S} {v1 : Int32} {v2 : Int32} {v4 : Int32} {k0 : Int32} {k1 : Int32} {t : (Int32) ⊕ (Int32 × Int32)} (h : m_Rf_costs_J80 σ v1 v2 v4 k0 k1 = some t) (hz : Sum.elim (z_Rf_costs_Y43 l G E σ v1 v2) (z_Rf_costs_X43 l G E σ v1 v2) t) : aw_W l M_Rf_costs G B_Rf_costs E 80 [(0, .ref 0), (1, .int v1), (2, .int v2), (4, .int v4)] [.int k1, .int k0] xB σ 0 0 := by
  unfold m_Rf_costs_J80 at h
  refine aw_iadd (pc := 80) dX12_costs_80 ?_
  refine aw_nmI (fun x11 e_x11 => ?_)
  replace h := aw_lte h x11 e_x11
  refine aw_istore_n (pc := 81) [(3, .int x11), (0, .ref 0), (1, .int v1), (2, .int v2), (4, .int v4)] dX12_costs_81 (by decide) rfl ?_
  obtain ⟨x12, e_x12⟩ : ∃ z, z = (v4 + (1 : Int32)) := ⟨_, rfl⟩
  replace h := aw_lte h x12 e_x12
  refine aw_iinc (pc := 82) (q := 4) (v := x12) [(4, .int x12), (3, .int x11), (0, .ref 0), (1, .int v1), (2, .int v2)] dX12_costs_82 rfl e_x12.symm (by decide) rfl ?_
  refine aw_goto (pc := 85) (tgt := 43) dX12_costs_85 (by decide) ?_
  refine aw_sub [2, 3, 4, 1, 0] rfl ?_
  cases h
  exact hz
set_option maxRecDepth 100000 in
set_option maxHeartbeats 4000000 in
theorem t_Rf_costs_B43 {l : Launch} {G : aw_G} {E : aw_E} {σ : aw_S} {v1 : Int32} {v2 : Int32} {v3 : Int32} {v4 : Int32} {t : (Int32) ⊕ (Int32 × Int32)} (h : m_Rf_costs_B43 σ v1 v2 v3 v4 = some t) (hz : Sum.elim (z_Rf_costs_Y43 l G E σ v1 v2) (z_Rf_costs_X43 l G E σ v1 v2) t) : aw_W l M_Rf_costs G B_Rf_costs E 43 [(0, .ref 0), (1, .int v1), (2, .int v2), (3, .int v3), (4, .int v4)] [] xB σ 0 0 := by
  unfold m_Rf_costs_B43 at h
  refine aw_iload (pc := 43) (q := 4) dX12_costs_43 rfl ?_
  refine aw_aload_n (pc := 45) (q := 0) dX12_costs_45 rfl ?_
  refine aw_iconst (pc := 46) (v := 2) dX12_costs_46 (by decide) ?_
  obtain ⟨r3, e4, h⟩ := aw_bde h
  refine aw_cV1 (pc := 47) [.int ((2 : Int32))] (c_Rf_get e4) yy_Rf_get.1 wm_736 yy_Rf_get.2.1 yy_Rf_get.2.2 xB_0 ⟨_, _, rfl⟩ rfl ⟨Nat.le_of_ble_eq_true rfl, Nat.le_of_ble_eq_true rfl⟩ ⟨Nat.zero_le _, Nat.zero_le _⟩ (Nat.le_of_ble_eq_true rfl) dX12_costs_47 ?_
  refine aw_icmp_ge (pc := 50) (tgt := 88) dX12_costs_50 (by decide) (fun c5 => ?_) (fun c5 => ?_)
  · replace h := aw_ifp c5 h
    refine aw_sub [3] rfl ?_
    cases h
    exact hz
  · replace h := aw_ifn c5 h
    refine aw_iload_n (pc := 53) (q := 2) dX12_costs_53 rfl ?_
    refine aw_iconst (pc := 54) (v := -1) dX12_costs_54 (by decide) ?_
    refine aw_icmp_eq (pc := 55) (tgt := 88) dX12_costs_55 (by decide) (fun c6 => ?_) (fun c6 => ?_)
    · replace h := aw_ifp c6 h
      refine aw_sub [3] rfl ?_
      cases h
      exact hz
    · replace h := aw_ifn c6 h
      refine aw_iload_n (pc := 58) (q := 3) dX12_costs_58 rfl ?_
      refine aw_aload_n (pc := 59) (q := 0) dX12_costs_59 rfl ?_
      refine aw_getC (pc := 60) fd_X12_52.r xB_0 rfl dX12_costs_60 ?_
      refine aw_iload_n (pc := 63) (q := 2) dX12_costs_63 rfl ?_
      refine aw_iconst (pc := 64) (v := 0) dX12_costs_64 (by decide) ?_
      refine aw_iload (pc := 65) (q := 4) dX12_costs_65 rfl ?_
      refine aw_iload_n (pc := 67) (q := 1) dX12_costs_67 rfl ?_
      obtain ⟨r7, e8, h⟩ := aw_bde h
      refine aw_cS1 (pc := 68) [.int v2, .int ((0 : Int32)), .int v4, .int v1] (c_Rf_at e8) yy_Rf_at.1 wm_827 yy_Rf_at.2 rfl ⟨Nat.le_of_ble_eq_true rfl, Nat.le_of_ble_eq_true rfl⟩ ⟨Nat.zero_le _, Nat.zero_le _⟩ (Nat.le_of_ble_eq_true rfl) dX12_costs_68 ?_
      obtain ⟨g9, h⟩ := aw_gde h
      refine aw_zald (pc := 71) xB_13 g9 dX12_costs_71 ?_
      refine aw_if_eq (pc := 72) (tgt := 79) dX12_costs_72 (by decide) (fun c10 => ?_) (fun c10 => ?_)
      · replace h := aw_ifp c10 h
        refine aw_iconst (pc := 79) (v := 0) dX12_costs_79 (by decide) ?_
        refine aw_sub [0, 1, 2, 4] rfl ?_
        exact t_Rf_costs_J80 h hz
      · replace h := aw_ifn c10 h
        refine aw_iconst (pc := 75) (v := 1) dX12_costs_75 (by decide) ?_
        refine aw_goto (pc := 76) (tgt := 80) dX12_costs_76 (by decide) ?_
        refine aw_sub [0, 1, 2, 4] rfl ?_
        exact t_Rf_costs_J80 h hz
set_option maxRecDepth 100000 in
set_option maxHeartbeats 4000000 in
theorem t_Rf_costs_J39 {l : Launch} {G : aw_G} {E : aw_E} {σ : aw_S} {v1 : Int32} {v2 : Int32} {k0 : Int32} {t : Int32} (h : m_Rf_costs_J39 σ v1 v2 k0 = some t) (hE : E = (some (.int t), xB, σ)) : aw_W l M_Rf_costs G B_Rf_costs E 39 [(0, .ref 0), (1, .int v1), (2, .int v2)] [.int k0] xB σ 0 0 := by
  unfold m_Rf_costs_J39 at h
  refine aw_istore_n (pc := 39) [(3, .int k0), (0, .ref 0), (1, .int v1), (2, .int v2)] dX12_costs_39 (by decide) rfl ?_
  refine aw_iconst (pc := 40) (v := 0) dX12_costs_40 (by decide) ?_
  refine aw_istore (pc := 41) [(4, .int ((0 : Int32))), (3, .int k0), (0, .ref 0), (1, .int v1), (2, .int v2)] dX12_costs_41 (by decide) rfl ?_
  obtain ⟨x13, hl14, h⟩ := aw_bde h
  have K15 : z_Rf_costs_Y43 l G E σ v1 v2 x13 := by
    show aw_W l M_Rf_costs G B_Rf_costs E 88 [(3, .int x13)] [] xB σ 0 0
    refine aw_iload_n (pc := 88) (q := 0) dX12_costs_88 rfl ?_
    cases h
    subst hE
    exact aw_iret (v := _) rfl aw_ni ⟨Nat.zero_le _, Nat.zero_le _⟩ dX12_costs_89
  refine aw_sub [2, 3, 4, 1, 0] rfl ?_
  show z_Rf_costs_X43 l G E σ v1 v2 ((k0, (0 : Int32)))
  exact aw_lp_X (Xp := z_Rf_costs_X43 l G E σ v1 v2) (Y := z_Rf_costs_Y43 l G E σ v1 v2) hl14 K15 (fun s t hf hz => t_Rf_costs_B43 hf hz)
set_option maxRecDepth 100000 in
set_option maxHeartbeats 4000000 in
theorem t_Rf_costs_J38 {l : Launch} {G : aw_G} {E : aw_E} {σ : aw_S} {v1 : Int32} {v2 : Int32} {t : Int32} (h : m_Rf_costs_J38 σ v1 v2 = some t) (hE : E = (some (.int t), xB, σ)) : aw_W l M_Rf_costs G B_Rf_costs E 38 [(0, .ref 0), (1, .int v1), (2, .int v2)] [] xB σ 0 0 := by
  unfold m_Rf_costs_J38 at h
  refine aw_iconst (pc := 38) (v := 0) dX12_costs_38 (by decide) ?_
  exact t_Rf_costs_J39 h hE
set_option maxRecDepth 100000 in
set_option maxHeartbeats 4000000 in
theorem t_Rf_costs {l : Launch} {G : aw_G} {E : aw_E} {σ : aw_S} {p1 : Int32} {p2 : Int32} {t : Int32} (h : m_Rf_costs σ p1 p2 = some t) (hE : E = (some (.int t), xB, σ)) : aw_W l M_Rf_costs G B_Rf_costs E 0 [(0, .ref 0), (1, .int p1), (2, .int p2)] [] xB σ 0 0 := by
  unfold m_Rf_costs at h
  refine aw_aload_n (pc := 0) (q := 0) dX12_costs_0 rfl ?_
  refine aw_getC (pc := 1) fd_X12_24.r xB_0 rfl dX12_costs_1 ?_
  refine aw_iload_n (pc := 4) (q := 1) dX12_costs_4 rfl ?_
  obtain ⟨g1, h⟩ := aw_gde h
  refine aw_iald (pc := 5) xB_4 g1 dX12_costs_5 ?_
  refine aw_iconst (pc := 6) (v := 2) dX12_costs_6 (by decide) ?_
  refine aw_icmp_ne (pc := 7) (tgt := 38) dX12_costs_7 (by decide) (fun c2 => ?_) (fun c2 => ?_)
  · replace h := aw_ifn c2 h
    exact t_Rf_costs_J38 h hE
  · replace h := aw_ifp c2 h
    refine aw_iload_n (pc := 10) (q := 2) dX12_costs_10 rfl ?_
    refine aw_iconst (pc := 11) (v := -1) dX12_costs_11 (by decide) ?_
    refine aw_icmp_eq (pc := 12) (tgt := 34) dX12_costs_12 (by decide) (fun c16 => ?_) (fun c16 => ?_)
    · replace h := aw_ifp c16 h
      refine aw_iconst (pc := 34) (v := 1) dX12_costs_34 (by decide) ?_
      refine aw_goto (pc := 35) (tgt := 39) dX12_costs_35 (by decide) ?_
      exact t_Rf_costs_J39 h hE
    · replace h := aw_ifn c16 h
      refine aw_aload_n (pc := 15) (q := 0) dX12_costs_15 rfl ?_
      refine aw_getC (pc := 16) fd_X12_52.r xB_0 rfl dX12_costs_16 ?_
      refine aw_iload_n (pc := 19) (q := 2) dX12_costs_19 rfl ?_
      refine aw_iconst (pc := 20) (v := 1) dX12_costs_20 (by decide) ?_
      refine aw_aload_n (pc := 21) (q := 0) dX12_costs_21 rfl ?_
      refine aw_iload_n (pc := 22) (q := 1) dX12_costs_22 rfl ?_
      obtain ⟨r17, e18, h⟩ := aw_bde h
      refine aw_cV1 (pc := 23) [.int p1] (c_Rf_expressionOf e18) yy_Rf_expressionOf.1 wm_776 yy_Rf_expressionOf.2.1 yy_Rf_expressionOf.2.2 xB_0 ⟨_, _, rfl⟩ rfl ⟨Nat.le_of_ble_eq_true rfl, Nat.le_of_ble_eq_true rfl⟩ ⟨Nat.zero_le _, Nat.zero_le _⟩ (Nat.le_of_ble_eq_true rfl) dX12_costs_23 ?_
      refine aw_iload_n (pc := 26) (q := 1) dX12_costs_26 rfl ?_
      obtain ⟨r19, e20, h⟩ := aw_bde h
      refine aw_cS1 (pc := 27) [.int p2, .int ((1 : Int32)), .int r17, .int p1] (c_Rf_at e20) yy_Rf_at.1 wm_827 yy_Rf_at.2 rfl ⟨Nat.le_of_ble_eq_true rfl, Nat.le_of_ble_eq_true rfl⟩ ⟨Nat.zero_le _, Nat.zero_le _⟩ (Nat.le_of_ble_eq_true rfl) dX12_costs_27 ?_
      obtain ⟨g21, h⟩ := aw_gde h
      refine aw_zald (pc := 30) xB_13 g21 dX12_costs_30 ?_
      refine aw_if_ne (pc := 31) (tgt := 38) dX12_costs_31 (by decide) (fun c22 => ?_) (fun c22 => ?_)
      · replace h := aw_ifn c22 h
        exact t_Rf_costs_J38 h hE
      · replace h := aw_ifp c22 h
        refine aw_iconst (pc := 34) (v := 1) dX12_costs_34 (by decide) ?_
        refine aw_goto (pc := 35) (tgt := 39) dX12_costs_35 (by decide) ?_
        exact t_Rf_costs_J39 h hE
theorem c_Rf_costs {l : Launch} {G : aw_G} {σ : aw_S} {p1 : Int32} {p2 : Int32} {t : Int32} (h : m_Rf_costs σ p1 p2 = some t) : aw_Ct l yX12_costs M_Rf_costs G B_Rf_costs [.ref 0, .int p1, .int p2] xB σ (some (.int t), xB, σ) := aw_Ct_of (by decide) rfl (fun h => by cases h) (Nat.le_of_ble_eq_true rfl) (t_Rf_costs h rfl)
/-! LateMoverModel.goOn(III)V -/
set_option maxRecDepth 100000 in
set_option maxHeartbeats 4000000 in
theorem t_Rf_goOn_J160 {l : Launch} {G : aw_G} {E : aw_E} {σ : aw_S} {k1 : Int32} {k2 : Int32} {t : aw_S} (h : m_Rf_goOn_J160 σ k1 k2 = some t) (hE : E = (none, xB, t)) : aw_W l M_Rf_goOn G B_Rf_goOn E 160 [] [.int k2, .int k1, .ref 32] xB σ 0 0 := by
  unfold m_Rf_goOn_J160 at h
  obtain ⟨g20, h⟩ := aw_gde h
  refine aw_iast (pc := 160) xB_32 g20 dX12_goOn_160 ?_
  refine aw_nmS (fun s21 e_s21 => ?_)
  replace h := aw_lte h s21 e_s21
  cases h
  subst hE
  exact aw_vret rfl ⟨Nat.zero_le _, Nat.zero_le _⟩ dX12_goOn_161
set_option maxRecDepth 100000 in
set_option maxHeartbeats 4000000 in
theorem t_Rf_goOn_J149 {l : Launch} {G : aw_G} {E : aw_E} {σ : aw_S} {v6 : Int32} {k1 : Int32} {t : aw_S} (h : m_Rf_goOn_J149 σ v6 k1 = some t) (hE : E = (none, xB, t)) : aw_W l M_Rf_goOn G B_Rf_goOn E 149 [(6, .int v6)] [.int k1, .ref 32] xB σ 0 0 := by
  unfold m_Rf_goOn_J149 at h
  refine aw_iload (pc := 149) (q := 0) dX12_goOn_149 rfl ?_
  refine aw_goto (pc := 151) (tgt := 160) dX12_goOn_151 (by decide) ?_
  refine aw_sub [] rfl ?_
  exact t_Rf_goOn_J160 h hE
set_option maxRecDepth 100000 in
set_option maxHeartbeats 4000000 in
theorem t_Rf_goOn_J127 {l : Launch} {G : aw_G} {E : aw_E} {σ : aw_S} {v2 : Int32} {v4 : Int32} {v6 : Int32} {k1 : Int32} {k2 : Int32} {t : aw_S} (h : m_Rf_goOn_J127 σ v2 v4 v6 k1 k2 = some t) (hE : E = (none, xB, t)) : aw_W l M_Rf_goOn G B_Rf_goOn E 127 [(0, .ref 0), (2, .int v2), (4, .int v4), (6, .int v6)] [.int k2, .int k1, .ref 30] xB σ 0 0 := by
  unfold m_Rf_goOn_J127 at h
  obtain ⟨g17, h⟩ := aw_gde h
  refine aw_iast (pc := 127) xB_30 g17 dX12_goOn_127 ?_
  refine aw_nmS (fun s18 e_s18 => ?_)
  replace h := aw_lte h s18 e_s18
  refine aw_aload_n (pc := 128) (q := 0) dX12_goOn_128 rfl ?_
  refine aw_getC (pc := 129) fd_X12_110.r xB_0 rfl dX12_goOn_129 ?_
  refine aw_iload_n (pc := 132) (q := 1) dX12_goOn_132 rfl ?_
  refine aw_iload (pc := 133) (q := 2) dX12_goOn_133 rfl ?_
  refine aw_if_ne (pc := 135) (tgt := 149) dX12_goOn_135 (by decide) (fun c19 => ?_) (fun c19 => ?_)
  · replace h := aw_ifn c19 h
    refine aw_sub [3] rfl ?_
    exact t_Rf_goOn_J149 h hE
  · replace h := aw_ifp c19 h
    refine aw_iload (pc := 138) (q := 3) dX12_goOn_138 rfl ?_
    refine aw_aload_n (pc := 140) (q := 0) dX12_goOn_140 rfl ?_
    refine aw_getC (pc := 141) fd_X12_110.r xB_0 rfl dX12_goOn_141 ?_
    refine aw_iload_n (pc := 144) (q := 1) dX12_goOn_144 rfl ?_
    obtain ⟨g22, h⟩ := aw_gde h
    refine aw_iald (pc := 145) xB_32 g22 dX12_goOn_145 ?_
    refine aw_icmp_le (pc := 146) (tgt := 154) dX12_goOn_146 (by decide) (fun c23 => ?_) (fun c23 => ?_)
    · replace h := aw_ifp c23 h
      refine aw_aload_n (pc := 154) (q := 0) dX12_goOn_154 rfl ?_
      refine aw_getC (pc := 155) fd_X12_110.r xB_0 rfl dX12_goOn_155 ?_
      refine aw_iload_n (pc := 158) (q := 1) dX12_goOn_158 rfl ?_
      obtain ⟨g24, h⟩ := aw_gde h
      refine aw_iald (pc := 159) xB_32 g24 dX12_goOn_159 ?_
      refine aw_sub [] rfl ?_
      exact t_Rf_goOn_J160 h hE
    · replace h := aw_ifn c23 h
      refine aw_sub [3] rfl ?_
      exact t_Rf_goOn_J149 h hE
set_option maxRecDepth 100000 in
set_option maxHeartbeats 4000000 in
theorem t_Rf_goOn_J116 {l : Launch} {G : aw_G} {E : aw_E} {σ : aw_S} {v2 : Int32} {v4 : Int32} {v5 : Int32} {v6 : Int32} {k1 : Int32} {t : aw_S} (h : m_Rf_goOn_J116 σ v2 v4 v5 v6 k1 = some t) (hE : E = (none, xB, t)) : aw_W l M_Rf_goOn G B_Rf_goOn E 116 [(0, .ref 0), (2, .int v2), (4, .int v4), (5, .int v5), (6, .int v6)] [.int k1, .ref 30] xB σ 0 0 := by
  unfold m_Rf_goOn_J116 at h
  refine aw_iload (pc := 116) (q := 3) dX12_goOn_116 rfl ?_
  refine aw_goto (pc := 118) (tgt := 127) dX12_goOn_118 (by decide) ?_
  refine aw_sub [0, 1, 2, 4] rfl ?_
  exact t_Rf_goOn_J127 h hE
set_option maxRecDepth 100000 in
set_option maxHeartbeats 4000000 in
theorem t_Rf_goOn_J74 {l : Launch} {G : aw_G} {E : aw_E} {σ : aw_S} {v1 : Int32} {v2 : Int32} {v3 : Int32} {v4 : Int32} {k1 : Int32} {k2 : Int64} {t : aw_S} (h : m_Rf_goOn_J74 σ v1 v2 v3 v4 k1 k2 = some t) (hE : E = (none, xB, t)) : aw_W l M_Rf_goOn G B_Rf_goOn E 74 [(0, .ref 0), (1, .int v1), (2, .int v2), (3, .int v3), (4, .int v4)] [.long k2, .int k1, .ref 28] xB σ 0 0 := by
  unfold m_Rf_goOn_J74 at h
  obtain ⟨g10, h⟩ := aw_gde h
  refine aw_last (pc := 74) xB_28 g10 dX12_goOn_74 ?_
  refine aw_nmS (fun s11 e_s11 => ?_)
  replace h := aw_lte h s11 e_s11
  refine aw_aload_n (pc := 75) (q := 0) dX12_goOn_75 rfl ?_
  refine aw_getC (pc := 76) fd_X12_101.r xB_0 rfl dX12_goOn_76 ?_
  refine aw_iload_n (pc := 79) (q := 1) dX12_goOn_79 rfl ?_
  obtain ⟨g12, h⟩ := aw_gde h
  refine aw_iald (pc := 80) xB_29 g12 dX12_goOn_80 ?_
  refine aw_iload_n (pc := 81) (q := 3) dX12_goOn_81 rfl ?_
  refine aw_iadd (pc := 82) dX12_goOn_82 ?_
  refine aw_nmI (fun x13 e_x13 => ?_)
  replace h := aw_lte h x13 e_x13
  refine aw_istore (pc := 83) [(5, .int x13), (0, .ref 0), (1, .int v1), (2, .int v2), (3, .int v3), (4, .int v4)] dX12_goOn_83 (by decide) rfl ?_
  refine aw_aload_n (pc := 85) (q := 1) dX12_goOn_85 rfl ?_
  refine aw_getC (pc := 86) fd_X12_107.r xB_0 rfl dX12_goOn_86 ?_
  refine aw_iload_n (pc := 89) (q := 2) dX12_goOn_89 rfl ?_
  obtain ⟨g14, h⟩ := aw_gde h
  refine aw_iald (pc := 90) xB_31 g14 dX12_goOn_90 ?_
  refine aw_iload_n (pc := 91) (q := 4) dX12_goOn_91 rfl ?_
  refine aw_iadd (pc := 92) dX12_goOn_92 ?_
  refine aw_nmI (fun x15 e_x15 => ?_)
  replace h := aw_lte h x15 e_x15
  refine aw_istore (pc := 93) [(6, .int x15), (5, .int x13), (0, .ref 0), (1, .int v1), (2, .int v2), (3, .int v3), (4, .int v4)] dX12_goOn_93 (by decide) rfl ?_
  refine aw_aload_n (pc := 95) (q := 2) dX12_goOn_95 rfl ?_
  refine aw_getC (pc := 96) fd_X12_104.r xB_0 rfl dX12_goOn_96 ?_
  refine aw_iload_n (pc := 99) (q := 4) dX12_goOn_99 rfl ?_
  refine aw_iload (pc := 100) (q := 6) dX12_goOn_100 rfl ?_
  refine aw_if_ne (pc := 102) (tgt := 116) dX12_goOn_102 (by decide) (fun c16 => ?_) (fun c16 => ?_)
  · replace h := aw_ifn c16 h
    refine aw_sub [2, 4, 6, 1, 0] rfl ?_
    exact t_Rf_goOn_J116 h hE
  · replace h := aw_ifp c16 h
    refine aw_iload (pc := 105) (q := 1) dX12_goOn_105 rfl ?_
    refine aw_aload_n (pc := 107) (q := 2) dX12_goOn_107 rfl ?_
    refine aw_getC (pc := 108) fd_X12_104.r xB_0 rfl dX12_goOn_108 ?_
    refine aw_iload_n (pc := 111) (q := 4) dX12_goOn_111 rfl ?_
    obtain ⟨g25, h⟩ := aw_gde h
    refine aw_iald (pc := 112) xB_30 g25 dX12_goOn_112 ?_
    refine aw_icmp_ge (pc := 113) (tgt := 121) dX12_goOn_113 (by decide) (fun c26 => ?_) (fun c26 => ?_)
    · replace h := aw_ifp c26 h
      refine aw_aload_n (pc := 121) (q := 2) dX12_goOn_121 rfl ?_
      refine aw_getC (pc := 122) fd_X12_104.r xB_0 rfl dX12_goOn_122 ?_
      refine aw_iload_n (pc := 125) (q := 4) dX12_goOn_125 rfl ?_
      obtain ⟨g27, h⟩ := aw_gde h
      refine aw_iald (pc := 126) xB_30 g27 dX12_goOn_126 ?_
      refine aw_sub [2, 4, 6, 0] rfl ?_
      exact t_Rf_goOn_J127 h hE
    · replace h := aw_ifn c26 h
      refine aw_sub [2, 4, 6, 1, 0] rfl ?_
      exact t_Rf_goOn_J116 h hE
set_option maxRecDepth 100000 in
set_option maxHeartbeats 4000000 in
theorem t_Rf_goOn_J28 {l : Launch} {G : aw_G} {E : aw_E} {σ : aw_S} {v1 : Int32} {v2 : Int32} {v3 : Int32} {k0 : Int32} {t : aw_S} (h : m_Rf_goOn_J28 σ v1 v2 v3 k0 = some t) (hE : E = (none, xB, t)) : aw_W l M_Rf_goOn G B_Rf_goOn E 28 [(0, .ref 0), (1, .int v1), (2, .int v2), (3, .int v3)] [.int k0] xB σ 0 0 := by
  unfold m_Rf_goOn_J28 at h
  refine aw_istore (pc := 28) [(4, .int k0), (0, .ref 0), (1, .int v1), (2, .int v2), (3, .int v3)] dX12_goOn_28 (by decide) rfl ?_
  refine aw_aload_n (pc := 30) (q := 1) dX12_goOn_30 rfl ?_
  refine aw_getC (pc := 31) fd_X12_98.r xB_0 rfl dX12_goOn_31 ?_
  refine aw_iload_n (pc := 34) (q := 3) dX12_goOn_34 rfl ?_
  refine aw_aload_n (pc := 35) (q := 1) dX12_goOn_35 rfl ?_
  refine aw_getC (pc := 36) fd_X12_98.r xB_0 rfl dX12_goOn_36 ?_
  refine aw_iload_n (pc := 39) (q := 3) dX12_goOn_39 rfl ?_
  obtain ⟨g5, h⟩ := aw_gde h
  refine aw_lald (pc := 40) xB_28 g5 dX12_goOn_40 ?_
  refine aw_aload_n (pc := 41) (q := 1) dX12_goOn_41 rfl ?_
  refine aw_getC (pc := 42) fd_X12_94.r xB_0 rfl dX12_goOn_42 ?_
  refine aw_iload_n (pc := 45) (q := 2) dX12_goOn_45 rfl ?_
  obtain ⟨g6, h⟩ := aw_gde h
  refine aw_lald (pc := 46) xB_27 g6 dX12_goOn_46 ?_
  refine aw_ladd (pc := 47) dX12_goOn_47 ?_
  refine aw_ldc2 (pc := 48) (v := 1000000000000) dX12_goOn_48 wm_1473 ?_
  refine aw_lcmp (pc := 51) dX12_goOn_51 ?_
  refine aw_if_le (pc := 52) (tgt := 61) dX12_goOn_52 (by decide) (fun c7 => ?_) (fun c7 => ?_)
  · replace h := aw_ifp c7 h
    refine aw_aload_n (pc := 61) (q := 1) dX12_goOn_61 rfl ?_
    refine aw_getC (pc := 62) fd_X12_98.r xB_0 rfl dX12_goOn_62 ?_
    refine aw_iload_n (pc := 65) (q := 3) dX12_goOn_65 rfl ?_
    obtain ⟨g8, h⟩ := aw_gde h
    refine aw_lald (pc := 66) xB_28 g8 dX12_goOn_66 ?_
    refine aw_aload_n (pc := 67) (q := 1) dX12_goOn_67 rfl ?_
    refine aw_getC (pc := 68) fd_X12_94.r xB_0 rfl dX12_goOn_68 ?_
    refine aw_iload_n (pc := 71) (q := 2) dX12_goOn_71 rfl ?_
    obtain ⟨g9, h⟩ := aw_gde h
    refine aw_lald (pc := 72) xB_27 g9 dX12_goOn_72 ?_
    refine aw_ladd (pc := 73) dX12_goOn_73 ?_
    refine aw_sub [1, 2, 3, 4, 0] rfl ?_
    exact t_Rf_goOn_J74 h hE
  · replace h := aw_ifn c7 h
    refine aw_ldc2 (pc := 55) (v := 1000000000000) dX12_goOn_55 wm_1473 ?_
    refine aw_goto (pc := 58) (tgt := 74) dX12_goOn_58 (by decide) ?_
    refine aw_sub [1, 2, 3, 4, 0] rfl ?_
    exact t_Rf_goOn_J74 h hE
set_option maxRecDepth 100000 in
set_option maxHeartbeats 4000000 in
theorem t_Rf_goOn {l : Launch} {G : aw_G} {E : aw_E} {σ : aw_S} {p1 : Int32} {p2 : Int32} {p3 : Int32} {t : aw_S} (h : m_Rf_goOn σ p1 p2 p3 = some t) (hE : E = (none, xB, t)) : aw_W l M_Rf_goOn G B_Rf_goOn E 0 [(0, .ref 0), (1, .int p1), (2, .int p2), (3, .int p3)] [] xB σ 0 0 := by
  unfold m_Rf_goOn at h
  refine aw_aload_n (pc := 0) (q := 0) dX12_goOn_0 rfl ?_
  refine aw_getC (pc := 1) fd_X12_94.r xB_0 rfl dX12_goOn_1 ?_
  refine aw_iload_n (pc := 4) (q := 1) dX12_goOn_4 rfl ?_
  obtain ⟨g1, h⟩ := aw_gde h
  refine aw_lald (pc := 5) xB_27 g1 dX12_goOn_5 ?_
  refine aw_lconst (pc := 6) (v := 0) dX12_goOn_6 (by decide) ?_
  refine aw_lcmp (pc := 7) dX12_goOn_7 ?_
  refine aw_if_ne (pc := 8) (tgt := 12) dX12_goOn_8 (by decide) (fun c2 => ?_) (fun c2 => ?_)
  · replace h := aw_ifn c2 h
    refine aw_aload_n (pc := 12) (q := 0) dX12_goOn_12 rfl ?_
    refine aw_getC (pc := 13) fd_X12_98.r xB_0 rfl dX12_goOn_13 ?_
    refine aw_iload_n (pc := 16) (q := 2) dX12_goOn_16 rfl ?_
    obtain ⟨g3, h⟩ := aw_gde h
    refine aw_lald (pc := 17) xB_28 g3 dX12_goOn_17 ?_
    refine aw_lconst (pc := 18) (v := 0) dX12_goOn_18 (by decide) ?_
    refine aw_lcmp (pc := 19) dX12_goOn_19 ?_
    refine aw_if_ne (pc := 20) (tgt := 27) dX12_goOn_20 (by decide) (fun c4 => ?_) (fun c4 => ?_)
    · replace h := aw_ifn c4 h
      refine aw_iconst (pc := 27) (v := 0) dX12_goOn_27 (by decide) ?_
      exact t_Rf_goOn_J28 h hE
    · replace h := aw_ifp c4 h
      refine aw_iconst (pc := 23) (v := 1) dX12_goOn_23 (by decide) ?_
      refine aw_goto (pc := 24) (tgt := 28) dX12_goOn_24 (by decide) ?_
      exact t_Rf_goOn_J28 h hE
  · replace h := aw_ifp c2 h
    cases h
    subst hE
    exact aw_vret rfl ⟨Nat.zero_le _, Nat.zero_le _⟩ dX12_goOn_11
theorem c_Rf_goOn {l : Launch} {G : aw_G} {σ : aw_S} {p1 : Int32} {p2 : Int32} {p3 : Int32} {t : aw_S} (h : m_Rf_goOn σ p1 p2 p3 = some t) : aw_Ct l yX12_goOn M_Rf_goOn G B_Rf_goOn [.ref 0, .int p1, .int p2, .int p3] xB σ (none, xB, t) := aw_Ct_of (by decide) rfl (fun h => by cases h) (Nat.le_of_ble_eq_true rfl) (t_Rf_goOn h rfl)
/-! LateMoverModel.goFurther(I)V -/
def z_Rf_goFurther_X2 (l : Launch) (G : aw_G) (E : aw_E) (v1 : Int32) (s : Int32 × aw_S) : Prop := aw_W l M_Rf_goFurther G B_Rf_goFurther E 2 [(0, .ref 0), (1, .int v1), (2, .int s.1)] [] xB s.2 0 0
def z_Rf_goFurther_Y2 (l : Launch) (G : aw_G) (E : aw_E) (v1 : Int32) (x : (aw_S)) : Prop := aw_W l M_Rf_goFurther G B_Rf_goFurther E 23 [(0, .ref 0), (1, .int v1)] [] xB x 0 0
def z_Rf_goFurther_X25 (l : Launch) (G : aw_G) (E : aw_E) (v1 : Int32) (s : Int32 × aw_S) : Prop := aw_W l M_Rf_goFurther G B_Rf_goFurther E 25 [(0, .ref 0), (1, .int v1), (2, .int s.1)] [] xB s.2 0 0
def z_Rf_goFurther_Y25 (l : Launch) (G : aw_G) (E : aw_E) (v1 : Int32) (x : (aw_S)) : Prop := aw_W l M_Rf_goFurther G B_Rf_goFurther E 75 [(0, .ref 0)] [] xB x 0 0
def z_Rf_goFurther_X77 (l : Launch) (G : aw_G) (E : aw_E) (s : Int32 × aw_S) : Prop := aw_W l M_Rf_goFurther G B_Rf_goFurther E 77 [(0, .ref 0), (2, .int s.1)] [] xB s.2 0 0
def z_Rf_goFurther_Y77 (l : Launch) (G : aw_G) (E : aw_E) (x : (aw_S)) : Prop := aw_W l M_Rf_goFurther G B_Rf_goFurther E 127 [] [] xB x 0 0
set_option maxRecDepth 100000 in
set_option maxHeartbeats 4000000 in
theorem t_Rf_goFurther_B2 {l : Launch} {G : aw_G} {E : aw_E} {σ : aw_S} {v1 : Int32} {v2 : Int32} {t : (aw_S) ⊕ (Int32 × aw_S)} (h : m_Rf_goFurther_B2 σ v1 v2 = some t) (hz : Sum.elim (z_Rf_goFurther_Y2 l G E v1) (z_Rf_goFurther_X2 l G E v1) t) : aw_W l M_Rf_goFurther G B_Rf_goFurther E 2 [(0, .ref 0), (1, .int v1), (2, .int v2)] [] xB σ 0 0 := by
  unfold m_Rf_goFurther_B2 at h
  refine aw_iload_n (pc := 2) (q := 2) dX12_goFurther_2 rfl ?_
  refine aw_aload_n (pc := 3) (q := 0) dX12_goFurther_3 rfl ?_
  refine aw_getI (pc := 4) fd_X12_215.r xB_0 rfl dX12_goFurther_4 ?_
  refine aw_icmp_ge (pc := 7) (tgt := 23) dX12_goFurther_7 (by decide) (fun c1 => ?_) (fun c1 => ?_)
  · replace h := aw_ifp c1 h
    refine aw_sub [0, 1] rfl ?_
    cases h
    exact hz
  · replace h := aw_ifn c1 h
    refine aw_aload_n (pc := 10) (q := 0) dX12_goFurther_10 rfl ?_
    refine aw_getC (pc := 11) fd_X12_98.r xB_0 rfl dX12_goFurther_11 ?_
    refine aw_iload_n (pc := 14) (q := 2) dX12_goFurther_14 rfl ?_
    refine aw_lconst (pc := 15) (v := 0) dX12_goFurther_15 (by decide) ?_
    obtain ⟨g2, h⟩ := aw_gde h
    refine aw_last (pc := 16) xB_28 g2 dX12_goFurther_16 ?_
    refine aw_nmS (fun s3 e_s3 => ?_)
    replace h := aw_lte h s3 e_s3
    obtain ⟨x4, e_x4⟩ : ∃ z, z = (v2 + (1 : Int32)) := ⟨_, rfl⟩
    replace h := aw_lte h x4 e_x4
    refine aw_iinc (pc := 17) (q := 2) (v := x4) [(2, .int x4), (0, .ref 0), (1, .int v1)] dX12_goFurther_17 rfl e_x4.symm (by decide) rfl ?_
    refine aw_goto (pc := 20) (tgt := 2) dX12_goFurther_20 (by decide) ?_
    refine aw_sub [1, 2, 0] rfl ?_
    cases h
    exact hz
set_option maxRecDepth 100000 in
set_option maxHeartbeats 4000000 in
theorem t_Rf_goFurther_J69 {l : Launch} {G : aw_G} {E : aw_E} {σ : aw_S} {v1 : Int32} {v2 : Int32} {t : (aw_S) ⊕ (Int32 × aw_S)} (h : m_Rf_goFurther_J69 σ v1 v2 = some t) (hz : Sum.elim (z_Rf_goFurther_Y25 l G E v1) (z_Rf_goFurther_X25 l G E v1) t) : aw_W l M_Rf_goFurther G B_Rf_goFurther E 69 [(0, .ref 0), (1, .int v1), (2, .int v2)] [] xB σ 0 0 := by
  unfold m_Rf_goFurther_J69 at h
  obtain ⟨x11, e_x11⟩ : ∃ z, z = (v2 + (1 : Int32)) := ⟨_, rfl⟩
  replace h := aw_lte h x11 e_x11
  refine aw_iinc (pc := 69) (q := 2) (v := x11) [(2, .int x11), (0, .ref 0), (1, .int v1)] dX12_goFurther_69 rfl e_x11.symm (by decide) rfl ?_
  refine aw_goto (pc := 72) (tgt := 25) dX12_goFurther_72 (by decide) ?_
  refine aw_sub [1, 2, 0] rfl ?_
  cases h
  exact hz
set_option maxRecDepth 100000 in
set_option maxHeartbeats 4000000 in
theorem t_Rf_goFurther_B25 {l : Launch} {G : aw_G} {E : aw_E} {σ : aw_S} {v1 : Int32} {v2 : Int32} {t : (aw_S) ⊕ (Int32 × aw_S)} (h : m_Rf_goFurther_B25 σ v1 v2 = some t) (hz : Sum.elim (z_Rf_goFurther_Y25 l G E v1) (z_Rf_goFurther_X25 l G E v1) t) : aw_W l M_Rf_goFurther G B_Rf_goFurther E 25 [(0, .ref 0), (1, .int v1), (2, .int v2)] [] xB σ 0 0 := by
  unfold m_Rf_goFurther_B25 at h
  refine aw_iload_n (pc := 25) (q := 2) dX12_goFurther_25 rfl ?_
  refine aw_iconst (pc := 26) (v := 2) dX12_goFurther_26 (by decide) ?_
  refine aw_aload_n (pc := 27) (q := 0) dX12_goFurther_27 rfl ?_
  refine aw_getI (pc := 28) fd_X12_215.r xB_0 rfl dX12_goFurther_28 ?_
  refine aw_imul (pc := 31) dX12_goFurther_31 ?_
  refine aw_icmp_ge (pc := 32) (tgt := 75) dX12_goFurther_32 (by decide) (fun c8 => ?_) (fun c8 => ?_)
  · replace h := aw_ifp c8 h
    refine aw_sub [0] rfl ?_
    cases h
    exact hz
  · replace h := aw_ifn c8 h
    refine aw_aload_n (pc := 35) (q := 0) dX12_goFurther_35 rfl ?_
    refine aw_getC (pc := 36) fd_X12_33.r xB_0 rfl dX12_goFurther_36 ?_
    refine aw_iload_n (pc := 39) (q := 2) dX12_goFurther_39 rfl ?_
    obtain ⟨g9, h⟩ := aw_gde h
    refine aw_iald (pc := 40) xB_7 g9 dX12_goFurther_40 ?_
    refine aw_iconst (pc := 41) (v := -1) dX12_goFurther_41 (by decide) ?_
    refine aw_icmp_eq (pc := 42) (tgt := 69) dX12_goFurther_42 (by decide) (fun c10 => ?_) (fun c10 => ?_)
    · replace h := aw_ifp c10 h
      exact t_Rf_goFurther_J69 h hz
    · replace h := aw_ifn c10 h
      refine aw_aload_n (pc := 45) (q := 0) dX12_goFurther_45 rfl ?_
      refine aw_iload_n (pc := 46) (q := 2) dX12_goFurther_46 rfl ?_
      refine aw_iconst (pc := 47) (v := 2) dX12_goFurther_47 (by decide) ?_
      refine aw_idiv (pc := 48) dX12_goFurther_48 (by decide) ?_
      refine aw_aload_n (pc := 49) (q := 0) dX12_goFurther_49 rfl ?_
      refine aw_getC (pc := 50) fd_X12_33.r xB_0 rfl dX12_goFurther_50 ?_
      refine aw_iload_n (pc := 53) (q := 2) dX12_goFurther_53 rfl ?_
      obtain ⟨g12, h⟩ := aw_gde h
      refine aw_iald (pc := 54) xB_7 g12 dX12_goFurther_54 ?_
      refine aw_aload_n (pc := 55) (q := 0) dX12_goFurther_55 rfl ?_
      refine aw_aload_n (pc := 56) (q := 0) dX12_goFurther_56 rfl ?_
      refine aw_getC (pc := 57) fd_X12_33.r xB_0 rfl dX12_goFurther_57 ?_
      refine aw_iload_n (pc := 60) (q := 2) dX12_goFurther_60 rfl ?_
      obtain ⟨g13, h⟩ := aw_gde h
      refine aw_iald (pc := 61) xB_7 g13 dX12_goFurther_61 ?_
      refine aw_iload_n (pc := 62) (q := 1) dX12_goFurther_62 rfl ?_
      obtain ⟨r14, e15, h⟩ := aw_bde h
      refine aw_cV1 (pc := 63) [.int ((σ.1 7 v2.toNatClampNeg)), .int v1] (c_Rf_costs e15) yy_Rf_costs.1 wm_1325 yy_Rf_costs.2.1 yy_Rf_costs.2.2 xB_0 ⟨_, _, rfl⟩ rfl ⟨Nat.le_of_ble_eq_true rfl, Nat.le_of_ble_eq_true rfl⟩ ⟨Nat.zero_le _, Nat.zero_le _⟩ (Nat.le_of_ble_eq_true rfl) dX12_goFurther_63 ?_
      obtain ⟨s18, e17, h⟩ := aw_bde h
      refine aw_cV0 (pc := 66) [.int ((v2 / (2 : Int32))), .int ((σ.1 7 v2.toNatClampNeg)), .int r14] (c_Rf_goOn e17) yy_Rf_goOn.1 wm_1478 yy_Rf_goOn.2.1 yy_Rf_goOn.2.2 xB_0 ⟨_, _, rfl⟩ rfl ⟨Nat.le_of_ble_eq_true rfl, Nat.le_of_ble_eq_true rfl⟩ ⟨Nat.zero_le _, Nat.zero_le _⟩ (Nat.le_of_ble_eq_true rfl) dX12_goFurther_66 ?_
      exact t_Rf_goFurther_J69 h hz
set_option maxRecDepth 100000 in
set_option maxHeartbeats 4000000 in
theorem t_Rf_goFurther_B77 {l : Launch} {G : aw_G} {E : aw_E} {σ : aw_S} {v2 : Int32} {t : (aw_S) ⊕ (Int32 × aw_S)} (h : m_Rf_goFurther_B77 σ v2 = some t) (hz : Sum.elim (z_Rf_goFurther_Y77 l G E) (z_Rf_goFurther_X77 l G E) t) : aw_W l M_Rf_goFurther G B_Rf_goFurther E 77 [(0, .ref 0), (2, .int v2)] [] xB σ 0 0 := by
  unfold m_Rf_goFurther_B77 at h
  refine aw_iload_n (pc := 77) (q := 1) dX12_goFurther_77 rfl ?_
  refine aw_aload_n (pc := 78) (q := 0) dX12_goFurther_78 rfl ?_
  refine aw_getI (pc := 79) fd_X12_215.r xB_0 rfl dX12_goFurther_79 ?_
  refine aw_icmp_ge (pc := 82) (tgt := 127) dX12_goFurther_82 (by decide) (fun c22 => ?_) (fun c22 => ?_)
  · replace h := aw_ifp c22 h
    refine aw_sub [] rfl ?_
    cases h
    exact hz
  · replace h := aw_ifn c22 h
    refine aw_aload_n (pc := 85) (q := 0) dX12_goFurther_85 rfl ?_
    refine aw_getC (pc := 86) fd_X12_94.r xB_0 rfl dX12_goFurther_86 ?_
    refine aw_iload_n (pc := 89) (q := 1) dX12_goFurther_89 rfl ?_
    refine aw_aload_n (pc := 90) (q := 0) dX12_goFurther_90 rfl ?_
    refine aw_getC (pc := 91) fd_X12_98.r xB_0 rfl dX12_goFurther_91 ?_
    refine aw_iload_n (pc := 94) (q := 1) dX12_goFurther_94 rfl ?_
    obtain ⟨g23, h⟩ := aw_gde h
    refine aw_lald (pc := 95) xB_28 g23 dX12_goFurther_95 ?_
    obtain ⟨g24, h⟩ := aw_gde h
    refine aw_last (pc := 96) xB_27 g24 dX12_goFurther_96 ?_
    refine aw_nmS (fun s25 e_s25 => ?_)
    replace h := aw_lte h s25 e_s25
    refine aw_aload_n (pc := 97) (q := 0) dX12_goFurther_97 rfl ?_
    refine aw_getC (pc := 98) fd_X12_101.r xB_0 rfl dX12_goFurther_98 ?_
    refine aw_iload_n (pc := 101) (q := 1) dX12_goFurther_101 rfl ?_
    refine aw_aload_n (pc := 102) (q := 0) dX12_goFurther_102 rfl ?_
    refine aw_getC (pc := 103) fd_X12_104.r xB_0 rfl dX12_goFurther_103 ?_
    refine aw_iload_n (pc := 106) (q := 1) dX12_goFurther_106 rfl ?_
    obtain ⟨g26, h⟩ := aw_gde h
    refine aw_iald (pc := 107) xB_30 g26 dX12_goFurther_107 ?_
    obtain ⟨g27, h⟩ := aw_gde h
    refine aw_iast (pc := 108) xB_29 g27 dX12_goFurther_108 ?_
    refine aw_nmS (fun s28 e_s28 => ?_)
    replace h := aw_lte h s28 e_s28
    refine aw_aload_n (pc := 109) (q := 0) dX12_goFurther_109 rfl ?_
    refine aw_getC (pc := 110) fd_X12_107.r xB_0 rfl dX12_goFurther_110 ?_
    refine aw_iload_n (pc := 113) (q := 1) dX12_goFurther_113 rfl ?_
    refine aw_aload_n (pc := 114) (q := 0) dX12_goFurther_114 rfl ?_
    refine aw_getC (pc := 115) fd_X12_110.r xB_0 rfl dX12_goFurther_115 ?_
    refine aw_iload_n (pc := 118) (q := 1) dX12_goFurther_118 rfl ?_
    obtain ⟨g29, h⟩ := aw_gde h
    refine aw_iald (pc := 119) xB_32 g29 dX12_goFurther_119 ?_
    obtain ⟨g30, h⟩ := aw_gde h
    refine aw_iast (pc := 120) xB_31 g30 dX12_goFurther_120 ?_
    refine aw_nmS (fun s31 e_s31 => ?_)
    replace h := aw_lte h s31 e_s31
    obtain ⟨x32, e_x32⟩ : ∃ z, z = (v2 + (1 : Int32)) := ⟨_, rfl⟩
    replace h := aw_lte h x32 e_x32
    refine aw_iinc (pc := 121) (q := 1) (v := x32) [(2, .int x32), (0, .ref 0)] dX12_goFurther_121 rfl e_x32.symm (by decide) rfl ?_
    refine aw_goto (pc := 124) (tgt := 77) dX12_goFurther_124 (by decide) ?_
    refine aw_sub [1, 0] rfl ?_
    cases h
    exact hz
set_option maxRecDepth 100000 in
set_option maxHeartbeats 4000000 in
theorem t_Rf_goFurther {l : Launch} {G : aw_G} {E : aw_E} {σ : aw_S} {p1 : Int32} {t : aw_S} (h : m_Rf_goFurther σ p1 = some t) (hE : E = (none, xB, t)) : aw_W l M_Rf_goFurther G B_Rf_goFurther E 0 [(0, .ref 0), (1, .int p1)] [] xB σ 0 0 := by
  unfold m_Rf_goFurther at h
  refine aw_iconst (pc := 0) (v := 0) dX12_goFurther_0 (by decide) ?_
  refine aw_istore_n (pc := 1) [(2, .int ((0 : Int32))), (0, .ref 0), (1, .int p1)] dX12_goFurther_1 (by decide) rfl ?_
  obtain ⟨x5, hl6, h⟩ := aw_bde h
  have K7 : z_Rf_goFurther_Y2 l G E p1 x5 := by
    show aw_W l M_Rf_goFurther G B_Rf_goFurther E 23 [(0, .ref 0), (1, .int p1)] [] xB x5 0 0
    refine aw_iconst (pc := 23) (v := 0) dX12_goFurther_23 (by decide) ?_
    refine aw_istore_n (pc := 24) [(2, .int ((0 : Int32))), (0, .ref 0), (1, .int p1)] dX12_goFurther_24 (by decide) rfl ?_
    obtain ⟨x19, hl20, h⟩ := aw_bde h
    have K21 : z_Rf_goFurther_Y25 l G E p1 x19 := by
      show aw_W l M_Rf_goFurther G B_Rf_goFurther E 75 [(0, .ref 0)] [] xB x19 0 0
      refine aw_iconst (pc := 75) (v := 0) dX12_goFurther_75 (by decide) ?_
      refine aw_istore_n (pc := 76) [(2, .int ((0 : Int32))), (0, .ref 0)] dX12_goFurther_76 (by decide) rfl ?_
      obtain ⟨x33, hl34, h⟩ := aw_bde h
      have K35 : z_Rf_goFurther_Y77 l G E x33 := by
        show aw_W l M_Rf_goFurther G B_Rf_goFurther E 127 [] [] xB x33 0 0
        cases h
        subst hE
        exact aw_vret rfl ⟨Nat.zero_le _, Nat.zero_le _⟩ dX12_goFurther_127
      refine aw_sub [1, 0] rfl ?_
      show z_Rf_goFurther_X77 l G E (((0 : Int32), x19))
      exact aw_lp_X (Xp := z_Rf_goFurther_X77 l G E) (Y := z_Rf_goFurther_Y77 l G E) hl34 K35 (fun s t hf hz => t_Rf_goFurther_B77 hf hz)
    refine aw_sub [1, 2, 0] rfl ?_
    show z_Rf_goFurther_X25 l G E p1 (((0 : Int32), x5))
    exact aw_lp_X (Xp := z_Rf_goFurther_X25 l G E p1) (Y := z_Rf_goFurther_Y25 l G E p1) hl20 K21 (fun s t hf hz => t_Rf_goFurther_B25 hf hz)
  refine aw_sub [1, 2, 0] rfl ?_
  show z_Rf_goFurther_X2 l G E p1 (((0 : Int32), σ))
  exact aw_lp_X (Xp := z_Rf_goFurther_X2 l G E p1) (Y := z_Rf_goFurther_Y2 l G E p1) hl6 K7 (fun s t hf hz => t_Rf_goFurther_B2 hf hz)
theorem c_Rf_goFurther {l : Launch} {G : aw_G} {σ : aw_S} {p1 : Int32} {t : aw_S} (h : m_Rf_goFurther σ p1 = some t) : aw_Ct l yX12_goFurther M_Rf_goFurther G B_Rf_goFurther [.ref 0, .int p1] xB σ (none, xB, t) := aw_Ct_of (by decide) rfl (fun h => by cases h) (Nat.le_of_ble_eq_true rfl) (t_Rf_goFurther h rfl)
/-! LateMoverModel.ways(III)J -/
def z_Rf_ways_X34 (l : Launch) (G : aw_G) (E : aw_E) (v1 : Int32) (v2 : Int32) (v3 : Int32) (s : Int32 × aw_S) : Prop := aw_W l M_Rf_ways G B_Rf_ways E 34 [(0, .ref 0), (1, .int v1), (2, .int v2), (3, .int v3), (4, .int s.1)] [] xB s.2 0 0
def z_Rf_ways_Y34 (l : Launch) (G : aw_G) (E : aw_E) (v1 : Int32) (v2 : Int32) (v3 : Int32) (x : (aw_S)) : Prop := aw_W l M_Rf_ways G B_Rf_ways E 66 [(0, .ref 0), (1, .int v1), (2, .int v2), (3, .int v3)] [] xB x 0 0
def z_Rf_ways_X102 (l : Launch) (G : aw_G) (E : aw_E) (v1 : Int32) (v2 : Int32) (v3 : Int32) (s : Int64 × Int32 × Int32 × Int32 × aw_S) : Prop := aw_W l M_Rf_ways G B_Rf_ways E 102 [(0, .ref 0), (1, .int v1), (2, .int v2), (3, .int v3), (4, .long s.1), (6, .int s.2.1), (7, .int s.2.2.1), (8, .int s.2.2.2.1)] [] xB s.2.2.2.2 0 0
def z_Rf_ways_Y102 (l : Launch) (G : aw_G) (E : aw_E) (v1 : Int32) (v2 : Int32) (v3 : Int32) (x : (Int64 × Int32 × Int32 × aw_S)) : Prop := aw_W l M_Rf_ways G B_Rf_ways E 259 [(3, .int v3), (4, .long x.1), (6, .int x.2.1), (7, .int x.2.2.1)] [] xB x.2.2.2 0 0
def z_Rf_ways_X121 (l : Launch) (G : aw_G) (E : aw_E) (σ : aw_S) (v1 : Int32) (v2 : Int32) (v3 : Int32) (v8 : Int32) (s : Int64 × Int32 × Int32 × Int32) : Prop := aw_W l M_Rf_ways G B_Rf_ways E 121 [(0, .ref 0), (1, .int v1), (2, .int v2), (3, .int v3), (4, .long s.1), (6, .int s.2.1), (7, .int s.2.2.1), (8, .int v8), (9, .int s.2.2.2)] [] xB σ 0 0
def z_Rf_ways_Y121 (l : Launch) (G : aw_G) (E : aw_E) (σ : aw_S) (v1 : Int32) (v2 : Int32) (v3 : Int32) (v8 : Int32) (x : (Int64 × Int32 × Int32)) : Prop := aw_W l M_Rf_ways G B_Rf_ways E 253 [(0, .ref 0), (1, .int v1), (2, .int v2), (3, .int v3), (4, .long x.1), (6, .int x.2.1), (7, .int x.2.2), (8, .int v8)] [] xB σ 0 0
set_option maxRecDepth 100000 in
set_option maxHeartbeats 4000000 in
theorem t_Rf_ways_J27 {l : Launch} {G : aw_G} {E : aw_E} {σ : aw_S} {t : (Int64 × aw_S)} (h : m_Rf_ways_J27 σ = some t) (hE : E = (some (.long t.1), xB, t.2)) : aw_W l M_Rf_ways G B_Rf_ways E 27 [] [] xB σ 0 0 := by
  unfold m_Rf_ways_J27 at h
  refine aw_ldc2 (pc := 27) (v := -1) dX12_ways_27 wm_1323 ?_
  cases h
  subst hE
  exact aw_lret (v := (-1 : Int64)) rfl ⟨Nat.zero_le _, Nat.zero_le _⟩ dX12_ways_30
set_option maxRecDepth 100000 in
set_option maxHeartbeats 4000000 in
theorem t_Rf_ways_J59 {l : Launch} {G : aw_G} {E : aw_E} {σ : aw_S} {v1 : Int32} {v2 : Int32} {v3 : Int32} {v4 : Int32} {k1 : Int32} {k2 : Int64} {t : (aw_S) ⊕ (Int32 × aw_S)} (h : m_Rf_ways_J59 σ v1 v2 v3 v4 k1 k2 = some t) (hz : Sum.elim (z_Rf_ways_Y34 l G E v1 v2 v3) (z_Rf_ways_X34 l G E v1 v2 v3) t) : aw_W l M_Rf_ways G B_Rf_ways E 59 [(0, .ref 0), (1, .int v1), (2, .int v2), (3, .int v3), (4, .int v4)] [.long k2, .int k1, .ref 27] xB σ 0 0 := by
  unfold m_Rf_ways_J59 at h
  obtain ⟨g12, h⟩ := aw_gde h
  refine aw_last (pc := 59) xB_27 g12 dX12_ways_59 ?_
  refine aw_nmS (fun s13 e_s13 => ?_)
  replace h := aw_lte h s13 e_s13
  obtain ⟨x14, e_x14⟩ : ∃ z, z = (v4 + (1 : Int32)) := ⟨_, rfl⟩
  replace h := aw_lte h x14 e_x14
  refine aw_iinc (pc := 60) (q := 4) (v := x14) [(4, .int x14), (0, .ref 0), (1, .int v1), (2, .int v2), (3, .int v3)] dX12_ways_60 rfl e_x14.symm (by decide) rfl ?_
  refine aw_goto (pc := 63) (tgt := 34) dX12_ways_63 (by decide) ?_
  refine aw_sub [1, 2, 3, 4, 0] rfl ?_
  cases h
  exact hz
set_option maxRecDepth 100000 in
set_option maxHeartbeats 4000000 in
theorem t_Rf_ways_B34 {l : Launch} {G : aw_G} {E : aw_E} {σ : aw_S} {v1 : Int32} {v2 : Int32} {v3 : Int32} {v4 : Int32} {t : (aw_S) ⊕ (Int32 × aw_S)} (h : m_Rf_ways_B34 σ v1 v2 v3 v4 = some t) (hz : Sum.elim (z_Rf_ways_Y34 l G E v1 v2 v3) (z_Rf_ways_X34 l G E v1 v2 v3) t) : aw_W l M_Rf_ways G B_Rf_ways E 34 [(0, .ref 0), (1, .int v1), (2, .int v2), (3, .int v3), (4, .int v4)] [] xB σ 0 0 := by
  unfold m_Rf_ways_B34 at h
  refine aw_iload (pc := 34) (q := 4) dX12_ways_34 rfl ?_
  refine aw_aload_n (pc := 36) (q := 0) dX12_ways_36 rfl ?_
  refine aw_getI (pc := 37) fd_X12_215.r xB_0 rfl dX12_ways_37 ?_
  refine aw_icmp_ge (pc := 40) (tgt := 66) dX12_ways_40 (by decide) (fun c10 => ?_) (fun c10 => ?_)
  · replace h := aw_ifp c10 h
    refine aw_sub [0, 1, 2, 3] rfl ?_
    cases h
    exact hz
  · replace h := aw_ifn c10 h
    refine aw_aload_n (pc := 43) (q := 0) dX12_ways_43 rfl ?_
    refine aw_getC (pc := 44) fd_X12_94.r xB_0 rfl dX12_ways_44 ?_
    refine aw_iload (pc := 47) (q := 4) dX12_ways_47 rfl ?_
    refine aw_iload (pc := 49) (q := 4) dX12_ways_49 rfl ?_
    refine aw_if_ne (pc := 51) (tgt := 58) dX12_ways_51 (by decide) (fun c11 => ?_) (fun c11 => ?_)
    · replace h := aw_ifn c11 h
      refine aw_lconst (pc := 58) (v := 0) dX12_ways_58 (by decide) ?_
      exact t_Rf_ways_J59 h hz
    · replace h := aw_ifp c11 h
      refine aw_lconst (pc := 54) (v := 1) dX12_ways_54 (by decide) ?_
      refine aw_goto (pc := 55) (tgt := 59) dX12_ways_55 (by decide) ?_
      exact t_Rf_ways_J59 h hz
set_option maxRecDepth 100000 in
set_option maxHeartbeats 4000000 in
theorem t_Rf_ways_J247 {l : Launch} {G : aw_G} {E : aw_E} {σ : aw_S} {v1 : Int32} {v2 : Int32} {v3 : Int32} {v4 : Int64} {v6 : Int32} {v7 : Int32} {v8 : Int32} {v9 : Int32} {t : (Int64 × Int32 × Int32) ⊕ (Int64 × Int32 × Int32 × Int32)} (h : m_Rf_ways_J247 σ v1 v2 v3 v4 v6 v7 v8 v9 = some t) (hz : Sum.elim (z_Rf_ways_Y121 l G E σ v1 v2 v3 v8) (z_Rf_ways_X121 l G E σ v1 v2 v3 v8) t) : aw_W l M_Rf_ways G B_Rf_ways E 247 [(0, .ref 0), (1, .int v1), (2, .int v2), (3, .int v3), (4, .long v4), (6, .int v6), (7, .int v7), (8, .int v8), (9, .int v9)] [] xB σ 0 0 := by
  unfold m_Rf_ways_J247 at h
  obtain ⟨x30, e_x30⟩ : ∃ z, z = (v9 + (1 : Int32)) := ⟨_, rfl⟩
  replace h := aw_lte h x30 e_x30
  refine aw_iinc (pc := 247) (q := 8) (v := x30) [(9, .int x30), (0, .ref 0), (1, .int v1), (2, .int v2), (3, .int v3), (4, .long v4), (6, .int v6), (7, .int v7), (8, .int v8)] dX12_ways_247 rfl e_x30.symm (by decide) rfl ?_
  refine aw_goto (pc := 250) (tgt := 121) dX12_ways_250 (by decide) ?_
  refine aw_sub [1, 2, 3, 4, 5, 6, 7, 8, 0] rfl ?_
  cases h
  exact hz
set_option maxRecDepth 100000 in
set_option maxHeartbeats 4000000 in
theorem t_Rf_ways_J245 {l : Launch} {G : aw_G} {E : aw_E} {σ : aw_S} {v1 : Int32} {v2 : Int32} {v3 : Int32} {v4 : Int64} {v6 : Int32} {v8 : Int32} {v9 : Int32} {k0 : Int32} {t : (Int64 × Int32 × Int32) ⊕ (Int64 × Int32 × Int32 × Int32)} (h : m_Rf_ways_J245 σ v1 v2 v3 v4 v6 v8 v9 k0 = some t) (hz : Sum.elim (z_Rf_ways_Y121 l G E σ v1 v2 v3 v8) (z_Rf_ways_X121 l G E σ v1 v2 v3 v8) t) : aw_W l M_Rf_ways G B_Rf_ways E 245 [(0, .ref 0), (1, .int v1), (2, .int v2), (3, .int v3), (4, .long v4), (6, .int v6), (8, .int v8), (9, .int v9)] [.int k0] xB σ 0 0 := by
  unfold m_Rf_ways_J245 at h
  refine aw_istore (pc := 245) [(7, .int k0), (0, .ref 0), (1, .int v1), (2, .int v2), (3, .int v3), (4, .long v4), (6, .int v6), (8, .int v8), (9, .int v9)] dX12_ways_245 (by decide) rfl ?_
  refine aw_sub [1, 2, 3, 4, 5, 6, 0, 7, 8] rfl ?_
  exact t_Rf_ways_J247 h hz
set_option maxRecDepth 100000 in
set_option maxHeartbeats 4000000 in
theorem t_Rf_ways_J219 {l : Launch} {G : aw_G} {E : aw_E} {σ : aw_S} {v1 : Int32} {v2 : Int32} {v3 : Int32} {v4 : Int64} {v7 : Int32} {v8 : Int32} {v9 : Int32} {k0 : Int32} {t : (Int64 × Int32 × Int32) ⊕ (Int64 × Int32 × Int32 × Int32)} (h : m_Rf_ways_J219 σ v1 v2 v3 v4 v7 v8 v9 k0 = some t) (hz : Sum.elim (z_Rf_ways_Y121 l G E σ v1 v2 v3 v8) (z_Rf_ways_X121 l G E σ v1 v2 v3 v8) t) : aw_W l M_Rf_ways G B_Rf_ways E 219 [(0, .ref 0), (1, .int v1), (2, .int v2), (3, .int v3), (4, .long v4), (7, .int v7), (8, .int v8), (9, .int v9)] [.int k0] xB σ 0 0 := by
  unfold m_Rf_ways_J219 at h
  refine aw_istore (pc := 219) [(6, .int k0), (0, .ref 0), (1, .int v1), (2, .int v2), (3, .int v3), (4, .long v4), (7, .int v7), (8, .int v8), (9, .int v9)] dX12_ways_219 (by decide) rfl ?_
  refine aw_aload_n (pc := 221) (q := 1) dX12_ways_221 rfl ?_
  refine aw_getC (pc := 222) fd_X12_107.r xB_0 rfl dX12_ways_222 ?_
  refine aw_iload (pc := 225) (q := 8) dX12_ways_225 rfl ?_
  obtain ⟨g39, h⟩ := aw_gde h
  refine aw_iald (pc := 227) xB_31 g39 dX12_ways_227 ?_
  refine aw_iload (pc := 228) (q := 6) dX12_ways_228 rfl ?_
  refine aw_icmp_le (pc := 230) (tgt := 243) dX12_ways_230 (by decide) (fun c40 => ?_) (fun c40 => ?_)
  · replace h := aw_ifp c40 h
    refine aw_iload (pc := 243) (q := 6) dX12_ways_243 rfl ?_
    refine aw_sub [1, 2, 3, 4, 5, 0, 7, 8] rfl ?_
    exact t_Rf_ways_J245 h hz
  · replace h := aw_ifn c40 h
    refine aw_aload_n (pc := 233) (q := 1) dX12_ways_233 rfl ?_
    refine aw_getC (pc := 234) fd_X12_107.r xB_0 rfl dX12_ways_234 ?_
    refine aw_iload (pc := 237) (q := 8) dX12_ways_237 rfl ?_
    obtain ⟨g41, h⟩ := aw_gde h
    refine aw_iald (pc := 239) xB_31 g41 dX12_ways_239 ?_
    refine aw_goto (pc := 240) (tgt := 245) dX12_ways_240 (by decide) ?_
    refine aw_sub [1, 2, 3, 4, 5, 0, 7, 8] rfl ?_
    exact t_Rf_ways_J245 h hz
set_option maxRecDepth 100000 in
set_option maxHeartbeats 4000000 in
theorem t_Rf_ways_J207 {l : Launch} {G : aw_G} {E : aw_E} {σ : aw_S} {v1 : Int32} {v2 : Int32} {v3 : Int32} {v4 : Int64} {v7 : Int32} {v8 : Int32} {v9 : Int32} {t : (Int64 × Int32 × Int32) ⊕ (Int64 × Int32 × Int32 × Int32)} (h : m_Rf_ways_J207 σ v1 v2 v3 v4 v7 v8 v9 = some t) (hz : Sum.elim (z_Rf_ways_Y121 l G E σ v1 v2 v3 v8) (z_Rf_ways_X121 l G E σ v1 v2 v3 v8) t) : aw_W l M_Rf_ways G B_Rf_ways E 207 [(0, .ref 0), (1, .int v1), (2, .int v2), (3, .int v3), (4, .long v4), (7, .int v7), (8, .int v8), (9, .int v9)] [] xB σ 0 0 := by
  unfold m_Rf_ways_J207 at h
  refine aw_aload_n (pc := 207) (q := 0) dX12_ways_207 rfl ?_
  refine aw_getC (pc := 208) fd_X12_101.r xB_0 rfl dX12_ways_208 ?_
  refine aw_iload (pc := 211) (q := 7) dX12_ways_211 rfl ?_
  obtain ⟨g38, h⟩ := aw_gde h
  refine aw_iald (pc := 213) xB_29 g38 dX12_ways_213 ?_
  refine aw_goto (pc := 214) (tgt := 219) dX12_ways_214 (by decide) ?_
  exact t_Rf_ways_J219 h hz
set_option maxRecDepth 100000 in
set_option maxHeartbeats 4000000 in
theorem t_Rf_ways_J187 {l : Launch} {G : aw_G} {E : aw_E} {σ : aw_S} {v1 : Int32} {v2 : Int32} {v3 : Int32} {v6 : Int32} {v7 : Int32} {v8 : Int32} {v9 : Int32} {k0 : Int64} {t : (Int64 × Int32 × Int32) ⊕ (Int64 × Int32 × Int32 × Int32)} (h : m_Rf_ways_J187 σ v1 v2 v3 v6 v7 v8 v9 k0 = some t) (hz : Sum.elim (z_Rf_ways_Y121 l G E σ v1 v2 v3 v8) (z_Rf_ways_X121 l G E σ v1 v2 v3 v8) t) : aw_W l M_Rf_ways G B_Rf_ways E 187 [(0, .ref 0), (1, .int v1), (2, .int v2), (3, .int v3), (6, .int v6), (7, .int v7), (8, .int v8), (9, .int v9)] [.long k0] xB σ 0 0 := by
  unfold m_Rf_ways_J187 at h
  refine aw_lstore (pc := 187) [(4, .long k0), (0, .ref 0), (1, .int v1), (2, .int v2), (3, .int v3), (6, .int v6), (7, .int v7), (8, .int v8), (9, .int v9)] dX12_ways_187 (by decide) rfl ?_
  refine aw_iload (pc := 189) (q := 5) dX12_ways_189 rfl ?_
  refine aw_iconst (pc := 191) (v := -1) dX12_ways_191 (by decide) ?_
  refine aw_icmp_eq (pc := 192) (tgt := 207) dX12_ways_192 (by decide) (fun c37 => ?_) (fun c37 => ?_)
  · replace h := aw_ifp c37 h
    refine aw_sub [1, 2, 3, 4, 0, 6, 7, 8] rfl ?_
    exact t_Rf_ways_J207 h hz
  · replace h := aw_ifn c37 h
    refine aw_aload_n (pc := 195) (q := 1) dX12_ways_195 rfl ?_
    refine aw_getC (pc := 196) fd_X12_101.r xB_0 rfl dX12_ways_196 ?_
    refine aw_iload (pc := 199) (q := 8) dX12_ways_199 rfl ?_
    obtain ⟨g42, h⟩ := aw_gde h
    refine aw_iald (pc := 201) xB_29 g42 dX12_ways_201 ?_
    refine aw_iload (pc := 202) (q := 5) dX12_ways_202 rfl ?_
    refine aw_icmp_ge (pc := 204) (tgt := 217) dX12_ways_204 (by decide) (fun c43 => ?_) (fun c43 => ?_)
    · replace h := aw_ifp c43 h
      refine aw_iload (pc := 217) (q := 5) dX12_ways_217 rfl ?_
      refine aw_sub [1, 2, 3, 4, 0, 6, 7, 8] rfl ?_
      exact t_Rf_ways_J219 h hz
    · replace h := aw_ifn c43 h
      refine aw_sub [1, 2, 3, 4, 0, 6, 7, 8] rfl ?_
      exact t_Rf_ways_J207 h hz
set_option maxRecDepth 100000 in
set_option maxHeartbeats 4000000 in
theorem t_Rf_ways_B121 {l : Launch} {G : aw_G} {E : aw_E} {σ : aw_S} {v1 : Int32} {v2 : Int32} {v3 : Int32} {v8 : Int32} {v4 : Int64} {v6 : Int32} {v7 : Int32} {v9 : Int32} {t : (Int64 × Int32 × Int32) ⊕ (Int64 × Int32 × Int32 × Int32)} (h : m_Rf_ways_B121 σ v1 v2 v3 v8 v4 v6 v7 v9 = some t) (hz : Sum.elim (z_Rf_ways_Y121 l G E σ v1 v2 v3 v8) (z_Rf_ways_X121 l G E σ v1 v2 v3 v8) t) : aw_W l M_Rf_ways G B_Rf_ways E 121 [(0, .ref 0), (1, .int v1), (2, .int v2), (3, .int v3), (4, .long v4), (6, .int v6), (7, .int v7), (8, .int v8), (9, .int v9)] [] xB σ 0 0 := by
  unfold m_Rf_ways_B121 at h
  refine aw_iload (pc := 121) (q := 8) dX12_ways_121 rfl ?_
  refine aw_aload_n (pc := 123) (q := 0) dX12_ways_123 rfl ?_
  refine aw_getI (pc := 124) fd_X12_215.r xB_0 rfl dX12_ways_124 ?_
  refine aw_icmp_ge (pc := 127) (tgt := 253) dX12_ways_127 (by decide) (fun c27 => ?_) (fun c27 => ?_)
  · replace h := aw_ifp c27 h
    refine aw_sub [0, 1, 2, 3, 4, 5, 6, 7] rfl ?_
    cases h
    exact hz
  · replace h := aw_ifn c27 h
    refine aw_aload_n (pc := 130) (q := 0) dX12_ways_130 rfl ?_
    refine aw_getC (pc := 131) fd_X12_94.r xB_0 rfl dX12_ways_131 ?_
    refine aw_iload (pc := 134) (q := 8) dX12_ways_134 rfl ?_
    obtain ⟨g28, h⟩ := aw_gde h
    refine aw_lald (pc := 136) xB_27 g28 dX12_ways_136 ?_
    refine aw_lconst (pc := 137) (v := 0) dX12_ways_137 (by decide) ?_
    refine aw_lcmp (pc := 138) dX12_ways_138 ?_
    refine aw_if_eq (pc := 139) (tgt := 247) dX12_ways_139 (by decide) (fun c29 => ?_) (fun c29 => ?_)
    · replace h := aw_ifp c29 h
      exact t_Rf_ways_J247 h hz
    · replace h := aw_ifn c29 h
      refine aw_aload_n (pc := 142) (q := 0) dX12_ways_142 rfl ?_
      refine aw_iload (pc := 143) (q := 8) dX12_ways_143 rfl ?_
      obtain ⟨r31, e32, h⟩ := aw_bde h
      refine aw_cV1 (pc := 145) [.int v9] (c_Rf_isLast e32) yy_Rf_isLast.1 wm_764 yy_Rf_isLast.2.1 yy_Rf_isLast.2.2 xB_0 ⟨_, _, rfl⟩ rfl ⟨Nat.le_of_ble_eq_true rfl, Nat.le_of_ble_eq_true rfl⟩ ⟨Nat.zero_le _, Nat.zero_le _⟩ (Nat.le_of_ble_eq_true rfl) dX12_ways_145 ?_
      refine aw_if_ne (pc := 148) (tgt := 154) dX12_ways_148 (by decide) (fun c33 => ?_) (fun c33 => ?_)
      · replace h := aw_ifn c33 h
        refine aw_lload (pc := 154) (q := 4) dX12_ways_154 rfl ?_
        refine aw_aload_n (pc := 156) (q := 0) dX12_ways_156 rfl ?_
        refine aw_getC (pc := 157) fd_X12_94.r xB_0 rfl dX12_ways_157 ?_
        refine aw_iload (pc := 160) (q := 8) dX12_ways_160 rfl ?_
        obtain ⟨g34, h⟩ := aw_gde h
        refine aw_lald (pc := 162) xB_27 g34 dX12_ways_162 ?_
        refine aw_ladd (pc := 163) dX12_ways_163 ?_
        refine aw_ldc2 (pc := 164) (v := 1000000000000) dX12_ways_164 wm_1473 ?_
        refine aw_lcmp (pc := 167) dX12_ways_167 ?_
        refine aw_if_le (pc := 168) (tgt := 177) dX12_ways_168 (by decide) (fun c35 => ?_) (fun c35 => ?_)
        · replace h := aw_ifp c35 h
          refine aw_lload (pc := 177) (q := 4) dX12_ways_177 rfl ?_
          refine aw_aload_n (pc := 179) (q := 0) dX12_ways_179 rfl ?_
          refine aw_getC (pc := 180) fd_X12_94.r xB_0 rfl dX12_ways_180 ?_
          refine aw_iload (pc := 183) (q := 8) dX12_ways_183 rfl ?_
          obtain ⟨g36, h⟩ := aw_gde h
          refine aw_lald (pc := 185) xB_27 g36 dX12_ways_185 ?_
          refine aw_ladd (pc := 186) dX12_ways_186 ?_
          refine aw_sub [0, 1, 2, 3, 5, 6, 7, 8] rfl ?_
          exact t_Rf_ways_J187 h hz
        · replace h := aw_ifn c35 h
          refine aw_ldc2 (pc := 171) (v := 1000000000000) dX12_ways_171 wm_1473 ?_
          refine aw_goto (pc := 174) (tgt := 187) dX12_ways_174 (by decide) ?_
          refine aw_sub [0, 1, 2, 3, 5, 6, 7, 8] rfl ?_
          exact t_Rf_ways_J187 h hz
      · replace h := aw_ifp c33 h
        refine aw_goto (pc := 151) (tgt := 247) dX12_ways_151 (by decide) ?_
        exact t_Rf_ways_J247 h hz
set_option maxRecDepth 100000 in
set_option maxHeartbeats 4000000 in
theorem t_Rf_ways_J118 {l : Launch} {G : aw_G} {E : aw_E} {σ : aw_S} {v1 : Int32} {v2 : Int32} {v3 : Int32} {v4 : Int64} {v6 : Int32} {v7 : Int32} {v8 : Int32} {t : (Int64 × Int32 × Int32 × aw_S) ⊕ (Int64 × Int32 × Int32 × Int32 × aw_S)} (h : m_Rf_ways_J118 σ v1 v2 v3 v4 v6 v7 v8 = some t) (hz : Sum.elim (z_Rf_ways_Y102 l G E v1 v2 v3) (z_Rf_ways_X102 l G E v1 v2 v3) t) : aw_W l M_Rf_ways G B_Rf_ways E 118 [(0, .ref 0), (1, .int v1), (2, .int v2), (3, .int v3), (4, .long v4), (6, .int v6), (7, .int v7), (8, .int v8)] [] xB σ 0 0 := by
  unfold m_Rf_ways_J118 at h
  refine aw_iconst (pc := 118) (v := 0) dX12_ways_118 (by decide) ?_
  refine aw_istore (pc := 119) [(9, .int ((0 : Int32))), (0, .ref 0), (1, .int v1), (2, .int v2), (3, .int v3), (4, .long v4), (6, .int v6), (7, .int v7), (8, .int v8)] dX12_ways_119 (by decide) rfl ?_
  obtain ⟨x44, hl45, h⟩ := aw_bde h
  have K46 : z_Rf_ways_Y121 l G E σ v1 v2 v3 v8 x44 := by
    show aw_W l M_Rf_ways G B_Rf_ways E 253 [(0, .ref 0), (1, .int v1), (2, .int v2), (3, .int v3), (4, .long x44.1), (6, .int x44.2.1), (7, .int x44.2.2), (8, .int v8)] [] xB σ 0 0
    obtain ⟨x47, e_x47⟩ : ∃ z, z = (v8 + (1 : Int32)) := ⟨_, rfl⟩
    replace h := aw_lte h x47 e_x47
    refine aw_iinc (pc := 253) (q := 7) (v := x47) [(8, .int x47), (0, .ref 0), (1, .int v1), (2, .int v2), (3, .int v3), (4, .long x44.1), (6, .int x44.2.1), (7, .int x44.2.2)] dX12_ways_253 rfl e_x47.symm (by decide) rfl ?_
    refine aw_goto (pc := 256) (tgt := 102) dX12_ways_256 (by decide) ?_
    refine aw_sub [1, 2, 3, 4, 5, 6, 7, 0] rfl ?_
    cases h
    exact hz
  refine aw_sub [1, 2, 3, 4, 5, 6, 7, 8, 0] rfl ?_
  show z_Rf_ways_X121 l G E σ v1 v2 v3 v8 ((v4, v6, v7, (0 : Int32)))
  exact aw_lp_X (Xp := z_Rf_ways_X121 l G E σ v1 v2 v3 v8) (Y := z_Rf_ways_Y121 l G E σ v1 v2 v3 v8) hl45 K46 (fun s t hf hz => t_Rf_ways_B121 hf hz)
set_option maxRecDepth 100000 in
set_option maxHeartbeats 4000000 in
theorem t_Rf_ways_B102 {l : Launch} {G : aw_G} {E : aw_E} {σ : aw_S} {v1 : Int32} {v2 : Int32} {v3 : Int32} {v4 : Int64} {v6 : Int32} {v7 : Int32} {v8 : Int32} {t : (Int64 × Int32 × Int32 × aw_S) ⊕ (Int64 × Int32 × Int32 × Int32 × aw_S)} (h : m_Rf_ways_B102 σ v1 v2 v3 v4 v6 v7 v8 = some t) (hz : Sum.elim (z_Rf_ways_Y102 l G E v1 v2 v3) (z_Rf_ways_X102 l G E v1 v2 v3) t) : aw_W l M_Rf_ways G B_Rf_ways E 102 [(0, .ref 0), (1, .int v1), (2, .int v2), (3, .int v3), (4, .long v4), (6, .int v6), (7, .int v7), (8, .int v8)] [] xB σ 0 0 := by
  unfold m_Rf_ways_B102 at h
  refine aw_iload (pc := 102) (q := 7) dX12_ways_102 rfl ?_
  refine aw_iload_n (pc := 104) (q := 2) dX12_ways_104 rfl ?_
  refine aw_icmp_ge (pc := 105) (tgt := 259) dX12_ways_105 (by decide) (fun c25 => ?_) (fun c25 => ?_)
  · replace h := aw_ifp c25 h
    refine aw_sub [3, 4, 5, 6] rfl ?_
    cases h
    exact hz
  · replace h := aw_ifn c25 h
    refine aw_iload (pc := 108) (q := 7) dX12_ways_108 rfl ?_
    refine aw_if_le (pc := 110) (tgt := 118) dX12_ways_110 (by decide) (fun c26 => ?_) (fun c26 => ?_)
    · replace h := aw_ifp c26 h
      exact t_Rf_ways_J118 h hz
    · replace h := aw_ifn c26 h
      refine aw_aload_n (pc := 113) (q := 0) dX12_ways_113 rfl ?_
      refine aw_iload_n (pc := 114) (q := 1) dX12_ways_114 rfl ?_
      obtain ⟨s50, e49, h⟩ := aw_bde h
      refine aw_cV0 (pc := 115) [.int v1] (c_Rf_goFurther e49) yy_Rf_goFurther.1 wm_1474 yy_Rf_goFurther.2.1 yy_Rf_goFurther.2.2 xB_0 ⟨_, _, rfl⟩ rfl ⟨Nat.le_of_ble_eq_true rfl, Nat.le_of_ble_eq_true rfl⟩ ⟨Nat.zero_le _, Nat.zero_le _⟩ (Nat.le_of_ble_eq_true rfl) dX12_ways_115 ?_
      exact t_Rf_ways_J118 h hz
set_option maxRecDepth 100000 in
set_option maxHeartbeats 4000000 in
theorem t_Rf_ways {l : Launch} {G : aw_G} {E : aw_E} {σ : aw_S} {p1 : Int32} {p2 : Int32} {p3 : Int32} {t : (Int64 × aw_S)} (h : m_Rf_ways σ p1 p2 p3 = some t) (hE : E = (some (.long t.1), xB, t.2)) : aw_W l M_Rf_ways G B_Rf_ways E 0 [(0, .ref 0), (1, .int p1), (2, .int p2), (3, .int p3)] [] xB σ 0 0 := by
  unfold m_Rf_ways at h
  refine aw_aload_n (pc := 0) (q := 0) dX12_ways_0 rfl ?_
  refine aw_iload_n (pc := 1) (q := 1) dX12_ways_1 rfl ?_
  obtain ⟨r1, e2, h⟩ := aw_bde h
  refine aw_cV1 (pc := 2) [.int p1] (c_Rf_canRun e2) yy_Rf_canRun.1 wm_1164 yy_Rf_canRun.2.1 yy_Rf_canRun.2.2 xB_0 ⟨_, _, rfl⟩ rfl ⟨Nat.le_of_ble_eq_true rfl, Nat.le_of_ble_eq_true rfl⟩ ⟨Nat.zero_le _, Nat.zero_le _⟩ (Nat.le_of_ble_eq_true rfl) dX12_ways_2 ?_
  refine aw_if_eq (pc := 5) (tgt := 27) dX12_ways_5 (by decide) (fun c3 => ?_) (fun c3 => ?_)
  · replace h := aw_ifp c3 h
    refine aw_sub [] rfl ?_
    exact t_Rf_ways_J27 h hE
  · replace h := aw_ifn c3 h
    refine aw_iload_n (pc := 8) (q := 2) dX12_ways_8 rfl ?_
    refine aw_iconst (pc := 9) (v := 1) dX12_ways_9 (by decide) ?_
    refine aw_bipush (pc := 10) (v := 60) dX12_ways_10 (by decide) ?_
    obtain ⟨r4, e5, h⟩ := aw_bde h
    refine aw_cS1 (pc := 12) [.int p2, .int ((1 : Int32)), .int ((60 : Int32))] (c_Rf_isIn e5) yy_Rf_isIn.1 wm_255 yy_Rf_isIn.2 rfl ⟨Nat.le_of_ble_eq_true rfl, Nat.le_of_ble_eq_true rfl⟩ ⟨Nat.zero_le _, Nat.zero_le _⟩ (Nat.le_of_ble_eq_true rfl) dX12_ways_12 ?_
    refine aw_if_eq (pc := 15) (tgt := 27) dX12_ways_15 (by decide) (fun c6 => ?_) (fun c6 => ?_)
    · replace h := aw_ifp c6 h
      refine aw_sub [] rfl ?_
      exact t_Rf_ways_J27 h hE
    · replace h := aw_ifn c6 h
      refine aw_iload_n (pc := 18) (q := 3) dX12_ways_18 rfl ?_
      refine aw_iconst (pc := 19) (v := 0) dX12_ways_19 (by decide) ?_
      refine aw_iconst (pc := 20) (v := 2) dX12_ways_20 (by decide) ?_
      obtain ⟨r7, e8, h⟩ := aw_bde h
      refine aw_cS1 (pc := 21) [.int p3, .int ((0 : Int32)), .int ((2 : Int32))] (c_Rf_isIn e8) yy_Rf_isIn.1 wm_255 yy_Rf_isIn.2 rfl ⟨Nat.le_of_ble_eq_true rfl, Nat.le_of_ble_eq_true rfl⟩ ⟨Nat.zero_le _, Nat.zero_le _⟩ (Nat.le_of_ble_eq_true rfl) dX12_ways_21 ?_
      refine aw_if_ne (pc := 24) (tgt := 31) dX12_ways_24 (by decide) (fun c9 => ?_) (fun c9 => ?_)
      · replace h := aw_ifn c9 h
        refine aw_iconst (pc := 31) (v := 0) dX12_ways_31 (by decide) ?_
        refine aw_istore (pc := 32) [(4, .int ((0 : Int32))), (0, .ref 0), (1, .int p1), (2, .int p2), (3, .int p3)] dX12_ways_32 (by decide) rfl ?_
        obtain ⟨x15, hl16, h⟩ := aw_bde h
        have K17 : z_Rf_ways_Y34 l G E p1 p2 p3 x15 := by
          show aw_W l M_Rf_ways G B_Rf_ways E 66 [(0, .ref 0), (1, .int p1), (2, .int p2), (3, .int p3)] [] xB x15 0 0
          refine aw_aload_n (pc := 66) (q := 0) dX12_ways_66 rfl ?_
          refine aw_getC (pc := 67) fd_X12_101.r xB_0 rfl dX12_ways_67 ?_
          refine aw_iconst (pc := 70) (v := 0) dX12_ways_70 (by decide) ?_
          refine aw_aload_n (pc := 71) (q := 0) dX12_ways_71 rfl ?_
          refine aw_iconst (pc := 72) (v := 0) dX12_ways_72 (by decide) ?_
          refine aw_iload_n (pc := 73) (q := 1) dX12_ways_73 rfl ?_
          obtain ⟨r18, e19, h⟩ := aw_bde h
          refine aw_cV1 (pc := 74) [.int ((0 : Int32)), .int p1] (c_Rf_costs e19) yy_Rf_costs.1 wm_1325 yy_Rf_costs.2.1 yy_Rf_costs.2.2 xB_0 ⟨_, _, rfl⟩ rfl ⟨Nat.le_of_ble_eq_true rfl, Nat.le_of_ble_eq_true rfl⟩ ⟨Nat.zero_le _, Nat.zero_le _⟩ (Nat.le_of_ble_eq_true rfl) dX12_ways_74 ?_
          obtain ⟨g20, h⟩ := aw_gde h
          refine aw_iast (pc := 77) xB_29 g20 dX12_ways_77 ?_
          refine aw_nmS (fun s21 e_s21 => ?_)
          replace h := aw_lte h s21 e_s21
          refine aw_aload_n (pc := 78) (q := 0) dX12_ways_78 rfl ?_
          refine aw_getC (pc := 79) fd_X12_107.r xB_0 rfl dX12_ways_79 ?_
          refine aw_iconst (pc := 82) (v := 0) dX12_ways_82 (by decide) ?_
          refine aw_aload_n (pc := 83) (q := 0) dX12_ways_83 rfl ?_
          refine aw_getC (pc := 84) fd_X12_101.r xB_0 rfl dX12_ways_84 ?_
          refine aw_iconst (pc := 87) (v := 0) dX12_ways_87 (by decide) ?_
          obtain ⟨g22, h⟩ := aw_gde h
          refine aw_iald (pc := 88) xB_29 g22 dX12_ways_88 ?_
          obtain ⟨g23, h⟩ := aw_gde h
          refine aw_iast (pc := 89) xB_31 g23 dX12_ways_89 ?_
          refine aw_nmS (fun s24 e_s24 => ?_)
          replace h := aw_lte h s24 e_s24
          refine aw_lconst (pc := 90) (v := 0) dX12_ways_90 (by decide) ?_
          refine aw_lstore (pc := 91) [(4, .long ((0 : Int64))), (0, .ref 0), (1, .int p1), (2, .int p2), (3, .int p3)] dX12_ways_91 (by decide) rfl ?_
          refine aw_iconst (pc := 93) (v := -1) dX12_ways_93 (by decide) ?_
          refine aw_istore (pc := 94) [(6, .int ((-1 : Int32))), (4, .long ((0 : Int64))), (0, .ref 0), (1, .int p1), (2, .int p2), (3, .int p3)] dX12_ways_94 (by decide) rfl ?_
          refine aw_iconst (pc := 96) (v := -1) dX12_ways_96 (by decide) ?_
          refine aw_istore (pc := 97) [(7, .int ((-1 : Int32))), (6, .int ((-1 : Int32))), (4, .long ((0 : Int64))), (0, .ref 0), (1, .int p1), (2, .int p2), (3, .int p3)] dX12_ways_97 (by decide) rfl ?_
          refine aw_iconst (pc := 99) (v := 0) dX12_ways_99 (by decide) ?_
          refine aw_istore (pc := 100) [(8, .int ((0 : Int32))), (7, .int ((-1 : Int32))), (6, .int ((-1 : Int32))), (4, .long ((0 : Int64))), (0, .ref 0), (1, .int p1), (2, .int p2), (3, .int p3)] dX12_ways_100 (by decide) rfl ?_
          obtain ⟨x51, hl52, h⟩ := aw_bde h
          have K53 : z_Rf_ways_Y102 l G E p1 p2 p3 x51 := by
            show aw_W l M_Rf_ways G B_Rf_ways E 259 [(3, .int p3), (4, .long x51.1), (6, .int x51.2.1), (7, .int x51.2.2.1)] [] xB x51.2.2.2 0 0
            refine aw_iload_n (pc := 259) (q := 0) dX12_ways_259 rfl ?_
            refine aw_if_ne (pc := 260) (tgt := 268) dX12_ways_260 (by decide) (fun c54 => ?_) (fun c54 => ?_)
            · replace h := aw_ifn c54 h
              refine aw_iload_n (pc := 268) (q := 0) dX12_ways_268 rfl ?_
              refine aw_iconst (pc := 269) (v := 1) dX12_ways_269 (by decide) ?_
              refine aw_icmp_ne (pc := 270) (tgt := 279) dX12_ways_270 (by decide) (fun c55 => ?_) (fun c55 => ?_)
              · replace h := aw_ifn c55 h
                refine aw_iload (pc := 279) (q := 3) dX12_ways_279 rfl ?_
                refine aw_i2l (pc := 281) dX12_ways_281 ?_
                cases h
                subst hE
                exact aw_lret (v := (x51.2.2.1.toInt64)) rfl ⟨Nat.zero_le _, Nat.zero_le _⟩ dX12_ways_282
              · replace h := aw_ifp c55 h
                refine aw_iload (pc := 273) (q := 2) dX12_ways_273 rfl ?_
                refine aw_i2l (pc := 275) dX12_ways_275 ?_
                refine aw_goto (pc := 276) (tgt := 282) dX12_ways_276 (by decide) ?_
                cases h
                subst hE
                exact aw_lret (v := (x51.2.1.toInt64)) rfl ⟨Nat.zero_le _, Nat.zero_le _⟩ dX12_ways_282
            · replace h := aw_ifp c54 h
              refine aw_lload (pc := 263) (q := 1) dX12_ways_263 rfl ?_
              refine aw_goto (pc := 265) (tgt := 282) dX12_ways_265 (by decide) ?_
              cases h
              subst hE
              exact aw_lret (v := x51.1) rfl ⟨Nat.zero_le _, Nat.zero_le _⟩ dX12_ways_282
          refine aw_sub [4, 5, 6, 7, 3, 2, 1, 0] rfl ?_
          show z_Rf_ways_X102 l G E p1 p2 p3 (((0 : Int64), (-1 : Int32), (-1 : Int32), (0 : Int32), s24))
          exact aw_lp_X (Xp := z_Rf_ways_X102 l G E p1 p2 p3) (Y := z_Rf_ways_Y102 l G E p1 p2 p3) hl52 K53 (fun s t hf hz => t_Rf_ways_B102 hf hz)
        refine aw_sub [1, 2, 3, 4, 0] rfl ?_
        show z_Rf_ways_X34 l G E p1 p2 p3 (((0 : Int32), σ))
        exact aw_lp_X (Xp := z_Rf_ways_X34 l G E p1 p2 p3) (Y := z_Rf_ways_Y34 l G E p1 p2 p3) hl16 K17 (fun s t hf hz => t_Rf_ways_B34 hf hz)
      · replace h := aw_ifp c9 h
        refine aw_sub [] rfl ?_
        exact t_Rf_ways_J27 h hE
theorem c_Rf_ways {l : Launch} {G : aw_G} {σ : aw_S} {p1 : Int32} {p2 : Int32} {p3 : Int32} {t : (Int64 × aw_S)} (h : m_Rf_ways σ p1 p2 p3 = some t) : aw_Ct l yX12_ways M_Rf_ways G B_Rf_ways [.ref 0, .int p1, .int p2, .int p3] xB σ (some (.long t.1), xB, t.2) := aw_Ct_of (by decide) rfl (fun h => by cases h) (Nat.le_of_ble_eq_true rfl) (t_Rf_ways h rfl)
/-! LateMoverModel.keep(I)Z -/
set_option maxRecDepth 100000 in
set_option maxHeartbeats 4000000 in
theorem t_Rf_keep {l : Launch} {G : aw_G} {E : aw_E} {σ : aw_S} {p1 : Int32} {t : (Int32 × aw_S)} (h : m_Rf_keep σ p1 = some t) (hE : E = (some (.int t.1), xB, t.2)) : aw_W l M_Rf_keep G B_Rf_keep E 0 [(0, .ref 0), (1, .int p1)] [] xB σ 0 0 := by
  unfold m_Rf_keep at h
  refine aw_iload_n (pc := 0) (q := 1) dX12_keep_0 rfl ?_
  refine aw_iconst (pc := 1) (v := 0) dX12_keep_1 (by decide) ?_
  refine aw_iconst (pc := 2) (v := 2) dX12_keep_2 (by decide) ?_
  obtain ⟨r1, e2, h⟩ := aw_bde h
  refine aw_cS1 (pc := 3) [.int p1, .int ((0 : Int32)), .int ((2 : Int32))] (c_Rf_isIn e2) yy_Rf_isIn.1 wm_255 yy_Rf_isIn.2 rfl ⟨Nat.le_of_ble_eq_true rfl, Nat.le_of_ble_eq_true rfl⟩ ⟨Nat.zero_le _, Nat.zero_le _⟩ (Nat.le_of_ble_eq_true rfl) dX12_keep_3 ?_
  refine aw_if_eq (pc := 6) (tgt := 16) dX12_keep_6 (by decide) (fun c3 => ?_) (fun c3 => ?_)
  · replace h := aw_ifp c3 h
    refine aw_iconst (pc := 16) (v := 0) dX12_keep_16 (by decide) ?_
    cases h
    subst hE
    exact aw_iret (v := (0 : Int32)) rfl aw_n0 ⟨Nat.zero_le _, Nat.zero_le _⟩ dX12_keep_17
  · replace h := aw_ifn c3 h
    refine aw_aload_n (pc := 9) (q := 0) dX12_keep_9 rfl ?_
    refine aw_getI (pc := 10) fd_X12_231.r xB_0 rfl dX12_keep_10 ?_
    refine aw_if_ne (pc := 13) (tgt := 18) dX12_keep_13 (by decide) (fun c4 => ?_) (fun c4 => ?_)
    · replace h := aw_ifn c4 h
      refine aw_aload_n (pc := 18) (q := 0) dX12_keep_18 rfl ?_
      refine aw_iconst (pc := 19) (v := 0) dX12_keep_19 (by decide) ?_
      refine aw_iconst (pc := 20) (v := 1) dX12_keep_20 (by decide) ?_
      refine aw_iload_n (pc := 21) (q := 1) dX12_keep_21 rfl ?_
      refine aw_iadd (pc := 22) dX12_keep_22 ?_
      obtain ⟨s7, e6, h⟩ := aw_bde h
      refine aw_cV0 (pc := 23) [.int ((0 : Int32)), .int (((1 : Int32) + p1))] (c_Rf_copyRow e6) yy_Rf_copyRow.1 wm_721 yy_Rf_copyRow.2.1 yy_Rf_copyRow.2.2 xB_0 ⟨_, _, rfl⟩ rfl ⟨Nat.le_of_ble_eq_true rfl, Nat.le_of_ble_eq_true rfl⟩ ⟨Nat.zero_le _, Nat.zero_le _⟩ (Nat.le_of_ble_eq_true rfl) dX12_keep_23 ?_
      refine aw_aload_n (pc := 26) (q := 0) dX12_keep_26 rfl ?_
      refine aw_getC (pc := 27) fd_X12_113.r xB_0 rfl dX12_keep_27 ?_
      refine aw_iload_n (pc := 30) (q := 1) dX12_keep_30 rfl ?_
      refine aw_iconst (pc := 31) (v := 1) dX12_keep_31 (by decide) ?_
      obtain ⟨g8, h⟩ := aw_gde h
      refine aw_zast (pc := 32) xB_33 g8 dX12_keep_32 ?_
      refine aw_nmS (fun s9 e_s9 => ?_)
      replace h := aw_lte h s9 e_s9
      refine aw_iconst (pc := 33) (v := 1) dX12_keep_33 (by decide) ?_
      cases h
      subst hE
      exact aw_iret (v := (1 : Int32)) rfl aw_n1 ⟨Nat.zero_le _, Nat.zero_le _⟩ dX12_keep_34
    · replace h := aw_ifp c4 h
      refine aw_iconst (pc := 16) (v := 0) dX12_keep_16 (by decide) ?_
      cases h
      subst hE
      exact aw_iret (v := (0 : Int32)) rfl aw_n0 ⟨Nat.zero_le _, Nat.zero_le _⟩ dX12_keep_17
theorem c_Rf_keep {l : Launch} {G : aw_G} {σ : aw_S} {p1 : Int32} {t : (Int32 × aw_S)} (h : m_Rf_keep σ p1 = some t) : aw_Ct l yX12_keep M_Rf_keep G B_Rf_keep [.ref 0, .int p1] xB σ (some (.int t.1), xB, t.2) := aw_Ct_of (by decide) rfl (fun h => by cases h) (Nat.le_of_ble_eq_true rfl) (t_Rf_keep h rfl)
/-! LateMoverModel.back(I)Z -/
set_option maxRecDepth 100000 in
set_option maxHeartbeats 4000000 in
theorem t_Rf_back {l : Launch} {G : aw_G} {E : aw_E} {σ : aw_S} {p1 : Int32} {t : (Int32 × aw_S)} (h : m_Rf_back σ p1 = some t) (hE : E = (some (.int t.1), xB, t.2)) : aw_W l M_Rf_back G B_Rf_back E 0 [(0, .ref 0), (1, .int p1)] [] xB σ 0 0 := by
  unfold m_Rf_back at h
  refine aw_iload_n (pc := 0) (q := 1) dX12_back_0 rfl ?_
  refine aw_iconst (pc := 1) (v := 0) dX12_back_1 (by decide) ?_
  refine aw_iconst (pc := 2) (v := 2) dX12_back_2 (by decide) ?_
  obtain ⟨r1, e2, h⟩ := aw_bde h
  refine aw_cS1 (pc := 3) [.int p1, .int ((0 : Int32)), .int ((2 : Int32))] (c_Rf_isIn e2) yy_Rf_isIn.1 wm_255 yy_Rf_isIn.2 rfl ⟨Nat.le_of_ble_eq_true rfl, Nat.le_of_ble_eq_true rfl⟩ ⟨Nat.zero_le _, Nat.zero_le _⟩ (Nat.le_of_ble_eq_true rfl) dX12_back_3 ?_
  refine aw_if_eq (pc := 6) (tgt := 18) dX12_back_6 (by decide) (fun c3 => ?_) (fun c3 => ?_)
  · replace h := aw_ifp c3 h
    refine aw_iconst (pc := 18) (v := 0) dX12_back_18 (by decide) ?_
    cases h
    subst hE
    exact aw_iret (v := (0 : Int32)) rfl aw_n0 ⟨Nat.zero_le _, Nat.zero_le _⟩ dX12_back_19
  · replace h := aw_ifn c3 h
    refine aw_aload_n (pc := 9) (q := 0) dX12_back_9 rfl ?_
    refine aw_getC (pc := 10) fd_X12_113.r xB_0 rfl dX12_back_10 ?_
    refine aw_iload_n (pc := 13) (q := 1) dX12_back_13 rfl ?_
    obtain ⟨g4, h⟩ := aw_gde h
    refine aw_zald (pc := 14) xB_33 g4 dX12_back_14 ?_
    refine aw_if_ne (pc := 15) (tgt := 20) dX12_back_15 (by decide) (fun c5 => ?_) (fun c5 => ?_)
    · replace h := aw_ifn c5 h
      refine aw_aload_n (pc := 20) (q := 0) dX12_back_20 rfl ?_
      refine aw_iconst (pc := 21) (v := 1) dX12_back_21 (by decide) ?_
      refine aw_iload_n (pc := 22) (q := 1) dX12_back_22 rfl ?_
      refine aw_iadd (pc := 23) dX12_back_23 ?_
      refine aw_iconst (pc := 24) (v := 0) dX12_back_24 (by decide) ?_
      obtain ⟨s8, e7, h⟩ := aw_bde h
      refine aw_cV0 (pc := 25) [.int (((1 : Int32) + p1)), .int ((0 : Int32))] (c_Rf_copyRow e7) yy_Rf_copyRow.1 wm_721 yy_Rf_copyRow.2.1 yy_Rf_copyRow.2.2 xB_0 ⟨_, _, rfl⟩ rfl ⟨Nat.le_of_ble_eq_true rfl, Nat.le_of_ble_eq_true rfl⟩ ⟨Nat.zero_le _, Nat.zero_le _⟩ (Nat.le_of_ble_eq_true rfl) dX12_back_25 ?_
      refine aw_aload_n (pc := 28) (q := 0) dX12_back_28 rfl ?_
      obtain ⟨s11, e10, h⟩ := aw_bde h
      refine aw_cV0 (pc := 29) [] (c_Rf_lay e10) yy_Rf_lay.1 wm_725 yy_Rf_lay.2.1 yy_Rf_lay.2.2 xB_0 ⟨_, _, rfl⟩ rfl ⟨Nat.le_of_ble_eq_true rfl, Nat.le_of_ble_eq_true rfl⟩ ⟨Nat.zero_le _, Nat.zero_le _⟩ (Nat.le_of_ble_eq_true rfl) dX12_back_29 ?_
      refine aw_iconst (pc := 32) (v := 1) dX12_back_32 (by decide) ?_
      cases h
      subst hE
      exact aw_iret (v := (1 : Int32)) rfl aw_n1 ⟨Nat.zero_le _, Nat.zero_le _⟩ dX12_back_33
    · replace h := aw_ifp c5 h
      refine aw_iconst (pc := 18) (v := 0) dX12_back_18 (by decide) ?_
      cases h
      subst hE
      exact aw_iret (v := (0 : Int32)) rfl aw_n0 ⟨Nat.zero_le _, Nat.zero_le _⟩ dX12_back_19
theorem c_Rf_back {l : Launch} {G : aw_G} {σ : aw_S} {p1 : Int32} {t : (Int32 × aw_S)} (h : m_Rf_back σ p1 = some t) : aw_Ct l yX12_back M_Rf_back G B_Rf_back [.ref 0, .int p1] xB σ (some (.int t.1), xB, t.2) := aw_Ct_of (by decide) rfl (fun h => by cases h) (Nat.le_of_ble_eq_true rfl) (t_Rf_back h rfl)
/-! LateMoverModel.lay1(I)V -/
set_option maxRecDepth 100000 in
set_option maxHeartbeats 4000000 in
theorem t_Rf_lay1 {l : Launch} {G : aw_G} {E : aw_E} {σ : aw_S} {p1 : Int32} {t : aw_S} (h : m_Rf_lay1 σ p1 = some t) (hE : E = (none, xB, t)) : aw_W l M_Rf_lay1 G B_Rf_lay1 E 0 [(0, .ref 0), (1, .int p1)] [] xB σ 0 0 := by
  unfold m_Rf_lay1 at h
  refine aw_aload_n (pc := 0) (q := 0) dX12_lay1_0 rfl ?_
  refine aw_getC (pc := 1) fd_X12_116.r xB_0 rfl dX12_lay1_1 ?_
  refine aw_aload_n (pc := 4) (q := 0) dX12_lay1_4 rfl ?_
  refine aw_getI (pc := 5) fd_X12_424.r xB_0 rfl dX12_lay1_5 ?_
  refine aw_iload_n (pc := 8) (q := 1) dX12_lay1_8 rfl ?_
  refine aw_i2b (pc := 9) dX12_lay1_9 ?_
  obtain ⟨g1, h⟩ := aw_gde h
  refine aw_bast (pc := 10) xB_34 g1 dX12_lay1_10 ?_
  refine aw_nmS (fun s2 e_s2 => ?_)
  replace h := aw_lte h s2 e_s2
  refine aw_aload_n (pc := 11) (q := 0) dX12_lay1_11 rfl ?_
  refine aw_dup (pc := 12) dX12_lay1_12 rfl ?_
  refine aw_getI (pc := 13) fd_X12_424.r xB_0 rfl dX12_lay1_13 ?_
  refine aw_iconst (pc := 16) (v := 1) dX12_lay1_16 (by decide) ?_
  refine aw_iadd (pc := 17) dX12_lay1_17 ?_
  refine aw_putI (pc := 18) fd_X12_424 xB_0 rfl (fun _ => rfl) (fun _ => rfl) dX12_lay1_18 ?_
  refine aw_nmS (fun s3 e_s3 => ?_)
  replace h := aw_lte h s3 e_s3
  cases h
  subst hE
  exact aw_vret rfl ⟨Nat.zero_le _, Nat.zero_le _⟩ dX12_lay1_21
theorem c_Rf_lay1 {l : Launch} {G : aw_G} {σ : aw_S} {p1 : Int32} {t : aw_S} (h : m_Rf_lay1 σ p1 = some t) : aw_Ct l yX12_lay1 M_Rf_lay1 G B_Rf_lay1 [.ref 0, .int p1] xB σ (none, xB, t) := aw_Ct_of (by decide) rfl (fun h => by cases h) (Nat.le_of_ble_eq_true rfl) (t_Rf_lay1 h rfl)
/-! LateMoverModel.writeNumber(I)V -/
set_option maxRecDepth 100000 in
set_option maxHeartbeats 4000000 in
theorem t_Rf_writeNumber_J37 {l : Launch} {G : aw_G} {E : aw_E} {σ : aw_S} {v1 : Int32} {t : aw_S} (h : m_Rf_writeNumber_J37 σ v1 = some t) (hE : E = (none, xB, t)) : aw_W l M_Rf_writeNumber G B_Rf_writeNumber E 37 [(0, .ref 0), (1, .int v1)] [] xB σ 0 0 := by
  unfold m_Rf_writeNumber_J37 at h
  refine aw_aload_n (pc := 37) (q := 0) dX12_writeNumber_37 rfl ?_
  refine aw_bipush (pc := 38) (v := 48) dX12_writeNumber_38 (by decide) ?_
  refine aw_iload_n (pc := 40) (q := 1) dX12_writeNumber_40 rfl ?_
  refine aw_bipush (pc := 41) (v := 10) dX12_writeNumber_41 (by decide) ?_
  refine aw_irem (pc := 43) dX12_writeNumber_43 (by decide) ?_
  refine aw_iadd (pc := 44) dX12_writeNumber_44 ?_
  obtain ⟨s5, e4, h⟩ := aw_bde h
  refine aw_cV0 (pc := 45) [.int (((48 : Int32) + (v1 - v1 / (10 : Int32) * (10 : Int32))))] (c_Rf_lay1 e4) yy_Rf_lay1.1 wm_1543 yy_Rf_lay1.2.1 yy_Rf_lay1.2.2 xB_0 ⟨_, _, rfl⟩ rfl ⟨Nat.le_of_ble_eq_true rfl, Nat.le_of_ble_eq_true rfl⟩ ⟨Nat.zero_le _, Nat.zero_le _⟩ (Nat.le_of_ble_eq_true rfl) dX12_writeNumber_45 ?_
  cases h
  subst hE
  exact aw_vret rfl ⟨Nat.zero_le _, Nat.zero_le _⟩ dX12_writeNumber_48
set_option maxRecDepth 100000 in
set_option maxHeartbeats 4000000 in
theorem t_Rf_writeNumber_J17 {l : Launch} {G : aw_G} {E : aw_E} {σ : aw_S} {v1 : Int32} {t : aw_S} (h : m_Rf_writeNumber_J17 σ v1 = some t) (hE : E = (none, xB, t)) : aw_W l M_Rf_writeNumber G B_Rf_writeNumber E 17 [(0, .ref 0), (1, .int v1)] [] xB σ 0 0 := by
  unfold m_Rf_writeNumber_J17 at h
  refine aw_iload_n (pc := 17) (q := 1) dX12_writeNumber_17 rfl ?_
  refine aw_bipush (pc := 18) (v := 9) dX12_writeNumber_18 (by decide) ?_
  refine aw_icmp_le (pc := 20) (tgt := 37) dX12_writeNumber_20 (by decide) (fun c2 => ?_) (fun c2 => ?_)
  · replace h := aw_ifp c2 h
    exact t_Rf_writeNumber_J37 h hE
  · replace h := aw_ifn c2 h
    refine aw_aload_n (pc := 23) (q := 0) dX12_writeNumber_23 rfl ?_
    refine aw_bipush (pc := 24) (v := 48) dX12_writeNumber_24 (by decide) ?_
    refine aw_iload_n (pc := 26) (q := 1) dX12_writeNumber_26 rfl ?_
    refine aw_bipush (pc := 27) (v := 10) dX12_writeNumber_27 (by decide) ?_
    refine aw_idiv (pc := 29) dX12_writeNumber_29 (by decide) ?_
    refine aw_bipush (pc := 30) (v := 10) dX12_writeNumber_30 (by decide) ?_
    refine aw_irem (pc := 32) dX12_writeNumber_32 (by decide) ?_
    refine aw_iadd (pc := 33) dX12_writeNumber_33 ?_
    obtain ⟨s8, e7, h⟩ := aw_bde h
    refine aw_cV0 (pc := 34) [.int (((48 : Int32) + ((v1 / (10 : Int32)) - (v1 / (10 : Int32)) / (10 : Int32) * (10 : Int32))))] (c_Rf_lay1 e7) yy_Rf_lay1.1 wm_1543 yy_Rf_lay1.2.1 yy_Rf_lay1.2.2 xB_0 ⟨_, _, rfl⟩ rfl ⟨Nat.le_of_ble_eq_true rfl, Nat.le_of_ble_eq_true rfl⟩ ⟨Nat.zero_le _, Nat.zero_le _⟩ (Nat.le_of_ble_eq_true rfl) dX12_writeNumber_34 ?_
    exact t_Rf_writeNumber_J37 h hE
set_option maxRecDepth 100000 in
set_option maxHeartbeats 4000000 in
theorem t_Rf_writeNumber {l : Launch} {G : aw_G} {E : aw_E} {σ : aw_S} {p1 : Int32} {t : aw_S} (h : m_Rf_writeNumber σ p1 = some t) (hE : E = (none, xB, t)) : aw_W l M_Rf_writeNumber G B_Rf_writeNumber E 0 [(0, .ref 0), (1, .int p1)] [] xB σ 0 0 := by
  unfold m_Rf_writeNumber at h
  refine aw_iload_n (pc := 0) (q := 1) dX12_writeNumber_0 rfl ?_
  refine aw_bipush (pc := 1) (v := 99) dX12_writeNumber_1 (by decide) ?_
  refine aw_icmp_le (pc := 3) (tgt := 17) dX12_writeNumber_3 (by decide) (fun c1 => ?_) (fun c1 => ?_)
  · replace h := aw_ifp c1 h
    exact t_Rf_writeNumber_J17 h hE
  · replace h := aw_ifn c1 h
    refine aw_aload_n (pc := 6) (q := 0) dX12_writeNumber_6 rfl ?_
    refine aw_bipush (pc := 7) (v := 48) dX12_writeNumber_7 (by decide) ?_
    refine aw_iload_n (pc := 9) (q := 1) dX12_writeNumber_9 rfl ?_
    refine aw_bipush (pc := 10) (v := 100) dX12_writeNumber_10 (by decide) ?_
    refine aw_idiv (pc := 12) dX12_writeNumber_12 (by decide) ?_
    refine aw_iadd (pc := 13) dX12_writeNumber_13 ?_
    obtain ⟨s11, e10, h⟩ := aw_bde h
    refine aw_cV0 (pc := 14) [.int (((48 : Int32) + (p1 / (100 : Int32))))] (c_Rf_lay1 e10) yy_Rf_lay1.1 wm_1543 yy_Rf_lay1.2.1 yy_Rf_lay1.2.2 xB_0 ⟨_, _, rfl⟩ rfl ⟨Nat.le_of_ble_eq_true rfl, Nat.le_of_ble_eq_true rfl⟩ ⟨Nat.zero_le _, Nat.zero_le _⟩ (Nat.le_of_ble_eq_true rfl) dX12_writeNumber_14 ?_
    exact t_Rf_writeNumber_J17 h hE
theorem c_Rf_writeNumber {l : Launch} {G : aw_G} {σ : aw_S} {p1 : Int32} {t : aw_S} (h : m_Rf_writeNumber σ p1 = some t) : aw_Ct l yX12_writeNumber M_Rf_writeNumber G B_Rf_writeNumber [.ref 0, .int p1] xB σ (none, xB, t) := aw_Ct_of (by decide) rfl (fun h => by cases h) (Nat.le_of_ble_eq_true rfl) (t_Rf_writeNumber h rfl)
/-! LateMoverModel.writeName(I)V -/
set_option maxRecDepth 100000 in
set_option maxHeartbeats 4000000 in
theorem t_Rf_writeName {l : Launch} {G : aw_G} {E : aw_E} {σ : aw_S} {p1 : Int32} {t : aw_S} (h : m_Rf_writeName σ p1 = some t) (hE : E = (none, xB, t)) : aw_W l M_Rf_writeName G B_Rf_writeName E 0 [(0, .ref 0), (1, .int p1)] [] xB σ 0 0 := by
  unfold m_Rf_writeName at h
  refine aw_aload_n (pc := 0) (q := 0) dX12_writeName_0 rfl ?_
  refine aw_bipush (pc := 1) (v := 35) dX12_writeName_1 (by decide) ?_
  obtain ⟨s3, e2, h⟩ := aw_bde h
  refine aw_cV0 (pc := 3) [.int ((35 : Int32))] (c_Rf_lay1 e2) yy_Rf_lay1.1 wm_1543 yy_Rf_lay1.2.1 yy_Rf_lay1.2.2 xB_0 ⟨_, _, rfl⟩ rfl ⟨Nat.le_of_ble_eq_true rfl, Nat.le_of_ble_eq_true rfl⟩ ⟨Nat.zero_le _, Nat.zero_le _⟩ (Nat.le_of_ble_eq_true rfl) dX12_writeName_3 ?_
  refine aw_aload_n (pc := 6) (q := 0) dX12_writeName_6 rfl ?_
  refine aw_iload_n (pc := 7) (q := 1) dX12_writeName_7 rfl ?_
  obtain ⟨s6, e5, h⟩ := aw_bde h
  refine aw_cV0 (pc := 8) [.int p1] (c_Rf_writeNumber e5) yy_Rf_writeNumber.1 wm_1547 yy_Rf_writeNumber.2.1 yy_Rf_writeNumber.2.2 xB_0 ⟨_, _, rfl⟩ rfl ⟨Nat.le_of_ble_eq_true rfl, Nat.le_of_ble_eq_true rfl⟩ ⟨Nat.zero_le _, Nat.zero_le _⟩ (Nat.le_of_ble_eq_true rfl) dX12_writeName_8 ?_
  cases h
  subst hE
  exact aw_vret rfl ⟨Nat.zero_le _, Nat.zero_le _⟩ dX12_writeName_11
theorem c_Rf_writeName {l : Launch} {G : aw_G} {σ : aw_S} {p1 : Int32} {t : aw_S} (h : m_Rf_writeName σ p1 = some t) : aw_Ct l yX12_writeName M_Rf_writeName G B_Rf_writeName [.ref 0, .int p1] xB σ (none, xB, t) := aw_Ct_of (by decide) rfl (fun h => by cases h) (Nat.le_of_ble_eq_true rfl) (t_Rf_writeName h rfl)
/-! LateMoverModel.writeA(I)V -/
set_option maxRecDepth 100000 in
set_option maxHeartbeats 4000000 in
theorem t_Rf_writeA {l : Launch} {G : aw_G} {E : aw_E} {σ : aw_S} {p1 : Int32} {t : aw_S} (h : m_Rf_writeA σ p1 = some t) (hE : E = (none, xB, t)) : aw_W l M_Rf_writeA G B_Rf_writeA E 0 [(0, .ref 0), (1, .int p1)] [] xB σ 0 0 := by
  unfold m_Rf_writeA at h
  refine aw_iload_n (pc := 0) (q := 1) dX12_writeA_0 rfl ?_
  refine aw_bipush (pc := 1) (v := 26) dX12_writeA_1 (by decide) ?_
  refine aw_icmp_ge (pc := 3) (tgt := 17) dX12_writeA_3 (by decide) (fun c1 => ?_) (fun c1 => ?_)
  · replace h := aw_ifp c1 h
    refine aw_aload_n (pc := 17) (q := 0) dX12_writeA_17 rfl ?_
    refine aw_iload_n (pc := 18) (q := 1) dX12_writeA_18 rfl ?_
    refine aw_bipush (pc := 19) (v := 26) dX12_writeA_19 (by decide) ?_
    refine aw_isub (pc := 21) dX12_writeA_21 ?_
    obtain ⟨s4, e3, h⟩ := aw_bde h
    refine aw_cV0 (pc := 22) [.int ((p1 - (26 : Int32)))] (c_Rf_writeNumber e3) yy_Rf_writeNumber.1 wm_1547 yy_Rf_writeNumber.2.1 yy_Rf_writeNumber.2.2 xB_0 ⟨_, _, rfl⟩ rfl ⟨Nat.le_of_ble_eq_true rfl, Nat.le_of_ble_eq_true rfl⟩ ⟨Nat.zero_le _, Nat.zero_le _⟩ (Nat.le_of_ble_eq_true rfl) dX12_writeA_22 ?_
    cases h
    subst hE
    exact aw_vret rfl ⟨Nat.zero_le _, Nat.zero_le _⟩ dX12_writeA_25
  · replace h := aw_ifn c1 h
    refine aw_aload_n (pc := 6) (q := 0) dX12_writeA_6 rfl ?_
    refine aw_bipush (pc := 7) (v := 97) dX12_writeA_7 (by decide) ?_
    refine aw_iload_n (pc := 9) (q := 1) dX12_writeA_9 rfl ?_
    refine aw_iadd (pc := 10) dX12_writeA_10 ?_
    obtain ⟨s7, e6, h⟩ := aw_bde h
    refine aw_cV0 (pc := 11) [.int (((97 : Int32) + p1))] (c_Rf_lay1 e6) yy_Rf_lay1.1 wm_1543 yy_Rf_lay1.2.1 yy_Rf_lay1.2.2 xB_0 ⟨_, _, rfl⟩ rfl ⟨Nat.le_of_ble_eq_true rfl, Nat.le_of_ble_eq_true rfl⟩ ⟨Nat.zero_le _, Nat.zero_le _⟩ (Nat.le_of_ble_eq_true rfl) dX12_writeA_11 ?_
    refine aw_goto (pc := 14) (tgt := 25) dX12_writeA_14 (by decide) ?_
    cases h
    subst hE
    exact aw_vret rfl ⟨Nat.zero_le _, Nat.zero_le _⟩ dX12_writeA_25
theorem c_Rf_writeA {l : Launch} {G : aw_G} {σ : aw_S} {p1 : Int32} {t : aw_S} (h : m_Rf_writeA σ p1 = some t) : aw_Ct l yX12_writeA M_Rf_writeA G B_Rf_writeA [.ref 0, .int p1] xB σ (none, xB, t) := aw_Ct_of (by decide) rfl (fun h => by cases h) (Nat.le_of_ble_eq_true rfl) (t_Rf_writeA h rfl)
/-! LateMoverModel.writeExpression(I)V -/
set_option maxRecDepth 100000 in
set_option maxHeartbeats 4000000 in
theorem t_Rf_writeExpression {l : Launch} {G : aw_G} {E : aw_E} {σ : aw_S} {p1 : Int32} {t : aw_S} (h : m_Rf_writeExpression σ p1 = some t) (hE : E = (none, xB, t)) : aw_W l M_Rf_writeExpression G B_Rf_writeExpression E 0 [(0, .ref 0), (1, .int p1)] [] xB σ 0 0 := by
  unfold m_Rf_writeExpression at h
  refine aw_aload_n (pc := 0) (q := 0) dX12_writeExpression_0 rfl ?_
  refine aw_aload_n (pc := 1) (q := 0) dX12_writeExpression_1 rfl ?_
  refine aw_sipush (pc := 2) (v := 292) dX12_writeExpression_2 (by decide) ?_
  refine aw_iconst (pc := 5) (v := 2) dX12_writeExpression_5 (by decide) ?_
  refine aw_iload_n (pc := 6) (q := 1) dX12_writeExpression_6 rfl ?_
  refine aw_imul (pc := 7) dX12_writeExpression_7 ?_
  refine aw_iadd (pc := 8) dX12_writeExpression_8 ?_
  obtain ⟨r1, e2, h⟩ := aw_bde h
  refine aw_cV1 (pc := 9) [.int (((292 : Int32) + ((2 : Int32) * p1)))] (c_Rf_get e2) yy_Rf_get.1 wm_736 yy_Rf_get.2.1 yy_Rf_get.2.2 xB_0 ⟨_, _, rfl⟩ rfl ⟨Nat.le_of_ble_eq_true rfl, Nat.le_of_ble_eq_true rfl⟩ ⟨Nat.zero_le _, Nat.zero_le _⟩ (Nat.le_of_ble_eq_true rfl) dX12_writeExpression_9 ?_
  obtain ⟨s5, e4, h⟩ := aw_bde h
  refine aw_cV0 (pc := 12) [.int r1] (c_Rf_writeA e4) yy_Rf_writeA.1 wm_1555 yy_Rf_writeA.2.1 yy_Rf_writeA.2.2 xB_0 ⟨_, _, rfl⟩ rfl ⟨Nat.le_of_ble_eq_true rfl, Nat.le_of_ble_eq_true rfl⟩ ⟨Nat.zero_le _, Nat.zero_le _⟩ (Nat.le_of_ble_eq_true rfl) dX12_writeExpression_12 ?_
  refine aw_aload_n (pc := 15) (q := 0) dX12_writeExpression_15 rfl ?_
  refine aw_aload_n (pc := 16) (q := 0) dX12_writeExpression_16 rfl ?_
  refine aw_sipush (pc := 17) (v := 268) dX12_writeExpression_17 (by decide) ?_
  refine aw_iload_n (pc := 20) (q := 1) dX12_writeExpression_20 rfl ?_
  refine aw_iadd (pc := 21) dX12_writeExpression_21 ?_
  obtain ⟨r6, e7, h⟩ := aw_bde h
  refine aw_cV1 (pc := 22) [.int (((268 : Int32) + p1))] (c_Rf_get e7) yy_Rf_get.1 wm_736 yy_Rf_get.2.1 yy_Rf_get.2.2 xB_0 ⟨_, _, rfl⟩ rfl ⟨Nat.le_of_ble_eq_true rfl, Nat.le_of_ble_eq_true rfl⟩ ⟨Nat.zero_le _, Nat.zero_le _⟩ (Nat.le_of_ble_eq_true rfl) dX12_writeExpression_22 ?_
  obtain ⟨s10, e9, h⟩ := aw_bde h
  refine aw_cV0 (pc := 25) [.int r6] (c_Rf_lay1 e9) yy_Rf_lay1.1 wm_1543 yy_Rf_lay1.2.1 yy_Rf_lay1.2.2 xB_0 ⟨_, _, rfl⟩ rfl ⟨Nat.le_of_ble_eq_true rfl, Nat.le_of_ble_eq_true rfl⟩ ⟨Nat.zero_le _, Nat.zero_le _⟩ (Nat.le_of_ble_eq_true rfl) dX12_writeExpression_25 ?_
  refine aw_aload_n (pc := 28) (q := 0) dX12_writeExpression_28 rfl ?_
  refine aw_aload_n (pc := 29) (q := 0) dX12_writeExpression_29 rfl ?_
  refine aw_sipush (pc := 30) (v := 292) dX12_writeExpression_30 (by decide) ?_
  refine aw_iconst (pc := 33) (v := 2) dX12_writeExpression_33 (by decide) ?_
  refine aw_iload_n (pc := 34) (q := 1) dX12_writeExpression_34 rfl ?_
  refine aw_imul (pc := 35) dX12_writeExpression_35 ?_
  refine aw_iadd (pc := 36) dX12_writeExpression_36 ?_
  refine aw_iconst (pc := 37) (v := 1) dX12_writeExpression_37 (by decide) ?_
  refine aw_iadd (pc := 38) dX12_writeExpression_38 ?_
  obtain ⟨r11, e12, h⟩ := aw_bde h
  refine aw_cV1 (pc := 39) [.int ((((292 : Int32) + ((2 : Int32) * p1)) + (1 : Int32)))] (c_Rf_get e12) yy_Rf_get.1 wm_736 yy_Rf_get.2.1 yy_Rf_get.2.2 xB_0 ⟨_, _, rfl⟩ rfl ⟨Nat.le_of_ble_eq_true rfl, Nat.le_of_ble_eq_true rfl⟩ ⟨Nat.zero_le _, Nat.zero_le _⟩ (Nat.le_of_ble_eq_true rfl) dX12_writeExpression_39 ?_
  obtain ⟨s15, e14, h⟩ := aw_bde h
  refine aw_cV0 (pc := 42) [.int r11] (c_Rf_writeA e14) yy_Rf_writeA.1 wm_1555 yy_Rf_writeA.2.1 yy_Rf_writeA.2.2 xB_0 ⟨_, _, rfl⟩ rfl ⟨Nat.le_of_ble_eq_true rfl, Nat.le_of_ble_eq_true rfl⟩ ⟨Nat.zero_le _, Nat.zero_le _⟩ (Nat.le_of_ble_eq_true rfl) dX12_writeExpression_42 ?_
  cases h
  subst hE
  exact aw_vret rfl ⟨Nat.zero_le _, Nat.zero_le _⟩ dX12_writeExpression_45
theorem c_Rf_writeExpression {l : Launch} {G : aw_G} {σ : aw_S} {p1 : Int32} {t : aw_S} (h : m_Rf_writeExpression σ p1 = some t) : aw_Ct l yX12_writeExpression M_Rf_writeExpression G B_Rf_writeExpression [.ref 0, .int p1] xB σ (none, xB, t) := aw_Ct_of (by decide) rfl (fun h => by cases h) (Nat.le_of_ble_eq_true rfl) (t_Rf_writeExpression h rfl)
/-! LateMoverModel.writeEnd(I)V -/
set_option maxRecDepth 100000 in
set_option maxHeartbeats 4000000 in
theorem t_Rf_writeEnd_J95 {l : Launch} {G : aw_G} {E : aw_E} {σ : aw_S} {v1 : Int32} {v2 : Int32} {t : aw_S} (h : m_Rf_writeEnd_J95 σ v1 v2 = some t) (hE : E = (none, xB, t)) : aw_W l M_Rf_writeEnd G B_Rf_writeEnd E 95 [(0, .ref 0), (1, .int v1), (2, .int v2)] [] xB σ 0 0 := by
  unfold m_Rf_writeEnd_J95 at h
  refine aw_aload_n (pc := 95) (q := 0) dX12_writeEnd_95 rfl ?_
  refine aw_getC (pc := 96) fd_X12_24.r xB_0 rfl dX12_writeEnd_96 ?_
  refine aw_iload_n (pc := 99) (q := 1) dX12_writeEnd_99 rfl ?_
  obtain ⟨g14, h⟩ := aw_gde h
  refine aw_iald (pc := 100) xB_4 g14 dX12_writeEnd_100 ?_
  refine aw_iconst (pc := 101) (v := 5) dX12_writeEnd_101 (by decide) ?_
  refine aw_icmp_eq (pc := 102) (tgt := 106) dX12_writeEnd_102 (by decide) (fun c15 => ?_) (fun c15 => ?_)
  · replace h := aw_ifp c15 h
    refine aw_aload_n (pc := 106) (q := 0) dX12_writeEnd_106 rfl ?_
    refine aw_bipush (pc := 107) (v := 44) dX12_writeEnd_107 (by decide) ?_
    obtain ⟨s18, e17, h⟩ := aw_bde h
    refine aw_cV0 (pc := 109) [.int ((44 : Int32))] (c_Rf_lay1 e17) yy_Rf_lay1.1 wm_1543 yy_Rf_lay1.2.1 yy_Rf_lay1.2.2 xB_0 ⟨_, _, rfl⟩ rfl ⟨Nat.le_of_ble_eq_true rfl, Nat.le_of_ble_eq_true rfl⟩ ⟨Nat.zero_le _, Nat.zero_le _⟩ (Nat.le_of_ble_eq_true rfl) dX12_writeEnd_109 ?_
    refine aw_aload_n (pc := 112) (q := 0) dX12_writeEnd_112 rfl ?_
    refine aw_aload_n (pc := 113) (q := 0) dX12_writeEnd_113 rfl ?_
    refine aw_sipush (pc := 114) (v := 236) dX12_writeEnd_114 (by decide) ?_
    refine aw_iconst (pc := 117) (v := 2) dX12_writeEnd_117 (by decide) ?_
    refine aw_iload_n (pc := 118) (q := 2) dX12_writeEnd_118 rfl ?_
    refine aw_imul (pc := 119) dX12_writeEnd_119 ?_
    refine aw_iadd (pc := 120) dX12_writeEnd_120 ?_
    refine aw_iconst (pc := 121) (v := 1) dX12_writeEnd_121 (by decide) ?_
    refine aw_iadd (pc := 122) dX12_writeEnd_122 ?_
    obtain ⟨r19, e20, h⟩ := aw_bde h
    refine aw_cV1 (pc := 123) [.int ((((236 : Int32) + ((2 : Int32) * v2)) + (1 : Int32)))] (c_Rf_get e20) yy_Rf_get.1 wm_736 yy_Rf_get.2.1 yy_Rf_get.2.2 xB_0 ⟨_, _, rfl⟩ rfl ⟨Nat.le_of_ble_eq_true rfl, Nat.le_of_ble_eq_true rfl⟩ ⟨Nat.zero_le _, Nat.zero_le _⟩ (Nat.le_of_ble_eq_true rfl) dX12_writeEnd_123 ?_
    obtain ⟨s23, e22, h⟩ := aw_bde h
    refine aw_cV0 (pc := 126) [.int r19] (c_Rf_writeNumber e22) yy_Rf_writeNumber.1 wm_1547 yy_Rf_writeNumber.2.1 yy_Rf_writeNumber.2.2 xB_0 ⟨_, _, rfl⟩ rfl ⟨Nat.le_of_ble_eq_true rfl, Nat.le_of_ble_eq_true rfl⟩ ⟨Nat.zero_le _, Nat.zero_le _⟩ (Nat.le_of_ble_eq_true rfl) dX12_writeEnd_126 ?_
    cases h
    subst hE
    exact aw_vret rfl ⟨Nat.zero_le _, Nat.zero_le _⟩ dX12_writeEnd_129
  · replace h := aw_ifn c15 h
    cases h
    subst hE
    exact aw_vret rfl ⟨Nat.zero_le _, Nat.zero_le _⟩ dX12_writeEnd_105
set_option maxRecDepth 100000 in
set_option maxHeartbeats 4000000 in
theorem t_Rf_writeEnd_J69 {l : Launch} {G : aw_G} {E : aw_E} {σ : aw_S} {v1 : Int32} {v2 : Int32} {t : aw_S} (h : m_Rf_writeEnd_J69 σ v1 v2 = some t) (hE : E = (none, xB, t)) : aw_W l M_Rf_writeEnd G B_Rf_writeEnd E 69 [(0, .ref 0), (1, .int v1), (2, .int v2)] [] xB σ 0 0 := by
  unfold m_Rf_writeEnd_J69 at h
  refine aw_aload_n (pc := 69) (q := 0) dX12_writeEnd_69 rfl ?_
  refine aw_getC (pc := 70) fd_X12_24.r xB_0 rfl dX12_writeEnd_70 ?_
  refine aw_iload_n (pc := 73) (q := 1) dX12_writeEnd_73 rfl ?_
  obtain ⟨g12, h⟩ := aw_gde h
  refine aw_iald (pc := 74) xB_4 g12 dX12_writeEnd_74 ?_
  refine aw_bipush (pc := 75) (v := 6) dX12_writeEnd_75 (by decide) ?_
  refine aw_icmp_eq (pc := 77) (tgt := 95) dX12_writeEnd_77 (by decide) (fun c13 => ?_) (fun c13 => ?_)
  · replace h := aw_ifp c13 h
    exact t_Rf_writeEnd_J95 h hE
  · replace h := aw_ifn c13 h
    refine aw_aload_n (pc := 80) (q := 0) dX12_writeEnd_80 rfl ?_
    refine aw_aload_n (pc := 81) (q := 0) dX12_writeEnd_81 rfl ?_
    refine aw_sipush (pc := 82) (v := 236) dX12_writeEnd_82 (by decide) ?_
    refine aw_iconst (pc := 85) (v := 2) dX12_writeEnd_85 (by decide) ?_
    refine aw_iload_n (pc := 86) (q := 2) dX12_writeEnd_86 rfl ?_
    refine aw_imul (pc := 87) dX12_writeEnd_87 ?_
    refine aw_iadd (pc := 88) dX12_writeEnd_88 ?_
    obtain ⟨r24, e25, h⟩ := aw_bde h
    refine aw_cV1 (pc := 89) [.int (((236 : Int32) + ((2 : Int32) * v2)))] (c_Rf_get e25) yy_Rf_get.1 wm_736 yy_Rf_get.2.1 yy_Rf_get.2.2 xB_0 ⟨_, _, rfl⟩ rfl ⟨Nat.le_of_ble_eq_true rfl, Nat.le_of_ble_eq_true rfl⟩ ⟨Nat.zero_le _, Nat.zero_le _⟩ (Nat.le_of_ble_eq_true rfl) dX12_writeEnd_89 ?_
    obtain ⟨s28, e27, h⟩ := aw_bde h
    refine aw_cV0 (pc := 92) [.int r24] (c_Rf_writeNumber e27) yy_Rf_writeNumber.1 wm_1547 yy_Rf_writeNumber.2.1 yy_Rf_writeNumber.2.2 xB_0 ⟨_, _, rfl⟩ rfl ⟨Nat.le_of_ble_eq_true rfl, Nat.le_of_ble_eq_true rfl⟩ ⟨Nat.zero_le _, Nat.zero_le _⟩ (Nat.le_of_ble_eq_true rfl) dX12_writeEnd_92 ?_
    exact t_Rf_writeEnd_J95 h hE
set_option maxRecDepth 100000 in
set_option maxHeartbeats 4000000 in
theorem t_Rf_writeEnd_J40 {l : Launch} {G : aw_G} {E : aw_E} {σ : aw_S} {v1 : Int32} {v2 : Int32} {k1 : Int32} {t : aw_S} (h : m_Rf_writeEnd_J40 σ v1 v2 k1 = some t) (hE : E = (none, xB, t)) : aw_W l M_Rf_writeEnd G B_Rf_writeEnd E 40 [(0, .ref 0), (1, .int v1), (2, .int v2)] [.int k1, .ref 0] xB σ 0 0 := by
  unfold m_Rf_writeEnd_J40 at h
  obtain ⟨s9, e8, h⟩ := aw_bde h
  refine aw_cV0 (pc := 40) [.int k1] (c_Rf_lay1 e8) yy_Rf_lay1.1 wm_1543 yy_Rf_lay1.2.1 yy_Rf_lay1.2.2 xB_0 ⟨_, _, rfl⟩ rfl ⟨Nat.le_of_ble_eq_true rfl, Nat.le_of_ble_eq_true rfl⟩ ⟨Nat.zero_le _, Nat.zero_le _⟩ (Nat.le_of_ble_eq_true rfl) dX12_writeEnd_40 ?_
  refine aw_aload_n (pc := 43) (q := 0) dX12_writeEnd_43 rfl ?_
  refine aw_getC (pc := 44) fd_X12_24.r xB_0 rfl dX12_writeEnd_44 ?_
  refine aw_iload_n (pc := 47) (q := 1) dX12_writeEnd_47 rfl ?_
  obtain ⟨g10, h⟩ := aw_gde h
  refine aw_iald (pc := 48) xB_4 g10 dX12_writeEnd_48 ?_
  refine aw_iconst (pc := 49) (v := 5) dX12_writeEnd_49 (by decide) ?_
  refine aw_icmp_ne (pc := 50) (tgt := 69) dX12_writeEnd_50 (by decide) (fun c11 => ?_) (fun c11 => ?_)
  · replace h := aw_ifn c11 h
    exact t_Rf_writeEnd_J69 h hE
  · replace h := aw_ifp c11 h
    refine aw_aload_n (pc := 53) (q := 0) dX12_writeEnd_53 rfl ?_
    refine aw_bipush (pc := 54) (v := 97) dX12_writeEnd_54 (by decide) ?_
    refine aw_aload_n (pc := 56) (q := 0) dX12_writeEnd_56 rfl ?_
    refine aw_sipush (pc := 57) (v := 220) dX12_writeEnd_57 (by decide) ?_
    refine aw_iload_n (pc := 60) (q := 2) dX12_writeEnd_60 rfl ?_
    refine aw_iadd (pc := 61) dX12_writeEnd_61 ?_
    obtain ⟨r29, e30, h⟩ := aw_bde h
    refine aw_cV1 (pc := 62) [.int (((220 : Int32) + v2))] (c_Rf_get e30) yy_Rf_get.1 wm_736 yy_Rf_get.2.1 yy_Rf_get.2.2 xB_0 ⟨_, _, rfl⟩ rfl ⟨Nat.le_of_ble_eq_true rfl, Nat.le_of_ble_eq_true rfl⟩ ⟨Nat.zero_le _, Nat.zero_le _⟩ (Nat.le_of_ble_eq_true rfl) dX12_writeEnd_62 ?_
    refine aw_iadd (pc := 65) dX12_writeEnd_65 ?_
    obtain ⟨s33, e32, h⟩ := aw_bde h
    refine aw_cV0 (pc := 66) [.int (((97 : Int32) + r29))] (c_Rf_lay1 e32) yy_Rf_lay1.1 wm_1543 yy_Rf_lay1.2.1 yy_Rf_lay1.2.2 xB_0 ⟨_, _, rfl⟩ rfl ⟨Nat.le_of_ble_eq_true rfl, Nat.le_of_ble_eq_true rfl⟩ ⟨Nat.zero_le _, Nat.zero_le _⟩ (Nat.le_of_ble_eq_true rfl) dX12_writeEnd_66 ?_
    exact t_Rf_writeEnd_J69 h hE
set_option maxRecDepth 100000 in
set_option maxHeartbeats 4000000 in
theorem t_Rf_writeEnd {l : Launch} {G : aw_G} {E : aw_E} {σ : aw_S} {p1 : Int32} {t : aw_S} (h : m_Rf_writeEnd σ p1 = some t) (hE : E = (none, xB, t)) : aw_W l M_Rf_writeEnd G B_Rf_writeEnd E 0 [(0, .ref 0), (1, .int p1)] [] xB σ 0 0 := by
  unfold m_Rf_writeEnd at h
  refine aw_aload_n (pc := 0) (q := 0) dX12_writeEnd_0 rfl ?_
  refine aw_getC (pc := 1) fd_X12_27.r xB_0 rfl dX12_writeEnd_1 ?_
  refine aw_iload_n (pc := 4) (q := 1) dX12_writeEnd_4 rfl ?_
  obtain ⟨g1, h⟩ := aw_gde h
  refine aw_iald (pc := 5) xB_5 g1 dX12_writeEnd_5 ?_
  refine aw_nmI (fun x2 e_x2 => ?_)
  replace h := aw_lte h x2 e_x2
  refine aw_istore_n (pc := 6) [(2, .int x2), (0, .ref 0), (1, .int p1)] dX12_writeEnd_6 (by decide) rfl ?_
  refine aw_aload_n (pc := 7) (q := 1) dX12_writeEnd_7 rfl ?_
  refine aw_aload_n (pc := 8) (q := 1) dX12_writeEnd_8 rfl ?_
  refine aw_getC (pc := 9) fd_X12_24.r xB_0 rfl dX12_writeEnd_9 ?_
  refine aw_iload_n (pc := 12) (q := 2) dX12_writeEnd_12 rfl ?_
  obtain ⟨g3, h⟩ := aw_gde h
  refine aw_iald (pc := 13) xB_4 g3 dX12_writeEnd_13 ?_
  refine aw_iconst (pc := 14) (v := 4) dX12_writeEnd_14 (by decide) ?_
  refine aw_icmp_ne (pc := 15) (tgt := 23) dX12_writeEnd_15 (by decide) (fun c4 => ?_) (fun c4 => ?_)
  · replace h := aw_ifn c4 h
    refine aw_aload_n (pc := 23) (q := 1) dX12_writeEnd_23 rfl ?_
    refine aw_getC (pc := 24) fd_X12_24.r xB_0 rfl dX12_writeEnd_24 ?_
    refine aw_iload_n (pc := 27) (q := 2) dX12_writeEnd_27 rfl ?_
    obtain ⟨g5, h⟩ := aw_gde h
    refine aw_iald (pc := 28) xB_4 g5 dX12_writeEnd_28 ?_
    refine aw_iconst (pc := 29) (v := 5) dX12_writeEnd_29 (by decide) ?_
    refine aw_icmp_ne (pc := 30) (tgt := 38) dX12_writeEnd_30 (by decide) (fun c6 => ?_) (fun c6 => ?_)
    · replace h := aw_ifn c6 h
      refine aw_bipush (pc := 38) (v := 46) dX12_writeEnd_38 (by decide) ?_
      refine aw_sub [1, 2, 0] rfl ?_
      exact t_Rf_writeEnd_J40 h hE
    · replace h := aw_ifp c6 h
      refine aw_bipush (pc := 33) (v := 63) dX12_writeEnd_33 (by decide) ?_
      refine aw_goto (pc := 35) (tgt := 40) dX12_writeEnd_35 (by decide) ?_
      refine aw_sub [1, 2, 0] rfl ?_
      exact t_Rf_writeEnd_J40 h hE
  · replace h := aw_ifp c4 h
    refine aw_bipush (pc := 18) (v := 62) dX12_writeEnd_18 (by decide) ?_
    refine aw_goto (pc := 20) (tgt := 40) dX12_writeEnd_20 (by decide) ?_
    refine aw_sub [1, 2, 0] rfl ?_
    exact t_Rf_writeEnd_J40 h hE
theorem c_Rf_writeEnd {l : Launch} {G : aw_G} {σ : aw_S} {p1 : Int32} {t : aw_S} (h : m_Rf_writeEnd σ p1 = some t) : aw_Ct l yX12_writeEnd M_Rf_writeEnd G B_Rf_writeEnd [.ref 0, .int p1] xB σ (none, xB, t) := aw_Ct_of (by decide) rfl (fun h => by cases h) (Nat.le_of_ble_eq_true rfl) (t_Rf_writeEnd h rfl)
/-! LateMoverModel.writeStatement(II)V -/
set_option maxRecDepth 100000 in
set_option maxHeartbeats 4000000 in
theorem t_Rf_writeStatement_J107 {l : Launch} {G : aw_G} {E : aw_E} {σ : aw_S} {v4 : Int32} {t : aw_S} (h : m_Rf_writeStatement_J107 σ v4 = some t) (hE : E = (none, xB, t)) : aw_W l M_Rf_writeStatement G B_Rf_writeStatement E 107 [(0, .ref 0), (4, .int v4)] [] xB σ 0 0 := by
  unfold m_Rf_writeStatement_J107 at h
  refine aw_aload_n (pc := 107) (q := 0) dX12_writeStatement_107 rfl ?_
  refine aw_iload (pc := 108) (q := 1) dX12_writeStatement_108 rfl ?_
  obtain ⟨s20, e19, h⟩ := aw_bde h
  refine aw_cV0 (pc := 110) [.int v4] (c_Rf_writeExpression e19) yy_Rf_writeExpression.1 wm_1551 yy_Rf_writeExpression.2.1 yy_Rf_writeExpression.2.2 xB_0 ⟨_, _, rfl⟩ rfl ⟨Nat.le_of_ble_eq_true rfl, Nat.le_of_ble_eq_true rfl⟩ ⟨Nat.zero_le _, Nat.zero_le _⟩ (Nat.le_of_ble_eq_true rfl) dX12_writeStatement_110 ?_
  cases h
  subst hE
  exact aw_vret rfl ⟨Nat.zero_le _, Nat.zero_le _⟩ dX12_writeStatement_113
set_option maxRecDepth 100000 in
set_option maxHeartbeats 4000000 in
theorem t_Rf_writeStatement_J47 {l : Launch} {G : aw_G} {E : aw_E} {σ : aw_S} {v1 : Int32} {v2 : Int32} {v3 : Int32} {t : aw_S} (h : m_Rf_writeStatement_J47 σ v1 v2 v3 = some t) (hE : E = (none, xB, t)) : aw_W l M_Rf_writeStatement G B_Rf_writeStatement E 47 [(0, .ref 0), (1, .int v1), (2, .int v2), (3, .int v3)] [] xB σ 0 0 := by
  unfold m_Rf_writeStatement_J47 at h
  refine aw_aload_n (pc := 47) (q := 0) dX12_writeStatement_47 rfl ?_
  refine aw_getC (pc := 48) fd_X12_24.r xB_0 rfl dX12_writeStatement_48 ?_
  refine aw_iload_n (pc := 51) (q := 1) dX12_writeStatement_51 rfl ?_
  obtain ⟨g13, h⟩ := aw_gde h
  refine aw_iald (pc := 52) xB_4 g13 dX12_writeStatement_52 ?_
  refine aw_iconst (pc := 53) (v := 2) dX12_writeStatement_53 (by decide) ?_
  refine aw_icmp_eq (pc := 54) (tgt := 70) dX12_writeStatement_54 (by decide) (fun c14 => ?_) (fun c14 => ?_)
  · replace h := aw_ifp c14 h
    refine aw_aload_n (pc := 70) (q := 0) dX12_writeStatement_70 rfl ?_
    refine aw_iload_n (pc := 71) (q := 1) dX12_writeStatement_71 rfl ?_
    obtain ⟨r15, e16, h⟩ := aw_bde h
    refine aw_cV1 (pc := 72) [.int v1] (c_Rf_expressionOf e16) yy_Rf_expressionOf.1 wm_776 yy_Rf_expressionOf.2.1 yy_Rf_expressionOf.2.2 xB_0 ⟨_, _, rfl⟩ rfl ⟨Nat.le_of_ble_eq_true rfl, Nat.le_of_ble_eq_true rfl⟩ ⟨Nat.zero_le _, Nat.zero_le _⟩ (Nat.le_of_ble_eq_true rfl) dX12_writeStatement_72 ?_
    refine aw_istore (pc := 75) [(4, .int r15), (0, .ref 0), (1, .int v1), (2, .int v2), (3, .int v3)] dX12_writeStatement_75 (by decide) rfl ?_
    refine aw_iload_n (pc := 77) (q := 3) dX12_writeStatement_77 rfl ?_
    refine aw_iconst (pc := 78) (v := -1) dX12_writeStatement_78 (by decide) ?_
    refine aw_icmp_eq (pc := 79) (tgt := 107) dX12_writeStatement_79 (by decide) (fun c17 => ?_) (fun c17 => ?_)
    · replace h := aw_ifp c17 h
      refine aw_sub [1, 0] rfl ?_
      exact t_Rf_writeStatement_J107 h hE
    · replace h := aw_ifn c17 h
      refine aw_aload_n (pc := 82) (q := 1) dX12_writeStatement_82 rfl ?_
      refine aw_getC (pc := 83) fd_X12_52.r xB_0 rfl dX12_writeStatement_83 ?_
      refine aw_iload_n (pc := 86) (q := 3) dX12_writeStatement_86 rfl ?_
      refine aw_iconst (pc := 87) (v := 1) dX12_writeStatement_87 (by decide) ?_
      refine aw_iload (pc := 88) (q := 0) dX12_writeStatement_88 rfl ?_
      refine aw_iload_n (pc := 90) (q := 2) dX12_writeStatement_90 rfl ?_
      obtain ⟨r21, e22, h⟩ := aw_bde h
      refine aw_cS1 (pc := 91) [.int v2, .int ((1 : Int32)), .int r15, .int v1] (c_Rf_at e22) yy_Rf_at.1 wm_827 yy_Rf_at.2 rfl ⟨Nat.le_of_ble_eq_true rfl, Nat.le_of_ble_eq_true rfl⟩ ⟨Nat.zero_le _, Nat.zero_le _⟩ (Nat.le_of_ble_eq_true rfl) dX12_writeStatement_91 ?_
      obtain ⟨g23, h⟩ := aw_gde h
      refine aw_zald (pc := 94) xB_13 g23 dX12_writeStatement_94 ?_
      refine aw_if_eq (pc := 95) (tgt := 107) dX12_writeStatement_95 (by decide) (fun c24 => ?_) (fun c24 => ?_)
      · replace h := aw_ifp c24 h
        refine aw_sub [1, 0] rfl ?_
        exact t_Rf_writeStatement_J107 h hE
      · replace h := aw_ifn c24 h
        refine aw_aload_n (pc := 98) (q := 1) dX12_writeStatement_98 rfl ?_
        refine aw_iload (pc := 99) (q := 0) dX12_writeStatement_99 rfl ?_
        obtain ⟨s27, e26, h⟩ := aw_bde h
        refine aw_cV0 (pc := 101) [.int r15] (c_Rf_writeName e26) yy_Rf_writeName.1 wm_1539 yy_Rf_writeName.2.1 yy_Rf_writeName.2.2 xB_0 ⟨_, _, rfl⟩ rfl ⟨Nat.le_of_ble_eq_true rfl, Nat.le_of_ble_eq_true rfl⟩ ⟨Nat.zero_le _, Nat.zero_le _⟩ (Nat.le_of_ble_eq_true rfl) dX12_writeStatement_101 ?_
        refine aw_goto (pc := 104) (tgt := 113) dX12_writeStatement_104 (by decide) ?_
        cases h
        subst hE
        exact aw_vret rfl ⟨Nat.zero_le _, Nat.zero_le _⟩ dX12_writeStatement_113
  · replace h := aw_ifn c14 h
    refine aw_aload_n (pc := 57) (q := 0) dX12_writeStatement_57 rfl ?_
    refine aw_aload_n (pc := 58) (q := 0) dX12_writeStatement_58 rfl ?_
    refine aw_bipush (pc := 59) (v := 124) dX12_writeStatement_59 (by decide) ?_
    refine aw_iload_n (pc := 61) (q := 3) dX12_writeStatement_61 rfl ?_
    refine aw_iadd (pc := 62) dX12_writeStatement_62 ?_
    obtain ⟨r28, e29, h⟩ := aw_bde h
    refine aw_cV1 (pc := 63) [.int (((124 : Int32) + v3))] (c_Rf_get e29) yy_Rf_get.1 wm_736 yy_Rf_get.2.1 yy_Rf_get.2.2 xB_0 ⟨_, _, rfl⟩ rfl ⟨Nat.le_of_ble_eq_true rfl, Nat.le_of_ble_eq_true rfl⟩ ⟨Nat.zero_le _, Nat.zero_le _⟩ (Nat.le_of_ble_eq_true rfl) dX12_writeStatement_63 ?_
    obtain ⟨s32, e31, h⟩ := aw_bde h
    refine aw_cV0 (pc := 66) [.int r28] (c_Rf_writeA e31) yy_Rf_writeA.1 wm_1555 yy_Rf_writeA.2.1 yy_Rf_writeA.2.2 xB_0 ⟨_, _, rfl⟩ rfl ⟨Nat.le_of_ble_eq_true rfl, Nat.le_of_ble_eq_true rfl⟩ ⟨Nat.zero_le _, Nat.zero_le _⟩ (Nat.le_of_ble_eq_true rfl) dX12_writeStatement_66 ?_
    cases h
    subst hE
    exact aw_vret rfl ⟨Nat.zero_le _, Nat.zero_le _⟩ dX12_writeStatement_69
set_option maxRecDepth 100000 in
set_option maxHeartbeats 4000000 in
theorem t_Rf_writeStatement {l : Launch} {G : aw_G} {E : aw_E} {σ : aw_S} {p1 : Int32} {p2 : Int32} {t : aw_S} (h : m_Rf_writeStatement σ p1 p2 = some t) (hE : E = (none, xB, t)) : aw_W l M_Rf_writeStatement G B_Rf_writeStatement E 0 [(0, .ref 0), (1, .int p1), (2, .int p2)] [] xB σ 0 0 := by
  unfold m_Rf_writeStatement at h
  refine aw_aload_n (pc := 0) (q := 0) dX12_writeStatement_0 rfl ?_
  refine aw_getC (pc := 1) fd_X12_30.r xB_0 rfl dX12_writeStatement_1 ?_
  refine aw_iload_n (pc := 4) (q := 1) dX12_writeStatement_4 rfl ?_
  obtain ⟨g1, h⟩ := aw_gde h
  refine aw_iald (pc := 5) xB_6 g1 dX12_writeStatement_5 ?_
  refine aw_nmI (fun x2 e_x2 => ?_)
  replace h := aw_lte h x2 e_x2
  refine aw_istore_n (pc := 6) [(3, .int x2), (0, .ref 0), (1, .int p1), (2, .int p2)] dX12_writeStatement_6 (by decide) rfl ?_
  refine aw_aload_n (pc := 7) (q := 1) dX12_writeStatement_7 rfl ?_
  refine aw_getC (pc := 8) fd_X12_24.r xB_0 rfl dX12_writeStatement_8 ?_
  refine aw_iload_n (pc := 11) (q := 2) dX12_writeStatement_11 rfl ?_
  obtain ⟨g3, h⟩ := aw_gde h
  refine aw_iald (pc := 12) xB_4 g3 dX12_writeStatement_12 ?_
  refine aw_iconst (pc := 13) (v := 3) dX12_writeStatement_13 (by decide) ?_
  refine aw_icmp_ne (pc := 14) (tgt := 26) dX12_writeStatement_14 (by decide) (fun c4 => ?_) (fun c4 => ?_)
  · replace h := aw_ifn c4 h
    refine aw_aload_n (pc := 26) (q := 1) dX12_writeStatement_26 rfl ?_
    refine aw_bipush (pc := 27) (v := 97) dX12_writeStatement_27 (by decide) ?_
    refine aw_aload_n (pc := 29) (q := 1) dX12_writeStatement_29 rfl ?_
    refine aw_bipush (pc := 30) (v := 64) dX12_writeStatement_30 (by decide) ?_
    refine aw_iload_n (pc := 32) (q := 0) dX12_writeStatement_32 rfl ?_
    refine aw_iadd (pc := 33) dX12_writeStatement_33 ?_
    obtain ⟨r5, e6, h⟩ := aw_bde h
    refine aw_cV1 (pc := 34) [.int (((64 : Int32) + x2))] (c_Rf_get e6) yy_Rf_get.1 wm_736 yy_Rf_get.2.1 yy_Rf_get.2.2 xB_0 ⟨_, _, rfl⟩ rfl ⟨Nat.le_of_ble_eq_true rfl, Nat.le_of_ble_eq_true rfl⟩ ⟨Nat.zero_le _, Nat.zero_le _⟩ (Nat.le_of_ble_eq_true rfl) dX12_writeStatement_34 ?_
    refine aw_iadd (pc := 37) dX12_writeStatement_37 ?_
    obtain ⟨s9, e8, h⟩ := aw_bde h
    refine aw_cV0 (pc := 38) [.int (((97 : Int32) + r5))] (c_Rf_lay1 e8) yy_Rf_lay1.1 wm_1543 yy_Rf_lay1.2.1 yy_Rf_lay1.2.2 xB_0 ⟨_, _, rfl⟩ rfl ⟨Nat.le_of_ble_eq_true rfl, Nat.le_of_ble_eq_true rfl⟩ ⟨Nat.zero_le _, Nat.zero_le _⟩ (Nat.le_of_ble_eq_true rfl) dX12_writeStatement_38 ?_
    refine aw_aload_n (pc := 41) (q := 1) dX12_writeStatement_41 rfl ?_
    refine aw_bipush (pc := 42) (v := 61) dX12_writeStatement_42 (by decide) ?_
    obtain ⟨s12, e11, h⟩ := aw_bde h
    refine aw_cV0 (pc := 44) [.int ((61 : Int32))] (c_Rf_lay1 e11) yy_Rf_lay1.1 wm_1543 yy_Rf_lay1.2.1 yy_Rf_lay1.2.2 xB_0 ⟨_, _, rfl⟩ rfl ⟨Nat.le_of_ble_eq_true rfl, Nat.le_of_ble_eq_true rfl⟩ ⟨Nat.zero_le _, Nat.zero_le _⟩ (Nat.le_of_ble_eq_true rfl) dX12_writeStatement_44 ?_
    refine aw_sub [1, 2, 3, 0] rfl ?_
    exact t_Rf_writeStatement_J47 h hE
  · replace h := aw_ifp c4 h
    refine aw_aload_n (pc := 17) (q := 1) dX12_writeStatement_17 rfl ?_
    refine aw_bipush (pc := 18) (v := 33) dX12_writeStatement_18 (by decide) ?_
    obtain ⟨s35, e34, h⟩ := aw_bde h
    refine aw_cV0 (pc := 20) [.int ((33 : Int32))] (c_Rf_lay1 e34) yy_Rf_lay1.1 wm_1543 yy_Rf_lay1.2.1 yy_Rf_lay1.2.2 xB_0 ⟨_, _, rfl⟩ rfl ⟨Nat.le_of_ble_eq_true rfl, Nat.le_of_ble_eq_true rfl⟩ ⟨Nat.zero_le _, Nat.zero_le _⟩ (Nat.le_of_ble_eq_true rfl) dX12_writeStatement_20 ?_
    refine aw_goto (pc := 23) (tgt := 47) dX12_writeStatement_23 (by decide) ?_
    refine aw_sub [1, 2, 3, 0] rfl ?_
    exact t_Rf_writeStatement_J47 h hE
theorem c_Rf_writeStatement {l : Launch} {G : aw_G} {σ : aw_S} {p1 : Int32} {p2 : Int32} {t : aw_S} (h : m_Rf_writeStatement σ p1 p2 = some t) : aw_Ct l yX12_writeStatement M_Rf_writeStatement G B_Rf_writeStatement [.ref 0, .int p1, .int p2] xB σ (none, xB, t) := aw_Ct_of (by decide) rfl (fun h => by cases h) (Nat.le_of_ble_eq_true rfl) (t_Rf_writeStatement h rfl)
/-! LateMoverModel.write(II)I -/
def z_Rf_write_X25 (l : Launch) (G : aw_G) (E : aw_E) (v1 : Int32) (v2 : Int32) (s : Int32 × aw_S) : Prop := aw_W l M_Rf_write G B_Rf_write E 25 [(0, .ref 0), (1, .int v1), (2, .int v2), (3, .int s.1)] [] xB s.2 0 0
def z_Rf_write_Y25 (l : Launch) (G : aw_G) (E : aw_E) (v1 : Int32) (v2 : Int32) (x : (aw_S)) : Prop := aw_W l M_Rf_write G B_Rf_write E 85 [(0, .ref 0), (1, .int v1), (2, .int v2)] [] xB x 0 0
set_option maxRecDepth 100000 in
set_option maxHeartbeats 4000000 in
theorem t_Rf_write_J79 {l : Launch} {G : aw_G} {E : aw_E} {σ : aw_S} {v1 : Int32} {v2 : Int32} {v3 : Int32} {t : (aw_S) ⊕ (Int32 × aw_S)} (h : m_Rf_write_J79 σ v1 v2 v3 = some t) (hz : Sum.elim (z_Rf_write_Y25 l G E v1 v2) (z_Rf_write_X25 l G E v1 v2) t) : aw_W l M_Rf_write G B_Rf_write E 79 [(0, .ref 0), (1, .int v1), (2, .int v2), (3, .int v3)] [] xB σ 0 0 := by
  unfold m_Rf_write_J79 at h
  obtain ⟨x28, e_x28⟩ : ∃ z, z = (v3 + (1 : Int32)) := ⟨_, rfl⟩
  replace h := aw_lte h x28 e_x28
  refine aw_iinc (pc := 79) (q := 3) (v := x28) [(3, .int x28), (0, .ref 0), (1, .int v1), (2, .int v2)] dX12_write_79 rfl e_x28.symm (by decide) rfl ?_
  refine aw_goto (pc := 82) (tgt := 25) dX12_write_82 (by decide) ?_
  refine aw_sub [1, 2, 3, 0] rfl ?_
  cases h
  exact hz
set_option maxRecDepth 100000 in
set_option maxHeartbeats 4000000 in
theorem t_Rf_write_B25 {l : Launch} {G : aw_G} {E : aw_E} {σ : aw_S} {v1 : Int32} {v2 : Int32} {v3 : Int32} {t : (aw_S) ⊕ (Int32 × aw_S)} (h : m_Rf_write_B25 σ v1 v2 v3 = some t) (hz : Sum.elim (z_Rf_write_Y25 l G E v1 v2) (z_Rf_write_X25 l G E v1 v2) t) : aw_W l M_Rf_write G B_Rf_write E 25 [(0, .ref 0), (1, .int v1), (2, .int v2), (3, .int v3)] [] xB σ 0 0 := by
  unfold m_Rf_write_B25 at h
  refine aw_iload_n (pc := 25) (q := 3) dX12_write_25 rfl ?_
  refine aw_aload_n (pc := 26) (q := 0) dX12_write_26 rfl ?_
  refine aw_iconst (pc := 27) (v := 2) dX12_write_27 (by decide) ?_
  obtain ⟨r8, e9, h⟩ := aw_bde h
  refine aw_cV1 (pc := 28) [.int ((2 : Int32))] (c_Rf_get e9) yy_Rf_get.1 wm_736 yy_Rf_get.2.1 yy_Rf_get.2.2 xB_0 ⟨_, _, rfl⟩ rfl ⟨Nat.le_of_ble_eq_true rfl, Nat.le_of_ble_eq_true rfl⟩ ⟨Nat.zero_le _, Nat.zero_le _⟩ (Nat.le_of_ble_eq_true rfl) dX12_write_28 ?_
  refine aw_icmp_ge (pc := 31) (tgt := 85) dX12_write_31 (by decide) (fun c10 => ?_) (fun c10 => ?_)
  · replace h := aw_ifp c10 h
    refine aw_sub [0, 1, 2] rfl ?_
    cases h
    exact hz
  · replace h := aw_ifn c10 h
    refine aw_iload_n (pc := 34) (q := 2) dX12_write_34 rfl ?_
    refine aw_iconst (pc := 35) (v := -1) dX12_write_35 (by decide) ?_
    refine aw_icmp_eq (pc := 36) (tgt := 85) dX12_write_36 (by decide) (fun c11 => ?_) (fun c11 => ?_)
    · replace h := aw_ifp c11 h
      refine aw_sub [0, 1, 2] rfl ?_
      cases h
      exact hz
    · replace h := aw_ifn c11 h
      refine aw_aload_n (pc := 39) (q := 0) dX12_write_39 rfl ?_
      refine aw_getC (pc := 40) fd_X12_52.r xB_0 rfl dX12_write_40 ?_
      refine aw_iload_n (pc := 43) (q := 2) dX12_write_43 rfl ?_
      refine aw_iconst (pc := 44) (v := 0) dX12_write_44 (by decide) ?_
      refine aw_iload_n (pc := 45) (q := 3) dX12_write_45 rfl ?_
      refine aw_iload_n (pc := 46) (q := 1) dX12_write_46 rfl ?_
      obtain ⟨r12, e13, h⟩ := aw_bde h
      refine aw_cS1 (pc := 47) [.int v2, .int ((0 : Int32)), .int v3, .int v1] (c_Rf_at e13) yy_Rf_at.1 wm_827 yy_Rf_at.2 rfl ⟨Nat.le_of_ble_eq_true rfl, Nat.le_of_ble_eq_true rfl⟩ ⟨Nat.zero_le _, Nat.zero_le _⟩ (Nat.le_of_ble_eq_true rfl) dX12_write_47 ?_
      obtain ⟨g14, h⟩ := aw_gde h
      refine aw_zald (pc := 50) xB_13 g14 dX12_write_50 ?_
      refine aw_if_ne (pc := 51) (tgt := 57) dX12_write_51 (by decide) (fun c15 => ?_) (fun c15 => ?_)
      · replace h := aw_ifn c15 h
        refine aw_aload_n (pc := 57) (q := 0) dX12_write_57 rfl ?_
        refine aw_iload_n (pc := 58) (q := 3) dX12_write_58 rfl ?_
        obtain ⟨s18, e17, h⟩ := aw_bde h
        refine aw_cV0 (pc := 59) [.int v3] (c_Rf_writeName e17) yy_Rf_writeName.1 wm_1539 yy_Rf_writeName.2.1 yy_Rf_writeName.2.2 xB_0 ⟨_, _, rfl⟩ rfl ⟨Nat.le_of_ble_eq_true rfl, Nat.le_of_ble_eq_true rfl⟩ ⟨Nat.zero_le _, Nat.zero_le _⟩ (Nat.le_of_ble_eq_true rfl) dX12_write_59 ?_
        refine aw_aload_n (pc := 62) (q := 0) dX12_write_62 rfl ?_
        refine aw_bipush (pc := 63) (v := 61) dX12_write_63 (by decide) ?_
        obtain ⟨s21, e20, h⟩ := aw_bde h
        refine aw_cV0 (pc := 65) [.int ((61 : Int32))] (c_Rf_lay1 e20) yy_Rf_lay1.1 wm_1543 yy_Rf_lay1.2.1 yy_Rf_lay1.2.2 xB_0 ⟨_, _, rfl⟩ rfl ⟨Nat.le_of_ble_eq_true rfl, Nat.le_of_ble_eq_true rfl⟩ ⟨Nat.zero_le _, Nat.zero_le _⟩ (Nat.le_of_ble_eq_true rfl) dX12_write_65 ?_
        refine aw_aload_n (pc := 68) (q := 0) dX12_write_68 rfl ?_
        refine aw_iload_n (pc := 69) (q := 3) dX12_write_69 rfl ?_
        obtain ⟨s24, e23, h⟩ := aw_bde h
        refine aw_cV0 (pc := 70) [.int v3] (c_Rf_writeExpression e23) yy_Rf_writeExpression.1 wm_1551 yy_Rf_writeExpression.2.1 yy_Rf_writeExpression.2.2 xB_0 ⟨_, _, rfl⟩ rfl ⟨Nat.le_of_ble_eq_true rfl, Nat.le_of_ble_eq_true rfl⟩ ⟨Nat.zero_le _, Nat.zero_le _⟩ (Nat.le_of_ble_eq_true rfl) dX12_write_70 ?_
        refine aw_aload_n (pc := 73) (q := 0) dX12_write_73 rfl ?_
        refine aw_bipush (pc := 74) (v := 59) dX12_write_74 (by decide) ?_
        obtain ⟨s27, e26, h⟩ := aw_bde h
        refine aw_cV0 (pc := 76) [.int ((59 : Int32))] (c_Rf_lay1 e26) yy_Rf_lay1.1 wm_1543 yy_Rf_lay1.2.1 yy_Rf_lay1.2.2 xB_0 ⟨_, _, rfl⟩ rfl ⟨Nat.le_of_ble_eq_true rfl, Nat.le_of_ble_eq_true rfl⟩ ⟨Nat.zero_le _, Nat.zero_le _⟩ (Nat.le_of_ble_eq_true rfl) dX12_write_76 ?_
        exact t_Rf_write_J79 h hz
      · replace h := aw_ifp c15 h
        refine aw_goto (pc := 54) (tgt := 79) dX12_write_54 (by decide) ?_
        exact t_Rf_write_J79 h hz
set_option maxRecDepth 100000 in
set_option maxHeartbeats 4000000 in
theorem t_Rf_write_J123 {l : Launch} {G : aw_G} {E : aw_E} {σ : aw_S} {t : (Int32 × aw_S)} (h : m_Rf_write_J123 σ = some t) (hE : E = (some (.int t.1), xB, t.2)) : aw_W l M_Rf_write G B_Rf_write E 123 [(0, .ref 0)] [] xB σ 0 0 := by
  unfold m_Rf_write_J123 at h
  refine aw_aload_n (pc := 123) (q := 0) dX12_write_123 rfl ?_
  refine aw_bipush (pc := 124) (v := 59) dX12_write_124 (by decide) ?_
  obtain ⟨s41, e40, h⟩ := aw_bde h
  refine aw_cV0 (pc := 126) [.int ((59 : Int32))] (c_Rf_lay1 e40) yy_Rf_lay1.1 wm_1543 yy_Rf_lay1.2.1 yy_Rf_lay1.2.2 xB_0 ⟨_, _, rfl⟩ rfl ⟨Nat.le_of_ble_eq_true rfl, Nat.le_of_ble_eq_true rfl⟩ ⟨Nat.zero_le _, Nat.zero_le _⟩ (Nat.le_of_ble_eq_true rfl) dX12_write_126 ?_
  refine aw_aload_n (pc := 129) (q := 0) dX12_write_129 rfl ?_
  refine aw_getI (pc := 130) fd_X12_424.r xB_0 rfl dX12_write_130 ?_
  cases h
  subst hE
  exact aw_iret (v := (s41.1 0 48)) rfl aw_ni ⟨Nat.zero_le _, Nat.zero_le _⟩ dX12_write_133
set_option maxRecDepth 100000 in
set_option maxHeartbeats 4000000 in
theorem t_Rf_write {l : Launch} {G : aw_G} {E : aw_E} {σ : aw_S} {p1 : Int32} {p2 : Int32} {t : (Int32 × aw_S)} (h : m_Rf_write σ p1 p2 = some t) (hE : E = (some (.int t.1), xB, t.2)) : aw_W l M_Rf_write G B_Rf_write E 0 [(0, .ref 0), (1, .int p1), (2, .int p2)] [] xB σ 0 0 := by
  unfold m_Rf_write at h
  refine aw_aload_n (pc := 0) (q := 0) dX12_write_0 rfl ?_
  refine aw_iload_n (pc := 1) (q := 1) dX12_write_1 rfl ?_
  obtain ⟨r1, e2, h⟩ := aw_bde h
  refine aw_cV1 (pc := 2) [.int p1] (c_Rf_isNode e2) yy_Rf_isNode.1 wm_924 yy_Rf_isNode.2.1 yy_Rf_isNode.2.2 xB_0 ⟨_, _, rfl⟩ rfl ⟨Nat.le_of_ble_eq_true rfl, Nat.le_of_ble_eq_true rfl⟩ ⟨Nat.zero_le _, Nat.zero_le _⟩ (Nat.le_of_ble_eq_true rfl) dX12_write_2 ?_
  refine aw_if_eq (pc := 5) (tgt := 16) dX12_write_5 (by decide) (fun c3 => ?_) (fun c3 => ?_)
  · replace h := aw_ifp c3 h
    refine aw_iconst (pc := 16) (v := -1) dX12_write_16 (by decide) ?_
    cases h
    subst hE
    exact aw_iret (v := (-1 : Int32)) rfl aw_ni ⟨Nat.zero_le _, Nat.zero_le _⟩ dX12_write_17
  · replace h := aw_ifn c3 h
    refine aw_aload_n (pc := 8) (q := 0) dX12_write_8 rfl ?_
    refine aw_iload_n (pc := 9) (q := 2) dX12_write_9 rfl ?_
    obtain ⟨r4, e5, h⟩ := aw_bde h
    refine aw_cV1 (pc := 10) [.int p2] (c_Rf_canRun e5) yy_Rf_canRun.1 wm_1164 yy_Rf_canRun.2.1 yy_Rf_canRun.2.2 xB_0 ⟨_, _, rfl⟩ rfl ⟨Nat.le_of_ble_eq_true rfl, Nat.le_of_ble_eq_true rfl⟩ ⟨Nat.zero_le _, Nat.zero_le _⟩ (Nat.le_of_ble_eq_true rfl) dX12_write_10 ?_
    refine aw_if_ne (pc := 13) (tgt := 18) dX12_write_13 (by decide) (fun c6 => ?_) (fun c6 => ?_)
    · replace h := aw_ifn c6 h
      refine aw_aload_n (pc := 18) (q := 0) dX12_write_18 rfl ?_
      refine aw_iconst (pc := 19) (v := 0) dX12_write_19 (by decide) ?_
      refine aw_putI (pc := 20) fd_X12_424 xB_0 rfl (fun _ => rfl) (fun _ => rfl) dX12_write_20 ?_
      refine aw_nmS (fun s7 e_s7 => ?_)
      replace h := aw_lte h s7 e_s7
      refine aw_iconst (pc := 23) (v := 0) dX12_write_23 (by decide) ?_
      refine aw_istore_n (pc := 24) [(3, .int ((0 : Int32))), (0, .ref 0), (1, .int p1), (2, .int p2)] dX12_write_24 (by decide) rfl ?_
      obtain ⟨x29, hl30, h⟩ := aw_bde h
      have K31 : z_Rf_write_Y25 l G E p1 p2 x29 := by
        show aw_W l M_Rf_write G B_Rf_write E 85 [(0, .ref 0), (1, .int p1), (2, .int p2)] [] xB x29 0 0
        refine aw_aload_n (pc := 85) (q := 0) dX12_write_85 rfl ?_
        refine aw_getC (pc := 86) fd_X12_24.r xB_0 rfl dX12_write_86 ?_
        refine aw_iload_n (pc := 89) (q := 1) dX12_write_89 rfl ?_
        obtain ⟨g32, h⟩ := aw_gde h
        refine aw_iald (pc := 90) xB_4 g32 dX12_write_90 ?_
        refine aw_if_ne (pc := 91) (tgt := 99) dX12_write_91 (by decide) (fun c33 => ?_) (fun c33 => ?_)
        · replace h := aw_ifn c33 h
          refine aw_aload_n (pc := 99) (q := 0) dX12_write_99 rfl ?_
          refine aw_getC (pc := 100) fd_X12_24.r xB_0 rfl dX12_write_100 ?_
          refine aw_iload_n (pc := 103) (q := 1) dX12_write_103 rfl ?_
          obtain ⟨g34, h⟩ := aw_gde h
          refine aw_iald (pc := 104) xB_4 g34 dX12_write_104 ?_
          refine aw_iconst (pc := 105) (v := 4) dX12_write_105 (by decide) ?_
          refine aw_icmp_ge (pc := 106) (tgt := 118) dX12_write_106 (by decide) (fun c35 => ?_) (fun c35 => ?_)
          · replace h := aw_ifp c35 h
            refine aw_aload_n (pc := 118) (q := 0) dX12_write_118 rfl ?_
            refine aw_iload_n (pc := 119) (q := 1) dX12_write_119 rfl ?_
            obtain ⟨s38, e37, h⟩ := aw_bde h
            refine aw_cV0 (pc := 120) [.int p1] (c_Rf_writeEnd e37) yy_Rf_writeEnd.1 wm_1563 yy_Rf_writeEnd.2.1 yy_Rf_writeEnd.2.2 xB_0 ⟨_, _, rfl⟩ rfl ⟨Nat.le_of_ble_eq_true rfl, Nat.le_of_ble_eq_true rfl⟩ ⟨Nat.zero_le _, Nat.zero_le _⟩ (Nat.le_of_ble_eq_true rfl) dX12_write_120 ?_
            refine aw_sub [0] rfl ?_
            exact t_Rf_write_J123 h hE
          · replace h := aw_ifn c35 h
            refine aw_aload_n (pc := 109) (q := 0) dX12_write_109 rfl ?_
            refine aw_iload_n (pc := 110) (q := 1) dX12_write_110 rfl ?_
            refine aw_iload_n (pc := 111) (q := 2) dX12_write_111 rfl ?_
            obtain ⟨s44, e43, h⟩ := aw_bde h
            refine aw_cV0 (pc := 112) [.int p1, .int p2] (c_Rf_writeStatement e43) yy_Rf_writeStatement.1 wm_1559 yy_Rf_writeStatement.2.1 yy_Rf_writeStatement.2.2 xB_0 ⟨_, _, rfl⟩ rfl ⟨Nat.le_of_ble_eq_true rfl, Nat.le_of_ble_eq_true rfl⟩ ⟨Nat.zero_le _, Nat.zero_le _⟩ (Nat.le_of_ble_eq_true rfl) dX12_write_112 ?_
            refine aw_goto (pc := 115) (tgt := 123) dX12_write_115 (by decide) ?_
            refine aw_sub [0] rfl ?_
            exact t_Rf_write_J123 h hE
        · replace h := aw_ifp c33 h
          refine aw_aload_n (pc := 94) (q := 0) dX12_write_94 rfl ?_
          refine aw_getI (pc := 95) fd_X12_424.r xB_0 rfl dX12_write_95 ?_
          cases h
          subst hE
          exact aw_iret (v := (x29.1 0 48)) rfl aw_ni ⟨Nat.zero_le _, Nat.zero_le _⟩ dX12_write_98
      refine aw_sub [1, 2, 3, 0] rfl ?_
      show z_Rf_write_X25 l G E p1 p2 (((0 : Int32), s7))
      exact aw_lp_X (Xp := z_Rf_write_X25 l G E p1 p2) (Y := z_Rf_write_Y25 l G E p1 p2) hl30 K31 (fun s t hf hz => t_Rf_write_B25 hf hz)
    · replace h := aw_ifp c6 h
      refine aw_iconst (pc := 16) (v := -1) dX12_write_16 (by decide) ?_
      cases h
      subst hE
      exact aw_iret (v := (-1 : Int32)) rfl aw_ni ⟨Nat.zero_le _, Nat.zero_le _⟩ dX12_write_17
theorem c_Rf_write {l : Launch} {G : aw_G} {σ : aw_S} {p1 : Int32} {p2 : Int32} {t : (Int32 × aw_S)} (h : m_Rf_write σ p1 p2 = some t) : aw_Ct l yX12_write M_Rf_write G B_Rf_write [.ref 0, .int p1, .int p2] xB σ (some (.int t.1), xB, t.2) := aw_Ct_of (by decide) rfl (fun h => by cases h) (Nat.le_of_ble_eq_true rfl) (t_Rf_write h rfl)
/-! LateMoverModel.octet(I)I -/
set_option maxRecDepth 100000 in
set_option maxHeartbeats 4000000 in
theorem t_Rf_octet {l : Launch} {G : aw_G} {E : aw_E} {σ : aw_S} {p1 : Int32} {t : Int32} (h : m_Rf_octet σ p1 = some t) (hE : E = (some (.int t), xB, σ)) : aw_W l M_Rf_octet G B_Rf_octet E 0 [(0, .ref 0), (1, .int p1)] [] xB σ 0 0 := by
  unfold m_Rf_octet at h
  refine aw_iload_n (pc := 0) (q := 1) dX12_octet_0 rfl ?_
  refine aw_iconst (pc := 1) (v := 0) dX12_octet_1 (by decide) ?_
  refine aw_aload_n (pc := 2) (q := 0) dX12_octet_2 rfl ?_
  refine aw_getI (pc := 3) fd_X12_424.r xB_0 rfl dX12_octet_3 ?_
  refine aw_iconst (pc := 6) (v := 1) dX12_octet_6 (by decide) ?_
  refine aw_isub (pc := 7) dX12_octet_7 ?_
  obtain ⟨r1, e2, h⟩ := aw_bde h
  refine aw_cS1 (pc := 8) [.int p1, .int ((0 : Int32)), .int (((σ.1 0 48) - (1 : Int32)))] (c_Rf_isIn e2) yy_Rf_isIn.1 wm_255 yy_Rf_isIn.2 rfl ⟨Nat.le_of_ble_eq_true rfl, Nat.le_of_ble_eq_true rfl⟩ ⟨Nat.zero_le _, Nat.zero_le _⟩ (Nat.le_of_ble_eq_true rfl) dX12_octet_8 ?_
  refine aw_if_eq (pc := 11) (tgt := 23) dX12_octet_11 (by decide) (fun c3 => ?_) (fun c3 => ?_)
  · replace h := aw_ifp c3 h
    refine aw_iconst (pc := 23) (v := -1) dX12_octet_23 (by decide) ?_
    cases h
    subst hE
    exact aw_iret (v := (-1 : Int32)) rfl aw_ni ⟨Nat.zero_le _, Nat.zero_le _⟩ dX12_octet_24
  · replace h := aw_ifn c3 h
    refine aw_aload_n (pc := 14) (q := 0) dX12_octet_14 rfl ?_
    refine aw_getC (pc := 15) fd_X12_116.r xB_0 rfl dX12_octet_15 ?_
    refine aw_iload_n (pc := 18) (q := 1) dX12_octet_18 rfl ?_
    obtain ⟨g4, h⟩ := aw_gde h
    refine aw_bald (pc := 19) xB_34 g4 dX12_octet_19 ?_
    refine aw_goto (pc := 20) (tgt := 24) dX12_octet_20 (by decide) ?_
    cases h
    subst hE
    exact aw_iret (v := (σ.1 34 p1.toNatClampNeg)) rfl aw_ni ⟨Nat.zero_le _, Nat.zero_le _⟩ dX12_octet_24
theorem c_Rf_octet {l : Launch} {G : aw_G} {σ : aw_S} {p1 : Int32} {t : Int32} (h : m_Rf_octet σ p1 = some t) : aw_Ct l yX12_octet M_Rf_octet G B_Rf_octet [.ref 0, .int p1] xB σ (some (.int t), xB, σ) := aw_Ct_of (by decide) rfl (fun h => by cases h) (Nat.le_of_ble_eq_true rfl) (t_Rf_octet h rfl)
/-! LateMoverModel.layMaybe(I)V -/
def z_Rf_layMaybe_X2 (l : Launch) (G : aw_G) (E : aw_E) (v1 : Int32) (s : Int32 × aw_S) : Prop := aw_W l M_Rf_layMaybe G B_Rf_layMaybe E 2 [(0, .ref 0), (1, .int v1), (2, .int s.1)] [] xB s.2 0 0
def z_Rf_layMaybe_Y2 (l : Launch) (G : aw_G) (E : aw_E) (v1 : Int32) (x : (aw_S)) : Prop := aw_W l M_Rf_layMaybe G B_Rf_layMaybe E 23 [(0, .ref 0), (1, .int v1)] [] xB x 0 0
def z_Rf_layMaybe_X25 (l : Launch) (G : aw_G) (E : aw_E) (v1 : Int32) (s : Int32 × aw_S) : Prop := aw_W l M_Rf_layMaybe G B_Rf_layMaybe E 25 [(0, .ref 0), (1, .int v1), (2, .int s.1)] [] xB s.2 0 0
def z_Rf_layMaybe_Y25 (l : Launch) (G : aw_G) (E : aw_E) (v1 : Int32) (x : (aw_S)) : Prop := aw_W l M_Rf_layMaybe G B_Rf_layMaybe E 130 [] [] xB x 0 0
def z_Rf_layMaybe_X33 (l : Launch) (G : aw_G) (E : aw_E) (v1 : Int32) (s : Int32 × Int32 × aw_S) : Prop := aw_W l M_Rf_layMaybe G B_Rf_layMaybe E 33 [(0, .ref 0), (1, .int v1), (2, .int s.1), (3, .int s.2.1)] [] xB s.2.2 0 0
def z_Rf_layMaybe_Y33 (l : Launch) (G : aw_G) (E : aw_E) (v1 : Int32) (x : (Int32 × aw_S)) : Prop := aw_W l M_Rf_layMaybe G B_Rf_layMaybe E 127 [(0, .ref 0), (1, .int v1), (2, .int x.1)] [] xB x.2 0 0
set_option maxRecDepth 100000 in
set_option maxHeartbeats 4000000 in
theorem t_Rf_layMaybe_B2 {l : Launch} {G : aw_G} {E : aw_E} {σ : aw_S} {v1 : Int32} {v2 : Int32} {t : (aw_S) ⊕ (Int32 × aw_S)} (h : m_Rf_layMaybe_B2 σ v1 v2 = some t) (hz : Sum.elim (z_Rf_layMaybe_Y2 l G E v1) (z_Rf_layMaybe_X2 l G E v1) t) : aw_W l M_Rf_layMaybe G B_Rf_layMaybe E 2 [(0, .ref 0), (1, .int v1), (2, .int v2)] [] xB σ 0 0 := by
  unfold m_Rf_layMaybe_B2 at h
  refine aw_iload_n (pc := 2) (q := 2) dX12_layMaybe_2 rfl ?_
  refine aw_aload_n (pc := 3) (q := 0) dX12_layMaybe_3 rfl ?_
  refine aw_getI (pc := 4) fd_X12_215.r xB_0 rfl dX12_layMaybe_4 ?_
  refine aw_icmp_ge (pc := 7) (tgt := 23) dX12_layMaybe_7 (by decide) (fun c1 => ?_) (fun c1 => ?_)
  · replace h := aw_ifp c1 h
    refine aw_sub [0, 1] rfl ?_
    cases h
    exact hz
  · replace h := aw_ifn c1 h
    refine aw_aload_n (pc := 10) (q := 0) dX12_layMaybe_10 rfl ?_
    refine aw_getC (pc := 11) fd_X12_119.r xB_0 rfl dX12_layMaybe_11 ?_
    refine aw_iload_n (pc := 14) (q := 2) dX12_layMaybe_14 rfl ?_
    refine aw_iconst (pc := 15) (v := 0) dX12_layMaybe_15 (by decide) ?_
    obtain ⟨g2, h⟩ := aw_gde h
    refine aw_zast (pc := 16) xB_35 g2 dX12_layMaybe_16 ?_
    refine aw_nmS (fun s3 e_s3 => ?_)
    replace h := aw_lte h s3 e_s3
    obtain ⟨x4, e_x4⟩ : ∃ z, z = (v2 + (1 : Int32)) := ⟨_, rfl⟩
    replace h := aw_lte h x4 e_x4
    refine aw_iinc (pc := 17) (q := 2) (v := x4) [(2, .int x4), (0, .ref 0), (1, .int v1)] dX12_layMaybe_17 rfl e_x4.symm (by decide) rfl ?_
    refine aw_goto (pc := 20) (tgt := 2) dX12_layMaybe_20 (by decide) ?_
    refine aw_sub [1, 2, 0] rfl ?_
    cases h
    exact hz
set_option maxRecDepth 100000 in
set_option maxHeartbeats 4000000 in
theorem t_Rf_layMaybe_J121 {l : Launch} {G : aw_G} {E : aw_E} {σ : aw_S} {v1 : Int32} {v2 : Int32} {v3 : Int32} {t : (Int32 × aw_S) ⊕ (Int32 × Int32 × aw_S)} (h : m_Rf_layMaybe_J121 σ v1 v2 v3 = some t) (hz : Sum.elim (z_Rf_layMaybe_Y33 l G E v1) (z_Rf_layMaybe_X33 l G E v1) t) : aw_W l M_Rf_layMaybe G B_Rf_layMaybe E 121 [(0, .ref 0), (1, .int v1), (2, .int v2), (3, .int v3)] [] xB σ 0 0 := by
  unfold m_Rf_layMaybe_J121 at h
  obtain ⟨x13, e_x13⟩ : ∃ z, z = (v3 + (1 : Int32)) := ⟨_, rfl⟩
  replace h := aw_lte h x13 e_x13
  refine aw_iinc (pc := 121) (q := 3) (v := x13) [(3, .int x13), (0, .ref 0), (1, .int v1), (2, .int v2)] dX12_layMaybe_121 rfl e_x13.symm (by decide) rfl ?_
  refine aw_goto (pc := 124) (tgt := 33) dX12_layMaybe_124 (by decide) ?_
  refine aw_sub [1, 2, 3, 0] rfl ?_
  cases h
  exact hz
set_option maxRecDepth 100000 in
set_option maxHeartbeats 4000000 in
theorem t_Rf_layMaybe_J107 {l : Launch} {G : aw_G} {E : aw_E} {σ : aw_S} {v1 : Int32} {v3 : Int32} {t : (Int32 × aw_S) ⊕ (Int32 × Int32 × aw_S)} (h : m_Rf_layMaybe_J107 σ v1 v3 = some t) (hz : Sum.elim (z_Rf_layMaybe_Y33 l G E v1) (z_Rf_layMaybe_X33 l G E v1) t) : aw_W l M_Rf_layMaybe G B_Rf_layMaybe E 107 [(0, .ref 0), (1, .int v1), (3, .int v3)] [] xB σ 0 0 := by
  unfold m_Rf_layMaybe_J107 at h
  refine aw_aload_n (pc := 107) (q := 0) dX12_layMaybe_107 rfl ?_
  refine aw_getC (pc := 108) fd_X12_119.r xB_0 rfl dX12_layMaybe_108 ?_
  refine aw_aload_n (pc := 111) (q := 0) dX12_layMaybe_111 rfl ?_
  refine aw_getC (pc := 112) fd_X12_33.r xB_0 rfl dX12_layMaybe_112 ?_
  refine aw_iload_n (pc := 115) (q := 2) dX12_layMaybe_115 rfl ?_
  obtain ⟨g23, h⟩ := aw_gde h
  refine aw_iald (pc := 116) xB_7 g23 dX12_layMaybe_116 ?_
  refine aw_iconst (pc := 117) (v := 1) dX12_layMaybe_117 (by decide) ?_
  obtain ⟨g24, h⟩ := aw_gde h
  refine aw_zast (pc := 118) xB_35 g24 dX12_layMaybe_118 ?_
  refine aw_nmS (fun s25 e_s25 => ?_)
  replace h := aw_lte h s25 e_s25
  refine aw_iconst (pc := 119) (v := 1) dX12_layMaybe_119 (by decide) ?_
  refine aw_istore_n (pc := 120) [(2, .int ((1 : Int32))), (0, .ref 0), (1, .int v1), (3, .int v3)] dX12_layMaybe_120 (by decide) rfl ?_
  refine aw_sub [1, 2, 0, 3] rfl ?_
  exact t_Rf_layMaybe_J121 h hz
set_option maxRecDepth 100000 in
set_option maxHeartbeats 4000000 in
theorem t_Rf_layMaybe_B33 {l : Launch} {G : aw_G} {E : aw_E} {σ : aw_S} {v1 : Int32} {v2 : Int32} {v3 : Int32} {t : (Int32 × aw_S) ⊕ (Int32 × Int32 × aw_S)} (h : m_Rf_layMaybe_B33 σ v1 v2 v3 = some t) (hz : Sum.elim (z_Rf_layMaybe_Y33 l G E v1) (z_Rf_layMaybe_X33 l G E v1) t) : aw_W l M_Rf_layMaybe G B_Rf_layMaybe E 33 [(0, .ref 0), (1, .int v1), (2, .int v2), (3, .int v3)] [] xB σ 0 0 := by
  unfold m_Rf_layMaybe_B33 at h
  refine aw_iload_n (pc := 33) (q := 3) dX12_layMaybe_33 rfl ?_
  refine aw_iconst (pc := 34) (v := 2) dX12_layMaybe_34 (by decide) ?_
  refine aw_aload_n (pc := 35) (q := 0) dX12_layMaybe_35 rfl ?_
  refine aw_getI (pc := 36) fd_X12_215.r xB_0 rfl dX12_layMaybe_36 ?_
  refine aw_imul (pc := 39) dX12_layMaybe_39 ?_
  refine aw_icmp_ge (pc := 40) (tgt := 127) dX12_layMaybe_40 (by decide) (fun c9 => ?_) (fun c9 => ?_)
  · replace h := aw_ifp c9 h
    refine aw_sub [0, 1, 2] rfl ?_
    cases h
    exact hz
  · replace h := aw_ifn c9 h
    refine aw_iload_n (pc := 43) (q := 3) dX12_layMaybe_43 rfl ?_
    refine aw_iconst (pc := 44) (v := 2) dX12_layMaybe_44 (by decide) ?_
    refine aw_idiv (pc := 45) dX12_layMaybe_45 (by decide) ?_
    refine aw_nmI (fun x10 e_x10 => ?_)
    replace h := aw_lte h x10 e_x10
    refine aw_istore (pc := 46) [(4, .int x10), (0, .ref 0), (1, .int v1), (2, .int v2), (3, .int v3)] dX12_layMaybe_46 (by decide) rfl ?_
    refine aw_aload_n (pc := 48) (q := 1) dX12_layMaybe_48 rfl ?_
    refine aw_getC (pc := 49) fd_X12_33.r xB_0 rfl dX12_layMaybe_49 ?_
    refine aw_iload_n (pc := 52) (q := 4) dX12_layMaybe_52 rfl ?_
    obtain ⟨g11, h⟩ := aw_gde h
    refine aw_iald (pc := 53) xB_7 g11 dX12_layMaybe_53 ?_
    refine aw_iconst (pc := 54) (v := -1) dX12_layMaybe_54 (by decide) ?_
    refine aw_icmp_eq (pc := 55) (tgt := 121) dX12_layMaybe_55 (by decide) (fun c12 => ?_) (fun c12 => ?_)
    · replace h := aw_ifp c12 h
      refine aw_sub [1, 2, 3, 4] rfl ?_
      exact t_Rf_layMaybe_J121 h hz
    · replace h := aw_ifn c12 h
      refine aw_aload_n (pc := 58) (q := 1) dX12_layMaybe_58 rfl ?_
      refine aw_getC (pc := 59) fd_X12_119.r xB_0 rfl dX12_layMaybe_59 ?_
      refine aw_aload_n (pc := 62) (q := 1) dX12_layMaybe_62 rfl ?_
      refine aw_getC (pc := 63) fd_X12_33.r xB_0 rfl dX12_layMaybe_63 ?_
      refine aw_iload_n (pc := 66) (q := 4) dX12_layMaybe_66 rfl ?_
      obtain ⟨g14, h⟩ := aw_gde h
      refine aw_iald (pc := 67) xB_7 g14 dX12_layMaybe_67 ?_
      obtain ⟨g15, h⟩ := aw_gde h
      refine aw_zald (pc := 68) xB_35 g15 dX12_layMaybe_68 ?_
      refine aw_if_ne (pc := 69) (tgt := 121) dX12_layMaybe_69 (by decide) (fun c16 => ?_) (fun c16 => ?_)
      · replace h := aw_ifn c16 h
        refine aw_sub [1, 2, 3, 4] rfl ?_
        exact t_Rf_layMaybe_J121 h hz
      · replace h := aw_ifp c16 h
        refine aw_aload_n (pc := 72) (q := 1) dX12_layMaybe_72 rfl ?_
        refine aw_iconst (pc := 73) (v := 1) dX12_layMaybe_73 (by decide) ?_
        refine aw_iload_n (pc := 74) (q := 2) dX12_layMaybe_74 rfl ?_
        refine aw_iload (pc := 75) (q := 0) dX12_layMaybe_75 rfl ?_
        obtain ⟨r17, e18, h⟩ := aw_bde h
        refine aw_cV1 (pc := 77) [.int ((1 : Int32)), .int v1, .int x10] (c_Rf_so e18) yy_Rf_so.1 wm_803 yy_Rf_so.2.1 yy_Rf_so.2.2 xB_0 ⟨_, _, rfl⟩ rfl ⟨Nat.le_of_ble_eq_true rfl, Nat.le_of_ble_eq_true rfl⟩ ⟨Nat.zero_le _, Nat.zero_le _⟩ (Nat.le_of_ble_eq_true rfl) dX12_layMaybe_77 ?_
        refine aw_if_eq (pc := 80) (tgt := 121) dX12_layMaybe_80 (by decide) (fun c19 => ?_) (fun c19 => ?_)
        · replace h := aw_ifp c19 h
          refine aw_sub [1, 2, 3, 4] rfl ?_
          exact t_Rf_layMaybe_J121 h hz
        · replace h := aw_ifn c19 h
          refine aw_aload_n (pc := 83) (q := 1) dX12_layMaybe_83 rfl ?_
          refine aw_iconst (pc := 84) (v := 0) dX12_layMaybe_84 (by decide) ?_
          refine aw_iload_n (pc := 85) (q := 2) dX12_layMaybe_85 rfl ?_
          refine aw_iload (pc := 86) (q := 0) dX12_layMaybe_86 rfl ?_
          obtain ⟨r20, e21, h⟩ := aw_bde h
          refine aw_cV1 (pc := 88) [.int ((0 : Int32)), .int v1, .int x10] (c_Rf_so e21) yy_Rf_so.1 wm_803 yy_Rf_so.2.1 yy_Rf_so.2.2 xB_0 ⟨_, _, rfl⟩ rfl ⟨Nat.le_of_ble_eq_true rfl, Nat.le_of_ble_eq_true rfl⟩ ⟨Nat.zero_le _, Nat.zero_le _⟩ (Nat.le_of_ble_eq_true rfl) dX12_layMaybe_88 ?_
          refine aw_if_ne (pc := 91) (tgt := 107) dX12_layMaybe_91 (by decide) (fun c22 => ?_) (fun c22 => ?_)
          · replace h := aw_ifn c22 h
            refine aw_sub [1, 2, 4] rfl ?_
            exact t_Rf_layMaybe_J107 h hz
          · replace h := aw_ifp c22 h
            refine aw_aload_n (pc := 94) (q := 1) dX12_layMaybe_94 rfl ?_
            refine aw_getC (pc := 95) fd_X12_119.r xB_0 rfl dX12_layMaybe_95 ?_
            refine aw_iload (pc := 98) (q := 0) dX12_layMaybe_98 rfl ?_
            obtain ⟨g26, h⟩ := aw_gde h
            refine aw_zald (pc := 100) xB_35 g26 dX12_layMaybe_100 ?_
            refine aw_if_ne (pc := 101) (tgt := 107) dX12_layMaybe_101 (by decide) (fun c27 => ?_) (fun c27 => ?_)
            · replace h := aw_ifn c27 h
              refine aw_sub [1, 2, 4] rfl ?_
              exact t_Rf_layMaybe_J107 h hz
            · replace h := aw_ifp c27 h
              refine aw_goto (pc := 104) (tgt := 121) dX12_layMaybe_104 (by decide) ?_
              refine aw_sub [1, 2, 3, 4] rfl ?_
              exact t_Rf_layMaybe_J121 h hz
set_option maxRecDepth 100000 in
set_option maxHeartbeats 4000000 in
theorem t_Rf_layMaybe_B25 {l : Launch} {G : aw_G} {E : aw_E} {σ : aw_S} {v1 : Int32} {v2 : Int32} {t : (aw_S) ⊕ (Int32 × aw_S)} (h : m_Rf_layMaybe_B25 σ v1 v2 = some t) (hz : Sum.elim (z_Rf_layMaybe_Y25 l G E v1) (z_Rf_layMaybe_X25 l G E v1) t) : aw_W l M_Rf_layMaybe G B_Rf_layMaybe E 25 [(0, .ref 0), (1, .int v1), (2, .int v2)] [] xB σ 0 0 := by
  unfold m_Rf_layMaybe_B25 at h
  refine aw_iload_n (pc := 25) (q := 2) dX12_layMaybe_25 rfl ?_
  refine aw_if_eq (pc := 26) (tgt := 130) dX12_layMaybe_26 (by decide) (fun c8 => ?_) (fun c8 => ?_)
  · replace h := aw_ifp c8 h
    refine aw_sub [] rfl ?_
    cases h
    exact hz
  · replace h := aw_ifn c8 h
    refine aw_iconst (pc := 29) (v := 0) dX12_layMaybe_29 (by decide) ?_
    refine aw_istore_n (pc := 30) [(2, .int ((0 : Int32))), (0, .ref 0), (1, .int v1)] dX12_layMaybe_30 (by decide) rfl ?_
    refine aw_iconst (pc := 31) (v := 0) dX12_layMaybe_31 (by decide) ?_
    refine aw_istore_n (pc := 32) [(3, .int ((0 : Int32))), (2, .int ((0 : Int32))), (0, .ref 0), (1, .int v1)] dX12_layMaybe_32 (by decide) rfl ?_
    obtain ⟨x28, hl29, h⟩ := aw_bde h
    have K30 : z_Rf_layMaybe_Y33 l G E v1 x28 := by
      show aw_W l M_Rf_layMaybe G B_Rf_layMaybe E 127 [(0, .ref 0), (1, .int v1), (2, .int x28.1)] [] xB x28.2 0 0
      refine aw_goto (pc := 127) (tgt := 25) dX12_layMaybe_127 (by decide) ?_
      refine aw_sub [0, 1, 2] rfl ?_
      cases h
      exact hz
    refine aw_sub [2, 3, 1, 0] rfl ?_
    show z_Rf_layMaybe_X33 l G E v1 (((0 : Int32), (0 : Int32), σ))
    exact aw_lp_X (Xp := z_Rf_layMaybe_X33 l G E v1) (Y := z_Rf_layMaybe_Y33 l G E v1) hl29 K30 (fun s t hf hz => t_Rf_layMaybe_B33 hf hz)
set_option maxRecDepth 100000 in
set_option maxHeartbeats 4000000 in
theorem t_Rf_layMaybe {l : Launch} {G : aw_G} {E : aw_E} {σ : aw_S} {p1 : Int32} {t : aw_S} (h : m_Rf_layMaybe σ p1 = some t) (hE : E = (none, xB, t)) : aw_W l M_Rf_layMaybe G B_Rf_layMaybe E 0 [(0, .ref 0), (1, .int p1)] [] xB σ 0 0 := by
  unfold m_Rf_layMaybe at h
  refine aw_iconst (pc := 0) (v := 0) dX12_layMaybe_0 (by decide) ?_
  refine aw_istore_n (pc := 1) [(2, .int ((0 : Int32))), (0, .ref 0), (1, .int p1)] dX12_layMaybe_1 (by decide) rfl ?_
  obtain ⟨x5, hl6, h⟩ := aw_bde h
  have K7 : z_Rf_layMaybe_Y2 l G E p1 x5 := by
    show aw_W l M_Rf_layMaybe G B_Rf_layMaybe E 23 [(0, .ref 0), (1, .int p1)] [] xB x5 0 0
    refine aw_iconst (pc := 23) (v := 1) dX12_layMaybe_23 (by decide) ?_
    refine aw_istore_n (pc := 24) [(2, .int ((1 : Int32))), (0, .ref 0), (1, .int p1)] dX12_layMaybe_24 (by decide) rfl ?_
    obtain ⟨x31, hl32, h⟩ := aw_bde h
    have K33 : z_Rf_layMaybe_Y25 l G E p1 x31 := by
      show aw_W l M_Rf_layMaybe G B_Rf_layMaybe E 130 [] [] xB x31 0 0
      cases h
      subst hE
      exact aw_vret rfl ⟨Nat.zero_le _, Nat.zero_le _⟩ dX12_layMaybe_130
    refine aw_sub [1, 2, 0] rfl ?_
    show z_Rf_layMaybe_X25 l G E p1 (((1 : Int32), x5))
    exact aw_lp_X (Xp := z_Rf_layMaybe_X25 l G E p1) (Y := z_Rf_layMaybe_Y25 l G E p1) hl32 K33 (fun s t hf hz => t_Rf_layMaybe_B25 hf hz)
  refine aw_sub [1, 2, 0] rfl ?_
  show z_Rf_layMaybe_X2 l G E p1 (((0 : Int32), σ))
  exact aw_lp_X (Xp := z_Rf_layMaybe_X2 l G E p1) (Y := z_Rf_layMaybe_Y2 l G E p1) hl6 K7 (fun s t hf hz => t_Rf_layMaybe_B2 hf hz)
theorem c_Rf_layMaybe {l : Launch} {G : aw_G} {σ : aw_S} {p1 : Int32} {t : aw_S} (h : m_Rf_layMaybe σ p1 = some t) : aw_Ct l yX12_layMaybe M_Rf_layMaybe G B_Rf_layMaybe [.ref 0, .int p1] xB σ (none, xB, t) := aw_Ct_of (by decide) rfl (fun h => by cases h) (Nat.le_of_ble_eq_true rfl) (t_Rf_layMaybe h rfl)
/-! LateMoverModel.again(II)I -/
def z_Rf_again_X36 (l : Launch) (G : aw_G) (E : aw_E) (σ : aw_S) (v1 : Int32) (v2 : Int32) (s : Int32 × Int32) : Prop := aw_W l M_Rf_again G B_Rf_again E 36 [(0, .ref 0), (1, .int v1), (2, .int v2), (3, .int s.1), (4, .int s.2)] [] xB σ 0 0
def z_Rf_again_Y36 (l : Launch) (G : aw_G) (E : aw_E) (σ : aw_S) (v1 : Int32) (v2 : Int32) (x : (Int32)) : Prop := aw_W l M_Rf_again G B_Rf_again E 110 [(3, .int x)] [] xB σ 0 0
set_option maxRecDepth 100000 in
set_option maxHeartbeats 4000000 in
theorem t_Rf_again_J104 {l : Launch} {G : aw_G} {E : aw_E} {σ : aw_S} {v1 : Int32} {v2 : Int32} {v3 : Int32} {v4 : Int32} {t : (Int32) ⊕ (Int32 × Int32)} (h : m_Rf_again_J104 σ v1 v2 v3 v4 = some t) (hz : Sum.elim (z_Rf_again_Y36 l G E σ v1 v2) (z_Rf_again_X36 l G E σ v1 v2) t) : aw_W l M_Rf_again G B_Rf_again E 104 [(0, .ref 0), (1, .int v1), (2, .int v2), (3, .int v3), (4, .int v4)] [] xB σ 0 0 := by
  unfold m_Rf_again_J104 at h
  obtain ⟨x21, e_x21⟩ : ∃ z, z = (v4 + (1 : Int32)) := ⟨_, rfl⟩
  replace h := aw_lte h x21 e_x21
  refine aw_iinc (pc := 104) (q := 4) (v := x21) [(4, .int x21), (0, .ref 0), (1, .int v1), (2, .int v2), (3, .int v3)] dX12_again_104 rfl e_x21.symm (by decide) rfl ?_
  refine aw_goto (pc := 107) (tgt := 36) dX12_again_107 (by decide) ?_
  refine aw_sub [1, 2, 3, 4, 0] rfl ?_
  cases h
  exact hz
set_option maxRecDepth 100000 in
set_option maxHeartbeats 4000000 in
theorem t_Rf_again_J102 {l : Launch} {G : aw_G} {E : aw_E} {σ : aw_S} {v1 : Int32} {v2 : Int32} {v4 : Int32} {k0 : Int32} {k1 : Int32} {t : (Int32) ⊕ (Int32 × Int32)} (h : m_Rf_again_J102 σ v1 v2 v4 k0 k1 = some t) (hz : Sum.elim (z_Rf_again_Y36 l G E σ v1 v2) (z_Rf_again_X36 l G E σ v1 v2) t) : aw_W l M_Rf_again G B_Rf_again E 102 [(0, .ref 0), (1, .int v1), (2, .int v2), (4, .int v4)] [.int k1, .int k0] xB σ 0 0 := by
  unfold m_Rf_again_J102 at h
  refine aw_iadd (pc := 102) dX12_again_102 ?_
  refine aw_nmI (fun x20 e_x20 => ?_)
  replace h := aw_lte h x20 e_x20
  refine aw_istore_n (pc := 103) [(3, .int x20), (0, .ref 0), (1, .int v1), (2, .int v2), (4, .int v4)] dX12_again_103 (by decide) rfl ?_
  refine aw_sub [1, 2, 3, 0, 4] rfl ?_
  exact t_Rf_again_J104 h hz
set_option maxRecDepth 100000 in
set_option maxHeartbeats 4000000 in
theorem t_Rf_again_J101 {l : Launch} {G : aw_G} {E : aw_E} {σ : aw_S} {v1 : Int32} {v2 : Int32} {v4 : Int32} {k0 : Int32} {t : (Int32) ⊕ (Int32 × Int32)} (h : m_Rf_again_J101 σ v1 v2 v4 k0 = some t) (hz : Sum.elim (z_Rf_again_Y36 l G E σ v1 v2) (z_Rf_again_X36 l G E σ v1 v2) t) : aw_W l M_Rf_again G B_Rf_again E 101 [(0, .ref 0), (1, .int v1), (2, .int v2), (4, .int v4)] [.int k0] xB σ 0 0 := by
  unfold m_Rf_again_J101 at h
  refine aw_iconst (pc := 101) (v := 0) dX12_again_101 (by decide) ?_
  exact t_Rf_again_J102 h hz
set_option maxRecDepth 100000 in
set_option maxHeartbeats 4000000 in
theorem t_Rf_again_B36 {l : Launch} {G : aw_G} {E : aw_E} {σ : aw_S} {v1 : Int32} {v2 : Int32} {v3 : Int32} {v4 : Int32} {t : (Int32) ⊕ (Int32 × Int32)} (h : m_Rf_again_B36 σ v1 v2 v3 v4 = some t) (hz : Sum.elim (z_Rf_again_Y36 l G E σ v1 v2) (z_Rf_again_X36 l G E σ v1 v2) t) : aw_W l M_Rf_again G B_Rf_again E 36 [(0, .ref 0), (1, .int v1), (2, .int v2), (3, .int v3), (4, .int v4)] [] xB σ 0 0 := by
  unfold m_Rf_again_B36 at h
  refine aw_iload (pc := 36) (q := 4) dX12_again_36 rfl ?_
  refine aw_aload_n (pc := 38) (q := 0) dX12_again_38 rfl ?_
  refine aw_getI (pc := 39) fd_X12_215.r xB_0 rfl dX12_again_39 ?_
  refine aw_icmp_ge (pc := 42) (tgt := 110) dX12_again_42 (by decide) (fun c11 => ?_) (fun c11 => ?_)
  · replace h := aw_ifp c11 h
    refine aw_sub [3] rfl ?_
    cases h
    exact hz
  · replace h := aw_ifn c11 h
    refine aw_aload_n (pc := 45) (q := 0) dX12_again_45 rfl ?_
    refine aw_iconst (pc := 46) (v := 0) dX12_again_46 (by decide) ?_
    refine aw_iload_n (pc := 47) (q := 1) dX12_again_47 rfl ?_
    refine aw_iload (pc := 48) (q := 4) dX12_again_48 rfl ?_
    obtain ⟨r12, e13, h⟩ := aw_bde h
    refine aw_cV1 (pc := 50) [.int ((0 : Int32)), .int v1, .int v4] (c_Rf_so e13) yy_Rf_so.1 wm_803 yy_Rf_so.2.1 yy_Rf_so.2.2 xB_0 ⟨_, _, rfl⟩ rfl ⟨Nat.le_of_ble_eq_true rfl, Nat.le_of_ble_eq_true rfl⟩ ⟨Nat.zero_le _, Nat.zero_le _⟩ (Nat.le_of_ble_eq_true rfl) dX12_again_50 ?_
    refine aw_if_ne (pc := 53) (tgt := 59) dX12_again_53 (by decide) (fun c14 => ?_) (fun c14 => ?_)
    · replace h := aw_ifn c14 h
      refine aw_aload_n (pc := 59) (q := 0) dX12_again_59 rfl ?_
      refine aw_iconst (pc := 60) (v := 3) dX12_again_60 (by decide) ?_
      refine aw_iload_n (pc := 61) (q := 1) dX12_again_61 rfl ?_
      refine aw_iload (pc := 62) (q := 4) dX12_again_62 rfl ?_
      obtain ⟨r15, e16, h⟩ := aw_bde h
      refine aw_cV1 (pc := 64) [.int ((3 : Int32)), .int v1, .int v4] (c_Rf_so e16) yy_Rf_so.1 wm_803 yy_Rf_so.2.1 yy_Rf_so.2.2 xB_0 ⟨_, _, rfl⟩ rfl ⟨Nat.le_of_ble_eq_true rfl, Nat.le_of_ble_eq_true rfl⟩ ⟨Nat.zero_le _, Nat.zero_le _⟩ (Nat.le_of_ble_eq_true rfl) dX12_again_64 ?_
      refine aw_istore (pc := 67) [(5, .int r15), (0, .ref 0), (1, .int v1), (2, .int v2), (3, .int v3), (4, .int v4)] dX12_again_67 (by decide) rfl ?_
      refine aw_iload_n (pc := 69) (q := 4) dX12_again_69 rfl ?_
      refine aw_iload_n (pc := 70) (q := 3) dX12_again_70 rfl ?_
      refine aw_if_ne (pc := 71) (tgt := 82) dX12_again_71 (by decide) (fun c17 => ?_) (fun c17 => ?_)
      · replace h := aw_ifn c17 h
        refine aw_aload_n (pc := 82) (q := 1) dX12_again_82 rfl ?_
        refine aw_getC (pc := 83) fd_X12_119.r xB_0 rfl dX12_again_83 ?_
        refine aw_iload (pc := 86) (q := 5) dX12_again_86 rfl ?_
        obtain ⟨g18, h⟩ := aw_gde h
        refine aw_zald (pc := 88) xB_35 g18 dX12_again_88 ?_
        refine aw_if_eq (pc := 89) (tgt := 101) dX12_again_89 (by decide) (fun c19 => ?_) (fun c19 => ?_)
        · replace h := aw_ifp c19 h
          refine aw_sub [1, 2, 3, 5] rfl ?_
          exact t_Rf_again_J101 h hz
        · replace h := aw_ifn c19 h
          refine aw_iload (pc := 92) (q := 0) dX12_again_92 rfl ?_
          refine aw_if_ne (pc := 94) (tgt := 101) dX12_again_94 (by decide) (fun c22 => ?_) (fun c22 => ?_)
          · replace h := aw_ifn c22 h
            refine aw_sub [1, 2, 3, 5] rfl ?_
            exact t_Rf_again_J101 h hz
          · replace h := aw_ifp c22 h
            refine aw_iconst (pc := 97) (v := 1) dX12_again_97 (by decide) ?_
            refine aw_goto (pc := 98) (tgt := 102) dX12_again_98 (by decide) ?_
            refine aw_sub [1, 2, 3, 5] rfl ?_
            exact t_Rf_again_J102 h hz
      · replace h := aw_ifp c17 h
        refine aw_iload (pc := 74) (q := 0) dX12_again_74 rfl ?_
        refine aw_if_eq (pc := 76) (tgt := 101) dX12_again_76 (by decide) (fun c23 => ?_) (fun c23 => ?_)
        · replace h := aw_ifp c23 h
          refine aw_sub [1, 2, 3, 5] rfl ?_
          exact t_Rf_again_J101 h hz
        · replace h := aw_ifn c23 h
          refine aw_goto (pc := 79) (tgt := 97) dX12_again_79 (by decide) ?_
          refine aw_iconst (pc := 97) (v := 1) dX12_again_97 (by decide) ?_
          refine aw_goto (pc := 98) (tgt := 102) dX12_again_98 (by decide) ?_
          refine aw_sub [1, 2, 3, 5] rfl ?_
          exact t_Rf_again_J102 h hz
    · replace h := aw_ifp c14 h
      refine aw_goto (pc := 56) (tgt := 104) dX12_again_56 (by decide) ?_
      exact t_Rf_again_J104 h hz
set_option maxRecDepth 100000 in
set_option maxHeartbeats 4000000 in
theorem t_Rf_again {l : Launch} {G : aw_G} {E : aw_E} {σ : aw_S} {p1 : Int32} {p2 : Int32} {t : (Int32 × aw_S)} (h : m_Rf_again σ p1 p2 = some t) (hE : E = (some (.int t.1), xB, t.2)) : aw_W l M_Rf_again G B_Rf_again E 0 [(0, .ref 0), (1, .int p1), (2, .int p2)] [] xB σ 0 0 := by
  unfold m_Rf_again at h
  refine aw_aload_n (pc := 0) (q := 0) dX12_again_0 rfl ?_
  refine aw_getI (pc := 1) fd_X12_253.r xB_0 rfl dX12_again_1 ?_
  refine aw_if_eq (pc := 4) (tgt := 24) dX12_again_4 (by decide) (fun c1 => ?_) (fun c1 => ?_)
  · replace h := aw_ifp c1 h
    refine aw_iconst (pc := 24) (v := -1) dX12_again_24 (by decide) ?_
    cases h
    subst hE
    exact aw_iret (v := (-1 : Int32)) rfl aw_ni ⟨Nat.zero_le _, Nat.zero_le _⟩ dX12_again_25
  · replace h := aw_ifn c1 h
    refine aw_aload_n (pc := 7) (q := 0) dX12_again_7 rfl ?_
    refine aw_iload_n (pc := 8) (q := 1) dX12_again_8 rfl ?_
    obtain ⟨r2, e3, h⟩ := aw_bde h
    refine aw_cV1 (pc := 9) [.int p1] (c_Rf_isExpression e3) yy_Rf_isExpression.1 wm_947 yy_Rf_isExpression.2.1 yy_Rf_isExpression.2.2 xB_0 ⟨_, _, rfl⟩ rfl ⟨Nat.le_of_ble_eq_true rfl, Nat.le_of_ble_eq_true rfl⟩ ⟨Nat.zero_le _, Nat.zero_le _⟩ (Nat.le_of_ble_eq_true rfl) dX12_again_9 ?_
    refine aw_if_eq (pc := 12) (tgt := 24) dX12_again_12 (by decide) (fun c4 => ?_) (fun c4 => ?_)
    · replace h := aw_ifp c4 h
      refine aw_iconst (pc := 24) (v := -1) dX12_again_24 (by decide) ?_
      cases h
      subst hE
      exact aw_iret (v := (-1 : Int32)) rfl aw_ni ⟨Nat.zero_le _, Nat.zero_le _⟩ dX12_again_25
    · replace h := aw_ifn c4 h
      refine aw_iload_n (pc := 15) (q := 2) dX12_again_15 rfl ?_
      refine aw_iconst (pc := 16) (v := 0) dX12_again_16 (by decide) ?_
      refine aw_iconst (pc := 17) (v := 1) dX12_again_17 (by decide) ?_
      obtain ⟨r5, e6, h⟩ := aw_bde h
      refine aw_cS1 (pc := 18) [.int p2, .int ((0 : Int32)), .int ((1 : Int32))] (c_Rf_isIn e6) yy_Rf_isIn.1 wm_255 yy_Rf_isIn.2 rfl ⟨Nat.le_of_ble_eq_true rfl, Nat.le_of_ble_eq_true rfl⟩ ⟨Nat.zero_le _, Nat.zero_le _⟩ (Nat.le_of_ble_eq_true rfl) dX12_again_18 ?_
      refine aw_if_ne (pc := 21) (tgt := 26) dX12_again_21 (by decide) (fun c7 => ?_) (fun c7 => ?_)
      · replace h := aw_ifn c7 h
        refine aw_aload_n (pc := 26) (q := 0) dX12_again_26 rfl ?_
        refine aw_iload_n (pc := 27) (q := 1) dX12_again_27 rfl ?_
        obtain ⟨s10, e9, h⟩ := aw_bde h
        refine aw_cV0 (pc := 28) [.int p1] (c_Rf_layMaybe e9) yy_Rf_layMaybe.1 wm_1274 yy_Rf_layMaybe.2.1 yy_Rf_layMaybe.2.2 xB_0 ⟨_, _, rfl⟩ rfl ⟨Nat.le_of_ble_eq_true rfl, Nat.le_of_ble_eq_true rfl⟩ ⟨Nat.zero_le _, Nat.zero_le _⟩ (Nat.le_of_ble_eq_true rfl) dX12_again_28 ?_
        refine aw_iconst (pc := 31) (v := 0) dX12_again_31 (by decide) ?_
        refine aw_istore_n (pc := 32) [(3, .int ((0 : Int32))), (0, .ref 0), (1, .int p1), (2, .int p2)] dX12_again_32 (by decide) rfl ?_
        refine aw_iconst (pc := 33) (v := 0) dX12_again_33 (by decide) ?_
        refine aw_istore (pc := 34) [(4, .int ((0 : Int32))), (3, .int ((0 : Int32))), (0, .ref 0), (1, .int p1), (2, .int p2)] dX12_again_34 (by decide) rfl ?_
        obtain ⟨x24, hl25, h⟩ := aw_bde h
        have K26 : z_Rf_again_Y36 l G E s10 p1 p2 x24 := by
          show aw_W l M_Rf_again G B_Rf_again E 110 [(3, .int x24)] [] xB s10 0 0
          refine aw_iload_n (pc := 110) (q := 0) dX12_again_110 rfl ?_
          cases h
          subst hE
          exact aw_iret (v := _) rfl aw_ni ⟨Nat.zero_le _, Nat.zero_le _⟩ dX12_again_111
        refine aw_sub [2, 3, 4, 1, 0] rfl ?_
        show z_Rf_again_X36 l G E s10 p1 p2 (((0 : Int32), (0 : Int32)))
        exact aw_lp_X (Xp := z_Rf_again_X36 l G E s10 p1 p2) (Y := z_Rf_again_Y36 l G E s10 p1 p2) hl25 K26 (fun s t hf hz => t_Rf_again_B36 hf hz)
      · replace h := aw_ifp c7 h
        refine aw_iconst (pc := 24) (v := -1) dX12_again_24 (by decide) ?_
        cases h
        subst hE
        exact aw_iret (v := (-1 : Int32)) rfl aw_ni ⟨Nat.zero_le _, Nat.zero_le _⟩ dX12_again_25
theorem c_Rf_again {l : Launch} {G : aw_G} {σ : aw_S} {p1 : Int32} {p2 : Int32} {t : (Int32 × aw_S)} (h : m_Rf_again σ p1 p2 = some t) : aw_Ct l yX12_again M_Rf_again G B_Rf_again [.ref 0, .int p1, .int p2] xB σ (some (.int t.1), xB, t.2) := aw_Ct_of (by decide) rfl (fun h => by cases h) (Nat.le_of_ble_eq_true rfl) (t_Rf_again h rfl)
/-! LateMoverModel.live(I)I -/
set_option maxRecDepth 100000 in
set_option maxHeartbeats 4000000 in
theorem t_Rf_live {l : Launch} {G : aw_G} {E : aw_E} {σ : aw_S} {p1 : Int32} {t : Int32} (h : m_Rf_live σ p1 = some t) (hE : E = (some (.int t), xB, σ)) : aw_W l M_Rf_live G B_Rf_live E 0 [(0, .ref 0), (1, .int p1)] [] xB σ 0 0 := by
  unfold m_Rf_live at h
  refine aw_aload_n (pc := 0) (q := 0) dX12_live_0 rfl ?_
  refine aw_iload_n (pc := 1) (q := 1) dX12_live_1 rfl ?_
  obtain ⟨r1, e2, h⟩ := aw_bde h
  refine aw_cV1 (pc := 2) [.int p1] (c_Rf_isNode e2) yy_Rf_isNode.1 wm_924 yy_Rf_isNode.2.1 yy_Rf_isNode.2.2 xB_0 ⟨_, _, rfl⟩ rfl ⟨Nat.le_of_ble_eq_true rfl, Nat.le_of_ble_eq_true rfl⟩ ⟨Nat.zero_le _, Nat.zero_le _⟩ (Nat.le_of_ble_eq_true rfl) dX12_live_2 ?_
  refine aw_if_eq (pc := 5) (tgt := 17) dX12_live_5 (by decide) (fun c3 => ?_) (fun c3 => ?_)
  · replace h := aw_ifp c3 h
    refine aw_iconst (pc := 17) (v := -1) dX12_live_17 (by decide) ?_
    cases h
    subst hE
    exact aw_iret (v := (-1 : Int32)) rfl aw_ni ⟨Nat.zero_le _, Nat.zero_le _⟩ dX12_live_18
  · replace h := aw_ifn c3 h
    refine aw_aload_n (pc := 8) (q := 0) dX12_live_8 rfl ?_
    refine aw_getC (pc := 9) fd_X12_122.r xB_0 rfl dX12_live_9 ?_
    refine aw_iload_n (pc := 12) (q := 1) dX12_live_12 rfl ?_
    obtain ⟨g4, h⟩ := aw_gde h
    refine aw_iald (pc := 13) xB_36 g4 dX12_live_13 ?_
    refine aw_goto (pc := 14) (tgt := 18) dX12_live_14 (by decide) ?_
    cases h
    subst hE
    exact aw_iret (v := (σ.1 36 p1.toNatClampNeg)) rfl aw_ni ⟨Nat.zero_le _, Nat.zero_le _⟩ dX12_live_18
theorem c_Rf_live {l : Launch} {G : aw_G} {σ : aw_S} {p1 : Int32} {t : Int32} (h : m_Rf_live σ p1 = some t) : aw_Ct l yX12_live M_Rf_live G B_Rf_live [.ref 0, .int p1] xB σ (some (.int t), xB, σ) := aw_Ct_of (by decide) rfl (fun h => by cases h) (Nat.le_of_ble_eq_true rfl) (t_Rf_live h rfl)
/-! LateMoverModel.isDead(I)Z -/
set_option maxRecDepth 100000 in
set_option maxHeartbeats 4000000 in
theorem t_Rf_isDead_J37 {l : Launch} {G : aw_G} {E : aw_E} {σ : aw_S} {v1 : Int32} {k0 : Int32} {t : Int32} (h : m_Rf_isDead_J37 σ v1 k0 = some t) (hE : E = (some (.int t), xB, σ)) : aw_W l M_Rf_isDead G B_Rf_isDead E 37 [(0, .ref 0), (1, .int v1)] [.int k0] xB σ 0 0 := by
  unfold m_Rf_isDead_J37 at h
  refine aw_istore_n (pc := 37) [(2, .int k0), (0, .ref 0), (1, .int v1)] dX12_isDead_37 (by decide) rfl ?_
  refine aw_iload_n (pc := 38) (q := 0) dX12_isDead_38 rfl ?_
  refine aw_if_eq (pc := 39) (tgt := 62) dX12_isDead_39 (by decide) (fun c3 => ?_) (fun c3 => ?_)
  · replace h := aw_ifp c3 h
    refine aw_iconst (pc := 62) (v := 0) dX12_isDead_62 (by decide) ?_
    cases h
    subst hE
    exact aw_iret (v := (0 : Int32)) rfl aw_n0 ⟨Nat.zero_le _, Nat.zero_le _⟩ dX12_isDead_63
  · replace h := aw_ifn c3 h
    refine aw_aload_n (pc := 42) (q := 1) dX12_isDead_42 rfl ?_
    refine aw_iload_n (pc := 43) (q := 2) dX12_isDead_43 rfl ?_
    obtain ⟨r4, e5, h⟩ := aw_bde h
    refine aw_cV1 (pc := 44) [.int v1] (c_Rf_liveBehind e5) yy_Rf_liveBehind.1 wm_845 yy_Rf_liveBehind.2.1 yy_Rf_liveBehind.2.2 xB_0 ⟨_, _, rfl⟩ rfl ⟨Nat.le_of_ble_eq_true rfl, Nat.le_of_ble_eq_true rfl⟩ ⟨Nat.zero_le _, Nat.zero_le _⟩ (Nat.le_of_ble_eq_true rfl) dX12_isDead_44 ?_
    refine aw_aload_n (pc := 47) (q := 1) dX12_isDead_47 rfl ?_
    refine aw_iload_n (pc := 48) (q := 2) dX12_isDead_48 rfl ?_
    obtain ⟨r6, e7, h⟩ := aw_bde h
    refine aw_cV1 (pc := 49) [.int v1] (c_Rf_changed e7) yy_Rf_changed.1 wm_791 yy_Rf_changed.2.1 yy_Rf_changed.2.2 xB_0 ⟨_, _, rfl⟩ rfl ⟨Nat.le_of_ble_eq_true rfl, Nat.le_of_ble_eq_true rfl⟩ ⟨Nat.zero_le _, Nat.zero_le _⟩ (Nat.le_of_ble_eq_true rfl) dX12_isDead_49 ?_
    refine aw_ishr (pc := 52) dX12_isDead_52 ?_
    refine aw_iconst (pc := 53) (v := 1) dX12_isDead_53 (by decide) ?_
    refine aw_iand (pc := 54) dX12_isDead_54 ?_
    refine aw_if_ne (pc := 55) (tgt := 62) dX12_isDead_55 (by decide) (fun c8 => ?_) (fun c8 => ?_)
    · replace h := aw_ifn c8 h
      refine aw_iconst (pc := 62) (v := 0) dX12_isDead_62 (by decide) ?_
      cases h
      subst hE
      exact aw_iret (v := (0 : Int32)) rfl aw_n0 ⟨Nat.zero_le _, Nat.zero_le _⟩ dX12_isDead_63
    · replace h := aw_ifp c8 h
      refine aw_iconst (pc := 58) (v := 1) dX12_isDead_58 (by decide) ?_
      refine aw_goto (pc := 59) (tgt := 63) dX12_isDead_59 (by decide) ?_
      cases h
      subst hE
      exact aw_iret (v := (1 : Int32)) rfl aw_n1 ⟨Nat.zero_le _, Nat.zero_le _⟩ dX12_isDead_63
set_option maxRecDepth 100000 in
set_option maxHeartbeats 4000000 in
theorem t_Rf_isDead_J36 {l : Launch} {G : aw_G} {E : aw_E} {σ : aw_S} {v1 : Int32} {t : Int32} (h : m_Rf_isDead_J36 σ v1 = some t) (hE : E = (some (.int t), xB, σ)) : aw_W l M_Rf_isDead G B_Rf_isDead E 36 [(0, .ref 0), (1, .int v1)] [] xB σ 0 0 := by
  unfold m_Rf_isDead_J36 at h
  refine aw_iconst (pc := 36) (v := 0) dX12_isDead_36 (by decide) ?_
  exact t_Rf_isDead_J37 h hE
set_option maxRecDepth 100000 in
set_option maxHeartbeats 4000000 in
theorem t_Rf_isDead {l : Launch} {G : aw_G} {E : aw_E} {σ : aw_S} {p1 : Int32} {t : Int32} (h : m_Rf_isDead σ p1 = some t) (hE : E = (some (.int t), xB, σ)) : aw_W l M_Rf_isDead G B_Rf_isDead E 0 [(0, .ref 0), (1, .int p1)] [] xB σ 0 0 := by
  unfold m_Rf_isDead at h
  refine aw_aload_n (pc := 0) (q := 0) dX12_isDead_0 rfl ?_
  refine aw_getC (pc := 1) fd_X12_24.r xB_0 rfl dX12_isDead_1 ?_
  refine aw_iload_n (pc := 4) (q := 1) dX12_isDead_4 rfl ?_
  obtain ⟨g1, h⟩ := aw_gde h
  refine aw_iald (pc := 5) xB_4 g1 dX12_isDead_5 ?_
  refine aw_iconst (pc := 6) (v := 1) dX12_isDead_6 (by decide) ?_
  refine aw_icmp_eq (pc := 7) (tgt := 32) dX12_isDead_7 (by decide) (fun c2 => ?_) (fun c2 => ?_)
  · replace h := aw_ifp c2 h
    refine aw_iconst (pc := 32) (v := 1) dX12_isDead_32 (by decide) ?_
    refine aw_goto (pc := 33) (tgt := 37) dX12_isDead_33 (by decide) ?_
    exact t_Rf_isDead_J37 h hE
  · replace h := aw_ifn c2 h
    refine aw_aload_n (pc := 10) (q := 0) dX12_isDead_10 rfl ?_
    refine aw_getC (pc := 11) fd_X12_24.r xB_0 rfl dX12_isDead_11 ?_
    refine aw_iload_n (pc := 14) (q := 1) dX12_isDead_14 rfl ?_
    obtain ⟨g9, h⟩ := aw_gde h
    refine aw_iald (pc := 15) xB_4 g9 dX12_isDead_15 ?_
    refine aw_iconst (pc := 16) (v := 2) dX12_isDead_16 (by decide) ?_
    refine aw_icmp_ne (pc := 17) (tgt := 36) dX12_isDead_17 (by decide) (fun c10 => ?_) (fun c10 => ?_)
    · replace h := aw_ifn c10 h
      exact t_Rf_isDead_J36 h hE
    · replace h := aw_ifp c10 h
      refine aw_aload_n (pc := 20) (q := 0) dX12_isDead_20 rfl ?_
      refine aw_aload_n (pc := 21) (q := 0) dX12_isDead_21 rfl ?_
      refine aw_iload_n (pc := 22) (q := 1) dX12_isDead_22 rfl ?_
      obtain ⟨r11, e12, h⟩ := aw_bde h
      refine aw_cV1 (pc := 23) [.int p1] (c_Rf_expressionOf e12) yy_Rf_expressionOf.1 wm_776 yy_Rf_expressionOf.2.1 yy_Rf_expressionOf.2.2 xB_0 ⟨_, _, rfl⟩ rfl ⟨Nat.le_of_ble_eq_true rfl, Nat.le_of_ble_eq_true rfl⟩ ⟨Nat.zero_le _, Nat.zero_le _⟩ (Nat.le_of_ble_eq_true rfl) dX12_isDead_23 ?_
      obtain ⟨r13, e14, h⟩ := aw_bde h
      refine aw_cV1 (pc := 26) [.int r11] (c_Rf_isRisky e14) yy_Rf_isRisky.1 wm_795 yy_Rf_isRisky.2.1 yy_Rf_isRisky.2.2 xB_0 ⟨_, _, rfl⟩ rfl ⟨Nat.le_of_ble_eq_true rfl, Nat.le_of_ble_eq_true rfl⟩ ⟨Nat.zero_le _, Nat.zero_le _⟩ (Nat.le_of_ble_eq_true rfl) dX12_isDead_26 ?_
      refine aw_if_ne (pc := 29) (tgt := 36) dX12_isDead_29 (by decide) (fun c15 => ?_) (fun c15 => ?_)
      · replace h := aw_ifn c15 h
        exact t_Rf_isDead_J36 h hE
      · replace h := aw_ifp c15 h
        refine aw_iconst (pc := 32) (v := 1) dX12_isDead_32 (by decide) ?_
        refine aw_goto (pc := 33) (tgt := 37) dX12_isDead_33 (by decide) ?_
        exact t_Rf_isDead_J37 h hE
theorem c_Rf_isDead {l : Launch} {G : aw_G} {σ : aw_S} {p1 : Int32} {t : Int32} (h : m_Rf_isDead σ p1 = some t) : aw_Ct l yX12_isDead M_Rf_isDead G B_Rf_isDead [.ref 0, .int p1] xB σ (some (.int t), xB, σ) := aw_Ct_of (by decide) rfl (fun h => by cases h) (Nat.le_of_ble_eq_true rfl) (t_Rf_isDead h rfl)
/-! LateMoverModel.dead(I)I -/
def z_Rf_dead_X46 (l : Launch) (G : aw_G) (E : aw_E) (σ : aw_S) (s : Int32 × Int32) : Prop := aw_W l M_Rf_dead G B_Rf_dead E 46 [(0, .ref 0), (2, .int s.1), (3, .int s.2)] [] xB σ 0 0
def z_Rf_dead_Y46 (l : Launch) (G : aw_G) (E : aw_E) (σ : aw_S) (x : (Int32)) : Prop := aw_W l M_Rf_dead G B_Rf_dead E 76 [(2, .int x)] [] xB σ 0 0
set_option maxRecDepth 100000 in
set_option maxHeartbeats 4000000 in
theorem t_Rf_dead_J68 {l : Launch} {G : aw_G} {E : aw_E} {σ : aw_S} {v3 : Int32} {k0 : Int32} {k1 : Int32} {t : (Int32) ⊕ (Int32 × Int32)} (h : m_Rf_dead_J68 σ v3 k0 k1 = some t) (hz : Sum.elim (z_Rf_dead_Y46 l G E σ) (z_Rf_dead_X46 l G E σ) t) : aw_W l M_Rf_dead G B_Rf_dead E 68 [(0, .ref 0), (3, .int v3)] [.int k1, .int k0] xB σ 0 0 := by
  unfold m_Rf_dead_J68 at h
  refine aw_iadd (pc := 68) dX12_dead_68 ?_
  refine aw_nmI (fun x8 e_x8 => ?_)
  replace h := aw_lte h x8 e_x8
  refine aw_istore_n (pc := 69) [(2, .int x8), (0, .ref 0), (3, .int v3)] dX12_dead_69 (by decide) rfl ?_
  obtain ⟨x9, e_x9⟩ : ∃ z, z = (v3 + (1 : Int32)) := ⟨_, rfl⟩
  replace h := aw_lte h x9 e_x9
  refine aw_iinc (pc := 70) (q := 2) (v := x9) [(3, .int x9), (2, .int x8), (0, .ref 0)] dX12_dead_70 rfl e_x9.symm (by decide) rfl ?_
  refine aw_goto (pc := 73) (tgt := 46) dX12_dead_73 (by decide) ?_
  refine aw_sub [2, 1, 0] rfl ?_
  cases h
  exact hz
set_option maxRecDepth 100000 in
set_option maxHeartbeats 4000000 in
theorem t_Rf_dead_B46 {l : Launch} {G : aw_G} {E : aw_E} {σ : aw_S} {v2 : Int32} {v3 : Int32} {t : (Int32) ⊕ (Int32 × Int32)} (h : m_Rf_dead_B46 σ v2 v3 = some t) (hz : Sum.elim (z_Rf_dead_Y46 l G E σ) (z_Rf_dead_X46 l G E σ) t) : aw_W l M_Rf_dead G B_Rf_dead E 46 [(0, .ref 0), (2, .int v2), (3, .int v3)] [] xB σ 0 0 := by
  unfold m_Rf_dead_B46 at h
  refine aw_iload_n (pc := 46) (q := 2) dX12_dead_46 rfl ?_
  refine aw_aload_n (pc := 47) (q := 0) dX12_dead_47 rfl ?_
  refine aw_getI (pc := 48) fd_X12_215.r xB_0 rfl dX12_dead_48 ?_
  refine aw_icmp_ge (pc := 51) (tgt := 76) dX12_dead_51 (by decide) (fun c4 => ?_) (fun c4 => ?_)
  · replace h := aw_ifp c4 h
    refine aw_sub [1] rfl ?_
    cases h
    exact hz
  · replace h := aw_ifn c4 h
    refine aw_iload_n (pc := 54) (q := 1) dX12_dead_54 rfl ?_
    refine aw_aload_n (pc := 55) (q := 0) dX12_dead_55 rfl ?_
    refine aw_iload_n (pc := 56) (q := 2) dX12_dead_56 rfl ?_
    obtain ⟨r5, e6, h⟩ := aw_bde h
    refine aw_cV1 (pc := 57) [.int v3] (c_Rf_isDead e6) yy_Rf_isDead.1 wm_1261 yy_Rf_isDead.2.1 yy_Rf_isDead.2.2 xB_0 ⟨_, _, rfl⟩ rfl ⟨Nat.le_of_ble_eq_true rfl, Nat.le_of_ble_eq_true rfl⟩ ⟨Nat.zero_le _, Nat.zero_le _⟩ (Nat.le_of_ble_eq_true rfl) dX12_dead_57 ?_
    refine aw_if_eq (pc := 60) (tgt := 67) dX12_dead_60 (by decide) (fun c7 => ?_) (fun c7 => ?_)
    · replace h := aw_ifp c7 h
      refine aw_iconst (pc := 67) (v := 0) dX12_dead_67 (by decide) ?_
      refine aw_sub [0, 2] rfl ?_
      exact t_Rf_dead_J68 h hz
    · replace h := aw_ifn c7 h
      refine aw_iconst (pc := 63) (v := 1) dX12_dead_63 (by decide) ?_
      refine aw_goto (pc := 64) (tgt := 68) dX12_dead_64 (by decide) ?_
      refine aw_sub [0, 2] rfl ?_
      exact t_Rf_dead_J68 h hz
set_option maxRecDepth 100000 in
set_option maxHeartbeats 4000000 in
theorem t_Rf_dead_J23 {l : Launch} {G : aw_G} {E : aw_E} {σ : aw_S} {v1 : Int32} {t : Int32} (h : m_Rf_dead_J23 σ v1 = some t) (hE : E = (some (.int t), xB, σ)) : aw_W l M_Rf_dead G B_Rf_dead E 23 [(0, .ref 0), (1, .int v1)] [] xB σ 0 0 := by
  unfold m_Rf_dead_J23 at h
  refine aw_iload_n (pc := 23) (q := 1) dX12_dead_23 rfl ?_
  refine aw_iconst (pc := 24) (v := -1) dX12_dead_24 (by decide) ?_
  refine aw_icmp_eq (pc := 25) (tgt := 42) dX12_dead_25 (by decide) (fun c3 => ?_) (fun c3 => ?_)
  · replace h := aw_ifp c3 h
    refine aw_iconst (pc := 42) (v := 0) dX12_dead_42 (by decide) ?_
    refine aw_istore_n (pc := 43) [(2, .int ((0 : Int32))), (0, .ref 0), (1, .int v1)] dX12_dead_43 (by decide) rfl ?_
    refine aw_iconst (pc := 44) (v := 0) dX12_dead_44 (by decide) ?_
    refine aw_istore_n (pc := 45) [(3, .int ((0 : Int32))), (2, .int ((0 : Int32))), (0, .ref 0), (1, .int v1)] dX12_dead_45 (by decide) rfl ?_
    obtain ⟨x10, hl11, h⟩ := aw_bde h
    have K12 : z_Rf_dead_Y46 l G E σ x10 := by
      show aw_W l M_Rf_dead G B_Rf_dead E 76 [(2, .int x10)] [] xB σ 0 0
      refine aw_iload_n (pc := 76) (q := 0) dX12_dead_76 rfl ?_
      cases h
      subst hE
      exact aw_iret (v := _) rfl aw_ni ⟨Nat.zero_le _, Nat.zero_le _⟩ dX12_dead_77
    refine aw_sub [2, 1, 0] rfl ?_
    show z_Rf_dead_X46 l G E σ (((0 : Int32), (0 : Int32)))
    exact aw_lp_X (Xp := z_Rf_dead_X46 l G E σ) (Y := z_Rf_dead_Y46 l G E σ) hl11 K12 (fun s t hf hz => t_Rf_dead_B46 hf hz)
  · replace h := aw_ifn c3 h
    refine aw_aload_n (pc := 28) (q := 0) dX12_dead_28 rfl ?_
    refine aw_iload_n (pc := 29) (q := 1) dX12_dead_29 rfl ?_
    obtain ⟨r13, e14, h⟩ := aw_bde h
    refine aw_cV1 (pc := 30) [.int v1] (c_Rf_isDead e14) yy_Rf_isDead.1 wm_1261 yy_Rf_isDead.2.1 yy_Rf_isDead.2.2 xB_0 ⟨_, _, rfl⟩ rfl ⟨Nat.le_of_ble_eq_true rfl, Nat.le_of_ble_eq_true rfl⟩ ⟨Nat.zero_le _, Nat.zero_le _⟩ (Nat.le_of_ble_eq_true rfl) dX12_dead_30 ?_
    refine aw_if_eq (pc := 33) (tgt := 40) dX12_dead_33 (by decide) (fun c15 => ?_) (fun c15 => ?_)
    · replace h := aw_ifp c15 h
      refine aw_iconst (pc := 40) (v := 0) dX12_dead_40 (by decide) ?_
      cases h
      subst hE
      exact aw_iret (v := (0 : Int32)) rfl aw_ni ⟨Nat.zero_le _, Nat.zero_le _⟩ dX12_dead_41
    · replace h := aw_ifn c15 h
      refine aw_iconst (pc := 36) (v := 1) dX12_dead_36 (by decide) ?_
      refine aw_goto (pc := 37) (tgt := 41) dX12_dead_37 (by decide) ?_
      cases h
      subst hE
      exact aw_iret (v := (1 : Int32)) rfl aw_ni ⟨Nat.zero_le _, Nat.zero_le _⟩ dX12_dead_41
set_option maxRecDepth 100000 in
set_option maxHeartbeats 4000000 in
theorem t_Rf_dead {l : Launch} {G : aw_G} {E : aw_E} {σ : aw_S} {p1 : Int32} {t : Int32} (h : m_Rf_dead σ p1 = some t) (hE : E = (some (.int t), xB, σ)) : aw_W l M_Rf_dead G B_Rf_dead E 0 [(0, .ref 0), (1, .int p1)] [] xB σ 0 0 := by
  unfold m_Rf_dead at h
  refine aw_aload_n (pc := 0) (q := 0) dX12_dead_0 rfl ?_
  refine aw_getI (pc := 1) fd_X12_231.r xB_0 rfl dX12_dead_1 ?_
  refine aw_if_eq (pc := 4) (tgt := 20) dX12_dead_4 (by decide) (fun c1 => ?_) (fun c1 => ?_)
  · replace h := aw_ifp c1 h
    refine aw_bipush (pc := 20) (v := -2) dX12_dead_20 (by decide) ?_
    cases h
    subst hE
    exact aw_iret (v := (-2 : Int32)) rfl aw_ni ⟨Nat.zero_le _, Nat.zero_le _⟩ dX12_dead_22
  · replace h := aw_ifn c1 h
    refine aw_iload_n (pc := 7) (q := 1) dX12_dead_7 rfl ?_
    refine aw_iconst (pc := 8) (v := -1) dX12_dead_8 (by decide) ?_
    refine aw_icmp_eq (pc := 9) (tgt := 23) dX12_dead_9 (by decide) (fun c2 => ?_) (fun c2 => ?_)
    · replace h := aw_ifp c2 h
      exact t_Rf_dead_J23 h hE
    · replace h := aw_ifn c2 h
      refine aw_aload_n (pc := 12) (q := 0) dX12_dead_12 rfl ?_
      refine aw_iload_n (pc := 13) (q := 1) dX12_dead_13 rfl ?_
      obtain ⟨r16, e17, h⟩ := aw_bde h
      refine aw_cV1 (pc := 14) [.int p1] (c_Rf_isNode e17) yy_Rf_isNode.1 wm_924 yy_Rf_isNode.2.1 yy_Rf_isNode.2.2 xB_0 ⟨_, _, rfl⟩ rfl ⟨Nat.le_of_ble_eq_true rfl, Nat.le_of_ble_eq_true rfl⟩ ⟨Nat.zero_le _, Nat.zero_le _⟩ (Nat.le_of_ble_eq_true rfl) dX12_dead_14 ?_
      refine aw_if_ne (pc := 17) (tgt := 23) dX12_dead_17 (by decide) (fun c18 => ?_) (fun c18 => ?_)
      · replace h := aw_ifn c18 h
        exact t_Rf_dead_J23 h hE
      · replace h := aw_ifp c18 h
        refine aw_bipush (pc := 20) (v := -2) dX12_dead_20 (by decide) ?_
        cases h
        subst hE
        exact aw_iret (v := (-2 : Int32)) rfl aw_ni ⟨Nat.zero_le _, Nat.zero_le _⟩ dX12_dead_22
theorem c_Rf_dead {l : Launch} {G : aw_G} {σ : aw_S} {p1 : Int32} {t : Int32} (h : m_Rf_dead σ p1 = some t) : aw_Ct l yX12_dead M_Rf_dead G B_Rf_dead [.ref 0, .int p1] xB σ (some (.int t), xB, σ) := aw_Ct_of (by decide) rfl (fun h => by cases h) (Nat.le_of_ble_eq_true rfl) (t_Rf_dead h rfl)
/-! LateMoverModel.over(II)I -/
set_option maxRecDepth 100000 in
set_option maxHeartbeats 4000000 in
theorem t_Rf_over {l : Launch} {G : aw_G} {E : aw_E} {σ : aw_S} {p1 : Int32} {p2 : Int32} {t : Int32} (h : m_Rf_over σ p1 p2 = some t) (hE : E = (some (.int t), xB, σ)) : aw_W l M_Rf_over G B_Rf_over E 0 [(0, .ref 0), (1, .int p1), (2, .int p2)] [] xB σ 0 0 := by
  unfold m_Rf_over at h
  refine aw_aload_n (pc := 0) (q := 0) dX12_over_0 rfl ?_
  refine aw_iload_n (pc := 1) (q := 1) dX12_over_1 rfl ?_
  obtain ⟨r1, e2, h⟩ := aw_bde h
  refine aw_cV1 (pc := 2) [.int p1] (c_Rf_isNode e2) yy_Rf_isNode.1 wm_924 yy_Rf_isNode.2.1 yy_Rf_isNode.2.2 xB_0 ⟨_, _, rfl⟩ rfl ⟨Nat.le_of_ble_eq_true rfl, Nat.le_of_ble_eq_true rfl⟩ ⟨Nat.zero_le _, Nat.zero_le _⟩ (Nat.le_of_ble_eq_true rfl) dX12_over_2 ?_
  refine aw_if_eq (pc := 5) (tgt := 33) dX12_over_5 (by decide) (fun c3 => ?_) (fun c3 => ?_)
  · replace h := aw_ifp c3 h
    refine aw_iconst (pc := 33) (v := -1) dX12_over_33 (by decide) ?_
    cases h
    subst hE
    exact aw_iret (v := (-1 : Int32)) rfl aw_ni ⟨Nat.zero_le _, Nat.zero_le _⟩ dX12_over_34
  · replace h := aw_ifn c3 h
    refine aw_aload_n (pc := 8) (q := 0) dX12_over_8 rfl ?_
    refine aw_iload_n (pc := 9) (q := 2) dX12_over_9 rfl ?_
    obtain ⟨r4, e5, h⟩ := aw_bde h
    refine aw_cV1 (pc := 10) [.int p2] (c_Rf_isNode e5) yy_Rf_isNode.1 wm_924 yy_Rf_isNode.2.1 yy_Rf_isNode.2.2 xB_0 ⟨_, _, rfl⟩ rfl ⟨Nat.le_of_ble_eq_true rfl, Nat.le_of_ble_eq_true rfl⟩ ⟨Nat.zero_le _, Nat.zero_le _⟩ (Nat.le_of_ble_eq_true rfl) dX12_over_10 ?_
    refine aw_if_eq (pc := 13) (tgt := 33) dX12_over_13 (by decide) (fun c6 => ?_) (fun c6 => ?_)
    · replace h := aw_ifp c6 h
      refine aw_iconst (pc := 33) (v := -1) dX12_over_33 (by decide) ?_
      cases h
      subst hE
      exact aw_iret (v := (-1 : Int32)) rfl aw_ni ⟨Nat.zero_le _, Nat.zero_le _⟩ dX12_over_34
    · replace h := aw_ifn c6 h
      refine aw_aload_n (pc := 16) (q := 0) dX12_over_16 rfl ?_
      refine aw_iload_n (pc := 17) (q := 1) dX12_over_17 rfl ?_
      refine aw_iload_n (pc := 18) (q := 2) dX12_over_18 rfl ?_
      obtain ⟨r7, e8, h⟩ := aw_bde h
      refine aw_cV1 (pc := 19) [.int p1, .int p2] (c_Rf_isOver e8) yy_Rf_isOver.1 wm_862 yy_Rf_isOver.2.1 yy_Rf_isOver.2.2 xB_0 ⟨_, _, rfl⟩ rfl ⟨Nat.le_of_ble_eq_true rfl, Nat.le_of_ble_eq_true rfl⟩ ⟨Nat.zero_le _, Nat.zero_le _⟩ (Nat.le_of_ble_eq_true rfl) dX12_over_19 ?_
      refine aw_if_eq (pc := 22) (tgt := 29) dX12_over_22 (by decide) (fun c9 => ?_) (fun c9 => ?_)
      · replace h := aw_ifp c9 h
        refine aw_iconst (pc := 29) (v := 0) dX12_over_29 (by decide) ?_
        refine aw_goto (pc := 30) (tgt := 34) dX12_over_30 (by decide) ?_
        cases h
        subst hE
        exact aw_iret (v := (0 : Int32)) rfl aw_ni ⟨Nat.zero_le _, Nat.zero_le _⟩ dX12_over_34
      · replace h := aw_ifn c9 h
        refine aw_iconst (pc := 25) (v := 1) dX12_over_25 (by decide) ?_
        refine aw_goto (pc := 26) (tgt := 34) dX12_over_26 (by decide) ?_
        cases h
        subst hE
        exact aw_iret (v := (1 : Int32)) rfl aw_ni ⟨Nat.zero_le _, Nat.zero_le _⟩ dX12_over_34
theorem c_Rf_over {l : Launch} {G : aw_G} {σ : aw_S} {p1 : Int32} {p2 : Int32} {t : Int32} (h : m_Rf_over σ p1 p2 = some t) : aw_Ct l yX12_over M_Rf_over G B_Rf_over [.ref 0, .int p1, .int p2] xB σ (some (.int t), xB, σ) := aw_Ct_of (by decide) rfl (fun h => by cases h) (Nat.le_of_ble_eq_true rfl) (t_Rf_over h rfl)
/-! LateMoverModel.depth(I)I -/
set_option maxRecDepth 100000 in
set_option maxHeartbeats 4000000 in
theorem t_Rf_depth {l : Launch} {G : aw_G} {E : aw_E} {σ : aw_S} {p1 : Int32} {t : Int32} (h : m_Rf_depth σ p1 = some t) (hE : E = (some (.int t), xB, σ)) : aw_W l M_Rf_depth G B_Rf_depth E 0 [(0, .ref 0), (1, .int p1)] [] xB σ 0 0 := by
  unfold m_Rf_depth at h
  refine aw_aload_n (pc := 0) (q := 0) dX12_depth_0 rfl ?_
  refine aw_iload_n (pc := 1) (q := 1) dX12_depth_1 rfl ?_
  obtain ⟨r1, e2, h⟩ := aw_bde h
  refine aw_cV1 (pc := 2) [.int p1] (c_Rf_isNode e2) yy_Rf_isNode.1 wm_924 yy_Rf_isNode.2.1 yy_Rf_isNode.2.2 xB_0 ⟨_, _, rfl⟩ rfl ⟨Nat.le_of_ble_eq_true rfl, Nat.le_of_ble_eq_true rfl⟩ ⟨Nat.zero_le _, Nat.zero_le _⟩ (Nat.le_of_ble_eq_true rfl) dX12_depth_2 ?_
  refine aw_if_eq (pc := 5) (tgt := 17) dX12_depth_5 (by decide) (fun c3 => ?_) (fun c3 => ?_)
  · replace h := aw_ifp c3 h
    refine aw_iconst (pc := 17) (v := -1) dX12_depth_17 (by decide) ?_
    cases h
    subst hE
    exact aw_iret (v := (-1 : Int32)) rfl aw_ni ⟨Nat.zero_le _, Nat.zero_le _⟩ dX12_depth_18
  · replace h := aw_ifn c3 h
    refine aw_aload_n (pc := 8) (q := 0) dX12_depth_8 rfl ?_
    refine aw_getC (pc := 9) fd_X12_131.r xB_0 rfl dX12_depth_9 ?_
    refine aw_iload_n (pc := 12) (q := 1) dX12_depth_12 rfl ?_
    obtain ⟨g4, h⟩ := aw_gde h
    refine aw_iald (pc := 13) xB_39 g4 dX12_depth_13 ?_
    refine aw_goto (pc := 14) (tgt := 18) dX12_depth_14 (by decide) ?_
    cases h
    subst hE
    exact aw_iret (v := (σ.1 39 p1.toNatClampNeg)) rfl aw_ni ⟨Nat.zero_le _, Nat.zero_le _⟩ dX12_depth_18
theorem c_Rf_depth {l : Launch} {G : aw_G} {σ : aw_S} {p1 : Int32} {t : Int32} (h : m_Rf_depth σ p1 = some t) : aw_Ct l yX12_depth M_Rf_depth G B_Rf_depth [.ref 0, .int p1] xB σ (some (.int t), xB, σ) := aw_Ct_of (by decide) rfl (fun h => by cases h) (Nat.le_of_ble_eq_true rfl) (t_Rf_depth h rfl)
/-! LateMoverModel.heads()I -/
set_option maxRecDepth 100000 in
set_option maxHeartbeats 4000000 in
theorem t_Rf_heads {l : Launch} {G : aw_G} {E : aw_E} {σ : aw_S} {t : Int32} (h : m_Rf_heads σ = some t) (hE : E = (some (.int t), xB, σ)) : aw_W l M_Rf_heads G B_Rf_heads E 0 [(0, .ref 0)] [] xB σ 0 0 := by
  unfold m_Rf_heads at h
  refine aw_aload_n (pc := 0) (q := 0) dX12_heads_0 rfl ?_
  refine aw_getI (pc := 1) fd_X12_466.r xB_0 rfl dX12_heads_1 ?_
  cases h
  subst hE
  exact aw_iret (v := (σ.1 0 54)) rfl aw_ni ⟨Nat.zero_le _, Nat.zero_le _⟩ dX12_heads_4
theorem c_Rf_heads {l : Launch} {G : aw_G} {σ : aw_S} {t : Int32} (h : m_Rf_heads σ = some t) : aw_Ct l yX12_heads M_Rf_heads G B_Rf_heads [.ref 0] xB σ (some (.int t), xB, σ) := aw_Ct_of (by decide) rfl (fun h => by cases h) (Nat.le_of_ble_eq_true rfl) (t_Rf_heads h rfl)
/-! LateMoverModel.weight(I)J -/
def z_Rf_weight_X17 (l : Launch) (G : aw_G) (E : aw_E) (σ : aw_S) (v1 : Int32) (s : Int64 × Int32) : Prop := aw_W l M_Rf_weight G B_Rf_weight E 17 [(0, .ref 0), (1, .int v1), (2, .long s.1), (4, .int s.2)] [] xB σ 0 0
def z_Rf_weight_Y17 (l : Launch) (G : aw_G) (E : aw_E) (σ : aw_S) (v1 : Int32) (x : (Int64)) : Prop := aw_W l M_Rf_weight G B_Rf_weight E 83 [(2, .long x)] [] xB σ 0 0
def z_Rf_weight_X32 (l : Launch) (G : aw_G) (E : aw_E) (σ : aw_S) (v1 : Int32) (v2 : Int64) (v4 : Int32) (s : Int64 × Int32) : Prop := aw_W l M_Rf_weight G B_Rf_weight E 32 [(0, .ref 0), (1, .int v1), (2, .long v2), (4, .int v4), (5, .long s.1), (7, .int s.2)] [] xB σ 0 0
def z_Rf_weight_Y32 (l : Launch) (G : aw_G) (E : aw_E) (σ : aw_S) (v1 : Int32) (v2 : Int64) (v4 : Int32) (x : (Int64)) : Prop := aw_W l M_Rf_weight G B_Rf_weight E 63 [(0, .ref 0), (1, .int v1), (2, .long v2), (4, .int v4), (5, .long x)] [] xB σ 0 0
set_option maxRecDepth 100000 in
set_option maxHeartbeats 4000000 in
theorem t_Rf_weight_B32 {l : Launch} {G : aw_G} {E : aw_E} {σ : aw_S} {v1 : Int32} {v2 : Int64} {v4 : Int32} {v5 : Int64} {v7 : Int32} {t : (Int64) ⊕ (Int64 × Int32)} (h : m_Rf_weight_B32 σ v1 v2 v4 v5 v7 = some t) (hz : Sum.elim (z_Rf_weight_Y32 l G E σ v1 v2 v4) (z_Rf_weight_X32 l G E σ v1 v2 v4) t) : aw_W l M_Rf_weight G B_Rf_weight E 32 [(0, .ref 0), (1, .int v1), (2, .long v2), (4, .int v4), (5, .long v5), (7, .int v7)] [] xB σ 0 0 := by
  unfold m_Rf_weight_B32 at h
  refine aw_iload (pc := 32) (q := 5) dX12_weight_32 rfl ?_
  refine aw_aload_n (pc := 34) (q := 0) dX12_weight_34 rfl ?_
  refine aw_aload_n (pc := 35) (q := 0) dX12_weight_35 rfl ?_
  refine aw_getC (pc := 36) fd_X12_131.r xB_0 rfl dX12_weight_36 ?_
  refine aw_iload (pc := 39) (q := 3) dX12_weight_39 rfl ?_
  obtain ⟨g5, h⟩ := aw_gde h
  refine aw_iald (pc := 41) xB_39 g5 dX12_weight_41 ?_
  refine aw_iconst (pc := 42) (v := 4) dX12_weight_42 (by decide) ?_
  obtain ⟨r6, e7, h⟩ := aw_bde h
  refine aw_cV1 (pc := 43) [.int ((σ.1 39 v4.toNatClampNeg)), .int ((4 : Int32))] (c_Rf_least e7) yy_Rf_least.1 wm_1215 yy_Rf_least.2.1 yy_Rf_least.2.2 xB_0 ⟨_, _, rfl⟩ rfl ⟨Nat.le_of_ble_eq_true rfl, Nat.le_of_ble_eq_true rfl⟩ ⟨Nat.zero_le _, Nat.zero_le _⟩ (Nat.le_of_ble_eq_true rfl) dX12_weight_43 ?_
  refine aw_icmp_ge (pc := 46) (tgt := 63) dX12_weight_46 (by decide) (fun c8 => ?_) (fun c8 => ?_)
  · replace h := aw_ifp c8 h
    refine aw_sub [0, 1, 2, 3, 4] rfl ?_
    cases h
    exact hz
  · replace h := aw_ifn c8 h
    refine aw_lload (pc := 49) (q := 4) dX12_weight_49 rfl ?_
    refine aw_ldc2 (pc := 51) (v := 10) dX12_weight_51 wm_1324 ?_
    refine aw_lmul (pc := 54) dX12_weight_54 ?_
    refine aw_nmL (fun x9 e_x9 => ?_)
    replace h := aw_lte h x9 e_x9
    refine aw_lstore (pc := 55) [(5, .long x9), (0, .ref 0), (1, .int v1), (2, .long v2), (4, .int v4), (7, .int v7)] dX12_weight_55 (by decide) rfl ?_
    obtain ⟨x10, e_x10⟩ : ∃ z, z = (v7 + (1 : Int32)) := ⟨_, rfl⟩
    replace h := aw_lte h x10 e_x10
    refine aw_iinc (pc := 57) (q := 5) (v := x10) [(7, .int x10), (5, .long x9), (0, .ref 0), (1, .int v1), (2, .long v2), (4, .int v4)] dX12_weight_57 rfl e_x10.symm (by decide) rfl ?_
    refine aw_goto (pc := 60) (tgt := 32) dX12_weight_60 (by decide) ?_
    refine aw_sub [2, 3, 4, 5, 1, 0] rfl ?_
    cases h
    exact hz
set_option maxRecDepth 100000 in
set_option maxHeartbeats 4000000 in
theorem t_Rf_weight_B17 {l : Launch} {G : aw_G} {E : aw_E} {σ : aw_S} {v1 : Int32} {v2 : Int64} {v4 : Int32} {t : (Int64) ⊕ (Int64 × Int32)} (h : m_Rf_weight_B17 σ v1 v2 v4 = some t) (hz : Sum.elim (z_Rf_weight_Y17 l G E σ v1) (z_Rf_weight_X17 l G E σ v1) t) : aw_W l M_Rf_weight G B_Rf_weight E 17 [(0, .ref 0), (1, .int v1), (2, .long v2), (4, .int v4)] [] xB σ 0 0 := by
  unfold m_Rf_weight_B17 at h
  refine aw_iload (pc := 17) (q := 3) dX12_weight_17 rfl ?_
  refine aw_aload_n (pc := 19) (q := 0) dX12_weight_19 rfl ?_
  refine aw_getI (pc := 20) fd_X12_215.r xB_0 rfl dX12_weight_20 ?_
  refine aw_icmp_ge (pc := 23) (tgt := 83) dX12_weight_23 (by decide) (fun c4 => ?_) (fun c4 => ?_)
  · replace h := aw_ifp c4 h
    refine aw_sub [2] rfl ?_
    cases h
    exact hz
  · replace h := aw_ifn c4 h
    refine aw_lconst (pc := 26) (v := 1) dX12_weight_26 (by decide) ?_
    refine aw_lstore (pc := 27) [(5, .long ((1 : Int64))), (0, .ref 0), (1, .int v1), (2, .long v2), (4, .int v4)] dX12_weight_27 (by decide) rfl ?_
    refine aw_iconst (pc := 29) (v := 0) dX12_weight_29 (by decide) ?_
    refine aw_istore (pc := 30) [(7, .int ((0 : Int32))), (5, .long ((1 : Int64))), (0, .ref 0), (1, .int v1), (2, .long v2), (4, .int v4)] dX12_weight_30 (by decide) rfl ?_
    obtain ⟨x11, hl12, h⟩ := aw_bde h
    have K13 : z_Rf_weight_Y32 l G E σ v1 v2 v4 x11 := by
      show aw_W l M_Rf_weight G B_Rf_weight E 63 [(0, .ref 0), (1, .int v1), (2, .long v2), (4, .int v4), (5, .long x11)] [] xB σ 0 0
      refine aw_lload_n (pc := 63) (q := 2) dX12_weight_63 rfl ?_
      refine aw_aload_n (pc := 64) (q := 0) dX12_weight_64 rfl ?_
      refine aw_iload (pc := 65) (q := 3) dX12_weight_65 rfl ?_
      refine aw_iload_n (pc := 67) (q := 1) dX12_weight_67 rfl ?_
      obtain ⟨r14, e15, h⟩ := aw_bde h
      refine aw_cV1 (pc := 68) [.int v4, .int v1] (c_Rf_costs e15) yy_Rf_costs.1 wm_1325 yy_Rf_costs.2.1 yy_Rf_costs.2.2 xB_0 ⟨_, _, rfl⟩ rfl ⟨Nat.le_of_ble_eq_true rfl, Nat.le_of_ble_eq_true rfl⟩ ⟨Nat.zero_le _, Nat.zero_le _⟩ (Nat.le_of_ble_eq_true rfl) dX12_weight_68 ?_
      refine aw_i2l (pc := 71) dX12_weight_71 ?_
      refine aw_lload (pc := 72) (q := 4) dX12_weight_72 rfl ?_
      refine aw_lmul (pc := 74) dX12_weight_74 ?_
      refine aw_ladd (pc := 75) dX12_weight_75 ?_
      refine aw_nmL (fun x16 e_x16 => ?_)
      replace h := aw_lte h x16 e_x16
      refine aw_lstore_n (pc := 76) [(2, .long x16), (0, .ref 0), (1, .int v1), (4, .int v4), (5, .long x11)] dX12_weight_76 (by decide) rfl ?_
      obtain ⟨x17, e_x17⟩ : ∃ z, z = (v4 + (1 : Int32)) := ⟨_, rfl⟩
      replace h := aw_lte h x17 e_x17
      refine aw_iinc (pc := 77) (q := 3) (v := x17) [(4, .int x17), (2, .long x16), (0, .ref 0), (1, .int v1), (5, .long x11)] dX12_weight_77 rfl e_x17.symm (by decide) rfl ?_
      refine aw_goto (pc := 80) (tgt := 17) dX12_weight_80 (by decide) ?_
      refine aw_sub [2, 3, 1, 0] rfl ?_
      cases h
      exact hz
    refine aw_sub [2, 3, 4, 5, 1, 0] rfl ?_
    show z_Rf_weight_X32 l G E σ v1 v2 v4 (((1 : Int64), (0 : Int32)))
    exact aw_lp_X (Xp := z_Rf_weight_X32 l G E σ v1 v2 v4) (Y := z_Rf_weight_Y32 l G E σ v1 v2 v4) hl12 K13 (fun s t hf hz => t_Rf_weight_B32 hf hz)
set_option maxRecDepth 100000 in
set_option maxHeartbeats 4000000 in
theorem t_Rf_weight {l : Launch} {G : aw_G} {E : aw_E} {σ : aw_S} {p1 : Int32} {t : Int64} (h : m_Rf_weight σ p1 = some t) (hE : E = (some (.long t), xB, σ)) : aw_W l M_Rf_weight G B_Rf_weight E 0 [(0, .ref 0), (1, .int p1)] [] xB σ 0 0 := by
  unfold m_Rf_weight at h
  refine aw_aload_n (pc := 0) (q := 0) dX12_weight_0 rfl ?_
  refine aw_iload_n (pc := 1) (q := 1) dX12_weight_1 rfl ?_
  obtain ⟨r1, e2, h⟩ := aw_bde h
  refine aw_cV1 (pc := 2) [.int p1] (c_Rf_canRun e2) yy_Rf_canRun.1 wm_1164 yy_Rf_canRun.2.1 yy_Rf_canRun.2.2 xB_0 ⟨_, _, rfl⟩ rfl ⟨Nat.le_of_ble_eq_true rfl, Nat.le_of_ble_eq_true rfl⟩ ⟨Nat.zero_le _, Nat.zero_le _⟩ (Nat.le_of_ble_eq_true rfl) dX12_weight_2 ?_
  refine aw_if_ne (pc := 5) (tgt := 12) dX12_weight_5 (by decide) (fun c3 => ?_) (fun c3 => ?_)
  · replace h := aw_ifn c3 h
    refine aw_lconst (pc := 12) (v := 0) dX12_weight_12 (by decide) ?_
    refine aw_lstore_n (pc := 13) [(2, .long ((0 : Int64))), (0, .ref 0), (1, .int p1)] dX12_weight_13 (by decide) rfl ?_
    refine aw_iconst (pc := 14) (v := 0) dX12_weight_14 (by decide) ?_
    refine aw_istore (pc := 15) [(4, .int ((0 : Int32))), (2, .long ((0 : Int64))), (0, .ref 0), (1, .int p1)] dX12_weight_15 (by decide) rfl ?_
    obtain ⟨x18, hl19, h⟩ := aw_bde h
    have K20 : z_Rf_weight_Y17 l G E σ p1 x18 := by
      show aw_W l M_Rf_weight G B_Rf_weight E 83 [(2, .long x18)] [] xB σ 0 0
      refine aw_lload_n (pc := 83) (q := 0) dX12_weight_83 rfl ?_
      cases h
      subst hE
      exact aw_lret (v := _) rfl ⟨Nat.zero_le _, Nat.zero_le _⟩ dX12_weight_84
    refine aw_sub [2, 3, 1, 0] rfl ?_
    show z_Rf_weight_X17 l G E σ p1 (((0 : Int64), (0 : Int32)))
    exact aw_lp_X (Xp := z_Rf_weight_X17 l G E σ p1) (Y := z_Rf_weight_Y17 l G E σ p1) hl19 K20 (fun s t hf hz => t_Rf_weight_B17 hf hz)
  · replace h := aw_ifp c3 h
    refine aw_ldc2 (pc := 8) (v := -1) dX12_weight_8 wm_1323 ?_
    cases h
    subst hE
    exact aw_lret (v := (-1 : Int64)) rfl ⟨Nat.zero_le _, Nat.zero_le _⟩ dX12_weight_11
theorem c_Rf_weight {l : Launch} {G : aw_G} {σ : aw_S} {p1 : Int32} {t : Int64} (h : m_Rf_weight σ p1 = some t) : aw_Ct l yX12_weight M_Rf_weight G B_Rf_weight [.ref 0, .int p1] xB σ (some (.long t), xB, σ) := aw_Ct_of (by decide) rfl (fun h => by cases h) (Nat.le_of_ble_eq_true rfl) (t_Rf_weight h rfl)

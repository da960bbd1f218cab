/-! LateMover$Run.compute(LLateMover$Expressions;I)Z -/
set_option maxRecDepth 100000 in
set_option maxHeartbeats 4000000 in
theorem t_Ru_compute_J152 {l : Launch} {G : aw_G} {E : aw_E} {σ : aw_S} {k0 : Nat} {k1 : Int32} (h_k0 : isRu k0) {t : (Int32 × aw_S)} (h : m_Ru_compute_J152 σ k0 k1 = some t) (hE : E = (some (.int t.1), xA, t.2)) : aw_W l M_Ru_compute G B_Ru_compute E 152 [] [.int k1, .ref k0] xA σ 0 0 := by
  unfold m_Ru_compute_J152 at h
  obtain ⟨r22, e23, h⟩ := aw_bde h
  refine aw_cN1 (pc := 152) [.int k1] (c_Mo_oneIf e23) yy_Mo_oneIf.1 nm_X8_149 yy_Mo_oneIf.2 rfl ⟨Nat.le_of_ble_eq_true rfl, Nat.le_of_ble_eq_true rfl⟩ ⟨Nat.zero_le _, Nat.zero_le _⟩ (Nat.le_of_ble_eq_true rfl) dX8_compute_152 ?_
  refine aw_putI (pc := 155) fd_X8_99 h_k0.1 rfl (fun _ => rfl) (fun _ => rfl) dX8_compute_155 ?_
  refine aw_nmS (fun s24 e_s24 => ?_)
  replace h := aw_lte h s24 e_s24
  refine aw_iconst (pc := 158) (v := 1) dX8_compute_158 (by decide) ?_
  cases h
  subst hE
  exact aw_iret (v := (1 : Int32)) rfl aw_n1 ⟨Nat.zero_le _, Nat.zero_le _⟩ dX8_compute_159
set_option maxRecDepth 100000 in
set_option maxHeartbeats 4000000 in
theorem t_Ru_compute {l : Launch} {G : aw_G} {E : aw_E} {σ : aw_S} {o : Nat} {p1 : Nat} {p2 : Int32} (h_o : isRu o) (h_p1 : isEx p1) {t : (Int32 × aw_S)} (h : m_Ru_compute σ o p1 p2 = some t) (hE : E = (some (.int t.1), xA, t.2)) : aw_W l M_Ru_compute G B_Ru_compute E 0 [(0, .ref o), (1, .ref p1), (2, .int p2)] [] xA σ 0 0 := by
  unfold m_Ru_compute at h
  refine aw_aload_n (pc := 0) (q := 0) dX8_compute_0 rfl ?_
  refine aw_getC (pc := 1) fd_X8_18.r h_o.1 rfl dX8_compute_1 ?_
  refine aw_iload_n (pc := 4) (q := 2) dX8_compute_4 rfl ?_
  refine aw_dup2 (pc := 5) dX8_compute_5 rfl rfl ?_
  obtain ⟨g1, h⟩ := aw_gde h
  refine aw_iald (pc := 6) h_o.2.2.2.1 g1 dX8_compute_6 ?_
  refine aw_iconst (pc := 7) (v := 1) dX8_compute_7 (by decide) ?_
  refine aw_iadd (pc := 8) dX8_compute_8 ?_
  obtain ⟨g2, h⟩ := aw_gde h
  refine aw_iast (pc := 9) h_o.2.2.2.1 g2 dX8_compute_9 ?_
  refine aw_nmS (fun s3 e_s3 => ?_)
  replace h := aw_lte h s3 e_s3
  refine aw_aload_n (pc := 10) (q := 0) dX8_compute_10 rfl ?_
  refine aw_dup (pc := 11) dX8_compute_11 rfl ?_
  refine aw_getI (pc := 12) fd_X8_40.r h_o.1 rfl dX8_compute_12 ?_
  refine aw_iconst (pc := 15) (v := 1) dX8_compute_15 (by decide) ?_
  refine aw_iadd (pc := 16) dX8_compute_16 ?_
  refine aw_putI (pc := 17) fd_X8_40 h_o.1 rfl (fun _ => rfl) (fun _ => rfl) dX8_compute_17 ?_
  refine aw_nmS (fun s4 e_s4 => ?_)
  replace h := aw_lte h s4 e_s4
  refine aw_aload_n (pc := 20) (q := 0) dX8_compute_20 rfl ?_
  refine aw_aload_n (pc := 21) (q := 1) dX8_compute_21 rfl ?_
  refine aw_getC (pc := 22) fd_X8_140 h_p1.1 rfl dX8_compute_22 ?_
  refine aw_iload_n (pc := 25) (q := 2) dX8_compute_25 rfl ?_
  obtain ⟨g5, h⟩ := aw_gde h
  refine aw_iald (pc := 26) h_p1.2.2.1 g5 dX8_compute_26 ?_
  obtain ⟨r6, e7, h⟩ := aw_bde h
  refine aw_cV1 (pc := 27) [.int ((s4.1 (p1 + 2) p2.toNatClampNeg))] (c_Ru_valueOf h_o e7) yy_Ru_valueOf.1 wm_1118 yy_Ru_valueOf.2.1 yy_Ru_valueOf.2.2 h_o.1 ⟨_, _, rfl⟩ rfl ⟨Nat.le_of_ble_eq_true rfl, Nat.le_of_ble_eq_true rfl⟩ ⟨Nat.zero_le _, Nat.zero_le _⟩ (Nat.le_of_ble_eq_true rfl) dX8_compute_27 ?_
  refine aw_istore_n (pc := 30) [(3, .int r6), (0, .ref o), (1, .ref p1), (2, .int p2)] dX8_compute_30 (by decide) rfl ?_
  refine aw_aload_n (pc := 31) (q := 1) dX8_compute_31 rfl ?_
  refine aw_aload_n (pc := 32) (q := 2) dX8_compute_32 rfl ?_
  refine aw_getC (pc := 33) fd_X8_143 h_p1.1 rfl dX8_compute_33 ?_
  refine aw_iload_n (pc := 36) (q := 3) dX8_compute_36 rfl ?_
  obtain ⟨g8, h⟩ := aw_gde h
  refine aw_iald (pc := 37) h_p1.2.2.2 g8 dX8_compute_37 ?_
  obtain ⟨r9, e10, h⟩ := aw_bde h
  refine aw_cV1 (pc := 38) [.int ((s4.1 (p1 + 3) p2.toNatClampNeg))] (c_Ru_valueOf h_o e10) yy_Ru_valueOf.1 wm_1118 yy_Ru_valueOf.2.1 yy_Ru_valueOf.2.2 h_o.1 ⟨_, _, rfl⟩ rfl ⟨Nat.le_of_ble_eq_true rfl, Nat.le_of_ble_eq_true rfl⟩ ⟨Nat.zero_le _, Nat.zero_le _⟩ (Nat.le_of_ble_eq_true rfl) dX8_compute_38 ?_
  refine aw_istore (pc := 41) [(4, .int r9), (3, .int r6), (0, .ref o), (1, .ref p1), (2, .int p2)] dX8_compute_41 (by decide) rfl ?_
  refine aw_aload_n (pc := 43) (q := 3) dX8_compute_43 rfl ?_
  refine aw_getC (pc := 44) fd_X8_146 h_p1.1 rfl dX8_compute_44 ?_
  refine aw_iload_n (pc := 47) (q := 4) dX8_compute_47 rfl ?_
  obtain ⟨g11, h⟩ := aw_gde h
  refine aw_iald (pc := 48) h_p1.2.1 g11 dX8_compute_48 ?_
  by_cases c12 : (s4.1 (p1 + 1) p2.toNatClampNeg) = (38 : Int32)
  · replace h := aw_ifp c12 h
    refine aw_lookup (tgt := 130) dX8_compute_49 (by decide) (by (try rw [c12]); (try rfl)) (by decide) ?_
    refine aw_aload_n (pc := 130) (q := 2) dX8_compute_130 rfl ?_
    refine aw_iload_n (pc := 131) (q := 1) dX8_compute_131 rfl ?_
    refine aw_iload (pc := 132) (q := 0) dX8_compute_132 rfl ?_
    refine aw_iand (pc := 134) dX8_compute_134 ?_
    refine aw_putI (pc := 135) fd_X8_99 h_o.1 rfl (fun _ => rfl) (fun _ => rfl) dX8_compute_135 ?_
    refine aw_nmS (fun s13 e_s13 => ?_)
    replace h := aw_lte h s13 e_s13
    refine aw_iconst (pc := 138) (v := 1) dX8_compute_138 (by decide) ?_
    cases h
    subst hE
    exact aw_iret (v := (1 : Int32)) rfl aw_n1 ⟨Nat.zero_le _, Nat.zero_le _⟩ dX8_compute_139
  · replace h := aw_ifn c12 h
    by_cases c14 : (s4.1 (p1 + 1) p2.toNatClampNeg) = (42 : Int32)
    · replace h := aw_ifp c14 h
      refine aw_lookup (tgt := 120) dX8_compute_49 (by decide) (by (try rw [c14]); (try rfl)) (by decide) ?_
      refine aw_aload_n (pc := 120) (q := 2) dX8_compute_120 rfl ?_
      refine aw_iload_n (pc := 121) (q := 1) dX8_compute_121 rfl ?_
      refine aw_iload (pc := 122) (q := 0) dX8_compute_122 rfl ?_
      refine aw_imul (pc := 124) dX8_compute_124 ?_
      refine aw_putI (pc := 125) fd_X8_99 h_o.1 rfl (fun _ => rfl) (fun _ => rfl) dX8_compute_125 ?_
      refine aw_nmS (fun s15 e_s15 => ?_)
      replace h := aw_lte h s15 e_s15
      refine aw_iconst (pc := 128) (v := 1) dX8_compute_128 (by decide) ?_
      cases h
      subst hE
      exact aw_iret (v := (1 : Int32)) rfl aw_n1 ⟨Nat.zero_le _, Nat.zero_le _⟩ dX8_compute_129
    · replace h := aw_ifn c14 h
      by_cases c16 : (s4.1 (p1 + 1) p2.toNatClampNeg) = (43 : Int32)
      · replace h := aw_ifp c16 h
        refine aw_lookup (tgt := 100) dX8_compute_49 (by decide) (by (try rw [c16]); (try rfl)) (by decide) ?_
        refine aw_aload_n (pc := 100) (q := 2) dX8_compute_100 rfl ?_
        refine aw_iload_n (pc := 101) (q := 1) dX8_compute_101 rfl ?_
        refine aw_iload (pc := 102) (q := 0) dX8_compute_102 rfl ?_
        refine aw_iadd (pc := 104) dX8_compute_104 ?_
        refine aw_putI (pc := 105) fd_X8_99 h_o.1 rfl (fun _ => rfl) (fun _ => rfl) dX8_compute_105 ?_
        refine aw_nmS (fun s17 e_s17 => ?_)
        replace h := aw_lte h s17 e_s17
        refine aw_iconst (pc := 108) (v := 1) dX8_compute_108 (by decide) ?_
        cases h
        subst hE
        exact aw_iret (v := (1 : Int32)) rfl aw_n1 ⟨Nat.zero_le _, Nat.zero_le _⟩ dX8_compute_109
      · replace h := aw_ifn c16 h
        by_cases c18 : (s4.1 (p1 + 1) p2.toNatClampNeg) = (45 : Int32)
        · replace h := aw_ifp c18 h
          refine aw_lookup (tgt := 110) dX8_compute_49 (by decide) (by (try rw [c18]); (try rfl)) (by decide) ?_
          refine aw_aload_n (pc := 110) (q := 2) dX8_compute_110 rfl ?_
          refine aw_iload_n (pc := 111) (q := 1) dX8_compute_111 rfl ?_
          refine aw_iload (pc := 112) (q := 0) dX8_compute_112 rfl ?_
          refine aw_isub (pc := 114) dX8_compute_114 ?_
          refine aw_putI (pc := 115) fd_X8_99 h_o.1 rfl (fun _ => rfl) (fun _ => rfl) dX8_compute_115 ?_
          refine aw_nmS (fun s19 e_s19 => ?_)
          replace h := aw_lte h s19 e_s19
          refine aw_iconst (pc := 118) (v := 1) dX8_compute_118 (by decide) ?_
          cases h
          subst hE
          exact aw_iret (v := (1 : Int32)) rfl aw_n1 ⟨Nat.zero_le _, Nat.zero_le _⟩ dX8_compute_119
        · replace h := aw_ifn c18 h
          by_cases c20 : (s4.1 (p1 + 1) p2.toNatClampNeg) = (60 : Int32)
          · replace h := aw_ifp c20 h
            refine aw_lookup (tgt := 140) dX8_compute_49 (by decide) (by (try rw [c20]); (try rfl)) (by decide) ?_
            refine aw_aload_n (pc := 140) (q := 2) dX8_compute_140 rfl ?_
            refine aw_iload_n (pc := 141) (q := 1) dX8_compute_141 rfl ?_
            refine aw_iload (pc := 142) (q := 0) dX8_compute_142 rfl ?_
            refine aw_icmp_ge (pc := 144) (tgt := 151) dX8_compute_144 (by decide) (fun c21 => ?_) (fun c21 => ?_)
            · replace h := aw_ifp c21 h
              refine aw_iconst (pc := 151) (v := 0) dX8_compute_151 (by decide) ?_
              refine aw_sub [] rfl ?_
              exact t_Ru_compute_J152 h_o h hE
            · replace h := aw_ifn c21 h
              refine aw_iconst (pc := 147) (v := 1) dX8_compute_147 (by decide) ?_
              refine aw_goto (pc := 148) (tgt := 152) dX8_compute_148 (by decide) ?_
              refine aw_sub [] rfl ?_
              exact t_Ru_compute_J152 h_o h hE
          · replace h := aw_ifn c20 h
            refine aw_lookup (pc := 49) (tgt := 160) (off := 111) dX8_compute_49 (by decide) (aw_lkout [(38, 81), (42, 71), (43, 51), (45, 61), (60, 91)] (fun k hk => by
              have hk : k = 38 ∨ k = 42 ∨ k = 43 ∨ k = 45 ∨ k = 60 := by simpa using hk
              rcases hk with rfl | rfl | rfl | rfl | rfl
              · exact fun e => c12 (Int32.toInt_inj.mp (e.trans (by decide)))
              · exact fun e => c14 (Int32.toInt_inj.mp (e.trans (by decide)))
              · exact fun e => c16 (Int32.toInt_inj.mp (e.trans (by decide)))
              · exact fun e => c18 (Int32.toInt_inj.mp (e.trans (by decide)))
              · exact fun e => c20 (Int32.toInt_inj.mp (e.trans (by decide))))) (by decide) ?_
            refine aw_aload_n (pc := 160) (q := 2) dX8_compute_160 rfl ?_
            refine aw_aload_n (pc := 161) (q := 3) dX8_compute_161 rfl ?_
            refine aw_getC (pc := 162) fd_X8_146 h_p1.1 rfl dX8_compute_162 ?_
            refine aw_iload_n (pc := 165) (q := 4) dX8_compute_165 rfl ?_
            obtain ⟨g25, h⟩ := aw_gde h
            refine aw_iald (pc := 166) h_p1.2.1 g25 dX8_compute_166 ?_
            refine aw_iload_n (pc := 167) (q := 1) dX8_compute_167 rfl ?_
            refine aw_iload (pc := 168) (q := 0) dX8_compute_168 rfl ?_
            obtain ⟨r26, s28, e27, h⟩ := aw_bd2e h
            refine aw_cV1 (pc := 170) [.int ((s4.1 (p1 + 1) p2.toNatClampNeg)), .int r6, .int r9] (c_Ru_divide h_o e27) yy_Ru_divide.1 wm_1122 yy_Ru_divide.2.1 yy_Ru_divide.2.2 h_o.1 ⟨_, _, rfl⟩ rfl ⟨Nat.le_of_ble_eq_true rfl, Nat.le_of_ble_eq_true rfl⟩ ⟨Nat.zero_le _, Nat.zero_le _⟩ (Nat.le_of_ble_eq_true rfl) dX8_compute_170 ?_
            obtain ⟨g29, h⟩ := aw_gde h
            cases h
            subst hE
            exact aw_iret (v := _) rfl (aw_nz g29) ⟨Nat.zero_le _, Nat.zero_le _⟩ dX8_compute_173
theorem c_Ru_compute {l : Launch} {G : aw_G} {σ : aw_S} {o : Nat} {p1 : Nat} {p2 : Int32} (h_o : isRu o) (h_p1 : isEx p1) {t : (Int32 × aw_S)} (h : m_Ru_compute σ o p1 p2 = some t) : aw_Ct l yX8_compute M_Ru_compute G B_Ru_compute [.ref o, .ref p1, .int p2] xA σ (some (.int t.1), xA, t.2) := aw_Ct_of (by decide) rfl (fun h => by cases h) (Nat.le_of_ble_eq_true rfl) (t_Ru_compute h_o h_p1 h rfl)
/-! LateMover$Run.putIn(LLateMover$Graph;LLateMover$Placement;)Z -/
def z_Ru_putIn_X13 (l : Launch) (G : aw_G) (E : aw_E) (v0 : Nat) (v3 : Int32) (s : Int32 × aw_S) : Prop := aw_W l M_Ru_putIn G B_Ru_putIn E 13 [(0, .ref v0), (1, .ref 24), (3, .int v3), (4, .int s.1)] [] xA s.2 0 0
def z_Ru_putIn_Y13 (l : Launch) (G : aw_G) (E : aw_E) (v0 : Nat) (v3 : Int32) (x : (((Int32 × aw_S)) ⊕ (aw_S))) : Prop := (Sum.elim (fun r0 => E = (some (.int r0.1), xA, r0.2)) (fun r1 => aw_W l M_Ru_putIn G B_Ru_putIn E 74 [] [] xA r1 0 0)) x
set_option maxRecDepth 100000 in
set_option maxHeartbeats 4000000 in
theorem t_Ru_putIn_J68 {l : Launch} {G : aw_G} {E : aw_E} {σ : aw_S} {v0 : Nat} {v3 : Int32} {v4 : Int32} (h_v0 : isRu v0) {t : (((Int32 × aw_S)) ⊕ (aw_S)) ⊕ (Int32 × aw_S)} (h : m_Ru_putIn_J68 σ v0 v3 v4 = some t) (hz : Sum.elim (z_Ru_putIn_Y13 l G E v0 v3) (z_Ru_putIn_X13 l G E v0 v3) t) : aw_W l M_Ru_putIn G B_Ru_putIn E 68 [(0, .ref v0), (1, .ref 24), (3, .int v3), (4, .int v4)] [] xA σ 0 0 := by
  unfold m_Ru_putIn_J68 at h
  obtain ⟨x8, e_x8⟩ : ∃ z, z = (v4 + (1 : Int32)) := ⟨_, rfl⟩
  replace h := aw_lte h x8 e_x8
  refine aw_iinc (pc := 68) (q := 3) (v := x8) [(4, .int x8), (0, .ref v0), (1, .ref 24), (3, .int v3)] dX8_putIn_68 rfl e_x8.symm (by decide) rfl ?_
  refine aw_goto (pc := 71) (tgt := 13) dX8_putIn_71 (by decide) ?_
  refine aw_sub [1, 2, 3, 0] rfl ?_
  cases h
  exact hz
set_option maxRecDepth 100000 in
set_option maxHeartbeats 4000000 in
theorem t_Ru_putIn_B13 {l : Launch} {G : aw_G} {E : aw_E} {σ : aw_S} {v0 : Nat} {v3 : Int32} {v4 : Int32} (h_v0 : isRu v0) {t : (((Int32 × aw_S)) ⊕ (aw_S)) ⊕ (Int32 × aw_S)} (h : m_Ru_putIn_B13 σ v0 v3 v4 = some t) (hz : Sum.elim (z_Ru_putIn_Y13 l G E v0 v3) (z_Ru_putIn_X13 l G E v0 v3) t) : aw_W l M_Ru_putIn G B_Ru_putIn E 13 [(0, .ref v0), (1, .ref 24), (3, .int v3), (4, .int v4)] [] xA σ 0 0 := by
  unfold m_Ru_putIn_B13 at h
  refine aw_iload (pc := 13) (q := 3) dX8_putIn_13 rfl ?_
  refine aw_aload_n (pc := 15) (q := 1) dX8_putIn_15 rfl ?_
  refine aw_getC (pc := 16) fd_X8_82 xA_24 rfl dX8_putIn_16 ?_
  refine aw_getI (pc := 19) fd_X8_86.r xA_25 rfl dX8_putIn_19 ?_
  refine aw_icmp_ge (pc := 22) (tgt := 74) dX8_putIn_22 (by decide) (fun c3 => ?_) (fun c3 => ?_)
  · replace h := aw_ifp c3 h
    refine aw_sub [] rfl ?_
    cases h
    exact hz
  · replace h := aw_ifn c3 h
    refine aw_iload_n (pc := 25) (q := 2) dX8_putIn_25 rfl ?_
    refine aw_iload (pc := 26) (q := 3) dX8_putIn_26 rfl ?_
    refine aw_iushr (pc := 28) dX8_putIn_28 ?_
    refine aw_if_eq (pc := 29) (tgt := 74) dX8_putIn_29 (by decide) (fun c4 => ?_) (fun c4 => ?_)
    · replace h := aw_ifp c4 h
      refine aw_sub [] rfl ?_
      cases h
      exact hz
    · replace h := aw_ifn c4 h
      refine aw_iload_n (pc := 32) (q := 2) dX8_putIn_32 rfl ?_
      refine aw_iload (pc := 33) (q := 3) dX8_putIn_33 rfl ?_
      obtain ⟨r5, e6, h⟩ := aw_bde h
      refine aw_cN1 (pc := 35) [.int v3, .int v4] (c_Mo_bitOf e6) yy_Mo_bitOf.1 nm_X8_91 yy_Mo_bitOf.2 rfl ⟨Nat.le_of_ble_eq_true rfl, Nat.le_of_ble_eq_true rfl⟩ ⟨Nat.zero_le _, Nat.zero_le _⟩ (Nat.le_of_ble_eq_true rfl) dX8_putIn_35 ?_
      refine aw_iconst (pc := 38) (v := 1) dX8_putIn_38 (by decide) ?_
      refine aw_icmp_ne (pc := 39) (tgt := 68) dX8_putIn_39 (by decide) (fun c7 => ?_) (fun c7 => ?_)
      · replace h := aw_ifn c7 h
        exact t_Ru_putIn_J68 h_v0 h hz
      · replace h := aw_ifp c7 h
        refine aw_aload_n (pc := 42) (q := 0) dX8_putIn_42 rfl ?_
        refine aw_aload_n (pc := 43) (q := 1) dX8_putIn_43 rfl ?_
        refine aw_getC (pc := 44) fd_X8_82 xA_24 rfl dX8_putIn_44 ?_
        refine aw_iload (pc := 47) (q := 3) dX8_putIn_47 rfl ?_
        obtain ⟨r9, s11, e10, h⟩ := aw_bd2e h
        refine aw_cV1 (pc := 49) [.ref 25, .int v4] (c_Ru_compute h_v0 isEx_25 e10) yy_Ru_compute.1 wm_1111 yy_Ru_compute.2.1 yy_Ru_compute.2.2 h_v0.1 ⟨_, _, rfl⟩ rfl ⟨Nat.le_of_ble_eq_true rfl, Nat.le_of_ble_eq_true rfl⟩ ⟨Nat.zero_le _, Nat.zero_le _⟩ (Nat.le_of_ble_eq_true rfl) dX8_putIn_49 ?_
        refine aw_if_ne (pc := 52) (tgt := 57) dX8_putIn_52 (by decide) (fun c12 => ?_) (fun c12 => ?_)
        · replace h := aw_ifn c12 h
          refine aw_aload_n (pc := 57) (q := 0) dX8_putIn_57 rfl ?_
          refine aw_getC (pc := 58) fd_X8_21.r h_v0.1 rfl dX8_putIn_58 ?_
          refine aw_iload (pc := 61) (q := 3) dX8_putIn_61 rfl ?_
          refine aw_aload_n (pc := 63) (q := 0) dX8_putIn_63 rfl ?_
          refine aw_getI (pc := 64) fd_X8_99.r h_v0.1 rfl dX8_putIn_64 ?_
          obtain ⟨g13, h⟩ := aw_gde h
          refine aw_iast (pc := 67) h_v0.2.2.2.2 g13 dX8_putIn_67 ?_
          refine aw_nmS (fun s14 e_s14 => ?_)
          replace h := aw_lte h s14 e_s14
          exact t_Ru_putIn_J68 h_v0 h hz
        · replace h := aw_ifp c12 h
          refine aw_iconst (pc := 55) (v := 0) dX8_putIn_55 (by decide) ?_
          cases h
          have hE : E = _ := hz
          subst hE
          exact aw_iret (v := (0 : Int32)) rfl aw_n0 ⟨Nat.zero_le _, Nat.zero_le _⟩ dX8_putIn_56
set_option maxRecDepth 100000 in
set_option maxHeartbeats 4000000 in
theorem t_Ru_putIn {l : Launch} {G : aw_G} {E : aw_E} {σ : aw_S} {o : Nat} {p2 : Nat} (h_o : isRu o) (h_p2 : isPl p2) {t : (Int32 × aw_S)} (h : m_Ru_putIn σ o p2 = some t) (hE : E = (some (.int t.1), xA, t.2)) : aw_W l M_Ru_putIn G B_Ru_putIn E 0 [(0, .ref o), (1, .ref 24), (2, .ref p2)] [] xA σ 0 0 := by
  unfold m_Ru_putIn at h
  refine aw_aload_n (pc := 0) (q := 2) dX8_putIn_0 rfl ?_
  refine aw_getC (pc := 1) fd_X8_77 h_p2.1 rfl dX8_putIn_1 ?_
  refine aw_aload_n (pc := 4) (q := 0) dX8_putIn_4 rfl ?_
  refine aw_getI (pc := 5) fd_X8_46.r h_o.1 rfl dX8_putIn_5 ?_
  obtain ⟨g1, h⟩ := aw_gde h
  refine aw_iald (pc := 8) h_p2.2.1 g1 dX8_putIn_8 ?_
  refine aw_nmI (fun x2 e_x2 => ?_)
  replace h := aw_lte h x2 e_x2
  refine aw_istore_n (pc := 9) [(3, .int x2), (0, .ref o), (1, .ref 24), (2, .ref p2)] dX8_putIn_9 (by decide) rfl ?_
  refine aw_iconst (pc := 10) (v := 0) dX8_putIn_10 (by decide) ?_
  refine aw_istore (pc := 11) [(4, .int ((0 : Int32))), (3, .int x2), (0, .ref o), (1, .ref 24), (2, .ref p2)] dX8_putIn_11 (by decide) rfl ?_
  obtain ⟨x15, hl16, h⟩ := aw_bde h
  have K17 : z_Ru_putIn_Y13 l G E o x2 x15 := by
    cases x15 with
    | inl y18 =>
      replace h := aw_eL h
      show E = _
      cases h
      exact hE
    | inr y19 =>
      replace h := aw_eR h
      show aw_W l M_Ru_putIn G B_Ru_putIn E 74 [] [] xA y19 0 0
      refine aw_iconst (pc := 74) (v := 1) dX8_putIn_74 (by decide) ?_
      cases h
      subst hE
      exact aw_iret (v := (1 : Int32)) rfl aw_n1 ⟨Nat.zero_le _, Nat.zero_le _⟩ dX8_putIn_75
  refine aw_sub [2, 3, 1, 0] rfl ?_
  show z_Ru_putIn_X13 l G E o x2 (((0 : Int32), σ))
  exact aw_lp_X (Xp := z_Ru_putIn_X13 l G E o x2) (Y := z_Ru_putIn_Y13 l G E o x2) hl16 K17 (fun s t hf hz => t_Ru_putIn_B13 h_o hf hz)
theorem c_Ru_putIn {l : Launch} {G : aw_G} {σ : aw_S} {o : Nat} {p2 : Nat} (h_o : isRu o) (h_p2 : isPl p2) {t : (Int32 × aw_S)} (h : m_Ru_putIn σ o p2 = some t) : aw_Ct l yX8_putIn M_Ru_putIn G B_Ru_putIn [.ref o, .ref 24, .ref p2] xA σ (some (.int t.1), xA, t.2) := aw_Ct_of (by decide) rfl (fun h => by cases h) (Nat.le_of_ble_eq_true rfl) (t_Ru_putIn h_o h_p2 h rfl)
/-! LateMover$Run.setLetter(II)V -/
set_option maxRecDepth 100000 in
set_option maxHeartbeats 4000000 in
theorem t_Ru_setLetter {l : Launch} {G : aw_G} {E : aw_E} {σ : aw_S} {o : Nat} {p1 : Int32} {p2 : Int32} (h_o : isRu o) {t : aw_S} (h : m_Ru_setLetter σ o p1 p2 = some t) (hE : E = (none, xA, t)) : aw_W l M_Ru_setLetter G B_Ru_setLetter E 0 [(0, .ref o), (1, .int p1), (2, .int p2)] [] xA σ 0 0 := by
  unfold m_Ru_setLetter at h
  refine aw_iload_n (pc := 0) (q := 1) dX8_setLetter_0 rfl ?_
  refine aw_if_lt (pc := 1) (tgt := 17) dX8_setLetter_1 (by decide) (fun c1 => ?_) (fun c1 => ?_)
  · replace h := aw_ifp c1 h
    cases h
    subst hE
    exact aw_vret rfl ⟨Nat.zero_le _, Nat.zero_le _⟩ dX8_setLetter_17
  · replace h := aw_ifn c1 h
    refine aw_iload_n (pc := 4) (q := 1) dX8_setLetter_4 rfl ?_
    refine aw_bipush (pc := 5) (v := 26) dX8_setLetter_5 (by decide) ?_
    refine aw_icmp_ge (pc := 7) (tgt := 17) dX8_setLetter_7 (by decide) (fun c2 => ?_) (fun c2 => ?_)
    · replace h := aw_ifp c2 h
      cases h
      subst hE
      exact aw_vret rfl ⟨Nat.zero_le _, Nat.zero_le _⟩ dX8_setLetter_17
    · replace h := aw_ifn c2 h
      refine aw_aload_n (pc := 10) (q := 0) dX8_setLetter_10 rfl ?_
      refine aw_getC (pc := 11) fd_X8_9.r h_o.1 rfl dX8_setLetter_11 ?_
      refine aw_iload_n (pc := 14) (q := 1) dX8_setLetter_14 rfl ?_
      refine aw_iload_n (pc := 15) (q := 2) dX8_setLetter_15 rfl ?_
      obtain ⟨g3, h⟩ := aw_gde h
      refine aw_iast (pc := 16) h_o.2.1 g3 dX8_setLetter_16 ?_
      refine aw_nmS (fun s4 e_s4 => ?_)
      replace h := aw_lte h s4 e_s4
      cases h
      subst hE
      exact aw_vret rfl ⟨Nat.zero_le _, Nat.zero_le _⟩ dX8_setLetter_17
theorem c_Ru_setLetter {l : Launch} {G : aw_G} {σ : aw_S} {o : Nat} {p1 : Int32} {p2 : Int32} (h_o : isRu o) {t : aw_S} (h : m_Ru_setLetter σ o p1 p2 = some t) : aw_Ct l yX8_setLetter M_Ru_setLetter G B_Ru_setLetter [.ref o, .int p1, .int p2] xA σ (none, xA, t) := aw_Ct_of (by decide) rfl (fun h => by cases h) (Nat.le_of_ble_eq_true rfl) (t_Ru_setLetter h_o h rfl)
/-! LateMover$Run.assign(LLateMover$Graph;LLateMover$Placement;)Z -/
set_option maxRecDepth 100000 in
set_option maxHeartbeats 4000000 in
theorem t_Ru_assign_J62 {l : Launch} {G : aw_G} {E : aw_E} {σ : aw_S} {v0 : Nat} (h_v0 : isRu v0) {t : (Int32 × aw_S)} (h : m_Ru_assign_J62 σ v0 = some t) (hE : E = (some (.int t.1), xA, t.2)) : aw_W l M_Ru_assign G B_Ru_assign E 62 [(0, .ref v0), (1, .ref 24)] [] xA σ 0 0 := by
  unfold m_Ru_assign_J62 at h
  refine aw_aload_n (pc := 62) (q := 0) dX8_assign_62 rfl ?_
  refine aw_aload_n (pc := 63) (q := 1) dX8_assign_63 rfl ?_
  refine aw_getC (pc := 64) fd_X8_105 xA_24 rfl dX8_assign_64 ?_
  refine aw_aload_n (pc := 67) (q := 0) dX8_assign_67 rfl ?_
  refine aw_getI (pc := 68) fd_X8_46.r h_v0.1 rfl dX8_assign_68 ?_
  obtain ⟨g12, h⟩ := aw_gde h
  refine aw_iald (pc := 71) xA_31 g12 dX8_assign_71 ?_
  refine aw_aload_n (pc := 72) (q := 0) dX8_assign_72 rfl ?_
  refine aw_getI (pc := 73) fd_X8_99.r h_v0.1 rfl dX8_assign_73 ?_
  obtain ⟨s15, e14, h⟩ := aw_bde h
  refine aw_cV0 (pc := 76) [.int ((σ.1 31 ((σ.1 v0 8)).toNatClampNeg)), .int ((σ.1 v0 9))] (c_Ru_setLetter h_v0 e14) yy_Ru_setLetter.1 wm_1133 yy_Ru_setLetter.2.1 yy_Ru_setLetter.2.2 h_v0.1 ⟨_, _, rfl⟩ rfl ⟨Nat.le_of_ble_eq_true rfl, Nat.le_of_ble_eq_true rfl⟩ ⟨Nat.zero_le _, Nat.zero_le _⟩ (Nat.le_of_ble_eq_true rfl) dX8_assign_76 ?_
  refine aw_iconst (pc := 79) (v := 1) dX8_assign_79 (by decide) ?_
  cases h
  subst hE
  exact aw_iret (v := (1 : Int32)) rfl aw_n1 ⟨Nat.zero_le _, Nat.zero_le _⟩ dX8_assign_80
set_option maxRecDepth 100000 in
set_option maxHeartbeats 4000000 in
theorem t_Ru_assign {l : Launch} {G : aw_G} {E : aw_E} {σ : aw_S} {o : Nat} {p2 : Nat} (h_o : isRu o) (h_p2 : isPl p2) {t : (Int32 × aw_S)} (h : m_Ru_assign σ o p2 = some t) (hE : E = (some (.int t.1), xA, t.2)) : aw_W l M_Ru_assign G B_Ru_assign E 0 [(0, .ref o), (1, .ref 24), (2, .ref p2)] [] xA σ 0 0 := by
  unfold m_Ru_assign at h
  refine aw_aload_n (pc := 0) (q := 1) dX8_assign_0 rfl ?_
  refine aw_getC (pc := 1) fd_X8_125 xA_24 rfl dX8_assign_1 ?_
  refine aw_aload_n (pc := 4) (q := 0) dX8_assign_4 rfl ?_
  refine aw_getI (pc := 5) fd_X8_46.r h_o.1 rfl dX8_assign_5 ?_
  obtain ⟨g1, h⟩ := aw_gde h
  refine aw_iald (pc := 8) xA_33 g1 dX8_assign_8 ?_
  refine aw_nmI (fun x2 e_x2 => ?_)
  replace h := aw_lte h x2 e_x2
  refine aw_istore_n (pc := 9) [(3, .int x2), (0, .ref o), (1, .ref 24), (2, .ref p2)] dX8_assign_9 (by decide) rfl ?_
  refine aw_aload_n (pc := 10) (q := 2) dX8_assign_10 rfl ?_
  refine aw_getC (pc := 11) fd_X8_82 xA_24 rfl dX8_assign_11 ?_
  refine aw_iload_n (pc := 14) (q := 0) dX8_assign_14 rfl ?_
  obtain ⟨r3, e4, h⟩ := aw_bde h
  refine aw_cV1 (pc := 15) [.int x2] (c_Ex_isOne isEx_25 e4) yy_Ex_isOne.1 wm_1143 yy_Ex_isOne.2.1 yy_Ex_isOne.2.2 xA_25 ⟨_, _, rfl⟩ rfl ⟨Nat.le_of_ble_eq_true rfl, Nat.le_of_ble_eq_true rfl⟩ ⟨Nat.zero_le _, Nat.zero_le _⟩ (Nat.le_of_ble_eq_true rfl) dX8_assign_15 ?_
  refine aw_if_ne (pc := 18) (tgt := 23) dX8_assign_18 (by decide) (fun c5 => ?_) (fun c5 => ?_)
  · replace h := aw_ifn c5 h
    refine aw_aload_n (pc := 23) (q := 3) dX8_assign_23 rfl ?_
    refine aw_getC (pc := 24) fd_X8_131 h_p2.1 rfl dX8_assign_24 ?_
    refine aw_aload_n (pc := 27) (q := 1) dX8_assign_27 rfl ?_
    refine aw_getI (pc := 28) fd_X8_46.r h_o.1 rfl dX8_assign_28 ?_
    obtain ⟨g6, h⟩ := aw_gde h
    refine aw_iald (pc := 31) h_p2.2.2.1 g6 dX8_assign_31 ?_
    refine aw_if_eq (pc := 32) (tgt := 48) dX8_assign_32 (by decide) (fun c7 => ?_) (fun c7 => ?_)
    · replace h := aw_ifp c7 h
      refine aw_aload_n (pc := 48) (q := 1) dX8_assign_48 rfl ?_
      refine aw_aload_n (pc := 49) (q := 2) dX8_assign_49 rfl ?_
      refine aw_getC (pc := 50) fd_X8_82 xA_24 rfl dX8_assign_50 ?_
      refine aw_iload_n (pc := 53) (q := 0) dX8_assign_53 rfl ?_
      obtain ⟨r8, s10, e9, h⟩ := aw_bd2e h
      refine aw_cV1 (pc := 54) [.ref 25, .int x2] (c_Ru_compute h_o isEx_25 e9) yy_Ru_compute.1 wm_1111 yy_Ru_compute.2.1 yy_Ru_compute.2.2 h_o.1 ⟨_, _, rfl⟩ rfl ⟨Nat.le_of_ble_eq_true rfl, Nat.le_of_ble_eq_true rfl⟩ ⟨Nat.zero_le _, Nat.zero_le _⟩ (Nat.le_of_ble_eq_true rfl) dX8_assign_54 ?_
      refine aw_if_ne (pc := 57) (tgt := 62) dX8_assign_57 (by decide) (fun c11 => ?_) (fun c11 => ?_)
      · replace h := aw_ifn c11 h
        refine aw_sub [1, 2] rfl ?_
        exact t_Ru_assign_J62 h_o h hE
      · replace h := aw_ifp c11 h
        refine aw_iconst (pc := 60) (v := 0) dX8_assign_60 (by decide) ?_
        cases h
        subst hE
        exact aw_iret (v := (0 : Int32)) rfl aw_n0 ⟨Nat.zero_le _, Nat.zero_le _⟩ dX8_assign_61
    · replace h := aw_ifn c7 h
      refine aw_aload_n (pc := 35) (q := 1) dX8_assign_35 rfl ?_
      refine aw_aload_n (pc := 36) (q := 1) dX8_assign_36 rfl ?_
      refine aw_getC (pc := 37) fd_X8_21.r h_o.1 rfl dX8_assign_37 ?_
      refine aw_iload_n (pc := 40) (q := 0) dX8_assign_40 rfl ?_
      obtain ⟨g16, h⟩ := aw_gde h
      refine aw_iald (pc := 41) h_o.2.2.2.2 g16 dX8_assign_41 ?_
      refine aw_putI (pc := 42) fd_X8_99 h_o.1 rfl (fun _ => rfl) (fun _ => rfl) dX8_assign_42 ?_
      refine aw_nmS (fun s17 e_s17 => ?_)
      replace h := aw_lte h s17 e_s17
      refine aw_goto (pc := 45) (tgt := 62) dX8_assign_45 (by decide) ?_
      refine aw_sub [1, 2] rfl ?_
      exact t_Ru_assign_J62 h_o h hE
  · replace h := aw_ifp c5 h
    refine aw_iconst (pc := 21) (v := 0) dX8_assign_21 (by decide) ?_
    cases h
    subst hE
    exact aw_iret (v := (0 : Int32)) rfl aw_n0 ⟨Nat.zero_le _, Nat.zero_le _⟩ dX8_assign_22
theorem c_Ru_assign {l : Launch} {G : aw_G} {σ : aw_S} {o : Nat} {p2 : Nat} (h_o : isRu o) (h_p2 : isPl p2) {t : (Int32 × aw_S)} (h : m_Ru_assign σ o p2 = some t) : aw_Ct l yX8_assign M_Ru_assign G B_Ru_assign [.ref o, .ref 24, .ref p2] xA σ (some (.int t.1), xA, t.2) := aw_Ct_of (by decide) rfl (fun h => by cases h) (Nat.le_of_ble_eq_true rfl) (t_Ru_assign h_o h_p2 h rfl)
/-! LateMover$Run.writeOut(I)V -/
set_option maxRecDepth 100000 in
set_option maxHeartbeats 4000000 in
theorem t_Ru_writeOut_J19 {l : Launch} {G : aw_G} {E : aw_E} {σ : aw_S} {v0 : Nat} (h_v0 : isRu v0) {t : aw_S} (h : m_Ru_writeOut_J19 σ v0 = some t) (hE : E = (none, xA, t)) : aw_W l M_Ru_writeOut G B_Ru_writeOut E 19 [(0, .ref v0)] [] xA σ 0 0 := by
  unfold m_Ru_writeOut_J19 at h
  refine aw_aload_n (pc := 19) (q := 0) dX8_writeOut_19 rfl ?_
  refine aw_dup (pc := 20) dX8_writeOut_20 rfl ?_
  refine aw_getI (pc := 21) fd_X8_43.r h_v0.1 rfl dX8_writeOut_21 ?_
  refine aw_iconst (pc := 24) (v := 1) dX8_writeOut_24 (by decide) ?_
  refine aw_iadd (pc := 25) dX8_writeOut_25 ?_
  refine aw_putI (pc := 26) fd_X8_43 h_v0.1 rfl (fun _ => rfl) (fun _ => rfl) dX8_writeOut_26 ?_
  refine aw_nmS (fun s2 e_s2 => ?_)
  replace h := aw_lte h s2 e_s2
  cases h
  subst hE
  exact aw_vret rfl ⟨Nat.zero_le _, Nat.zero_le _⟩ dX8_writeOut_29
set_option maxRecDepth 100000 in
set_option maxHeartbeats 4000000 in
theorem t_Ru_writeOut {l : Launch} {G : aw_G} {E : aw_E} {σ : aw_S} {o : Nat} {p1 : Int32} (h_o : isRu o) {t : aw_S} (h : m_Ru_writeOut σ o p1 = some t) (hE : E = (none, xA, t)) : aw_W l M_Ru_writeOut G B_Ru_writeOut E 0 [(0, .ref o), (1, .int p1)] [] xA σ 0 0 := by
  unfold m_Ru_writeOut at h
  refine aw_aload_n (pc := 0) (q := 0) dX8_writeOut_0 rfl ?_
  refine aw_getI (pc := 1) fd_X8_43.r h_o.1 rfl dX8_writeOut_1 ?_
  refine aw_bipush (pc := 4) (v := 40) dX8_writeOut_4 (by decide) ?_
  refine aw_icmp_ge (pc := 6) (tgt := 19) dX8_writeOut_6 (by decide) (fun c1 => ?_) (fun c1 => ?_)
  · replace h := aw_ifp c1 h
    refine aw_sub [0] rfl ?_
    exact t_Ru_writeOut_J19 h_o h hE
  · replace h := aw_ifn c1 h
    refine aw_aload_n (pc := 9) (q := 0) dX8_writeOut_9 rfl ?_
    refine aw_getC (pc := 10) fd_X8_15.r h_o.1 rfl dX8_writeOut_10 ?_
    refine aw_aload_n (pc := 13) (q := 0) dX8_writeOut_13 rfl ?_
    refine aw_getI (pc := 14) fd_X8_43.r h_o.1 rfl dX8_writeOut_14 ?_
    refine aw_iload_n (pc := 17) (q := 1) dX8_writeOut_17 rfl ?_
    obtain ⟨g3, h⟩ := aw_gde h
    refine aw_iast (pc := 18) h_o.2.2.1 g3 dX8_writeOut_18 ?_
    refine aw_nmS (fun s4 e_s4 => ?_)
    replace h := aw_lte h s4 e_s4
    refine aw_sub [0] rfl ?_
    exact t_Ru_writeOut_J19 h_o h hE
theorem c_Ru_writeOut {l : Launch} {G : aw_G} {σ : aw_S} {o : Nat} {p1 : Int32} (h_o : isRu o) {t : aw_S} (h : m_Ru_writeOut σ o p1 = some t) : aw_Ct l yX8_writeOut M_Ru_writeOut G B_Ru_writeOut [.ref o, .int p1] xA σ (none, xA, t) := aw_Ct_of (by decide) rfl (fun h => by cases h) (Nat.le_of_ble_eq_true rfl) (t_Ru_writeOut h_o h rfl)
/-! LateMover$Run.doNode(LLateMover$Graph;LLateMover$Placement;)Z -/
set_option maxRecDepth 100000 in
set_option maxHeartbeats 4000000 in
theorem t_Ru_doNode {l : Launch} {G : aw_G} {E : aw_E} {σ : aw_S} {o : Nat} {p2 : Nat} (h_o : isRu o) (h_p2 : isPl p2) {t : (Int32 × aw_S)} (h : m_Ru_doNode σ o p2 = some t) (hE : E = (some (.int t.1), xA, t.2)) : aw_W l M_Ru_doNode G B_Ru_doNode E 0 [(0, .ref o), (1, .ref 24), (2, .ref p2)] [] xA σ 0 0 := by
  unfold m_Ru_doNode at h
  refine aw_aload_n (pc := 0) (q := 1) dX8_doNode_0 rfl ?_
  refine aw_getC (pc := 1) fd_X8_102 xA_24 rfl dX8_doNode_1 ?_
  refine aw_aload_n (pc := 4) (q := 0) dX8_doNode_4 rfl ?_
  refine aw_getI (pc := 5) fd_X8_46.r h_o.1 rfl dX8_doNode_5 ?_
  obtain ⟨g1, h⟩ := aw_gde h
  refine aw_iald (pc := 8) xA_29 g1 dX8_doNode_8 ?_
  by_cases c2 : (σ.1 29 ((σ.1 o 8)).toNatClampNeg) = (1 : Int32)
  · replace h := aw_ifp c2 h
    refine aw_tableIn (pc := 9) (tgt := 36) dX8_doNode_9 0 (by rw [c2]; decide) (by decide) rfl (by decide) ?_
    refine aw_aload_n (pc := 36) (q := 0) dX8_doNode_36 rfl ?_
    refine aw_aload_n (pc := 37) (q := 1) dX8_doNode_37 rfl ?_
    refine aw_getC (pc := 38) fd_X8_105 xA_24 rfl dX8_doNode_38 ?_
    refine aw_aload_n (pc := 41) (q := 0) dX8_doNode_41 rfl ?_
    refine aw_getI (pc := 42) fd_X8_46.r h_o.1 rfl dX8_doNode_42 ?_
    obtain ⟨g3, h⟩ := aw_gde h
    refine aw_iald (pc := 45) xA_31 g3 dX8_doNode_45 ?_
    refine aw_aload_n (pc := 46) (q := 0) dX8_doNode_46 rfl ?_
    refine aw_aload_n (pc := 47) (q := 1) dX8_doNode_47 rfl ?_
    refine aw_getC (pc := 48) fd_X8_108 xA_24 rfl dX8_doNode_48 ?_
    refine aw_aload_n (pc := 51) (q := 0) dX8_doNode_51 rfl ?_
    refine aw_getI (pc := 52) fd_X8_46.r h_o.1 rfl dX8_doNode_52 ?_
    obtain ⟨g4, h⟩ := aw_gde h
    refine aw_iald (pc := 55) xA_32 g4 dX8_doNode_55 ?_
    obtain ⟨r5, e6, h⟩ := aw_bde h
    refine aw_cV1 (pc := 56) [.int ((σ.1 32 ((σ.1 o 8)).toNatClampNeg))] (c_Ru_valueOf h_o e6) yy_Ru_valueOf.1 wm_1118 yy_Ru_valueOf.2.1 yy_Ru_valueOf.2.2 h_o.1 ⟨_, _, rfl⟩ rfl ⟨Nat.le_of_ble_eq_true rfl, Nat.le_of_ble_eq_true rfl⟩ ⟨Nat.zero_le _, Nat.zero_le _⟩ (Nat.le_of_ble_eq_true rfl) dX8_doNode_56 ?_
    obtain ⟨s9, e8, h⟩ := aw_bde h
    refine aw_cV0 (pc := 59) [.int ((σ.1 31 ((σ.1 o 8)).toNatClampNeg)), .int r5] (c_Ru_setLetter h_o e8) yy_Ru_setLetter.1 wm_1133 yy_Ru_setLetter.2.1 yy_Ru_setLetter.2.2 h_o.1 ⟨_, _, rfl⟩ rfl ⟨Nat.le_of_ble_eq_true rfl, Nat.le_of_ble_eq_true rfl⟩ ⟨Nat.zero_le _, Nat.zero_le _⟩ (Nat.le_of_ble_eq_true rfl) dX8_doNode_59 ?_
    refine aw_iconst (pc := 62) (v := 1) dX8_doNode_62 (by decide) ?_
    cases h
    subst hE
    exact aw_iret (v := (1 : Int32)) rfl aw_n1 ⟨Nat.zero_le _, Nat.zero_le _⟩ dX8_doNode_63
  · replace h := aw_ifn c2 h
    by_cases c10 : (σ.1 29 ((σ.1 o 8)).toNatClampNeg) = (2 : Int32)
    · replace h := aw_ifp c10 h
      refine aw_tableIn (pc := 9) (tgt := 64) dX8_doNode_9 1 (by rw [c10]; decide) (by decide) rfl (by decide) ?_
      refine aw_aload_n (pc := 64) (q := 0) dX8_doNode_64 rfl ?_
      refine aw_aload_n (pc := 65) (q := 1) dX8_doNode_65 rfl ?_
      refine aw_aload_n (pc := 66) (q := 2) dX8_doNode_66 rfl ?_
      obtain ⟨r11, s13, e12, h⟩ := aw_bd2e h
      refine aw_cV1 (pc := 67) [.ref 24, .ref p2] (c_Ru_assign h_o h_p2 e12) yy_Ru_assign.1 wm_1137 yy_Ru_assign.2.1 yy_Ru_assign.2.2 h_o.1 ⟨_, _, rfl⟩ rfl ⟨Nat.le_of_ble_eq_true rfl, Nat.le_of_ble_eq_true rfl⟩ ⟨Nat.zero_le _, Nat.zero_le _⟩ (Nat.le_of_ble_eq_true rfl) dX8_doNode_67 ?_
      obtain ⟨g14, h⟩ := aw_gde h
      cases h
      subst hE
      exact aw_iret (v := _) rfl (aw_nz g14) ⟨Nat.zero_le _, Nat.zero_le _⟩ dX8_doNode_70
    · replace h := aw_ifn c10 h
      by_cases c15 : (σ.1 29 ((σ.1 o 8)).toNatClampNeg) = (3 : Int32)
      · replace h := aw_ifp c15 h
        refine aw_tableIn (pc := 9) (tgt := 71) dX8_doNode_9 2 (by rw [c15]; decide) (by decide) rfl (by decide) ?_
        refine aw_aload_n (pc := 71) (q := 0) dX8_doNode_71 rfl ?_
        refine aw_aload_n (pc := 72) (q := 0) dX8_doNode_72 rfl ?_
        refine aw_aload_n (pc := 73) (q := 1) dX8_doNode_73 rfl ?_
        refine aw_getC (pc := 74) fd_X8_108 xA_24 rfl dX8_doNode_74 ?_
        refine aw_aload_n (pc := 77) (q := 0) dX8_doNode_77 rfl ?_
        refine aw_getI (pc := 78) fd_X8_46.r h_o.1 rfl dX8_doNode_78 ?_
        obtain ⟨g16, h⟩ := aw_gde h
        refine aw_iald (pc := 81) xA_32 g16 dX8_doNode_81 ?_
        obtain ⟨r17, e18, h⟩ := aw_bde h
        refine aw_cV1 (pc := 82) [.int ((σ.1 32 ((σ.1 o 8)).toNatClampNeg))] (c_Ru_valueOf h_o e18) yy_Ru_valueOf.1 wm_1118 yy_Ru_valueOf.2.1 yy_Ru_valueOf.2.2 h_o.1 ⟨_, _, rfl⟩ rfl ⟨Nat.le_of_ble_eq_true rfl, Nat.le_of_ble_eq_true rfl⟩ ⟨Nat.zero_le _, Nat.zero_le _⟩ (Nat.le_of_ble_eq_true rfl) dX8_doNode_82 ?_
        obtain ⟨s21, e20, h⟩ := aw_bde h
        refine aw_cV0 (pc := 85) [.int r17] (c_Ru_writeOut h_o e20) yy_Ru_writeOut.1 wm_1144 yy_Ru_writeOut.2.1 yy_Ru_writeOut.2.2 h_o.1 ⟨_, _, rfl⟩ rfl ⟨Nat.le_of_ble_eq_true rfl, Nat.le_of_ble_eq_true rfl⟩ ⟨Nat.zero_le _, Nat.zero_le _⟩ (Nat.le_of_ble_eq_true rfl) dX8_doNode_85 ?_
        refine aw_iconst (pc := 88) (v := 1) dX8_doNode_88 (by decide) ?_
        cases h
        subst hE
        exact aw_iret (v := (1 : Int32)) rfl aw_n1 ⟨Nat.zero_le _, Nat.zero_le _⟩ dX8_doNode_89
      · replace h := aw_ifn c15 h
        refine aw_tableOut (pc := 9) (tgt := 90) dX8_doNode_9 (aw_tout 1 3 (fun k h1 h2 => by
          have hk : k = 1 ∨ k = 2 ∨ k = 3 := by omega
          rcases hk with rfl | rfl | rfl
          · exact fun e => c2 (e.trans (by decide))
          · exact fun e => c10 (e.trans (by decide))
          · exact fun e => c15 (e.trans (by decide)))) (by decide) ?_
        refine aw_iconst (pc := 90) (v := 1) dX8_doNode_90 (by decide) ?_
        cases h
        subst hE
        exact aw_iret (v := (1 : Int32)) rfl aw_n1 ⟨Nat.zero_le _, Nat.zero_le _⟩ dX8_doNode_91
theorem c_Ru_doNode {l : Launch} {G : aw_G} {σ : aw_S} {o : Nat} {p2 : Nat} (h_o : isRu o) (h_p2 : isPl p2) {t : (Int32 × aw_S)} (h : m_Ru_doNode σ o p2 = some t) : aw_Ct l yX8_doNode M_Ru_doNode G B_Ru_doNode [.ref o, .ref 24, .ref p2] xA σ (some (.int t.1), xA, t.2) := aw_Ct_of (by decide) rfl (fun h => by cases h) (Nat.le_of_ble_eq_true rfl) (t_Ru_doNode h_o h_p2 h rfl)
/-! LateMover$Run.nextNode(LLateMover$Graph;)I -/
set_option maxRecDepth 100000 in
set_option maxHeartbeats 4000000 in
theorem t_Ru_nextNode_J39 {l : Launch} {G : aw_G} {E : aw_E} {σ : aw_S} {v0 : Nat} (h_v0 : isRu v0) {t : Int32} (h : m_Ru_nextNode_J39 σ v0 = some t) (hE : E = (some (.int t), xA, σ)) : aw_W l M_Ru_nextNode G B_Ru_nextNode E 39 [(0, .ref v0), (1, .ref 24)] [] xA σ 0 0 := by
  unfold m_Ru_nextNode_J39 at h
  refine aw_aload_n (pc := 39) (q := 1) dX8_nextNode_39 rfl ?_
  refine aw_getC (pc := 40) fd_X8_137 xA_24 rfl dX8_nextNode_40 ?_
  refine aw_aload_n (pc := 43) (q := 0) dX8_nextNode_43 rfl ?_
  refine aw_getI (pc := 44) fd_X8_46.r h_v0.1 rfl dX8_nextNode_44 ?_
  obtain ⟨g4, h⟩ := aw_gde h
  refine aw_iald (pc := 47) xA_36 g4 dX8_nextNode_47 ?_
  refine aw_goto (pc := 48) (tgt := 60) dX8_nextNode_48 (by decide) ?_
  cases h
  subst hE
  exact aw_iret (v := (σ.1 36 ((σ.1 v0 8)).toNatClampNeg)) rfl aw_ni ⟨Nat.zero_le _, Nat.zero_le _⟩ dX8_nextNode_60
set_option maxRecDepth 100000 in
set_option maxHeartbeats 4000000 in
theorem t_Ru_nextNode_J18 {l : Launch} {G : aw_G} {E : aw_E} {σ : aw_S} {v0 : Nat} {k0 : Int32} (h_v0 : isRu v0) {t : Int32} (h : m_Ru_nextNode_J18 σ v0 k0 = some t) (hE : E = (some (.int t), xA, σ)) : aw_W l M_Ru_nextNode G B_Ru_nextNode E 18 [(0, .ref v0), (1, .ref 24)] [.int k0] xA σ 0 0 := by
  unfold m_Ru_nextNode_J18 at h
  refine aw_istore_n (pc := 18) [(2, .int k0), (0, .ref v0), (1, .ref 24)] dX8_nextNode_18 (by decide) rfl ?_
  refine aw_iload_n (pc := 19) (q := 0) dX8_nextNode_19 rfl ?_
  refine aw_if_ne (pc := 20) (tgt := 39) dX8_nextNode_20 (by decide) (fun c3 => ?_) (fun c3 => ?_)
  · replace h := aw_ifn c3 h
    refine aw_sub [1, 2] rfl ?_
    exact t_Ru_nextNode_J39 h_v0 h hE
  · replace h := aw_ifp c3 h
    refine aw_aload_n (pc := 23) (q := 1) dX8_nextNode_23 rfl ?_
    refine aw_aload_n (pc := 24) (q := 2) dX8_nextNode_24 rfl ?_
    refine aw_getC (pc := 25) fd_X8_105 xA_24 rfl dX8_nextNode_25 ?_
    refine aw_aload_n (pc := 28) (q := 1) dX8_nextNode_28 rfl ?_
    refine aw_getI (pc := 29) fd_X8_46.r h_v0.1 rfl dX8_nextNode_29 ?_
    obtain ⟨g5, h⟩ := aw_gde h
    refine aw_iald (pc := 32) xA_31 g5 dX8_nextNode_32 ?_
    obtain ⟨r6, e7, h⟩ := aw_bde h
    refine aw_cV1 (pc := 33) [.int ((σ.1 31 ((σ.1 v0 8)).toNatClampNeg))] (c_Ru_valueOf h_v0 e7) yy_Ru_valueOf.1 wm_1118 yy_Ru_valueOf.2.1 yy_Ru_valueOf.2.2 h_v0.1 ⟨_, _, rfl⟩ rfl ⟨Nat.le_of_ble_eq_true rfl, Nat.le_of_ble_eq_true rfl⟩ ⟨Nat.zero_le _, Nat.zero_le _⟩ (Nat.le_of_ble_eq_true rfl) dX8_nextNode_33 ?_
    refine aw_if_eq (pc := 36) (tgt := 51) dX8_nextNode_36 (by decide) (fun c8 => ?_) (fun c8 => ?_)
    · replace h := aw_ifp c8 h
      refine aw_aload_n (pc := 51) (q := 2) dX8_nextNode_51 rfl ?_
      refine aw_getC (pc := 52) fd_X8_134 xA_24 rfl dX8_nextNode_52 ?_
      refine aw_aload_n (pc := 55) (q := 1) dX8_nextNode_55 rfl ?_
      refine aw_getI (pc := 56) fd_X8_46.r h_v0.1 rfl dX8_nextNode_56 ?_
      obtain ⟨g9, h⟩ := aw_gde h
      refine aw_iald (pc := 59) xA_37 g9 dX8_nextNode_59 ?_
      cases h
      subst hE
      exact aw_iret (v := (σ.1 37 ((σ.1 v0 8)).toNatClampNeg)) rfl aw_ni ⟨Nat.zero_le _, Nat.zero_le _⟩ dX8_nextNode_60
    · replace h := aw_ifn c8 h
      refine aw_sub [1, 2] rfl ?_
      exact t_Ru_nextNode_J39 h_v0 h hE
set_option maxRecDepth 100000 in
set_option maxHeartbeats 4000000 in
theorem t_Ru_nextNode {l : Launch} {G : aw_G} {E : aw_E} {σ : aw_S} {o : Nat} (h_o : isRu o) {t : Int32} (h : m_Ru_nextNode σ o = some t) (hE : E = (some (.int t), xA, σ)) : aw_W l M_Ru_nextNode G B_Ru_nextNode E 0 [(0, .ref o), (1, .ref 24)] [] xA σ 0 0 := by
  unfold m_Ru_nextNode at h
  refine aw_aload_n (pc := 0) (q := 1) dX8_nextNode_0 rfl ?_
  refine aw_getC (pc := 1) fd_X8_134 xA_24 rfl dX8_nextNode_1 ?_
  refine aw_aload_n (pc := 4) (q := 0) dX8_nextNode_4 rfl ?_
  refine aw_getI (pc := 5) fd_X8_46.r h_o.1 rfl dX8_nextNode_5 ?_
  obtain ⟨g1, h⟩ := aw_gde h
  refine aw_iald (pc := 8) xA_37 g1 dX8_nextNode_8 ?_
  refine aw_iconst (pc := 9) (v := -1) dX8_nextNode_9 (by decide) ?_
  refine aw_icmp_ne (pc := 10) (tgt := 17) dX8_nextNode_10 (by decide) (fun c2 => ?_) (fun c2 => ?_)
  · replace h := aw_ifn c2 h
    refine aw_iconst (pc := 17) (v := 0) dX8_nextNode_17 (by decide) ?_
    exact t_Ru_nextNode_J18 h_o h hE
  · replace h := aw_ifp c2 h
    refine aw_iconst (pc := 13) (v := 1) dX8_nextNode_13 (by decide) ?_
    refine aw_goto (pc := 14) (tgt := 18) dX8_nextNode_14 (by decide) ?_
    exact t_Ru_nextNode_J18 h_o h hE
theorem c_Ru_nextNode {l : Launch} {G : aw_G} {σ : aw_S} {o : Nat} (h_o : isRu o) {t : Int32} (h : m_Ru_nextNode σ o = some t) : aw_Ct l yX8_nextNode M_Ru_nextNode G B_Ru_nextNode [.ref o, .ref 24] xA σ (some (.int t), xA, σ) := aw_Ct_of (by decide) rfl (fun h => by cases h) (Nat.le_of_ble_eq_true rfl) (t_Ru_nextNode h_o h rfl)
/-! LateMover$Run.step(LLateMover$Graph;LLateMover$Placement;)V -/
set_option maxRecDepth 100000 in
set_option maxHeartbeats 4000000 in
theorem t_Ru_step_J28 {l : Launch} {G : aw_G} {E : aw_E} {σ : aw_S} {v0 : Nat} (h_v0 : isRu v0) {t : aw_S} (h : m_Ru_step_J28 σ v0 = some t) (hE : E = (none, xA, t)) : aw_W l M_Ru_step G B_Ru_step E 28 [(0, .ref v0)] [] xA σ 0 0 := by
  unfold m_Ru_step_J28 at h
  refine aw_aload_n (pc := 28) (q := 0) dX8_step_28 rfl ?_
  refine aw_iconst (pc := 29) (v := 2) dX8_step_29 (by decide) ?_
  refine aw_putI (pc := 30) fd_X8_49 h_v0.1 rfl (fun _ => rfl) (fun _ => rfl) dX8_step_30 ?_
  refine aw_nmS (fun s6 e_s6 => ?_)
  replace h := aw_lte h s6 e_s6
  refine aw_goto (pc := 33) (tgt := 64) dX8_step_33 (by decide) ?_
  cases h
  subst hE
  exact aw_vret rfl ⟨Nat.zero_le _, Nat.zero_le _⟩ dX8_step_64
set_option maxRecDepth 100000 in
set_option maxHeartbeats 4000000 in
theorem t_Ru_step {l : Launch} {G : aw_G} {E : aw_E} {σ : aw_S} {o : Nat} {p2 : Nat} (h_o : isRu o) (h_p2 : isPl p2) {t : aw_S} (h : m_Ru_step σ o p2 = some t) (hE : E = (none, xA, t)) : aw_W l M_Ru_step G B_Ru_step E 0 [(0, .ref o), (1, .ref 24), (2, .ref p2)] [] xA σ 0 0 := by
  unfold m_Ru_step at h
  refine aw_aload_n (pc := 0) (q := 0) dX8_step_0 rfl ?_
  refine aw_dup (pc := 1) dX8_step_1 rfl ?_
  refine aw_getI (pc := 2) fd_X8_36.r h_o.1 rfl dX8_step_2 ?_
  refine aw_iconst (pc := 5) (v := 1) dX8_step_5 (by decide) ?_
  refine aw_iadd (pc := 6) dX8_step_6 ?_
  refine aw_putI (pc := 7) fd_X8_36 h_o.1 rfl (fun _ => rfl) (fun _ => rfl) dX8_step_7 ?_
  refine aw_nmS (fun s1 e_s1 => ?_)
  replace h := aw_lte h s1 e_s1
  refine aw_aload_n (pc := 10) (q := 0) dX8_step_10 rfl ?_
  refine aw_aload_n (pc := 11) (q := 1) dX8_step_11 rfl ?_
  refine aw_aload_n (pc := 12) (q := 2) dX8_step_12 rfl ?_
  obtain ⟨r2, s4, e3, h⟩ := aw_bd2e h
  refine aw_cV1 (pc := 13) [.ref 24, .ref p2] (c_Ru_putIn h_o h_p2 e3) yy_Ru_putIn.1 wm_1103 yy_Ru_putIn.2.1 yy_Ru_putIn.2.2 h_o.1 ⟨_, _, rfl⟩ rfl ⟨Nat.le_of_ble_eq_true rfl, Nat.le_of_ble_eq_true rfl⟩ ⟨Nat.zero_le _, Nat.zero_le _⟩ (Nat.le_of_ble_eq_true rfl) dX8_step_13 ?_
  refine aw_if_eq (pc := 16) (tgt := 28) dX8_step_16 (by decide) (fun c5 => ?_) (fun c5 => ?_)
  · replace h := aw_ifp c5 h
    refine aw_sub [0] rfl ?_
    exact t_Ru_step_J28 h_o h hE
  · replace h := aw_ifn c5 h
    refine aw_aload_n (pc := 19) (q := 0) dX8_step_19 rfl ?_
    refine aw_aload_n (pc := 20) (q := 1) dX8_step_20 rfl ?_
    refine aw_aload_n (pc := 21) (q := 2) dX8_step_21 rfl ?_
    obtain ⟨r7, s9, e8, h⟩ := aw_bd2e h
    refine aw_cV1 (pc := 22) [.ref 24, .ref p2] (c_Ru_doNode h_o h_p2 e8) yy_Ru_doNode.1 wm_1126 yy_Ru_doNode.2.1 yy_Ru_doNode.2.2 h_o.1 ⟨_, _, rfl⟩ rfl ⟨Nat.le_of_ble_eq_true rfl, Nat.le_of_ble_eq_true rfl⟩ ⟨Nat.zero_le _, Nat.zero_le _⟩ (Nat.le_of_ble_eq_true rfl) dX8_step_22 ?_
    refine aw_if_ne (pc := 25) (tgt := 36) dX8_step_25 (by decide) (fun c10 => ?_) (fun c10 => ?_)
    · replace h := aw_ifn c10 h
      refine aw_aload_n (pc := 36) (q := 1) dX8_step_36 rfl ?_
      refine aw_aload_n (pc := 37) (q := 0) dX8_step_37 rfl ?_
      refine aw_getI (pc := 38) fd_X8_46.r h_o.1 rfl dX8_step_38 ?_
      obtain ⟨r11, e12, h⟩ := aw_bde h
      refine aw_cV1 (pc := 41) [.int ((s9.1 o 8))] (c_Gr_edgesFrom e12) yy_Gr_edgesFrom.1 wm_1148 yy_Gr_edgesFrom.2.1 yy_Gr_edgesFrom.2.2 xA_24 ⟨_, _, rfl⟩ rfl ⟨Nat.le_of_ble_eq_true rfl, Nat.le_of_ble_eq_true rfl⟩ ⟨Nat.zero_le _, Nat.zero_le _⟩ (Nat.le_of_ble_eq_true rfl) dX8_step_41 ?_
      refine aw_if_ne (pc := 44) (tgt := 55) dX8_step_44 (by decide) (fun c13 => ?_) (fun c13 => ?_)
      · replace h := aw_ifn c13 h
        refine aw_aload_n (pc := 55) (q := 0) dX8_step_55 rfl ?_
        refine aw_aload_n (pc := 56) (q := 0) dX8_step_56 rfl ?_
        refine aw_aload_n (pc := 57) (q := 1) dX8_step_57 rfl ?_
        obtain ⟨r14, e15, h⟩ := aw_bde h
        refine aw_cV1 (pc := 58) [.ref 24] (c_Ru_nextNode h_o e15) yy_Ru_nextNode.1 wm_1149 yy_Ru_nextNode.2.1 yy_Ru_nextNode.2.2 h_o.1 ⟨_, _, rfl⟩ rfl ⟨Nat.le_of_ble_eq_true rfl, Nat.le_of_ble_eq_true rfl⟩ ⟨Nat.zero_le _, Nat.zero_le _⟩ (Nat.le_of_ble_eq_true rfl) dX8_step_58 ?_
        refine aw_putI (pc := 61) fd_X8_46 h_o.1 rfl (fun _ => rfl) (fun _ => rfl) dX8_step_61 ?_
        refine aw_nmS (fun s16 e_s16 => ?_)
        replace h := aw_lte h s16 e_s16
        cases h
        subst hE
        exact aw_vret rfl ⟨Nat.zero_le _, Nat.zero_le _⟩ dX8_step_64
      · replace h := aw_ifp c13 h
        refine aw_aload_n (pc := 47) (q := 0) dX8_step_47 rfl ?_
        refine aw_iconst (pc := 48) (v := 0) dX8_step_48 (by decide) ?_
        refine aw_putI (pc := 49) fd_X8_49 h_o.1 rfl (fun _ => rfl) (fun _ => rfl) dX8_step_49 ?_
        refine aw_nmS (fun s17 e_s17 => ?_)
        replace h := aw_lte h s17 e_s17
        refine aw_goto (pc := 52) (tgt := 64) dX8_step_52 (by decide) ?_
        cases h
        subst hE
        exact aw_vret rfl ⟨Nat.zero_le _, Nat.zero_le _⟩ dX8_step_64
    · replace h := aw_ifp c10 h
      refine aw_sub [0] rfl ?_
      exact t_Ru_step_J28 h_o h hE
theorem c_Ru_step {l : Launch} {G : aw_G} {σ : aw_S} {o : Nat} {p2 : Nat} (h_o : isRu o) (h_p2 : isPl p2) {t : aw_S} (h : m_Ru_step σ o p2 = some t) : aw_Ct l yX8_step M_Ru_step G B_Ru_step [.ref o, .ref 24, .ref p2] xA σ (none, xA, t) := aw_Ct_of (by decide) rfl (fun h => by cases h) (Nat.le_of_ble_eq_true rfl) (t_Ru_step h_o h_p2 h rfl)
/-! LateMover$Run.follow(LLateMover$Graph;LLateMover$Placement;[I)V -/
def z_Ru_follow_X56 (l : Launch) (G : aw_G) (E : aw_E) (v0 : Nat) (v2 : Nat) (s : Int32 × aw_S) : Prop := aw_W l M_Ru_follow G B_Ru_follow E 56 [(0, .ref v0), (1, .ref 24), (2, .ref v2), (4, .int s.1)] [] xA s.2 0 0
def z_Ru_follow_Y56 (l : Launch) (G : aw_G) (E : aw_E) (v0 : Nat) (v2 : Nat) (x : (aw_S)) : Prop := aw_W l M_Ru_follow G B_Ru_follow E 95 [(0, .ref v0)] [] xA x 0 0
set_option maxRecDepth 100000 in
set_option maxHeartbeats 4000000 in
theorem t_Ru_follow_B56 {l : Launch} {G : aw_G} {E : aw_E} {σ : aw_S} {v0 : Nat} {v2 : Nat} {v4 : Int32} (h_v0 : isRu v0) (h_v2 : isPl v2) {t : (aw_S) ⊕ (Int32 × aw_S)} (h : m_Ru_follow_B56 σ v0 v2 v4 = some t) (hz : Sum.elim (z_Ru_follow_Y56 l G E v0 v2) (z_Ru_follow_X56 l G E v0 v2) t) : aw_W l M_Ru_follow G B_Ru_follow E 56 [(0, .ref v0), (1, .ref 24), (2, .ref v2), (4, .int v4)] [] xA σ 0 0 := by
  unfold m_Ru_follow_B56 at h
  refine aw_iload (pc := 56) (q := 3) dX8_follow_56 rfl ?_
  refine aw_sipush (pc := 58) (v := 400) dX8_follow_58 (by decide) ?_
  refine aw_icmp_ge (pc := 61) (tgt := 95) dX8_follow_61 (by decide) (fun c13 => ?_) (fun c13 => ?_)
  · replace h := aw_ifp c13 h
    refine aw_sub [0] rfl ?_
    cases h
    exact hz
  · replace h := aw_ifn c13 h
    refine aw_aload_n (pc := 64) (q := 0) dX8_follow_64 rfl ?_
    refine aw_getI (pc := 65) fd_X8_49.r h_v0.1 rfl dX8_follow_65 ?_
    refine aw_iconst (pc := 68) (v := -1) dX8_follow_68 (by decide) ?_
    refine aw_icmp_ne (pc := 69) (tgt := 95) dX8_follow_69 (by decide) (fun c14 => ?_) (fun c14 => ?_)
    · replace h := aw_ifn c14 h
      refine aw_sub [0] rfl ?_
      cases h
      exact hz
    · replace h := aw_ifp c14 h
      refine aw_aload_n (pc := 72) (q := 1) dX8_follow_72 rfl ?_
      refine aw_aload_n (pc := 73) (q := 0) dX8_follow_73 rfl ?_
      refine aw_getI (pc := 74) fd_X8_46.r h_v0.1 rfl dX8_follow_74 ?_
      obtain ⟨r15, e16, h⟩ := aw_bde h
      refine aw_cV1 (pc := 77) [.int ((σ.1 v0 8))] (c_Gr_isNode e16) yy_Gr_isNode.1 wm_1098 yy_Gr_isNode.2.1 yy_Gr_isNode.2.2 xA_24 ⟨_, _, rfl⟩ rfl ⟨Nat.le_of_ble_eq_true rfl, Nat.le_of_ble_eq_true rfl⟩ ⟨Nat.zero_le _, Nat.zero_le _⟩ (Nat.le_of_ble_eq_true rfl) dX8_follow_77 ?_
      refine aw_if_eq (pc := 80) (tgt := 95) dX8_follow_80 (by decide) (fun c17 => ?_) (fun c17 => ?_)
      · replace h := aw_ifp c17 h
        refine aw_sub [0] rfl ?_
        cases h
        exact hz
      · replace h := aw_ifn c17 h
        refine aw_aload_n (pc := 83) (q := 0) dX8_follow_83 rfl ?_
        refine aw_aload_n (pc := 84) (q := 1) dX8_follow_84 rfl ?_
        refine aw_aload_n (pc := 85) (q := 2) dX8_follow_85 rfl ?_
        obtain ⟨s20, e19, h⟩ := aw_bde h
        refine aw_cV0 (pc := 86) [.ref 24, .ref v2] (c_Ru_step h_v0 h_v2 e19) yy_Ru_step.1 wm_1099 yy_Ru_step.2.1 yy_Ru_step.2.2 h_v0.1 ⟨_, _, rfl⟩ rfl ⟨Nat.le_of_ble_eq_true rfl, Nat.le_of_ble_eq_true rfl⟩ ⟨Nat.zero_le _, Nat.zero_le _⟩ (Nat.le_of_ble_eq_true rfl) dX8_follow_86 ?_
        obtain ⟨x21, e_x21⟩ : ∃ z, z = (v4 + (1 : Int32)) := ⟨_, rfl⟩
        replace h := aw_lte h x21 e_x21
        refine aw_iinc (pc := 89) (q := 3) (v := x21) [(4, .int x21), (0, .ref v0), (1, .ref 24), (2, .ref v2)] dX8_follow_89 rfl e_x21.symm (by decide) rfl ?_
        refine aw_goto (pc := 92) (tgt := 56) dX8_follow_92 (by decide) ?_
        refine aw_sub [1, 2, 3, 0] rfl ?_
        cases h
        exact hz
set_option maxRecDepth 100000 in
set_option maxHeartbeats 4000000 in
theorem t_Ru_follow_J112 {l : Launch} {G : aw_G} {E : aw_E} {σ : aw_S} {k0 : Nat} {k1 : Int32} (h_k0 : isRu k0) {t : aw_S} (h : m_Ru_follow_J112 σ k0 k1 = some t) (hE : E = (none, xA, t)) : aw_W l M_Ru_follow G B_Ru_follow E 112 [] [.int k1, .ref k0] xA σ 0 0 := by
  unfold m_Ru_follow_J112 at h
  refine aw_putI (pc := 112) fd_X8_49 h_k0.1 rfl (fun _ => rfl) (fun _ => rfl) dX8_follow_112 ?_
  refine aw_nmS (fun s26 e_s26 => ?_)
  replace h := aw_lte h s26 e_s26
  cases h
  subst hE
  exact aw_vret rfl ⟨Nat.zero_le _, Nat.zero_le _⟩ dX8_follow_115
set_option maxRecDepth 100000 in
set_option maxHeartbeats 4000000 in
theorem t_Ru_follow {l : Launch} {G : aw_G} {E : aw_E} {σ : aw_S} {o : Nat} {p2 : Nat} {p3 : Nat} (h_o : isRu o) (h_p2 : isPl p2) (h_p3 : xA[p3]? = some (.inr (0, 26, aw_no))) {t : aw_S} (h : m_Ru_follow σ o p2 p3 = some t) (hE : E = (none, xA, t)) : aw_W l M_Ru_follow G B_Ru_follow E 0 [(0, .ref o), (1, .ref 24), (2, .ref p2), (3, .ref p3)] [] xA σ 0 0 := by
  unfold m_Ru_follow at h
  refine aw_aload_n (pc := 0) (q := 3) dX8_follow_0 rfl ?_
  refine aw_iconst (pc := 1) (v := 0) dX8_follow_1 (by decide) ?_
  refine aw_aload_n (pc := 2) (q := 0) dX8_follow_2 rfl ?_
  refine aw_getC (pc := 3) fd_X8_9.r h_o.1 rfl dX8_follow_3 ?_
  refine aw_iconst (pc := 6) (v := 0) dX8_follow_6 (by decide) ?_
  refine aw_bipush (pc := 7) (v := 26) dX8_follow_7 (by decide) ?_
  refine aw_copyI (pc := 9) (N := 26) wm_1091 h_p3 h_o.2.1 (by decide) (Nat.le_of_ble_eq_true rfl) (Nat.le_of_ble_eq_true rfl) (fun _ _ => rfl) ⟨Nat.le_of_ble_eq_true rfl, Nat.le_of_ble_eq_true rfl⟩ (Nat.le_of_ble_eq_true rfl) dX8_follow_9 ?_
  refine aw_nmS (fun s1 e_s1 => ?_)
  replace h := aw_lte h s1 e_s1
  refine aw_aload_n (pc := 12) (q := 0) dX8_follow_12 rfl ?_
  refine aw_getC (pc := 13) fd_X8_21.r h_o.1 rfl dX8_follow_13 ?_
  refine aw_iconst (pc := 16) (v := 0) dX8_follow_16 (by decide) ?_
  obtain ⟨s4, e3, h⟩ := aw_bde h
  refine aw_cS0 (pc := 17) [.ref (o + 4), .int ((0 : Int32))] (c_Ar_fillI h_o.2.2.2.2 e3) yy_Ar_fillI.1 wm_1097 yy_Ar_fillI.2 rfl ⟨Nat.le_of_ble_eq_true rfl, Nat.le_of_ble_eq_true rfl⟩ ⟨Nat.zero_le _, Nat.zero_le _⟩ (Nat.le_of_ble_eq_true rfl) dX8_follow_17 ?_
  refine aw_aload_n (pc := 20) (q := 0) dX8_follow_20 rfl ?_
  refine aw_getC (pc := 21) fd_X8_18.r h_o.1 rfl dX8_follow_21 ?_
  refine aw_iconst (pc := 24) (v := 0) dX8_follow_24 (by decide) ?_
  obtain ⟨s7, e6, h⟩ := aw_bde h
  refine aw_cS0 (pc := 25) [.ref (o + 3), .int ((0 : Int32))] (c_Ar_fillI h_o.2.2.2.1 e6) yy_Ar_fillI.1 wm_1097 yy_Ar_fillI.2 rfl ⟨Nat.le_of_ble_eq_true rfl, Nat.le_of_ble_eq_true rfl⟩ ⟨Nat.zero_le _, Nat.zero_le _⟩ (Nat.le_of_ble_eq_true rfl) dX8_follow_25 ?_
  refine aw_aload_n (pc := 28) (q := 0) dX8_follow_28 rfl ?_
  refine aw_iconst (pc := 29) (v := 0) dX8_follow_29 (by decide) ?_
  refine aw_putI (pc := 30) fd_X8_36 h_o.1 rfl (fun _ => rfl) (fun _ => rfl) dX8_follow_30 ?_
  refine aw_nmS (fun s8 e_s8 => ?_)
  replace h := aw_lte h s8 e_s8
  refine aw_aload_n (pc := 33) (q := 0) dX8_follow_33 rfl ?_
  refine aw_iconst (pc := 34) (v := 0) dX8_follow_34 (by decide) ?_
  refine aw_putI (pc := 35) fd_X8_40 h_o.1 rfl (fun _ => rfl) (fun _ => rfl) dX8_follow_35 ?_
  refine aw_nmS (fun s9 e_s9 => ?_)
  replace h := aw_lte h s9 e_s9
  refine aw_aload_n (pc := 38) (q := 0) dX8_follow_38 rfl ?_
  refine aw_iconst (pc := 39) (v := 0) dX8_follow_39 (by decide) ?_
  refine aw_putI (pc := 40) fd_X8_43 h_o.1 rfl (fun _ => rfl) (fun _ => rfl) dX8_follow_40 ?_
  refine aw_nmS (fun s10 e_s10 => ?_)
  replace h := aw_lte h s10 e_s10
  refine aw_aload_n (pc := 43) (q := 0) dX8_follow_43 rfl ?_
  refine aw_iconst (pc := 44) (v := 0) dX8_follow_44 (by decide) ?_
  refine aw_putI (pc := 45) fd_X8_46 h_o.1 rfl (fun _ => rfl) (fun _ => rfl) dX8_follow_45 ?_
  refine aw_nmS (fun s11 e_s11 => ?_)
  replace h := aw_lte h s11 e_s11
  refine aw_aload_n (pc := 48) (q := 0) dX8_follow_48 rfl ?_
  refine aw_iconst (pc := 49) (v := -1) dX8_follow_49 (by decide) ?_
  refine aw_putI (pc := 50) fd_X8_49 h_o.1 rfl (fun _ => rfl) (fun _ => rfl) dX8_follow_50 ?_
  refine aw_nmS (fun s12 e_s12 => ?_)
  replace h := aw_lte h s12 e_s12
  refine aw_iconst (pc := 53) (v := 0) dX8_follow_53 (by decide) ?_
  refine aw_istore (pc := 54) [(4, .int ((0 : Int32))), (0, .ref o), (1, .ref 24), (2, .ref p2), (3, .ref p3)] dX8_follow_54 (by decide) rfl ?_
  obtain ⟨x22, hl23, h⟩ := aw_bde h
  have K24 : z_Ru_follow_Y56 l G E o p2 x22 := by
    show aw_W l M_Ru_follow G B_Ru_follow E 95 [(0, .ref o)] [] xA x22 0 0
    refine aw_aload_n (pc := 95) (q := 0) dX8_follow_95 rfl ?_
    refine aw_aload_n (pc := 96) (q := 0) dX8_follow_96 rfl ?_
    refine aw_getI (pc := 97) fd_X8_49.r h_o.1 rfl dX8_follow_97 ?_
    refine aw_iconst (pc := 100) (v := -1) dX8_follow_100 (by decide) ?_
    refine aw_icmp_ne (pc := 101) (tgt := 108) dX8_follow_101 (by decide) (fun c25 => ?_) (fun c25 => ?_)
    · replace h := aw_ifn c25 h
      refine aw_aload_n (pc := 108) (q := 0) dX8_follow_108 rfl ?_
      refine aw_getI (pc := 109) fd_X8_49.r h_o.1 rfl dX8_follow_109 ?_
      refine aw_sub [] rfl ?_
      exact t_Ru_follow_J112 h_o h hE
    · replace h := aw_ifp c25 h
      refine aw_iconst (pc := 104) (v := 1) dX8_follow_104 (by decide) ?_
      refine aw_goto (pc := 105) (tgt := 112) dX8_follow_105 (by decide) ?_
      refine aw_sub [] rfl ?_
      exact t_Ru_follow_J112 h_o h hE
  refine aw_sub [1, 2, 3, 0] rfl ?_
  show z_Ru_follow_X56 l G E o p2 (((0 : Int32), s12))
  exact aw_lp_X (Xp := z_Ru_follow_X56 l G E o p2) (Y := z_Ru_follow_Y56 l G E o p2) hl23 K24 (fun s t hf hz => t_Ru_follow_B56 h_o h_p2 hf hz)
theorem c_Ru_follow {l : Launch} {G : aw_G} {σ : aw_S} {o : Nat} {p2 : Nat} {p3 : Nat} (h_o : isRu o) (h_p2 : isPl p2) (h_p3 : xA[p3]? = some (.inr (0, 26, aw_no))) {t : aw_S} (h : m_Ru_follow σ o p2 p3 = some t) : aw_Ct l yX8_follow M_Ru_follow G B_Ru_follow [.ref o, .ref 24, .ref p2, .ref p3] xA σ (none, xA, t) := aw_Ct_of (by decide) rfl (fun h => by cases h) (Nat.le_of_ble_eq_true rfl) (t_Ru_follow h_o h_p2 h_p3 h rfl)
/-! LateMover.run(II)I -/
set_option maxRecDepth 100000 in
set_option maxHeartbeats 4000000 in
theorem t_Mo_run {l : Launch} {G : aw_G} {E : aw_E} {σ : aw_S} {p1 : Int32} {p2 : Int32} {t : (Int32 × aw_S)} (h : m_Mo_run σ p1 p2 = some t) (hE : E = (some (.int t.1), xA, t.2)) : aw_W l M_Mo_run G B_Mo_run E 0 [(0, .ref 0), (1, .int p1), (2, .int p2)] [] xA σ 0 0 := by
  unfold m_Mo_run at h
  refine aw_aload_n (pc := 0) (q := 0) dX11_run_0 rfl ?_
  refine aw_iload_n (pc := 1) (q := 1) dX11_run_1 rfl ?_
  obtain ⟨r1, e2, h⟩ := aw_bde h
  refine aw_cV1 (pc := 2) [.int p1] (c_Mo_isRunnable e2) yy_Mo_isRunnable.1 wm_1079 yy_Mo_isRunnable.2.1 yy_Mo_isRunnable.2.2 xA_0 ⟨_, _, rfl⟩ rfl ⟨Nat.le_of_ble_eq_true rfl, Nat.le_of_ble_eq_true rfl⟩ ⟨Nat.zero_le _, Nat.zero_le _⟩ (Nat.le_of_ble_eq_true rfl) dX11_run_2 ?_
  refine aw_if_eq (pc := 5) (tgt := 17) dX11_run_5 (by decide) (fun c3 => ?_) (fun c3 => ?_)
  · replace h := aw_ifp c3 h
    refine aw_iconst (pc := 17) (v := -1) dX11_run_17 (by decide) ?_
    cases h
    subst hE
    exact aw_iret (v := (-1 : Int32)) rfl aw_ni ⟨Nat.zero_le _, Nat.zero_le _⟩ dX11_run_18
  · replace h := aw_ifn c3 h
    refine aw_iload_n (pc := 8) (q := 2) dX11_run_8 rfl ?_
    refine aw_if_lt (pc := 9) (tgt := 17) dX11_run_9 (by decide) (fun c4 => ?_) (fun c4 => ?_)
    · replace h := aw_ifp c4 h
      refine aw_iconst (pc := 17) (v := -1) dX11_run_17 (by decide) ?_
      cases h
      subst hE
      exact aw_iret (v := (-1 : Int32)) rfl aw_ni ⟨Nat.zero_le _, Nat.zero_le _⟩ dX11_run_18
    · replace h := aw_ifn c4 h
      refine aw_iload_n (pc := 12) (q := 2) dX11_run_12 rfl ?_
      refine aw_iconst (pc := 13) (v := 4) dX11_run_13 (by decide) ?_
      refine aw_icmp_le (pc := 14) (tgt := 19) dX11_run_14 (by decide) (fun c5 => ?_) (fun c5 => ?_)
      · replace h := aw_ifp c5 h
        refine aw_aload_n (pc := 19) (q := 0) dX11_run_19 rfl ?_
        refine aw_getC (pc := 20) fd_X11_74.r xA_0 rfl dX11_run_20 ?_
        refine aw_aload_n (pc := 23) (q := 0) dX11_run_23 rfl ?_
        refine aw_getC (pc := 24) fd_X11_36.r xA_0 rfl dX11_run_24 ?_
        refine aw_aload_n (pc := 27) (q := 0) dX11_run_27 rfl ?_
        refine aw_iload_n (pc := 28) (q := 1) dX11_run_28 rfl ?_
        obtain ⟨r6, e7, h⟩ := aw_bde h
        refine aw_cV1 (pc := 29) [.int p1] (c_Mo_placementBy e7) yy_Mo_placementBy.1 wm_986 yy_Mo_placementBy.2.1 yy_Mo_placementBy.2.2 xA_0 ⟨_, _, rfl⟩ rfl ⟨Nat.le_of_ble_eq_true rfl, Nat.le_of_ble_eq_true rfl⟩ ⟨Nat.zero_le _, Nat.zero_le _⟩ (Nat.le_of_ble_eq_true rfl) dX11_run_29 ?_
        have h_r6 : isPl r6 := aw_plBy_ok e7
        refine aw_aload_n (pc := 32) (q := 0) dX11_run_32 rfl ?_
        refine aw_getC (pc := 33) fd_X11_67.r xA_0 rfl dX11_run_33 ?_
        obtain ⟨s10, e9, h⟩ := aw_bde h
        refine aw_cV0 (pc := 36) [.ref 24, .ref r6, .ref 81] (c_Ru_follow isRu_82 h_r6 xA_81 e9) yy_Ru_follow.1 wm_1087 yy_Ru_follow.2.1 yy_Ru_follow.2.2 xA_82 ⟨_, _, rfl⟩ rfl ⟨Nat.le_of_ble_eq_true rfl, Nat.le_of_ble_eq_true rfl⟩ ⟨Nat.zero_le _, Nat.zero_le _⟩ (Nat.le_of_ble_eq_true rfl) dX11_run_36 ?_
        refine aw_aload_n (pc := 39) (q := 0) dX11_run_39 rfl ?_
        refine aw_iconst (pc := 40) (v := 1) dX11_run_40 (by decide) ?_
        refine aw_putI (pc := 41) fd_X11_168 xA_0 rfl (fun _ => aw_n1) (fun _ => aw_fz (Or.inr rfl)) dX11_run_41 ?_
        refine aw_nmS (fun s11 e_s11 => ?_)
        replace h := aw_lte h s11 e_s11
        refine aw_iload_n (pc := 44) (q := 2) dX11_run_44 rfl ?_
        by_cases c12 : p2 = (0 : Int32)
        · replace h := aw_ifp c12 h
          refine aw_tableIn (pc := 45) (tgt := 76) dX11_run_45 0 (by rw [c12]; decide) (by decide) rfl (by decide) ?_
          refine aw_aload_n (pc := 76) (q := 0) dX11_run_76 rfl ?_
          refine aw_getC (pc := 77) fd_X11_74.r xA_0 rfl dX11_run_77 ?_
          refine aw_getI (pc := 80) fd_X11_316.r xA_82 rfl dX11_run_80 ?_
          cases h
          subst hE
          exact aw_iret (v := (s11.1 82 4)) rfl aw_ni ⟨Nat.zero_le _, Nat.zero_le _⟩ dX11_run_83
        · replace h := aw_ifn c12 h
          by_cases c13 : p2 = (1 : Int32)
          · replace h := aw_ifp c13 h
            refine aw_tableIn (pc := 45) (tgt := 84) dX11_run_45 1 (by rw [c13]; decide) (by decide) rfl (by decide) ?_
            refine aw_aload_n (pc := 84) (q := 0) dX11_run_84 rfl ?_
            refine aw_getC (pc := 85) fd_X11_74.r xA_0 rfl dX11_run_85 ?_
            refine aw_getI (pc := 88) fd_X11_319.r xA_82 rfl dX11_run_88 ?_
            cases h
            subst hE
            exact aw_iret (v := (s11.1 82 5)) rfl aw_ni ⟨Nat.zero_le _, Nat.zero_le _⟩ dX11_run_91
          · replace h := aw_ifn c13 h
            by_cases c14 : p2 = (2 : Int32)
            · replace h := aw_ifp c14 h
              refine aw_tableIn (pc := 45) (tgt := 92) dX11_run_45 2 (by rw [c14]; decide) (by decide) rfl (by decide) ?_
              refine aw_aload_n (pc := 92) (q := 0) dX11_run_92 rfl ?_
              refine aw_getC (pc := 93) fd_X11_74.r xA_0 rfl dX11_run_93 ?_
              refine aw_getI (pc := 96) fd_X11_322.r xA_82 rfl dX11_run_96 ?_
              cases h
              subst hE
              exact aw_iret (v := (s11.1 82 6)) rfl aw_ni ⟨Nat.zero_le _, Nat.zero_le _⟩ dX11_run_99
            · replace h := aw_ifn c14 h
              by_cases c15 : p2 = (3 : Int32)
              · replace h := aw_ifp c15 h
                refine aw_tableIn (pc := 45) (tgt := 100) dX11_run_45 3 (by rw [c15]; decide) (by decide) rfl (by decide) ?_
                refine aw_aload_n (pc := 100) (q := 0) dX11_run_100 rfl ?_
                refine aw_getC (pc := 101) fd_X11_74.r xA_0 rfl dX11_run_101 ?_
                refine aw_getI (pc := 104) fd_X11_325.r xA_82 rfl dX11_run_104 ?_
                cases h
                subst hE
                exact aw_iret (v := (s11.1 82 7)) rfl aw_ni ⟨Nat.zero_le _, Nat.zero_le _⟩ dX11_run_107
              · replace h := aw_ifn c15 h
                refine aw_tableOut (pc := 45) (tgt := 108) dX11_run_45 (aw_tout 0 3 (fun k h1 h2 => by
                  have hk : k = 0 ∨ k = 1 ∨ k = 2 ∨ k = 3 := by omega
                  rcases hk with rfl | rfl | rfl | rfl
                  · exact fun e => c12 (e.trans (by decide))
                  · exact fun e => c13 (e.trans (by decide))
                  · exact fun e => c14 (e.trans (by decide))
                  · exact fun e => c15 (e.trans (by decide)))) (by decide) ?_
                refine aw_aload_n (pc := 108) (q := 0) dX11_run_108 rfl ?_
                refine aw_getC (pc := 109) fd_X11_74.r xA_0 rfl dX11_run_109 ?_
                refine aw_getI (pc := 112) fd_X11_328.r xA_82 rfl dX11_run_112 ?_
                cases h
                subst hE
                exact aw_iret (v := (s11.1 82 8)) rfl aw_ni ⟨Nat.zero_le _, Nat.zero_le _⟩ dX11_run_115
      · replace h := aw_ifn c5 h
        refine aw_iconst (pc := 17) (v := -1) dX11_run_17 (by decide) ?_
        cases h
        subst hE
        exact aw_iret (v := (-1 : Int32)) rfl aw_ni ⟨Nat.zero_le _, Nat.zero_le _⟩ dX11_run_18
theorem c_Mo_run {l : Launch} {G : aw_G} {σ : aw_S} {p1 : Int32} {p2 : Int32} {t : (Int32 × aw_S)} (h : m_Mo_run σ p1 p2 = some t) : aw_Ct l yX11_run M_Mo_run G B_Mo_run [.ref 0, .int p1, .int p2] xA σ (some (.int t.1), xA, t.2) := aw_Ct_of (by decide) rfl (fun h => by cases h) (Nat.le_of_ble_eq_true rfl) (t_Mo_run h rfl)
/-! LateMover.computed(I)I -/
set_option maxRecDepth 100000 in
set_option maxHeartbeats 4000000 in
theorem t_Mo_computed {l : Launch} {G : aw_G} {E : aw_E} {σ : aw_S} {p1 : Int32} {t : Int32} (h : m_Mo_computed σ p1 = some t) (hE : E = (some (.int t), xA, σ)) : aw_W l M_Mo_computed G B_Mo_computed E 0 [(0, .ref 0), (1, .int p1)] [] xA σ 0 0 := by
  unfold m_Mo_computed at h
  refine aw_aload_n (pc := 0) (q := 0) dX11_computed_0 rfl ?_
  refine aw_getI (pc := 1) fd_X11_168.r xA_0 rfl dX11_computed_1 ?_
  refine aw_if_eq (pc := 4) (tgt := 33) dX11_computed_4 (by decide) (fun c1 => ?_) (fun c1 => ?_)
  · replace h := aw_ifp c1 h
    refine aw_iconst (pc := 33) (v := -1) dX11_computed_33 (by decide) ?_
    cases h
    subst hE
    exact aw_iret (v := (-1 : Int32)) rfl aw_ni ⟨Nat.zero_le _, Nat.zero_le _⟩ dX11_computed_34
  · replace h := aw_ifn c1 h
    refine aw_aload_n (pc := 7) (q := 0) dX11_computed_7 rfl ?_
    refine aw_getC (pc := 8) fd_X11_36.r xA_0 rfl dX11_computed_8 ?_
    refine aw_getC (pc := 11) fd_X11_175 xA_24 rfl dX11_computed_11 ?_
    refine aw_iload_n (pc := 14) (q := 1) dX11_computed_14 rfl ?_
    obtain ⟨r2, e3, h⟩ := aw_bde h
    refine aw_cV1 (pc := 15) [.int p1] (c_Ex_isOne isEx_25 e3) yy_Ex_isOne.1 wm_940 yy_Ex_isOne.2.1 yy_Ex_isOne.2.2 xA_25 ⟨_, _, rfl⟩ rfl ⟨Nat.le_of_ble_eq_true rfl, Nat.le_of_ble_eq_true rfl⟩ ⟨Nat.zero_le _, Nat.zero_le _⟩ (Nat.le_of_ble_eq_true rfl) dX11_computed_15 ?_
    refine aw_if_eq (pc := 18) (tgt := 33) dX11_computed_18 (by decide) (fun c4 => ?_) (fun c4 => ?_)
    · replace h := aw_ifp c4 h
      refine aw_iconst (pc := 33) (v := -1) dX11_computed_33 (by decide) ?_
      cases h
      subst hE
      exact aw_iret (v := (-1 : Int32)) rfl aw_ni ⟨Nat.zero_le _, Nat.zero_le _⟩ dX11_computed_34
    · replace h := aw_ifn c4 h
      refine aw_aload_n (pc := 21) (q := 0) dX11_computed_21 rfl ?_
      refine aw_getC (pc := 22) fd_X11_74.r xA_0 rfl dX11_computed_22 ?_
      refine aw_getC (pc := 25) fd_X11_331 xA_82 rfl dX11_computed_25 ?_
      refine aw_iload_n (pc := 28) (q := 1) dX11_computed_28 rfl ?_
      obtain ⟨g5, h⟩ := aw_gde h
      refine aw_iald (pc := 29) xA_85 g5 dX11_computed_29 ?_
      refine aw_goto (pc := 30) (tgt := 34) dX11_computed_30 (by decide) ?_
      cases h
      subst hE
      exact aw_iret (v := (σ.1 85 p1.toNatClampNeg)) rfl aw_ni ⟨Nat.zero_le _, Nat.zero_le _⟩ dX11_computed_34
theorem c_Mo_computed {l : Launch} {G : aw_G} {σ : aw_S} {p1 : Int32} {t : Int32} (h : m_Mo_computed σ p1 = some t) : aw_Ct l yX11_computed M_Mo_computed G B_Mo_computed [.ref 0, .int p1] xA σ (some (.int t), xA, σ) := aw_Ct_of (by decide) rfl (fun h => by cases h) (Nat.le_of_ble_eq_true rfl) (t_Mo_computed h rfl)
/-! LateMover.output(I)I -/
set_option maxRecDepth 100000 in
set_option maxHeartbeats 4000000 in
theorem t_Mo_output {l : Launch} {G : aw_G} {E : aw_E} {σ : aw_S} {p1 : Int32} {t : Int32} (h : m_Mo_output σ p1 = some t) (hE : E = (some (.int t), xA, σ)) : aw_W l M_Mo_output G B_Mo_output E 0 [(0, .ref 0), (1, .int p1)] [] xA σ 0 0 := by
  unfold m_Mo_output at h
  refine aw_aload_n (pc := 0) (q := 0) dX11_output_0 rfl ?_
  refine aw_getI (pc := 1) fd_X11_168.r xA_0 rfl dX11_output_1 ?_
  refine aw_if_eq (pc := 4) (tgt := 40) dX11_output_4 (by decide) (fun c1 => ?_) (fun c1 => ?_)
  · replace h := aw_ifp c1 h
    refine aw_iconst (pc := 40) (v := 0) dX11_output_40 (by decide) ?_
    cases h
    subst hE
    exact aw_iret (v := (0 : Int32)) rfl aw_ni ⟨Nat.zero_le _, Nat.zero_le _⟩ dX11_output_41
  · replace h := aw_ifn c1 h
    refine aw_iload_n (pc := 7) (q := 1) dX11_output_7 rfl ?_
    refine aw_if_lt (pc := 8) (tgt := 40) dX11_output_8 (by decide) (fun c2 => ?_) (fun c2 => ?_)
    · replace h := aw_ifp c2 h
      refine aw_iconst (pc := 40) (v := 0) dX11_output_40 (by decide) ?_
      cases h
      subst hE
      exact aw_iret (v := (0 : Int32)) rfl aw_ni ⟨Nat.zero_le _, Nat.zero_le _⟩ dX11_output_41
    · replace h := aw_ifn c2 h
      refine aw_iload_n (pc := 11) (q := 1) dX11_output_11 rfl ?_
      refine aw_bipush (pc := 12) (v := 40) dX11_output_12 (by decide) ?_
      refine aw_icmp_ge (pc := 14) (tgt := 40) dX11_output_14 (by decide) (fun c3 => ?_) (fun c3 => ?_)
      · replace h := aw_ifp c3 h
        refine aw_iconst (pc := 40) (v := 0) dX11_output_40 (by decide) ?_
        cases h
        subst hE
        exact aw_iret (v := (0 : Int32)) rfl aw_ni ⟨Nat.zero_le _, Nat.zero_le _⟩ dX11_output_41
      · replace h := aw_ifn c3 h
        refine aw_iload_n (pc := 17) (q := 1) dX11_output_17 rfl ?_
        refine aw_aload_n (pc := 18) (q := 0) dX11_output_18 rfl ?_
        refine aw_getC (pc := 19) fd_X11_74.r xA_0 rfl dX11_output_19 ?_
        refine aw_getI (pc := 22) fd_X11_325.r xA_82 rfl dX11_output_22 ?_
        refine aw_icmp_ge (pc := 25) (tgt := 40) dX11_output_25 (by decide) (fun c4 => ?_) (fun c4 => ?_)
        · replace h := aw_ifp c4 h
          refine aw_iconst (pc := 40) (v := 0) dX11_output_40 (by decide) ?_
          cases h
          subst hE
          exact aw_iret (v := (0 : Int32)) rfl aw_ni ⟨Nat.zero_le _, Nat.zero_le _⟩ dX11_output_41
        · replace h := aw_ifn c4 h
          refine aw_aload_n (pc := 28) (q := 0) dX11_output_28 rfl ?_
          refine aw_getC (pc := 29) fd_X11_74.r xA_0 rfl dX11_output_29 ?_
          refine aw_getC (pc := 32) fd_X11_334 xA_82 rfl dX11_output_32 ?_
          refine aw_iload_n (pc := 35) (q := 1) dX11_output_35 rfl ?_
          obtain ⟨g5, h⟩ := aw_gde h
          refine aw_iald (pc := 36) xA_84 g5 dX11_output_36 ?_
          refine aw_goto (pc := 37) (tgt := 41) dX11_output_37 (by decide) ?_
          cases h
          subst hE
          exact aw_iret (v := (σ.1 84 p1.toNatClampNeg)) rfl aw_ni ⟨Nat.zero_le _, Nat.zero_le _⟩ dX11_output_41
theorem c_Mo_output {l : Launch} {G : aw_G} {σ : aw_S} {p1 : Int32} {t : Int32} (h : m_Mo_output σ p1 = some t) : aw_Ct l yX11_output M_Mo_output G B_Mo_output [.ref 0, .int p1] xA σ (some (.int t), xA, σ) := aw_Ct_of (by decide) rfl (fun h => by cases h) (Nat.le_of_ble_eq_true rfl) (t_Mo_output h rfl)
/-! LateMover.behind(I)I -/
set_option maxRecDepth 100000 in
set_option maxHeartbeats 4000000 in
theorem t_Mo_behind {l : Launch} {G : aw_G} {E : aw_E} {σ : aw_S} {p1 : Int32} {t : Int32} (h : m_Mo_behind σ p1 = some t) (hE : E = (some (.int t), xA, σ)) : aw_W l M_Mo_behind G B_Mo_behind E 0 [(0, .ref 0), (1, .int p1)] [] xA σ 0 0 := by
  unfold m_Mo_behind at h
  refine aw_aload_n (pc := 0) (q := 0) dX11_behind_0 rfl ?_
  refine aw_getI (pc := 1) fd_X11_168.r xA_0 rfl dX11_behind_1 ?_
  refine aw_if_eq (pc := 4) (tgt := 29) dX11_behind_4 (by decide) (fun c1 => ?_) (fun c1 => ?_)
  · replace h := aw_ifp c1 h
    refine aw_iconst (pc := 29) (v := 0) dX11_behind_29 (by decide) ?_
    cases h
    subst hE
    exact aw_iret (v := (0 : Int32)) rfl aw_ni ⟨Nat.zero_le _, Nat.zero_le _⟩ dX11_behind_30
  · replace h := aw_ifn c1 h
    refine aw_iload_n (pc := 7) (q := 1) dX11_behind_7 rfl ?_
    refine aw_if_lt (pc := 8) (tgt := 29) dX11_behind_8 (by decide) (fun c2 => ?_) (fun c2 => ?_)
    · replace h := aw_ifp c2 h
      refine aw_iconst (pc := 29) (v := 0) dX11_behind_29 (by decide) ?_
      cases h
      subst hE
      exact aw_iret (v := (0 : Int32)) rfl aw_ni ⟨Nat.zero_le _, Nat.zero_le _⟩ dX11_behind_30
    · replace h := aw_ifn c2 h
      refine aw_iload_n (pc := 11) (q := 1) dX11_behind_11 rfl ?_
      refine aw_bipush (pc := 12) (v := 26) dX11_behind_12 (by decide) ?_
      refine aw_icmp_ge (pc := 14) (tgt := 29) dX11_behind_14 (by decide) (fun c3 => ?_) (fun c3 => ?_)
      · replace h := aw_ifp c3 h
        refine aw_iconst (pc := 29) (v := 0) dX11_behind_29 (by decide) ?_
        cases h
        subst hE
        exact aw_iret (v := (0 : Int32)) rfl aw_ni ⟨Nat.zero_le _, Nat.zero_le _⟩ dX11_behind_30
      · replace h := aw_ifn c3 h
        refine aw_aload_n (pc := 17) (q := 0) dX11_behind_17 rfl ?_
        refine aw_getC (pc := 18) fd_X11_74.r xA_0 rfl dX11_behind_18 ?_
        refine aw_getC (pc := 21) fd_X11_337 xA_82 rfl dX11_behind_21 ?_
        refine aw_iload_n (pc := 24) (q := 1) dX11_behind_24 rfl ?_
        obtain ⟨g4, h⟩ := aw_gde h
        refine aw_iald (pc := 25) xA_83 g4 dX11_behind_25 ?_
        refine aw_goto (pc := 26) (tgt := 30) dX11_behind_26 (by decide) ?_
        cases h
        subst hE
        exact aw_iret (v := (σ.1 83 p1.toNatClampNeg)) rfl aw_ni ⟨Nat.zero_le _, Nat.zero_le _⟩ dX11_behind_30
theorem c_Mo_behind {l : Launch} {G : aw_G} {σ : aw_S} {p1 : Int32} {t : Int32} (h : m_Mo_behind σ p1 = some t) : aw_Ct l yX11_behind M_Mo_behind G B_Mo_behind [.ref 0, .int p1] xA σ (some (.int t), xA, σ) := aw_Ct_of (by decide) rfl (fun h => by cases h) (Nat.le_of_ble_eq_true rfl) (t_Mo_behind h rfl)
/-! LateMover$Run.endsAndWroteLike(LLateMover$Run;)Z -/
def z_Ru_endsAndWroteLike_X26 (l : Launch) (G : aw_G) (E : aw_E) (σ : aw_S) (v0 : Nat) (v1 : Nat) (s : Int32) : Prop := aw_W l M_Ru_endsAndWroteLike G B_Ru_endsAndWroteLike E 26 [(0, .ref v0), (1, .ref v1), (2, .int s)] [] xA σ 0 0
def z_Ru_endsAndWroteLike_Y26 (l : Launch) (G : aw_G) (E : aw_E) (σ : aw_S) (v0 : Nat) (v1 : Nat) (x : ((Int32) ⊕ (Unit))) : Prop := (Sum.elim (fun r0 => E = (some (.int r0), xA, σ)) (fun r1 => aw_W l M_Ru_endsAndWroteLike G B_Ru_endsAndWroteLike E 63 [] [] xA σ 0 0)) x
set_option maxRecDepth 100000 in
set_option maxHeartbeats 4000000 in
theorem t_Ru_endsAndWroteLike_B26 {l : Launch} {G : aw_G} {E : aw_E} {σ : aw_S} {v0 : Nat} {v1 : Nat} {v2 : Int32} (h_v0 : isRu v0) (h_v1 : isRu v1) {t : ((Int32) ⊕ (Unit)) ⊕ Int32} (h : m_Ru_endsAndWroteLike_B26 σ v0 v1 v2 = some t) (hz : Sum.elim (z_Ru_endsAndWroteLike_Y26 l G E σ v0 v1) (z_Ru_endsAndWroteLike_X26 l G E σ v0 v1) t) : aw_W l M_Ru_endsAndWroteLike G B_Ru_endsAndWroteLike E 26 [(0, .ref v0), (1, .ref v1), (2, .int v2)] [] xA σ 0 0 := by
  unfold m_Ru_endsAndWroteLike_B26 at h
  refine aw_iload_n (pc := 26) (q := 2) dX8_endsAndWroteLike_26 rfl ?_
  refine aw_aload_n (pc := 27) (q := 0) dX8_endsAndWroteLike_27 rfl ?_
  refine aw_getI (pc := 28) fd_X8_43.r h_v0.1 rfl dX8_endsAndWroteLike_28 ?_
  refine aw_icmp_ge (pc := 31) (tgt := 63) dX8_endsAndWroteLike_31 (by decide) (fun c3 => ?_) (fun c3 => ?_)
  · replace h := aw_ifp c3 h
    refine aw_sub [] rfl ?_
    cases h
    exact hz
  · replace h := aw_ifn c3 h
    refine aw_iload_n (pc := 34) (q := 2) dX8_endsAndWroteLike_34 rfl ?_
    refine aw_bipush (pc := 35) (v := 40) dX8_endsAndWroteLike_35 (by decide) ?_
    refine aw_icmp_ge (pc := 37) (tgt := 63) dX8_endsAndWroteLike_37 (by decide) (fun c4 => ?_) (fun c4 => ?_)
    · replace h := aw_ifp c4 h
      refine aw_sub [] rfl ?_
      cases h
      exact hz
    · replace h := aw_ifn c4 h
      refine aw_aload_n (pc := 40) (q := 0) dX8_endsAndWroteLike_40 rfl ?_
      refine aw_getC (pc := 41) fd_X8_15.r h_v0.1 rfl dX8_endsAndWroteLike_41 ?_
      refine aw_iload_n (pc := 44) (q := 2) dX8_endsAndWroteLike_44 rfl ?_
      obtain ⟨g5, h⟩ := aw_gde h
      refine aw_iald (pc := 45) h_v0.2.2.1 g5 dX8_endsAndWroteLike_45 ?_
      refine aw_aload_n (pc := 46) (q := 1) dX8_endsAndWroteLike_46 rfl ?_
      refine aw_getC (pc := 47) fd_X8_15.r h_v1.1 rfl dX8_endsAndWroteLike_47 ?_
      refine aw_iload_n (pc := 50) (q := 2) dX8_endsAndWroteLike_50 rfl ?_
      obtain ⟨g6, h⟩ := aw_gde h
      refine aw_iald (pc := 51) h_v1.2.2.1 g6 dX8_endsAndWroteLike_51 ?_
      refine aw_icmp_eq (pc := 52) (tgt := 57) dX8_endsAndWroteLike_52 (by decide) (fun c7 => ?_) (fun c7 => ?_)
      · replace h := aw_ifp c7 h
        obtain ⟨x8, e_x8⟩ : ∃ z, z = (v2 + (1 : Int32)) := ⟨_, rfl⟩
        replace h := aw_lte h x8 e_x8
        refine aw_iinc (pc := 57) (q := 2) (v := x8) [(2, .int x8), (0, .ref v0), (1, .ref v1)] dX8_endsAndWroteLike_57 rfl e_x8.symm (by decide) rfl ?_
        refine aw_goto (pc := 60) (tgt := 26) dX8_endsAndWroteLike_60 (by decide) ?_
        refine aw_sub [1, 2, 0] rfl ?_
        cases h
        exact hz
      · replace h := aw_ifn c7 h
        refine aw_iconst (pc := 55) (v := 0) dX8_endsAndWroteLike_55 (by decide) ?_
        cases h
        have hE : E = _ := hz
        subst hE
        exact aw_iret (v := (0 : Int32)) rfl aw_n0 ⟨Nat.zero_le _, Nat.zero_le _⟩ dX8_endsAndWroteLike_56
set_option maxRecDepth 100000 in
set_option maxHeartbeats 4000000 in
theorem t_Ru_endsAndWroteLike {l : Launch} {G : aw_G} {E : aw_E} {σ : aw_S} {o : Nat} {p1 : Nat} (h_o : isRu o) (h_p1 : isRu p1) {t : Int32} (h : m_Ru_endsAndWroteLike σ o p1 = some t) (hE : E = (some (.int t), xA, σ)) : aw_W l M_Ru_endsAndWroteLike G B_Ru_endsAndWroteLike E 0 [(0, .ref o), (1, .ref p1)] [] xA σ 0 0 := by
  unfold m_Ru_endsAndWroteLike at h
  refine aw_aload_n (pc := 0) (q := 0) dX8_endsAndWroteLike_0 rfl ?_
  refine aw_getI (pc := 1) fd_X8_49.r h_o.1 rfl dX8_endsAndWroteLike_1 ?_
  refine aw_aload_n (pc := 4) (q := 1) dX8_endsAndWroteLike_4 rfl ?_
  refine aw_getI (pc := 5) fd_X8_49.r h_p1.1 rfl dX8_endsAndWroteLike_5 ?_
  refine aw_icmp_ne (pc := 8) (tgt := 22) dX8_endsAndWroteLike_8 (by decide) (fun c1 => ?_) (fun c1 => ?_)
  · replace h := aw_ifn c1 h
    refine aw_iconst (pc := 22) (v := 0) dX8_endsAndWroteLike_22 (by decide) ?_
    cases h
    subst hE
    exact aw_iret (v := (0 : Int32)) rfl aw_n0 ⟨Nat.zero_le _, Nat.zero_le _⟩ dX8_endsAndWroteLike_23
  · replace h := aw_ifp c1 h
    refine aw_aload_n (pc := 11) (q := 0) dX8_endsAndWroteLike_11 rfl ?_
    refine aw_getI (pc := 12) fd_X8_43.r h_o.1 rfl dX8_endsAndWroteLike_12 ?_
    refine aw_aload_n (pc := 15) (q := 1) dX8_endsAndWroteLike_15 rfl ?_
    refine aw_getI (pc := 16) fd_X8_43.r h_p1.1 rfl dX8_endsAndWroteLike_16 ?_
    refine aw_icmp_eq (pc := 19) (tgt := 24) dX8_endsAndWroteLike_19 (by decide) (fun c2 => ?_) (fun c2 => ?_)
    · replace h := aw_ifp c2 h
      refine aw_iconst (pc := 24) (v := 0) dX8_endsAndWroteLike_24 (by decide) ?_
      refine aw_istore_n (pc := 25) [(2, .int ((0 : Int32))), (0, .ref o), (1, .ref p1)] dX8_endsAndWroteLike_25 (by decide) rfl ?_
      obtain ⟨x9, hl10, h⟩ := aw_bde h
      have K11 : z_Ru_endsAndWroteLike_Y26 l G E σ o p1 x9 := by
        cases x9 with
        | inl y12 =>
          replace h := aw_eL h
          show E = _
          cases h
          exact hE
        | inr y13 =>
          replace h := aw_eR h
          show aw_W l M_Ru_endsAndWroteLike G B_Ru_endsAndWroteLike E 63 [] [] xA σ 0 0
          refine aw_iconst (pc := 63) (v := 1) dX8_endsAndWroteLike_63 (by decide) ?_
          cases h
          subst hE
          exact aw_iret (v := (1 : Int32)) rfl aw_n1 ⟨Nat.zero_le _, Nat.zero_le _⟩ dX8_endsAndWroteLike_64
      refine aw_sub [1, 2, 0] rfl ?_
      show z_Ru_endsAndWroteLike_X26 l G E σ o p1 ((0 : Int32))
      exact aw_lp_X (Xp := z_Ru_endsAndWroteLike_X26 l G E σ o p1) (Y := z_Ru_endsAndWroteLike_Y26 l G E σ o p1) hl10 K11 (fun s t hf hz => t_Ru_endsAndWroteLike_B26 h_o h_p1 hf hz)
    · replace h := aw_ifn c2 h
      refine aw_iconst (pc := 22) (v := 0) dX8_endsAndWroteLike_22 (by decide) ?_
      cases h
      subst hE
      exact aw_iret (v := (0 : Int32)) rfl aw_n0 ⟨Nat.zero_le _, Nat.zero_le _⟩ dX8_endsAndWroteLike_23
theorem c_Ru_endsAndWroteLike {l : Launch} {G : aw_G} {σ : aw_S} {o : Nat} {p1 : Nat} (h_o : isRu o) (h_p1 : isRu p1) {t : Int32} (h : m_Ru_endsAndWroteLike σ o p1 = some t) : aw_Ct l yX8_endsAndWroteLike M_Ru_endsAndWroteLike G B_Ru_endsAndWroteLike [.ref o, .ref p1] xA σ (some (.int t), xA, σ) := aw_Ct_of (by decide) rfl (fun h => by cases h) (Nat.le_of_ble_eq_true rfl) (t_Ru_endsAndWroteLike h_o h_p1 h rfl)
/-! LateMover.alike(I)I -/
set_option maxRecDepth 100000 in
set_option maxHeartbeats 4000000 in
theorem t_Mo_alike {l : Launch} {G : aw_G} {E : aw_E} {σ : aw_S} {p1 : Int32} {t : (Int32 × aw_S)} (h : m_Mo_alike σ p1 = some t) (hE : E = (some (.int t.1), xA, t.2)) : aw_W l M_Mo_alike G B_Mo_alike E 0 [(0, .ref 0), (1, .int p1)] [] xA σ 0 0 := by
  unfold m_Mo_alike at h
  refine aw_aload_n (pc := 0) (q := 0) dX11_alike_0 rfl ?_
  refine aw_iload_n (pc := 1) (q := 1) dX11_alike_1 rfl ?_
  obtain ⟨r1, e2, h⟩ := aw_bde h
  refine aw_cV1 (pc := 2) [.int p1] (c_Mo_isRunnable e2) yy_Mo_isRunnable.1 wm_1079 yy_Mo_isRunnable.2.1 yy_Mo_isRunnable.2.2 xA_0 ⟨_, _, rfl⟩ rfl ⟨Nat.le_of_ble_eq_true rfl, Nat.le_of_ble_eq_true rfl⟩ ⟨Nat.zero_le _, Nat.zero_le _⟩ (Nat.le_of_ble_eq_true rfl) dX11_alike_2 ?_
  refine aw_if_ne (pc := 5) (tgt := 10) dX11_alike_5 (by decide) (fun c3 => ?_) (fun c3 => ?_)
  · replace h := aw_ifn c3 h
    refine aw_aload_n (pc := 10) (q := 0) dX11_alike_10 rfl ?_
    refine aw_getC (pc := 11) fd_X11_78.r xA_0 rfl dX11_alike_11 ?_
    refine aw_aload_n (pc := 14) (q := 0) dX11_alike_14 rfl ?_
    refine aw_getC (pc := 15) fd_X11_36.r xA_0 rfl dX11_alike_15 ?_
    refine aw_aload_n (pc := 18) (q := 0) dX11_alike_18 rfl ?_
    refine aw_getC (pc := 19) fd_X11_57.r xA_0 rfl dX11_alike_19 ?_
    refine aw_aload_n (pc := 22) (q := 0) dX11_alike_22 rfl ?_
    refine aw_getC (pc := 23) fd_X11_67.r xA_0 rfl dX11_alike_23 ?_
    obtain ⟨s6, e5, h⟩ := aw_bde h
    refine aw_cV0 (pc := 26) [.ref 24, .ref 63, .ref 81] (c_Ru_follow isRu_87 isPl_63 xA_81 e5) yy_Ru_follow.1 wm_1087 yy_Ru_follow.2.1 yy_Ru_follow.2.2 xA_87 ⟨_, _, rfl⟩ rfl ⟨Nat.le_of_ble_eq_true rfl, Nat.le_of_ble_eq_true rfl⟩ ⟨Nat.zero_le _, Nat.zero_le _⟩ (Nat.le_of_ble_eq_true rfl) dX11_alike_26 ?_
    refine aw_aload_n (pc := 29) (q := 0) dX11_alike_29 rfl ?_
    refine aw_getC (pc := 30) fd_X11_81.r xA_0 rfl dX11_alike_30 ?_
    refine aw_aload_n (pc := 33) (q := 0) dX11_alike_33 rfl ?_
    refine aw_getC (pc := 34) fd_X11_36.r xA_0 rfl dX11_alike_34 ?_
    refine aw_aload_n (pc := 37) (q := 0) dX11_alike_37 rfl ?_
    refine aw_iload_n (pc := 38) (q := 1) dX11_alike_38 rfl ?_
    obtain ⟨r7, e8, h⟩ := aw_bde h
    refine aw_cV1 (pc := 39) [.int p1] (c_Mo_placementBy e8) yy_Mo_placementBy.1 wm_986 yy_Mo_placementBy.2.1 yy_Mo_placementBy.2.2 xA_0 ⟨_, _, rfl⟩ rfl ⟨Nat.le_of_ble_eq_true rfl, Nat.le_of_ble_eq_true rfl⟩ ⟨Nat.zero_le _, Nat.zero_le _⟩ (Nat.le_of_ble_eq_true rfl) dX11_alike_39 ?_
    have h_r7 : isPl r7 := aw_plBy_ok e8
    refine aw_aload_n (pc := 42) (q := 0) dX11_alike_42 rfl ?_
    refine aw_getC (pc := 43) fd_X11_67.r xA_0 rfl dX11_alike_43 ?_
    obtain ⟨s11, e10, h⟩ := aw_bde h
    refine aw_cV0 (pc := 46) [.ref 24, .ref r7, .ref 81] (c_Ru_follow isRu_92 h_r7 xA_81 e10) yy_Ru_follow.1 wm_1087 yy_Ru_follow.2.1 yy_Ru_follow.2.2 xA_92 ⟨_, _, rfl⟩ rfl ⟨Nat.le_of_ble_eq_true rfl, Nat.le_of_ble_eq_true rfl⟩ ⟨Nat.zero_le _, Nat.zero_le _⟩ (Nat.le_of_ble_eq_true rfl) dX11_alike_46 ?_
    refine aw_aload_n (pc := 49) (q := 0) dX11_alike_49 rfl ?_
    refine aw_getC (pc := 50) fd_X11_78.r xA_0 rfl dX11_alike_50 ?_
    refine aw_aload_n (pc := 53) (q := 0) dX11_alike_53 rfl ?_
    refine aw_getC (pc := 54) fd_X11_81.r xA_0 rfl dX11_alike_54 ?_
    obtain ⟨r12, e13, h⟩ := aw_bde h
    refine aw_cV1 (pc := 57) [.ref 92] (c_Ru_endsAndWroteLike isRu_87 isRu_92 e13) yy_Ru_endsAndWroteLike.1 wm_1232 yy_Ru_endsAndWroteLike.2.1 yy_Ru_endsAndWroteLike.2.2 xA_87 ⟨_, _, rfl⟩ rfl ⟨Nat.le_of_ble_eq_true rfl, Nat.le_of_ble_eq_true rfl⟩ ⟨Nat.zero_le _, Nat.zero_le _⟩ (Nat.le_of_ble_eq_true rfl) dX11_alike_57 ?_
    obtain ⟨r14, e15, h⟩ := aw_bde h
    refine aw_cS1 (pc := 60) [.int r12] (c_Mo_oneIf e15) yy_Mo_oneIf.1 wm_894 yy_Mo_oneIf.2 rfl ⟨Nat.le_of_ble_eq_true rfl, Nat.le_of_ble_eq_true rfl⟩ ⟨Nat.zero_le _, Nat.zero_le _⟩ (Nat.le_of_ble_eq_true rfl) dX11_alike_60 ?_
    cases h
    subst hE
    exact aw_iret (v := _) rfl aw_ni ⟨Nat.zero_le _, Nat.zero_le _⟩ dX11_alike_63
  · replace h := aw_ifp c3 h
    refine aw_iconst (pc := 8) (v := -1) dX11_alike_8 (by decide) ?_
    cases h
    subst hE
    exact aw_iret (v := (-1 : Int32)) rfl aw_ni ⟨Nat.zero_le _, Nat.zero_le _⟩ dX11_alike_9
theorem c_Mo_alike {l : Launch} {G : aw_G} {σ : aw_S} {p1 : Int32} {t : (Int32 × aw_S)} (h : m_Mo_alike σ p1 = some t) : aw_Ct l yX11_alike M_Mo_alike G B_Mo_alike [.ref 0, .int p1] xA σ (some (.int t.1), xA, t.2) := aw_Ct_of (by decide) rfl (fun h => by cases h) (Nat.le_of_ble_eq_true rfl) (t_Mo_alike h rfl)
/-! LateMover.live(I)I -/
set_option maxRecDepth 100000 in
set_option maxHeartbeats 4000000 in
theorem t_Mo_live {l : Launch} {G : aw_G} {E : aw_E} {σ : aw_S} {p1 : Int32} {t : Int32} (h : m_Mo_live σ p1 = some t) (hE : E = (some (.int t), xA, σ)) : aw_W l M_Mo_live G B_Mo_live E 0 [(0, .ref 0), (1, .int p1)] [] xA σ 0 0 := by
  unfold m_Mo_live at h
  refine aw_aload_n (pc := 0) (q := 0) dX11_live_0 rfl ?_
  refine aw_getC (pc := 1) fd_X11_36.r xA_0 rfl dX11_live_1 ?_
  refine aw_iload_n (pc := 4) (q := 1) dX11_live_4 rfl ?_
  obtain ⟨r1, e2, h⟩ := aw_bde h
  refine aw_cV1 (pc := 5) [.int p1] (c_Gr_isNode e2) yy_Gr_isNode.1 wm_917 yy_Gr_isNode.2.1 yy_Gr_isNode.2.2 xA_24 ⟨_, _, rfl⟩ rfl ⟨Nat.le_of_ble_eq_true rfl, Nat.le_of_ble_eq_true rfl⟩ ⟨Nat.zero_le _, Nat.zero_le _⟩ (Nat.le_of_ble_eq_true rfl) dX11_live_5 ?_
  refine aw_if_eq (pc := 8) (tgt := 23) dX11_live_8 (by decide) (fun c3 => ?_) (fun c3 => ?_)
  · replace h := aw_ifp c3 h
    refine aw_iconst (pc := 23) (v := -1) dX11_live_23 (by decide) ?_
    cases h
    subst hE
    exact aw_iret (v := (-1 : Int32)) rfl aw_ni ⟨Nat.zero_le _, Nat.zero_le _⟩ dX11_live_24
  · replace h := aw_ifn c3 h
    refine aw_aload_n (pc := 11) (q := 0) dX11_live_11 rfl ?_
    refine aw_getC (pc := 12) fd_X11_43.r xA_0 rfl dX11_live_12 ?_
    refine aw_getC (pc := 15) fd_X11_344 xA_41 rfl dX11_live_15 ?_
    refine aw_iload_n (pc := 18) (q := 1) dX11_live_18 rfl ?_
    obtain ⟨g4, h⟩ := aw_gde h
    refine aw_iald (pc := 19) xA_56 g4 dX11_live_19 ?_
    refine aw_goto (pc := 20) (tgt := 24) dX11_live_20 (by decide) ?_
    cases h
    subst hE
    exact aw_iret (v := (σ.1 56 p1.toNatClampNeg)) rfl aw_ni ⟨Nat.zero_le _, Nat.zero_le _⟩ dX11_live_24
theorem c_Mo_live {l : Launch} {G : aw_G} {σ : aw_S} {p1 : Int32} {t : Int32} (h : m_Mo_live σ p1 = some t) : aw_Ct l yX11_live M_Mo_live G B_Mo_live [.ref 0, .int p1] xA σ (some (.int t), xA, σ) := aw_Ct_of (by decide) rfl (fun h => by cases h) (Nat.le_of_ble_eq_true rfl) (t_Mo_live h rfl)
/-! LateMover$Facts.isDead(LLateMover$Graph;I)Z -/
def z_Fa_isDead_X35 (l : Launch) (G : aw_G) (E : aw_E) (σ : aw_S) (v2 : Int32) (v3 : Int32) (s : Int32 × Int32) : Prop := aw_W l M_Fa_isDead G B_Fa_isDead E 35 [(0, .ref 41), (1, .ref 24), (2, .int v2), (3, .int v3), (4, .int s.1), (5, .int s.2)] [] xA σ 0 0
def z_Fa_isDead_Y35 (l : Launch) (G : aw_G) (E : aw_E) (σ : aw_S) (v2 : Int32) (v3 : Int32) (x : (Int32)) : Prop := aw_W l M_Fa_isDead G B_Fa_isDead E 85 [(3, .int v3), (4, .int x)] [] xA σ 0 0
set_option maxRecDepth 100000 in
set_option maxHeartbeats 4000000 in
theorem t_Fa_isDead_J76 {l : Launch} {G : aw_G} {E : aw_E} {σ : aw_S} {v2 : Int32} {v3 : Int32} {v5 : Int32} {k0 : Int32} {k1 : Int32} {t : (Int32) ⊕ (Int32 × Int32)} (h : m_Fa_isDead_J76 σ v2 v3 v5 k0 k1 = some t) (hz : Sum.elim (z_Fa_isDead_Y35 l G E σ v2 v3) (z_Fa_isDead_X35 l G E σ v2 v3) t) : aw_W l M_Fa_isDead G B_Fa_isDead E 76 [(0, .ref 41), (1, .ref 24), (2, .int v2), (3, .int v3), (5, .int v5)] [.int k1, .int k0] xA σ 0 0 := by
  unfold m_Fa_isDead_J76 at h
  refine aw_ior (pc := 76) dX1_isDead_76 ?_
  refine aw_nmI (fun x16 e_x16 => ?_)
  replace h := aw_lte h x16 e_x16
  refine aw_istore (pc := 77) [(4, .int x16), (0, .ref 41), (1, .ref 24), (2, .int v2), (3, .int v3), (5, .int v5)] dX1_isDead_77 (by decide) rfl ?_
  obtain ⟨x17, e_x17⟩ : ∃ z, z = (v5 + (1 : Int32)) := ⟨_, rfl⟩
  replace h := aw_lte h x17 e_x17
  refine aw_iinc (pc := 79) (q := 5) (v := x17) [(5, .int x17), (4, .int x16), (0, .ref 41), (1, .ref 24), (2, .int v2), (3, .int v3)] dX1_isDead_79 rfl e_x17.symm (by decide) rfl ?_
  refine aw_goto (pc := 82) (tgt := 35) dX1_isDead_82 (by decide) ?_
  refine aw_sub [2, 3, 4, 5, 1, 0] rfl ?_
  cases h
  exact hz
set_option maxRecDepth 100000 in
set_option maxHeartbeats 4000000 in
theorem t_Fa_isDead_B35 {l : Launch} {G : aw_G} {E : aw_E} {σ : aw_S} {v2 : Int32} {v3 : Int32} {v4 : Int32} {v5 : Int32} {t : (Int32) ⊕ (Int32 × Int32)} (h : m_Fa_isDead_B35 σ v2 v3 v4 v5 = some t) (hz : Sum.elim (z_Fa_isDead_Y35 l G E σ v2 v3) (z_Fa_isDead_X35 l G E σ v2 v3) t) : aw_W l M_Fa_isDead G B_Fa_isDead E 35 [(0, .ref 41), (1, .ref 24), (2, .int v2), (3, .int v3), (4, .int v4), (5, .int v5)] [] xA σ 0 0 := by
  unfold m_Fa_isDead_B35 at h
  refine aw_iload (pc := 35) (q := 5) dX1_isDead_35 rfl ?_
  refine aw_aload_n (pc := 37) (q := 1) dX1_isDead_37 rfl ?_
  refine aw_iload_n (pc := 38) (q := 2) dX1_isDead_38 rfl ?_
  obtain ⟨r8, e9, h⟩ := aw_bde h
  refine aw_cV1 (pc := 39) [.int v2] (c_Gr_edgesFrom e9) yy_Gr_edgesFrom.1 wm_490 yy_Gr_edgesFrom.2.1 yy_Gr_edgesFrom.2.2 xA_24 ⟨_, _, rfl⟩ rfl ⟨Nat.le_of_ble_eq_true rfl, Nat.le_of_ble_eq_true rfl⟩ ⟨Nat.zero_le _, Nat.zero_le _⟩ (Nat.le_of_ble_eq_true rfl) dX1_isDead_39 ?_
  refine aw_icmp_ge (pc := 42) (tgt := 85) dX1_isDead_42 (by decide) (fun c10 => ?_) (fun c10 => ?_)
  · replace h := aw_ifp c10 h
    refine aw_sub [3, 4] rfl ?_
    cases h
    exact hz
  · replace h := aw_ifn c10 h
    refine aw_aload_n (pc := 45) (q := 1) dX1_isDead_45 rfl ?_
    refine aw_iload_n (pc := 46) (q := 2) dX1_isDead_46 rfl ?_
    refine aw_iload (pc := 47) (q := 5) dX1_isDead_47 rfl ?_
    obtain ⟨r11, e12, h⟩ := aw_bde h
    refine aw_cV1 (pc := 49) [.int v2, .int v5] (c_Gr_kthTarget e12) yy_Gr_kthTarget.1 wm_566 yy_Gr_kthTarget.2.1 yy_Gr_kthTarget.2.2 xA_24 ⟨_, _, rfl⟩ rfl ⟨Nat.le_of_ble_eq_true rfl, Nat.le_of_ble_eq_true rfl⟩ ⟨Nat.zero_le _, Nat.zero_le _⟩ (Nat.le_of_ble_eq_true rfl) dX1_isDead_49 ?_
    refine aw_istore (pc := 52) [(6, .int r11), (0, .ref 41), (1, .ref 24), (2, .int v2), (3, .int v3), (4, .int v4), (5, .int v5)] dX1_isDead_52 (by decide) rfl ?_
    refine aw_iload (pc := 54) (q := 5) dX1_isDead_54 rfl ?_
    refine aw_aload_n (pc := 56) (q := 2) dX1_isDead_56 rfl ?_
    refine aw_iload (pc := 57) (q := 0) dX1_isDead_57 rfl ?_
    obtain ⟨r13, e14, h⟩ := aw_bde h
    refine aw_cV1 (pc := 59) [.int r11] (c_Gr_isNode e14) yy_Gr_isNode.1 wm_557 yy_Gr_isNode.2.1 yy_Gr_isNode.2.2 xA_24 ⟨_, _, rfl⟩ rfl ⟨Nat.le_of_ble_eq_true rfl, Nat.le_of_ble_eq_true rfl⟩ ⟨Nat.zero_le _, Nat.zero_le _⟩ (Nat.le_of_ble_eq_true rfl) dX1_isDead_59 ?_
    refine aw_if_eq (pc := 62) (tgt := 75) dX1_isDead_62 (by decide) (fun c15 => ?_) (fun c15 => ?_)
    · replace h := aw_ifp c15 h
      refine aw_iconst (pc := 75) (v := 0) dX1_isDead_75 (by decide) ?_
      refine aw_sub [1, 2, 3, 4, 6] rfl ?_
      exact t_Fa_isDead_J76 h hz
    · replace h := aw_ifn c15 h
      refine aw_aload_n (pc := 65) (q := 1) dX1_isDead_65 rfl ?_
      refine aw_getC (pc := 66) fd_X1_46.r xA_41 rfl dX1_isDead_66 ?_
      refine aw_iload (pc := 69) (q := 0) dX1_isDead_69 rfl ?_
      obtain ⟨g18, h⟩ := aw_gde h
      refine aw_iald (pc := 71) xA_56 g18 dX1_isDead_71 ?_
      refine aw_goto (pc := 72) (tgt := 76) dX1_isDead_72 (by decide) ?_
      refine aw_sub [1, 2, 3, 4, 6] rfl ?_
      exact t_Fa_isDead_J76 h hz
set_option maxRecDepth 100000 in
set_option maxHeartbeats 4000000 in
theorem t_Fa_isDead {l : Launch} {G : aw_G} {E : aw_E} {σ : aw_S} {p2 : Int32} {t : Int32} (h : m_Fa_isDead σ p2 = some t) (hE : E = (some (.int t), xA, σ)) : aw_W l M_Fa_isDead G B_Fa_isDead E 0 [(0, .ref 41), (1, .ref 24), (2, .int p2)] [] xA σ 0 0 := by
  unfold m_Fa_isDead at h
  refine aw_aload_n (pc := 0) (q := 1) dX1_isDead_0 rfl ?_
  refine aw_iload_n (pc := 1) (q := 2) dX1_isDead_1 rfl ?_
  obtain ⟨r1, e2, h⟩ := aw_bde h
  refine aw_cS1 (pc := 2) [.ref 24, .int p2] (c_Fa_letterChangedAt e2) yy_Fa_letterChangedAt.1 wm_464 yy_Fa_letterChangedAt.2 rfl ⟨Nat.le_of_ble_eq_true rfl, Nat.le_of_ble_eq_true rfl⟩ ⟨Nat.zero_le _, Nat.zero_le _⟩ (Nat.le_of_ble_eq_true rfl) dX1_isDead_2 ?_
  refine aw_istore_n (pc := 5) [(3, .int r1), (0, .ref 41), (1, .ref 24), (2, .int p2)] dX1_isDead_5 (by decide) rfl ?_
  refine aw_iload_n (pc := 6) (q := 0) dX1_isDead_6 rfl ?_
  refine aw_iconst (pc := 7) (v := -1) dX1_isDead_7 (by decide) ?_
  refine aw_icmp_eq (pc := 8) (tgt := 27) dX1_isDead_8 (by decide) (fun c3 => ?_) (fun c3 => ?_)
  · replace h := aw_ifp c3 h
    refine aw_iconst (pc := 27) (v := 0) dX1_isDead_27 (by decide) ?_
    cases h
    subst hE
    exact aw_iret (v := (0 : Int32)) rfl aw_n0 ⟨Nat.zero_le _, Nat.zero_le _⟩ dX1_isDead_28
  · replace h := aw_ifn c3 h
    refine aw_aload_n (pc := 11) (q := 2) dX1_isDead_11 rfl ?_
    refine aw_getC (pc := 12) fd_X1_52 xA_24 rfl dX1_isDead_12 ?_
    refine aw_aload_n (pc := 15) (q := 2) dX1_isDead_15 rfl ?_
    refine aw_getC (pc := 16) fd_X1_105 xA_24 rfl dX1_isDead_16 ?_
    refine aw_iload_n (pc := 19) (q := 3) dX1_isDead_19 rfl ?_
    obtain ⟨g4, h⟩ := aw_gde h
    refine aw_iald (pc := 20) xA_33 g4 dX1_isDead_20 ?_
    obtain ⟨r5, e6, h⟩ := aw_bde h
    refine aw_cV1 (pc := 21) [.int ((σ.1 33 p2.toNatClampNeg))] (c_Ex_isRisky isEx_25 e6) yy_Ex_isRisky.1 wm_478 yy_Ex_isRisky.2.1 yy_Ex_isRisky.2.2 xA_25 ⟨_, _, rfl⟩ rfl ⟨Nat.le_of_ble_eq_true rfl, Nat.le_of_ble_eq_true rfl⟩ ⟨Nat.zero_le _, Nat.zero_le _⟩ (Nat.le_of_ble_eq_true rfl) dX1_isDead_21 ?_
    refine aw_if_eq (pc := 24) (tgt := 29) dX1_isDead_24 (by decide) (fun c7 => ?_) (fun c7 => ?_)
    · replace h := aw_ifp c7 h
      refine aw_iconst (pc := 29) (v := 0) dX1_isDead_29 (by decide) ?_
      refine aw_istore (pc := 30) [(4, .int ((0 : Int32))), (3, .int r1), (0, .ref 41), (1, .ref 24), (2, .int p2)] dX1_isDead_30 (by decide) rfl ?_
      refine aw_iconst (pc := 32) (v := 0) dX1_isDead_32 (by decide) ?_
      refine aw_istore (pc := 33) [(5, .int ((0 : Int32))), (4, .int ((0 : Int32))), (3, .int r1), (0, .ref 41), (1, .ref 24), (2, .int p2)] dX1_isDead_33 (by decide) rfl ?_
      obtain ⟨x19, hl20, h⟩ := aw_bde h
      have K21 : z_Fa_isDead_Y35 l G E σ p2 r1 x19 := by
        show aw_W l M_Fa_isDead G B_Fa_isDead E 85 [(3, .int r1), (4, .int x19)] [] xA σ 0 0
        refine aw_iload (pc := 85) (q := 1) dX1_isDead_85 rfl ?_
        refine aw_iload_n (pc := 87) (q := 0) dX1_isDead_87 rfl ?_
        obtain ⟨r22, e23, h⟩ := aw_bde h
        refine aw_cS1 (pc := 88) [.int r1] (c_Ex_letterBit e23) yy_Ex_letterBit.1 wm_469 yy_Ex_letterBit.2 rfl ⟨Nat.le_of_ble_eq_true rfl, Nat.le_of_ble_eq_true rfl⟩ ⟨Nat.zero_le _, Nat.zero_le _⟩ (Nat.le_of_ble_eq_true rfl) dX1_isDead_88 ?_
        refine aw_iand (pc := 91) dX1_isDead_91 ?_
        refine aw_if_ne (pc := 92) (tgt := 99) dX1_isDead_92 (by decide) (fun c24 => ?_) (fun c24 => ?_)
        · replace h := aw_ifn c24 h
          refine aw_iconst (pc := 99) (v := 0) dX1_isDead_99 (by decide) ?_
          cases h
          subst hE
          exact aw_iret (v := (0 : Int32)) rfl aw_n0 ⟨Nat.zero_le _, Nat.zero_le _⟩ dX1_isDead_100
        · replace h := aw_ifp c24 h
          refine aw_iconst (pc := 95) (v := 1) dX1_isDead_95 (by decide) ?_
          refine aw_goto (pc := 96) (tgt := 100) dX1_isDead_96 (by decide) ?_
          cases h
          subst hE
          exact aw_iret (v := (1 : Int32)) rfl aw_n1 ⟨Nat.zero_le _, Nat.zero_le _⟩ dX1_isDead_100
      refine aw_sub [3, 4, 5, 2, 1, 0] rfl ?_
      show z_Fa_isDead_X35 l G E σ p2 r1 (((0 : Int32), (0 : Int32)))
      exact aw_lp_X (Xp := z_Fa_isDead_X35 l G E σ p2 r1) (Y := z_Fa_isDead_Y35 l G E σ p2 r1) hl20 K21 (fun s t hf hz => t_Fa_isDead_B35 hf hz)
    · replace h := aw_ifn c7 h
      refine aw_iconst (pc := 27) (v := 0) dX1_isDead_27 (by decide) ?_
      cases h
      subst hE
      exact aw_iret (v := (0 : Int32)) rfl aw_n0 ⟨Nat.zero_le _, Nat.zero_le _⟩ dX1_isDead_28
theorem c_Fa_isDead {l : Launch} {G : aw_G} {σ : aw_S} {p2 : Int32} {t : Int32} (h : m_Fa_isDead σ p2 = some t) : aw_Ct l yX1_isDead M_Fa_isDead G B_Fa_isDead [.ref 41, .ref 24, .int p2] xA σ (some (.int t), xA, σ) := aw_Ct_of (by decide) rfl (fun h => by cases h) (Nat.le_of_ble_eq_true rfl) (t_Fa_isDead h rfl)
/-! LateMover.dead(I)I -/
def z_Mo_dead_X46 (l : Launch) (G : aw_G) (E : aw_E) (σ : aw_S) (s : Int32 × Int32) : Prop := aw_W l M_Mo_dead G B_Mo_dead E 46 [(0, .ref 0), (2, .int s.1), (3, .int s.2)] [] xA σ 0 0
def z_Mo_dead_Y46 (l : Launch) (G : aw_G) (E : aw_E) (σ : aw_S) (x : (Int32)) : Prop := aw_W l M_Mo_dead G B_Mo_dead E 81 [(2, .int x)] [] xA σ 0 0
set_option maxRecDepth 100000 in
set_option maxHeartbeats 4000000 in
theorem t_Mo_dead_B46 {l : Launch} {G : aw_G} {E : aw_E} {σ : aw_S} {v2 : Int32} {v3 : Int32} {t : (Int32) ⊕ (Int32 × Int32)} (h : m_Mo_dead_B46 σ v2 v3 = some t) (hz : Sum.elim (z_Mo_dead_Y46 l G E σ) (z_Mo_dead_X46 l G E σ) t) : aw_W l M_Mo_dead G B_Mo_dead E 46 [(0, .ref 0), (2, .int v2), (3, .int v3)] [] xA σ 0 0 := by
  unfold m_Mo_dead_B46 at h
  refine aw_iload_n (pc := 46) (q := 2) dX11_dead_46 rfl ?_
  refine aw_aload_n (pc := 47) (q := 0) dX11_dead_47 rfl ?_
  refine aw_getC (pc := 48) fd_X11_36.r xA_0 rfl dX11_dead_48 ?_
  refine aw_getI (pc := 51) fd_X11_120.r xA_24 rfl dX11_dead_51 ?_
  refine aw_icmp_ge (pc := 54) (tgt := 81) dX11_dead_54 (by decide) (fun c8 => ?_) (fun c8 => ?_)
  · replace h := aw_ifp c8 h
    refine aw_sub [1] rfl ?_
    cases h
    exact hz
  · replace h := aw_ifn c8 h
    refine aw_iload_n (pc := 57) (q := 1) dX11_dead_57 rfl ?_
    refine aw_aload_n (pc := 58) (q := 0) dX11_dead_58 rfl ?_
    refine aw_getC (pc := 59) fd_X11_43.r xA_0 rfl dX11_dead_59 ?_
    refine aw_aload_n (pc := 62) (q := 0) dX11_dead_62 rfl ?_
    refine aw_getC (pc := 63) fd_X11_36.r xA_0 rfl dX11_dead_63 ?_
    refine aw_iload_n (pc := 66) (q := 2) dX11_dead_66 rfl ?_
    obtain ⟨r9, e10, h⟩ := aw_bde h
    refine aw_cV1 (pc := 67) [.ref 24, .int v3] (c_Fa_isDead e10) yy_Fa_isDead.1 wm_1253 yy_Fa_isDead.2.1 yy_Fa_isDead.2.2 xA_41 ⟨_, _, rfl⟩ rfl ⟨Nat.le_of_ble_eq_true rfl, Nat.le_of_ble_eq_true rfl⟩ ⟨Nat.zero_le _, Nat.zero_le _⟩ (Nat.le_of_ble_eq_true rfl) dX11_dead_67 ?_
    obtain ⟨r11, e12, h⟩ := aw_bde h
    refine aw_cS1 (pc := 70) [.int r9] (c_Mo_oneIf e12) yy_Mo_oneIf.1 wm_894 yy_Mo_oneIf.2 rfl ⟨Nat.le_of_ble_eq_true rfl, Nat.le_of_ble_eq_true rfl⟩ ⟨Nat.zero_le _, Nat.zero_le _⟩ (Nat.le_of_ble_eq_true rfl) dX11_dead_70 ?_
    refine aw_iadd (pc := 73) dX11_dead_73 ?_
    refine aw_nmI (fun x13 e_x13 => ?_)
    replace h := aw_lte h x13 e_x13
    refine aw_istore_n (pc := 74) [(2, .int x13), (0, .ref 0), (3, .int v3)] dX11_dead_74 (by decide) rfl ?_
    obtain ⟨x14, e_x14⟩ : ∃ z, z = (v3 + (1 : Int32)) := ⟨_, rfl⟩
    replace h := aw_lte h x14 e_x14
    refine aw_iinc (pc := 75) (q := 2) (v := x14) [(3, .int x14), (2, .int x13), (0, .ref 0)] dX11_dead_75 rfl e_x14.symm (by decide) rfl ?_
    refine aw_goto (pc := 78) (tgt := 46) dX11_dead_78 (by decide) ?_
    refine aw_sub [2, 1, 0] rfl ?_
    cases h
    exact hz
set_option maxRecDepth 100000 in
set_option maxHeartbeats 4000000 in
theorem t_Mo_dead {l : Launch} {G : aw_G} {E : aw_E} {σ : aw_S} {p1 : Int32} {t : Int32} (h : m_Mo_dead σ p1 = some t) (hE : E = (some (.int t), xA, σ)) : aw_W l M_Mo_dead G B_Mo_dead E 0 [(0, .ref 0), (1, .int p1)] [] xA σ 0 0 := by
  unfold m_Mo_dead at h
  refine aw_aload_n (pc := 0) (q := 0) dX11_dead_0 rfl ?_
  refine aw_getC (pc := 1) fd_X11_36.r xA_0 rfl dX11_dead_1 ?_
  refine aw_iload_n (pc := 4) (q := 1) dX11_dead_4 rfl ?_
  obtain ⟨r1, e2, h⟩ := aw_bde h
  refine aw_cV1 (pc := 5) [.int p1] (c_Gr_isNode e2) yy_Gr_isNode.1 wm_917 yy_Gr_isNode.2.1 yy_Gr_isNode.2.2 xA_24 ⟨_, _, rfl⟩ rfl ⟨Nat.le_of_ble_eq_true rfl, Nat.le_of_ble_eq_true rfl⟩ ⟨Nat.zero_le _, Nat.zero_le _⟩ (Nat.le_of_ble_eq_true rfl) dX11_dead_5 ?_
  refine aw_if_eq (pc := 8) (tgt := 27) dX11_dead_8 (by decide) (fun c3 => ?_) (fun c3 => ?_)
  · replace h := aw_ifp c3 h
    refine aw_iload_n (pc := 27) (q := 1) dX11_dead_27 rfl ?_
    refine aw_iconst (pc := 28) (v := -1) dX11_dead_28 (by decide) ?_
    refine aw_icmp_ne (pc := 29) (tgt := 39) dX11_dead_29 (by decide) (fun c4 => ?_) (fun c4 => ?_)
    · replace h := aw_ifn c4 h
      refine aw_bipush (pc := 39) (v := -2) dX11_dead_39 (by decide) ?_
      cases h
      subst hE
      exact aw_iret (v := (-2 : Int32)) rfl aw_ni ⟨Nat.zero_le _, Nat.zero_le _⟩ dX11_dead_41
    · replace h := aw_ifp c4 h
      refine aw_aload_n (pc := 32) (q := 0) dX11_dead_32 rfl ?_
      obtain ⟨r5, e6, h⟩ := aw_bde h
      refine aw_cV1 (pc := 33) [] (c_Mo_isProgram e6) yy_Mo_isProgram.1 wm_1083 yy_Mo_isProgram.2.1 yy_Mo_isProgram.2.2 xA_0 ⟨_, _, rfl⟩ rfl ⟨Nat.le_of_ble_eq_true rfl, Nat.le_of_ble_eq_true rfl⟩ ⟨Nat.zero_le _, Nat.zero_le _⟩ (Nat.le_of_ble_eq_true rfl) dX11_dead_33 ?_
      refine aw_if_ne (pc := 36) (tgt := 42) dX11_dead_36 (by decide) (fun c7 => ?_) (fun c7 => ?_)
      · replace h := aw_ifn c7 h
        refine aw_iconst (pc := 42) (v := 0) dX11_dead_42 (by decide) ?_
        refine aw_istore_n (pc := 43) [(2, .int ((0 : Int32))), (0, .ref 0), (1, .int p1)] dX11_dead_43 (by decide) rfl ?_
        refine aw_iconst (pc := 44) (v := 0) dX11_dead_44 (by decide) ?_
        refine aw_istore_n (pc := 45) [(3, .int ((0 : Int32))), (2, .int ((0 : Int32))), (0, .ref 0), (1, .int p1)] dX11_dead_45 (by decide) rfl ?_
        obtain ⟨x15, hl16, h⟩ := aw_bde h
        have K17 : z_Mo_dead_Y46 l G E σ x15 := by
          show aw_W l M_Mo_dead G B_Mo_dead E 81 [(2, .int x15)] [] xA σ 0 0
          refine aw_iload_n (pc := 81) (q := 0) dX11_dead_81 rfl ?_
          cases h
          subst hE
          exact aw_iret (v := _) rfl aw_ni ⟨Nat.zero_le _, Nat.zero_le _⟩ dX11_dead_82
        refine aw_sub [2, 1, 0] rfl ?_
        show z_Mo_dead_X46 l G E σ (((0 : Int32), (0 : Int32)))
        exact aw_lp_X (Xp := z_Mo_dead_X46 l G E σ) (Y := z_Mo_dead_Y46 l G E σ) hl16 K17 (fun s t hf hz => t_Mo_dead_B46 hf hz)
      · replace h := aw_ifp c7 h
        refine aw_bipush (pc := 39) (v := -2) dX11_dead_39 (by decide) ?_
        cases h
        subst hE
        exact aw_iret (v := (-2 : Int32)) rfl aw_ni ⟨Nat.zero_le _, Nat.zero_le _⟩ dX11_dead_41
  · replace h := aw_ifn c3 h
    refine aw_aload_n (pc := 11) (q := 0) dX11_dead_11 rfl ?_
    refine aw_getC (pc := 12) fd_X11_43.r xA_0 rfl dX11_dead_12 ?_
    refine aw_aload_n (pc := 15) (q := 0) dX11_dead_15 rfl ?_
    refine aw_getC (pc := 16) fd_X11_36.r xA_0 rfl dX11_dead_16 ?_
    refine aw_iload_n (pc := 19) (q := 1) dX11_dead_19 rfl ?_
    obtain ⟨r18, e19, h⟩ := aw_bde h
    refine aw_cV1 (pc := 20) [.ref 24, .int p1] (c_Fa_isDead e19) yy_Fa_isDead.1 wm_1253 yy_Fa_isDead.2.1 yy_Fa_isDead.2.2 xA_41 ⟨_, _, rfl⟩ rfl ⟨Nat.le_of_ble_eq_true rfl, Nat.le_of_ble_eq_true rfl⟩ ⟨Nat.zero_le _, Nat.zero_le _⟩ (Nat.le_of_ble_eq_true rfl) dX11_dead_20 ?_
    obtain ⟨r20, e21, h⟩ := aw_bde h
    refine aw_cS1 (pc := 23) [.int r18] (c_Mo_oneIf e21) yy_Mo_oneIf.1 wm_894 yy_Mo_oneIf.2 rfl ⟨Nat.le_of_ble_eq_true rfl, Nat.le_of_ble_eq_true rfl⟩ ⟨Nat.zero_le _, Nat.zero_le _⟩ (Nat.le_of_ble_eq_true rfl) dX11_dead_23 ?_
    cases h
    subst hE
    exact aw_iret (v := _) rfl aw_ni ⟨Nat.zero_le _, Nat.zero_le _⟩ dX11_dead_26
theorem c_Mo_dead {l : Launch} {G : aw_G} {σ : aw_S} {p1 : Int32} {t : Int32} (h : m_Mo_dead σ p1 = some t) : aw_Ct l yX11_dead M_Mo_dead G B_Mo_dead [.ref 0, .int p1] xA σ (some (.int t), xA, σ) := aw_Ct_of (by decide) rfl (fun h => by cases h) (Nat.le_of_ble_eq_true rfl) (t_Mo_dead h rfl)
/-! LateMover.again(II)I -/
def z_Mo_again_X24 (l : Launch) (G : aw_G) (E : aw_E) (σ : aw_S) (v1 : Int32) (v2 : Int32) (s : Int32 × Int32) : Prop := aw_W l M_Mo_again G B_Mo_again E 24 [(0, .ref 0), (1, .int v1), (2, .int v2), (3, .int s.1), (4, .int s.2)] [] xA σ 0 0
def z_Mo_again_Y24 (l : Launch) (G : aw_G) (E : aw_E) (σ : aw_S) (v1 : Int32) (v2 : Int32) (x : (Int32)) : Prop := aw_W l M_Mo_again G B_Mo_again E 108 [(3, .int x)] [] xA σ 0 0
set_option maxRecDepth 100000 in
set_option maxHeartbeats 4000000 in
theorem t_Mo_again_J80 {l : Launch} {G : aw_G} {E : aw_E} {σ : aw_S} {v1 : Int32} {v2 : Int32} {v3 : Int32} {v4 : Int32} {k0 : Int32} {t : (Int32) ⊕ (Int32 × Int32)} (h : m_Mo_again_J80 σ v1 v2 v3 v4 k0 = some t) (hz : Sum.elim (z_Mo_again_Y24 l G E σ v1 v2) (z_Mo_again_X24 l G E σ v1 v2) t) : aw_W l M_Mo_again G B_Mo_again E 80 [(0, .ref 0), (1, .int v1), (2, .int v2), (3, .int v3), (4, .int v4)] [.int k0] xA σ 0 0 := by
  unfold m_Mo_again_J80 at h
  refine aw_istore (pc := 80) [(6, .int k0), (0, .ref 0), (1, .int v1), (2, .int v2), (3, .int v3), (4, .int v4)] dX11_again_80 (by decide) rfl ?_
  refine aw_iload_n (pc := 82) (q := 4) dX11_again_82 rfl ?_
  refine aw_iload (pc := 83) (q := 0) dX11_again_83 rfl ?_
  refine aw_aload_n (pc := 85) (q := 1) dX11_again_85 rfl ?_
  refine aw_getC (pc := 86) fd_X11_43.r xA_0 rfl dX11_again_86 ?_
  refine aw_getC (pc := 89) fd_X11_151 xA_41 rfl dX11_again_89 ?_
  refine aw_iload (pc := 92) (q := 5) dX11_again_92 rfl ?_
  obtain ⟨g11, h⟩ := aw_gde h
  refine aw_iald (pc := 94) xA_47 g11 dX11_again_94 ?_
  refine aw_iand (pc := 95) dX11_again_95 ?_
  refine aw_iload_n (pc := 96) (q := 2) dX11_again_96 rfl ?_
  obtain ⟨r12, e13, h⟩ := aw_bde h
  refine aw_cS1 (pc := 97) [.int ((k0 &&& (σ.1 47 v4.toNatClampNeg))), .int v1] (c_Mo_bitOf e13) yy_Mo_bitOf.1 wm_970 yy_Mo_bitOf.2 rfl ⟨Nat.le_of_ble_eq_true rfl, Nat.le_of_ble_eq_true rfl⟩ ⟨Nat.zero_le _, Nat.zero_le _⟩ (Nat.le_of_ble_eq_true rfl) dX11_again_97 ?_
  refine aw_iadd (pc := 100) dX11_again_100 ?_
  refine aw_nmI (fun x14 e_x14 => ?_)
  replace h := aw_lte h x14 e_x14
  refine aw_istore_n (pc := 101) [(3, .int x14), (6, .int k0), (0, .ref 0), (1, .int v1), (2, .int v2), (4, .int v4)] dX11_again_101 (by decide) rfl ?_
  obtain ⟨x15, e_x15⟩ : ∃ z, z = (v4 + (1 : Int32)) := ⟨_, rfl⟩
  replace h := aw_lte h x15 e_x15
  refine aw_iinc (pc := 102) (q := 5) (v := x15) [(4, .int x15), (3, .int x14), (6, .int k0), (0, .ref 0), (1, .int v1), (2, .int v2)] dX11_again_102 rfl e_x15.symm (by decide) rfl ?_
  refine aw_goto (pc := 105) (tgt := 24) dX11_again_105 (by decide) ?_
  refine aw_sub [3, 4, 5, 1, 0] rfl ?_
  cases h
  exact hz
set_option maxRecDepth 100000 in
set_option maxHeartbeats 4000000 in
theorem t_Mo_again_B24 {l : Launch} {G : aw_G} {E : aw_E} {σ : aw_S} {v1 : Int32} {v2 : Int32} {v3 : Int32} {v4 : Int32} {t : (Int32) ⊕ (Int32 × Int32)} (h : m_Mo_again_B24 σ v1 v2 v3 v4 = some t) (hz : Sum.elim (z_Mo_again_Y24 l G E σ v1 v2) (z_Mo_again_X24 l G E σ v1 v2) t) : aw_W l M_Mo_again G B_Mo_again E 24 [(0, .ref 0), (1, .int v1), (2, .int v2), (3, .int v3), (4, .int v4)] [] xA σ 0 0 := by
  unfold m_Mo_again_B24 at h
  refine aw_iload (pc := 24) (q := 4) dX11_again_24 rfl ?_
  refine aw_aload_n (pc := 26) (q := 0) dX11_again_26 rfl ?_
  refine aw_getC (pc := 27) fd_X11_36.r xA_0 rfl dX11_again_27 ?_
  refine aw_getI (pc := 30) fd_X11_120.r xA_24 rfl dX11_again_30 ?_
  refine aw_icmp_ge (pc := 33) (tgt := 108) dX11_again_33 (by decide) (fun c6 => ?_) (fun c6 => ?_)
  · replace h := aw_ifp c6 h
    refine aw_sub [3] rfl ?_
    cases h
    exact hz
  · replace h := aw_ifn c6 h
    refine aw_aload_n (pc := 36) (q := 0) dX11_again_36 rfl ?_
    refine aw_getC (pc := 37) fd_X11_43.r xA_0 rfl dX11_again_37 ?_
    refine aw_getC (pc := 40) fd_X11_351 xA_41 rfl dX11_again_40 ?_
    refine aw_iload (pc := 43) (q := 4) dX11_again_43 rfl ?_
    obtain ⟨g7, h⟩ := aw_gde h
    refine aw_iald (pc := 45) xA_55 g7 dX11_again_45 ?_
    refine aw_aload_n (pc := 46) (q := 0) dX11_again_46 rfl ?_
    refine aw_getC (pc := 47) fd_X11_43.r xA_0 rfl dX11_again_47 ?_
    refine aw_getC (pc := 50) fd_X11_258 xA_41 rfl dX11_again_50 ?_
    refine aw_iload (pc := 53) (q := 4) dX11_again_53 rfl ?_
    obtain ⟨g8, h⟩ := aw_gde h
    refine aw_iald (pc := 55) xA_50 g8 dX11_again_55 ?_
    refine aw_iconst (pc := 56) (v := -1) dX11_again_56 (by decide) ?_
    refine aw_ixor (pc := 57) dX11_again_57 ?_
    refine aw_iand (pc := 58) dX11_again_58 ?_
    refine aw_nmI (fun x9 e_x9 => ?_)
    replace h := aw_lte h x9 e_x9
    refine aw_istore (pc := 59) [(5, .int x9), (0, .ref 0), (1, .int v1), (2, .int v2), (3, .int v3), (4, .int v4)] dX11_again_59 (by decide) rfl ?_
    refine aw_iload_n (pc := 61) (q := 3) dX11_again_61 rfl ?_
    refine aw_if_ne (pc := 62) (tgt := 78) dX11_again_62 (by decide) (fun c10 => ?_) (fun c10 => ?_)
    · replace h := aw_ifn c10 h
      refine aw_iload (pc := 78) (q := 0) dX11_again_78 rfl ?_
      refine aw_sub [1, 2, 3, 4, 5] rfl ?_
      exact t_Mo_again_J80 h hz
    · replace h := aw_ifp c10 h
      refine aw_aload_n (pc := 65) (q := 1) dX11_again_65 rfl ?_
      refine aw_getC (pc := 66) fd_X11_43.r xA_0 rfl dX11_again_66 ?_
      refine aw_getC (pc := 69) fd_X11_258 xA_41 rfl dX11_again_69 ?_
      refine aw_iload (pc := 72) (q := 5) dX11_again_72 rfl ?_
      obtain ⟨g16, h⟩ := aw_gde h
      refine aw_iald (pc := 74) xA_50 g16 dX11_again_74 ?_
      refine aw_goto (pc := 75) (tgt := 80) dX11_again_75 (by decide) ?_
      refine aw_sub [1, 2, 3, 4, 5] rfl ?_
      exact t_Mo_again_J80 h hz
set_option maxRecDepth 100000 in
set_option maxHeartbeats 4000000 in
theorem t_Mo_again {l : Launch} {G : aw_G} {E : aw_E} {σ : aw_S} {p1 : Int32} {p2 : Int32} {t : Int32} (h : m_Mo_again σ p1 p2 = some t) (hE : E = (some (.int t), xA, σ)) : aw_W l M_Mo_again G B_Mo_again E 0 [(0, .ref 0), (1, .int p1), (2, .int p2)] [] xA σ 0 0 := by
  unfold m_Mo_again at h
  refine aw_aload_n (pc := 0) (q := 0) dX11_again_0 rfl ?_
  refine aw_iload_n (pc := 1) (q := 1) dX11_again_1 rfl ?_
  obtain ⟨r1, e2, h⟩ := aw_bde h
  refine aw_cV1 (pc := 2) [.int p1] (c_Mo_isSoundOne e2) yy_Mo_isSoundOne.1 wm_966 yy_Mo_isSoundOne.2.1 yy_Mo_isSoundOne.2.2 xA_0 ⟨_, _, rfl⟩ rfl ⟨Nat.le_of_ble_eq_true rfl, Nat.le_of_ble_eq_true rfl⟩ ⟨Nat.zero_le _, Nat.zero_le _⟩ (Nat.le_of_ble_eq_true rfl) dX11_again_2 ?_
  refine aw_if_eq (pc := 5) (tgt := 17) dX11_again_5 (by decide) (fun c3 => ?_) (fun c3 => ?_)
  · replace h := aw_ifp c3 h
    refine aw_iconst (pc := 17) (v := -1) dX11_again_17 (by decide) ?_
    cases h
    subst hE
    exact aw_iret (v := (-1 : Int32)) rfl aw_ni ⟨Nat.zero_le _, Nat.zero_le _⟩ dX11_again_18
  · replace h := aw_ifn c3 h
    refine aw_iload_n (pc := 8) (q := 2) dX11_again_8 rfl ?_
    refine aw_if_lt (pc := 9) (tgt := 17) dX11_again_9 (by decide) (fun c4 => ?_) (fun c4 => ?_)
    · replace h := aw_ifp c4 h
      refine aw_iconst (pc := 17) (v := -1) dX11_again_17 (by decide) ?_
      cases h
      subst hE
      exact aw_iret (v := (-1 : Int32)) rfl aw_ni ⟨Nat.zero_le _, Nat.zero_le _⟩ dX11_again_18
    · replace h := aw_ifn c4 h
      refine aw_iload_n (pc := 12) (q := 2) dX11_again_12 rfl ?_
      refine aw_iconst (pc := 13) (v := 1) dX11_again_13 (by decide) ?_
      refine aw_icmp_le (pc := 14) (tgt := 19) dX11_again_14 (by decide) (fun c5 => ?_) (fun c5 => ?_)
      · replace h := aw_ifp c5 h
        refine aw_iconst (pc := 19) (v := 0) dX11_again_19 (by decide) ?_
        refine aw_istore_n (pc := 20) [(3, .int ((0 : Int32))), (0, .ref 0), (1, .int p1), (2, .int p2)] dX11_again_20 (by decide) rfl ?_
        refine aw_iconst (pc := 21) (v := 0) dX11_again_21 (by decide) ?_
        refine aw_istore (pc := 22) [(4, .int ((0 : Int32))), (3, .int ((0 : Int32))), (0, .ref 0), (1, .int p1), (2, .int p2)] dX11_again_22 (by decide) rfl ?_
        obtain ⟨x17, hl18, h⟩ := aw_bde h
        have K19 : z_Mo_again_Y24 l G E σ p1 p2 x17 := by
          show aw_W l M_Mo_again G B_Mo_again E 108 [(3, .int x17)] [] xA σ 0 0
          refine aw_iload_n (pc := 108) (q := 0) dX11_again_108 rfl ?_
          cases h
          subst hE
          exact aw_iret (v := _) rfl aw_ni ⟨Nat.zero_le _, Nat.zero_le _⟩ dX11_again_109
        refine aw_sub [2, 3, 4, 1, 0] rfl ?_
        show z_Mo_again_X24 l G E σ p1 p2 (((0 : Int32), (0 : Int32)))
        exact aw_lp_X (Xp := z_Mo_again_X24 l G E σ p1 p2) (Y := z_Mo_again_Y24 l G E σ p1 p2) hl18 K19 (fun s t hf hz => t_Mo_again_B24 hf hz)
      · replace h := aw_ifn c5 h
        refine aw_iconst (pc := 17) (v := -1) dX11_again_17 (by decide) ?_
        cases h
        subst hE
        exact aw_iret (v := (-1 : Int32)) rfl aw_ni ⟨Nat.zero_le _, Nat.zero_le _⟩ dX11_again_18
theorem c_Mo_again {l : Launch} {G : aw_G} {σ : aw_S} {p1 : Int32} {p2 : Int32} {t : Int32} (h : m_Mo_again σ p1 p2 = some t) : aw_Ct l yX11_again M_Mo_again G B_Mo_again [.ref 0, .int p1, .int p2] xA σ (some (.int t), xA, σ) := aw_Ct_of (by decide) rfl (fun h => by cases h) (Nat.le_of_ble_eq_true rfl) (t_Mo_again h rfl)
/-! LateMover.over(II)I -/
set_option maxRecDepth 100000 in
set_option maxHeartbeats 4000000 in
theorem t_Mo_over {l : Launch} {G : aw_G} {E : aw_E} {σ : aw_S} {p1 : Int32} {p2 : Int32} {t : Int32} (h : m_Mo_over σ p1 p2 = some t) (hE : E = (some (.int t), xA, σ)) : aw_W l M_Mo_over G B_Mo_over E 0 [(0, .ref 0), (1, .int p1), (2, .int p2)] [] xA σ 0 0 := by
  unfold m_Mo_over at h
  refine aw_aload_n (pc := 0) (q := 0) dX11_over_0 rfl ?_
  refine aw_getC (pc := 1) fd_X11_36.r xA_0 rfl dX11_over_1 ?_
  refine aw_iload_n (pc := 4) (q := 1) dX11_over_4 rfl ?_
  obtain ⟨r1, e2, h⟩ := aw_bde h
  refine aw_cV1 (pc := 5) [.int p1] (c_Gr_isNode e2) yy_Gr_isNode.1 wm_917 yy_Gr_isNode.2.1 yy_Gr_isNode.2.2 xA_24 ⟨_, _, rfl⟩ rfl ⟨Nat.le_of_ble_eq_true rfl, Nat.le_of_ble_eq_true rfl⟩ ⟨Nat.zero_le _, Nat.zero_le _⟩ (Nat.le_of_ble_eq_true rfl) dX11_over_5 ?_
  refine aw_if_eq (pc := 8) (tgt := 37) dX11_over_8 (by decide) (fun c3 => ?_) (fun c3 => ?_)
  · replace h := aw_ifp c3 h
    refine aw_iconst (pc := 37) (v := -1) dX11_over_37 (by decide) ?_
    cases h
    subst hE
    exact aw_iret (v := (-1 : Int32)) rfl aw_ni ⟨Nat.zero_le _, Nat.zero_le _⟩ dX11_over_38
  · replace h := aw_ifn c3 h
    refine aw_aload_n (pc := 11) (q := 0) dX11_over_11 rfl ?_
    refine aw_getC (pc := 12) fd_X11_36.r xA_0 rfl dX11_over_12 ?_
    refine aw_iload_n (pc := 15) (q := 2) dX11_over_15 rfl ?_
    obtain ⟨r4, e5, h⟩ := aw_bde h
    refine aw_cV1 (pc := 16) [.int p2] (c_Gr_isNode e5) yy_Gr_isNode.1 wm_917 yy_Gr_isNode.2.1 yy_Gr_isNode.2.2 xA_24 ⟨_, _, rfl⟩ rfl ⟨Nat.le_of_ble_eq_true rfl, Nat.le_of_ble_eq_true rfl⟩ ⟨Nat.zero_le _, Nat.zero_le _⟩ (Nat.le_of_ble_eq_true rfl) dX11_over_16 ?_
    refine aw_if_eq (pc := 19) (tgt := 37) dX11_over_19 (by decide) (fun c6 => ?_) (fun c6 => ?_)
    · replace h := aw_ifp c6 h
      refine aw_iconst (pc := 37) (v := -1) dX11_over_37 (by decide) ?_
      cases h
      subst hE
      exact aw_iret (v := (-1 : Int32)) rfl aw_ni ⟨Nat.zero_le _, Nat.zero_le _⟩ dX11_over_38
    · replace h := aw_ifn c6 h
      refine aw_aload_n (pc := 22) (q := 0) dX11_over_22 rfl ?_
      refine aw_getC (pc := 23) fd_X11_50.r xA_0 rfl dX11_over_23 ?_
      refine aw_iload_n (pc := 26) (q := 1) dX11_over_26 rfl ?_
      refine aw_iload_n (pc := 27) (q := 2) dX11_over_27 rfl ?_
      obtain ⟨r7, e8, h⟩ := aw_bde h
      refine aw_cV1 (pc := 28) [.int p1, .int p2] (c_Lo_isOver e8) yy_Lo_isOver.1 wm_1282 yy_Lo_isOver.2.1 yy_Lo_isOver.2.2 xA_58 ⟨_, _, rfl⟩ rfl ⟨Nat.le_of_ble_eq_true rfl, Nat.le_of_ble_eq_true rfl⟩ ⟨Nat.zero_le _, Nat.zero_le _⟩ (Nat.le_of_ble_eq_true rfl) dX11_over_28 ?_
      obtain ⟨r9, e10, h⟩ := aw_bde h
      refine aw_cS1 (pc := 31) [.int r7] (c_Mo_oneIf e10) yy_Mo_oneIf.1 wm_894 yy_Mo_oneIf.2 rfl ⟨Nat.le_of_ble_eq_true rfl, Nat.le_of_ble_eq_true rfl⟩ ⟨Nat.zero_le _, Nat.zero_le _⟩ (Nat.le_of_ble_eq_true rfl) dX11_over_31 ?_
      refine aw_goto (pc := 34) (tgt := 38) dX11_over_34 (by decide) ?_
      cases h
      subst hE
      exact aw_iret (v := _) rfl aw_ni ⟨Nat.zero_le _, Nat.zero_le _⟩ dX11_over_38
theorem c_Mo_over {l : Launch} {G : aw_G} {σ : aw_S} {p1 : Int32} {p2 : Int32} {t : Int32} (h : m_Mo_over σ p1 p2 = some t) : aw_Ct l yX11_over M_Mo_over G B_Mo_over [.ref 0, .int p1, .int p2] xA σ (some (.int t), xA, σ) := aw_Ct_of (by decide) rfl (fun h => by cases h) (Nat.le_of_ble_eq_true rfl) (t_Mo_over h rfl)
/-! LateMover.depth(I)I -/
set_option maxRecDepth 100000 in
set_option maxHeartbeats 4000000 in
theorem t_Mo_depth {l : Launch} {G : aw_G} {E : aw_E} {σ : aw_S} {p1 : Int32} {t : Int32} (h : m_Mo_depth σ p1 = some t) (hE : E = (some (.int t), xA, σ)) : aw_W l M_Mo_depth G B_Mo_depth E 0 [(0, .ref 0), (1, .int p1)] [] xA σ 0 0 := by
  unfold m_Mo_depth at h
  refine aw_aload_n (pc := 0) (q := 0) dX11_depth_0 rfl ?_
  refine aw_getC (pc := 1) fd_X11_36.r xA_0 rfl dX11_depth_1 ?_
  refine aw_iload_n (pc := 4) (q := 1) dX11_depth_4 rfl ?_
  obtain ⟨r1, e2, h⟩ := aw_bde h
  refine aw_cV1 (pc := 5) [.int p1] (c_Gr_isNode e2) yy_Gr_isNode.1 wm_917 yy_Gr_isNode.2.1 yy_Gr_isNode.2.2 xA_24 ⟨_, _, rfl⟩ rfl ⟨Nat.le_of_ble_eq_true rfl, Nat.le_of_ble_eq_true rfl⟩ ⟨Nat.zero_le _, Nat.zero_le _⟩ (Nat.le_of_ble_eq_true rfl) dX11_depth_5 ?_
  refine aw_if_eq (pc := 8) (tgt := 23) dX11_depth_8 (by decide) (fun c3 => ?_) (fun c3 => ?_)
  · replace h := aw_ifp c3 h
    refine aw_iconst (pc := 23) (v := -1) dX11_depth_23 (by decide) ?_
    cases h
    subst hE
    exact aw_iret (v := (-1 : Int32)) rfl aw_ni ⟨Nat.zero_le _, Nat.zero_le _⟩ dX11_depth_24
  · replace h := aw_ifn c3 h
    refine aw_aload_n (pc := 11) (q := 0) dX11_depth_11 rfl ?_
    refine aw_getC (pc := 12) fd_X11_50.r xA_0 rfl dX11_depth_12 ?_
    refine aw_getC (pc := 15) fd_X11_358 xA_58 rfl dX11_depth_15 ?_
    refine aw_iload_n (pc := 18) (q := 1) dX11_depth_18 rfl ?_
    obtain ⟨g4, h⟩ := aw_gde h
    refine aw_iald (pc := 19) xA_62 g4 dX11_depth_19 ?_
    refine aw_goto (pc := 20) (tgt := 24) dX11_depth_20 (by decide) ?_
    cases h
    subst hE
    exact aw_iret (v := (σ.1 62 p1.toNatClampNeg)) rfl aw_ni ⟨Nat.zero_le _, Nat.zero_le _⟩ dX11_depth_24
theorem c_Mo_depth {l : Launch} {G : aw_G} {σ : aw_S} {p1 : Int32} {t : Int32} (h : m_Mo_depth σ p1 = some t) : aw_Ct l yX11_depth M_Mo_depth G B_Mo_depth [.ref 0, .int p1] xA σ (some (.int t), xA, σ) := aw_Ct_of (by decide) rfl (fun h => by cases h) (Nat.le_of_ble_eq_true rfl) (t_Mo_depth h rfl)
/-! LateMover.heads()I -/
set_option maxRecDepth 100000 in
set_option maxHeartbeats 4000000 in
theorem t_Mo_heads {l : Launch} {G : aw_G} {E : aw_E} {σ : aw_S} {t : Int32} (h : m_Mo_heads σ = some t) (hE : E = (some (.int t), xA, σ)) : aw_W l M_Mo_heads G B_Mo_heads E 0 [(0, .ref 0)] [] xA σ 0 0 := by
  unfold m_Mo_heads at h
  refine aw_aload_n (pc := 0) (q := 0) dX11_heads_0 rfl ?_
  refine aw_getC (pc := 1) fd_X11_50.r xA_0 rfl dX11_heads_1 ?_
  refine aw_getI (pc := 4) fd_X11_361.r xA_58 rfl dX11_heads_4 ?_
  cases h
  subst hE
  exact aw_iret (v := (σ.1 58 4)) rfl aw_ni ⟨Nat.zero_le _, Nat.zero_le _⟩ dX11_heads_7
theorem c_Mo_heads {l : Launch} {G : aw_G} {σ : aw_S} {t : Int32} (h : m_Mo_heads σ = some t) : aw_Ct l yX11_heads M_Mo_heads G B_Mo_heads [.ref 0] xA σ (some (.int t), xA, σ) := aw_Ct_of (by decide) rfl (fun h => by cases h) (Nat.le_of_ble_eq_true rfl) (t_Mo_heads h rfl)
/-! LateMover$Placement.computedAt(LLateMover$Graph;I)I -/
set_option maxRecDepth 100000 in
set_option maxHeartbeats 4000000 in
theorem t_Pl_computedAt_J24 {l : Launch} {G : aw_G} {E : aw_E} {σ : aw_S} {v0 : Nat} {v2 : Int32} {k0 : Int32} (h_v0 : isPl v0) {t : Int32} (h : m_Pl_computedAt_J24 σ v0 v2 k0 = some t) (hE : E = (some (.int t), xA, σ)) : aw_W l M_Pl_computedAt G B_Pl_computedAt E 24 [(0, .ref v0), (2, .int v2)] [.int k0] xA σ 0 0 := by
  unfold m_Pl_computedAt_J24 at h
  refine aw_istore_n (pc := 24) [(3, .int k0), (0, .ref v0), (2, .int v2)] dX6_computedAt_24 (by decide) rfl ?_
  refine aw_aload_n (pc := 25) (q := 1) dX6_computedAt_25 rfl ?_
  refine aw_getC (pc := 26) fd_X6_9.r h_v0.1 rfl dX6_computedAt_26 ?_
  refine aw_iload_n (pc := 29) (q := 2) dX6_computedAt_29 rfl ?_
  obtain ⟨g3, h⟩ := aw_gde h
  refine aw_iald (pc := 30) h_v0.2.1 g3 dX6_computedAt_30 ?_
  obtain ⟨r4, e5, h⟩ := aw_bde h
  refine aw_cS1 (pc := 31) [.int ((σ.1 (v0 + 1) v2.toNatClampNeg))] (c_In_bitCount e5) yy_In_bitCount.1 wm_1021 yy_In_bitCount.2 rfl ⟨Nat.le_of_ble_eq_true rfl, Nat.le_of_ble_eq_true rfl⟩ ⟨Nat.zero_le _, Nat.zero_le _⟩ (Nat.le_of_ble_eq_true rfl) dX6_computedAt_31 ?_
  refine aw_iload_n (pc := 34) (q := 0) dX6_computedAt_34 rfl ?_
  obtain ⟨r6, e7, h⟩ := aw_bde h
  refine aw_cN1 (pc := 35) [.int k0] (c_Mo_oneIf e7) yy_Mo_oneIf.1 nm_X6_87 yy_Mo_oneIf.2 rfl ⟨Nat.le_of_ble_eq_true rfl, Nat.le_of_ble_eq_true rfl⟩ ⟨Nat.zero_le _, Nat.zero_le _⟩ (Nat.le_of_ble_eq_true rfl) dX6_computedAt_35 ?_
  refine aw_iadd (pc := 38) dX6_computedAt_38 ?_
  cases h
  subst hE
  exact aw_iret (v := (r4 + r6)) rfl aw_ni ⟨Nat.zero_le _, Nat.zero_le _⟩ dX6_computedAt_39
set_option maxRecDepth 100000 in
set_option maxHeartbeats 4000000 in
theorem t_Pl_computedAt_J23 {l : Launch} {G : aw_G} {E : aw_E} {σ : aw_S} {v0 : Nat} {v2 : Int32} (h_v0 : isPl v0) {t : Int32} (h : m_Pl_computedAt_J23 σ v0 v2 = some t) (hE : E = (some (.int t), xA, σ)) : aw_W l M_Pl_computedAt G B_Pl_computedAt E 23 [(0, .ref v0), (2, .int v2)] [] xA σ 0 0 := by
  unfold m_Pl_computedAt_J23 at h
  refine aw_iconst (pc := 23) (v := 0) dX6_computedAt_23 (by decide) ?_
  exact t_Pl_computedAt_J24 h_v0 h hE
set_option maxRecDepth 100000 in
set_option maxHeartbeats 4000000 in
theorem t_Pl_computedAt {l : Launch} {G : aw_G} {E : aw_E} {σ : aw_S} {o : Nat} {p2 : Int32} (h_o : isPl o) {t : Int32} (h : m_Pl_computedAt σ o p2 = some t) (hE : E = (some (.int t), xA, σ)) : aw_W l M_Pl_computedAt G B_Pl_computedAt E 0 [(0, .ref o), (1, .ref 24), (2, .int p2)] [] xA σ 0 0 := by
  unfold m_Pl_computedAt at h
  refine aw_aload_n (pc := 0) (q := 1) dX6_computedAt_0 rfl ?_
  refine aw_getC (pc := 1) fd_X6_84 xA_24 rfl dX6_computedAt_1 ?_
  refine aw_iload_n (pc := 4) (q := 2) dX6_computedAt_4 rfl ?_
  obtain ⟨g1, h⟩ := aw_gde h
  refine aw_iald (pc := 5) xA_29 g1 dX6_computedAt_5 ?_
  refine aw_iconst (pc := 6) (v := 2) dX6_computedAt_6 (by decide) ?_
  refine aw_icmp_ne (pc := 7) (tgt := 23) dX6_computedAt_7 (by decide) (fun c2 => ?_) (fun c2 => ?_)
  · replace h := aw_ifn c2 h
    refine aw_sub [0, 2] rfl ?_
    exact t_Pl_computedAt_J23 h_o h hE
  · replace h := aw_ifp c2 h
    refine aw_aload_n (pc := 10) (q := 0) dX6_computedAt_10 rfl ?_
    refine aw_getC (pc := 11) fd_X6_15.r h_o.1 rfl dX6_computedAt_11 ?_
    refine aw_iload_n (pc := 14) (q := 2) dX6_computedAt_14 rfl ?_
    obtain ⟨g8, h⟩ := aw_gde h
    refine aw_iald (pc := 15) h_o.2.2.1 g8 dX6_computedAt_15 ?_
    refine aw_if_ne (pc := 16) (tgt := 23) dX6_computedAt_16 (by decide) (fun c9 => ?_) (fun c9 => ?_)
    · replace h := aw_ifn c9 h
      refine aw_sub [0, 2] rfl ?_
      exact t_Pl_computedAt_J23 h_o h hE
    · replace h := aw_ifp c9 h
      refine aw_iconst (pc := 19) (v := 1) dX6_computedAt_19 (by decide) ?_
      refine aw_goto (pc := 20) (tgt := 24) dX6_computedAt_20 (by decide) ?_
      refine aw_sub [0, 2] rfl ?_
      exact t_Pl_computedAt_J24 h_o h hE
theorem c_Pl_computedAt {l : Launch} {G : aw_G} {σ : aw_S} {o : Nat} {p2 : Int32} (h_o : isPl o) {t : Int32} (h : m_Pl_computedAt σ o p2 = some t) : aw_Ct l yX6_computedAt M_Pl_computedAt G B_Pl_computedAt [.ref o, .ref 24, .int p2] xA σ (some (.int t), xA, σ) := aw_Ct_of (by decide) rfl (fun h => by cases h) (Nat.le_of_ble_eq_true rfl) (t_Pl_computedAt h_o h rfl)
/-! LateMover.powerOfTen(I)J -/
def z_Mo_powerOfTen_X4 (l : Launch) (G : aw_G) (E : aw_E) (σ : aw_S) (v0 : Int32) (s : Int64 × Int32) : Prop := aw_W l M_Mo_powerOfTen G B_Mo_powerOfTen E 4 [(0, .int v0), (1, .long s.1), (3, .int s.2)] [] xA σ 0 0
def z_Mo_powerOfTen_Y4 (l : Launch) (G : aw_G) (E : aw_E) (σ : aw_S) (v0 : Int32) (x : (Int64)) : Prop := aw_W l M_Mo_powerOfTen G B_Mo_powerOfTen E 26 [(1, .long x)] [] xA σ 0 0
set_option maxRecDepth 100000 in
set_option maxHeartbeats 4000000 in
theorem t_Mo_powerOfTen_B4 {l : Launch} {G : aw_G} {E : aw_E} {σ : aw_S} {v0 : Int32} {v1 : Int64} {v3 : Int32} {t : (Int64) ⊕ (Int64 × Int32)} (h : m_Mo_powerOfTen_B4 σ v0 v1 v3 = some t) (hz : Sum.elim (z_Mo_powerOfTen_Y4 l G E σ v0) (z_Mo_powerOfTen_X4 l G E σ v0) t) : aw_W l M_Mo_powerOfTen G B_Mo_powerOfTen E 4 [(0, .int v0), (1, .long v1), (3, .int v3)] [] xA σ 0 0 := by
  unfold m_Mo_powerOfTen_B4 at h
  refine aw_iload_n (pc := 4) (q := 2) dX11_powerOfTen_4 rfl ?_
  refine aw_iload_n (pc := 5) (q := 0) dX11_powerOfTen_5 rfl ?_
  refine aw_icmp_ge (pc := 6) (tgt := 26) dX11_powerOfTen_6 (by decide) (fun c1 => ?_) (fun c1 => ?_)
  · replace h := aw_ifp c1 h
    refine aw_sub [1] rfl ?_
    cases h
    exact hz
  · replace h := aw_ifn c1 h
    refine aw_iload_n (pc := 9) (q := 2) dX11_powerOfTen_9 rfl ?_
    refine aw_iconst (pc := 10) (v := 4) dX11_powerOfTen_10 (by decide) ?_
    refine aw_icmp_ge (pc := 11) (tgt := 26) dX11_powerOfTen_11 (by decide) (fun c2 => ?_) (fun c2 => ?_)
    · replace h := aw_ifp c2 h
      refine aw_sub [1] rfl ?_
      cases h
      exact hz
    · replace h := aw_ifn c2 h
      refine aw_lload_n (pc := 14) (q := 1) dX11_powerOfTen_14 rfl ?_
      refine aw_ldc2 (pc := 15) (v := 10) dX11_powerOfTen_15 wm_1318 ?_
      refine aw_lmul (pc := 18) dX11_powerOfTen_18 ?_
      refine aw_nmL (fun x3 e_x3 => ?_)
      replace h := aw_lte h x3 e_x3
      refine aw_lstore_n (pc := 19) [(1, .long x3), (0, .int v0), (3, .int v3)] dX11_powerOfTen_19 (by decide) rfl ?_
      obtain ⟨x4, e_x4⟩ : ∃ z, z = (v3 + (1 : Int32)) := ⟨_, rfl⟩
      replace h := aw_lte h x4 e_x4
      refine aw_iinc (pc := 20) (q := 2) (v := x4) [(3, .int x4), (1, .long x3), (0, .int v0)] dX11_powerOfTen_20 rfl e_x4.symm (by decide) rfl ?_
      refine aw_goto (pc := 23) (tgt := 4) dX11_powerOfTen_23 (by decide) ?_
      refine aw_sub [2, 1, 0] rfl ?_
      cases h
      exact hz
set_option maxRecDepth 100000 in
set_option maxHeartbeats 4000000 in
theorem t_Mo_powerOfTen {l : Launch} {G : aw_G} {E : aw_E} {σ : aw_S} {p0 : Int32} {t : Int64} (h : m_Mo_powerOfTen σ p0 = some t) (hE : E = (some (.long t), xA, σ)) : aw_W l M_Mo_powerOfTen G B_Mo_powerOfTen E 0 [(0, .int p0)] [] xA σ 0 0 := by
  unfold m_Mo_powerOfTen at h
  refine aw_lconst (pc := 0) (v := 1) dX11_powerOfTen_0 (by decide) ?_
  refine aw_lstore_n (pc := 1) [(1, .long ((1 : Int64))), (0, .int p0)] dX11_powerOfTen_1 (by decide) rfl ?_
  refine aw_iconst (pc := 2) (v := 0) dX11_powerOfTen_2 (by decide) ?_
  refine aw_istore_n (pc := 3) [(3, .int ((0 : Int32))), (1, .long ((1 : Int64))), (0, .int p0)] dX11_powerOfTen_3 (by decide) rfl ?_
  obtain ⟨x5, hl6, h⟩ := aw_bde h
  have K7 : z_Mo_powerOfTen_Y4 l G E σ p0 x5 := by
    show aw_W l M_Mo_powerOfTen G B_Mo_powerOfTen E 26 [(1, .long x5)] [] xA σ 0 0
    refine aw_lload_n (pc := 26) (q := 0) dX11_powerOfTen_26 rfl ?_
    cases h
    subst hE
    exact aw_lret (v := _) rfl ⟨Nat.zero_le _, Nat.zero_le _⟩ dX11_powerOfTen_27
  refine aw_sub [2, 1, 0] rfl ?_
  show z_Mo_powerOfTen_X4 l G E σ p0 (((1 : Int64), (0 : Int32)))
  exact aw_lp_X (Xp := z_Mo_powerOfTen_X4 l G E σ p0) (Y := z_Mo_powerOfTen_Y4 l G E σ p0) hl6 K7 (fun s t hf hz => t_Mo_powerOfTen_B4 hf hz)
theorem c_Mo_powerOfTen {l : Launch} {G : aw_G} {σ : aw_S} {p0 : Int32} {t : Int64} (h : m_Mo_powerOfTen σ p0 = some t) : aw_Ct l yX11_powerOfTen M_Mo_powerOfTen G B_Mo_powerOfTen [.int p0] xA σ (some (.long t), xA, σ) := aw_Ct_of (by decide) rfl (fun h => by cases h) (Nat.le_of_ble_eq_true rfl) (t_Mo_powerOfTen h rfl)
/-! LateMover.weight(I)J -/
def z_Mo_weight_X23 (l : Launch) (G : aw_G) (E : aw_E) (σ : aw_S) (v2 : Nat) (s : Int64 × Int32) : Prop := aw_W l M_Mo_weight G B_Mo_weight E 23 [(0, .ref 0), (2, .ref v2), (3, .long s.1), (5, .int s.2)] [] xA σ 0 0
def z_Mo_weight_Y23 (l : Launch) (G : aw_G) (E : aw_E) (σ : aw_S) (v2 : Nat) (x : (Int64)) : Prop := aw_W l M_Mo_weight G B_Mo_weight E 69 [(3, .long x)] [] xA σ 0 0
set_option maxRecDepth 100000 in
set_option maxHeartbeats 4000000 in
theorem t_Mo_weight_B23 {l : Launch} {G : aw_G} {E : aw_E} {σ : aw_S} {v2 : Nat} {v3 : Int64} {v5 : Int32} (h_v2 : isPl v2) {t : (Int64) ⊕ (Int64 × Int32)} (h : m_Mo_weight_B23 σ v2 v3 v5 = some t) (hz : Sum.elim (z_Mo_weight_Y23 l G E σ v2) (z_Mo_weight_X23 l G E σ v2) t) : aw_W l M_Mo_weight G B_Mo_weight E 23 [(0, .ref 0), (2, .ref v2), (3, .long v3), (5, .int v5)] [] xA σ 0 0 := by
  unfold m_Mo_weight_B23 at h
  refine aw_iload (pc := 23) (q := 3) dX11_weight_23 rfl ?_
  refine aw_aload_n (pc := 25) (q := 0) dX11_weight_25 rfl ?_
  refine aw_getC (pc := 26) fd_X11_36.r xA_0 rfl dX11_weight_26 ?_
  refine aw_getI (pc := 29) fd_X11_120.r xA_24 rfl dX11_weight_29 ?_
  refine aw_icmp_ge (pc := 32) (tgt := 69) dX11_weight_32 (by decide) (fun c6 => ?_) (fun c6 => ?_)
  · replace h := aw_ifp c6 h
    refine aw_sub [2] rfl ?_
    cases h
    exact hz
  · replace h := aw_ifn c6 h
    refine aw_lload_n (pc := 35) (q := 2) dX11_weight_35 rfl ?_
    refine aw_aload_n (pc := 36) (q := 1) dX11_weight_36 rfl ?_
    refine aw_aload_n (pc := 37) (q := 0) dX11_weight_37 rfl ?_
    refine aw_getC (pc := 38) fd_X11_36.r xA_0 rfl dX11_weight_38 ?_
    refine aw_iload (pc := 41) (q := 3) dX11_weight_41 rfl ?_
    obtain ⟨r7, e8, h⟩ := aw_bde h
    refine aw_cV1 (pc := 43) [.ref 24, .int v5] (c_Pl_computedAt h_v2 e8) yy_Pl_computedAt.1 wm_1310 yy_Pl_computedAt.2.1 yy_Pl_computedAt.2.2 h_v2.1 ⟨_, _, rfl⟩ rfl ⟨Nat.le_of_ble_eq_true rfl, Nat.le_of_ble_eq_true rfl⟩ ⟨Nat.zero_le _, Nat.zero_le _⟩ (Nat.le_of_ble_eq_true rfl) dX11_weight_43 ?_
    refine aw_i2l (pc := 46) dX11_weight_46 ?_
    refine aw_aload_n (pc := 47) (q := 0) dX11_weight_47 rfl ?_
    refine aw_getC (pc := 48) fd_X11_50.r xA_0 rfl dX11_weight_48 ?_
    refine aw_getC (pc := 51) fd_X11_358 xA_58 rfl dX11_weight_51 ?_
    refine aw_iload (pc := 54) (q := 3) dX11_weight_54 rfl ?_
    obtain ⟨g9, h⟩ := aw_gde h
    refine aw_iald (pc := 56) xA_62 g9 dX11_weight_56 ?_
    obtain ⟨r10, e11, h⟩ := aw_bde h
    refine aw_cS1 (pc := 57) [.int ((σ.1 62 v5.toNatClampNeg))] (c_Mo_powerOfTen e11) yy_Mo_powerOfTen.1 wm_1315 yy_Mo_powerOfTen.2 rfl ⟨Nat.le_of_ble_eq_true rfl, Nat.le_of_ble_eq_true rfl⟩ ⟨Nat.zero_le _, Nat.zero_le _⟩ (Nat.le_of_ble_eq_true rfl) dX11_weight_57 ?_
    refine aw_lmul (pc := 60) dX11_weight_60 ?_
    refine aw_ladd (pc := 61) dX11_weight_61 ?_
    refine aw_nmL (fun x12 e_x12 => ?_)
    replace h := aw_lte h x12 e_x12
    refine aw_lstore_n (pc := 62) [(3, .long x12), (0, .ref 0), (2, .ref v2), (5, .int v5)] dX11_weight_62 (by decide) rfl ?_
    obtain ⟨x13, e_x13⟩ : ∃ z, z = (v5 + (1 : Int32)) := ⟨_, rfl⟩
    replace h := aw_lte h x13 e_x13
    refine aw_iinc (pc := 63) (q := 3) (v := x13) [(5, .int x13), (3, .long x12), (0, .ref 0), (2, .ref v2)] dX11_weight_63 rfl e_x13.symm (by decide) rfl ?_
    refine aw_goto (pc := 66) (tgt := 23) dX11_weight_66 (by decide) ?_
    refine aw_sub [2, 3, 1, 0] rfl ?_
    cases h
    exact hz
set_option maxRecDepth 100000 in
set_option maxHeartbeats 4000000 in
theorem t_Mo_weight {l : Launch} {G : aw_G} {E : aw_E} {σ : aw_S} {p1 : Int32} {t : Int64} (h : m_Mo_weight σ p1 = some t) (hE : E = (some (.long t), xA, σ)) : aw_W l M_Mo_weight G B_Mo_weight E 0 [(0, .ref 0), (1, .int p1)] [] xA σ 0 0 := by
  unfold m_Mo_weight at h
  refine aw_aload_n (pc := 0) (q := 0) dX11_weight_0 rfl ?_
  refine aw_iload_n (pc := 1) (q := 1) dX11_weight_1 rfl ?_
  obtain ⟨r1, e2, h⟩ := aw_bde h
  refine aw_cV1 (pc := 2) [.int p1] (c_Mo_isRunnable e2) yy_Mo_isRunnable.1 wm_1079 yy_Mo_isRunnable.2.1 yy_Mo_isRunnable.2.2 xA_0 ⟨_, _, rfl⟩ rfl ⟨Nat.le_of_ble_eq_true rfl, Nat.le_of_ble_eq_true rfl⟩ ⟨Nat.zero_le _, Nat.zero_le _⟩ (Nat.le_of_ble_eq_true rfl) dX11_weight_2 ?_
  refine aw_if_ne (pc := 5) (tgt := 12) dX11_weight_5 (by decide) (fun c3 => ?_) (fun c3 => ?_)
  · replace h := aw_ifn c3 h
    refine aw_aload_n (pc := 12) (q := 0) dX11_weight_12 rfl ?_
    refine aw_iload_n (pc := 13) (q := 1) dX11_weight_13 rfl ?_
    obtain ⟨r4, e5, h⟩ := aw_bde h
    refine aw_cV1 (pc := 14) [.int p1] (c_Mo_placementBy e5) yy_Mo_placementBy.1 wm_986 yy_Mo_placementBy.2.1 yy_Mo_placementBy.2.2 xA_0 ⟨_, _, rfl⟩ rfl ⟨Nat.le_of_ble_eq_true rfl, Nat.le_of_ble_eq_true rfl⟩ ⟨Nat.zero_le _, Nat.zero_le _⟩ (Nat.le_of_ble_eq_true rfl) dX11_weight_14 ?_
    have h_r4 : isPl r4 := aw_plBy_ok e5
    refine aw_astore_n (pc := 17) [(2, .ref r4), (0, .ref 0), (1, .int p1)] dX11_weight_17 (by decide) rfl ?_
    refine aw_lconst (pc := 18) (v := 0) dX11_weight_18 (by decide) ?_
    refine aw_lstore_n (pc := 19) [(3, .long ((0 : Int64))), (2, .ref r4), (0, .ref 0), (1, .int p1)] dX11_weight_19 (by decide) rfl ?_
    refine aw_iconst (pc := 20) (v := 0) dX11_weight_20 (by decide) ?_
    refine aw_istore (pc := 21) [(5, .int ((0 : Int32))), (3, .long ((0 : Int64))), (2, .ref r4), (0, .ref 0), (1, .int p1)] dX11_weight_21 (by decide) rfl ?_
    obtain ⟨x14, hl15, h⟩ := aw_bde h
    have K16 : z_Mo_weight_Y23 l G E σ r4 x14 := by
      show aw_W l M_Mo_weight G B_Mo_weight E 69 [(3, .long x14)] [] xA σ 0 0
      refine aw_lload_n (pc := 69) (q := 0) dX11_weight_69 rfl ?_
      cases h
      subst hE
      exact aw_lret (v := _) rfl ⟨Nat.zero_le _, Nat.zero_le _⟩ dX11_weight_70
    refine aw_sub [3, 2, 1, 0] rfl ?_
    show z_Mo_weight_X23 l G E σ r4 (((0 : Int64), (0 : Int32)))
    exact aw_lp_X (Xp := z_Mo_weight_X23 l G E σ r4) (Y := z_Mo_weight_Y23 l G E σ r4) hl15 K16 (fun s t hf hz => t_Mo_weight_B23 h_r4 hf hz)
  · replace h := aw_ifp c3 h
    refine aw_ldc2 (pc := 8) (v := -1) dX11_weight_8 wm_1309 ?_
    cases h
    subst hE
    exact aw_lret (v := (-1 : Int64)) rfl ⟨Nat.zero_le _, Nat.zero_le _⟩ dX11_weight_11
theorem c_Mo_weight {l : Launch} {G : aw_G} {σ : aw_S} {p1 : Int32} {t : Int64} (h : m_Mo_weight σ p1 = some t) : aw_Ct l yX11_weight M_Mo_weight G B_Mo_weight [.ref 0, .int p1] xA σ (some (.long t), xA, σ) := aw_Ct_of (by decide) rfl (fun h => by cases h) (Nat.le_of_ble_eq_true rfl) (t_Mo_weight h rfl)
/-! LateMover$Others.nodeBit(I)I -/
set_option maxRecDepth 100000 in
set_option maxHeartbeats 4000000 in
theorem t_Ot_nodeBit {l : Launch} {G : aw_G} {E : aw_E} {σ : aw_S} {p1 : Int32} {t : Int32} (h : m_Ot_nodeBit σ p1 = some t) (hE : E = (some (.int t), xA, σ)) : aw_W l M_Ot_nodeBit G B_Ot_nodeBit E 0 [(0, .ref 105), (1, .int p1)] [] xA σ 0 0 := by
  unfold m_Ot_nodeBit at h
  refine aw_iload_n (pc := 0) (q := 1) dX5_nodeBit_0 rfl ?_
  refine aw_if_lt (pc := 1) (tgt := 18) dX5_nodeBit_1 (by decide) (fun c1 => ?_) (fun c1 => ?_)
  · replace h := aw_ifp c1 h
    refine aw_iconst (pc := 18) (v := 0) dX5_nodeBit_18 (by decide) ?_
    cases h
    subst hE
    exact aw_iret (v := (0 : Int32)) rfl aw_ni ⟨Nat.zero_le _, Nat.zero_le _⟩ dX5_nodeBit_19
  · replace h := aw_ifn c1 h
    refine aw_iload_n (pc := 4) (q := 1) dX5_nodeBit_4 rfl ?_
    refine aw_aload_n (pc := 5) (q := 0) dX5_nodeBit_5 rfl ?_
    refine aw_getI (pc := 6) fd_X5_57.r xA_105 rfl dX5_nodeBit_6 ?_
    refine aw_icmp_ge (pc := 9) (tgt := 18) dX5_nodeBit_9 (by decide) (fun c2 => ?_) (fun c2 => ?_)
    · replace h := aw_ifp c2 h
      refine aw_iconst (pc := 18) (v := 0) dX5_nodeBit_18 (by decide) ?_
      cases h
      subst hE
      exact aw_iret (v := (0 : Int32)) rfl aw_ni ⟨Nat.zero_le _, Nat.zero_le _⟩ dX5_nodeBit_19
    · replace h := aw_ifn c2 h
      refine aw_iconst (pc := 12) (v := 1) dX5_nodeBit_12 (by decide) ?_
      refine aw_iload_n (pc := 13) (q := 1) dX5_nodeBit_13 rfl ?_
      refine aw_ishl (pc := 14) dX5_nodeBit_14 ?_
      refine aw_goto (pc := 15) (tgt := 19) dX5_nodeBit_15 (by decide) ?_
      cases h
      subst hE
      exact aw_iret (v := ((1 : Int32) <<< (p1 &&& 31))) rfl aw_ni ⟨Nat.zero_le _, Nat.zero_le _⟩ dX5_nodeBit_19
theorem c_Ot_nodeBit {l : Launch} {G : aw_G} {σ : aw_S} {p1 : Int32} {t : Int32} (h : m_Ot_nodeBit σ p1 = some t) : aw_Ct l yX5_nodeBit M_Ot_nodeBit G B_Ot_nodeBit [.ref 105, .int p1] xA σ (some (.int t), xA, σ) := aw_Ct_of (by decide) rfl (fun h => by cases h) (Nat.le_of_ble_eq_true rfl) (t_Ot_nodeBit h rfl)
/-! LateMover$Others.takeGraph(LLateMover$Graph;)V -/
def z_Ot_takeGraph_X23 (l : Launch) (G : aw_G) (E : aw_E) (s : Int32 × aw_S) : Prop := aw_W l M_Ot_takeGraph G B_Ot_takeGraph E 23 [(0, .ref 105), (1, .ref 24), (2, .int s.1)] [] xA s.2 0 0
def z_Ot_takeGraph_Y23 (l : Launch) (G : aw_G) (E : aw_E) (x : (aw_S)) : Prop := aw_W l M_Ot_takeGraph G B_Ot_takeGraph E 113 [(0, .ref 105)] [] xA x 0 0
def z_Ot_takeGraph_X115 (l : Launch) (G : aw_G) (E : aw_E) (s : Int32 × aw_S) : Prop := aw_W l M_Ot_takeGraph G B_Ot_takeGraph E 115 [(0, .ref 105), (2, .int s.1)] [] xA s.2 0 0
def z_Ot_takeGraph_Y115 (l : Launch) (G : aw_G) (E : aw_E) (x : (aw_S)) : Prop := aw_W l M_Ot_takeGraph G B_Ot_takeGraph E 166 [] [] xA x 0 0
def z_Ot_takeGraph_X125 (l : Launch) (G : aw_G) (E : aw_E) (v2 : Int32) (s : Int32 × aw_S) : Prop := aw_W l M_Ot_takeGraph G B_Ot_takeGraph E 125 [(0, .ref 105), (2, .int v2), (3, .int s.1)] [] xA s.2 0 0
def z_Ot_takeGraph_Y125 (l : Launch) (G : aw_G) (E : aw_E) (v2 : Int32) (x : (aw_S)) : Prop := aw_W l M_Ot_takeGraph G B_Ot_takeGraph E 160 [(0, .ref 105), (2, .int v2)] [] xA x 0 0
set_option maxRecDepth 100000 in
set_option maxHeartbeats 4000000 in
theorem t_Ot_takeGraph_J103 {l : Launch} {G : aw_G} {E : aw_E} {σ : aw_S} {v2 : Int32} {k1 : Int32} {k2 : Int32} {t : (aw_S) ⊕ (Int32 × aw_S)} (h : m_Ot_takeGraph_J103 σ v2 k1 k2 = some t) (hz : Sum.elim (z_Ot_takeGraph_Y23 l G E) (z_Ot_takeGraph_X23 l G E) t) : aw_W l M_Ot_takeGraph G B_Ot_takeGraph E 103 [(0, .ref 105), (1, .ref 24), (2, .int v2)] [.int k2, .int k1, .ref 105] xA σ 0 0 := by
  unfold m_Ot_takeGraph_J103 at h
  refine aw_ior (pc := 103) dX5_takeGraph_103 ?_
  refine aw_putI (pc := 104) fd_X5_58 xA_105 rfl (fun _ => rfl) (fun _ => rfl) dX5_takeGraph_104 ?_
  refine aw_nmS (fun s23 e_s23 => ?_)
  replace h := aw_lte h s23 e_s23
  obtain ⟨x24, e_x24⟩ : ∃ z, z = (v2 + (1 : Int32)) := ⟨_, rfl⟩
  replace h := aw_lte h x24 e_x24
  refine aw_iinc (pc := 107) (q := 2) (v := x24) [(2, .int x24), (0, .ref 105), (1, .ref 24)] dX5_takeGraph_107 rfl e_x24.symm (by decide) rfl ?_
  refine aw_goto (pc := 110) (tgt := 23) dX5_takeGraph_110 (by decide) ?_
  refine aw_sub [1, 2, 0] rfl ?_
  cases h
  exact hz
set_option maxRecDepth 100000 in
set_option maxHeartbeats 4000000 in
theorem t_Ot_takeGraph_B23 {l : Launch} {G : aw_G} {E : aw_E} {σ : aw_S} {v2 : Int32} {t : (aw_S) ⊕ (Int32 × aw_S)} (h : m_Ot_takeGraph_B23 σ v2 = some t) (hz : Sum.elim (z_Ot_takeGraph_Y23 l G E) (z_Ot_takeGraph_X23 l G E) t) : aw_W l M_Ot_takeGraph G B_Ot_takeGraph E 23 [(0, .ref 105), (1, .ref 24), (2, .int v2)] [] xA σ 0 0 := by
  unfold m_Ot_takeGraph_B23 at h
  refine aw_iload_n (pc := 23) (q := 2) dX5_takeGraph_23 rfl ?_
  refine aw_aload_n (pc := 24) (q := 0) dX5_takeGraph_24 rfl ?_
  refine aw_getI (pc := 25) fd_X5_57.r xA_105 rfl dX5_takeGraph_25 ?_
  refine aw_icmp_ge (pc := 28) (tgt := 113) dX5_takeGraph_28 (by decide) (fun c6 => ?_) (fun c6 => ?_)
  · replace h := aw_ifp c6 h
    refine aw_sub [0] rfl ?_
    cases h
    exact hz
  · replace h := aw_ifn c6 h
    refine aw_aload_n (pc := 31) (q := 0) dX5_takeGraph_31 rfl ?_
    refine aw_getC (pc := 32) fd_X5_16.r xA_105 rfl dX5_takeGraph_32 ?_
    refine aw_iload_n (pc := 35) (q := 2) dX5_takeGraph_35 rfl ?_
    refine aw_aload_n (pc := 36) (q := 1) dX5_takeGraph_36 rfl ?_
    refine aw_getC (pc := 37) fd_X5_67 xA_24 rfl dX5_takeGraph_37 ?_
    refine aw_iload_n (pc := 40) (q := 2) dX5_takeGraph_40 rfl ?_
    obtain ⟨g7, h⟩ := aw_gde h
    refine aw_iald (pc := 41) xA_36 g7 dX5_takeGraph_41 ?_
    obtain ⟨g8, h⟩ := aw_gde h
    refine aw_iast (pc := 42) xA_131 g8 dX5_takeGraph_42 ?_
    refine aw_nmS (fun s9 e_s9 => ?_)
    replace h := aw_lte h s9 e_s9
    refine aw_aload_n (pc := 43) (q := 0) dX5_takeGraph_43 rfl ?_
    refine aw_getC (pc := 44) fd_X5_20.r xA_105 rfl dX5_takeGraph_44 ?_
    refine aw_iload_n (pc := 47) (q := 2) dX5_takeGraph_47 rfl ?_
    refine aw_aload_n (pc := 48) (q := 1) dX5_takeGraph_48 rfl ?_
    refine aw_getC (pc := 49) fd_X5_70 xA_24 rfl dX5_takeGraph_49 ?_
    refine aw_iload_n (pc := 52) (q := 2) dX5_takeGraph_52 rfl ?_
    obtain ⟨g10, h⟩ := aw_gde h
    refine aw_iald (pc := 53) xA_37 g10 dX5_takeGraph_53 ?_
    obtain ⟨g11, h⟩ := aw_gde h
    refine aw_iast (pc := 54) xA_132 g11 dX5_takeGraph_54 ?_
    refine aw_nmS (fun s12 e_s12 => ?_)
    replace h := aw_lte h s12 e_s12
    refine aw_aload_n (pc := 55) (q := 0) dX5_takeGraph_55 rfl ?_
    refine aw_getC (pc := 56) fd_X5_26.r xA_105 rfl dX5_takeGraph_56 ?_
    refine aw_iload_n (pc := 59) (q := 2) dX5_takeGraph_59 rfl ?_
    refine aw_aload_n (pc := 60) (q := 0) dX5_takeGraph_60 rfl ?_
    refine aw_aload_n (pc := 61) (q := 0) dX5_takeGraph_61 rfl ?_
    refine aw_getC (pc := 62) fd_X5_16.r xA_105 rfl dX5_takeGraph_62 ?_
    refine aw_iload_n (pc := 65) (q := 2) dX5_takeGraph_65 rfl ?_
    obtain ⟨g13, h⟩ := aw_gde h
    refine aw_iald (pc := 66) xA_131 g13 dX5_takeGraph_66 ?_
    obtain ⟨r14, e15, h⟩ := aw_bde h
    refine aw_cV1 (pc := 67) [.int ((s12.1 131 v2.toNatClampNeg))] (c_Ot_nodeBit e15) yy_Ot_nodeBit.1 wm_1347 yy_Ot_nodeBit.2.1 yy_Ot_nodeBit.2.2 xA_105 ⟨_, _, rfl⟩ rfl ⟨Nat.le_of_ble_eq_true rfl, Nat.le_of_ble_eq_true rfl⟩ ⟨Nat.zero_le _, Nat.zero_le _⟩ (Nat.le_of_ble_eq_true rfl) dX5_takeGraph_67 ?_
    refine aw_aload_n (pc := 70) (q := 0) dX5_takeGraph_70 rfl ?_
    refine aw_aload_n (pc := 71) (q := 0) dX5_takeGraph_71 rfl ?_
    refine aw_getC (pc := 72) fd_X5_20.r xA_105 rfl dX5_takeGraph_72 ?_
    refine aw_iload_n (pc := 75) (q := 2) dX5_takeGraph_75 rfl ?_
    obtain ⟨g16, h⟩ := aw_gde h
    refine aw_iald (pc := 76) xA_132 g16 dX5_takeGraph_76 ?_
    obtain ⟨r17, e18, h⟩ := aw_bde h
    refine aw_cV1 (pc := 77) [.int ((s12.1 132 v2.toNatClampNeg))] (c_Ot_nodeBit e18) yy_Ot_nodeBit.1 wm_1347 yy_Ot_nodeBit.2.1 yy_Ot_nodeBit.2.2 xA_105 ⟨_, _, rfl⟩ rfl ⟨Nat.le_of_ble_eq_true rfl, Nat.le_of_ble_eq_true rfl⟩ ⟨Nat.zero_le _, Nat.zero_le _⟩ (Nat.le_of_ble_eq_true rfl) dX5_takeGraph_77 ?_
    refine aw_ior (pc := 80) dX5_takeGraph_80 ?_
    obtain ⟨g19, h⟩ := aw_gde h
    refine aw_iast (pc := 81) xA_134 g19 dX5_takeGraph_81 ?_
    refine aw_nmS (fun s20 e_s20 => ?_)
    replace h := aw_lte h s20 e_s20
    refine aw_aload_n (pc := 82) (q := 0) dX5_takeGraph_82 rfl ?_
    refine aw_dup (pc := 83) dX5_takeGraph_83 rfl ?_
    refine aw_getI (pc := 84) fd_X5_58.r xA_105 rfl dX5_takeGraph_84 ?_
    refine aw_aload_n (pc := 87) (q := 0) dX5_takeGraph_87 rfl ?_
    refine aw_getC (pc := 88) fd_X5_26.r xA_105 rfl dX5_takeGraph_88 ?_
    refine aw_iload_n (pc := 91) (q := 2) dX5_takeGraph_91 rfl ?_
    obtain ⟨g21, h⟩ := aw_gde h
    refine aw_iald (pc := 92) xA_134 g21 dX5_takeGraph_92 ?_
    refine aw_if_ne (pc := 93) (tgt := 102) dX5_takeGraph_93 (by decide) (fun c22 => ?_) (fun c22 => ?_)
    · replace h := aw_ifn c22 h
      refine aw_iconst (pc := 102) (v := 0) dX5_takeGraph_102 (by decide) ?_
      exact t_Ot_takeGraph_J103 h hz
    · replace h := aw_ifp c22 h
      refine aw_iconst (pc := 96) (v := 1) dX5_takeGraph_96 (by decide) ?_
      refine aw_iload_n (pc := 97) (q := 2) dX5_takeGraph_97 rfl ?_
      refine aw_ishl (pc := 98) dX5_takeGraph_98 ?_
      refine aw_goto (pc := 99) (tgt := 103) dX5_takeGraph_99 (by decide) ?_
      exact t_Ot_takeGraph_J103 h hz
set_option maxRecDepth 100000 in
set_option maxHeartbeats 4000000 in
theorem t_Ot_takeGraph_B125 {l : Launch} {G : aw_G} {E : aw_E} {σ : aw_S} {v2 : Int32} {v3 : Int32} {t : (aw_S) ⊕ (Int32 × aw_S)} (h : m_Ot_takeGraph_B125 σ v2 v3 = some t) (hz : Sum.elim (z_Ot_takeGraph_Y125 l G E v2) (z_Ot_takeGraph_X125 l G E v2) t) : aw_W l M_Ot_takeGraph G B_Ot_takeGraph E 125 [(0, .ref 105), (2, .int v2), (3, .int v3)] [] xA σ 0 0 := by
  unfold m_Ot_takeGraph_B125 at h
  refine aw_iload_n (pc := 125) (q := 2) dX5_takeGraph_125 rfl ?_
  refine aw_aload_n (pc := 126) (q := 0) dX5_takeGraph_126 rfl ?_
  refine aw_getI (pc := 127) fd_X5_57.r xA_105 rfl dX5_takeGraph_127 ?_
  refine aw_icmp_ge (pc := 130) (tgt := 160) dX5_takeGraph_130 (by decide) (fun c29 => ?_) (fun c29 => ?_)
  · replace h := aw_ifp c29 h
    refine aw_sub [0, 1] rfl ?_
    cases h
    exact hz
  · replace h := aw_ifn c29 h
    refine aw_aload_n (pc := 133) (q := 0) dX5_takeGraph_133 rfl ?_
    refine aw_getC (pc := 134) fd_X5_23.r xA_105 rfl dX5_takeGraph_134 ?_
    refine aw_iload_n (pc := 137) (q := 2) dX5_takeGraph_137 rfl ?_
    refine aw_dup2 (pc := 138) dX5_takeGraph_138 rfl rfl ?_
    obtain ⟨g30, h⟩ := aw_gde h
    refine aw_iald (pc := 139) xA_133 g30 dX5_takeGraph_139 ?_
    refine aw_aload_n (pc := 140) (q := 0) dX5_takeGraph_140 rfl ?_
    refine aw_getC (pc := 141) fd_X5_26.r xA_105 rfl dX5_takeGraph_141 ?_
    refine aw_iload_n (pc := 144) (q := 1) dX5_takeGraph_144 rfl ?_
    obtain ⟨g31, h⟩ := aw_gde h
    refine aw_iald (pc := 145) xA_134 g31 dX5_takeGraph_145 ?_
    refine aw_iload_n (pc := 146) (q := 2) dX5_takeGraph_146 rfl ?_
    obtain ⟨r32, e33, h⟩ := aw_bde h
    refine aw_cN1 (pc := 147) [.int ((σ.1 134 v2.toNatClampNeg)), .int v3] (c_Mo_bitOf e33) yy_Mo_bitOf.1 nm_X5_41 yy_Mo_bitOf.2 rfl ⟨Nat.le_of_ble_eq_true rfl, Nat.le_of_ble_eq_true rfl⟩ ⟨Nat.zero_le _, Nat.zero_le _⟩ (Nat.le_of_ble_eq_true rfl) dX5_takeGraph_147 ?_
    refine aw_iload_n (pc := 150) (q := 1) dX5_takeGraph_150 rfl ?_
    refine aw_ishl (pc := 151) dX5_takeGraph_151 ?_
    refine aw_ior (pc := 152) dX5_takeGraph_152 ?_
    obtain ⟨g34, h⟩ := aw_gde h
    refine aw_iast (pc := 153) xA_133 g34 dX5_takeGraph_153 ?_
    refine aw_nmS (fun s35 e_s35 => ?_)
    replace h := aw_lte h s35 e_s35
    obtain ⟨x36, e_x36⟩ : ∃ z, z = (v3 + (1 : Int32)) := ⟨_, rfl⟩
    replace h := aw_lte h x36 e_x36
    refine aw_iinc (pc := 154) (q := 2) (v := x36) [(3, .int x36), (0, .ref 105), (2, .int v2)] dX5_takeGraph_154 rfl e_x36.symm (by decide) rfl ?_
    refine aw_goto (pc := 157) (tgt := 125) dX5_takeGraph_157 (by decide) ?_
    refine aw_sub [1, 2, 0] rfl ?_
    cases h
    exact hz
set_option maxRecDepth 100000 in
set_option maxHeartbeats 4000000 in
theorem t_Ot_takeGraph_B115 {l : Launch} {G : aw_G} {E : aw_E} {σ : aw_S} {v2 : Int32} {t : (aw_S) ⊕ (Int32 × aw_S)} (h : m_Ot_takeGraph_B115 σ v2 = some t) (hz : Sum.elim (z_Ot_takeGraph_Y115 l G E) (z_Ot_takeGraph_X115 l G E) t) : aw_W l M_Ot_takeGraph G B_Ot_takeGraph E 115 [(0, .ref 105), (2, .int v2)] [] xA σ 0 0 := by
  unfold m_Ot_takeGraph_B115 at h
  refine aw_iload_n (pc := 115) (q := 1) dX5_takeGraph_115 rfl ?_
  refine aw_aload_n (pc := 116) (q := 0) dX5_takeGraph_116 rfl ?_
  refine aw_getI (pc := 117) fd_X5_57.r xA_105 rfl dX5_takeGraph_117 ?_
  refine aw_icmp_ge (pc := 120) (tgt := 166) dX5_takeGraph_120 (by decide) (fun c28 => ?_) (fun c28 => ?_)
  · replace h := aw_ifp c28 h
    refine aw_sub [] rfl ?_
    cases h
    exact hz
  · replace h := aw_ifn c28 h
    refine aw_iconst (pc := 123) (v := 0) dX5_takeGraph_123 (by decide) ?_
    refine aw_istore_n (pc := 124) [(3, .int ((0 : Int32))), (0, .ref 105), (2, .int v2)] dX5_takeGraph_124 (by decide) rfl ?_
    obtain ⟨x37, hl38, h⟩ := aw_bde h
    have K39 : z_Ot_takeGraph_Y125 l G E v2 x37 := by
      show aw_W l M_Ot_takeGraph G B_Ot_takeGraph E 160 [(0, .ref 105), (2, .int v2)] [] xA x37 0 0
      obtain ⟨x40, e_x40⟩ : ∃ z, z = (v2 + (1 : Int32)) := ⟨_, rfl⟩
      replace h := aw_lte h x40 e_x40
      refine aw_iinc (pc := 160) (q := 1) (v := x40) [(2, .int x40), (0, .ref 105)] dX5_takeGraph_160 rfl e_x40.symm (by decide) rfl ?_
      refine aw_goto (pc := 163) (tgt := 115) dX5_takeGraph_163 (by decide) ?_
      refine aw_sub [1, 0] rfl ?_
      cases h
      exact hz
    refine aw_sub [1, 2, 0] rfl ?_
    show z_Ot_takeGraph_X125 l G E v2 (((0 : Int32), σ))
    exact aw_lp_X (Xp := z_Ot_takeGraph_X125 l G E v2) (Y := z_Ot_takeGraph_Y125 l G E v2) hl38 K39 (fun s t hf hz => t_Ot_takeGraph_B125 hf hz)
set_option maxRecDepth 100000 in
set_option maxHeartbeats 4000000 in
theorem t_Ot_takeGraph {l : Launch} {G : aw_G} {E : aw_E} {σ : aw_S} {t : aw_S} (h : m_Ot_takeGraph σ = some t) (hE : E = (none, xA, t)) : aw_W l M_Ot_takeGraph G B_Ot_takeGraph E 0 [(0, .ref 105), (1, .ref 24)] [] xA σ 0 0 := by
  unfold m_Ot_takeGraph at h
  refine aw_aload_n (pc := 0) (q := 0) dX5_takeGraph_0 rfl ?_
  refine aw_aload_n (pc := 1) (q := 1) dX5_takeGraph_1 rfl ?_
  refine aw_getI (pc := 2) fd_X5_36.r xA_24 rfl dX5_takeGraph_2 ?_
  refine aw_putI (pc := 5) fd_X5_57 xA_105 rfl (fun _ => rfl) (fun _ => rfl) dX5_takeGraph_5 ?_
  refine aw_nmS (fun s1 e_s1 => ?_)
  replace h := aw_lte h s1 e_s1
  refine aw_aload_n (pc := 8) (q := 0) dX5_takeGraph_8 rfl ?_
  refine aw_iconst (pc := 9) (v := 0) dX5_takeGraph_9 (by decide) ?_
  refine aw_putI (pc := 10) fd_X5_58 xA_105 rfl (fun _ => rfl) (fun _ => rfl) dX5_takeGraph_10 ?_
  refine aw_nmS (fun s2 e_s2 => ?_)
  replace h := aw_lte h s2 e_s2
  refine aw_aload_n (pc := 13) (q := 0) dX5_takeGraph_13 rfl ?_
  refine aw_getC (pc := 14) fd_X5_23.r xA_105 rfl dX5_takeGraph_14 ?_
  refine aw_iconst (pc := 17) (v := 0) dX5_takeGraph_17 (by decide) ?_
  obtain ⟨s5, e4, h⟩ := aw_bde h
  refine aw_cS0 (pc := 18) [.ref 133, .int ((0 : Int32))] (c_Ar_fillI xA_133 e4) yy_Ar_fillI.1 wm_1346 yy_Ar_fillI.2 rfl ⟨Nat.le_of_ble_eq_true rfl, Nat.le_of_ble_eq_true rfl⟩ ⟨Nat.zero_le _, Nat.zero_le _⟩ (Nat.le_of_ble_eq_true rfl) dX5_takeGraph_18 ?_
  refine aw_iconst (pc := 21) (v := 0) dX5_takeGraph_21 (by decide) ?_
  refine aw_istore_n (pc := 22) [(2, .int ((0 : Int32))), (0, .ref 105), (1, .ref 24)] dX5_takeGraph_22 (by decide) rfl ?_
  obtain ⟨x25, hl26, h⟩ := aw_bde h
  have K27 : z_Ot_takeGraph_Y23 l G E x25 := by
    show aw_W l M_Ot_takeGraph G B_Ot_takeGraph E 113 [(0, .ref 105)] [] xA x25 0 0
    refine aw_iconst (pc := 113) (v := 0) dX5_takeGraph_113 (by decide) ?_
    refine aw_istore_n (pc := 114) [(2, .int ((0 : Int32))), (0, .ref 105)] dX5_takeGraph_114 (by decide) rfl ?_
    obtain ⟨x41, hl42, h⟩ := aw_bde h
    have K43 : z_Ot_takeGraph_Y115 l G E x41 := by
      show aw_W l M_Ot_takeGraph G B_Ot_takeGraph E 166 [] [] xA x41 0 0
      cases h
      subst hE
      exact aw_vret rfl ⟨Nat.zero_le _, Nat.zero_le _⟩ dX5_takeGraph_166
    refine aw_sub [1, 0] rfl ?_
    show z_Ot_takeGraph_X115 l G E (((0 : Int32), x25))
    exact aw_lp_X (Xp := z_Ot_takeGraph_X115 l G E) (Y := z_Ot_takeGraph_Y115 l G E) hl42 K43 (fun s t hf hz => t_Ot_takeGraph_B115 hf hz)
  refine aw_sub [1, 2, 0] rfl ?_
  show z_Ot_takeGraph_X23 l G E (((0 : Int32), s5))
  exact aw_lp_X (Xp := z_Ot_takeGraph_X23 l G E) (Y := z_Ot_takeGraph_Y23 l G E) hl26 K27 (fun s t hf hz => t_Ot_takeGraph_B23 hf hz)
theorem c_Ot_takeGraph {l : Launch} {G : aw_G} {σ : aw_S} {t : aw_S} (h : m_Ot_takeGraph σ = some t) : aw_Ct l yX5_takeGraph M_Ot_takeGraph G B_Ot_takeGraph [.ref 105, .ref 24] xA σ (none, xA, t) := aw_Ct_of (by decide) rfl (fun h => by cases h) (Nat.le_of_ble_eq_true rfl) (t_Ot_takeGraph h rfl)
/-! LateMover$Others.column([II)I -/
def z_Ot_column_X5 (l : Launch) (G : aw_G) (E : aw_E) (σ : aw_S) (v1 : Nat) (v2 : Int32) (s : Int32 × Int32) : Prop := aw_W l M_Ot_column G B_Ot_column E 5 [(0, .ref 105), (1, .ref v1), (2, .int v2), (3, .int s.1), (4, .int s.2)] [] xA σ 0 0
def z_Ot_column_Y5 (l : Launch) (G : aw_G) (E : aw_E) (σ : aw_S) (v1 : Nat) (v2 : Int32) (x : (Int32)) : Prop := aw_W l M_Ot_column G B_Ot_column E 34 [(3, .int x)] [] xA σ 0 0
set_option maxRecDepth 100000 in
set_option maxHeartbeats 4000000 in
theorem t_Ot_column_B5 {l : Launch} {G : aw_G} {E : aw_E} {σ : aw_S} {v1 : Nat} {v2 : Int32} {v3 : Int32} {v4 : Int32} (h_v1 : xA[v1]? = some (.inr (0, 128, aw_no))) {t : (Int32) ⊕ (Int32 × Int32)} (h : m_Ot_column_B5 σ v1 v2 v3 v4 = some t) (hz : Sum.elim (z_Ot_column_Y5 l G E σ v1 v2) (z_Ot_column_X5 l G E σ v1 v2) t) : aw_W l M_Ot_column G B_Ot_column E 5 [(0, .ref 105), (1, .ref v1), (2, .int v2), (3, .int v3), (4, .int v4)] [] xA σ 0 0 := by
  unfold m_Ot_column_B5 at h
  refine aw_iload (pc := 5) (q := 4) dX5_column_5 rfl ?_
  refine aw_aload_n (pc := 7) (q := 0) dX5_column_7 rfl ?_
  refine aw_getI (pc := 8) fd_X5_57.r xA_105 rfl dX5_column_8 ?_
  refine aw_icmp_ge (pc := 11) (tgt := 34) dX5_column_11 (by decide) (fun c1 => ?_) (fun c1 => ?_)
  · replace h := aw_ifp c1 h
    refine aw_sub [3] rfl ?_
    cases h
    exact hz
  · replace h := aw_ifn c1 h
    refine aw_iload_n (pc := 14) (q := 3) dX5_column_14 rfl ?_
    refine aw_aload_n (pc := 15) (q := 1) dX5_column_15 rfl ?_
    refine aw_iload (pc := 16) (q := 4) dX5_column_16 rfl ?_
    obtain ⟨g2, h⟩ := aw_gde h
    refine aw_iald (pc := 18) h_v1 g2 dX5_column_18 ?_
    refine aw_iload_n (pc := 19) (q := 2) dX5_column_19 rfl ?_
    obtain ⟨r3, e4, h⟩ := aw_bde h
    refine aw_cN1 (pc := 20) [.int ((σ.1 v1 v4.toNatClampNeg)), .int v2] (c_Mo_bitOf e4) yy_Mo_bitOf.1 nm_X5_41 yy_Mo_bitOf.2 rfl ⟨Nat.le_of_ble_eq_true rfl, Nat.le_of_ble_eq_true rfl⟩ ⟨Nat.zero_le _, Nat.zero_le _⟩ (Nat.le_of_ble_eq_true rfl) dX5_column_20 ?_
    refine aw_iload (pc := 23) (q := 4) dX5_column_23 rfl ?_
    refine aw_ishl (pc := 25) dX5_column_25 ?_
    refine aw_ior (pc := 26) dX5_column_26 ?_
    refine aw_nmI (fun x5 e_x5 => ?_)
    replace h := aw_lte h x5 e_x5
    refine aw_istore_n (pc := 27) [(3, .int x5), (0, .ref 105), (1, .ref v1), (2, .int v2), (4, .int v4)] dX5_column_27 (by decide) rfl ?_
    obtain ⟨x6, e_x6⟩ : ∃ z, z = (v4 + (1 : Int32)) := ⟨_, rfl⟩
    replace h := aw_lte h x6 e_x6
    refine aw_iinc (pc := 28) (q := 4) (v := x6) [(4, .int x6), (3, .int x5), (0, .ref 105), (1, .ref v1), (2, .int v2)] dX5_column_28 rfl e_x6.symm (by decide) rfl ?_
    refine aw_goto (pc := 31) (tgt := 5) dX5_column_31 (by decide) ?_
    refine aw_sub [2, 3, 4, 1, 0] rfl ?_
    cases h
    exact hz
set_option maxRecDepth 100000 in
set_option maxHeartbeats 4000000 in
theorem t_Ot_column {l : Launch} {G : aw_G} {E : aw_E} {σ : aw_S} {p1 : Nat} {p2 : Int32} (h_p1 : xA[p1]? = some (.inr (0, 128, aw_no))) {t : Int32} (h : m_Ot_column σ p1 p2 = some t) (hE : E = (some (.int t), xA, σ)) : aw_W l M_Ot_column G B_Ot_column E 0 [(0, .ref 105), (1, .ref p1), (2, .int p2)] [] xA σ 0 0 := by
  unfold m_Ot_column at h
  refine aw_iconst (pc := 0) (v := 0) dX5_column_0 (by decide) ?_
  refine aw_istore_n (pc := 1) [(3, .int ((0 : Int32))), (0, .ref 105), (1, .ref p1), (2, .int p2)] dX5_column_1 (by decide) rfl ?_
  refine aw_iconst (pc := 2) (v := 0) dX5_column_2 (by decide) ?_
  refine aw_istore (pc := 3) [(4, .int ((0 : Int32))), (3, .int ((0 : Int32))), (0, .ref 105), (1, .ref p1), (2, .int p2)] dX5_column_3 (by decide) rfl ?_
  obtain ⟨x7, hl8, h⟩ := aw_bde h
  have K9 : z_Ot_column_Y5 l G E σ p1 p2 x7 := by
    show aw_W l M_Ot_column G B_Ot_column E 34 [(3, .int x7)] [] xA σ 0 0
    refine aw_iload_n (pc := 34) (q := 0) dX5_column_34 rfl ?_
    cases h
    subst hE
    exact aw_iret (v := _) rfl aw_ni ⟨Nat.zero_le _, Nat.zero_le _⟩ dX5_column_35
  refine aw_sub [2, 3, 4, 1, 0] rfl ?_
  show z_Ot_column_X5 l G E σ p1 p2 (((0 : Int32), (0 : Int32)))
  exact aw_lp_X (Xp := z_Ot_column_X5 l G E σ p1 p2) (Y := z_Ot_column_Y5 l G E σ p1 p2) hl8 K9 (fun s t hf hz => t_Ot_column_B5 h_p1 hf hz)
theorem c_Ot_column {l : Launch} {G : aw_G} {σ : aw_S} {p1 : Nat} {p2 : Int32} (h_p1 : xA[p1]? = some (.inr (0, 128, aw_no))) {t : Int32} (h : m_Ot_column σ p1 p2 = some t) : aw_Ct l yX5_column M_Ot_column G B_Ot_column [.ref 105, .ref p1, .int p2] xA σ (some (.int t), xA, σ) := aw_Ct_of (by decide) rfl (fun h => by cases h) (Nat.le_of_ble_eq_true rfl) (t_Ot_column h_p1 h rfl)
/-! LateMover$Others.takeFacts(LLateMover$Facts;I)V -/
set_option maxRecDepth 100000 in
set_option maxHeartbeats 4000000 in
theorem t_Ot_takeFacts {l : Launch} {G : aw_G} {E : aw_E} {σ : aw_S} {p2 : Int32} {t : aw_S} (h : m_Ot_takeFacts σ p2 = some t) (hE : E = (none, xA, t)) : aw_W l M_Ot_takeFacts G B_Ot_takeFacts E 0 [(0, .ref 105), (1, .ref 41), (2, .int p2)] [] xA σ 0 0 := by
  unfold m_Ot_takeFacts at h
  refine aw_aload_n (pc := 0) (q := 0) dX5_takeFacts_0 rfl ?_
  refine aw_aload_n (pc := 1) (q := 0) dX5_takeFacts_1 rfl ?_
  refine aw_aload_n (pc := 2) (q := 1) dX5_takeFacts_2 rfl ?_
  refine aw_getC (pc := 3) fd_X5_77 xA_41 rfl dX5_takeFacts_3 ?_
  refine aw_iload_n (pc := 6) (q := 2) dX5_takeFacts_6 rfl ?_
  obtain ⟨r1, e2, h⟩ := aw_bde h
  refine aw_cV1 (pc := 7) [.ref 47, .int p2] (c_Ot_column xA_47 e2) yy_Ot_column.1 wm_1363 yy_Ot_column.2.1 yy_Ot_column.2.2 xA_105 ⟨_, _, rfl⟩ rfl ⟨Nat.le_of_ble_eq_true rfl, Nat.le_of_ble_eq_true rfl⟩ ⟨Nat.zero_le _, Nat.zero_le _⟩ (Nat.le_of_ble_eq_true rfl) dX5_takeFacts_7 ?_
  refine aw_putI (pc := 10) fd_X5_86 xA_105 rfl (fun _ => rfl) (fun _ => rfl) dX5_takeFacts_10 ?_
  refine aw_nmS (fun s3 e_s3 => ?_)
  replace h := aw_lte h s3 e_s3
  refine aw_aload_n (pc := 13) (q := 0) dX5_takeFacts_13 rfl ?_
  refine aw_aload_n (pc := 14) (q := 0) dX5_takeFacts_14 rfl ?_
  refine aw_aload_n (pc := 15) (q := 1) dX5_takeFacts_15 rfl ?_
  refine aw_getC (pc := 16) fd_X5_88 xA_41 rfl dX5_takeFacts_16 ?_
  refine aw_iload_n (pc := 19) (q := 2) dX5_takeFacts_19 rfl ?_
  obtain ⟨r4, e5, h⟩ := aw_bde h
  refine aw_cV1 (pc := 20) [.ref 48, .int p2] (c_Ot_column xA_48 e5) yy_Ot_column.1 wm_1363 yy_Ot_column.2.1 yy_Ot_column.2.2 xA_105 ⟨_, _, rfl⟩ rfl ⟨Nat.le_of_ble_eq_true rfl, Nat.le_of_ble_eq_true rfl⟩ ⟨Nat.zero_le _, Nat.zero_le _⟩ (Nat.le_of_ble_eq_true rfl) dX5_takeFacts_20 ?_
  refine aw_putI (pc := 23) fd_X5_91 xA_105 rfl (fun _ => rfl) (fun _ => rfl) dX5_takeFacts_23 ?_
  refine aw_nmS (fun s6 e_s6 => ?_)
  replace h := aw_lte h s6 e_s6
  refine aw_aload_n (pc := 26) (q := 0) dX5_takeFacts_26 rfl ?_
  refine aw_aload_n (pc := 27) (q := 0) dX5_takeFacts_27 rfl ?_
  refine aw_aload_n (pc := 28) (q := 1) dX5_takeFacts_28 rfl ?_
  refine aw_getC (pc := 29) fd_X5_93 xA_41 rfl dX5_takeFacts_29 ?_
  refine aw_iload_n (pc := 32) (q := 2) dX5_takeFacts_32 rfl ?_
  obtain ⟨r7, e8, h⟩ := aw_bde h
  refine aw_cV1 (pc := 33) [.ref 49, .int p2] (c_Ot_column xA_49 e8) yy_Ot_column.1 wm_1363 yy_Ot_column.2.1 yy_Ot_column.2.2 xA_105 ⟨_, _, rfl⟩ rfl ⟨Nat.le_of_ble_eq_true rfl, Nat.le_of_ble_eq_true rfl⟩ ⟨Nat.zero_le _, Nat.zero_le _⟩ (Nat.le_of_ble_eq_true rfl) dX5_takeFacts_33 ?_
  refine aw_putI (pc := 36) fd_X5_96 xA_105 rfl (fun _ => rfl) (fun _ => rfl) dX5_takeFacts_36 ?_
  refine aw_nmS (fun s9 e_s9 => ?_)
  replace h := aw_lte h s9 e_s9
  refine aw_aload_n (pc := 39) (q := 0) dX5_takeFacts_39 rfl ?_
  refine aw_aload_n (pc := 40) (q := 0) dX5_takeFacts_40 rfl ?_
  refine aw_aload_n (pc := 41) (q := 1) dX5_takeFacts_41 rfl ?_
  refine aw_getC (pc := 42) fd_X5_98 xA_41 rfl dX5_takeFacts_42 ?_
  refine aw_iload_n (pc := 45) (q := 2) dX5_takeFacts_45 rfl ?_
  obtain ⟨r10, e11, h⟩ := aw_bde h
  refine aw_cV1 (pc := 46) [.ref 51, .int p2] (c_Ot_column xA_51 e11) yy_Ot_column.1 wm_1363 yy_Ot_column.2.1 yy_Ot_column.2.2 xA_105 ⟨_, _, rfl⟩ rfl ⟨Nat.le_of_ble_eq_true rfl, Nat.le_of_ble_eq_true rfl⟩ ⟨Nat.zero_le _, Nat.zero_le _⟩ (Nat.le_of_ble_eq_true rfl) dX5_takeFacts_46 ?_
  refine aw_putI (pc := 49) fd_X5_101 xA_105 rfl (fun _ => rfl) (fun _ => rfl) dX5_takeFacts_49 ?_
  refine aw_nmS (fun s12 e_s12 => ?_)
  replace h := aw_lte h s12 e_s12
  cases h
  subst hE
  exact aw_vret rfl ⟨Nat.zero_le _, Nat.zero_le _⟩ dX5_takeFacts_52
theorem c_Ot_takeFacts {l : Launch} {G : aw_G} {σ : aw_S} {p2 : Int32} {t : aw_S} (h : m_Ot_takeFacts σ p2 = some t) : aw_Ct l yX5_takeFacts M_Ot_takeFacts G B_Ot_takeFacts [.ref 105, .ref 41, .int p2] xA σ (none, xA, t) := aw_Ct_of (by decide) rfl (fun h => by cases h) (Nat.le_of_ble_eq_true rfl) (t_Ot_takeFacts h rfl)
/-! LateMover$Others.isRight(I)Z -/
def z_Ot_isRight_X14 (l : Launch) (G : aw_G) (E : aw_E) (σ : aw_S) (v1 : Int32) (s : Int32 × Int32 × Int32) : Prop := aw_W l M_Ot_isRight G B_Ot_isRight E 14 [(0, .ref 105), (1, .int v1), (2, .int s.1), (3, .int s.2.1), (4, .int s.2.2)] [] xA σ 0 0
def z_Ot_isRight_Y14 (l : Launch) (G : aw_G) (E : aw_E) (σ : aw_S) (v1 : Int32) (x : (Int32)) : Prop := aw_W l M_Ot_isRight G B_Ot_isRight E 118 [(0, .ref 105), (2, .int x)] [] xA σ 0 0
def z_Ot_isRight_X31 (l : Launch) (G : aw_G) (E : aw_E) (σ : aw_S) (v1 : Int32) (v4 : Int32) (v5 : Int32) (s : Int32 × Int32) : Prop := aw_W l M_Ot_isRight G B_Ot_isRight E 31 [(0, .ref 105), (1, .int v1), (2, .int s.1), (4, .int v4), (5, .int v5), (6, .int s.2)] [] xA σ 0 0
def z_Ot_isRight_Y31 (l : Launch) (G : aw_G) (E : aw_E) (σ : aw_S) (v1 : Int32) (v4 : Int32) (v5 : Int32) (x : (Int32)) : Prop := aw_W l M_Ot_isRight G B_Ot_isRight E 100 [(0, .ref 105), (1, .int v1), (2, .int x), (4, .int v4), (5, .int v5)] [] xA σ 0 0
set_option maxRecDepth 100000 in
set_option maxHeartbeats 4000000 in
theorem t_Ot_isRight_J94 {l : Launch} {G : aw_G} {E : aw_E} {σ : aw_S} {v1 : Int32} {v2 : Int32} {v4 : Int32} {v5 : Int32} {v6 : Int32} {t : (Int32) ⊕ (Int32 × Int32)} (h : m_Ot_isRight_J94 σ v1 v2 v4 v5 v6 = some t) (hz : Sum.elim (z_Ot_isRight_Y31 l G E σ v1 v4 v5) (z_Ot_isRight_X31 l G E σ v1 v4 v5) t) : aw_W l M_Ot_isRight G B_Ot_isRight E 94 [(0, .ref 105), (1, .int v1), (2, .int v2), (4, .int v4), (5, .int v5), (6, .int v6)] [] xA σ 0 0 := by
  unfold m_Ot_isRight_J94 at h
  obtain ⟨x7, e_x7⟩ : ∃ z, z = (v6 + (1 : Int32)) := ⟨_, rfl⟩
  replace h := aw_lte h x7 e_x7
  refine aw_iinc (pc := 94) (q := 5) (v := x7) [(6, .int x7), (0, .ref 105), (1, .int v1), (2, .int v2), (4, .int v4), (5, .int v5)] dX5_isRight_94 rfl e_x7.symm (by decide) rfl ?_
  refine aw_goto (pc := 97) (tgt := 31) dX5_isRight_97 (by decide) ?_
  refine aw_sub [1, 2, 3, 4, 5, 0] rfl ?_
  cases h
  exact hz
set_option maxRecDepth 100000 in
set_option maxHeartbeats 4000000 in
theorem t_Ot_isRight_J69 {l : Launch} {G : aw_G} {E : aw_E} {σ : aw_S} {v1 : Int32} {v2 : Int32} {v4 : Int32} {v5 : Int32} {v6 : Int32} {k0 : Int32} {t : (Int32) ⊕ (Int32 × Int32)} (h : m_Ot_isRight_J69 σ v1 v2 v4 v5 v6 k0 = some t) (hz : Sum.elim (z_Ot_isRight_Y31 l G E σ v1 v4 v5) (z_Ot_isRight_X31 l G E σ v1 v4 v5) t) : aw_W l M_Ot_isRight G B_Ot_isRight E 69 [(0, .ref 105), (1, .int v1), (2, .int v2), (4, .int v4), (5, .int v5), (6, .int v6)] [.int k0] xA σ 0 0 := by
  unfold m_Ot_isRight_J69 at h
  refine aw_istore (pc := 69) [(7, .int k0), (0, .ref 105), (1, .int v1), (2, .int v2), (4, .int v4), (5, .int v5), (6, .int v6)] dX5_isRight_69 (by decide) rfl ?_
  refine aw_iload (pc := 71) (q := 0) dX5_isRight_71 rfl ?_
  refine aw_if_ne (pc := 73) (tgt := 94) dX5_isRight_73 (by decide) (fun c6 => ?_) (fun c6 => ?_)
  · replace h := aw_ifn c6 h
    refine aw_sub [1, 2, 3, 4, 5, 6] rfl ?_
    exact t_Ot_isRight_J94 h hz
  · replace h := aw_ifp c6 h
    refine aw_iload_n (pc := 76) (q := 2) dX5_isRight_76 rfl ?_
    refine aw_iload (pc := 77) (q := 6) dX5_isRight_77 rfl ?_
    obtain ⟨r8, e9, h⟩ := aw_bde h
    refine aw_cN1 (pc := 79) [.int v1, .int v6] (c_Mo_bitOf e9) yy_Mo_bitOf.1 nm_X5_41 yy_Mo_bitOf.2 rfl ⟨Nat.le_of_ble_eq_true rfl, Nat.le_of_ble_eq_true rfl⟩ ⟨Nat.zero_le _, Nat.zero_le _⟩ (Nat.le_of_ble_eq_true rfl) dX5_isRight_79 ?_
    refine aw_if_ne (pc := 82) (tgt := 94) dX5_isRight_82 (by decide) (fun c10 => ?_) (fun c10 => ?_)
    · replace h := aw_ifn c10 h
      refine aw_sub [1, 2, 3, 4, 5, 6] rfl ?_
      exact t_Ot_isRight_J94 h hz
    · replace h := aw_ifp c10 h
      refine aw_iload_n (pc := 85) (q := 3) dX5_isRight_85 rfl ?_
      refine aw_iconst (pc := 86) (v := 1) dX5_isRight_86 (by decide) ?_
      refine aw_iload (pc := 87) (q := 6) dX5_isRight_87 rfl ?_
      refine aw_ishl (pc := 89) dX5_isRight_89 ?_
      refine aw_iconst (pc := 90) (v := -1) dX5_isRight_90 (by decide) ?_
      refine aw_ixor (pc := 91) dX5_isRight_91 ?_
      refine aw_iand (pc := 92) dX5_isRight_92 ?_
      refine aw_nmI (fun x11 e_x11 => ?_)
      replace h := aw_lte h x11 e_x11
      refine aw_istore_n (pc := 93) [(2, .int x11), (7, .int k0), (0, .ref 105), (1, .int v1), (4, .int v4), (5, .int v5), (6, .int v6)] dX5_isRight_93 (by decide) rfl ?_
      refine aw_sub [2, 3, 0, 4, 5, 6] rfl ?_
      exact t_Ot_isRight_J94 h hz
set_option maxRecDepth 100000 in
set_option maxHeartbeats 4000000 in
theorem t_Ot_isRight_J68 {l : Launch} {G : aw_G} {E : aw_E} {σ : aw_S} {v1 : Int32} {v2 : Int32} {v4 : Int32} {v5 : Int32} {v6 : Int32} {t : (Int32) ⊕ (Int32 × Int32)} (h : m_Ot_isRight_J68 σ v1 v2 v4 v5 v6 = some t) (hz : Sum.elim (z_Ot_isRight_Y31 l G E σ v1 v4 v5) (z_Ot_isRight_X31 l G E σ v1 v4 v5) t) : aw_W l M_Ot_isRight G B_Ot_isRight E 68 [(0, .ref 105), (1, .int v1), (2, .int v2), (4, .int v4), (5, .int v5), (6, .int v6)] [] xA σ 0 0 := by
  unfold m_Ot_isRight_J68 at h
  refine aw_iconst (pc := 68) (v := 0) dX5_isRight_68 (by decide) ?_
  exact t_Ot_isRight_J69 h hz
set_option maxRecDepth 100000 in
set_option maxHeartbeats 4000000 in
theorem t_Ot_isRight_B31 {l : Launch} {G : aw_G} {E : aw_E} {σ : aw_S} {v1 : Int32} {v4 : Int32} {v5 : Int32} {v2 : Int32} {v6 : Int32} {t : (Int32) ⊕ (Int32 × Int32)} (h : m_Ot_isRight_B31 σ v1 v4 v5 v2 v6 = some t) (hz : Sum.elim (z_Ot_isRight_Y31 l G E σ v1 v4 v5) (z_Ot_isRight_X31 l G E σ v1 v4 v5) t) : aw_W l M_Ot_isRight G B_Ot_isRight E 31 [(0, .ref 105), (1, .int v1), (2, .int v2), (4, .int v4), (5, .int v5), (6, .int v6)] [] xA σ 0 0 := by
  unfold m_Ot_isRight_B31 at h
  refine aw_iload (pc := 31) (q := 5) dX5_isRight_31 rfl ?_
  refine aw_aload_n (pc := 33) (q := 0) dX5_isRight_33 rfl ?_
  refine aw_getI (pc := 34) fd_X5_57.r xA_105 rfl dX5_isRight_34 ?_
  refine aw_icmp_ge (pc := 37) (tgt := 100) dX5_isRight_37 (by decide) (fun c4 => ?_) (fun c4 => ?_)
  · replace h := aw_ifp c4 h
    refine aw_sub [0, 1, 2, 3, 4] rfl ?_
    cases h
    exact hz
  · replace h := aw_ifn c4 h
    refine aw_iload (pc := 40) (q := 5) dX5_isRight_40 rfl ?_
    refine aw_if_le (pc := 42) (tgt := 68) dX5_isRight_42 (by decide) (fun c5 => ?_) (fun c5 => ?_)
    · replace h := aw_ifp c5 h
      exact t_Ot_isRight_J68 h hz
    · replace h := aw_ifn c5 h
      refine aw_aload_n (pc := 45) (q := 0) dX5_isRight_45 rfl ?_
      refine aw_getC (pc := 46) fd_X5_23.r xA_105 rfl dX5_isRight_46 ?_
      refine aw_iload (pc := 49) (q := 5) dX5_isRight_49 rfl ?_
      obtain ⟨g12, h⟩ := aw_gde h
      refine aw_iald (pc := 51) xA_133 g12 dX5_isRight_51 ?_
      refine aw_iload_n (pc := 52) (q := 2) dX5_isRight_52 rfl ?_
      refine aw_aload_n (pc := 53) (q := 0) dX5_isRight_53 rfl ?_
      refine aw_getI (pc := 54) fd_X5_91.r xA_105 rfl dX5_isRight_54 ?_
      refine aw_iand (pc := 57) dX5_isRight_57 ?_
      refine aw_iconst (pc := 58) (v := -1) dX5_isRight_58 (by decide) ?_
      refine aw_ixor (pc := 59) dX5_isRight_59 ?_
      refine aw_iand (pc := 60) dX5_isRight_60 ?_
      refine aw_if_ne (pc := 61) (tgt := 68) dX5_isRight_61 (by decide) (fun c13 => ?_) (fun c13 => ?_)
      · replace h := aw_ifn c13 h
        exact t_Ot_isRight_J68 h hz
      · replace h := aw_ifp c13 h
        refine aw_iconst (pc := 64) (v := 1) dX5_isRight_64 (by decide) ?_
        refine aw_goto (pc := 65) (tgt := 69) dX5_isRight_65 (by decide) ?_
        exact t_Ot_isRight_J69 h hz
set_option maxRecDepth 100000 in
set_option maxHeartbeats 4000000 in
theorem t_Ot_isRight_J111 {l : Launch} {G : aw_G} {E : aw_E} {σ : aw_S} {v1 : Int32} {v2 : Int32} {v4 : Int32} {k0 : Int32} {t : (Int32) ⊕ (Int32 × Int32 × Int32)} (h : m_Ot_isRight_J111 σ v1 v2 v4 k0 = some t) (hz : Sum.elim (z_Ot_isRight_Y14 l G E σ v1) (z_Ot_isRight_X14 l G E σ v1) t) : aw_W l M_Ot_isRight G B_Ot_isRight E 111 [(0, .ref 105), (1, .int v1), (2, .int v2), (4, .int v4)] [.int k0] xA σ 0 0 := by
  unfold m_Ot_isRight_J111 at h
  refine aw_istore_n (pc := 111) [(3, .int k0), (0, .ref 105), (1, .int v1), (2, .int v2), (4, .int v4)] dX5_isRight_111 (by decide) rfl ?_
  obtain ⟨x18, e_x18⟩ : ∃ z, z = (v4 + (1 : Int32)) := ⟨_, rfl⟩
  replace h := aw_lte h x18 e_x18
  refine aw_iinc (pc := 112) (q := 4) (v := x18) [(4, .int x18), (3, .int k0), (0, .ref 105), (1, .int v1), (2, .int v2)] dX5_isRight_112 rfl e_x18.symm (by decide) rfl ?_
  refine aw_goto (pc := 115) (tgt := 14) dX5_isRight_115 (by decide) ?_
  refine aw_sub [2, 3, 4, 1, 0] rfl ?_
  cases h
  exact hz
set_option maxRecDepth 100000 in
set_option maxHeartbeats 4000000 in
theorem t_Ot_isRight_B14 {l : Launch} {G : aw_G} {E : aw_E} {σ : aw_S} {v1 : Int32} {v2 : Int32} {v3 : Int32} {v4 : Int32} {t : (Int32) ⊕ (Int32 × Int32 × Int32)} (h : m_Ot_isRight_B14 σ v1 v2 v3 v4 = some t) (hz : Sum.elim (z_Ot_isRight_Y14 l G E σ v1) (z_Ot_isRight_X14 l G E σ v1) t) : aw_W l M_Ot_isRight G B_Ot_isRight E 14 [(0, .ref 105), (1, .int v1), (2, .int v2), (3, .int v3), (4, .int v4)] [] xA σ 0 0 := by
  unfold m_Ot_isRight_B14 at h
  refine aw_iload_n (pc := 14) (q := 3) dX5_isRight_14 rfl ?_
  refine aw_if_eq (pc := 15) (tgt := 118) dX5_isRight_15 (by decide) (fun c2 => ?_) (fun c2 => ?_)
  · replace h := aw_ifp c2 h
    refine aw_sub [0, 2] rfl ?_
    cases h
    exact hz
  · replace h := aw_ifn c2 h
    refine aw_iload (pc := 18) (q := 4) dX5_isRight_18 rfl ?_
    refine aw_bipush (pc := 20) (v := 12) dX5_isRight_20 (by decide) ?_
    refine aw_icmp_gt (pc := 22) (tgt := 118) dX5_isRight_22 (by decide) (fun c3 => ?_) (fun c3 => ?_)
    · replace h := aw_ifp c3 h
      refine aw_sub [0, 2] rfl ?_
      cases h
      exact hz
    · replace h := aw_ifn c3 h
      refine aw_iload_n (pc := 25) (q := 2) dX5_isRight_25 rfl ?_
      refine aw_istore (pc := 26) [(5, .int v2), (0, .ref 105), (1, .int v1), (2, .int v2), (3, .int v3), (4, .int v4)] dX5_isRight_26 (by decide) rfl ?_
      refine aw_iconst (pc := 28) (v := 0) dX5_isRight_28 (by decide) ?_
      refine aw_istore (pc := 29) [(6, .int ((0 : Int32))), (5, .int v2), (0, .ref 105), (1, .int v1), (2, .int v2), (3, .int v3), (4, .int v4)] dX5_isRight_29 (by decide) rfl ?_
      obtain ⟨x14, hl15, h⟩ := aw_bde h
      have K16 : z_Ot_isRight_Y31 l G E σ v1 v4 v2 x14 := by
        show aw_W l M_Ot_isRight G B_Ot_isRight E 100 [(0, .ref 105), (1, .int v1), (2, .int x14), (4, .int v4), (5, .int v2)] [] xA σ 0 0
        refine aw_iload_n (pc := 100) (q := 2) dX5_isRight_100 rfl ?_
        refine aw_iload (pc := 101) (q := 4) dX5_isRight_101 rfl ?_
        refine aw_icmp_eq (pc := 103) (tgt := 110) dX5_isRight_103 (by decide) (fun c17 => ?_) (fun c17 => ?_)
        · replace h := aw_ifp c17 h
          refine aw_iconst (pc := 110) (v := 0) dX5_isRight_110 (by decide) ?_
          refine aw_sub [0, 1, 2, 3] rfl ?_
          exact t_Ot_isRight_J111 h hz
        · replace h := aw_ifn c17 h
          refine aw_iconst (pc := 106) (v := 1) dX5_isRight_106 (by decide) ?_
          refine aw_goto (pc := 107) (tgt := 111) dX5_isRight_107 (by decide) ?_
          refine aw_sub [0, 1, 2, 3] rfl ?_
          exact t_Ot_isRight_J111 h hz
      refine aw_sub [2, 3, 4, 6, 1, 0] rfl ?_
      show z_Ot_isRight_X31 l G E σ v1 v4 v2 ((v2, (0 : Int32)))
      exact aw_lp_X (Xp := z_Ot_isRight_X31 l G E σ v1 v4 v2) (Y := z_Ot_isRight_Y31 l G E σ v1 v4 v2) hl15 K16 (fun s t hf hz => t_Ot_isRight_B31 hf hz)
set_option maxRecDepth 100000 in
set_option maxHeartbeats 4000000 in
theorem t_Ot_isRight {l : Launch} {G : aw_G} {E : aw_E} {σ : aw_S} {p1 : Int32} {t : Int32} (h : m_Ot_isRight σ p1 = some t) (hE : E = (some (.int t), xA, σ)) : aw_W l M_Ot_isRight G B_Ot_isRight E 0 [(0, .ref 105), (1, .int p1)] [] xA σ 0 0 := by
  unfold m_Ot_isRight at h
  refine aw_iconst (pc := 0) (v := 1) dX5_isRight_0 (by decide) ?_
  refine aw_aload_n (pc := 1) (q := 0) dX5_isRight_1 rfl ?_
  refine aw_getI (pc := 2) fd_X5_57.r xA_105 rfl dX5_isRight_2 ?_
  refine aw_ishl (pc := 5) dX5_isRight_5 ?_
  refine aw_iconst (pc := 6) (v := 1) dX5_isRight_6 (by decide) ?_
  refine aw_isub (pc := 7) dX5_isRight_7 ?_
  refine aw_nmI (fun x1 e_x1 => ?_)
  replace h := aw_lte h x1 e_x1
  refine aw_istore_n (pc := 8) [(2, .int x1), (0, .ref 105), (1, .int p1)] dX5_isRight_8 (by decide) rfl ?_
  refine aw_iconst (pc := 9) (v := 1) dX5_isRight_9 (by decide) ?_
  refine aw_istore_n (pc := 10) [(3, .int ((1 : Int32))), (2, .int x1), (0, .ref 105), (1, .int p1)] dX5_isRight_10 (by decide) rfl ?_
  refine aw_iconst (pc := 11) (v := 0) dX5_isRight_11 (by decide) ?_
  refine aw_istore (pc := 12) [(4, .int ((0 : Int32))), (3, .int ((1 : Int32))), (2, .int x1), (0, .ref 105), (1, .int p1)] dX5_isRight_12 (by decide) rfl ?_
  obtain ⟨x19, hl20, h⟩ := aw_bde h
  have K21 : z_Ot_isRight_Y14 l G E σ p1 x19 := by
    show aw_W l M_Ot_isRight G B_Ot_isRight E 118 [(0, .ref 105), (2, .int x19)] [] xA σ 0 0
    refine aw_aload_n (pc := 118) (q := 0) dX5_isRight_118 rfl ?_
    refine aw_getI (pc := 119) fd_X5_86.r xA_105 rfl dX5_isRight_119 ?_
    refine aw_iload_n (pc := 122) (q := 1) dX5_isRight_122 rfl ?_
    refine aw_iconst (pc := 123) (v := -1) dX5_isRight_123 (by decide) ?_
    refine aw_ixor (pc := 124) dX5_isRight_124 ?_
    refine aw_iand (pc := 125) dX5_isRight_125 ?_
    refine aw_if_ne (pc := 126) (tgt := 133) dX5_isRight_126 (by decide) (fun c22 => ?_) (fun c22 => ?_)
    · replace h := aw_ifn c22 h
      refine aw_iconst (pc := 133) (v := 0) dX5_isRight_133 (by decide) ?_
      cases h
      subst hE
      exact aw_iret (v := (0 : Int32)) rfl aw_n0 ⟨Nat.zero_le _, Nat.zero_le _⟩ dX5_isRight_134
    · replace h := aw_ifp c22 h
      refine aw_iconst (pc := 129) (v := 1) dX5_isRight_129 (by decide) ?_
      refine aw_goto (pc := 130) (tgt := 134) dX5_isRight_130 (by decide) ?_
      cases h
      subst hE
      exact aw_iret (v := (1 : Int32)) rfl aw_n1 ⟨Nat.zero_le _, Nat.zero_le _⟩ dX5_isRight_134
  refine aw_sub [3, 4, 2, 1, 0] rfl ?_
  show z_Ot_isRight_X14 l G E σ p1 ((x1, (1 : Int32), (0 : Int32)))
  exact aw_lp_X (Xp := z_Ot_isRight_X14 l G E σ p1) (Y := z_Ot_isRight_Y14 l G E σ p1) hl20 K21 (fun s t hf hz => t_Ot_isRight_B14 hf hz)
theorem c_Ot_isRight {l : Launch} {G : aw_G} {σ : aw_S} {p1 : Int32} {t : Int32} (h : m_Ot_isRight σ p1 = some t) : aw_Ct l yX5_isRight M_Ot_isRight G B_Ot_isRight [.ref 105, .int p1] xA σ (some (.int t), xA, σ) := aw_Ct_of (by decide) rfl (fun h => by cases h) (Nat.le_of_ble_eq_true rfl) (t_Ot_isRight h rfl)
/-! LateMover$Others.gain(II)I -/
set_option maxRecDepth 100000 in
set_option maxHeartbeats 4000000 in
theorem t_Ot_gain {l : Launch} {G : aw_G} {E : aw_E} {σ : aw_S} {p1 : Int32} {p2 : Int32} {t : Int32} (h : m_Ot_gain σ p1 p2 = some t) (hE : E = (some (.int t), xA, σ)) : aw_W l M_Ot_gain G B_Ot_gain E 0 [(0, .ref 105), (1, .int p1), (2, .int p2)] [] xA σ 0 0 := by
  unfold m_Ot_gain at h
  refine aw_iload_n (pc := 0) (q := 1) dX5_gain_0 rfl ?_
  refine aw_iload_n (pc := 1) (q := 2) dX5_gain_1 rfl ?_
  obtain ⟨r1, e2, h⟩ := aw_bde h
  refine aw_cN1 (pc := 2) [.int p1, .int p2] (c_Mo_bitOf e2) yy_Mo_bitOf.1 nm_X5_41 yy_Mo_bitOf.2 rfl ⟨Nat.le_of_ble_eq_true rfl, Nat.le_of_ble_eq_true rfl⟩ ⟨Nat.zero_le _, Nat.zero_le _⟩ (Nat.le_of_ble_eq_true rfl) dX5_gain_2 ?_
  refine aw_aload_n (pc := 5) (q := 0) dX5_gain_5 rfl ?_
  refine aw_getI (pc := 6) fd_X5_101.r xA_105 rfl dX5_gain_6 ?_
  refine aw_iload_n (pc := 9) (q := 2) dX5_gain_9 rfl ?_
  obtain ⟨r3, e4, h⟩ := aw_bde h
  refine aw_cN1 (pc := 10) [.int ((σ.1 105 11)), .int p2] (c_Mo_bitOf e4) yy_Mo_bitOf.1 nm_X5_41 yy_Mo_bitOf.2 rfl ⟨Nat.le_of_ble_eq_true rfl, Nat.le_of_ble_eq_true rfl⟩ ⟨Nat.zero_le _, Nat.zero_le _⟩ (Nat.le_of_ble_eq_true rfl) dX5_gain_10 ?_
  refine aw_isub (pc := 13) dX5_gain_13 ?_
  cases h
  subst hE
  exact aw_iret (v := (r1 - r3)) rfl aw_ni ⟨Nat.zero_le _, Nat.zero_le _⟩ dX5_gain_14
theorem c_Ot_gain {l : Launch} {G : aw_G} {σ : aw_S} {p1 : Int32} {p2 : Int32} {t : Int32} (h : m_Ot_gain σ p1 p2 = some t) : aw_Ct l yX5_gain M_Ot_gain G B_Ot_gain [.ref 105, .int p1, .int p2] xA σ (some (.int t), xA, σ) := aw_Ct_of (by decide) rfl (fun h => by cases h) (Nat.le_of_ble_eq_true rfl) (t_Ot_gain h rfl)
/-! LateMover$Others.carry(III)Z -/
set_option maxRecDepth 100000 in
set_option maxHeartbeats 4000000 in
theorem t_Ot_carry {l : Launch} {G : aw_G} {E : aw_E} {σ : aw_S} {p1 : Int32} {p2 : Int32} {p3 : Int32} {t : (Int32 × aw_S)} (h : m_Ot_carry σ p1 p2 p3 = some t) (hE : E = (some (.int t.1), xA, t.2)) : aw_W l M_Ot_carry G B_Ot_carry E 0 [(0, .ref 105), (1, .int p1), (2, .int p2), (3, .int p3)] [] xA σ 0 0 := by
  unfold m_Ot_carry at h
  refine aw_iload_n (pc := 0) (q := 3) dX5_carry_0 rfl ?_
  refine aw_if_lt (pc := 1) (tgt := 34) dX5_carry_1 (by decide) (fun c1 => ?_) (fun c1 => ?_)
  · replace h := aw_ifp c1 h
    refine aw_iconst (pc := 34) (v := 0) dX5_carry_34 (by decide) ?_
    cases h
    subst hE
    exact aw_iret (v := (0 : Int32)) rfl aw_n0 ⟨Nat.zero_le _, Nat.zero_le _⟩ dX5_carry_35
  · replace h := aw_ifn c1 h
    refine aw_iload_n (pc := 4) (q := 3) dX5_carry_4 rfl ?_
    refine aw_aload_n (pc := 5) (q := 0) dX5_carry_5 rfl ?_
    refine aw_getI (pc := 6) fd_X5_57.r xA_105 rfl dX5_carry_6 ?_
    refine aw_icmp_ge (pc := 9) (tgt := 34) dX5_carry_9 (by decide) (fun c2 => ?_) (fun c2 => ?_)
    · replace h := aw_ifp c2 h
      refine aw_iconst (pc := 34) (v := 0) dX5_carry_34 (by decide) ?_
      cases h
      subst hE
      exact aw_iret (v := (0 : Int32)) rfl aw_n0 ⟨Nat.zero_le _, Nat.zero_le _⟩ dX5_carry_35
    · replace h := aw_ifn c2 h
      refine aw_aload_n (pc := 12) (q := 0) dX5_carry_12 rfl ?_
      refine aw_getC (pc := 13) fd_X5_29.r xA_105 rfl dX5_carry_13 ?_
      refine aw_iload_n (pc := 16) (q := 2) dX5_carry_16 rfl ?_
      obtain ⟨g3, h⟩ := aw_gde h
      refine aw_iald (pc := 17) xA_135 g3 dX5_carry_17 ?_
      refine aw_aload_n (pc := 18) (q := 0) dX5_carry_18 rfl ?_
      refine aw_iload_n (pc := 19) (q := 1) dX5_carry_19 rfl ?_
      refine aw_iload_n (pc := 20) (q := 3) dX5_carry_20 rfl ?_
      obtain ⟨r4, e5, h⟩ := aw_bde h
      refine aw_cV1 (pc := 21) [.int p1, .int p3] (c_Ot_gain e5) yy_Ot_gain.1 wm_1379 yy_Ot_gain.2.1 yy_Ot_gain.2.2 xA_105 ⟨_, _, rfl⟩ rfl ⟨Nat.le_of_ble_eq_true rfl, Nat.le_of_ble_eq_true rfl⟩ ⟨Nat.zero_le _, Nat.zero_le _⟩ (Nat.le_of_ble_eq_true rfl) dX5_carry_21 ?_
      refine aw_iadd (pc := 24) dX5_carry_24 ?_
      refine aw_aload_n (pc := 25) (q := 0) dX5_carry_25 rfl ?_
      refine aw_getC (pc := 26) fd_X5_29.r xA_105 rfl dX5_carry_26 ?_
      refine aw_iload_n (pc := 29) (q := 3) dX5_carry_29 rfl ?_
      obtain ⟨g6, h⟩ := aw_gde h
      refine aw_iald (pc := 30) xA_135 g6 dX5_carry_30 ?_
      refine aw_icmp_gt (pc := 31) (tgt := 36) dX5_carry_31 (by decide) (fun c7 => ?_) (fun c7 => ?_)
      · replace h := aw_ifp c7 h
        refine aw_aload_n (pc := 36) (q := 0) dX5_carry_36 rfl ?_
        refine aw_getC (pc := 37) fd_X5_29.r xA_105 rfl dX5_carry_37 ?_
        refine aw_iload_n (pc := 40) (q := 3) dX5_carry_40 rfl ?_
        refine aw_aload_n (pc := 41) (q := 0) dX5_carry_41 rfl ?_
        refine aw_getC (pc := 42) fd_X5_29.r xA_105 rfl dX5_carry_42 ?_
        refine aw_iload_n (pc := 45) (q := 2) dX5_carry_45 rfl ?_
        obtain ⟨g8, h⟩ := aw_gde h
        refine aw_iald (pc := 46) xA_135 g8 dX5_carry_46 ?_
        refine aw_aload_n (pc := 47) (q := 0) dX5_carry_47 rfl ?_
        refine aw_iload_n (pc := 48) (q := 1) dX5_carry_48 rfl ?_
        refine aw_iload_n (pc := 49) (q := 3) dX5_carry_49 rfl ?_
        obtain ⟨r9, e10, h⟩ := aw_bde h
        refine aw_cV1 (pc := 50) [.int p1, .int p3] (c_Ot_gain e10) yy_Ot_gain.1 wm_1379 yy_Ot_gain.2.1 yy_Ot_gain.2.2 xA_105 ⟨_, _, rfl⟩ rfl ⟨Nat.le_of_ble_eq_true rfl, Nat.le_of_ble_eq_true rfl⟩ ⟨Nat.zero_le _, Nat.zero_le _⟩ (Nat.le_of_ble_eq_true rfl) dX5_carry_50 ?_
        refine aw_iadd (pc := 53) dX5_carry_53 ?_
        obtain ⟨g11, h⟩ := aw_gde h
        refine aw_iast (pc := 54) xA_135 g11 dX5_carry_54 ?_
        refine aw_nmS (fun s12 e_s12 => ?_)
        replace h := aw_lte h s12 e_s12
        refine aw_iconst (pc := 55) (v := 1) dX5_carry_55 (by decide) ?_
        cases h
        subst hE
        exact aw_iret (v := (1 : Int32)) rfl aw_n1 ⟨Nat.zero_le _, Nat.zero_le _⟩ dX5_carry_56
      · replace h := aw_ifn c7 h
        refine aw_iconst (pc := 34) (v := 0) dX5_carry_34 (by decide) ?_
        cases h
        subst hE
        exact aw_iret (v := (0 : Int32)) rfl aw_n0 ⟨Nat.zero_le _, Nat.zero_le _⟩ dX5_carry_35
theorem c_Ot_carry {l : Launch} {G : aw_G} {σ : aw_S} {p1 : Int32} {p2 : Int32} {p3 : Int32} {t : (Int32 × aw_S)} (h : m_Ot_carry σ p1 p2 p3 = some t) : aw_Ct l yX5_carry M_Ot_carry G B_Ot_carry [.ref 105, .int p1, .int p2, .int p3] xA σ (some (.int t.1), xA, t.2) := aw_Ct_of (by decide) rfl (fun h => by cases h) (Nat.le_of_ble_eq_true rfl) (t_Ot_carry h rfl)
/-! LateMover$Others.endsAhead()Z -/
def z_Ot_endsAhead_X2 (l : Launch) (G : aw_G) (E : aw_E) (σ : aw_S) (s : Int32) : Prop := aw_W l M_Ot_endsAhead G B_Ot_endsAhead E 2 [(0, .ref 105), (1, .int s)] [] xA σ 0 0
def z_Ot_endsAhead_Y2 (l : Launch) (G : aw_G) (E : aw_E) (σ : aw_S) (x : ((Int32) ⊕ (Unit))) : Prop := (Sum.elim (fun r0 => E = (some (.int r0), xA, σ)) (fun r1 => aw_W l M_Ot_endsAhead G B_Ot_endsAhead E 39 [] [] xA σ 0 0)) x
set_option maxRecDepth 100000 in
set_option maxHeartbeats 4000000 in
theorem t_Ot_endsAhead_J33 {l : Launch} {G : aw_G} {E : aw_E} {σ : aw_S} {v1 : Int32} {t : ((Int32) ⊕ (Unit)) ⊕ Int32} (h : m_Ot_endsAhead_J33 σ v1 = some t) (hz : Sum.elim (z_Ot_endsAhead_Y2 l G E σ) (z_Ot_endsAhead_X2 l G E σ) t) : aw_W l M_Ot_endsAhead G B_Ot_endsAhead E 33 [(0, .ref 105), (1, .int v1)] [] xA σ 0 0 := by
  unfold m_Ot_endsAhead_J33 at h
  obtain ⟨x5, e_x5⟩ : ∃ z, z = (v1 + (1 : Int32)) := ⟨_, rfl⟩
  replace h := aw_lte h x5 e_x5
  refine aw_iinc (pc := 33) (q := 1) (v := x5) [(1, .int x5), (0, .ref 105)] dX5_endsAhead_33 rfl e_x5.symm (by decide) rfl ?_
  refine aw_goto (pc := 36) (tgt := 2) dX5_endsAhead_36 (by decide) ?_
  refine aw_sub [1, 0] rfl ?_
  cases h
  exact hz
set_option maxRecDepth 100000 in
set_option maxHeartbeats 4000000 in
theorem t_Ot_endsAhead_B2 {l : Launch} {G : aw_G} {E : aw_E} {σ : aw_S} {v1 : Int32} {t : ((Int32) ⊕ (Unit)) ⊕ Int32} (h : m_Ot_endsAhead_B2 σ v1 = some t) (hz : Sum.elim (z_Ot_endsAhead_Y2 l G E σ) (z_Ot_endsAhead_X2 l G E σ) t) : aw_W l M_Ot_endsAhead G B_Ot_endsAhead E 2 [(0, .ref 105), (1, .int v1)] [] xA σ 0 0 := by
  unfold m_Ot_endsAhead_B2 at h
  refine aw_iload_n (pc := 2) (q := 1) dX5_endsAhead_2 rfl ?_
  refine aw_aload_n (pc := 3) (q := 0) dX5_endsAhead_3 rfl ?_
  refine aw_getI (pc := 4) fd_X5_57.r xA_105 rfl dX5_endsAhead_4 ?_
  refine aw_icmp_ge (pc := 7) (tgt := 39) dX5_endsAhead_7 (by decide) (fun c1 => ?_) (fun c1 => ?_)
  · replace h := aw_ifp c1 h
    refine aw_sub [] rfl ?_
    cases h
    exact hz
  · replace h := aw_ifn c1 h
    refine aw_aload_n (pc := 10) (q := 0) dX5_endsAhead_10 rfl ?_
    refine aw_getI (pc := 11) fd_X5_58.r xA_105 rfl dX5_endsAhead_11 ?_
    refine aw_iload_n (pc := 14) (q := 1) dX5_endsAhead_14 rfl ?_
    obtain ⟨r2, e3, h⟩ := aw_bde h
    refine aw_cN1 (pc := 15) [.int ((σ.1 105 12)), .int v1] (c_Mo_bitOf e3) yy_Mo_bitOf.1 nm_X5_41 yy_Mo_bitOf.2 rfl ⟨Nat.le_of_ble_eq_true rfl, Nat.le_of_ble_eq_true rfl⟩ ⟨Nat.zero_le _, Nat.zero_le _⟩ (Nat.le_of_ble_eq_true rfl) dX5_endsAhead_15 ?_
    refine aw_iconst (pc := 18) (v := 1) dX5_endsAhead_18 (by decide) ?_
    refine aw_icmp_ne (pc := 19) (tgt := 33) dX5_endsAhead_19 (by decide) (fun c4 => ?_) (fun c4 => ?_)
    · replace h := aw_ifn c4 h
      exact t_Ot_endsAhead_J33 h hz
    · replace h := aw_ifp c4 h
      refine aw_aload_n (pc := 22) (q := 0) dX5_endsAhead_22 rfl ?_
      refine aw_getC (pc := 23) fd_X5_29.r xA_105 rfl dX5_endsAhead_23 ?_
      refine aw_iload_n (pc := 26) (q := 1) dX5_endsAhead_26 rfl ?_
      obtain ⟨g6, h⟩ := aw_gde h
      refine aw_iald (pc := 27) xA_135 g6 dX5_endsAhead_27 ?_
      refine aw_if_le (pc := 28) (tgt := 33) dX5_endsAhead_28 (by decide) (fun c7 => ?_) (fun c7 => ?_)
      · replace h := aw_ifp c7 h
        exact t_Ot_endsAhead_J33 h hz
      · replace h := aw_ifn c7 h
        refine aw_iconst (pc := 31) (v := 1) dX5_endsAhead_31 (by decide) ?_
        cases h
        have hE : E = _ := hz
        subst hE
        exact aw_iret (v := (1 : Int32)) rfl aw_n1 ⟨Nat.zero_le _, Nat.zero_le _⟩ dX5_endsAhead_32
set_option maxRecDepth 100000 in
set_option maxHeartbeats 4000000 in
theorem t_Ot_endsAhead {l : Launch} {G : aw_G} {E : aw_E} {σ : aw_S} {t : Int32} (h : m_Ot_endsAhead σ = some t) (hE : E = (some (.int t), xA, σ)) : aw_W l M_Ot_endsAhead G B_Ot_endsAhead E 0 [(0, .ref 105)] [] xA σ 0 0 := by
  unfold m_Ot_endsAhead at h
  refine aw_iconst (pc := 0) (v := 0) dX5_endsAhead_0 (by decide) ?_
  refine aw_istore_n (pc := 1) [(1, .int ((0 : Int32))), (0, .ref 105)] dX5_endsAhead_1 (by decide) rfl ?_
  obtain ⟨x8, hl9, h⟩ := aw_bde h
  have K10 : z_Ot_endsAhead_Y2 l G E σ x8 := by
    cases x8 with
    | inl y11 =>
      replace h := aw_eL h
      show E = _
      cases h
      exact hE
    | inr y12 =>
      replace h := aw_eR h
      show aw_W l M_Ot_endsAhead G B_Ot_endsAhead E 39 [] [] xA σ 0 0
      refine aw_iconst (pc := 39) (v := 0) dX5_endsAhead_39 (by decide) ?_
      cases h
      subst hE
      exact aw_iret (v := (0 : Int32)) rfl aw_n0 ⟨Nat.zero_le _, Nat.zero_le _⟩ dX5_endsAhead_40
  refine aw_sub [1, 0] rfl ?_
  show z_Ot_endsAhead_X2 l G E σ ((0 : Int32))
  exact aw_lp_X (Xp := z_Ot_endsAhead_X2 l G E σ) (Y := z_Ot_endsAhead_Y2 l G E σ) hl9 K10 (fun s t hf hz => t_Ot_endsAhead_B2 hf hz)
theorem c_Ot_endsAhead {l : Launch} {G : aw_G} {σ : aw_S} {t : Int32} (h : m_Ot_endsAhead σ = some t) : aw_Ct l yX5_endsAhead M_Ot_endsAhead G B_Ot_endsAhead [.ref 105] xA σ (some (.int t), xA, σ) := aw_Ct_of (by decide) rfl (fun h => by cases h) (Nat.le_of_ble_eq_true rfl) (t_Ot_endsAhead h rfl)
/-! LateMover$Others.isFew(I)Z -/
def z_Ot_isFew_X39 (l : Launch) (G : aw_G) (E : aw_E) (v1 : Int32) (v2 : Int32) (s : Int32 × Int32 × aw_S) : Prop := aw_W l M_Ot_isFew G B_Ot_isFew E 39 [(0, .ref 105), (1, .int v1), (2, .int v2), (3, .int s.1), (4, .int s.2.1)] [] xA s.2.2 0 0
def z_Ot_isFew_Y39 (l : Launch) (G : aw_G) (E : aw_E) (v1 : Int32) (v2 : Int32) (x : (((Int32 × aw_S)) ⊕ (Int32 × aw_S))) : Prop := (Sum.elim (fun r0 => E = (some (.int r0.1), xA, r0.2)) (fun r1 => aw_W l M_Ot_isFew G B_Ot_isFew E 175 [(0, .ref 105), (3, .int r1.1)] [] xA r1.2 0 0)) x
def z_Ot_isFew_X57 (l : Launch) (G : aw_G) (E : aw_E) (v1 : Int32) (v2 : Int32) (v4 : Int32) (s : Int32 × Int32 × aw_S) : Prop := aw_W l M_Ot_isFew G B_Ot_isFew E 57 [(0, .ref 105), (1, .int v1), (2, .int v2), (3, .int s.1), (4, .int v4), (5, .int s.2.1)] [] xA s.2.2 0 0
def z_Ot_isFew_Y57 (l : Launch) (G : aw_G) (E : aw_E) (v1 : Int32) (v2 : Int32) (v4 : Int32) (x : (((Int32 × aw_S)) ⊕ (Int32 × aw_S))) : Prop := (Sum.elim (fun r0 => E = (some (.int r0.1), xA, r0.2)) (fun r1 => aw_W l M_Ot_isFew G B_Ot_isFew E 169 [(0, .ref 105), (1, .int v1), (2, .int v2), (3, .int r1.1), (4, .int v4)] [] xA r1.2 0 0)) x
set_option maxRecDepth 100000 in
set_option maxHeartbeats 4000000 in
theorem t_Ot_isFew_J162 {l : Launch} {G : aw_G} {E : aw_E} {σ : aw_S} {v1 : Int32} {v2 : Int32} {v4 : Int32} {v5 : Int32} {k0 : Int32} {t : (((Int32 × aw_S)) ⊕ (Int32 × aw_S)) ⊕ (Int32 × Int32 × aw_S)} (h : m_Ot_isFew_J162 σ v1 v2 v4 v5 k0 = some t) (hz : Sum.elim (z_Ot_isFew_Y57 l G E v1 v2 v4) (z_Ot_isFew_X57 l G E v1 v2 v4) t) : aw_W l M_Ot_isFew G B_Ot_isFew E 162 [(0, .ref 105), (1, .int v1), (2, .int v2), (4, .int v4), (5, .int v5)] [.int k0] xA σ 0 0 := by
  unfold m_Ot_isFew_J162 at h
  refine aw_istore_n (pc := 162) [(3, .int k0), (0, .ref 105), (1, .int v1), (2, .int v2), (4, .int v4), (5, .int v5)] dX5_isFew_162 (by decide) rfl ?_
  obtain ⟨x21, e_x21⟩ : ∃ z, z = (v5 + (1 : Int32)) := ⟨_, rfl⟩
  replace h := aw_lte h x21 e_x21
  refine aw_iinc (pc := 163) (q := 5) (v := x21) [(5, .int x21), (3, .int k0), (0, .ref 105), (1, .int v1), (2, .int v2), (4, .int v4)] dX5_isFew_163 rfl e_x21.symm (by decide) rfl ?_
  refine aw_goto (pc := 166) (tgt := 57) dX5_isFew_166 (by decide) ?_
  refine aw_sub [2, 3, 4, 1, 5, 0] rfl ?_
  cases h
  exact hz
set_option maxRecDepth 100000 in
set_option maxHeartbeats 4000000 in
theorem t_Ot_isFew_J153 {l : Launch} {G : aw_G} {E : aw_E} {σ : aw_S} {v1 : Int32} {v2 : Int32} {v3 : Int32} {v4 : Int32} {v5 : Int32} {t : (((Int32 × aw_S)) ⊕ (Int32 × aw_S)) ⊕ (Int32 × Int32 × aw_S)} (h : m_Ot_isFew_J153 σ v1 v2 v3 v4 v5 = some t) (hz : Sum.elim (z_Ot_isFew_Y57 l G E v1 v2 v4) (z_Ot_isFew_X57 l G E v1 v2 v4) t) : aw_W l M_Ot_isFew G B_Ot_isFew E 153 [(0, .ref 105), (1, .int v1), (2, .int v2), (3, .int v3), (4, .int v4), (5, .int v5)] [] xA σ 0 0 := by
  unfold m_Ot_isFew_J153 at h
  refine aw_iload_n (pc := 153) (q := 3) dX5_isFew_153 rfl ?_
  refine aw_if_eq (pc := 154) (tgt := 161) dX5_isFew_154 (by decide) (fun c20 => ?_) (fun c20 => ?_)
  · replace h := aw_ifp c20 h
    refine aw_iconst (pc := 161) (v := 0) dX5_isFew_161 (by decide) ?_
    refine aw_sub [0, 1, 2, 4, 5] rfl ?_
    exact t_Ot_isFew_J162 h hz
  · replace h := aw_ifn c20 h
    refine aw_iconst (pc := 157) (v := 1) dX5_isFew_157 (by decide) ?_
    refine aw_goto (pc := 158) (tgt := 162) dX5_isFew_158 (by decide) ?_
    refine aw_sub [0, 1, 2, 4, 5] rfl ?_
    exact t_Ot_isFew_J162 h hz
set_option maxRecDepth 100000 in
set_option maxHeartbeats 4000000 in
theorem t_Ot_isFew_J130 {l : Launch} {G : aw_G} {E : aw_E} {σ : aw_S} {v1 : Int32} {v2 : Int32} {v4 : Int32} {v5 : Int32} {v6 : Int32} {k0 : Int32} {t : (((Int32 × aw_S)) ⊕ (Int32 × aw_S)) ⊕ (Int32 × Int32 × aw_S)} (h : m_Ot_isFew_J130 σ v1 v2 v4 v5 v6 k0 = some t) (hz : Sum.elim (z_Ot_isFew_Y57 l G E v1 v2 v4) (z_Ot_isFew_X57 l G E v1 v2 v4) t) : aw_W l M_Ot_isFew G B_Ot_isFew E 130 [(0, .ref 105), (1, .int v1), (2, .int v2), (4, .int v4), (5, .int v5), (6, .int v6)] [.int k0] xA σ 0 0 := by
  unfold m_Ot_isFew_J130 at h
  refine aw_istore_n (pc := 130) [(3, .int k0), (0, .ref 105), (1, .int v1), (2, .int v2), (4, .int v4), (5, .int v5), (6, .int v6)] dX5_isFew_130 (by decide) rfl ?_
  refine aw_iload (pc := 131) (q := 6) dX5_isFew_131 rfl ?_
  refine aw_if_eq (pc := 133) (tgt := 153) dX5_isFew_133 (by decide) (fun c19 => ?_) (fun c19 => ?_)
  · replace h := aw_ifp c19 h
    refine aw_sub [1, 2, 3, 0, 4, 5] rfl ?_
    exact t_Ot_isFew_J153 h hz
  · replace h := aw_ifn c19 h
    refine aw_aload_n (pc := 136) (q := 1) dX5_isFew_136 rfl ?_
    refine aw_iload_n (pc := 137) (q := 2) dX5_isFew_137 rfl ?_
    refine aw_iload (pc := 138) (q := 5) dX5_isFew_138 rfl ?_
    refine aw_aload_n (pc := 140) (q := 1) dX5_isFew_140 rfl ?_
    refine aw_getC (pc := 141) fd_X5_20.r xA_105 rfl dX5_isFew_141 ?_
    refine aw_iload (pc := 144) (q := 5) dX5_isFew_144 rfl ?_
    obtain ⟨g22, h⟩ := aw_gde h
    refine aw_iald (pc := 146) xA_132 g22 dX5_isFew_146 ?_
    obtain ⟨r23, s25, e24, h⟩ := aw_bd2e h
    refine aw_cV1 (pc := 147) [.int v1, .int v5, .int ((σ.1 132 v5.toNatClampNeg))] (c_Ot_carry e24) yy_Ot_carry.1 wm_1384 yy_Ot_carry.2.1 yy_Ot_carry.2.2 xA_105 ⟨_, _, rfl⟩ rfl ⟨Nat.le_of_ble_eq_true rfl, Nat.le_of_ble_eq_true rfl⟩ ⟨Nat.zero_le _, Nat.zero_le _⟩ (Nat.le_of_ble_eq_true rfl) dX5_isFew_147 ?_
    refine aw_if_ne (pc := 150) (tgt := 157) dX5_isFew_150 (by decide) (fun c26 => ?_) (fun c26 => ?_)
    · replace h := aw_ifn c26 h
      refine aw_iconst (pc := 157) (v := 1) dX5_isFew_157 (by decide) ?_
      refine aw_goto (pc := 158) (tgt := 162) dX5_isFew_158 (by decide) ?_
      refine aw_sub [1, 2, 3, 4, 5] rfl ?_
      exact t_Ot_isFew_J162 h hz
    · replace h := aw_ifp c26 h
      refine aw_sub [1, 2, 3, 0, 4, 5] rfl ?_
      exact t_Ot_isFew_J153 h hz
set_option maxRecDepth 100000 in
set_option maxHeartbeats 4000000 in
theorem t_Ot_isFew_J121 {l : Launch} {G : aw_G} {E : aw_E} {σ : aw_S} {v1 : Int32} {v2 : Int32} {v3 : Int32} {v4 : Int32} {v5 : Int32} {v6 : Int32} {t : (((Int32 × aw_S)) ⊕ (Int32 × aw_S)) ⊕ (Int32 × Int32 × aw_S)} (h : m_Ot_isFew_J121 σ v1 v2 v3 v4 v5 v6 = some t) (hz : Sum.elim (z_Ot_isFew_Y57 l G E v1 v2 v4) (z_Ot_isFew_X57 l G E v1 v2 v4) t) : aw_W l M_Ot_isFew G B_Ot_isFew E 121 [(0, .ref 105), (1, .int v1), (2, .int v2), (3, .int v3), (4, .int v4), (5, .int v5), (6, .int v6)] [] xA σ 0 0 := by
  unfold m_Ot_isFew_J121 at h
  refine aw_iload_n (pc := 121) (q := 3) dX5_isFew_121 rfl ?_
  refine aw_if_eq (pc := 122) (tgt := 129) dX5_isFew_122 (by decide) (fun c18 => ?_) (fun c18 => ?_)
  · replace h := aw_ifp c18 h
    refine aw_iconst (pc := 129) (v := 0) dX5_isFew_129 (by decide) ?_
    refine aw_sub [0, 1, 2, 4, 5, 6] rfl ?_
    exact t_Ot_isFew_J130 h hz
  · replace h := aw_ifn c18 h
    refine aw_iconst (pc := 125) (v := 1) dX5_isFew_125 (by decide) ?_
    refine aw_goto (pc := 126) (tgt := 130) dX5_isFew_126 (by decide) ?_
    refine aw_sub [0, 1, 2, 4, 5, 6] rfl ?_
    exact t_Ot_isFew_J130 h hz
set_option maxRecDepth 100000 in
set_option maxHeartbeats 4000000 in
theorem t_Ot_isFew_J97 {l : Launch} {G : aw_G} {E : aw_E} {σ : aw_S} {v1 : Int32} {v2 : Int32} {v3 : Int32} {v4 : Int32} {v5 : Int32} {k0 : Int32} {t : (((Int32 × aw_S)) ⊕ (Int32 × aw_S)) ⊕ (Int32 × Int32 × aw_S)} (h : m_Ot_isFew_J97 σ v1 v2 v3 v4 v5 k0 = some t) (hz : Sum.elim (z_Ot_isFew_Y57 l G E v1 v2 v4) (z_Ot_isFew_X57 l G E v1 v2 v4) t) : aw_W l M_Ot_isFew G B_Ot_isFew E 97 [(0, .ref 105), (1, .int v1), (2, .int v2), (3, .int v3), (4, .int v4), (5, .int v5)] [.int k0] xA σ 0 0 := by
  unfold m_Ot_isFew_J97 at h
  refine aw_istore (pc := 97) [(6, .int k0), (0, .ref 105), (1, .int v1), (2, .int v2), (3, .int v3), (4, .int v4), (5, .int v5)] dX5_isFew_97 (by decide) rfl ?_
  refine aw_iload (pc := 99) (q := 0) dX5_isFew_99 rfl ?_
  refine aw_if_eq (pc := 101) (tgt := 121) dX5_isFew_101 (by decide) (fun c17 => ?_) (fun c17 => ?_)
  · replace h := aw_ifp c17 h
    refine aw_sub [1, 2, 3, 4, 5, 6, 0] rfl ?_
    exact t_Ot_isFew_J121 h hz
  · replace h := aw_ifn c17 h
    refine aw_aload_n (pc := 104) (q := 1) dX5_isFew_104 rfl ?_
    refine aw_iload_n (pc := 105) (q := 2) dX5_isFew_105 rfl ?_
    refine aw_iload (pc := 106) (q := 6) dX5_isFew_106 rfl ?_
    refine aw_aload_n (pc := 108) (q := 1) dX5_isFew_108 rfl ?_
    refine aw_getC (pc := 109) fd_X5_16.r xA_105 rfl dX5_isFew_109 ?_
    refine aw_iload (pc := 112) (q := 6) dX5_isFew_112 rfl ?_
    obtain ⟨g27, h⟩ := aw_gde h
    refine aw_iald (pc := 114) xA_131 g27 dX5_isFew_114 ?_
    obtain ⟨r28, s30, e29, h⟩ := aw_bd2e h
    refine aw_cV1 (pc := 115) [.int v1, .int v5, .int ((σ.1 131 v5.toNatClampNeg))] (c_Ot_carry e29) yy_Ot_carry.1 wm_1384 yy_Ot_carry.2.1 yy_Ot_carry.2.2 xA_105 ⟨_, _, rfl⟩ rfl ⟨Nat.le_of_ble_eq_true rfl, Nat.le_of_ble_eq_true rfl⟩ ⟨Nat.zero_le _, Nat.zero_le _⟩ (Nat.le_of_ble_eq_true rfl) dX5_isFew_115 ?_
    refine aw_if_ne (pc := 118) (tgt := 125) dX5_isFew_118 (by decide) (fun c31 => ?_) (fun c31 => ?_)
    · replace h := aw_ifn c31 h
      refine aw_iconst (pc := 125) (v := 1) dX5_isFew_125 (by decide) ?_
      refine aw_goto (pc := 126) (tgt := 130) dX5_isFew_126 (by decide) ?_
      refine aw_sub [1, 2, 3, 5, 6, 0] rfl ?_
      exact t_Ot_isFew_J130 h hz
    · replace h := aw_ifp c31 h
      refine aw_sub [1, 2, 3, 4, 5, 6, 0] rfl ?_
      exact t_Ot_isFew_J121 h hz
set_option maxRecDepth 100000 in
set_option maxHeartbeats 4000000 in
theorem t_Ot_isFew_B57 {l : Launch} {G : aw_G} {E : aw_E} {σ : aw_S} {v1 : Int32} {v2 : Int32} {v4 : Int32} {v3 : Int32} {v5 : Int32} {t : (((Int32 × aw_S)) ⊕ (Int32 × aw_S)) ⊕ (Int32 × Int32 × aw_S)} (h : m_Ot_isFew_B57 σ v1 v2 v4 v3 v5 = some t) (hz : Sum.elim (z_Ot_isFew_Y57 l G E v1 v2 v4) (z_Ot_isFew_X57 l G E v1 v2 v4) t) : aw_W l M_Ot_isFew G B_Ot_isFew E 57 [(0, .ref 105), (1, .int v1), (2, .int v2), (3, .int v3), (4, .int v4), (5, .int v5)] [] xA σ 0 0 := by
  unfold m_Ot_isFew_B57 at h
  refine aw_iload (pc := 57) (q := 5) dX5_isFew_57 rfl ?_
  refine aw_aload_n (pc := 59) (q := 0) dX5_isFew_59 rfl ?_
  refine aw_getI (pc := 60) fd_X5_57.r xA_105 rfl dX5_isFew_60 ?_
  refine aw_icmp_ge (pc := 63) (tgt := 169) dX5_isFew_63 (by decide) (fun c12 => ?_) (fun c12 => ?_)
  · replace h := aw_ifp c12 h
    refine aw_sub [0, 1, 2, 3, 4] rfl ?_
    cases h
    exact hz
  · replace h := aw_ifn c12 h
    refine aw_aload_n (pc := 66) (q := 0) dX5_isFew_66 rfl ?_
    refine aw_getC (pc := 67) fd_X5_29.r xA_105 rfl dX5_isFew_67 ?_
    refine aw_iload (pc := 70) (q := 5) dX5_isFew_70 rfl ?_
    obtain ⟨g13, h⟩ := aw_gde h
    refine aw_iald (pc := 72) xA_135 g13 dX5_isFew_72 ?_
    refine aw_iload_n (pc := 73) (q := 2) dX5_isFew_73 rfl ?_
    refine aw_icmp_le (pc := 74) (tgt := 79) dX5_isFew_74 (by decide) (fun c14 => ?_) (fun c14 => ?_)
    · replace h := aw_ifp c14 h
      refine aw_aload_n (pc := 79) (q := 0) dX5_isFew_79 rfl ?_
      refine aw_getC (pc := 80) fd_X5_29.r xA_105 rfl dX5_isFew_80 ?_
      refine aw_iload (pc := 83) (q := 5) dX5_isFew_83 rfl ?_
      obtain ⟨g15, h⟩ := aw_gde h
      refine aw_iald (pc := 85) xA_135 g15 dX5_isFew_85 ?_
      refine aw_sipush (pc := 86) (v := -500) dX5_isFew_86 (by decide) ?_
      refine aw_icmp_le (pc := 89) (tgt := 96) dX5_isFew_89 (by decide) (fun c16 => ?_) (fun c16 => ?_)
      · replace h := aw_ifp c16 h
        refine aw_iconst (pc := 96) (v := 0) dX5_isFew_96 (by decide) ?_
        exact t_Ot_isFew_J97 h hz
      · replace h := aw_ifn c16 h
        refine aw_iconst (pc := 92) (v := 1) dX5_isFew_92 (by decide) ?_
        refine aw_goto (pc := 93) (tgt := 97) dX5_isFew_93 (by decide) ?_
        exact t_Ot_isFew_J97 h hz
    · replace h := aw_ifn c14 h
      refine aw_iconst (pc := 77) (v := 0) dX5_isFew_77 (by decide) ?_
      cases h
      have hE : E = _ := hz
      subst hE
      exact aw_iret (v := (0 : Int32)) rfl aw_n0 ⟨Nat.zero_le _, Nat.zero_le _⟩ dX5_isFew_78
set_option maxRecDepth 100000 in
set_option maxHeartbeats 4000000 in
theorem t_Ot_isFew_B39 {l : Launch} {G : aw_G} {E : aw_E} {σ : aw_S} {v1 : Int32} {v2 : Int32} {v3 : Int32} {v4 : Int32} {t : (((Int32 × aw_S)) ⊕ (Int32 × aw_S)) ⊕ (Int32 × Int32 × aw_S)} (h : m_Ot_isFew_B39 σ v1 v2 v3 v4 = some t) (hz : Sum.elim (z_Ot_isFew_Y39 l G E v1 v2) (z_Ot_isFew_X39 l G E v1 v2) t) : aw_W l M_Ot_isFew G B_Ot_isFew E 39 [(0, .ref 105), (1, .int v1), (2, .int v2), (3, .int v3), (4, .int v4)] [] xA σ 0 0 := by
  unfold m_Ot_isFew_B39 at h
  refine aw_iload_n (pc := 39) (q := 3) dX5_isFew_39 rfl ?_
  refine aw_if_eq (pc := 40) (tgt := 175) dX5_isFew_40 (by decide) (fun c10 => ?_) (fun c10 => ?_)
  · replace h := aw_ifp c10 h
    refine aw_sub [0, 3] rfl ?_
    cases h
    exact hz
  · replace h := aw_ifn c10 h
    refine aw_iload (pc := 43) (q := 4) dX5_isFew_43 rfl ?_
    refine aw_aload_n (pc := 45) (q := 0) dX5_isFew_45 rfl ?_
    refine aw_getI (pc := 46) fd_X5_57.r xA_105 rfl dX5_isFew_46 ?_
    refine aw_icmp_gt (pc := 49) (tgt := 175) dX5_isFew_49 (by decide) (fun c11 => ?_) (fun c11 => ?_)
    · replace h := aw_ifp c11 h
      refine aw_sub [0, 3] rfl ?_
      cases h
      exact hz
    · replace h := aw_ifn c11 h
      refine aw_iconst (pc := 52) (v := 0) dX5_isFew_52 (by decide) ?_
      refine aw_istore_n (pc := 53) [(3, .int ((0 : Int32))), (0, .ref 105), (1, .int v1), (2, .int v2), (4, .int v4)] dX5_isFew_53 (by decide) rfl ?_
      refine aw_iconst (pc := 54) (v := 0) dX5_isFew_54 (by decide) ?_
      refine aw_istore (pc := 55) [(5, .int ((0 : Int32))), (3, .int ((0 : Int32))), (0, .ref 105), (1, .int v1), (2, .int v2), (4, .int v4)] dX5_isFew_55 (by decide) rfl ?_
      obtain ⟨x32, hl33, h⟩ := aw_bde h
      have K34 : z_Ot_isFew_Y57 l G E v1 v2 v4 x32 := by
        cases x32 with
        | inl y35 =>
          replace h := aw_eL h
          show E = _
          cases h
          exact hz
        | inr y36 =>
          replace h := aw_eR h
          show aw_W l M_Ot_isFew G B_Ot_isFew E 169 [(0, .ref 105), (1, .int v1), (2, .int v2), (3, .int y36.1), (4, .int v4)] [] xA y36.2 0 0
          obtain ⟨x37, e_x37⟩ : ∃ z, z = (v4 + (1 : Int32)) := ⟨_, rfl⟩
          replace h := aw_lte h x37 e_x37
          refine aw_iinc (pc := 169) (q := 4) (v := x37) [(4, .int x37), (0, .ref 105), (1, .int v1), (2, .int v2), (3, .int y36.1)] dX5_isFew_169 rfl e_x37.symm (by decide) rfl ?_
          refine aw_goto (pc := 172) (tgt := 39) dX5_isFew_172 (by decide) ?_
          refine aw_sub [1, 2, 3, 4, 0] rfl ?_
          cases h
          exact hz
      refine aw_sub [2, 3, 4, 1, 5, 0] rfl ?_
      show z_Ot_isFew_X57 l G E v1 v2 v4 (((0 : Int32), (0 : Int32), σ))
      exact aw_lp_X (Xp := z_Ot_isFew_X57 l G E v1 v2 v4) (Y := z_Ot_isFew_Y57 l G E v1 v2 v4) hl33 K34 (fun s t hf hz => t_Ot_isFew_B57 hf hz)
set_option maxRecDepth 100000 in
set_option maxHeartbeats 4000000 in
theorem t_Ot_isFew {l : Launch} {G : aw_G} {E : aw_E} {σ : aw_S} {p1 : Int32} {t : (Int32 × aw_S)} (h : m_Ot_isFew σ p1 = some t) (hE : E = (some (.int t.1), xA, t.2)) : aw_W l M_Ot_isFew G B_Ot_isFew E 0 [(0, .ref 105), (1, .int p1)] [] xA σ 0 0 := by
  unfold m_Ot_isFew at h
  refine aw_aload_n (pc := 0) (q := 0) dX5_isFew_0 rfl ?_
  refine aw_getC (pc := 1) fd_X5_29.r xA_105 rfl dX5_isFew_1 ?_
  refine aw_sipush (pc := 4) (v := -1000) dX5_isFew_4 (by decide) ?_
  obtain ⟨s3, e2, h⟩ := aw_bde h
  refine aw_cS0 (pc := 7) [.ref 135, .int ((-1000 : Int32))] (c_Ar_fillI xA_135 e2) yy_Ar_fillI.1 wm_1346 yy_Ar_fillI.2 rfl ⟨Nat.le_of_ble_eq_true rfl, Nat.le_of_ble_eq_true rfl⟩ ⟨Nat.zero_le _, Nat.zero_le _⟩ (Nat.le_of_ble_eq_true rfl) dX5_isFew_7 ?_
  refine aw_aload_n (pc := 10) (q := 0) dX5_isFew_10 rfl ?_
  refine aw_getC (pc := 11) fd_X5_29.r xA_105 rfl dX5_isFew_11 ?_
  refine aw_iconst (pc := 14) (v := 0) dX5_isFew_14 (by decide) ?_
  refine aw_aload_n (pc := 15) (q := 0) dX5_isFew_15 rfl ?_
  refine aw_iload_n (pc := 16) (q := 1) dX5_isFew_16 rfl ?_
  refine aw_iconst (pc := 17) (v := 0) dX5_isFew_17 (by decide) ?_
  obtain ⟨r4, e5, h⟩ := aw_bde h
  refine aw_cV1 (pc := 18) [.int p1, .int ((0 : Int32))] (c_Ot_gain e5) yy_Ot_gain.1 wm_1379 yy_Ot_gain.2.1 yy_Ot_gain.2.2 xA_105 ⟨_, _, rfl⟩ rfl ⟨Nat.le_of_ble_eq_true rfl, Nat.le_of_ble_eq_true rfl⟩ ⟨Nat.zero_le _, Nat.zero_le _⟩ (Nat.le_of_ble_eq_true rfl) dX5_isFew_18 ?_
  obtain ⟨g6, h⟩ := aw_gde h
  refine aw_iast (pc := 21) xA_135 g6 dX5_isFew_21 ?_
  refine aw_nmS (fun s7 e_s7 => ?_)
  replace h := aw_lte h s7 e_s7
  refine aw_iload_n (pc := 22) (q := 1) dX5_isFew_22 rfl ?_
  refine aw_aload_n (pc := 23) (q := 0) dX5_isFew_23 rfl ?_
  refine aw_getI (pc := 24) fd_X5_101.r xA_105 rfl dX5_isFew_24 ?_
  refine aw_iconst (pc := 27) (v := -1) dX5_isFew_27 (by decide) ?_
  refine aw_ixor (pc := 28) dX5_isFew_28 ?_
  refine aw_iand (pc := 29) dX5_isFew_29 ?_
  obtain ⟨r8, e9, h⟩ := aw_bde h
  refine aw_cS1 (pc := 30) [.int ((p1 &&& ((s7.1 105 11) ^^^ (-1 : Int32))))] (c_In_bitCount e9) yy_In_bitCount.1 wm_1383 yy_In_bitCount.2 rfl ⟨Nat.le_of_ble_eq_true rfl, Nat.le_of_ble_eq_true rfl⟩ ⟨Nat.zero_le _, Nat.zero_le _⟩ (Nat.le_of_ble_eq_true rfl) dX5_isFew_30 ?_
  refine aw_istore_n (pc := 33) [(2, .int r8), (0, .ref 105), (1, .int p1)] dX5_isFew_33 (by decide) rfl ?_
  refine aw_iconst (pc := 34) (v := 1) dX5_isFew_34 (by decide) ?_
  refine aw_istore_n (pc := 35) [(3, .int ((1 : Int32))), (2, .int r8), (0, .ref 105), (1, .int p1)] dX5_isFew_35 (by decide) rfl ?_
  refine aw_iconst (pc := 36) (v := 0) dX5_isFew_36 (by decide) ?_
  refine aw_istore (pc := 37) [(4, .int ((0 : Int32))), (3, .int ((1 : Int32))), (2, .int r8), (0, .ref 105), (1, .int p1)] dX5_isFew_37 (by decide) rfl ?_
  obtain ⟨x38, hl39, h⟩ := aw_bde h
  have K40 : z_Ot_isFew_Y39 l G E p1 r8 x38 := by
    cases x38 with
    | inl y41 =>
      replace h := aw_eL h
      show E = _
      cases h
      exact hE
    | inr y42 =>
      replace h := aw_eR h
      show aw_W l M_Ot_isFew G B_Ot_isFew E 175 [(0, .ref 105), (3, .int y42.1)] [] xA y42.2 0 0
      refine aw_iload_n (pc := 175) (q := 1) dX5_isFew_175 rfl ?_
      refine aw_if_ne (pc := 176) (tgt := 190) dX5_isFew_176 (by decide) (fun c43 => ?_) (fun c43 => ?_)
      · replace h := aw_ifn c43 h
        refine aw_iconst (pc := 190) (v := 0) dX5_isFew_190 (by decide) ?_
        cases h
        subst hE
        exact aw_iret (v := (0 : Int32)) rfl aw_n0 ⟨Nat.zero_le _, Nat.zero_le _⟩ dX5_isFew_191
      · replace h := aw_ifp c43 h
        refine aw_aload_n (pc := 179) (q := 0) dX5_isFew_179 rfl ?_
        obtain ⟨r44, e45, h⟩ := aw_bde h
        refine aw_cV1 (pc := 180) [] (c_Ot_endsAhead e45) yy_Ot_endsAhead.1 wm_1388 yy_Ot_endsAhead.2.1 yy_Ot_endsAhead.2.2 xA_105 ⟨_, _, rfl⟩ rfl ⟨Nat.le_of_ble_eq_true rfl, Nat.le_of_ble_eq_true rfl⟩ ⟨Nat.zero_le _, Nat.zero_le _⟩ (Nat.le_of_ble_eq_true rfl) dX5_isFew_180 ?_
        refine aw_if_ne (pc := 183) (tgt := 190) dX5_isFew_183 (by decide) (fun c46 => ?_) (fun c46 => ?_)
        · replace h := aw_ifn c46 h
          refine aw_iconst (pc := 190) (v := 0) dX5_isFew_190 (by decide) ?_
          cases h
          subst hE
          exact aw_iret (v := (0 : Int32)) rfl aw_n0 ⟨Nat.zero_le _, Nat.zero_le _⟩ dX5_isFew_191
        · replace h := aw_ifp c46 h
          refine aw_iconst (pc := 186) (v := 1) dX5_isFew_186 (by decide) ?_
          refine aw_goto (pc := 187) (tgt := 191) dX5_isFew_187 (by decide) ?_
          cases h
          subst hE
          exact aw_iret (v := (1 : Int32)) rfl aw_n1 ⟨Nat.zero_le _, Nat.zero_le _⟩ dX5_isFew_191
  refine aw_sub [3, 4, 2, 1, 0] rfl ?_
  show z_Ot_isFew_X39 l G E p1 r8 (((1 : Int32), (0 : Int32), s7))
  exact aw_lp_X (Xp := z_Ot_isFew_X39 l G E p1 r8) (Y := z_Ot_isFew_Y39 l G E p1 r8) hl39 K40 (fun s t hf hz => t_Ot_isFew_B39 hf hz)
theorem c_Ot_isFew {l : Launch} {G : aw_G} {σ : aw_S} {p1 : Int32} {t : (Int32 × aw_S)} (h : m_Ot_isFew σ p1 = some t) : aw_Ct l yX5_isFew M_Ot_isFew G B_Ot_isFew [.ref 105, .int p1] xA σ (some (.int t.1), xA, t.2) := aw_Ct_of (by decide) rfl (fun h => by cases h) (Nat.le_of_ble_eq_true rfl) (t_Ot_isFew h rfl)
/-! LateMover$Others.lifeOf(I)I -/
def z_Ot_lifeOf_X10 (l : Launch) (G : aw_G) (E : aw_E) (σ : aw_S) (v1 : Int32) (s : Int32 × Int32 × Int32) : Prop := aw_W l M_Ot_lifeOf G B_Ot_lifeOf E 10 [(0, .ref 105), (1, .int v1), (2, .int s.1), (3, .int s.2.1), (4, .int s.2.2)] [] xA σ 0 0
def z_Ot_lifeOf_Y10 (l : Launch) (G : aw_G) (E : aw_E) (σ : aw_S) (v1 : Int32) (x : (Int32)) : Prop := aw_W l M_Ot_lifeOf G B_Ot_lifeOf E 88 [(2, .int x)] [] xA σ 0 0
def z_Ot_lifeOf_X32 (l : Launch) (G : aw_G) (E : aw_E) (σ : aw_S) (v1 : Int32) (v4 : Int32) (v5 : Int32) (s : Int32 × Int32) : Prop := aw_W l M_Ot_lifeOf G B_Ot_lifeOf E 32 [(0, .ref 105), (1, .int v1), (2, .int s.1), (4, .int v4), (5, .int v5), (6, .int s.2)] [] xA σ 0 0
def z_Ot_lifeOf_Y32 (l : Launch) (G : aw_G) (E : aw_E) (σ : aw_S) (v1 : Int32) (v4 : Int32) (v5 : Int32) (x : (Int32)) : Prop := aw_W l M_Ot_lifeOf G B_Ot_lifeOf E 70 [(0, .ref 105), (1, .int v1), (2, .int x), (4, .int v4), (5, .int v5)] [] xA σ 0 0
set_option maxRecDepth 100000 in
set_option maxHeartbeats 4000000 in
theorem t_Ot_lifeOf_J62 {l : Launch} {G : aw_G} {E : aw_E} {σ : aw_S} {v1 : Int32} {v4 : Int32} {v5 : Int32} {v6 : Int32} {k0 : Int32} {k1 : Int32} {t : (Int32) ⊕ (Int32 × Int32)} (h : m_Ot_lifeOf_J62 σ v1 v4 v5 v6 k0 k1 = some t) (hz : Sum.elim (z_Ot_lifeOf_Y32 l G E σ v1 v4 v5) (z_Ot_lifeOf_X32 l G E σ v1 v4 v5) t) : aw_W l M_Ot_lifeOf G B_Ot_lifeOf E 62 [(0, .ref 105), (1, .int v1), (4, .int v4), (5, .int v5), (6, .int v6)] [.int k1, .int k0] xA σ 0 0 := by
  unfold m_Ot_lifeOf_J62 at h
  refine aw_ior (pc := 62) dX5_lifeOf_62 ?_
  refine aw_nmI (fun x8 e_x8 => ?_)
  replace h := aw_lte h x8 e_x8
  refine aw_istore_n (pc := 63) [(2, .int x8), (0, .ref 105), (1, .int v1), (4, .int v4), (5, .int v5), (6, .int v6)] dX5_lifeOf_63 (by decide) rfl ?_
  obtain ⟨x9, e_x9⟩ : ∃ z, z = (v6 + (-1 : Int32)) := ⟨_, rfl⟩
  replace h := aw_lte h x9 e_x9
  refine aw_iinc (pc := 64) (q := 5) (v := x9) [(6, .int x9), (2, .int x8), (0, .ref 105), (1, .int v1), (4, .int v4), (5, .int v5)] dX5_lifeOf_64 rfl e_x9.symm (by decide) rfl ?_
  refine aw_goto (pc := 67) (tgt := 32) dX5_lifeOf_67 (by decide) ?_
  refine aw_sub [2, 3, 1, 4, 5, 0] rfl ?_
  cases h
  exact hz
set_option maxRecDepth 100000 in
set_option maxHeartbeats 4000000 in
theorem t_Ot_lifeOf_B32 {l : Launch} {G : aw_G} {E : aw_E} {σ : aw_S} {v1 : Int32} {v4 : Int32} {v5 : Int32} {v2 : Int32} {v6 : Int32} {t : (Int32) ⊕ (Int32 × Int32)} (h : m_Ot_lifeOf_B32 σ v1 v4 v5 v2 v6 = some t) (hz : Sum.elim (z_Ot_lifeOf_Y32 l G E σ v1 v4 v5) (z_Ot_lifeOf_X32 l G E σ v1 v4 v5) t) : aw_W l M_Ot_lifeOf G B_Ot_lifeOf E 32 [(0, .ref 105), (1, .int v1), (2, .int v2), (4, .int v4), (5, .int v5), (6, .int v6)] [] xA σ 0 0 := by
  unfold m_Ot_lifeOf_B32 at h
  refine aw_iload (pc := 32) (q := 5) dX5_lifeOf_32 rfl ?_
  refine aw_if_lt (pc := 34) (tgt := 70) dX5_lifeOf_34 (by decide) (fun c5 => ?_) (fun c5 => ?_)
  · replace h := aw_ifp c5 h
    refine aw_sub [0, 1, 2, 3, 4] rfl ?_
    cases h
    exact hz
  · replace h := aw_ifn c5 h
    refine aw_iload_n (pc := 37) (q := 2) dX5_lifeOf_37 rfl ?_
    refine aw_aload_n (pc := 38) (q := 0) dX5_lifeOf_38 rfl ?_
    refine aw_getC (pc := 39) fd_X5_26.r xA_105 rfl dX5_lifeOf_39 ?_
    refine aw_iload (pc := 42) (q := 5) dX5_lifeOf_42 rfl ?_
    obtain ⟨g6, h⟩ := aw_gde h
    refine aw_iald (pc := 44) xA_134 g6 dX5_lifeOf_44 ?_
    refine aw_iload_n (pc := 45) (q := 2) dX5_lifeOf_45 rfl ?_
    refine aw_iand (pc := 46) dX5_lifeOf_46 ?_
    refine aw_iload_n (pc := 47) (q := 1) dX5_lifeOf_47 rfl ?_
    refine aw_iconst (pc := 48) (v := -1) dX5_lifeOf_48 (by decide) ?_
    refine aw_ixor (pc := 49) dX5_lifeOf_49 ?_
    refine aw_iand (pc := 50) dX5_lifeOf_50 ?_
    refine aw_if_eq (pc := 51) (tgt := 61) dX5_lifeOf_51 (by decide) (fun c7 => ?_) (fun c7 => ?_)
    · replace h := aw_ifp c7 h
      refine aw_iconst (pc := 61) (v := 0) dX5_lifeOf_61 (by decide) ?_
      refine aw_sub [0, 1, 3, 4, 5] rfl ?_
      exact t_Ot_lifeOf_J62 h hz
    · replace h := aw_ifn c7 h
      refine aw_iconst (pc := 54) (v := 1) dX5_lifeOf_54 (by decide) ?_
      refine aw_iload (pc := 55) (q := 5) dX5_lifeOf_55 rfl ?_
      refine aw_ishl (pc := 57) dX5_lifeOf_57 ?_
      refine aw_goto (pc := 58) (tgt := 62) dX5_lifeOf_58 (by decide) ?_
      refine aw_sub [0, 1, 3, 4, 5] rfl ?_
      exact t_Ot_lifeOf_J62 h hz
set_option maxRecDepth 100000 in
set_option maxHeartbeats 4000000 in
theorem t_Ot_lifeOf_J81 {l : Launch} {G : aw_G} {E : aw_E} {σ : aw_S} {v1 : Int32} {v2 : Int32} {v4 : Int32} {k0 : Int32} {t : (Int32) ⊕ (Int32 × Int32 × Int32)} (h : m_Ot_lifeOf_J81 σ v1 v2 v4 k0 = some t) (hz : Sum.elim (z_Ot_lifeOf_Y10 l G E σ v1) (z_Ot_lifeOf_X10 l G E σ v1) t) : aw_W l M_Ot_lifeOf G B_Ot_lifeOf E 81 [(0, .ref 105), (1, .int v1), (2, .int v2), (4, .int v4)] [.int k0] xA σ 0 0 := by
  unfold m_Ot_lifeOf_J81 at h
  refine aw_istore_n (pc := 81) [(3, .int k0), (0, .ref 105), (1, .int v1), (2, .int v2), (4, .int v4)] dX5_lifeOf_81 (by decide) rfl ?_
  obtain ⟨x14, e_x14⟩ : ∃ z, z = (v4 + (1 : Int32)) := ⟨_, rfl⟩
  replace h := aw_lte h x14 e_x14
  refine aw_iinc (pc := 82) (q := 4) (v := x14) [(4, .int x14), (3, .int k0), (0, .ref 105), (1, .int v1), (2, .int v2)] dX5_lifeOf_82 rfl e_x14.symm (by decide) rfl ?_
  refine aw_goto (pc := 85) (tgt := 10) dX5_lifeOf_85 (by decide) ?_
  refine aw_sub [2, 3, 4, 1, 0] rfl ?_
  cases h
  exact hz
set_option maxRecDepth 100000 in
set_option maxHeartbeats 4000000 in
theorem t_Ot_lifeOf_B10 {l : Launch} {G : aw_G} {E : aw_E} {σ : aw_S} {v1 : Int32} {v2 : Int32} {v3 : Int32} {v4 : Int32} {t : (Int32) ⊕ (Int32 × Int32 × Int32)} (h : m_Ot_lifeOf_B10 σ v1 v2 v3 v4 = some t) (hz : Sum.elim (z_Ot_lifeOf_Y10 l G E σ v1) (z_Ot_lifeOf_X10 l G E σ v1) t) : aw_W l M_Ot_lifeOf G B_Ot_lifeOf E 10 [(0, .ref 105), (1, .int v1), (2, .int v2), (3, .int v3), (4, .int v4)] [] xA σ 0 0 := by
  unfold m_Ot_lifeOf_B10 at h
  refine aw_iload_n (pc := 10) (q := 3) dX5_lifeOf_10 rfl ?_
  refine aw_if_eq (pc := 11) (tgt := 88) dX5_lifeOf_11 (by decide) (fun c2 => ?_) (fun c2 => ?_)
  · replace h := aw_ifp c2 h
    refine aw_sub [2] rfl ?_
    cases h
    exact hz
  · replace h := aw_ifn c2 h
    refine aw_iload (pc := 14) (q := 4) dX5_lifeOf_14 rfl ?_
    refine aw_bipush (pc := 16) (v := 12) dX5_lifeOf_16 (by decide) ?_
    refine aw_icmp_gt (pc := 18) (tgt := 88) dX5_lifeOf_18 (by decide) (fun c3 => ?_) (fun c3 => ?_)
    · replace h := aw_ifp c3 h
      refine aw_sub [2] rfl ?_
      cases h
      exact hz
    · replace h := aw_ifn c3 h
      refine aw_iload_n (pc := 21) (q := 2) dX5_lifeOf_21 rfl ?_
      refine aw_istore (pc := 22) [(5, .int v2), (0, .ref 105), (1, .int v1), (2, .int v2), (3, .int v3), (4, .int v4)] dX5_lifeOf_22 (by decide) rfl ?_
      refine aw_aload_n (pc := 24) (q := 1) dX5_lifeOf_24 rfl ?_
      refine aw_getI (pc := 25) fd_X5_57.r xA_105 rfl dX5_lifeOf_25 ?_
      refine aw_iconst (pc := 28) (v := 1) dX5_lifeOf_28 (by decide) ?_
      refine aw_isub (pc := 29) dX5_lifeOf_29 ?_
      refine aw_nmI (fun x4 e_x4 => ?_)
      replace h := aw_lte h x4 e_x4
      refine aw_istore (pc := 30) [(6, .int x4), (5, .int v2), (0, .ref 105), (1, .int v1), (2, .int v2), (3, .int v3), (4, .int v4)] dX5_lifeOf_30 (by decide) rfl ?_
      obtain ⟨x10, hl11, h⟩ := aw_bde h
      have K12 : z_Ot_lifeOf_Y32 l G E σ v1 v4 v2 x10 := by
        show aw_W l M_Ot_lifeOf G B_Ot_lifeOf E 70 [(0, .ref 105), (1, .int v1), (2, .int x10), (4, .int v4), (5, .int v2)] [] xA σ 0 0
        refine aw_iload_n (pc := 70) (q := 2) dX5_lifeOf_70 rfl ?_
        refine aw_iload (pc := 71) (q := 4) dX5_lifeOf_71 rfl ?_
        refine aw_icmp_eq (pc := 73) (tgt := 80) dX5_lifeOf_73 (by decide) (fun c13 => ?_) (fun c13 => ?_)
        · replace h := aw_ifp c13 h
          refine aw_iconst (pc := 80) (v := 0) dX5_lifeOf_80 (by decide) ?_
          refine aw_sub [0, 1, 2, 3] rfl ?_
          exact t_Ot_lifeOf_J81 h hz
        · replace h := aw_ifn c13 h
          refine aw_iconst (pc := 76) (v := 1) dX5_lifeOf_76 (by decide) ?_
          refine aw_goto (pc := 77) (tgt := 81) dX5_lifeOf_77 (by decide) ?_
          refine aw_sub [0, 1, 2, 3] rfl ?_
          exact t_Ot_lifeOf_J81 h hz
      refine aw_sub [2, 3, 4, 6, 1, 0] rfl ?_
      show z_Ot_lifeOf_X32 l G E σ v1 v4 v2 ((v2, x4))
      exact aw_lp_X (Xp := z_Ot_lifeOf_X32 l G E σ v1 v4 v2) (Y := z_Ot_lifeOf_Y32 l G E σ v1 v4 v2) hl11 K12 (fun s t hf hz => t_Ot_lifeOf_B32 hf hz)
set_option maxRecDepth 100000 in
set_option maxHeartbeats 4000000 in
theorem t_Ot_lifeOf {l : Launch} {G : aw_G} {E : aw_E} {σ : aw_S} {p1 : Int32} {t : Int32} (h : m_Ot_lifeOf σ p1 = some t) (hE : E = (some (.int t), xA, σ)) : aw_W l M_Ot_lifeOf G B_Ot_lifeOf E 0 [(0, .ref 105), (1, .int p1)] [] xA σ 0 0 := by
  unfold m_Ot_lifeOf at h
  refine aw_aload_n (pc := 0) (q := 0) dX5_lifeOf_0 rfl ?_
  refine aw_getI (pc := 1) fd_X5_86.r xA_105 rfl dX5_lifeOf_1 ?_
  refine aw_nmI (fun x1 e_x1 => ?_)
  replace h := aw_lte h x1 e_x1
  refine aw_istore_n (pc := 4) [(2, .int x1), (0, .ref 105), (1, .int p1)] dX5_lifeOf_4 (by decide) rfl ?_
  refine aw_iconst (pc := 5) (v := 1) dX5_lifeOf_5 (by decide) ?_
  refine aw_istore_n (pc := 6) [(3, .int ((1 : Int32))), (2, .int x1), (0, .ref 105), (1, .int p1)] dX5_lifeOf_6 (by decide) rfl ?_
  refine aw_iconst (pc := 7) (v := 0) dX5_lifeOf_7 (by decide) ?_
  refine aw_istore (pc := 8) [(4, .int ((0 : Int32))), (3, .int ((1 : Int32))), (2, .int x1), (0, .ref 105), (1, .int p1)] dX5_lifeOf_8 (by decide) rfl ?_
  obtain ⟨x15, hl16, h⟩ := aw_bde h
  have K17 : z_Ot_lifeOf_Y10 l G E σ p1 x15 := by
    show aw_W l M_Ot_lifeOf G B_Ot_lifeOf E 88 [(2, .int x15)] [] xA σ 0 0
    refine aw_iload_n (pc := 88) (q := 0) dX5_lifeOf_88 rfl ?_
    obtain ⟨r18, e19, h⟩ := aw_bde h
    refine aw_cS1 (pc := 89) [.int x15] (c_In_bitCount e19) yy_In_bitCount.1 wm_1383 yy_In_bitCount.2 rfl ⟨Nat.le_of_ble_eq_true rfl, Nat.le_of_ble_eq_true rfl⟩ ⟨Nat.zero_le _, Nat.zero_le _⟩ (Nat.le_of_ble_eq_true rfl) dX5_lifeOf_89 ?_
    cases h
    subst hE
    exact aw_iret (v := _) rfl aw_ni ⟨Nat.zero_le _, Nat.zero_le _⟩ dX5_lifeOf_92
  refine aw_sub [3, 4, 2, 1, 0] rfl ?_
  show z_Ot_lifeOf_X10 l G E σ p1 ((x1, (1 : Int32), (0 : Int32)))
  exact aw_lp_X (Xp := z_Ot_lifeOf_X10 l G E σ p1) (Y := z_Ot_lifeOf_Y10 l G E σ p1) hl16 K17 (fun s t hf hz => t_Ot_lifeOf_B10 hf hz)
theorem c_Ot_lifeOf {l : Launch} {G : aw_G} {σ : aw_S} {p1 : Int32} {t : Int32} (h : m_Ot_lifeOf σ p1 = some t) : aw_Ct l yX5_lifeOf M_Ot_lifeOf G B_Ot_lifeOf [.ref 105, .int p1] xA σ (some (.int t), xA, σ) := aw_Ct_of (by decide) rfl (fun h => by cases h) (Nat.le_of_ble_eq_true rfl) (t_Ot_lifeOf h rfl)
/-! LateMover$Others.lesser(II)I -/
set_option maxRecDepth 100000 in
set_option maxHeartbeats 4000000 in
theorem t_Ot_lesser {l : Launch} {G : aw_G} {E : aw_E} {σ : aw_S} {p0 : Int32} {p1 : Int32} {t : Int32} (h : m_Ot_lesser σ p0 p1 = some t) (hE : E = (some (.int t), xA, σ)) : aw_W l M_Ot_lesser G B_Ot_lesser E 0 [(0, .int p0), (1, .int p1)] [] xA σ 0 0 := by
  unfold m_Ot_lesser at h
  refine aw_iload_n (pc := 0) (q := 0) dX5_lesser_0 rfl ?_
  refine aw_iconst (pc := 1) (v := -1) dX5_lesser_1 (by decide) ?_
  refine aw_icmp_ne (pc := 2) (tgt := 9) dX5_lesser_2 (by decide) (fun c1 => ?_) (fun c1 => ?_)
  · replace h := aw_ifn c1 h
    refine aw_iload_n (pc := 9) (q := 0) dX5_lesser_9 rfl ?_
    refine aw_iload_n (pc := 10) (q := 1) dX5_lesser_10 rfl ?_
    refine aw_mmin (pc := 11) wm_1399 ⟨Nat.le_of_ble_eq_true rfl, Nat.le_of_ble_eq_true rfl⟩ ⟨Nat.zero_le _, Nat.zero_le _⟩ (Nat.le_of_ble_eq_true rfl) dX5_lesser_11 ?_
    cases h
    subst hE
    exact aw_iret (v := (aw_mn p0 p1)) rfl aw_ni ⟨Nat.zero_le _, Nat.zero_le _⟩ dX5_lesser_14
  · replace h := aw_ifp c1 h
    refine aw_iload_n (pc := 5) (q := 1) dX5_lesser_5 rfl ?_
    refine aw_goto (pc := 6) (tgt := 14) dX5_lesser_6 (by decide) ?_
    cases h
    subst hE
    exact aw_iret (v := _) rfl aw_ni ⟨Nat.zero_le _, Nat.zero_le _⟩ dX5_lesser_14
theorem c_Ot_lesser {l : Launch} {G : aw_G} {σ : aw_S} {p0 : Int32} {p1 : Int32} {t : Int32} (h : m_Ot_lesser σ p0 p1 = some t) : aw_Ct l yX5_lesser M_Ot_lesser G B_Ot_lesser [.int p0, .int p1] xA σ (some (.int t), xA, σ) := aw_Ct_of (by decide) rfl (fun h => by cases h) (Nat.le_of_ble_eq_true rfl) (t_Ot_lesser h rfl)
/-! LateMover$Others.tryAll([I)V -/
def z_Ot_tryAll_X13 (l : Launch) (G : aw_G) (E : aw_E) (v1 : Nat) (s : Int32 × Int32 × Int32 × Int32 × Int32 × aw_S) : Prop := aw_W l M_Ot_tryAll G B_Ot_tryAll E 13 [(0, .ref 105), (1, .ref v1), (2, .int s.1), (3, .int s.2.1), (4, .int s.2.2.1), (5, .int s.2.2.2.1), (6, .int s.2.2.2.2.1)] [] xA s.2.2.2.2.2 0 0
def z_Ot_tryAll_Y13 (l : Launch) (G : aw_G) (E : aw_E) (v1 : Nat) (x : (Int32 × Int32 × Int32 × Int32 × aw_S)) : Prop := aw_W l M_Ot_tryAll G B_Ot_tryAll E 91 [(1, .ref v1), (2, .int x.1), (3, .int x.2.1), (4, .int x.2.2.1), (5, .int x.2.2.2.1)] [] xA x.2.2.2.2 0 0
set_option maxRecDepth 100000 in
set_option maxHeartbeats 4000000 in
theorem t_Ot_tryAll_J85 {l : Launch} {G : aw_G} {E : aw_E} {σ : aw_S} {v1 : Nat} {v2 : Int32} {v3 : Int32} {v4 : Int32} {v5 : Int32} {v6 : Int32} (h_v1 : xA[v1]? = some (.inr (0, 4, aw_no))) {t : (Int32 × Int32 × Int32 × Int32 × aw_S) ⊕ (Int32 × Int32 × Int32 × Int32 × Int32 × aw_S)} (h : m_Ot_tryAll_J85 σ v1 v2 v3 v4 v5 v6 = some t) (hz : Sum.elim (z_Ot_tryAll_Y13 l G E v1) (z_Ot_tryAll_X13 l G E v1) t) : aw_W l M_Ot_tryAll G B_Ot_tryAll E 85 [(0, .ref 105), (1, .ref v1), (2, .int v2), (3, .int v3), (4, .int v4), (5, .int v5), (6, .int v6)] [] xA σ 0 0 := by
  unfold m_Ot_tryAll_J85 at h
  obtain ⟨x3, e_x3⟩ : ∃ z, z = (v6 + (1 : Int32)) := ⟨_, rfl⟩
  replace h := aw_lte h x3 e_x3
  refine aw_iinc (pc := 85) (q := 6) (v := x3) [(6, .int x3), (0, .ref 105), (1, .ref v1), (2, .int v2), (3, .int v3), (4, .int v4), (5, .int v5)] dX5_tryAll_85 rfl e_x3.symm (by decide) rfl ?_
  refine aw_goto (pc := 88) (tgt := 13) dX5_tryAll_88 (by decide) ?_
  refine aw_sub [1, 2, 3, 4, 5, 6, 0] rfl ?_
  cases h
  exact hz
set_option maxRecDepth 100000 in
set_option maxHeartbeats 4000000 in
theorem t_Ot_tryAll_B13 {l : Launch} {G : aw_G} {E : aw_E} {σ : aw_S} {v1 : Nat} {v2 : Int32} {v3 : Int32} {v4 : Int32} {v5 : Int32} {v6 : Int32} (h_v1 : xA[v1]? = some (.inr (0, 4, aw_no))) {t : (Int32 × Int32 × Int32 × Int32 × aw_S) ⊕ (Int32 × Int32 × Int32 × Int32 × Int32 × aw_S)} (h : m_Ot_tryAll_B13 σ v1 v2 v3 v4 v5 v6 = some t) (hz : Sum.elim (z_Ot_tryAll_Y13 l G E v1) (z_Ot_tryAll_X13 l G E v1) t) : aw_W l M_Ot_tryAll G B_Ot_tryAll E 13 [(0, .ref 105), (1, .ref v1), (2, .int v2), (3, .int v3), (4, .int v4), (5, .int v5), (6, .int v6)] [] xA σ 0 0 := by
  unfold m_Ot_tryAll_B13 at h
  refine aw_iload (pc := 13) (q := 6) dX5_tryAll_13 rfl ?_
  refine aw_iconst (pc := 15) (v := 1) dX5_tryAll_15 (by decide) ?_
  refine aw_aload_n (pc := 16) (q := 0) dX5_tryAll_16 rfl ?_
  refine aw_getI (pc := 17) fd_X5_57.r xA_105 rfl dX5_tryAll_17 ?_
  refine aw_ishl (pc := 20) dX5_tryAll_20 ?_
  refine aw_icmp_ge (pc := 21) (tgt := 91) dX5_tryAll_21 (by decide) (fun c1 => ?_) (fun c1 => ?_)
  · replace h := aw_ifp c1 h
    refine aw_sub [1, 2, 3, 4, 5] rfl ?_
    cases h
    exact hz
  · replace h := aw_ifn c1 h
    refine aw_iload (pc := 24) (q := 6) dX5_tryAll_24 rfl ?_
    refine aw_aload_n (pc := 26) (q := 0) dX5_tryAll_26 rfl ?_
    refine aw_getI (pc := 27) fd_X5_96.r xA_105 rfl dX5_tryAll_27 ?_
    refine aw_iconst (pc := 30) (v := -1) dX5_tryAll_30 (by decide) ?_
    refine aw_ixor (pc := 31) dX5_tryAll_31 ?_
    refine aw_iand (pc := 32) dX5_tryAll_32 ?_
    refine aw_if_ne (pc := 33) (tgt := 85) dX5_tryAll_33 (by decide) (fun c2 => ?_) (fun c2 => ?_)
    · replace h := aw_ifn c2 h
      exact t_Ot_tryAll_J85 h_v1 h hz
    · replace h := aw_ifp c2 h
      refine aw_aload_n (pc := 36) (q := 0) dX5_tryAll_36 rfl ?_
      refine aw_iload (pc := 37) (q := 6) dX5_tryAll_37 rfl ?_
      obtain ⟨r4, e5, h⟩ := aw_bde h
      refine aw_cV1 (pc := 39) [.int v6] (c_Ot_isRight e5) yy_Ot_isRight.1 wm_1371 yy_Ot_isRight.2.1 yy_Ot_isRight.2.2 xA_105 ⟨_, _, rfl⟩ rfl ⟨Nat.le_of_ble_eq_true rfl, Nat.le_of_ble_eq_true rfl⟩ ⟨Nat.zero_le _, Nat.zero_le _⟩ (Nat.le_of_ble_eq_true rfl) dX5_tryAll_39 ?_
      refine aw_if_eq (pc := 42) (tgt := 85) dX5_tryAll_42 (by decide) (fun c6 => ?_) (fun c6 => ?_)
      · replace h := aw_ifp c6 h
        exact t_Ot_tryAll_J85 h_v1 h hz
      · replace h := aw_ifn c6 h
        obtain ⟨x7, e_x7⟩ : ∃ z, z = (v2 + (1 : Int32)) := ⟨_, rfl⟩
        replace h := aw_lte h x7 e_x7
        refine aw_iinc (pc := 45) (q := 2) (v := x7) [(2, .int x7), (0, .ref 105), (1, .ref v1), (3, .int v3), (4, .int v4), (5, .int v5), (6, .int v6)] dX5_tryAll_45 rfl e_x7.symm (by decide) rfl ?_
        refine aw_aload_n (pc := 48) (q := 1) dX5_tryAll_48 rfl ?_
        refine aw_iload (pc := 49) (q := 6) dX5_tryAll_49 rfl ?_
        obtain ⟨r8, s10, e9, h⟩ := aw_bd2e h
        refine aw_cV1 (pc := 51) [.int v6] (c_Ot_isFew e9) yy_Ot_isFew.1 wm_1375 yy_Ot_isFew.2.1 yy_Ot_isFew.2.2 xA_105 ⟨_, _, rfl⟩ rfl ⟨Nat.le_of_ble_eq_true rfl, Nat.le_of_ble_eq_true rfl⟩ ⟨Nat.zero_le _, Nat.zero_le _⟩ (Nat.le_of_ble_eq_true rfl) dX5_tryAll_51 ?_
        refine aw_if_eq (pc := 54) (tgt := 85) dX5_tryAll_54 (by decide) (fun c11 => ?_) (fun c11 => ?_)
        · replace h := aw_ifp c11 h
          refine aw_sub [1, 2, 0, 3, 4, 5, 6] rfl ?_
          exact t_Ot_tryAll_J85 h_v1 h hz
        · replace h := aw_ifn c11 h
          obtain ⟨x12, e_x12⟩ : ∃ z, z = (v3 + (1 : Int32)) := ⟨_, rfl⟩
          replace h := aw_lte h x12 e_x12
          refine aw_iinc (pc := 57) (q := 3) (v := x12) [(3, .int x12), (2, .int x7), (0, .ref 105), (1, .ref v1), (4, .int v4), (5, .int v5), (6, .int v6)] dX5_tryAll_57 rfl e_x12.symm (by decide) rfl ?_
          refine aw_iload (pc := 60) (q := 4) dX5_tryAll_60 rfl ?_
          refine aw_aload_n (pc := 62) (q := 2) dX5_tryAll_62 rfl ?_
          refine aw_iload (pc := 63) (q := 6) dX5_tryAll_63 rfl ?_
          obtain ⟨r13, e14, h⟩ := aw_bde h
          refine aw_cV1 (pc := 65) [.int v6] (c_Ot_lifeOf e14) yy_Ot_lifeOf.1 wm_1392 yy_Ot_lifeOf.2.1 yy_Ot_lifeOf.2.2 xA_105 ⟨_, _, rfl⟩ rfl ⟨Nat.le_of_ble_eq_true rfl, Nat.le_of_ble_eq_true rfl⟩ ⟨Nat.zero_le _, Nat.zero_le _⟩ (Nat.le_of_ble_eq_true rfl) dX5_tryAll_65 ?_
          obtain ⟨r15, e16, h⟩ := aw_bde h
          refine aw_cS1 (pc := 68) [.int v4, .int r13] (c_Ot_lesser e16) yy_Ot_lesser.1 wm_1396 yy_Ot_lesser.2 rfl ⟨Nat.le_of_ble_eq_true rfl, Nat.le_of_ble_eq_true rfl⟩ ⟨Nat.zero_le _, Nat.zero_le _⟩ (Nat.le_of_ble_eq_true rfl) dX5_tryAll_68 ?_
          refine aw_istore (pc := 71) [(4, .int r15), (3, .int x12), (2, .int x7), (0, .ref 105), (1, .ref v1), (5, .int v5), (6, .int v6)] dX5_tryAll_71 (by decide) rfl ?_
          refine aw_iload (pc := 73) (q := 5) dX5_tryAll_73 rfl ?_
          refine aw_iload (pc := 75) (q := 6) dX5_tryAll_75 rfl ?_
          obtain ⟨r17, e18, h⟩ := aw_bde h
          refine aw_cS1 (pc := 77) [.int v6] (c_In_bitCount e18) yy_In_bitCount.1 wm_1383 yy_In_bitCount.2 rfl ⟨Nat.le_of_ble_eq_true rfl, Nat.le_of_ble_eq_true rfl⟩ ⟨Nat.zero_le _, Nat.zero_le _⟩ (Nat.le_of_ble_eq_true rfl) dX5_tryAll_77 ?_
          obtain ⟨r19, e20, h⟩ := aw_bde h
          refine aw_cS1 (pc := 80) [.int v5, .int r17] (c_Ot_lesser e20) yy_Ot_lesser.1 wm_1396 yy_Ot_lesser.2 rfl ⟨Nat.le_of_ble_eq_true rfl, Nat.le_of_ble_eq_true rfl⟩ ⟨Nat.zero_le _, Nat.zero_le _⟩ (Nat.le_of_ble_eq_true rfl) dX5_tryAll_80 ?_
          refine aw_istore (pc := 83) [(5, .int r19), (4, .int r15), (3, .int x12), (2, .int x7), (0, .ref 105), (1, .ref v1), (6, .int v6)] dX5_tryAll_83 (by decide) rfl ?_
          refine aw_sub [4, 5, 3, 2, 1, 0, 6] rfl ?_
          exact t_Ot_tryAll_J85 h_v1 h hz
set_option maxRecDepth 100000 in
set_option maxHeartbeats 4000000 in
theorem t_Ot_tryAll {l : Launch} {G : aw_G} {E : aw_E} {σ : aw_S} {p1 : Nat} (h_p1 : xA[p1]? = some (.inr (0, 4, aw_no))) {t : aw_S} (h : m_Ot_tryAll σ p1 = some t) (hE : E = (none, xA, t)) : aw_W l M_Ot_tryAll G B_Ot_tryAll E 0 [(0, .ref 105), (1, .ref p1)] [] xA σ 0 0 := by
  unfold m_Ot_tryAll at h
  refine aw_iconst (pc := 0) (v := 0) dX5_tryAll_0 (by decide) ?_
  refine aw_istore_n (pc := 1) [(2, .int ((0 : Int32))), (0, .ref 105), (1, .ref p1)] dX5_tryAll_1 (by decide) rfl ?_
  refine aw_iconst (pc := 2) (v := 0) dX5_tryAll_2 (by decide) ?_
  refine aw_istore_n (pc := 3) [(3, .int ((0 : Int32))), (2, .int ((0 : Int32))), (0, .ref 105), (1, .ref p1)] dX5_tryAll_3 (by decide) rfl ?_
  refine aw_iconst (pc := 4) (v := -1) dX5_tryAll_4 (by decide) ?_
  refine aw_istore (pc := 5) [(4, .int ((-1 : Int32))), (3, .int ((0 : Int32))), (2, .int ((0 : Int32))), (0, .ref 105), (1, .ref p1)] dX5_tryAll_5 (by decide) rfl ?_
  refine aw_iconst (pc := 7) (v := -1) dX5_tryAll_7 (by decide) ?_
  refine aw_istore (pc := 8) [(5, .int ((-1 : Int32))), (4, .int ((-1 : Int32))), (3, .int ((0 : Int32))), (2, .int ((0 : Int32))), (0, .ref 105), (1, .ref p1)] dX5_tryAll_8 (by decide) rfl ?_
  refine aw_iconst (pc := 10) (v := 0) dX5_tryAll_10 (by decide) ?_
  refine aw_istore (pc := 11) [(6, .int ((0 : Int32))), (5, .int ((-1 : Int32))), (4, .int ((-1 : Int32))), (3, .int ((0 : Int32))), (2, .int ((0 : Int32))), (0, .ref 105), (1, .ref p1)] dX5_tryAll_11 (by decide) rfl ?_
  obtain ⟨x21, hl22, h⟩ := aw_bde h
  have K23 : z_Ot_tryAll_Y13 l G E p1 x21 := by
    show aw_W l M_Ot_tryAll G B_Ot_tryAll E 91 [(1, .ref p1), (2, .int x21.1), (3, .int x21.2.1), (4, .int x21.2.2.1), (5, .int x21.2.2.2.1)] [] xA x21.2.2.2.2 0 0
    refine aw_aload_n (pc := 91) (q := 0) dX5_tryAll_91 rfl ?_
    refine aw_iconst (pc := 92) (v := 0) dX5_tryAll_92 (by decide) ?_
    refine aw_iload_n (pc := 93) (q := 1) dX5_tryAll_93 rfl ?_
    obtain ⟨g24, h⟩ := aw_gde h
    refine aw_iast (pc := 94) h_p1 g24 dX5_tryAll_94 ?_
    refine aw_nmS (fun s25 e_s25 => ?_)
    replace h := aw_lte h s25 e_s25
    refine aw_aload_n (pc := 95) (q := 0) dX5_tryAll_95 rfl ?_
    refine aw_iconst (pc := 96) (v := 1) dX5_tryAll_96 (by decide) ?_
    refine aw_iload_n (pc := 97) (q := 2) dX5_tryAll_97 rfl ?_
    obtain ⟨g26, h⟩ := aw_gde h
    refine aw_iast (pc := 98) h_p1 g26 dX5_tryAll_98 ?_
    refine aw_nmS (fun s27 e_s27 => ?_)
    replace h := aw_lte h s27 e_s27
    refine aw_aload_n (pc := 99) (q := 0) dX5_tryAll_99 rfl ?_
    refine aw_iconst (pc := 100) (v := 2) dX5_tryAll_100 (by decide) ?_
    refine aw_iload (pc := 101) (q := 3) dX5_tryAll_101 rfl ?_
    obtain ⟨g28, h⟩ := aw_gde h
    refine aw_iast (pc := 103) h_p1 g28 dX5_tryAll_103 ?_
    refine aw_nmS (fun s29 e_s29 => ?_)
    replace h := aw_lte h s29 e_s29
    refine aw_aload_n (pc := 104) (q := 0) dX5_tryAll_104 rfl ?_
    refine aw_iconst (pc := 105) (v := 3) dX5_tryAll_105 (by decide) ?_
    refine aw_iload (pc := 106) (q := 4) dX5_tryAll_106 rfl ?_
    obtain ⟨g30, h⟩ := aw_gde h
    refine aw_iast (pc := 108) h_p1 g30 dX5_tryAll_108 ?_
    refine aw_nmS (fun s31 e_s31 => ?_)
    replace h := aw_lte h s31 e_s31
    cases h
    subst hE
    exact aw_vret rfl ⟨Nat.zero_le _, Nat.zero_le _⟩ dX5_tryAll_109
  refine aw_sub [5, 6, 4, 3, 2, 1, 0] rfl ?_
  show z_Ot_tryAll_X13 l G E p1 (((0 : Int32), (0 : Int32), (-1 : Int32), (-1 : Int32), (0 : Int32), σ))
  exact aw_lp_X (Xp := z_Ot_tryAll_X13 l G E p1) (Y := z_Ot_tryAll_Y13 l G E p1) hl22 K23 (fun s t hf hz => t_Ot_tryAll_B13 h_p1 hf hz)
theorem c_Ot_tryAll {l : Launch} {G : aw_G} {σ : aw_S} {p1 : Nat} (h_p1 : xA[p1]? = some (.inr (0, 4, aw_no))) {t : aw_S} (h : m_Ot_tryAll σ p1 = some t) : aw_Ct l yX5_tryAll M_Ot_tryAll G B_Ot_tryAll [.ref 105, .ref p1] xA σ (none, xA, t) := aw_Ct_of (by decide) rfl (fun h => by cases h) (Nat.le_of_ble_eq_true rfl) (t_Ot_tryAll h_p1 h rfl)
/-! LateMover$Others.answer(LLateMover$Graph;LLateMover$Facts;II)I -/
set_option maxRecDepth 100000 in
set_option maxHeartbeats 4000000 in
theorem t_Ot_answer_J77 {l : Launch} {G : aw_G} {E : aw_E} {σ : aw_S} {v3 : Int32} {v4 : Int32} {t : (Int32 × aw_S)} (h : m_Ot_answer_J77 σ v3 v4 = some t) (hE : E = (some (.int t.1), xA, t.2)) : aw_W l M_Ot_answer G B_Ot_answer E 77 [(0, .ref 105), (3, .int v3), (4, .int v4)] [] xA σ 0 0 := by
  unfold m_Ot_answer_J77 at h
  refine aw_aload_n (pc := 77) (q := 0) dX5_answer_77 rfl ?_
  refine aw_getC (pc := 78) fd_X5_13.r xA_105 rfl dX5_answer_78 ?_
  refine aw_iload_n (pc := 81) (q := 1) dX5_answer_81 rfl ?_
  obtain ⟨g9, h⟩ := aw_gde h
  obtain ⟨w10, e11, h⟩ := aw_bde h
  refine aw_aald (pc := 82) (Or.inl rfl) xA_106 g9 e11 dX5_answer_82 ?_
  refine aw_iload (pc := 83) (q := 2) dX5_answer_83 rfl ?_
  obtain ⟨g12, h⟩ := aw_gde h
  refine aw_iald (pc := 85) (aw_answ_ok e11) g12 dX5_answer_85 ?_
  cases h
  subst hE
  exact aw_iret (v := (σ.1 w10 v4.toNatClampNeg)) rfl aw_ni ⟨Nat.zero_le _, Nat.zero_le _⟩ dX5_answer_86
set_option maxRecDepth 100000 in
set_option maxHeartbeats 4000000 in
theorem t_Ot_answer {l : Launch} {G : aw_G} {E : aw_E} {σ : aw_S} {p3 : Int32} {p4 : Int32} {t : (Int32 × aw_S)} (h : m_Ot_answer σ p3 p4 = some t) (hE : E = (some (.int t.1), xA, t.2)) : aw_W l M_Ot_answer G B_Ot_answer E 0 [(0, .ref 105), (1, .ref 24), (2, .ref 41), (3, .int p3), (4, .int p4)] [] xA σ 0 0 := by
  unfold m_Ot_answer at h
  refine aw_iload_n (pc := 0) (q := 3) dX5_answer_0 rfl ?_
  refine aw_if_lt (pc := 1) (tgt := 30) dX5_answer_1 (by decide) (fun c1 => ?_) (fun c1 => ?_)
  · replace h := aw_ifp c1 h
    refine aw_bipush (pc := 30) (v := -2) dX5_answer_30 (by decide) ?_
    cases h
    subst hE
    exact aw_iret (v := (-2 : Int32)) rfl aw_ni ⟨Nat.zero_le _, Nat.zero_le _⟩ dX5_answer_32
  · replace h := aw_ifn c1 h
    refine aw_iload_n (pc := 4) (q := 3) dX5_answer_4 rfl ?_
    refine aw_bipush (pc := 5) (v := 24) dX5_answer_5 (by decide) ?_
    refine aw_icmp_ge (pc := 7) (tgt := 30) dX5_answer_7 (by decide) (fun c2 => ?_) (fun c2 => ?_)
    · replace h := aw_ifp c2 h
      refine aw_bipush (pc := 30) (v := -2) dX5_answer_30 (by decide) ?_
      cases h
      subst hE
      exact aw_iret (v := (-2 : Int32)) rfl aw_ni ⟨Nat.zero_le _, Nat.zero_le _⟩ dX5_answer_32
    · replace h := aw_ifn c2 h
      refine aw_iload (pc := 10) (q := 4) dX5_answer_10 rfl ?_
      refine aw_if_lt (pc := 12) (tgt := 30) dX5_answer_12 (by decide) (fun c3 => ?_) (fun c3 => ?_)
      · replace h := aw_ifp c3 h
        refine aw_bipush (pc := 30) (v := -2) dX5_answer_30 (by decide) ?_
        cases h
        subst hE
        exact aw_iret (v := (-2 : Int32)) rfl aw_ni ⟨Nat.zero_le _, Nat.zero_le _⟩ dX5_answer_32
      · replace h := aw_ifn c3 h
        refine aw_iload (pc := 15) (q := 4) dX5_answer_15 rfl ?_
        refine aw_iconst (pc := 17) (v := 4) dX5_answer_17 (by decide) ?_
        refine aw_icmp_ge (pc := 18) (tgt := 30) dX5_answer_18 (by decide) (fun c4 => ?_) (fun c4 => ?_)
        · replace h := aw_ifp c4 h
          refine aw_bipush (pc := 30) (v := -2) dX5_answer_30 (by decide) ?_
          cases h
          subst hE
          exact aw_iret (v := (-2 : Int32)) rfl aw_ni ⟨Nat.zero_le _, Nat.zero_le _⟩ dX5_answer_32
        · replace h := aw_ifn c4 h
          refine aw_aload_n (pc := 21) (q := 1) dX5_answer_21 rfl ?_
          refine aw_getI (pc := 22) fd_X5_36.r xA_24 rfl dX5_answer_22 ?_
          refine aw_bipush (pc := 25) (v := 12) dX5_answer_25 (by decide) ?_
          refine aw_icmp_le (pc := 27) (tgt := 33) dX5_answer_27 (by decide) (fun c5 => ?_) (fun c5 => ?_)
          · replace h := aw_ifp c5 h
            refine aw_aload_n (pc := 33) (q := 0) dX5_answer_33 rfl ?_
            refine aw_getI (pc := 34) fd_X5_32.r xA_105 rfl dX5_answer_34 ?_
            refine aw_iload_n (pc := 37) (q := 3) dX5_answer_37 rfl ?_
            obtain ⟨r6, e7, h⟩ := aw_bde h
            refine aw_cN1 (pc := 38) [.int ((σ.1 105 6)), .int p3] (c_Mo_bitOf e7) yy_Mo_bitOf.1 nm_X5_41 yy_Mo_bitOf.2 rfl ⟨Nat.le_of_ble_eq_true rfl, Nat.le_of_ble_eq_true rfl⟩ ⟨Nat.zero_le _, Nat.zero_le _⟩ (Nat.le_of_ble_eq_true rfl) dX5_answer_38 ?_
            refine aw_if_ne (pc := 41) (tgt := 77) dX5_answer_41 (by decide) (fun c8 => ?_) (fun c8 => ?_)
            · replace h := aw_ifn c8 h
              refine aw_sub [0, 3, 4] rfl ?_
              exact t_Ot_answer_J77 h hE
            · replace h := aw_ifp c8 h
              refine aw_aload_n (pc := 44) (q := 0) dX5_answer_44 rfl ?_
              refine aw_aload_n (pc := 45) (q := 1) dX5_answer_45 rfl ?_
              obtain ⟨s15, e14, h⟩ := aw_bde h
              refine aw_cV0 (pc := 46) [.ref 24] (c_Ot_takeGraph e14) yy_Ot_takeGraph.1 wm_1338 yy_Ot_takeGraph.2.1 yy_Ot_takeGraph.2.2 xA_105 ⟨_, _, rfl⟩ rfl ⟨Nat.le_of_ble_eq_true rfl, Nat.le_of_ble_eq_true rfl⟩ ⟨Nat.zero_le _, Nat.zero_le _⟩ (Nat.le_of_ble_eq_true rfl) dX5_answer_46 ?_
              refine aw_aload_n (pc := 49) (q := 0) dX5_answer_49 rfl ?_
              refine aw_aload_n (pc := 50) (q := 2) dX5_answer_50 rfl ?_
              refine aw_iload_n (pc := 51) (q := 3) dX5_answer_51 rfl ?_
              obtain ⟨s18, e17, h⟩ := aw_bde h
              refine aw_cV0 (pc := 52) [.ref 41, .int p3] (c_Ot_takeFacts e17) yy_Ot_takeFacts.1 wm_1351 yy_Ot_takeFacts.2.1 yy_Ot_takeFacts.2.2 xA_105 ⟨_, _, rfl⟩ rfl ⟨Nat.le_of_ble_eq_true rfl, Nat.le_of_ble_eq_true rfl⟩ ⟨Nat.zero_le _, Nat.zero_le _⟩ (Nat.le_of_ble_eq_true rfl) dX5_answer_52 ?_
              refine aw_aload_n (pc := 55) (q := 0) dX5_answer_55 rfl ?_
              refine aw_aload_n (pc := 56) (q := 0) dX5_answer_56 rfl ?_
              refine aw_getC (pc := 57) fd_X5_13.r xA_105 rfl dX5_answer_57 ?_
              refine aw_iload_n (pc := 60) (q := 3) dX5_answer_60 rfl ?_
              obtain ⟨g19, h⟩ := aw_gde h
              obtain ⟨w20, e21, h⟩ := aw_bde h
              refine aw_aald (pc := 61) (Or.inl rfl) xA_106 g19 e21 dX5_answer_61 ?_
              obtain ⟨s24, e23, h⟩ := aw_bde h
              refine aw_cV0 (pc := 62) [.ref w20] (c_Ot_tryAll (aw_answ_ok e21) e23) yy_Ot_tryAll.1 wm_1367 yy_Ot_tryAll.2.1 yy_Ot_tryAll.2.2 xA_105 ⟨_, _, rfl⟩ rfl ⟨Nat.le_of_ble_eq_true rfl, Nat.le_of_ble_eq_true rfl⟩ ⟨Nat.zero_le _, Nat.zero_le _⟩ (Nat.le_of_ble_eq_true rfl) dX5_answer_62 ?_
              refine aw_aload_n (pc := 65) (q := 0) dX5_answer_65 rfl ?_
              refine aw_dup (pc := 66) dX5_answer_66 rfl ?_
              refine aw_getI (pc := 67) fd_X5_32.r xA_105 rfl dX5_answer_67 ?_
              refine aw_iconst (pc := 70) (v := 1) dX5_answer_70 (by decide) ?_
              refine aw_iload_n (pc := 71) (q := 3) dX5_answer_71 rfl ?_
              refine aw_ishl (pc := 72) dX5_answer_72 ?_
              refine aw_ior (pc := 73) dX5_answer_73 ?_
              refine aw_putI (pc := 74) fd_X5_32 xA_105 rfl (fun _ => rfl) (fun _ => rfl) dX5_answer_74 ?_
              refine aw_nmS (fun s25 e_s25 => ?_)
              replace h := aw_lte h s25 e_s25
              refine aw_sub [0, 3, 4] rfl ?_
              exact t_Ot_answer_J77 h hE
          · replace h := aw_ifn c5 h
            refine aw_bipush (pc := 30) (v := -2) dX5_answer_30 (by decide) ?_
            cases h
            subst hE
            exact aw_iret (v := (-2 : Int32)) rfl aw_ni ⟨Nat.zero_le _, Nat.zero_le _⟩ dX5_answer_32
theorem c_Ot_answer {l : Launch} {G : aw_G} {σ : aw_S} {p3 : Int32} {p4 : Int32} {t : (Int32 × aw_S)} (h : m_Ot_answer σ p3 p4 = some t) : aw_Ct l yX5_answer M_Ot_answer G B_Ot_answer [.ref 105, .ref 24, .ref 41, .int p3, .int p4] xA σ (some (.int t.1), xA, t.2) := aw_Ct_of (by decide) rfl (fun h => by cases h) (Nat.le_of_ble_eq_true rfl) (t_Ot_answer h rfl)
/-! LateMover.others(II)I -/
set_option maxRecDepth 100000 in
set_option maxHeartbeats 4000000 in
theorem t_Mo_others {l : Launch} {G : aw_G} {E : aw_E} {σ : aw_S} {p1 : Int32} {p2 : Int32} {t : (Int32 × aw_S)} (h : m_Mo_others σ p1 p2 = some t) (hE : E = (some (.int t.1), xA, t.2)) : aw_W l M_Mo_others G B_Mo_others E 0 [(0, .ref 0), (1, .int p1), (2, .int p2)] [] xA σ 0 0 := by
  unfold m_Mo_others at h
  refine aw_aload_n (pc := 0) (q := 0) dX11_others_0 rfl ?_
  refine aw_iload_n (pc := 1) (q := 1) dX11_others_1 rfl ?_
  obtain ⟨r1, e2, h⟩ := aw_bde h
  refine aw_cV1 (pc := 2) [.int p1] (c_Mo_isSoundOne e2) yy_Mo_isSoundOne.1 wm_966 yy_Mo_isSoundOne.2.1 yy_Mo_isSoundOne.2.2 xA_0 ⟨_, _, rfl⟩ rfl ⟨Nat.le_of_ble_eq_true rfl, Nat.le_of_ble_eq_true rfl⟩ ⟨Nat.zero_le _, Nat.zero_le _⟩ (Nat.le_of_ble_eq_true rfl) dX11_others_2 ?_
  refine aw_if_eq (pc := 5) (tgt := 29) dX11_others_5 (by decide) (fun c3 => ?_) (fun c3 => ?_)
  · replace h := aw_ifp c3 h
    refine aw_bipush (pc := 29) (v := -2) dX11_others_29 (by decide) ?_
    cases h
    subst hE
    exact aw_iret (v := (-2 : Int32)) rfl aw_ni ⟨Nat.zero_le _, Nat.zero_le _⟩ dX11_others_31
  · replace h := aw_ifn c3 h
    refine aw_iload_n (pc := 8) (q := 2) dX11_others_8 rfl ?_
    refine aw_if_lt (pc := 9) (tgt := 29) dX11_others_9 (by decide) (fun c4 => ?_) (fun c4 => ?_)
    · replace h := aw_ifp c4 h
      refine aw_bipush (pc := 29) (v := -2) dX11_others_29 (by decide) ?_
      cases h
      subst hE
      exact aw_iret (v := (-2 : Int32)) rfl aw_ni ⟨Nat.zero_le _, Nat.zero_le _⟩ dX11_others_31
    · replace h := aw_ifn c4 h
      refine aw_iload_n (pc := 12) (q := 2) dX11_others_12 rfl ?_
      refine aw_iconst (pc := 13) (v := 3) dX11_others_13 (by decide) ?_
      refine aw_icmp_gt (pc := 14) (tgt := 29) dX11_others_14 (by decide) (fun c5 => ?_) (fun c5 => ?_)
      · replace h := aw_ifp c5 h
        refine aw_bipush (pc := 29) (v := -2) dX11_others_29 (by decide) ?_
        cases h
        subst hE
        exact aw_iret (v := (-2 : Int32)) rfl aw_ni ⟨Nat.zero_le _, Nat.zero_le _⟩ dX11_others_31
      · replace h := aw_ifn c5 h
        refine aw_aload_n (pc := 17) (q := 0) dX11_others_17 rfl ?_
        refine aw_getC (pc := 18) fd_X11_36.r xA_0 rfl dX11_others_18 ?_
        refine aw_getI (pc := 21) fd_X11_120.r xA_24 rfl dX11_others_21 ?_
        refine aw_bipush (pc := 24) (v := 12) dX11_others_24 (by decide) ?_
        refine aw_icmp_le (pc := 26) (tgt := 32) dX11_others_26 (by decide) (fun c6 => ?_) (fun c6 => ?_)
        · replace h := aw_ifp c6 h
          refine aw_aload_n (pc := 32) (q := 0) dX11_others_32 rfl ?_
          refine aw_getC (pc := 33) fd_X11_94.r xA_0 rfl dX11_others_33 ?_
          refine aw_aload_n (pc := 36) (q := 0) dX11_others_36 rfl ?_
          refine aw_getC (pc := 37) fd_X11_36.r xA_0 rfl dX11_others_37 ?_
          refine aw_aload_n (pc := 40) (q := 0) dX11_others_40 rfl ?_
          refine aw_getC (pc := 41) fd_X11_43.r xA_0 rfl dX11_others_41 ?_
          refine aw_iload_n (pc := 44) (q := 1) dX11_others_44 rfl ?_
          refine aw_iload_n (pc := 45) (q := 2) dX11_others_45 rfl ?_
          obtain ⟨r7, s9, e8, h⟩ := aw_bd2e h
          refine aw_cV1 (pc := 46) [.ref 24, .ref 41, .int p1, .int p2] (c_Ot_answer e8) yy_Ot_answer.1 wm_1333 yy_Ot_answer.2.1 yy_Ot_answer.2.2 xA_105 ⟨_, _, rfl⟩ rfl ⟨Nat.le_of_ble_eq_true rfl, Nat.le_of_ble_eq_true rfl⟩ ⟨Nat.zero_le _, Nat.zero_le _⟩ (Nat.le_of_ble_eq_true rfl) dX11_others_46 ?_
          cases h
          subst hE
          exact aw_iret (v := _) rfl aw_ni ⟨Nat.zero_le _, Nat.zero_le _⟩ dX11_others_49
        · replace h := aw_ifn c6 h
          refine aw_bipush (pc := 29) (v := -2) dX11_others_29 (by decide) ?_
          cases h
          subst hE
          exact aw_iret (v := (-2 : Int32)) rfl aw_ni ⟨Nat.zero_le _, Nat.zero_le _⟩ dX11_others_31
theorem c_Mo_others {l : Launch} {G : aw_G} {σ : aw_S} {p1 : Int32} {p2 : Int32} {t : (Int32 × aw_S)} (h : m_Mo_others σ p1 p2 = some t) : aw_Ct l yX11_others M_Mo_others G B_Mo_others [.ref 0, .int p1, .int p2] xA σ (some (.int t.1), xA, t.2) := aw_Ct_of (by decide) rfl (fun h => by cases h) (Nat.le_of_ble_eq_true rfl) (t_Mo_others h rfl)
/-! LateMover$Ways.endWaysAtLast(LLateMover$Graph;)V -/
def z_Wa_endWaysAtLast_X2 (l : Launch) (G : aw_G) (E : aw_E) (s : Int32 × aw_S) : Prop := aw_W l M_Wa_endWaysAtLast G B_Wa_endWaysAtLast E 2 [(0, .ref 97), (1, .ref 24), (2, .int s.1)] [] xA s.2 0 0
def z_Wa_endWaysAtLast_Y2 (l : Launch) (G : aw_G) (E : aw_E) (x : (aw_S)) : Prop := aw_W l M_Wa_endWaysAtLast G B_Wa_endWaysAtLast E 126 [] [] xA x 0 0
set_option maxRecDepth 100000 in
set_option maxHeartbeats 4000000 in
theorem t_Wa_endWaysAtLast_J120 {l : Launch} {G : aw_G} {E : aw_E} {σ : aw_S} {v2 : Int32} {t : (aw_S) ⊕ (Int32 × aw_S)} (h : m_Wa_endWaysAtLast_J120 σ v2 = some t) (hz : Sum.elim (z_Wa_endWaysAtLast_Y2 l G E) (z_Wa_endWaysAtLast_X2 l G E) t) : aw_W l M_Wa_endWaysAtLast G B_Wa_endWaysAtLast E 120 [(0, .ref 97), (1, .ref 24), (2, .int v2)] [] xA σ 0 0 := by
  unfold m_Wa_endWaysAtLast_J120 at h
  obtain ⟨x7, e_x7⟩ : ∃ z, z = (v2 + (1 : Int32)) := ⟨_, rfl⟩
  replace h := aw_lte h x7 e_x7
  refine aw_iinc (pc := 120) (q := 2) (v := x7) [(2, .int x7), (0, .ref 97), (1, .ref 24)] dX10_endWaysAtLast_120 rfl e_x7.symm (by decide) rfl ?_
  refine aw_goto (pc := 123) (tgt := 2) dX10_endWaysAtLast_123 (by decide) ?_
  refine aw_sub [1, 2, 0] rfl ?_
  cases h
  exact hz
set_option maxRecDepth 100000 in
set_option maxHeartbeats 4000000 in
theorem t_Wa_endWaysAtLast_J96 {l : Launch} {G : aw_G} {E : aw_E} {σ : aw_S} {v2 : Int32} {k1 : Int32} {t : (aw_S) ⊕ (Int32 × aw_S)} (h : m_Wa_endWaysAtLast_J96 σ v2 k1 = some t) (hz : Sum.elim (z_Wa_endWaysAtLast_Y2 l G E) (z_Wa_endWaysAtLast_X2 l G E) t) : aw_W l M_Wa_endWaysAtLast G B_Wa_endWaysAtLast E 96 [(0, .ref 97), (1, .ref 24), (2, .int v2)] [.int k1, .ref 97] xA σ 0 0 := by
  unfold m_Wa_endWaysAtLast_J96 at h
  refine aw_putI (pc := 96) fd_X10_53 xA_97 rfl (fun _ => rfl) (fun _ => rfl) dX10_endWaysAtLast_96 ?_
  refine aw_nmS (fun s22 e_s22 => ?_)
  replace h := aw_lte h s22 e_s22
  refine aw_aload_n (pc := 99) (q := 0) dX10_endWaysAtLast_99 rfl ?_
  refine aw_ldc2 (pc := 100) (v := 1000000000000) dX10_endWaysAtLast_100 wm_1450 ?_
  refine aw_aload_n (pc := 103) (q := 0) dX10_endWaysAtLast_103 rfl ?_
  refine aw_getL (pc := 104) fd_X10_46.r xA_97 rfl dX10_endWaysAtLast_104 ?_
  refine aw_aload_n (pc := 107) (q := 0) dX10_endWaysAtLast_107 rfl ?_
  obtain ⟨w23, e24, h⟩ := aw_bde h
  obtain ⟨g25, h⟩ := aw_gde h
  refine aw_getR (pc := 108) fd_X10_15.r xA_97 rfl e24 dX10_endWaysAtLast_108 ?_
  refine aw_iload_n (pc := 111) (q := 2) dX10_endWaysAtLast_111 rfl ?_
  obtain ⟨g26, h⟩ := aw_gde h
  refine aw_lald (pc := 112) (aw_or2 g25 xA_99 xA_102) g26 dX10_endWaysAtLast_112 ?_
  refine aw_ladd (pc := 113) dX10_endWaysAtLast_113 ?_
  refine aw_mminL (pc := 114) wm_1451 ⟨Nat.le_of_ble_eq_true rfl, Nat.le_of_ble_eq_true rfl⟩ ⟨Nat.zero_le _, Nat.zero_le _⟩ (Nat.le_of_ble_eq_true rfl) dX10_endWaysAtLast_114 ?_
  refine aw_putL (pc := 117) fd_X10_46 xA_97 rfl (fun _ => rfl) (fun _ => rfl) dX10_endWaysAtLast_117 ?_
  refine aw_nmS (fun s27 e_s27 => ?_)
  replace h := aw_lte h s27 e_s27
  exact t_Wa_endWaysAtLast_J120 h hz
set_option maxRecDepth 100000 in
set_option maxHeartbeats 4000000 in
theorem t_Wa_endWaysAtLast_J61 {l : Launch} {G : aw_G} {E : aw_E} {σ : aw_S} {v2 : Int32} {k1 : Int32} {t : (aw_S) ⊕ (Int32 × aw_S)} (h : m_Wa_endWaysAtLast_J61 σ v2 k1 = some t) (hz : Sum.elim (z_Wa_endWaysAtLast_Y2 l G E) (z_Wa_endWaysAtLast_X2 l G E) t) : aw_W l M_Wa_endWaysAtLast G B_Wa_endWaysAtLast E 61 [(0, .ref 97), (1, .ref 24), (2, .int v2)] [.int k1, .ref 97] xA σ 0 0 := by
  unfold m_Wa_endWaysAtLast_J61 at h
  refine aw_putI (pc := 61) fd_X10_50 xA_97 rfl (fun _ => rfl) (fun _ => rfl) dX10_endWaysAtLast_61 ?_
  refine aw_nmS (fun s16 e_s16 => ?_)
  replace h := aw_lte h s16 e_s16
  refine aw_aload_n (pc := 64) (q := 0) dX10_endWaysAtLast_64 rfl ?_
  refine aw_aload_n (pc := 65) (q := 0) dX10_endWaysAtLast_65 rfl ?_
  refine aw_getL (pc := 66) fd_X10_46.r xA_97 rfl dX10_endWaysAtLast_66 ?_
  refine aw_lconst (pc := 69) (v := 0) dX10_endWaysAtLast_69 (by decide) ?_
  refine aw_lcmp (pc := 70) dX10_endWaysAtLast_70 ?_
  refine aw_if_ne (pc := 71) (tgt := 83) dX10_endWaysAtLast_71 (by decide) (fun c17 => ?_) (fun c17 => ?_)
  · replace h := aw_ifn c17 h
    refine aw_aload_n (pc := 83) (q := 0) dX10_endWaysAtLast_83 rfl ?_
    refine aw_getI (pc := 84) fd_X10_53.r xA_97 rfl dX10_endWaysAtLast_84 ?_
    refine aw_aload_n (pc := 87) (q := 0) dX10_endWaysAtLast_87 rfl ?_
    obtain ⟨w18, e19, h⟩ := aw_bde h
    obtain ⟨g20, h⟩ := aw_gde h
    refine aw_getR (pc := 88) fd_X10_22.r xA_97 rfl e19 dX10_endWaysAtLast_88 ?_
    refine aw_iload_n (pc := 91) (q := 2) dX10_endWaysAtLast_91 rfl ?_
    obtain ⟨g21, h⟩ := aw_gde h
    refine aw_iald (pc := 92) (aw_or2 g20 xA_101 xA_104) g21 dX10_endWaysAtLast_92 ?_
    refine aw_mmax (pc := 93) wm_1449 ⟨Nat.le_of_ble_eq_true rfl, Nat.le_of_ble_eq_true rfl⟩ ⟨Nat.zero_le _, Nat.zero_le _⟩ (Nat.le_of_ble_eq_true rfl) dX10_endWaysAtLast_93 ?_
    exact t_Wa_endWaysAtLast_J96 h hz
  · replace h := aw_ifp c17 h
    refine aw_aload_n (pc := 74) (q := 0) dX10_endWaysAtLast_74 rfl ?_
    obtain ⟨w28, e29, h⟩ := aw_bde h
    obtain ⟨g30, h⟩ := aw_gde h
    refine aw_getR (pc := 75) fd_X10_22.r xA_97 rfl e29 dX10_endWaysAtLast_75 ?_
    refine aw_iload_n (pc := 78) (q := 2) dX10_endWaysAtLast_78 rfl ?_
    obtain ⟨g31, h⟩ := aw_gde h
    refine aw_iald (pc := 79) (aw_or2 g30 xA_101 xA_104) g31 dX10_endWaysAtLast_79 ?_
    refine aw_goto (pc := 80) (tgt := 96) dX10_endWaysAtLast_80 (by decide) ?_
    exact t_Wa_endWaysAtLast_J96 h hz
set_option maxRecDepth 100000 in
set_option maxHeartbeats 4000000 in
theorem t_Wa_endWaysAtLast_B2 {l : Launch} {G : aw_G} {E : aw_E} {σ : aw_S} {v2 : Int32} {t : (aw_S) ⊕ (Int32 × aw_S)} (h : m_Wa_endWaysAtLast_B2 σ v2 = some t) (hz : Sum.elim (z_Wa_endWaysAtLast_Y2 l G E) (z_Wa_endWaysAtLast_X2 l G E) t) : aw_W l M_Wa_endWaysAtLast G B_Wa_endWaysAtLast E 2 [(0, .ref 97), (1, .ref 24), (2, .int v2)] [] xA σ 0 0 := by
  unfold m_Wa_endWaysAtLast_B2 at h
  refine aw_iload_n (pc := 2) (q := 2) dX10_endWaysAtLast_2 rfl ?_
  refine aw_aload_n (pc := 3) (q := 1) dX10_endWaysAtLast_3 rfl ?_
  refine aw_getI (pc := 4) fd_X10_34.r xA_24 rfl dX10_endWaysAtLast_4 ?_
  refine aw_icmp_ge (pc := 7) (tgt := 126) dX10_endWaysAtLast_7 (by decide) (fun c1 => ?_) (fun c1 => ?_)
  · replace h := aw_ifp c1 h
    refine aw_sub [] rfl ?_
    cases h
    exact hz
  · replace h := aw_ifn c1 h
    refine aw_aload_n (pc := 10) (q := 0) dX10_endWaysAtLast_10 rfl ?_
    obtain ⟨w2, e3, h⟩ := aw_bde h
    obtain ⟨g4, h⟩ := aw_gde h
    refine aw_getR (pc := 11) fd_X10_15.r xA_97 rfl e3 dX10_endWaysAtLast_11 ?_
    refine aw_iload_n (pc := 14) (q := 2) dX10_endWaysAtLast_14 rfl ?_
    obtain ⟨g5, h⟩ := aw_gde h
    refine aw_lald (pc := 15) (aw_or2 g4 xA_99 xA_102) g5 dX10_endWaysAtLast_15 ?_
    refine aw_lconst (pc := 16) (v := 0) dX10_endWaysAtLast_16 (by decide) ?_
    refine aw_lcmp (pc := 17) dX10_endWaysAtLast_17 ?_
    refine aw_if_le (pc := 18) (tgt := 120) dX10_endWaysAtLast_18 (by decide) (fun c6 => ?_) (fun c6 => ?_)
    · replace h := aw_ifp c6 h
      exact t_Wa_endWaysAtLast_J120 h hz
    · replace h := aw_ifn c6 h
      refine aw_aload_n (pc := 21) (q := 1) dX10_endWaysAtLast_21 rfl ?_
      refine aw_iload_n (pc := 22) (q := 2) dX10_endWaysAtLast_22 rfl ?_
      obtain ⟨r8, e9, h⟩ := aw_bde h
      refine aw_cV1 (pc := 23) [.int v2] (c_Gr_edgesFrom e9) yy_Gr_edgesFrom.1 wm_1454 yy_Gr_edgesFrom.2.1 yy_Gr_edgesFrom.2.2 xA_24 ⟨_, _, rfl⟩ rfl ⟨Nat.le_of_ble_eq_true rfl, Nat.le_of_ble_eq_true rfl⟩ ⟨Nat.zero_le _, Nat.zero_le _⟩ (Nat.le_of_ble_eq_true rfl) dX10_endWaysAtLast_23 ?_
      refine aw_if_ne (pc := 26) (tgt := 120) dX10_endWaysAtLast_26 (by decide) (fun c10 => ?_) (fun c10 => ?_)
      · replace h := aw_ifn c10 h
        exact t_Wa_endWaysAtLast_J120 h hz
      · replace h := aw_ifp c10 h
        refine aw_aload_n (pc := 29) (q := 0) dX10_endWaysAtLast_29 rfl ?_
        refine aw_aload_n (pc := 30) (q := 0) dX10_endWaysAtLast_30 rfl ?_
        refine aw_getL (pc := 31) fd_X10_46.r xA_97 rfl dX10_endWaysAtLast_31 ?_
        refine aw_lconst (pc := 34) (v := 0) dX10_endWaysAtLast_34 (by decide) ?_
        refine aw_lcmp (pc := 35) dX10_endWaysAtLast_35 ?_
        refine aw_if_ne (pc := 36) (tgt := 48) dX10_endWaysAtLast_36 (by decide) (fun c11 => ?_) (fun c11 => ?_)
        · replace h := aw_ifn c11 h
          refine aw_aload_n (pc := 48) (q := 0) dX10_endWaysAtLast_48 rfl ?_
          refine aw_getI (pc := 49) fd_X10_50.r xA_97 rfl dX10_endWaysAtLast_49 ?_
          refine aw_aload_n (pc := 52) (q := 0) dX10_endWaysAtLast_52 rfl ?_
          obtain ⟨w12, e13, h⟩ := aw_bde h
          obtain ⟨g14, h⟩ := aw_gde h
          refine aw_getR (pc := 53) fd_X10_19.r xA_97 rfl e13 dX10_endWaysAtLast_53 ?_
          refine aw_iload_n (pc := 56) (q := 2) dX10_endWaysAtLast_56 rfl ?_
          obtain ⟨g15, h⟩ := aw_gde h
          refine aw_iald (pc := 57) (aw_or2 g14 xA_100 xA_103) g15 dX10_endWaysAtLast_57 ?_
          refine aw_mmin (pc := 58) wm_1448 ⟨Nat.le_of_ble_eq_true rfl, Nat.le_of_ble_eq_true rfl⟩ ⟨Nat.zero_le _, Nat.zero_le _⟩ (Nat.le_of_ble_eq_true rfl) dX10_endWaysAtLast_58 ?_
          exact t_Wa_endWaysAtLast_J61 h hz
        · replace h := aw_ifp c11 h
          refine aw_aload_n (pc := 39) (q := 0) dX10_endWaysAtLast_39 rfl ?_
          obtain ⟨w32, e33, h⟩ := aw_bde h
          obtain ⟨g34, h⟩ := aw_gde h
          refine aw_getR (pc := 40) fd_X10_19.r xA_97 rfl e33 dX10_endWaysAtLast_40 ?_
          refine aw_iload_n (pc := 43) (q := 2) dX10_endWaysAtLast_43 rfl ?_
          obtain ⟨g35, h⟩ := aw_gde h
          refine aw_iald (pc := 44) (aw_or2 g34 xA_100 xA_103) g35 dX10_endWaysAtLast_44 ?_
          refine aw_goto (pc := 45) (tgt := 61) dX10_endWaysAtLast_45 (by decide) ?_
          exact t_Wa_endWaysAtLast_J61 h hz
set_option maxRecDepth 100000 in
set_option maxHeartbeats 4000000 in
theorem t_Wa_endWaysAtLast {l : Launch} {G : aw_G} {E : aw_E} {σ : aw_S} {t : aw_S} (h : m_Wa_endWaysAtLast σ = some t) (hE : E = (none, xA, t)) : aw_W l M_Wa_endWaysAtLast G B_Wa_endWaysAtLast E 0 [(0, .ref 97), (1, .ref 24)] [] xA σ 0 0 := by
  unfold m_Wa_endWaysAtLast at h
  refine aw_iconst (pc := 0) (v := 0) dX10_endWaysAtLast_0 (by decide) ?_
  refine aw_istore_n (pc := 1) [(2, .int ((0 : Int32))), (0, .ref 97), (1, .ref 24)] dX10_endWaysAtLast_1 (by decide) rfl ?_
  obtain ⟨x36, hl37, h⟩ := aw_bde h
  have K38 : z_Wa_endWaysAtLast_Y2 l G E x36 := by
    show aw_W l M_Wa_endWaysAtLast G B_Wa_endWaysAtLast E 126 [] [] xA x36 0 0
    cases h
    subst hE
    exact aw_vret rfl ⟨Nat.zero_le _, Nat.zero_le _⟩ dX10_endWaysAtLast_126
  refine aw_sub [1, 2, 0] rfl ?_
  show z_Wa_endWaysAtLast_X2 l G E (((0 : Int32), σ))
  exact aw_lp_X (Xp := z_Wa_endWaysAtLast_X2 l G E) (Y := z_Wa_endWaysAtLast_Y2 l G E) hl37 K38 (fun s t hf hz => t_Wa_endWaysAtLast_B2 hf hz)
theorem c_Wa_endWaysAtLast {l : Launch} {G : aw_G} {σ : aw_S} {t : aw_S} (h : m_Wa_endWaysAtLast σ = some t) : aw_Ct l yX10_endWaysAtLast M_Wa_endWaysAtLast G B_Wa_endWaysAtLast [.ref 97, .ref 24] xA σ (none, xA, t) := aw_Ct_of (by decide) rfl (fun h => by cases h) (Nat.le_of_ble_eq_true rfl) (t_Wa_endWaysAtLast h rfl)
/-! LateMover$Ways.extend(LLateMover$Graph;II)V -/
set_option maxRecDepth 100000 in
set_option maxHeartbeats 4000000 in
theorem t_Wa_extend_J110 {l : Launch} {G : aw_G} {E : aw_E} {σ : aw_S} {v2 : Int32} {v3 : Int32} {k0 : Nat} {k1 : Int32} {k2 : Int32} (h_k0 : xA[k0]? = some (.inr (0, 128, aw_no))) {t : aw_S} (h : m_Wa_extend_J110 σ v2 v3 k0 k1 k2 = some t) (hE : E = (none, xA, t)) : aw_W l M_Wa_extend G B_Wa_extend E 110 [(0, .ref 97), (2, .int v2), (3, .int v3)] [.int k2, .int k1, .ref k0] xA σ 0 0 := by
  unfold m_Wa_extend_J110 at h
  obtain ⟨g39, h⟩ := aw_gde h
  refine aw_iast (pc := 110) h_k0 g39 dX10_extend_110 ?_
  refine aw_nmS (fun s40 e_s40 => ?_)
  replace h := aw_lte h s40 e_s40
  refine aw_aload_n (pc := 111) (q := 0) dX10_extend_111 rfl ?_
  obtain ⟨w41, e42, h⟩ := aw_bde h
  obtain ⟨g43, h⟩ := aw_gde h
  refine aw_getR (pc := 112) fd_X10_25.r xA_97 rfl e42 dX10_extend_112 ?_
  refine aw_iload_n (pc := 115) (q := 2) dX10_extend_115 rfl ?_
  refine aw_ldc2 (pc := 116) (v := 1000000000000) dX10_extend_116 wm_1450 ?_
  refine aw_aload_n (pc := 119) (q := 0) dX10_extend_119 rfl ?_
  obtain ⟨w44, e45, h⟩ := aw_bde h
  obtain ⟨g46, h⟩ := aw_gde h
  refine aw_getR (pc := 120) fd_X10_25.r xA_97 rfl e45 dX10_extend_120 ?_
  refine aw_iload_n (pc := 123) (q := 2) dX10_extend_123 rfl ?_
  obtain ⟨g47, h⟩ := aw_gde h
  refine aw_lald (pc := 124) (aw_or2 g46 xA_99 xA_102) g47 dX10_extend_124 ?_
  refine aw_aload_n (pc := 125) (q := 0) dX10_extend_125 rfl ?_
  obtain ⟨w48, e49, h⟩ := aw_bde h
  obtain ⟨g50, h⟩ := aw_gde h
  refine aw_getR (pc := 126) fd_X10_15.r xA_97 rfl e49 dX10_extend_126 ?_
  refine aw_iload_n (pc := 129) (q := 1) dX10_extend_129 rfl ?_
  obtain ⟨g51, h⟩ := aw_gde h
  refine aw_lald (pc := 130) (aw_or2 g50 xA_99 xA_102) g51 dX10_extend_130 ?_
  refine aw_ladd (pc := 131) dX10_extend_131 ?_
  refine aw_mminL (pc := 132) wm_1451 ⟨Nat.le_of_ble_eq_true rfl, Nat.le_of_ble_eq_true rfl⟩ ⟨Nat.zero_le _, Nat.zero_le _⟩ (Nat.le_of_ble_eq_true rfl) dX10_extend_132 ?_
  obtain ⟨g52, h⟩ := aw_gde h
  refine aw_last (pc := 135) (aw_or2 g43 xA_99 xA_102) g52 dX10_extend_135 ?_
  refine aw_nmS (fun s53 e_s53 => ?_)
  replace h := aw_lte h s53 e_s53
  cases h
  subst hE
  exact aw_vret rfl ⟨Nat.zero_le _, Nat.zero_le _⟩ dX10_extend_136
set_option maxRecDepth 100000 in
set_option maxHeartbeats 4000000 in
theorem t_Wa_extend_J83 {l : Launch} {G : aw_G} {E : aw_E} {σ : aw_S} {v2 : Int32} {v3 : Int32} {v5 : Int32} {v6 : Int32} {k0 : Nat} {k1 : Int32} {k2 : Int32} (h_k0 : xA[k0]? = some (.inr (0, 128, aw_no))) {t : aw_S} (h : m_Wa_extend_J83 σ v2 v3 v5 v6 k0 k1 k2 = some t) (hE : E = (none, xA, t)) : aw_W l M_Wa_extend G B_Wa_extend E 83 [(0, .ref 97), (2, .int v2), (3, .int v3), (5, .int v5), (6, .int v6)] [.int k2, .int k1, .ref k0] xA σ 0 0 := by
  unfold m_Wa_extend_J83 at h
  obtain ⟨g29, h⟩ := aw_gde h
  refine aw_iast (pc := 83) h_k0 g29 dX10_extend_83 ?_
  refine aw_nmS (fun s30 e_s30 => ?_)
  replace h := aw_lte h s30 e_s30
  refine aw_aload_n (pc := 84) (q := 0) dX10_extend_84 rfl ?_
  obtain ⟨w31, e32, h⟩ := aw_bde h
  obtain ⟨g33, h⟩ := aw_gde h
  refine aw_getR (pc := 85) fd_X10_31.r xA_97 rfl e32 dX10_extend_85 ?_
  refine aw_iload_n (pc := 88) (q := 2) dX10_extend_88 rfl ?_
  refine aw_iload (pc := 89) (q := 4) dX10_extend_89 rfl ?_
  refine aw_if_eq (pc := 91) (tgt := 99) dX10_extend_91 (by decide) (fun c34 => ?_) (fun c34 => ?_)
  · replace h := aw_ifp c34 h
    refine aw_aload_n (pc := 99) (q := 0) dX10_extend_99 rfl ?_
    obtain ⟨w35, e36, h⟩ := aw_bde h
    obtain ⟨g37, h⟩ := aw_gde h
    refine aw_getR (pc := 100) fd_X10_31.r xA_97 rfl e36 dX10_extend_100 ?_
    refine aw_iload_n (pc := 103) (q := 2) dX10_extend_103 rfl ?_
    obtain ⟨g38, h⟩ := aw_gde h
    refine aw_iald (pc := 104) (aw_or2 g37 xA_101 xA_104) g38 dX10_extend_104 ?_
    refine aw_iload (pc := 105) (q := 3) dX10_extend_105 rfl ?_
    refine aw_mmax (pc := 107) wm_1449 ⟨Nat.le_of_ble_eq_true rfl, Nat.le_of_ble_eq_true rfl⟩ ⟨Nat.zero_le _, Nat.zero_le _⟩ (Nat.le_of_ble_eq_true rfl) dX10_extend_107 ?_
    refine aw_sub [0, 1, 2] rfl ?_
    exact t_Wa_extend_J110 (aw_or2 g33 xA_101 xA_104) h hE
  · replace h := aw_ifn c34 h
    refine aw_iload (pc := 94) (q := 3) dX10_extend_94 rfl ?_
    refine aw_goto (pc := 96) (tgt := 110) dX10_extend_96 (by decide) ?_
    refine aw_sub [0, 1, 2] rfl ?_
    exact t_Wa_extend_J110 (aw_or2 g33 xA_101 xA_104) h hE
set_option maxRecDepth 100000 in
set_option maxHeartbeats 4000000 in
theorem t_Wa_extend_J55 {l : Launch} {G : aw_G} {E : aw_E} {σ : aw_S} {v2 : Int32} {v3 : Int32} {v4 : Int32} {v5 : Int32} {k0 : Int32} {t : aw_S} (h : m_Wa_extend_J55 σ v2 v3 v4 v5 k0 = some t) (hE : E = (none, xA, t)) : aw_W l M_Wa_extend G B_Wa_extend E 55 [(0, .ref 97), (2, .int v2), (3, .int v3), (4, .int v4), (5, .int v5)] [.int k0] xA σ 0 0 := by
  unfold m_Wa_extend_J55 at h
  refine aw_istore (pc := 55) [(6, .int k0), (0, .ref 97), (2, .int v2), (3, .int v3), (4, .int v4), (5, .int v5)] dX10_extend_55 (by decide) rfl ?_
  refine aw_aload_n (pc := 57) (q := 1) dX10_extend_57 rfl ?_
  obtain ⟨w21, e22, h⟩ := aw_bde h
  obtain ⟨g23, h⟩ := aw_gde h
  refine aw_getR (pc := 58) fd_X10_28.r xA_97 rfl e22 dX10_extend_58 ?_
  refine aw_iload_n (pc := 61) (q := 3) dX10_extend_61 rfl ?_
  refine aw_iload (pc := 62) (q := 0) dX10_extend_62 rfl ?_
  refine aw_if_eq (pc := 64) (tgt := 72) dX10_extend_64 (by decide) (fun c24 => ?_) (fun c24 => ?_)
  · replace h := aw_ifp c24 h
    refine aw_aload_n (pc := 72) (q := 1) dX10_extend_72 rfl ?_
    obtain ⟨w25, e26, h⟩ := aw_bde h
    obtain ⟨g27, h⟩ := aw_gde h
    refine aw_getR (pc := 73) fd_X10_28.r xA_97 rfl e26 dX10_extend_73 ?_
    refine aw_iload_n (pc := 76) (q := 3) dX10_extend_76 rfl ?_
    obtain ⟨g28, h⟩ := aw_gde h
    refine aw_iald (pc := 77) (aw_or2 g27 xA_100 xA_103) g28 dX10_extend_77 ?_
    refine aw_iload (pc := 78) (q := 4) dX10_extend_78 rfl ?_
    refine aw_mmin (pc := 80) wm_1448 ⟨Nat.le_of_ble_eq_true rfl, Nat.le_of_ble_eq_true rfl⟩ ⟨Nat.zero_le _, Nat.zero_le _⟩ (Nat.le_of_ble_eq_true rfl) dX10_extend_80 ?_
    refine aw_sub [1, 2, 3, 5, 0] rfl ?_
    exact t_Wa_extend_J83 (aw_or2 g23 xA_100 xA_103) h hE
  · replace h := aw_ifn c24 h
    refine aw_iload (pc := 67) (q := 4) dX10_extend_67 rfl ?_
    refine aw_goto (pc := 69) (tgt := 83) dX10_extend_69 (by decide) ?_
    refine aw_sub [1, 2, 3, 5, 0] rfl ?_
    exact t_Wa_extend_J83 (aw_or2 g23 xA_100 xA_103) h hE
set_option maxRecDepth 100000 in
set_option maxHeartbeats 4000000 in
theorem t_Wa_extend {l : Launch} {G : aw_G} {E : aw_E} {σ : aw_S} {p2 : Int32} {p3 : Int32} {t : aw_S} (h : m_Wa_extend σ p2 p3 = some t) (hE : E = (none, xA, t)) : aw_W l M_Wa_extend G B_Wa_extend E 0 [(0, .ref 97), (1, .ref 24), (2, .int p2), (3, .int p3)] [] xA σ 0 0 := by
  unfold m_Wa_extend at h
  refine aw_aload_n (pc := 0) (q := 1) dX10_extend_0 rfl ?_
  refine aw_iload_n (pc := 1) (q := 3) dX10_extend_1 rfl ?_
  obtain ⟨r1, e2, h⟩ := aw_bde h
  refine aw_cV1 (pc := 2) [.int p3] (c_Gr_isNode e2) yy_Gr_isNode.1 wm_1464 yy_Gr_isNode.2.1 yy_Gr_isNode.2.2 xA_24 ⟨_, _, rfl⟩ rfl ⟨Nat.le_of_ble_eq_true rfl, Nat.le_of_ble_eq_true rfl⟩ ⟨Nat.zero_le _, Nat.zero_le _⟩ (Nat.le_of_ble_eq_true rfl) dX10_extend_2 ?_
  refine aw_if_ne (pc := 5) (tgt := 9) dX10_extend_5 (by decide) (fun c3 => ?_) (fun c3 => ?_)
  · replace h := aw_ifn c3 h
    refine aw_aload_n (pc := 9) (q := 0) dX10_extend_9 rfl ?_
    obtain ⟨w4, e5, h⟩ := aw_bde h
    obtain ⟨g6, h⟩ := aw_gde h
    refine aw_getR (pc := 10) fd_X10_19.r xA_97 rfl e5 dX10_extend_10 ?_
    refine aw_iload_n (pc := 13) (q := 2) dX10_extend_13 rfl ?_
    obtain ⟨g7, h⟩ := aw_gde h
    refine aw_iald (pc := 14) (aw_or2 g6 xA_100 xA_103) g7 dX10_extend_14 ?_
    refine aw_aload_n (pc := 15) (q := 0) dX10_extend_15 rfl ?_
    refine aw_getC (pc := 16) fd_X10_9.r xA_97 rfl dX10_extend_16 ?_
    refine aw_iload_n (pc := 19) (q := 3) dX10_extend_19 rfl ?_
    obtain ⟨g8, h⟩ := aw_gde h
    refine aw_iald (pc := 20) xA_98 g8 dX10_extend_20 ?_
    refine aw_iadd (pc := 21) dX10_extend_21 ?_
    refine aw_nmI (fun x9 e_x9 => ?_)
    replace h := aw_lte h x9 e_x9
    refine aw_istore (pc := 22) [(4, .int x9), (0, .ref 97), (1, .ref 24), (2, .int p2), (3, .int p3)] dX10_extend_22 (by decide) rfl ?_
    refine aw_aload_n (pc := 24) (q := 1) dX10_extend_24 rfl ?_
    obtain ⟨w10, e11, h⟩ := aw_bde h
    obtain ⟨g12, h⟩ := aw_gde h
    refine aw_getR (pc := 25) fd_X10_22.r xA_97 rfl e11 dX10_extend_25 ?_
    refine aw_iload_n (pc := 28) (q := 3) dX10_extend_28 rfl ?_
    obtain ⟨g13, h⟩ := aw_gde h
    refine aw_iald (pc := 29) (aw_or2 g12 xA_101 xA_104) g13 dX10_extend_29 ?_
    refine aw_aload_n (pc := 30) (q := 1) dX10_extend_30 rfl ?_
    refine aw_getC (pc := 31) fd_X10_9.r xA_97 rfl dX10_extend_31 ?_
    refine aw_iload_n (pc := 34) (q := 4) dX10_extend_34 rfl ?_
    obtain ⟨g14, h⟩ := aw_gde h
    refine aw_iald (pc := 35) xA_98 g14 dX10_extend_35 ?_
    refine aw_iadd (pc := 36) dX10_extend_36 ?_
    refine aw_nmI (fun x15 e_x15 => ?_)
    replace h := aw_lte h x15 e_x15
    refine aw_istore (pc := 37) [(5, .int x15), (4, .int x9), (0, .ref 97), (1, .ref 24), (2, .int p2), (3, .int p3)] dX10_extend_37 (by decide) rfl ?_
    refine aw_aload_n (pc := 39) (q := 2) dX10_extend_39 rfl ?_
    obtain ⟨w16, e17, h⟩ := aw_bde h
    obtain ⟨g18, h⟩ := aw_gde h
    refine aw_getR (pc := 40) fd_X10_25.r xA_97 rfl e17 dX10_extend_40 ?_
    refine aw_iload_n (pc := 43) (q := 5) dX10_extend_43 rfl ?_
    obtain ⟨g19, h⟩ := aw_gde h
    refine aw_lald (pc := 44) (aw_or2 g18 xA_99 xA_102) g19 dX10_extend_44 ?_
    refine aw_lconst (pc := 45) (v := 0) dX10_extend_45 (by decide) ?_
    refine aw_lcmp (pc := 46) dX10_extend_46 ?_
    refine aw_if_ne (pc := 47) (tgt := 54) dX10_extend_47 (by decide) (fun c20 => ?_) (fun c20 => ?_)
    · replace h := aw_ifn c20 h
      refine aw_iconst (pc := 54) (v := 0) dX10_extend_54 (by decide) ?_
      refine aw_sub [2, 4, 5, 1, 0] rfl ?_
      exact t_Wa_extend_J55 h hE
    · replace h := aw_ifp c20 h
      refine aw_iconst (pc := 50) (v := 1) dX10_extend_50 (by decide) ?_
      refine aw_goto (pc := 51) (tgt := 55) dX10_extend_51 (by decide) ?_
      refine aw_sub [2, 4, 5, 1, 0] rfl ?_
      exact t_Wa_extend_J55 h hE
  · replace h := aw_ifp c3 h
    cases h
    subst hE
    exact aw_vret rfl ⟨Nat.zero_le _, Nat.zero_le _⟩ dX10_extend_8
theorem c_Wa_extend {l : Launch} {G : aw_G} {σ : aw_S} {p2 : Int32} {p3 : Int32} {t : aw_S} (h : m_Wa_extend σ p2 p3 = some t) : aw_Ct l yX10_extend M_Wa_extend G B_Wa_extend [.ref 97, .ref 24, .int p2, .int p3] xA σ (none, xA, t) := aw_Ct_of (by decide) rfl (fun h => by cases h) (Nat.le_of_ble_eq_true rfl) (t_Wa_extend h rfl)
/-! LateMover$Ways.swap()V -/
set_option maxRecDepth 100000 in
set_option maxHeartbeats 4000000 in
theorem t_Wa_swap {l : Launch} {G : aw_G} {E : aw_E} {σ : aw_S} {t : aw_S} (h : m_Wa_swap σ = some t) (hE : E = (none, xA, t)) : aw_W l M_Wa_swap G B_Wa_swap E 0 [(0, .ref 97)] [] xA σ 0 0 := by
  unfold m_Wa_swap at h
  refine aw_aload_n (pc := 0) (q := 0) dX10_swap_0 rfl ?_
  obtain ⟨w1, e2, h⟩ := aw_bde h
  obtain ⟨g3, h⟩ := aw_gde h
  refine aw_getR (pc := 1) fd_X10_15.r xA_97 rfl e2 dX10_swap_1 ?_
  refine aw_astore_n (pc := 4) [(1, .ref w1), (0, .ref 97)] dX10_swap_4 (by decide) rfl ?_
  refine aw_aload_n (pc := 5) (q := 1) dX10_swap_5 rfl ?_
  obtain ⟨w4, e5, h⟩ := aw_bde h
  obtain ⟨g6, h⟩ := aw_gde h
  refine aw_getR (pc := 6) fd_X10_19.r xA_97 rfl e5 dX10_swap_6 ?_
  refine aw_astore_n (pc := 9) [(2, .ref w4), (1, .ref w1), (0, .ref 97)] dX10_swap_9 (by decide) rfl ?_
  refine aw_aload_n (pc := 10) (q := 2) dX10_swap_10 rfl ?_
  obtain ⟨w7, e8, h⟩ := aw_bde h
  obtain ⟨g9, h⟩ := aw_gde h
  refine aw_getR (pc := 11) fd_X10_22.r xA_97 rfl e8 dX10_swap_11 ?_
  refine aw_astore_n (pc := 14) [(3, .ref w7), (2, .ref w4), (1, .ref w1), (0, .ref 97)] dX10_swap_14 (by decide) rfl ?_
  refine aw_aload_n (pc := 15) (q := 3) dX10_swap_15 rfl ?_
  refine aw_aload_n (pc := 16) (q := 3) dX10_swap_16 rfl ?_
  obtain ⟨w10, e11, h⟩ := aw_bde h
  obtain ⟨g12, h⟩ := aw_gde h
  refine aw_getR (pc := 17) fd_X10_25.r xA_97 rfl e11 dX10_swap_17 ?_
  refine aw_putR (pc := 20) fd_X10_15 xA_97 rfl (fun _ => rfl) (fun _ => rfl) dX10_swap_20 ?_
  refine aw_nmS (fun s13 e_s13 => ?_)
  replace h := aw_lte h s13 e_s13
  refine aw_aload_n (pc := 23) (q := 3) dX10_swap_23 rfl ?_
  refine aw_aload_n (pc := 24) (q := 3) dX10_swap_24 rfl ?_
  obtain ⟨w14, e15, h⟩ := aw_bde h
  obtain ⟨g16, h⟩ := aw_gde h
  refine aw_getR (pc := 25) fd_X10_28.r xA_97 rfl e15 dX10_swap_25 ?_
  refine aw_putR (pc := 28) fd_X10_19 xA_97 rfl (fun _ => rfl) (fun _ => rfl) dX10_swap_28 ?_
  refine aw_nmS (fun s17 e_s17 => ?_)
  replace h := aw_lte h s17 e_s17
  refine aw_aload_n (pc := 31) (q := 3) dX10_swap_31 rfl ?_
  refine aw_aload_n (pc := 32) (q := 3) dX10_swap_32 rfl ?_
  obtain ⟨w18, e19, h⟩ := aw_bde h
  obtain ⟨g20, h⟩ := aw_gde h
  refine aw_getR (pc := 33) fd_X10_31.r xA_97 rfl e19 dX10_swap_33 ?_
  refine aw_putR (pc := 36) fd_X10_22 xA_97 rfl (fun _ => rfl) (fun _ => rfl) dX10_swap_36 ?_
  refine aw_nmS (fun s21 e_s21 => ?_)
  replace h := aw_lte h s21 e_s21
  refine aw_aload_n (pc := 39) (q := 3) dX10_swap_39 rfl ?_
  refine aw_aload_n (pc := 40) (q := 2) dX10_swap_40 rfl ?_
  refine aw_putR (pc := 41) fd_X10_25 xA_97 rfl (fun _ => rfl) (fun _ => rfl) dX10_swap_41 ?_
  refine aw_nmS (fun s22 e_s22 => ?_)
  replace h := aw_lte h s22 e_s22
  refine aw_aload_n (pc := 44) (q := 3) dX10_swap_44 rfl ?_
  refine aw_aload_n (pc := 45) (q := 1) dX10_swap_45 rfl ?_
  refine aw_putR (pc := 46) fd_X10_28 xA_97 rfl (fun _ => rfl) (fun _ => rfl) dX10_swap_46 ?_
  refine aw_nmS (fun s23 e_s23 => ?_)
  replace h := aw_lte h s23 e_s23
  refine aw_aload_n (pc := 49) (q := 3) dX10_swap_49 rfl ?_
  refine aw_aload_n (pc := 50) (q := 0) dX10_swap_50 rfl ?_
  refine aw_putR (pc := 51) fd_X10_31 xA_97 rfl (fun _ => rfl) (fun _ => rfl) dX10_swap_51 ?_
  refine aw_nmS (fun s24 e_s24 => ?_)
  replace h := aw_lte h s24 e_s24
  cases h
  subst hE
  exact aw_vret rfl ⟨Nat.zero_le _, Nat.zero_le _⟩ dX10_swap_54
theorem c_Wa_swap {l : Launch} {G : aw_G} {σ : aw_S} {t : aw_S} (h : m_Wa_swap σ = some t) : aw_Ct l yX10_swap M_Wa_swap G B_Wa_swap [.ref 97] xA σ (none, xA, t) := aw_Ct_of (by decide) rfl (fun h => by cases h) (Nat.le_of_ble_eq_true rfl) (t_Wa_swap h rfl)
/-! LateMover$Ways.goOnByOneEdge(LLateMover$Graph;)V -/
def z_Wa_goOnByOneEdge_X2 (l : Launch) (G : aw_G) (E : aw_E) (s : Int32 × aw_S) : Prop := aw_W l M_Wa_goOnByOneEdge G B_Wa_goOnByOneEdge E 2 [(0, .ref 97), (1, .ref 24), (2, .int s.1)] [] xA s.2 0 0
def z_Wa_goOnByOneEdge_Y2 (l : Launch) (G : aw_G) (E : aw_E) (x : (aw_S)) : Prop := aw_W l M_Wa_goOnByOneEdge G B_Wa_goOnByOneEdge E 23 [(0, .ref 97), (1, .ref 24)] [] xA x 0 0
def z_Wa_goOnByOneEdge_X25 (l : Launch) (G : aw_G) (E : aw_E) (s : Int32 × aw_S) : Prop := aw_W l M_Wa_goOnByOneEdge G B_Wa_goOnByOneEdge E 25 [(0, .ref 97), (1, .ref 24), (2, .int s.1)] [] xA s.2 0 0
def z_Wa_goOnByOneEdge_Y25 (l : Launch) (G : aw_G) (E : aw_E) (x : (aw_S)) : Prop := aw_W l M_Wa_goOnByOneEdge G B_Wa_goOnByOneEdge E 79 [(0, .ref 97)] [] xA x 0 0
def z_Wa_goOnByOneEdge_X35 (l : Launch) (G : aw_G) (E : aw_E) (v2 : Int32) (s : Int32 × aw_S) : Prop := aw_W l M_Wa_goOnByOneEdge G B_Wa_goOnByOneEdge E 35 [(0, .ref 97), (1, .ref 24), (2, .int v2), (3, .int s.1)] [] xA s.2 0 0
def z_Wa_goOnByOneEdge_Y35 (l : Launch) (G : aw_G) (E : aw_E) (v2 : Int32) (x : (aw_S)) : Prop := aw_W l M_Wa_goOnByOneEdge G B_Wa_goOnByOneEdge E 73 [(0, .ref 97), (1, .ref 24), (2, .int v2)] [] xA x 0 0
set_option maxRecDepth 100000 in
set_option maxHeartbeats 4000000 in
theorem t_Wa_goOnByOneEdge_B2 {l : Launch} {G : aw_G} {E : aw_E} {σ : aw_S} {v2 : Int32} {t : (aw_S) ⊕ (Int32 × aw_S)} (h : m_Wa_goOnByOneEdge_B2 σ v2 = some t) (hz : Sum.elim (z_Wa_goOnByOneEdge_Y2 l G E) (z_Wa_goOnByOneEdge_X2 l G E) t) : aw_W l M_Wa_goOnByOneEdge G B_Wa_goOnByOneEdge E 2 [(0, .ref 97), (1, .ref 24), (2, .int v2)] [] xA σ 0 0 := by
  unfold m_Wa_goOnByOneEdge_B2 at h
  refine aw_iload_n (pc := 2) (q := 2) dX10_goOnByOneEdge_2 rfl ?_
  refine aw_aload_n (pc := 3) (q := 1) dX10_goOnByOneEdge_3 rfl ?_
  refine aw_getI (pc := 4) fd_X10_34.r xA_24 rfl dX10_goOnByOneEdge_4 ?_
  refine aw_icmp_ge (pc := 7) (tgt := 23) dX10_goOnByOneEdge_7 (by decide) (fun c1 => ?_) (fun c1 => ?_)
  · replace h := aw_ifp c1 h
    refine aw_sub [0, 1] rfl ?_
    cases h
    exact hz
  · replace h := aw_ifn c1 h
    refine aw_aload_n (pc := 10) (q := 0) dX10_goOnByOneEdge_10 rfl ?_
    obtain ⟨w2, e3, h⟩ := aw_bde h
    obtain ⟨g4, h⟩ := aw_gde h
    refine aw_getR (pc := 11) fd_X10_25.r xA_97 rfl e3 dX10_goOnByOneEdge_11 ?_
    refine aw_iload_n (pc := 14) (q := 2) dX10_goOnByOneEdge_14 rfl ?_
    refine aw_lconst (pc := 15) (v := 0) dX10_goOnByOneEdge_15 (by decide) ?_
    obtain ⟨g5, h⟩ := aw_gde h
    refine aw_last (pc := 16) (aw_or2 g4 xA_99 xA_102) g5 dX10_goOnByOneEdge_16 ?_
    refine aw_nmS (fun s6 e_s6 => ?_)
    replace h := aw_lte h s6 e_s6
    obtain ⟨x7, e_x7⟩ : ∃ z, z = (v2 + (1 : Int32)) := ⟨_, rfl⟩
    replace h := aw_lte h x7 e_x7
    refine aw_iinc (pc := 17) (q := 2) (v := x7) [(2, .int x7), (0, .ref 97), (1, .ref 24)] dX10_goOnByOneEdge_17 rfl e_x7.symm (by decide) rfl ?_
    refine aw_goto (pc := 20) (tgt := 2) dX10_goOnByOneEdge_20 (by decide) ?_
    refine aw_sub [1, 2, 0] rfl ?_
    cases h
    exact hz
set_option maxRecDepth 100000 in
set_option maxHeartbeats 4000000 in
theorem t_Wa_goOnByOneEdge_B35 {l : Launch} {G : aw_G} {E : aw_E} {σ : aw_S} {v2 : Int32} {v3 : Int32} {t : (aw_S) ⊕ (Int32 × aw_S)} (h : m_Wa_goOnByOneEdge_B35 σ v2 v3 = some t) (hz : Sum.elim (z_Wa_goOnByOneEdge_Y35 l G E v2) (z_Wa_goOnByOneEdge_X35 l G E v2) t) : aw_W l M_Wa_goOnByOneEdge G B_Wa_goOnByOneEdge E 35 [(0, .ref 97), (1, .ref 24), (2, .int v2), (3, .int v3)] [] xA σ 0 0 := by
  unfold m_Wa_goOnByOneEdge_B35 at h
  refine aw_aload_n (pc := 35) (q := 0) dX10_goOnByOneEdge_35 rfl ?_
  obtain ⟨w12, e13, h⟩ := aw_bde h
  obtain ⟨g14, h⟩ := aw_gde h
  refine aw_getR (pc := 36) fd_X10_15.r xA_97 rfl e13 dX10_goOnByOneEdge_36 ?_
  refine aw_iload_n (pc := 39) (q := 2) dX10_goOnByOneEdge_39 rfl ?_
  obtain ⟨g15, h⟩ := aw_gde h
  refine aw_lald (pc := 40) (aw_or2 g14 xA_99 xA_102) g15 dX10_goOnByOneEdge_40 ?_
  refine aw_lconst (pc := 41) (v := 0) dX10_goOnByOneEdge_41 (by decide) ?_
  refine aw_lcmp (pc := 42) dX10_goOnByOneEdge_42 ?_
  refine aw_if_le (pc := 43) (tgt := 73) dX10_goOnByOneEdge_43 (by decide) (fun c16 => ?_) (fun c16 => ?_)
  · replace h := aw_ifp c16 h
    refine aw_sub [0, 1, 2] rfl ?_
    cases h
    exact hz
  · replace h := aw_ifn c16 h
    refine aw_iload_n (pc := 46) (q := 3) dX10_goOnByOneEdge_46 rfl ?_
    refine aw_aload_n (pc := 47) (q := 1) dX10_goOnByOneEdge_47 rfl ?_
    refine aw_iload_n (pc := 48) (q := 2) dX10_goOnByOneEdge_48 rfl ?_
    obtain ⟨r17, e18, h⟩ := aw_bde h
    refine aw_cV1 (pc := 49) [.int v2] (c_Gr_edgesFrom e18) yy_Gr_edgesFrom.1 wm_1454 yy_Gr_edgesFrom.2.1 yy_Gr_edgesFrom.2.2 xA_24 ⟨_, _, rfl⟩ rfl ⟨Nat.le_of_ble_eq_true rfl, Nat.le_of_ble_eq_true rfl⟩ ⟨Nat.zero_le _, Nat.zero_le _⟩ (Nat.le_of_ble_eq_true rfl) dX10_goOnByOneEdge_49 ?_
    refine aw_icmp_ge (pc := 52) (tgt := 73) dX10_goOnByOneEdge_52 (by decide) (fun c19 => ?_) (fun c19 => ?_)
    · replace h := aw_ifp c19 h
      refine aw_sub [0, 1, 2] rfl ?_
      cases h
      exact hz
    · replace h := aw_ifn c19 h
      refine aw_aload_n (pc := 55) (q := 0) dX10_goOnByOneEdge_55 rfl ?_
      refine aw_aload_n (pc := 56) (q := 1) dX10_goOnByOneEdge_56 rfl ?_
      refine aw_iload_n (pc := 57) (q := 2) dX10_goOnByOneEdge_57 rfl ?_
      refine aw_aload_n (pc := 58) (q := 1) dX10_goOnByOneEdge_58 rfl ?_
      refine aw_iload_n (pc := 59) (q := 2) dX10_goOnByOneEdge_59 rfl ?_
      refine aw_iload_n (pc := 60) (q := 3) dX10_goOnByOneEdge_60 rfl ?_
      obtain ⟨r20, e21, h⟩ := aw_bde h
      refine aw_cV1 (pc := 61) [.int v2, .int v3] (c_Gr_kthTarget e21) yy_Gr_kthTarget.1 wm_1459 yy_Gr_kthTarget.2.1 yy_Gr_kthTarget.2.2 xA_24 ⟨_, _, rfl⟩ rfl ⟨Nat.le_of_ble_eq_true rfl, Nat.le_of_ble_eq_true rfl⟩ ⟨Nat.zero_le _, Nat.zero_le _⟩ (Nat.le_of_ble_eq_true rfl) dX10_goOnByOneEdge_61 ?_
      obtain ⟨s24, e23, h⟩ := aw_bde h
      refine aw_cV0 (pc := 64) [.ref 24, .int v2, .int r20] (c_Wa_extend e23) yy_Wa_extend.1 wm_1460 yy_Wa_extend.2.1 yy_Wa_extend.2.2 xA_97 ⟨_, _, rfl⟩ rfl ⟨Nat.le_of_ble_eq_true rfl, Nat.le_of_ble_eq_true rfl⟩ ⟨Nat.zero_le _, Nat.zero_le _⟩ (Nat.le_of_ble_eq_true rfl) dX10_goOnByOneEdge_64 ?_
      obtain ⟨x25, e_x25⟩ : ∃ z, z = (v3 + (1 : Int32)) := ⟨_, rfl⟩
      replace h := aw_lte h x25 e_x25
      refine aw_iinc (pc := 67) (q := 3) (v := x25) [(3, .int x25), (0, .ref 97), (1, .ref 24), (2, .int v2)] dX10_goOnByOneEdge_67 rfl e_x25.symm (by decide) rfl ?_
      refine aw_goto (pc := 70) (tgt := 35) dX10_goOnByOneEdge_70 (by decide) ?_
      refine aw_sub [1, 2, 3, 0] rfl ?_
      cases h
      exact hz
set_option maxRecDepth 100000 in
set_option maxHeartbeats 4000000 in
theorem t_Wa_goOnByOneEdge_B25 {l : Launch} {G : aw_G} {E : aw_E} {σ : aw_S} {v2 : Int32} {t : (aw_S) ⊕ (Int32 × aw_S)} (h : m_Wa_goOnByOneEdge_B25 σ v2 = some t) (hz : Sum.elim (z_Wa_goOnByOneEdge_Y25 l G E) (z_Wa_goOnByOneEdge_X25 l G E) t) : aw_W l M_Wa_goOnByOneEdge G B_Wa_goOnByOneEdge E 25 [(0, .ref 97), (1, .ref 24), (2, .int v2)] [] xA σ 0 0 := by
  unfold m_Wa_goOnByOneEdge_B25 at h
  refine aw_iload_n (pc := 25) (q := 2) dX10_goOnByOneEdge_25 rfl ?_
  refine aw_aload_n (pc := 26) (q := 1) dX10_goOnByOneEdge_26 rfl ?_
  refine aw_getI (pc := 27) fd_X10_34.r xA_24 rfl dX10_goOnByOneEdge_27 ?_
  refine aw_icmp_ge (pc := 30) (tgt := 79) dX10_goOnByOneEdge_30 (by decide) (fun c11 => ?_) (fun c11 => ?_)
  · replace h := aw_ifp c11 h
    refine aw_sub [0] rfl ?_
    cases h
    exact hz
  · replace h := aw_ifn c11 h
    refine aw_iconst (pc := 33) (v := 0) dX10_goOnByOneEdge_33 (by decide) ?_
    refine aw_istore_n (pc := 34) [(3, .int ((0 : Int32))), (0, .ref 97), (1, .ref 24), (2, .int v2)] dX10_goOnByOneEdge_34 (by decide) rfl ?_
    obtain ⟨x26, hl27, h⟩ := aw_bde h
    have K28 : z_Wa_goOnByOneEdge_Y35 l G E v2 x26 := by
      show aw_W l M_Wa_goOnByOneEdge G B_Wa_goOnByOneEdge E 73 [(0, .ref 97), (1, .ref 24), (2, .int v2)] [] xA x26 0 0
      obtain ⟨x29, e_x29⟩ : ∃ z, z = (v2 + (1 : Int32)) := ⟨_, rfl⟩
      replace h := aw_lte h x29 e_x29
      refine aw_iinc (pc := 73) (q := 2) (v := x29) [(2, .int x29), (0, .ref 97), (1, .ref 24)] dX10_goOnByOneEdge_73 rfl e_x29.symm (by decide) rfl ?_
      refine aw_goto (pc := 76) (tgt := 25) dX10_goOnByOneEdge_76 (by decide) ?_
      refine aw_sub [1, 2, 0] rfl ?_
      cases h
      exact hz
    refine aw_sub [1, 2, 3, 0] rfl ?_
    show z_Wa_goOnByOneEdge_X35 l G E v2 (((0 : Int32), σ))
    exact aw_lp_X (Xp := z_Wa_goOnByOneEdge_X35 l G E v2) (Y := z_Wa_goOnByOneEdge_Y35 l G E v2) hl27 K28 (fun s t hf hz => t_Wa_goOnByOneEdge_B35 hf hz)
set_option maxRecDepth 100000 in
set_option maxHeartbeats 4000000 in
theorem t_Wa_goOnByOneEdge {l : Launch} {G : aw_G} {E : aw_E} {σ : aw_S} {t : aw_S} (h : m_Wa_goOnByOneEdge σ = some t) (hE : E = (none, xA, t)) : aw_W l M_Wa_goOnByOneEdge G B_Wa_goOnByOneEdge E 0 [(0, .ref 97), (1, .ref 24)] [] xA σ 0 0 := by
  unfold m_Wa_goOnByOneEdge at h
  refine aw_iconst (pc := 0) (v := 0) dX10_goOnByOneEdge_0 (by decide) ?_
  refine aw_istore_n (pc := 1) [(2, .int ((0 : Int32))), (0, .ref 97), (1, .ref 24)] dX10_goOnByOneEdge_1 (by decide) rfl ?_
  obtain ⟨x8, hl9, h⟩ := aw_bde h
  have K10 : z_Wa_goOnByOneEdge_Y2 l G E x8 := by
    show aw_W l M_Wa_goOnByOneEdge G B_Wa_goOnByOneEdge E 23 [(0, .ref 97), (1, .ref 24)] [] xA x8 0 0
    refine aw_iconst (pc := 23) (v := 0) dX10_goOnByOneEdge_23 (by decide) ?_
    refine aw_istore_n (pc := 24) [(2, .int ((0 : Int32))), (0, .ref 97), (1, .ref 24)] dX10_goOnByOneEdge_24 (by decide) rfl ?_
    obtain ⟨x30, hl31, h⟩ := aw_bde h
    have K32 : z_Wa_goOnByOneEdge_Y25 l G E x30 := by
      show aw_W l M_Wa_goOnByOneEdge G B_Wa_goOnByOneEdge E 79 [(0, .ref 97)] [] xA x30 0 0
      refine aw_aload_n (pc := 79) (q := 0) dX10_goOnByOneEdge_79 rfl ?_
      obtain ⟨s35, e34, h⟩ := aw_bde h
      refine aw_cV0 (pc := 80) [] (c_Wa_swap e34) yy_Wa_swap.1 wm_1465 yy_Wa_swap.2.1 yy_Wa_swap.2.2 xA_97 ⟨_, _, rfl⟩ rfl ⟨Nat.le_of_ble_eq_true rfl, Nat.le_of_ble_eq_true rfl⟩ ⟨Nat.zero_le _, Nat.zero_le _⟩ (Nat.le_of_ble_eq_true rfl) dX10_goOnByOneEdge_80 ?_
      cases h
      subst hE
      exact aw_vret rfl ⟨Nat.zero_le _, Nat.zero_le _⟩ dX10_goOnByOneEdge_83
    refine aw_sub [1, 2, 0] rfl ?_
    show z_Wa_goOnByOneEdge_X25 l G E (((0 : Int32), x8))
    exact aw_lp_X (Xp := z_Wa_goOnByOneEdge_X25 l G E) (Y := z_Wa_goOnByOneEdge_Y25 l G E) hl31 K32 (fun s t hf hz => t_Wa_goOnByOneEdge_B25 hf hz)
  refine aw_sub [1, 2, 0] rfl ?_
  show z_Wa_goOnByOneEdge_X2 l G E (((0 : Int32), σ))
  exact aw_lp_X (Xp := z_Wa_goOnByOneEdge_X2 l G E) (Y := z_Wa_goOnByOneEdge_Y2 l G E) hl9 K10 (fun s t hf hz => t_Wa_goOnByOneEdge_B2 hf hz)
theorem c_Wa_goOnByOneEdge {l : Launch} {G : aw_G} {σ : aw_S} {t : aw_S} (h : m_Wa_goOnByOneEdge σ = some t) : aw_Ct l yX10_goOnByOneEdge M_Wa_goOnByOneEdge G B_Wa_goOnByOneEdge [.ref 97, .ref 24] xA σ (none, xA, t) := aw_Ct_of (by decide) rfl (fun h => by cases h) (Nat.le_of_ble_eq_true rfl) (t_Wa_goOnByOneEdge h rfl)
/-! LateMover$Ways.count(LLateMover$Graph;LLateMover$Placement;I)V -/
def z_Wa_count_X3 (l : Launch) (G : aw_G) (E : aw_E) (v2 : Nat) (v3 : Int32) (s : Int32 × aw_S) : Prop := aw_W l M_Wa_count G B_Wa_count E 3 [(0, .ref 97), (1, .ref 24), (2, .ref v2), (3, .int v3), (4, .int s.1)] [] xA s.2 0 0
def z_Wa_count_Y3 (l : Launch) (G : aw_G) (E : aw_E) (v2 : Nat) (v3 : Int32) (x : (aw_S)) : Prop := aw_W l M_Wa_count G B_Wa_count E 40 [(0, .ref 97), (1, .ref 24), (3, .int v3)] [] xA x 0 0
def z_Wa_count_X89 (l : Launch) (G : aw_G) (E : aw_E) (v3 : Int32) (s : Int32 × aw_S) : Prop := aw_W l M_Wa_count G B_Wa_count E 89 [(0, .ref 97), (1, .ref 24), (3, .int v3), (4, .int s.1)] [] xA s.2 0 0
def z_Wa_count_Y89 (l : Launch) (G : aw_G) (E : aw_E) (v3 : Int32) (x : (aw_S)) : Prop := aw_W l M_Wa_count G B_Wa_count E 111 [] [] xA x 0 0
set_option maxRecDepth 100000 in
set_option maxHeartbeats 4000000 in
theorem t_Wa_count_B3 {l : Launch} {G : aw_G} {E : aw_E} {σ : aw_S} {v2 : Nat} {v3 : Int32} {v4 : Int32} (h_v2 : isPl v2) {t : (aw_S) ⊕ (Int32 × aw_S)} (h : m_Wa_count_B3 σ v2 v3 v4 = some t) (hz : Sum.elim (z_Wa_count_Y3 l G E v2 v3) (z_Wa_count_X3 l G E v2 v3) t) : aw_W l M_Wa_count G B_Wa_count E 3 [(0, .ref 97), (1, .ref 24), (2, .ref v2), (3, .int v3), (4, .int v4)] [] xA σ 0 0 := by
  unfold m_Wa_count_B3 at h
  refine aw_iload (pc := 3) (q := 4) dX10_count_3 rfl ?_
  refine aw_aload_n (pc := 5) (q := 1) dX10_count_5 rfl ?_
  refine aw_getI (pc := 6) fd_X10_34.r xA_24 rfl dX10_count_6 ?_
  refine aw_icmp_ge (pc := 9) (tgt := 40) dX10_count_9 (by decide) (fun c1 => ?_) (fun c1 => ?_)
  · replace h := aw_ifp c1 h
    refine aw_sub [0, 1, 3] rfl ?_
    cases h
    exact hz
  · replace h := aw_ifn c1 h
    refine aw_aload_n (pc := 12) (q := 0) dX10_count_12 rfl ?_
    refine aw_getC (pc := 13) fd_X10_9.r xA_97 rfl dX10_count_13 ?_
    refine aw_iload (pc := 16) (q := 4) dX10_count_16 rfl ?_
    refine aw_aload_n (pc := 18) (q := 2) dX10_count_18 rfl ?_
    refine aw_aload_n (pc := 19) (q := 1) dX10_count_19 rfl ?_
    refine aw_iload (pc := 20) (q := 4) dX10_count_20 rfl ?_
    obtain ⟨r2, e3, h⟩ := aw_bde h
    refine aw_cV1 (pc := 22) [.ref 24, .int v4] (c_Pl_computedAt h_v2 e3) yy_Pl_computedAt.1 wm_1443 yy_Pl_computedAt.2.1 yy_Pl_computedAt.2.2 h_v2.1 ⟨_, _, rfl⟩ rfl ⟨Nat.le_of_ble_eq_true rfl, Nat.le_of_ble_eq_true rfl⟩ ⟨Nat.zero_le _, Nat.zero_le _⟩ (Nat.le_of_ble_eq_true rfl) dX10_count_22 ?_
    obtain ⟨g4, h⟩ := aw_gde h
    refine aw_iast (pc := 25) xA_98 g4 dX10_count_25 ?_
    refine aw_nmS (fun s5 e_s5 => ?_)
    replace h := aw_lte h s5 e_s5
    refine aw_aload_n (pc := 26) (q := 0) dX10_count_26 rfl ?_
    obtain ⟨w6, e7, h⟩ := aw_bde h
    obtain ⟨g8, h⟩ := aw_gde h
    refine aw_getR (pc := 27) fd_X10_15.r xA_97 rfl e7 dX10_count_27 ?_
    refine aw_iload (pc := 30) (q := 4) dX10_count_30 rfl ?_
    refine aw_lconst (pc := 32) (v := 0) dX10_count_32 (by decide) ?_
    obtain ⟨g9, h⟩ := aw_gde h
    refine aw_last (pc := 33) (aw_or2 g8 xA_99 xA_102) g9 dX10_count_33 ?_
    refine aw_nmS (fun s10 e_s10 => ?_)
    replace h := aw_lte h s10 e_s10
    obtain ⟨x11, e_x11⟩ : ∃ z, z = (v4 + (1 : Int32)) := ⟨_, rfl⟩
    replace h := aw_lte h x11 e_x11
    refine aw_iinc (pc := 34) (q := 4) (v := x11) [(4, .int x11), (0, .ref 97), (1, .ref 24), (2, .ref v2), (3, .int v3)] dX10_count_34 rfl e_x11.symm (by decide) rfl ?_
    refine aw_goto (pc := 37) (tgt := 3) dX10_count_37 (by decide) ?_
    refine aw_sub [1, 2, 3, 4, 0] rfl ?_
    cases h
    exact hz
set_option maxRecDepth 100000 in
set_option maxHeartbeats 4000000 in
theorem t_Wa_count_B89 {l : Launch} {G : aw_G} {E : aw_E} {σ : aw_S} {v3 : Int32} {v4 : Int32} {t : (aw_S) ⊕ (Int32 × aw_S)} (h : m_Wa_count_B89 σ v3 v4 = some t) (hz : Sum.elim (z_Wa_count_Y89 l G E v3) (z_Wa_count_X89 l G E v3) t) : aw_W l M_Wa_count G B_Wa_count E 89 [(0, .ref 97), (1, .ref 24), (3, .int v3), (4, .int v4)] [] xA σ 0 0 := by
  unfold m_Wa_count_B89 at h
  refine aw_iload (pc := 89) (q := 3) dX10_count_89 rfl ?_
  refine aw_iload_n (pc := 91) (q := 2) dX10_count_91 rfl ?_
  refine aw_icmp_gt (pc := 92) (tgt := 111) dX10_count_92 (by decide) (fun c35 => ?_) (fun c35 => ?_)
  · replace h := aw_ifp c35 h
    refine aw_sub [] rfl ?_
    cases h
    exact hz
  · replace h := aw_ifn c35 h
    refine aw_aload_n (pc := 95) (q := 0) dX10_count_95 rfl ?_
    refine aw_aload_n (pc := 96) (q := 1) dX10_count_96 rfl ?_
    obtain ⟨s38, e37, h⟩ := aw_bde h
    refine aw_cV0 (pc := 97) [.ref 24] (c_Wa_endWaysAtLast e37) yy_Wa_endWaysAtLast.1 wm_1444 yy_Wa_endWaysAtLast.2.1 yy_Wa_endWaysAtLast.2.2 xA_97 ⟨_, _, rfl⟩ rfl ⟨Nat.le_of_ble_eq_true rfl, Nat.le_of_ble_eq_true rfl⟩ ⟨Nat.zero_le _, Nat.zero_le _⟩ (Nat.le_of_ble_eq_true rfl) dX10_count_97 ?_
    refine aw_aload_n (pc := 100) (q := 0) dX10_count_100 rfl ?_
    refine aw_aload_n (pc := 101) (q := 1) dX10_count_101 rfl ?_
    obtain ⟨s41, e40, h⟩ := aw_bde h
    refine aw_cV0 (pc := 102) [.ref 24] (c_Wa_goOnByOneEdge e40) yy_Wa_goOnByOneEdge.1 wm_1455 yy_Wa_goOnByOneEdge.2.1 yy_Wa_goOnByOneEdge.2.2 xA_97 ⟨_, _, rfl⟩ rfl ⟨Nat.le_of_ble_eq_true rfl, Nat.le_of_ble_eq_true rfl⟩ ⟨Nat.zero_le _, Nat.zero_le _⟩ (Nat.le_of_ble_eq_true rfl) dX10_count_102 ?_
    obtain ⟨x42, e_x42⟩ : ∃ z, z = (v4 + (1 : Int32)) := ⟨_, rfl⟩
    replace h := aw_lte h x42 e_x42
    refine aw_iinc (pc := 105) (q := 3) (v := x42) [(4, .int x42), (0, .ref 97), (1, .ref 24), (3, .int v3)] dX10_count_105 rfl e_x42.symm (by decide) rfl ?_
    refine aw_goto (pc := 108) (tgt := 89) dX10_count_108 (by decide) ?_
    refine aw_sub [1, 2, 3, 0] rfl ?_
    cases h
    exact hz
set_option maxRecDepth 100000 in
set_option maxHeartbeats 4000000 in
theorem t_Wa_count {l : Launch} {G : aw_G} {E : aw_E} {σ : aw_S} {p2 : Nat} {p3 : Int32} (h_p2 : isPl p2) {t : aw_S} (h : m_Wa_count σ p2 p3 = some t) (hE : E = (none, xA, t)) : aw_W l M_Wa_count G B_Wa_count E 0 [(0, .ref 97), (1, .ref 24), (2, .ref p2), (3, .int p3)] [] xA σ 0 0 := by
  unfold m_Wa_count at h
  refine aw_iconst (pc := 0) (v := 0) dX10_count_0 (by decide) ?_
  refine aw_istore (pc := 1) [(4, .int ((0 : Int32))), (0, .ref 97), (1, .ref 24), (2, .ref p2), (3, .int p3)] dX10_count_1 (by decide) rfl ?_
  obtain ⟨x12, hl13, h⟩ := aw_bde h
  have K14 : z_Wa_count_Y3 l G E p2 p3 x12 := by
    show aw_W l M_Wa_count G B_Wa_count E 40 [(0, .ref 97), (1, .ref 24), (3, .int p3)] [] xA x12 0 0
    refine aw_aload_n (pc := 40) (q := 0) dX10_count_40 rfl ?_
    refine aw_lconst (pc := 41) (v := 0) dX10_count_41 (by decide) ?_
    refine aw_putL (pc := 42) fd_X10_46 xA_97 rfl (fun _ => rfl) (fun _ => rfl) dX10_count_42 ?_
    refine aw_nmS (fun s15 e_s15 => ?_)
    replace h := aw_lte h s15 e_s15
    refine aw_aload_n (pc := 45) (q := 0) dX10_count_45 rfl ?_
    refine aw_iconst (pc := 46) (v := 0) dX10_count_46 (by decide) ?_
    refine aw_putI (pc := 47) fd_X10_50 xA_97 rfl (fun _ => rfl) (fun _ => rfl) dX10_count_47 ?_
    refine aw_nmS (fun s16 e_s16 => ?_)
    replace h := aw_lte h s16 e_s16
    refine aw_aload_n (pc := 50) (q := 0) dX10_count_50 rfl ?_
    refine aw_iconst (pc := 51) (v := 0) dX10_count_51 (by decide) ?_
    refine aw_putI (pc := 52) fd_X10_53 xA_97 rfl (fun _ => rfl) (fun _ => rfl) dX10_count_52 ?_
    refine aw_nmS (fun s17 e_s17 => ?_)
    replace h := aw_lte h s17 e_s17
    refine aw_aload_n (pc := 55) (q := 0) dX10_count_55 rfl ?_
    obtain ⟨w18, e19, h⟩ := aw_bde h
    obtain ⟨g20, h⟩ := aw_gde h
    refine aw_getR (pc := 56) fd_X10_15.r xA_97 rfl e19 dX10_count_56 ?_
    refine aw_iconst (pc := 59) (v := 0) dX10_count_59 (by decide) ?_
    refine aw_lconst (pc := 60) (v := 1) dX10_count_60 (by decide) ?_
    obtain ⟨g21, h⟩ := aw_gde h
    refine aw_last (pc := 61) (aw_or2 g20 xA_99 xA_102) g21 dX10_count_61 ?_
    refine aw_nmS (fun s22 e_s22 => ?_)
    replace h := aw_lte h s22 e_s22
    refine aw_aload_n (pc := 62) (q := 0) dX10_count_62 rfl ?_
    obtain ⟨w23, e24, h⟩ := aw_bde h
    obtain ⟨g25, h⟩ := aw_gde h
    refine aw_getR (pc := 63) fd_X10_19.r xA_97 rfl e24 dX10_count_63 ?_
    refine aw_iconst (pc := 66) (v := 0) dX10_count_66 (by decide) ?_
    refine aw_aload_n (pc := 67) (q := 0) dX10_count_67 rfl ?_
    refine aw_getC (pc := 68) fd_X10_9.r xA_97 rfl dX10_count_68 ?_
    refine aw_iconst (pc := 71) (v := 0) dX10_count_71 (by decide) ?_
    obtain ⟨g26, h⟩ := aw_gde h
    refine aw_iald (pc := 72) xA_98 g26 dX10_count_72 ?_
    obtain ⟨g27, h⟩ := aw_gde h
    refine aw_iast (pc := 73) (aw_or2 g25 xA_100 xA_103) g27 dX10_count_73 ?_
    refine aw_nmS (fun s28 e_s28 => ?_)
    replace h := aw_lte h s28 e_s28
    refine aw_aload_n (pc := 74) (q := 0) dX10_count_74 rfl ?_
    obtain ⟨w29, e30, h⟩ := aw_bde h
    obtain ⟨g31, h⟩ := aw_gde h
    refine aw_getR (pc := 75) fd_X10_22.r xA_97 rfl e30 dX10_count_75 ?_
    refine aw_iconst (pc := 78) (v := 0) dX10_count_78 (by decide) ?_
    refine aw_aload_n (pc := 79) (q := 0) dX10_count_79 rfl ?_
    refine aw_getC (pc := 80) fd_X10_9.r xA_97 rfl dX10_count_80 ?_
    refine aw_iconst (pc := 83) (v := 0) dX10_count_83 (by decide) ?_
    obtain ⟨g32, h⟩ := aw_gde h
    refine aw_iald (pc := 84) xA_98 g32 dX10_count_84 ?_
    obtain ⟨g33, h⟩ := aw_gde h
    refine aw_iast (pc := 85) (aw_or2 g31 xA_101 xA_104) g33 dX10_count_85 ?_
    refine aw_nmS (fun s34 e_s34 => ?_)
    replace h := aw_lte h s34 e_s34
    refine aw_iconst (pc := 86) (v := 1) dX10_count_86 (by decide) ?_
    refine aw_istore (pc := 87) [(4, .int ((1 : Int32))), (0, .ref 97), (1, .ref 24), (3, .int p3)] dX10_count_87 (by decide) rfl ?_
    obtain ⟨x43, hl44, h⟩ := aw_bde h
    have K45 : z_Wa_count_Y89 l G E p3 x43 := by
      show aw_W l M_Wa_count G B_Wa_count E 111 [] [] xA x43 0 0
      cases h
      subst hE
      exact aw_vret rfl ⟨Nat.zero_le _, Nat.zero_le _⟩ dX10_count_111
    refine aw_sub [1, 2, 3, 0] rfl ?_
    show z_Wa_count_X89 l G E p3 (((1 : Int32), s34))
    exact aw_lp_X (Xp := z_Wa_count_X89 l G E p3) (Y := z_Wa_count_Y89 l G E p3) hl44 K45 (fun s t hf hz => t_Wa_count_B89 hf hz)
  refine aw_sub [1, 2, 3, 4, 0] rfl ?_
  show z_Wa_count_X3 l G E p2 p3 (((0 : Int32), σ))
  exact aw_lp_X (Xp := z_Wa_count_X3 l G E p2 p3) (Y := z_Wa_count_Y3 l G E p2 p3) hl13 K14 (fun s t hf hz => t_Wa_count_B3 h_p2 hf hz)
theorem c_Wa_count {l : Launch} {G : aw_G} {σ : aw_S} {p2 : Nat} {p3 : Int32} (h_p2 : isPl p2) {t : aw_S} (h : m_Wa_count σ p2 p3 = some t) : aw_Ct l yX10_count M_Wa_count G B_Wa_count [.ref 97, .ref 24, .ref p2, .int p3] xA σ (none, xA, t) := aw_Ct_of (by decide) rfl (fun h => by cases h) (Nat.le_of_ble_eq_true rfl) (t_Wa_count h_p2 h rfl)
/-! LateMover.ways(III)J -/
set_option maxRecDepth 100000 in
set_option maxHeartbeats 4000000 in
theorem t_Mo_ways_J28 {l : Launch} {G : aw_G} {E : aw_E} {σ : aw_S} {t : (Int64 × aw_S)} (h : m_Mo_ways_J28 σ = some t) (hE : E = (some (.long t.1), xA, t.2)) : aw_W l M_Mo_ways G B_Mo_ways E 28 [] [] xA σ 0 0 := by
  unfold m_Mo_ways_J28 at h
  refine aw_ldc2 (pc := 28) (v := -1) dX11_ways_28 wm_1309 ?_
  cases h
  subst hE
  exact aw_lret (v := (-1 : Int64)) rfl ⟨Nat.zero_le _, Nat.zero_le _⟩ dX11_ways_31
set_option maxRecDepth 100000 in
set_option maxHeartbeats 4000000 in
theorem t_Mo_ways {l : Launch} {G : aw_G} {E : aw_E} {σ : aw_S} {p1 : Int32} {p2 : Int32} {p3 : Int32} {t : (Int64 × aw_S)} (h : m_Mo_ways σ p1 p2 p3 = some t) (hE : E = (some (.long t.1), xA, t.2)) : aw_W l M_Mo_ways G B_Mo_ways E 0 [(0, .ref 0), (1, .int p1), (2, .int p2), (3, .int p3)] [] xA σ 0 0 := by
  unfold m_Mo_ways at h
  refine aw_aload_n (pc := 0) (q := 0) dX11_ways_0 rfl ?_
  refine aw_iload_n (pc := 1) (q := 1) dX11_ways_1 rfl ?_
  obtain ⟨r1, e2, h⟩ := aw_bde h
  refine aw_cV1 (pc := 2) [.int p1] (c_Mo_isRunnable e2) yy_Mo_isRunnable.1 wm_1079 yy_Mo_isRunnable.2.1 yy_Mo_isRunnable.2.2 xA_0 ⟨_, _, rfl⟩ rfl ⟨Nat.le_of_ble_eq_true rfl, Nat.le_of_ble_eq_true rfl⟩ ⟨Nat.zero_le _, Nat.zero_le _⟩ (Nat.le_of_ble_eq_true rfl) dX11_ways_2 ?_
  refine aw_if_eq (pc := 5) (tgt := 28) dX11_ways_5 (by decide) (fun c3 => ?_) (fun c3 => ?_)
  · replace h := aw_ifp c3 h
    refine aw_sub [] rfl ?_
    exact t_Mo_ways_J28 h hE
  · replace h := aw_ifn c3 h
    refine aw_iload_n (pc := 8) (q := 2) dX11_ways_8 rfl ?_
    refine aw_iconst (pc := 9) (v := 1) dX11_ways_9 (by decide) ?_
    refine aw_icmp_lt (pc := 10) (tgt := 28) dX11_ways_10 (by decide) (fun c4 => ?_) (fun c4 => ?_)
    · replace h := aw_ifp c4 h
      refine aw_sub [] rfl ?_
      exact t_Mo_ways_J28 h hE
    · replace h := aw_ifn c4 h
      refine aw_iload_n (pc := 13) (q := 2) dX11_ways_13 rfl ?_
      refine aw_bipush (pc := 14) (v := 60) dX11_ways_14 (by decide) ?_
      refine aw_icmp_gt (pc := 16) (tgt := 28) dX11_ways_16 (by decide) (fun c5 => ?_) (fun c5 => ?_)
      · replace h := aw_ifp c5 h
        refine aw_sub [] rfl ?_
        exact t_Mo_ways_J28 h hE
      · replace h := aw_ifn c5 h
        refine aw_iload_n (pc := 19) (q := 3) dX11_ways_19 rfl ?_
        refine aw_if_lt (pc := 20) (tgt := 28) dX11_ways_20 (by decide) (fun c6 => ?_) (fun c6 => ?_)
        · replace h := aw_ifp c6 h
          refine aw_sub [] rfl ?_
          exact t_Mo_ways_J28 h hE
        · replace h := aw_ifn c6 h
          refine aw_iload_n (pc := 23) (q := 3) dX11_ways_23 rfl ?_
          refine aw_iconst (pc := 24) (v := 2) dX11_ways_24 (by decide) ?_
          refine aw_icmp_le (pc := 25) (tgt := 32) dX11_ways_25 (by decide) (fun c7 => ?_) (fun c7 => ?_)
          · replace h := aw_ifp c7 h
            refine aw_aload_n (pc := 32) (q := 0) dX11_ways_32 rfl ?_
            refine aw_getC (pc := 33) fd_X11_87.r xA_0 rfl dX11_ways_33 ?_
            refine aw_aload_n (pc := 36) (q := 0) dX11_ways_36 rfl ?_
            refine aw_getC (pc := 37) fd_X11_36.r xA_0 rfl dX11_ways_37 ?_
            refine aw_aload_n (pc := 40) (q := 0) dX11_ways_40 rfl ?_
            refine aw_iload_n (pc := 41) (q := 1) dX11_ways_41 rfl ?_
            obtain ⟨r8, e9, h⟩ := aw_bde h
            refine aw_cV1 (pc := 42) [.int p1] (c_Mo_placementBy e9) yy_Mo_placementBy.1 wm_986 yy_Mo_placementBy.2.1 yy_Mo_placementBy.2.2 xA_0 ⟨_, _, rfl⟩ rfl ⟨Nat.le_of_ble_eq_true rfl, Nat.le_of_ble_eq_true rfl⟩ ⟨Nat.zero_le _, Nat.zero_le _⟩ (Nat.le_of_ble_eq_true rfl) dX11_ways_42 ?_
            have h_r8 : isPl r8 := aw_plBy_ok e9
            refine aw_iload_n (pc := 45) (q := 2) dX11_ways_45 rfl ?_
            obtain ⟨s12, e11, h⟩ := aw_bde h
            refine aw_cV0 (pc := 46) [.ref 24, .ref r8, .int p2] (c_Wa_count h_r8 e11) yy_Wa_count.1 wm_1435 yy_Wa_count.2.1 yy_Wa_count.2.2 xA_97 ⟨_, _, rfl⟩ rfl ⟨Nat.le_of_ble_eq_true rfl, Nat.le_of_ble_eq_true rfl⟩ ⟨Nat.zero_le _, Nat.zero_le _⟩ (Nat.le_of_ble_eq_true rfl) dX11_ways_46 ?_
            refine aw_iload_n (pc := 49) (q := 3) dX11_ways_49 rfl ?_
            refine aw_if_ne (pc := 50) (tgt := 61) dX11_ways_50 (by decide) (fun c13 => ?_) (fun c13 => ?_)
            · replace h := aw_ifn c13 h
              refine aw_aload_n (pc := 61) (q := 0) dX11_ways_61 rfl ?_
              refine aw_getC (pc := 62) fd_X11_87.r xA_0 rfl dX11_ways_62 ?_
              refine aw_getL (pc := 65) fd_X11_383.r xA_97 rfl dX11_ways_65 ?_
              refine aw_lconst (pc := 68) (v := 0) dX11_ways_68 (by decide) ?_
              refine aw_lcmp (pc := 69) dX11_ways_69 ?_
              refine aw_if_ne (pc := 70) (tgt := 77) dX11_ways_70 (by decide) (fun c14 => ?_) (fun c14 => ?_)
              · replace h := aw_ifn c14 h
                refine aw_iload_n (pc := 77) (q := 3) dX11_ways_77 rfl ?_
                refine aw_iconst (pc := 78) (v := 1) dX11_ways_78 (by decide) ?_
                refine aw_icmp_ne (pc := 79) (tgt := 93) dX11_ways_79 (by decide) (fun c15 => ?_) (fun c15 => ?_)
                · replace h := aw_ifn c15 h
                  refine aw_aload_n (pc := 93) (q := 0) dX11_ways_93 rfl ?_
                  refine aw_getC (pc := 94) fd_X11_87.r xA_0 rfl dX11_ways_94 ?_
                  refine aw_getI (pc := 97) fd_X11_390.r xA_97 rfl dX11_ways_97 ?_
                  refine aw_i2l (pc := 100) dX11_ways_100 ?_
                  cases h
                  subst hE
                  exact aw_lret (v := (((s12.1 97 9)).toInt64)) rfl ⟨Nat.zero_le _, Nat.zero_le _⟩ dX11_ways_101
                · replace h := aw_ifp c15 h
                  refine aw_aload_n (pc := 82) (q := 0) dX11_ways_82 rfl ?_
                  refine aw_getC (pc := 83) fd_X11_87.r xA_0 rfl dX11_ways_83 ?_
                  refine aw_getI (pc := 86) fd_X11_387.r xA_97 rfl dX11_ways_86 ?_
                  refine aw_i2l (pc := 89) dX11_ways_89 ?_
                  refine aw_goto (pc := 90) (tgt := 101) dX11_ways_90 (by decide) ?_
                  cases h
                  subst hE
                  exact aw_lret (v := (((s12.1 97 8)).toInt64)) rfl ⟨Nat.zero_le _, Nat.zero_le _⟩ dX11_ways_101
              · replace h := aw_ifp c14 h
                refine aw_ldc2 (pc := 73) (v := -1) dX11_ways_73 wm_1309 ?_
                cases h
                subst hE
                exact aw_lret (v := (-1 : Int64)) rfl ⟨Nat.zero_le _, Nat.zero_le _⟩ dX11_ways_76
            · replace h := aw_ifp c13 h
              refine aw_aload_n (pc := 53) (q := 0) dX11_ways_53 rfl ?_
              refine aw_getC (pc := 54) fd_X11_87.r xA_0 rfl dX11_ways_54 ?_
              refine aw_getL (pc := 57) fd_X11_383.r xA_97 rfl dX11_ways_57 ?_
              cases h
              subst hE
              exact aw_lret (v := (s12.2.1 97 7)) rfl ⟨Nat.zero_le _, Nat.zero_le _⟩ dX11_ways_60
          · replace h := aw_ifn c7 h
            refine aw_sub [] rfl ?_
            exact t_Mo_ways_J28 h hE
theorem c_Mo_ways {l : Launch} {G : aw_G} {σ : aw_S} {p1 : Int32} {p2 : Int32} {p3 : Int32} {t : (Int64 × aw_S)} (h : m_Mo_ways σ p1 p2 p3 = some t) : aw_Ct l yX11_ways M_Mo_ways G B_Mo_ways [.ref 0, .int p1, .int p2, .int p3] xA σ (some (.long t.1), xA, t.2) := aw_Ct_of (by decide) rfl (fun h => by cases h) (Nat.le_of_ble_eq_true rfl) (t_Mo_ways h rfl)
/-! LateMover$Text.putNumber(I)V -/
set_option maxRecDepth 100000 in
set_option maxHeartbeats 4000000 in
theorem t_Te_putNumber_J40 {l : Launch} {G : aw_G} {E : aw_E} {σ : aw_S} {v0 : Nat} {v1 : Int32} (h_v0 : isTe v0) {t : aw_S} (h : m_Te_putNumber_J40 σ v0 v1 = some t) (hE : E = (none, xA, t)) : aw_W l M_Te_putNumber G B_Te_putNumber E 40 [(0, .ref v0), (1, .int v1)] [] xA σ 0 0 := by
  unfold m_Te_putNumber_J40 at h
  refine aw_aload_n (pc := 40) (q := 0) dX9_putNumber_40 rfl ?_
  refine aw_bipush (pc := 41) (v := 48) dX9_putNumber_41 (by decide) ?_
  refine aw_iload_n (pc := 43) (q := 1) dX9_putNumber_43 rfl ?_
  refine aw_bipush (pc := 44) (v := 10) dX9_putNumber_44 (by decide) ?_
  refine aw_irem (pc := 46) dX9_putNumber_46 (by decide) ?_
  refine aw_iadd (pc := 47) dX9_putNumber_47 ?_
  obtain ⟨s5, e4, h⟩ := aw_bde h
  refine aw_cV0 (pc := 48) [.int (((48 : Int32) + (v1 - v1 / (10 : Int32) * (10 : Int32))))] (c_Te_put h_v0 e4) yy_Te_put.1 wm_230 yy_Te_put.2.1 yy_Te_put.2.2 h_v0.1 ⟨_, _, rfl⟩ rfl ⟨Nat.le_of_ble_eq_true rfl, Nat.le_of_ble_eq_true rfl⟩ ⟨Nat.zero_le _, Nat.zero_le _⟩ (Nat.le_of_ble_eq_true rfl) dX9_putNumber_48 ?_
  cases h
  subst hE
  exact aw_vret rfl ⟨Nat.zero_le _, Nat.zero_le _⟩ dX9_putNumber_51
set_option maxRecDepth 100000 in
set_option maxHeartbeats 4000000 in
theorem t_Te_putNumber_J20 {l : Launch} {G : aw_G} {E : aw_E} {σ : aw_S} {v0 : Nat} {v1 : Int32} (h_v0 : isTe v0) {t : aw_S} (h : m_Te_putNumber_J20 σ v0 v1 = some t) (hE : E = (none, xA, t)) : aw_W l M_Te_putNumber G B_Te_putNumber E 20 [(0, .ref v0), (1, .int v1)] [] xA σ 0 0 := by
  unfold m_Te_putNumber_J20 at h
  refine aw_iload_n (pc := 20) (q := 1) dX9_putNumber_20 rfl ?_
  refine aw_bipush (pc := 21) (v := 10) dX9_putNumber_21 (by decide) ?_
  refine aw_icmp_lt (pc := 23) (tgt := 40) dX9_putNumber_23 (by decide) (fun c2 => ?_) (fun c2 => ?_)
  · replace h := aw_ifp c2 h
    exact t_Te_putNumber_J40 h_v0 h hE
  · replace h := aw_ifn c2 h
    refine aw_aload_n (pc := 26) (q := 0) dX9_putNumber_26 rfl ?_
    refine aw_bipush (pc := 27) (v := 48) dX9_putNumber_27 (by decide) ?_
    refine aw_iload_n (pc := 29) (q := 1) dX9_putNumber_29 rfl ?_
    refine aw_bipush (pc := 30) (v := 10) dX9_putNumber_30 (by decide) ?_
    refine aw_idiv (pc := 32) dX9_putNumber_32 (by decide) ?_
    refine aw_bipush (pc := 33) (v := 10) dX9_putNumber_33 (by decide) ?_
    refine aw_irem (pc := 35) dX9_putNumber_35 (by decide) ?_
    refine aw_iadd (pc := 36) dX9_putNumber_36 ?_
    obtain ⟨s8, e7, h⟩ := aw_bde h
    refine aw_cV0 (pc := 37) [.int (((48 : Int32) + ((v1 / (10 : Int32)) - (v1 / (10 : Int32)) / (10 : Int32) * (10 : Int32))))] (c_Te_put h_v0 e7) yy_Te_put.1 wm_230 yy_Te_put.2.1 yy_Te_put.2.2 h_v0.1 ⟨_, _, rfl⟩ rfl ⟨Nat.le_of_ble_eq_true rfl, Nat.le_of_ble_eq_true rfl⟩ ⟨Nat.zero_le _, Nat.zero_le _⟩ (Nat.le_of_ble_eq_true rfl) dX9_putNumber_37 ?_
    exact t_Te_putNumber_J40 h_v0 h hE
set_option maxRecDepth 100000 in
set_option maxHeartbeats 4000000 in
theorem t_Te_putNumber {l : Launch} {G : aw_G} {E : aw_E} {σ : aw_S} {o : Nat} {p1 : Int32} (h_o : isTe o) {t : aw_S} (h : m_Te_putNumber σ o p1 = some t) (hE : E = (none, xA, t)) : aw_W l M_Te_putNumber G B_Te_putNumber E 0 [(0, .ref o), (1, .int p1)] [] xA σ 0 0 := by
  unfold m_Te_putNumber at h
  refine aw_iload_n (pc := 0) (q := 1) dX9_putNumber_0 rfl ?_
  refine aw_bipush (pc := 1) (v := 100) dX9_putNumber_1 (by decide) ?_
  refine aw_icmp_lt (pc := 3) (tgt := 20) dX9_putNumber_3 (by decide) (fun c1 => ?_) (fun c1 => ?_)
  · replace h := aw_ifp c1 h
    exact t_Te_putNumber_J20 h_o h hE
  · replace h := aw_ifn c1 h
    refine aw_aload_n (pc := 6) (q := 0) dX9_putNumber_6 rfl ?_
    refine aw_bipush (pc := 7) (v := 48) dX9_putNumber_7 (by decide) ?_
    refine aw_iload_n (pc := 9) (q := 1) dX9_putNumber_9 rfl ?_
    refine aw_bipush (pc := 10) (v := 100) dX9_putNumber_10 (by decide) ?_
    refine aw_idiv (pc := 12) dX9_putNumber_12 (by decide) ?_
    refine aw_bipush (pc := 13) (v := 10) dX9_putNumber_13 (by decide) ?_
    refine aw_irem (pc := 15) dX9_putNumber_15 (by decide) ?_
    refine aw_iadd (pc := 16) dX9_putNumber_16 ?_
    obtain ⟨s11, e10, h⟩ := aw_bde h
    refine aw_cV0 (pc := 17) [.int (((48 : Int32) + ((p1 / (100 : Int32)) - (p1 / (100 : Int32)) / (10 : Int32) * (10 : Int32))))] (c_Te_put h_o e10) yy_Te_put.1 wm_230 yy_Te_put.2.1 yy_Te_put.2.2 h_o.1 ⟨_, _, rfl⟩ rfl ⟨Nat.le_of_ble_eq_true rfl, Nat.le_of_ble_eq_true rfl⟩ ⟨Nat.zero_le _, Nat.zero_le _⟩ (Nat.le_of_ble_eq_true rfl) dX9_putNumber_17 ?_
    exact t_Te_putNumber_J20 h_o h hE
theorem c_Te_putNumber {l : Launch} {G : aw_G} {σ : aw_S} {o : Nat} {p1 : Int32} (h_o : isTe o) {t : aw_S} (h : m_Te_putNumber σ o p1 = some t) : aw_Ct l yX9_putNumber M_Te_putNumber G B_Te_putNumber [.ref o, .int p1] xA σ (none, xA, t) := aw_Ct_of (by decide) rfl (fun h => by cases h) (Nat.le_of_ble_eq_true rfl) (t_Te_putNumber h_o h rfl)
/-! LateMover.writeName(I)V -/
set_option maxRecDepth 100000 in
set_option maxHeartbeats 4000000 in
theorem t_Mo_writeName {l : Launch} {G : aw_G} {E : aw_E} {σ : aw_S} {p1 : Int32} {t : aw_S} (h : m_Mo_writeName σ p1 = some t) (hE : E = (none, xA, t)) : aw_W l M_Mo_writeName G B_Mo_writeName E 0 [(0, .ref 0), (1, .int p1)] [] xA σ 0 0 := by
  unfold m_Mo_writeName at h
  refine aw_aload_n (pc := 0) (q := 0) dX11_writeName_0 rfl ?_
  refine aw_getC (pc := 1) fd_X11_19.r xA_0 rfl dX11_writeName_1 ?_
  refine aw_bipush (pc := 4) (v := 35) dX11_writeName_4 (by decide) ?_
  obtain ⟨s3, e2, h⟩ := aw_bde h
  refine aw_cV0 (pc := 6) [.int ((35 : Int32))] (c_Te_put isTe_5 e2) yy_Te_put.1 wm_1506 yy_Te_put.2.1 yy_Te_put.2.2 xA_5 ⟨_, _, rfl⟩ rfl ⟨Nat.le_of_ble_eq_true rfl, Nat.le_of_ble_eq_true rfl⟩ ⟨Nat.zero_le _, Nat.zero_le _⟩ (Nat.le_of_ble_eq_true rfl) dX11_writeName_6 ?_
  refine aw_aload_n (pc := 9) (q := 0) dX11_writeName_9 rfl ?_
  refine aw_getC (pc := 10) fd_X11_19.r xA_0 rfl dX11_writeName_10 ?_
  refine aw_iload_n (pc := 13) (q := 1) dX11_writeName_13 rfl ?_
  obtain ⟨s6, e5, h⟩ := aw_bde h
  refine aw_cV0 (pc := 14) [.int p1] (c_Te_putNumber isTe_5 e5) yy_Te_putNumber.1 wm_1507 yy_Te_putNumber.2.1 yy_Te_putNumber.2.2 xA_5 ⟨_, _, rfl⟩ rfl ⟨Nat.le_of_ble_eq_true rfl, Nat.le_of_ble_eq_true rfl⟩ ⟨Nat.zero_le _, Nat.zero_le _⟩ (Nat.le_of_ble_eq_true rfl) dX11_writeName_14 ?_
  cases h
  subst hE
  exact aw_vret rfl ⟨Nat.zero_le _, Nat.zero_le _⟩ dX11_writeName_17
theorem c_Mo_writeName {l : Launch} {G : aw_G} {σ : aw_S} {p1 : Int32} {t : aw_S} (h : m_Mo_writeName σ p1 = some t) : aw_Ct l yX11_writeName M_Mo_writeName G B_Mo_writeName [.ref 0, .int p1] xA σ (none, xA, t) := aw_Ct_of (by decide) rfl (fun h => by cases h) (Nat.le_of_ble_eq_true rfl) (t_Mo_writeName h rfl)
/-! LateMover.writeOperand(I)V -/
set_option maxRecDepth 100000 in
set_option maxHeartbeats 4000000 in
theorem t_Mo_writeOperand {l : Launch} {G : aw_G} {E : aw_E} {σ : aw_S} {p1 : Int32} {t : aw_S} (h : m_Mo_writeOperand σ p1 = some t) (hE : E = (none, xA, t)) : aw_W l M_Mo_writeOperand G B_Mo_writeOperand E 0 [(0, .ref 0), (1, .int p1)] [] xA σ 0 0 := by
  unfold m_Mo_writeOperand at h
  refine aw_iload_n (pc := 0) (q := 1) dX11_writeOperand_0 rfl ?_
  refine aw_bipush (pc := 1) (v := 26) dX11_writeOperand_1 (by decide) ?_
  refine aw_icmp_ge (pc := 3) (tgt := 20) dX11_writeOperand_3 (by decide) (fun c1 => ?_) (fun c1 => ?_)
  · replace h := aw_ifp c1 h
    refine aw_aload_n (pc := 20) (q := 0) dX11_writeOperand_20 rfl ?_
    refine aw_getC (pc := 21) fd_X11_19.r xA_0 rfl dX11_writeOperand_21 ?_
    refine aw_iload_n (pc := 24) (q := 1) dX11_writeOperand_24 rfl ?_
    refine aw_bipush (pc := 25) (v := 26) dX11_writeOperand_25 (by decide) ?_
    refine aw_isub (pc := 27) dX11_writeOperand_27 ?_
    obtain ⟨s4, e3, h⟩ := aw_bde h
    refine aw_cV0 (pc := 28) [.int ((p1 - (26 : Int32)))] (c_Te_putNumber isTe_5 e3) yy_Te_putNumber.1 wm_1507 yy_Te_putNumber.2.1 yy_Te_putNumber.2.2 xA_5 ⟨_, _, rfl⟩ rfl ⟨Nat.le_of_ble_eq_true rfl, Nat.le_of_ble_eq_true rfl⟩ ⟨Nat.zero_le _, Nat.zero_le _⟩ (Nat.le_of_ble_eq_true rfl) dX11_writeOperand_28 ?_
    cases h
    subst hE
    exact aw_vret rfl ⟨Nat.zero_le _, Nat.zero_le _⟩ dX11_writeOperand_31
  · replace h := aw_ifn c1 h
    refine aw_aload_n (pc := 6) (q := 0) dX11_writeOperand_6 rfl ?_
    refine aw_getC (pc := 7) fd_X11_19.r xA_0 rfl dX11_writeOperand_7 ?_
    refine aw_bipush (pc := 10) (v := 97) dX11_writeOperand_10 (by decide) ?_
    refine aw_iload_n (pc := 12) (q := 1) dX11_writeOperand_12 rfl ?_
    refine aw_iadd (pc := 13) dX11_writeOperand_13 ?_
    obtain ⟨s7, e6, h⟩ := aw_bde h
    refine aw_cV0 (pc := 14) [.int (((97 : Int32) + p1))] (c_Te_put isTe_5 e6) yy_Te_put.1 wm_1506 yy_Te_put.2.1 yy_Te_put.2.2 xA_5 ⟨_, _, rfl⟩ rfl ⟨Nat.le_of_ble_eq_true rfl, Nat.le_of_ble_eq_true rfl⟩ ⟨Nat.zero_le _, Nat.zero_le _⟩ (Nat.le_of_ble_eq_true rfl) dX11_writeOperand_14 ?_
    refine aw_goto (pc := 17) (tgt := 31) dX11_writeOperand_17 (by decide) ?_
    cases h
    subst hE
    exact aw_vret rfl ⟨Nat.zero_le _, Nat.zero_le _⟩ dX11_writeOperand_31
theorem c_Mo_writeOperand {l : Launch} {G : aw_G} {σ : aw_S} {p1 : Int32} {t : aw_S} (h : m_Mo_writeOperand σ p1 = some t) : aw_Ct l yX11_writeOperand M_Mo_writeOperand G B_Mo_writeOperand [.ref 0, .int p1] xA σ (none, xA, t) := aw_Ct_of (by decide) rfl (fun h => by cases h) (Nat.le_of_ble_eq_true rfl) (t_Mo_writeOperand h rfl)
/-! LateMover.writeExpression(I)V -/
set_option maxRecDepth 100000 in
set_option maxHeartbeats 4000000 in
theorem t_Mo_writeExpression {l : Launch} {G : aw_G} {E : aw_E} {σ : aw_S} {p1 : Int32} {t : aw_S} (h : m_Mo_writeExpression σ p1 = some t) (hE : E = (none, xA, t)) : aw_W l M_Mo_writeExpression G B_Mo_writeExpression E 0 [(0, .ref 0), (1, .int p1)] [] xA σ 0 0 := by
  unfold m_Mo_writeExpression at h
  refine aw_aload_n (pc := 0) (q := 0) dX11_writeExpression_0 rfl ?_
  refine aw_getC (pc := 1) fd_X11_36.r xA_0 rfl dX11_writeExpression_1 ?_
  refine aw_getC (pc := 4) fd_X11_175 xA_24 rfl dX11_writeExpression_4 ?_
  refine aw_iload_n (pc := 7) (q := 1) dX11_writeExpression_7 rfl ?_
  obtain ⟨r1, e2, h⟩ := aw_bde h
  refine aw_cV1 (pc := 8) [.int p1] (c_Ex_isOne isEx_25 e2) yy_Ex_isOne.1 wm_940 yy_Ex_isOne.2.1 yy_Ex_isOne.2.2 xA_25 ⟨_, _, rfl⟩ rfl ⟨Nat.le_of_ble_eq_true rfl, Nat.le_of_ble_eq_true rfl⟩ ⟨Nat.zero_le _, Nat.zero_le _⟩ (Nat.le_of_ble_eq_true rfl) dX11_writeExpression_8 ?_
  refine aw_if_eq (pc := 11) (tgt := 65) dX11_writeExpression_11 (by decide) (fun c3 => ?_) (fun c3 => ?_)
  · replace h := aw_ifp c3 h
    cases h
    subst hE
    exact aw_vret rfl ⟨Nat.zero_le _, Nat.zero_le _⟩ dX11_writeExpression_65
  · replace h := aw_ifn c3 h
    refine aw_aload_n (pc := 14) (q := 0) dX11_writeExpression_14 rfl ?_
    refine aw_aload_n (pc := 15) (q := 0) dX11_writeExpression_15 rfl ?_
    refine aw_getC (pc := 16) fd_X11_36.r xA_0 rfl dX11_writeExpression_16 ?_
    refine aw_getC (pc := 19) fd_X11_175 xA_24 rfl dX11_writeExpression_19 ?_
    refine aw_getC (pc := 22) fd_X11_232 xA_25 rfl dX11_writeExpression_22 ?_
    refine aw_iload_n (pc := 25) (q := 1) dX11_writeExpression_25 rfl ?_
    obtain ⟨g4, h⟩ := aw_gde h
    refine aw_iald (pc := 26) xA_27 g4 dX11_writeExpression_26 ?_
    obtain ⟨s7, e6, h⟩ := aw_bde h
    refine aw_cV0 (pc := 27) [.int ((σ.1 27 p1.toNatClampNeg))] (c_Mo_writeOperand e6) yy_Mo_writeOperand.1 wm_1515 yy_Mo_writeOperand.2.1 yy_Mo_writeOperand.2.2 xA_0 ⟨_, _, rfl⟩ rfl ⟨Nat.le_of_ble_eq_true rfl, Nat.le_of_ble_eq_true rfl⟩ ⟨Nat.zero_le _, Nat.zero_le _⟩ (Nat.le_of_ble_eq_true rfl) dX11_writeExpression_27 ?_
    refine aw_aload_n (pc := 30) (q := 0) dX11_writeExpression_30 rfl ?_
    refine aw_getC (pc := 31) fd_X11_19.r xA_0 rfl dX11_writeExpression_31 ?_
    refine aw_aload_n (pc := 34) (q := 0) dX11_writeExpression_34 rfl ?_
    refine aw_getC (pc := 35) fd_X11_36.r xA_0 rfl dX11_writeExpression_35 ?_
    refine aw_getC (pc := 38) fd_X11_175 xA_24 rfl dX11_writeExpression_38 ?_
    refine aw_getC (pc := 41) fd_X11_229 xA_25 rfl dX11_writeExpression_41 ?_
    refine aw_iload_n (pc := 44) (q := 1) dX11_writeExpression_44 rfl ?_
    obtain ⟨g8, h⟩ := aw_gde h
    refine aw_iald (pc := 45) xA_26 g8 dX11_writeExpression_45 ?_
    obtain ⟨s11, e10, h⟩ := aw_bde h
    refine aw_cV0 (pc := 46) [.int ((s7.1 26 p1.toNatClampNeg))] (c_Te_put isTe_5 e10) yy_Te_put.1 wm_1506 yy_Te_put.2.1 yy_Te_put.2.2 xA_5 ⟨_, _, rfl⟩ rfl ⟨Nat.le_of_ble_eq_true rfl, Nat.le_of_ble_eq_true rfl⟩ ⟨Nat.zero_le _, Nat.zero_le _⟩ (Nat.le_of_ble_eq_true rfl) dX11_writeExpression_46 ?_
    refine aw_aload_n (pc := 49) (q := 0) dX11_writeExpression_49 rfl ?_
    refine aw_aload_n (pc := 50) (q := 0) dX11_writeExpression_50 rfl ?_
    refine aw_getC (pc := 51) fd_X11_36.r xA_0 rfl dX11_writeExpression_51 ?_
    refine aw_getC (pc := 54) fd_X11_175 xA_24 rfl dX11_writeExpression_54 ?_
    refine aw_getC (pc := 57) fd_X11_235 xA_25 rfl dX11_writeExpression_57 ?_
    refine aw_iload_n (pc := 60) (q := 1) dX11_writeExpression_60 rfl ?_
    obtain ⟨g12, h⟩ := aw_gde h
    refine aw_iald (pc := 61) xA_28 g12 dX11_writeExpression_61 ?_
    obtain ⟨s15, e14, h⟩ := aw_bde h
    refine aw_cV0 (pc := 62) [.int ((s11.1 28 p1.toNatClampNeg))] (c_Mo_writeOperand e14) yy_Mo_writeOperand.1 wm_1515 yy_Mo_writeOperand.2.1 yy_Mo_writeOperand.2.2 xA_0 ⟨_, _, rfl⟩ rfl ⟨Nat.le_of_ble_eq_true rfl, Nat.le_of_ble_eq_true rfl⟩ ⟨Nat.zero_le _, Nat.zero_le _⟩ (Nat.le_of_ble_eq_true rfl) dX11_writeExpression_62 ?_
    cases h
    subst hE
    exact aw_vret rfl ⟨Nat.zero_le _, Nat.zero_le _⟩ dX11_writeExpression_65
theorem c_Mo_writeExpression {l : Launch} {G : aw_G} {σ : aw_S} {p1 : Int32} {t : aw_S} (h : m_Mo_writeExpression σ p1 = some t) : aw_Ct l yX11_writeExpression M_Mo_writeExpression G B_Mo_writeExpression [.ref 0, .int p1] xA σ (none, xA, t) := aw_Ct_of (by decide) rfl (fun h => by cases h) (Nat.le_of_ble_eq_true rfl) (t_Mo_writeExpression h rfl)
/-! LateMover.writeAssignment(IZ)V -/
set_option maxRecDepth 100000 in
set_option maxHeartbeats 4000000 in
theorem t_Mo_writeAssignment {l : Launch} {G : aw_G} {E : aw_E} {σ : aw_S} {p1 : Int32} {p2 : Int32} {t : aw_S} (h : m_Mo_writeAssignment σ p1 p2 = some t) (hE : E = (none, xA, t)) : aw_W l M_Mo_writeAssignment G B_Mo_writeAssignment E 0 [(0, .ref 0), (1, .int p1), (2, .int p2)] [] xA σ 0 0 := by
  unfold m_Mo_writeAssignment at h
  refine aw_aload_n (pc := 0) (q := 0) dX11_writeAssignment_0 rfl ?_
  refine aw_getC (pc := 1) fd_X11_19.r xA_0 rfl dX11_writeAssignment_1 ?_
  refine aw_bipush (pc := 4) (v := 97) dX11_writeAssignment_4 (by decide) ?_
  refine aw_aload_n (pc := 6) (q := 0) dX11_writeAssignment_6 rfl ?_
  refine aw_getC (pc := 7) fd_X11_36.r xA_0 rfl dX11_writeAssignment_7 ?_
  refine aw_getC (pc := 10) fd_X11_211 xA_24 rfl dX11_writeAssignment_10 ?_
  refine aw_iload_n (pc := 13) (q := 1) dX11_writeAssignment_13 rfl ?_
  obtain ⟨g1, h⟩ := aw_gde h
  refine aw_iald (pc := 14) xA_31 g1 dX11_writeAssignment_14 ?_
  refine aw_iadd (pc := 15) dX11_writeAssignment_15 ?_
  obtain ⟨s4, e3, h⟩ := aw_bde h
  refine aw_cV0 (pc := 16) [.int (((97 : Int32) + (σ.1 31 p1.toNatClampNeg)))] (c_Te_put isTe_5 e3) yy_Te_put.1 wm_1506 yy_Te_put.2.1 yy_Te_put.2.2 xA_5 ⟨_, _, rfl⟩ rfl ⟨Nat.le_of_ble_eq_true rfl, Nat.le_of_ble_eq_true rfl⟩ ⟨Nat.zero_le _, Nat.zero_le _⟩ (Nat.le_of_ble_eq_true rfl) dX11_writeAssignment_16 ?_
  refine aw_aload_n (pc := 19) (q := 0) dX11_writeAssignment_19 rfl ?_
  refine aw_getC (pc := 20) fd_X11_19.r xA_0 rfl dX11_writeAssignment_20 ?_
  refine aw_bipush (pc := 23) (v := 61) dX11_writeAssignment_23 (by decide) ?_
  obtain ⟨s7, e6, h⟩ := aw_bde h
  refine aw_cV0 (pc := 25) [.int ((61 : Int32))] (c_Te_put isTe_5 e6) yy_Te_put.1 wm_1506 yy_Te_put.2.1 yy_Te_put.2.2 xA_5 ⟨_, _, rfl⟩ rfl ⟨Nat.le_of_ble_eq_true rfl, Nat.le_of_ble_eq_true rfl⟩ ⟨Nat.zero_le _, Nat.zero_le _⟩ (Nat.le_of_ble_eq_true rfl) dX11_writeAssignment_25 ?_
  refine aw_aload_n (pc := 28) (q := 0) dX11_writeAssignment_28 rfl ?_
  refine aw_getC (pc := 29) fd_X11_36.r xA_0 rfl dX11_writeAssignment_29 ?_
  refine aw_getC (pc := 32) fd_X11_202 xA_24 rfl dX11_writeAssignment_32 ?_
  refine aw_iload_n (pc := 35) (q := 1) dX11_writeAssignment_35 rfl ?_
  obtain ⟨g8, h⟩ := aw_gde h
  refine aw_iald (pc := 36) xA_29 g8 dX11_writeAssignment_36 ?_
  refine aw_iconst (pc := 37) (v := 1) dX11_writeAssignment_37 (by decide) ?_
  refine aw_icmp_ne (pc := 38) (tgt := 57) dX11_writeAssignment_38 (by decide) (fun c9 => ?_) (fun c9 => ?_)
  · replace h := aw_ifn c9 h
    refine aw_iload_n (pc := 57) (q := 2) dX11_writeAssignment_57 rfl ?_
    refine aw_if_eq (pc := 58) (tgt := 77) dX11_writeAssignment_58 (by decide) (fun c10 => ?_) (fun c10 => ?_)
    · replace h := aw_ifp c10 h
      refine aw_aload_n (pc := 77) (q := 0) dX11_writeAssignment_77 rfl ?_
      refine aw_aload_n (pc := 78) (q := 0) dX11_writeAssignment_78 rfl ?_
      refine aw_getC (pc := 79) fd_X11_36.r xA_0 rfl dX11_writeAssignment_79 ?_
      refine aw_getC (pc := 82) fd_X11_208 xA_24 rfl dX11_writeAssignment_82 ?_
      refine aw_iload_n (pc := 85) (q := 1) dX11_writeAssignment_85 rfl ?_
      obtain ⟨g11, h⟩ := aw_gde h
      refine aw_iald (pc := 86) xA_33 g11 dX11_writeAssignment_86 ?_
      obtain ⟨s14, e13, h⟩ := aw_bde h
      refine aw_cV0 (pc := 87) [.int ((s7.1 33 p1.toNatClampNeg))] (c_Mo_writeExpression e13) yy_Mo_writeExpression.1 wm_1511 yy_Mo_writeExpression.2.1 yy_Mo_writeExpression.2.2 xA_0 ⟨_, _, rfl⟩ rfl ⟨Nat.le_of_ble_eq_true rfl, Nat.le_of_ble_eq_true rfl⟩ ⟨Nat.zero_le _, Nat.zero_le _⟩ (Nat.le_of_ble_eq_true rfl) dX11_writeAssignment_87 ?_
      cases h
      subst hE
      exact aw_vret rfl ⟨Nat.zero_le _, Nat.zero_le _⟩ dX11_writeAssignment_90
    · replace h := aw_ifn c10 h
      refine aw_aload_n (pc := 61) (q := 0) dX11_writeAssignment_61 rfl ?_
      refine aw_aload_n (pc := 62) (q := 0) dX11_writeAssignment_62 rfl ?_
      refine aw_getC (pc := 63) fd_X11_36.r xA_0 rfl dX11_writeAssignment_63 ?_
      refine aw_getC (pc := 66) fd_X11_208 xA_24 rfl dX11_writeAssignment_66 ?_
      refine aw_iload_n (pc := 69) (q := 1) dX11_writeAssignment_69 rfl ?_
      obtain ⟨g15, h⟩ := aw_gde h
      refine aw_iald (pc := 70) xA_33 g15 dX11_writeAssignment_70 ?_
      obtain ⟨s18, e17, h⟩ := aw_bde h
      refine aw_cV0 (pc := 71) [.int ((s7.1 33 p1.toNatClampNeg))] (c_Mo_writeName e17) yy_Mo_writeName.1 wm_1502 yy_Mo_writeName.2.1 yy_Mo_writeName.2.2 xA_0 ⟨_, _, rfl⟩ rfl ⟨Nat.le_of_ble_eq_true rfl, Nat.le_of_ble_eq_true rfl⟩ ⟨Nat.zero_le _, Nat.zero_le _⟩ (Nat.le_of_ble_eq_true rfl) dX11_writeAssignment_71 ?_
      refine aw_goto (pc := 74) (tgt := 90) dX11_writeAssignment_74 (by decide) ?_
      cases h
      subst hE
      exact aw_vret rfl ⟨Nat.zero_le _, Nat.zero_le _⟩ dX11_writeAssignment_90
  · replace h := aw_ifp c9 h
    refine aw_aload_n (pc := 41) (q := 0) dX11_writeAssignment_41 rfl ?_
    refine aw_aload_n (pc := 42) (q := 0) dX11_writeAssignment_42 rfl ?_
    refine aw_getC (pc := 43) fd_X11_36.r xA_0 rfl dX11_writeAssignment_43 ?_
    refine aw_getC (pc := 46) fd_X11_410 xA_24 rfl dX11_writeAssignment_46 ?_
    refine aw_iload_n (pc := 49) (q := 1) dX11_writeAssignment_49 rfl ?_
    obtain ⟨g19, h⟩ := aw_gde h
    refine aw_iald (pc := 50) xA_32 g19 dX11_writeAssignment_50 ?_
    obtain ⟨s22, e21, h⟩ := aw_bde h
    refine aw_cV0 (pc := 51) [.int ((s7.1 32 p1.toNatClampNeg))] (c_Mo_writeOperand e21) yy_Mo_writeOperand.1 wm_1515 yy_Mo_writeOperand.2.1 yy_Mo_writeOperand.2.2 xA_0 ⟨_, _, rfl⟩ rfl ⟨Nat.le_of_ble_eq_true rfl, Nat.le_of_ble_eq_true rfl⟩ ⟨Nat.zero_le _, Nat.zero_le _⟩ (Nat.le_of_ble_eq_true rfl) dX11_writeAssignment_51 ?_
    refine aw_goto (pc := 54) (tgt := 90) dX11_writeAssignment_54 (by decide) ?_
    cases h
    subst hE
    exact aw_vret rfl ⟨Nat.zero_le _, Nat.zero_le _⟩ dX11_writeAssignment_90
theorem c_Mo_writeAssignment {l : Launch} {G : aw_G} {σ : aw_S} {p1 : Int32} {p2 : Int32} {t : aw_S} (h : m_Mo_writeAssignment σ p1 p2 = some t) : aw_Ct l yX11_writeAssignment M_Mo_writeAssignment G B_Mo_writeAssignment [.ref 0, .int p1, .int p2] xA σ (none, xA, t) := aw_Ct_of (by decide) rfl (fun h => by cases h) (Nat.le_of_ble_eq_true rfl) (t_Mo_writeAssignment h rfl)
/-! LateMover.writeEnd(I)V -/
set_option maxRecDepth 100000 in
set_option maxHeartbeats 4000000 in
theorem t_Mo_writeEnd {l : Launch} {G : aw_G} {E : aw_E} {σ : aw_S} {p1 : Int32} {t : aw_S} (h : m_Mo_writeEnd σ p1 = some t) (hE : E = (none, xA, t)) : aw_W l M_Mo_writeEnd G B_Mo_writeEnd E 0 [(0, .ref 0), (1, .int p1)] [] xA σ 0 0 := by
  unfold m_Mo_writeEnd at h
  refine aw_aload_n (pc := 0) (q := 0) dX11_writeEnd_0 rfl ?_
  refine aw_getC (pc := 1) fd_X11_36.r xA_0 rfl dX11_writeEnd_1 ?_
  refine aw_getC (pc := 4) fd_X11_202 xA_24 rfl dX11_writeEnd_4 ?_
  refine aw_iload_n (pc := 7) (q := 1) dX11_writeEnd_7 rfl ?_
  obtain ⟨g1, h⟩ := aw_gde h
  refine aw_iald (pc := 8) xA_29 g1 dX11_writeEnd_8 ?_
  refine aw_nmI (fun x2 e_x2 => ?_)
  replace h := aw_lte h x2 e_x2
  refine aw_istore_n (pc := 9) [(2, .int x2), (0, .ref 0), (1, .int p1)] dX11_writeEnd_9 (by decide) rfl ?_
  refine aw_iload_n (pc := 10) (q := 0) dX11_writeEnd_10 rfl ?_
  refine aw_bipush (pc := 11) (v := 6) dX11_writeEnd_11 (by decide) ?_
  refine aw_icmp_ne (pc := 13) (tgt := 28) dX11_writeEnd_13 (by decide) (fun c3 => ?_) (fun c3 => ?_)
  · replace h := aw_ifn c3 h
    refine aw_iload_n (pc := 28) (q := 0) dX11_writeEnd_28 rfl ?_
    refine aw_iconst (pc := 29) (v := 4) dX11_writeEnd_29 (by decide) ?_
    refine aw_icmp_ne (pc := 30) (tgt := 61) dX11_writeEnd_30 (by decide) (fun c4 => ?_) (fun c4 => ?_)
    · replace h := aw_ifn c4 h
      refine aw_aload_n (pc := 61) (q := 1) dX11_writeEnd_61 rfl ?_
      refine aw_getC (pc := 62) fd_X11_19.r xA_0 rfl dX11_writeEnd_62 ?_
      refine aw_bipush (pc := 65) (v := 63) dX11_writeEnd_65 (by decide) ?_
      obtain ⟨s7, e6, h⟩ := aw_bde h
      refine aw_cV0 (pc := 67) [.int ((63 : Int32))] (c_Te_put isTe_5 e6) yy_Te_put.1 wm_1506 yy_Te_put.2.1 yy_Te_put.2.2 xA_5 ⟨_, _, rfl⟩ rfl ⟨Nat.le_of_ble_eq_true rfl, Nat.le_of_ble_eq_true rfl⟩ ⟨Nat.zero_le _, Nat.zero_le _⟩ (Nat.le_of_ble_eq_true rfl) dX11_writeEnd_67 ?_
      refine aw_aload_n (pc := 70) (q := 1) dX11_writeEnd_70 rfl ?_
      refine aw_getC (pc := 71) fd_X11_19.r xA_0 rfl dX11_writeEnd_71 ?_
      refine aw_bipush (pc := 74) (v := 97) dX11_writeEnd_74 (by decide) ?_
      refine aw_aload_n (pc := 76) (q := 1) dX11_writeEnd_76 rfl ?_
      refine aw_getC (pc := 77) fd_X11_36.r xA_0 rfl dX11_writeEnd_77 ?_
      refine aw_getC (pc := 80) fd_X11_211 xA_24 rfl dX11_writeEnd_80 ?_
      refine aw_iload_n (pc := 83) (q := 2) dX11_writeEnd_83 rfl ?_
      obtain ⟨g8, h⟩ := aw_gde h
      refine aw_iald (pc := 84) xA_31 g8 dX11_writeEnd_84 ?_
      refine aw_iadd (pc := 85) dX11_writeEnd_85 ?_
      obtain ⟨s11, e10, h⟩ := aw_bde h
      refine aw_cV0 (pc := 86) [.int (((97 : Int32) + (s7.1 31 p1.toNatClampNeg)))] (c_Te_put isTe_5 e10) yy_Te_put.1 wm_1506 yy_Te_put.2.1 yy_Te_put.2.2 xA_5 ⟨_, _, rfl⟩ rfl ⟨Nat.le_of_ble_eq_true rfl, Nat.le_of_ble_eq_true rfl⟩ ⟨Nat.zero_le _, Nat.zero_le _⟩ (Nat.le_of_ble_eq_true rfl) dX11_writeEnd_86 ?_
      refine aw_aload_n (pc := 89) (q := 1) dX11_writeEnd_89 rfl ?_
      refine aw_getC (pc := 90) fd_X11_19.r xA_0 rfl dX11_writeEnd_90 ?_
      refine aw_aload_n (pc := 93) (q := 1) dX11_writeEnd_93 rfl ?_
      refine aw_getC (pc := 94) fd_X11_36.r xA_0 rfl dX11_writeEnd_94 ?_
      refine aw_getC (pc := 97) fd_X11_419 xA_24 rfl dX11_writeEnd_97 ?_
      refine aw_iload_n (pc := 100) (q := 2) dX11_writeEnd_100 rfl ?_
      obtain ⟨g12, h⟩ := aw_gde h
      refine aw_iald (pc := 101) xA_34 g12 dX11_writeEnd_101 ?_
      obtain ⟨s15, e14, h⟩ := aw_bde h
      refine aw_cV0 (pc := 102) [.int ((s11.1 34 p1.toNatClampNeg))] (c_Te_putNumber isTe_5 e14) yy_Te_putNumber.1 wm_1507 yy_Te_putNumber.2.1 yy_Te_putNumber.2.2 xA_5 ⟨_, _, rfl⟩ rfl ⟨Nat.le_of_ble_eq_true rfl, Nat.le_of_ble_eq_true rfl⟩ ⟨Nat.zero_le _, Nat.zero_le _⟩ (Nat.le_of_ble_eq_true rfl) dX11_writeEnd_102 ?_
      refine aw_aload_n (pc := 105) (q := 1) dX11_writeEnd_105 rfl ?_
      refine aw_getC (pc := 106) fd_X11_19.r xA_0 rfl dX11_writeEnd_106 ?_
      refine aw_bipush (pc := 109) (v := 44) dX11_writeEnd_109 (by decide) ?_
      obtain ⟨s18, e17, h⟩ := aw_bde h
      refine aw_cV0 (pc := 111) [.int ((44 : Int32))] (c_Te_put isTe_5 e17) yy_Te_put.1 wm_1506 yy_Te_put.2.1 yy_Te_put.2.2 xA_5 ⟨_, _, rfl⟩ rfl ⟨Nat.le_of_ble_eq_true rfl, Nat.le_of_ble_eq_true rfl⟩ ⟨Nat.zero_le _, Nat.zero_le _⟩ (Nat.le_of_ble_eq_true rfl) dX11_writeEnd_111 ?_
      refine aw_aload_n (pc := 114) (q := 1) dX11_writeEnd_114 rfl ?_
      refine aw_getC (pc := 115) fd_X11_19.r xA_0 rfl dX11_writeEnd_115 ?_
      refine aw_aload_n (pc := 118) (q := 1) dX11_writeEnd_118 rfl ?_
      refine aw_getC (pc := 119) fd_X11_36.r xA_0 rfl dX11_writeEnd_119 ?_
      refine aw_getC (pc := 122) fd_X11_425 xA_24 rfl dX11_writeEnd_122 ?_
      refine aw_iload_n (pc := 125) (q := 2) dX11_writeEnd_125 rfl ?_
      obtain ⟨g19, h⟩ := aw_gde h
      refine aw_iald (pc := 126) xA_35 g19 dX11_writeEnd_126 ?_
      obtain ⟨s22, e21, h⟩ := aw_bde h
      refine aw_cV0 (pc := 127) [.int ((s18.1 35 p1.toNatClampNeg))] (c_Te_putNumber isTe_5 e21) yy_Te_putNumber.1 wm_1507 yy_Te_putNumber.2.1 yy_Te_putNumber.2.2 xA_5 ⟨_, _, rfl⟩ rfl ⟨Nat.le_of_ble_eq_true rfl, Nat.le_of_ble_eq_true rfl⟩ ⟨Nat.zero_le _, Nat.zero_le _⟩ (Nat.le_of_ble_eq_true rfl) dX11_writeEnd_127 ?_
      cases h
      subst hE
      exact aw_vret rfl ⟨Nat.zero_le _, Nat.zero_le _⟩ dX11_writeEnd_130
    · replace h := aw_ifp c4 h
      refine aw_aload_n (pc := 33) (q := 1) dX11_writeEnd_33 rfl ?_
      refine aw_getC (pc := 34) fd_X11_19.r xA_0 rfl dX11_writeEnd_34 ?_
      refine aw_bipush (pc := 37) (v := 62) dX11_writeEnd_37 (by decide) ?_
      obtain ⟨s25, e24, h⟩ := aw_bde h
      refine aw_cV0 (pc := 39) [.int ((62 : Int32))] (c_Te_put isTe_5 e24) yy_Te_put.1 wm_1506 yy_Te_put.2.1 yy_Te_put.2.2 xA_5 ⟨_, _, rfl⟩ rfl ⟨Nat.le_of_ble_eq_true rfl, Nat.le_of_ble_eq_true rfl⟩ ⟨Nat.zero_le _, Nat.zero_le _⟩ (Nat.le_of_ble_eq_true rfl) dX11_writeEnd_39 ?_
      refine aw_aload_n (pc := 42) (q := 1) dX11_writeEnd_42 rfl ?_
      refine aw_getC (pc := 43) fd_X11_19.r xA_0 rfl dX11_writeEnd_43 ?_
      refine aw_aload_n (pc := 46) (q := 1) dX11_writeEnd_46 rfl ?_
      refine aw_getC (pc := 47) fd_X11_36.r xA_0 rfl dX11_writeEnd_47 ?_
      refine aw_getC (pc := 50) fd_X11_419 xA_24 rfl dX11_writeEnd_50 ?_
      refine aw_iload_n (pc := 53) (q := 2) dX11_writeEnd_53 rfl ?_
      obtain ⟨g26, h⟩ := aw_gde h
      refine aw_iald (pc := 54) xA_34 g26 dX11_writeEnd_54 ?_
      obtain ⟨s29, e28, h⟩ := aw_bde h
      refine aw_cV0 (pc := 55) [.int ((s25.1 34 p1.toNatClampNeg))] (c_Te_putNumber isTe_5 e28) yy_Te_putNumber.1 wm_1507 yy_Te_putNumber.2.1 yy_Te_putNumber.2.2 xA_5 ⟨_, _, rfl⟩ rfl ⟨Nat.le_of_ble_eq_true rfl, Nat.le_of_ble_eq_true rfl⟩ ⟨Nat.zero_le _, Nat.zero_le _⟩ (Nat.le_of_ble_eq_true rfl) dX11_writeEnd_55 ?_
      refine aw_goto (pc := 58) (tgt := 130) dX11_writeEnd_58 (by decide) ?_
      cases h
      subst hE
      exact aw_vret rfl ⟨Nat.zero_le _, Nat.zero_le _⟩ dX11_writeEnd_130
  · replace h := aw_ifp c3 h
    refine aw_aload_n (pc := 16) (q := 1) dX11_writeEnd_16 rfl ?_
    refine aw_getC (pc := 17) fd_X11_19.r xA_0 rfl dX11_writeEnd_17 ?_
    refine aw_bipush (pc := 20) (v := 46) dX11_writeEnd_20 (by decide) ?_
    obtain ⟨s32, e31, h⟩ := aw_bde h
    refine aw_cV0 (pc := 22) [.int ((46 : Int32))] (c_Te_put isTe_5 e31) yy_Te_put.1 wm_1506 yy_Te_put.2.1 yy_Te_put.2.2 xA_5 ⟨_, _, rfl⟩ rfl ⟨Nat.le_of_ble_eq_true rfl, Nat.le_of_ble_eq_true rfl⟩ ⟨Nat.zero_le _, Nat.zero_le _⟩ (Nat.le_of_ble_eq_true rfl) dX11_writeEnd_22 ?_
    refine aw_goto (pc := 25) (tgt := 130) dX11_writeEnd_25 (by decide) ?_
    cases h
    subst hE
    exact aw_vret rfl ⟨Nat.zero_le _, Nat.zero_le _⟩ dX11_writeEnd_130
theorem c_Mo_writeEnd {l : Launch} {G : aw_G} {σ : aw_S} {p1 : Int32} {t : aw_S} (h : m_Mo_writeEnd σ p1 = some t) : aw_Ct l yX11_writeEnd M_Mo_writeEnd G B_Mo_writeEnd [.ref 0, .int p1] xA σ (none, xA, t) := aw_Ct_of (by decide) rfl (fun h => by cases h) (Nat.le_of_ble_eq_true rfl) (t_Mo_writeEnd h rfl)

/-! LateMover$Facts.findSound(LLateMover$Graph;)V -/
def z_Fa_findSound_X2 (l : Launch) (G : aw_G) (E : aw_E) (s : Int32 × aw_S) : Prop := aw_W l M_Fa_findSound G B_Fa_findSound E 2 [(0, .ref 41), (1, .ref 24), (2, .int s.1)] [] xA s.2 0 0
def z_Fa_findSound_Y2 (l : Launch) (G : aw_G) (E : aw_E) (x : (aw_S)) : Prop := aw_W l M_Fa_findSound G B_Fa_findSound E 43 [(0, .ref 41), (1, .ref 24)] [] xA x 0 0
set_option maxRecDepth 100000 in
set_option maxHeartbeats 4000000 in
theorem t_Fa_findSound_J28 {l : Launch} {G : aw_G} {E : aw_E} {σ : aw_S} {v2 : Int32} {k1 : Int32} {k2 : Int32} {t : (aw_S) ⊕ (Int32 × aw_S)} (h : m_Fa_findSound_J28 σ v2 k1 k2 = some t) (hz : Sum.elim (z_Fa_findSound_Y2 l G E) (z_Fa_findSound_X2 l G E) t) : aw_W l M_Fa_findSound G B_Fa_findSound E 28 [(0, .ref 41), (1, .ref 24), (2, .int v2)] [.int k2, .int k1, .ref 42] xA σ 0 0 := by
  unfold m_Fa_findSound_J28 at h
  obtain ⟨r5, e6, h⟩ := aw_bde h
  refine aw_cN1 (pc := 28) [.int k2] (c_Mo_oneIf e6) yy_Mo_oneIf.1 nm_X1_141 yy_Mo_oneIf.2 rfl ⟨Nat.le_of_ble_eq_true rfl, Nat.le_of_ble_eq_true rfl⟩ ⟨Nat.zero_le _, Nat.zero_le _⟩ (Nat.le_of_ble_eq_true rfl) dX1_findSound_28 ?_
  refine aw_iconst (pc := 31) (v := 1) dX1_findSound_31 (by decide) ?_
  refine aw_iconst (pc := 32) (v := 0) dX1_findSound_32 (by decide) ?_
  refine aw_iconst (pc := 33) (v := 1) dX1_findSound_33 (by decide) ?_
  obtain ⟨s9, e8, h⟩ := aw_bde h
  refine aw_cV0 (pc := 34) [.int k1, .int r5, .int ((1 : Int32)), .int ((0 : Int32)), .int ((1 : Int32))] (c_Fl_tell e8) yy_Fl_tell.1 wm_491 yy_Fl_tell.2.1 yy_Fl_tell.2.2 xA_42 ⟨_, _, rfl⟩ rfl ⟨Nat.le_of_ble_eq_true rfl, Nat.le_of_ble_eq_true rfl⟩ ⟨Nat.zero_le _, Nat.zero_le _⟩ (Nat.le_of_ble_eq_true rfl) dX1_findSound_34 ?_
  obtain ⟨x10, e_x10⟩ : ∃ z, z = (v2 + (1 : Int32)) := ⟨_, rfl⟩
  replace h := aw_lte h x10 e_x10
  refine aw_iinc (pc := 37) (q := 2) (v := x10) [(2, .int x10), (0, .ref 41), (1, .ref 24)] dX1_findSound_37 rfl e_x10.symm (by decide) rfl ?_
  refine aw_goto (pc := 40) (tgt := 2) dX1_findSound_40 (by decide) ?_
  refine aw_sub [1, 2, 0] rfl ?_
  cases h
  exact hz
set_option maxRecDepth 100000 in
set_option maxHeartbeats 4000000 in
theorem t_Fa_findSound_B2 {l : Launch} {G : aw_G} {E : aw_E} {σ : aw_S} {v2 : Int32} {t : (aw_S) ⊕ (Int32 × aw_S)} (h : m_Fa_findSound_B2 σ v2 = some t) (hz : Sum.elim (z_Fa_findSound_Y2 l G E) (z_Fa_findSound_X2 l G E) t) : aw_W l M_Fa_findSound G B_Fa_findSound E 2 [(0, .ref 41), (1, .ref 24), (2, .int v2)] [] xA σ 0 0 := by
  unfold m_Fa_findSound_B2 at h
  refine aw_iload_n (pc := 2) (q := 2) dX1_findSound_2 rfl ?_
  refine aw_aload_n (pc := 3) (q := 1) dX1_findSound_3 rfl ?_
  refine aw_getI (pc := 4) fd_X1_67.r xA_24 rfl dX1_findSound_4 ?_
  refine aw_icmp_ge (pc := 7) (tgt := 43) dX1_findSound_7 (by decide) (fun c1 => ?_) (fun c1 => ?_)
  · replace h := aw_ifp c1 h
    refine aw_sub [0, 1] rfl ?_
    cases h
    exact hz
  · replace h := aw_ifn c1 h
    refine aw_aload_n (pc := 10) (q := 0) dX1_findSound_10 rfl ?_
    refine aw_getC (pc := 11) fd_X1_12.r xA_41 rfl dX1_findSound_11 ?_
    refine aw_iload_n (pc := 14) (q := 2) dX1_findSound_14 rfl ?_
    refine aw_aload_n (pc := 15) (q := 1) dX1_findSound_15 rfl ?_
    refine aw_iload_n (pc := 16) (q := 2) dX1_findSound_16 rfl ?_
    obtain ⟨r2, e3, h⟩ := aw_bde h
    refine aw_cV1 (pc := 17) [.int v2] (c_Gr_edgesFrom e3) yy_Gr_edgesFrom.1 wm_490 yy_Gr_edgesFrom.2.1 yy_Gr_edgesFrom.2.2 xA_24 ⟨_, _, rfl⟩ rfl ⟨Nat.le_of_ble_eq_true rfl, Nat.le_of_ble_eq_true rfl⟩ ⟨Nat.zero_le _, Nat.zero_le _⟩ (Nat.le_of_ble_eq_true rfl) dX1_findSound_17 ?_
    refine aw_if_ne (pc := 20) (tgt := 27) dX1_findSound_20 (by decide) (fun c4 => ?_) (fun c4 => ?_)
    · replace h := aw_ifn c4 h
      refine aw_iconst (pc := 27) (v := 0) dX1_findSound_27 (by decide) ?_
      exact t_Fa_findSound_J28 h hz
    · replace h := aw_ifp c4 h
      refine aw_iconst (pc := 23) (v := 1) dX1_findSound_23 (by decide) ?_
      refine aw_goto (pc := 24) (tgt := 28) dX1_findSound_24 (by decide) ?_
      exact t_Fa_findSound_J28 h hz
set_option maxRecDepth 100000 in
set_option maxHeartbeats 4000000 in
theorem t_Fa_findSound_J80 {l : Launch} {G : aw_G} {E : aw_E} {σ : aw_S} {k1 : Int32} {t : aw_S} (h : m_Fa_findSound_J80 σ k1 = some t) (hE : E = (none, xA, t)) : aw_W l M_Fa_findSound G B_Fa_findSound E 80 [] [.int k1, .ref 41] xA σ 0 0 := by
  unfold m_Fa_findSound_J80 at h
  obtain ⟨g21, h⟩ := aw_gde h
  refine aw_putI (pc := 80) fd_X1_157 xA_41 rfl (fun _ => aw_nz g21) (fun _ => aw_fz g21) dX1_findSound_80 ?_
  refine aw_nmS (fun s20 e_s20 => ?_)
  replace h := aw_lte h s20 e_s20
  cases h
  subst hE
  exact aw_vret rfl ⟨Nat.zero_le _, Nat.zero_le _⟩ dX1_findSound_83
set_option maxRecDepth 100000 in
set_option maxHeartbeats 4000000 in
theorem t_Fa_findSound {l : Launch} {G : aw_G} {E : aw_E} {σ : aw_S} {t : aw_S} (h : m_Fa_findSound σ = some t) (hE : E = (none, xA, t)) : aw_W l M_Fa_findSound G B_Fa_findSound E 0 [(0, .ref 41), (1, .ref 24)] [] xA σ 0 0 := by
  unfold m_Fa_findSound at h
  refine aw_iconst (pc := 0) (v := 0) dX1_findSound_0 (by decide) ?_
  refine aw_istore_n (pc := 1) [(2, .int ((0 : Int32))), (0, .ref 41), (1, .ref 24)] dX1_findSound_1 (by decide) rfl ?_
  obtain ⟨x11, hl12, h⟩ := aw_bde h
  have K13 : z_Fa_findSound_Y2 l G E x11 := by
    show aw_W l M_Fa_findSound G B_Fa_findSound E 43 [(0, .ref 41), (1, .ref 24)] [] xA x11 0 0
    refine aw_aload_n (pc := 43) (q := 0) dX1_findSound_43 rfl ?_
    refine aw_getC (pc := 44) fd_X1_12.r xA_41 rfl dX1_findSound_44 ?_
    refine aw_aload_n (pc := 47) (q := 1) dX1_findSound_47 rfl ?_
    refine aw_aload_n (pc := 48) (q := 0) dX1_findSound_48 rfl ?_
    refine aw_getC (pc := 49) fd_X1_49.r xA_41 rfl dX1_findSound_49 ?_
    refine aw_iconst (pc := 52) (v := 1) dX1_findSound_52 (by decide) ?_
    refine aw_iconst (pc := 53) (v := 1) dX1_findSound_53 (by decide) ?_
    refine aw_iconst (pc := 54) (v := 0) dX1_findSound_54 (by decide) ?_
    obtain ⟨s16, e15, h⟩ := aw_bde h
    refine aw_cV0 (pc := 55) [.ref 24, .ref 57, .int ((1 : Int32)), .int ((1 : Int32)), .int ((0 : Int32))] (c_Fl_solve xA_57 e15) yy_Fl_solve.1 wm_495 yy_Fl_solve.2.1 yy_Fl_solve.2.2 xA_42 ⟨_, _, rfl⟩ rfl ⟨Nat.le_of_ble_eq_true rfl, Nat.le_of_ble_eq_true rfl⟩ ⟨Nat.zero_le _, Nat.zero_le _⟩ (Nat.le_of_ble_eq_true rfl) dX1_findSound_55 ?_
    refine aw_aload_n (pc := 58) (q := 0) dX1_findSound_58 rfl ?_
    refine aw_aload_n (pc := 59) (q := 1) dX1_findSound_59 rfl ?_
    refine aw_aload_n (pc := 60) (q := 0) dX1_findSound_60 rfl ?_
    refine aw_getC (pc := 61) fd_X1_49.r xA_41 rfl dX1_findSound_61 ?_
    refine aw_iconst (pc := 64) (v := 1) dX1_findSound_64 (by decide) ?_
    obtain ⟨r17, e18, h⟩ := aw_bde h
    refine aw_cV1 (pc := 65) [.ref 57, .int ((1 : Int32))] (c_Gr_nodesWith xA_57 e18) yy_Gr_nodesWith.1 wm_527 yy_Gr_nodesWith.2.1 yy_Gr_nodesWith.2.2 xA_24 ⟨_, _, rfl⟩ rfl ⟨Nat.le_of_ble_eq_true rfl, Nat.le_of_ble_eq_true rfl⟩ ⟨Nat.zero_le _, Nat.zero_le _⟩ (Nat.le_of_ble_eq_true rfl) dX1_findSound_65 ?_
    refine aw_aload_n (pc := 68) (q := 1) dX1_findSound_68 rfl ?_
    refine aw_getI (pc := 69) fd_X1_67.r xA_24 rfl dX1_findSound_69 ?_
    refine aw_icmp_ne (pc := 72) (tgt := 79) dX1_findSound_72 (by decide) (fun c19 => ?_) (fun c19 => ?_)
    · replace h := aw_ifn c19 h
      refine aw_iconst (pc := 79) (v := 0) dX1_findSound_79 (by decide) ?_
      refine aw_sub [] rfl ?_
      exact t_Fa_findSound_J80 h hE
    · replace h := aw_ifp c19 h
      refine aw_iconst (pc := 75) (v := 1) dX1_findSound_75 (by decide) ?_
      refine aw_goto (pc := 76) (tgt := 80) dX1_findSound_76 (by decide) ?_
      refine aw_sub [] rfl ?_
      exact t_Fa_findSound_J80 h hE
  refine aw_sub [1, 2, 0] rfl ?_
  show z_Fa_findSound_X2 l G E (((0 : Int32), σ))
  exact aw_lp_X (Xp := z_Fa_findSound_X2 l G E) (Y := z_Fa_findSound_Y2 l G E) hl12 K13 (fun s t hf hz => t_Fa_findSound_B2 hf hz)
theorem c_Fa_findSound {l : Launch} {G : aw_G} {σ : aw_S} {t : aw_S} (h : m_Fa_findSound σ = some t) : aw_Ct l yX1_findSound M_Fa_findSound G B_Fa_findSound [.ref 41, .ref 24] xA σ (none, xA, t) := aw_Ct_of (by decide) rfl (fun h => by cases h) (Nat.le_of_ble_eq_true rfl) (t_Fa_findSound h rfl)
/-! LateMover$Facts.lettersReadAt(LLateMover$Graph;I)I -/
set_option maxRecDepth 100000 in
set_option maxHeartbeats 4000000 in
theorem t_Fa_lettersReadAt_J40 {l : Launch} {G : aw_G} {E : aw_E} {σ : aw_S} {v1 : Int32} {t : Int32} (h : m_Fa_lettersReadAt_J40 σ v1 = some t) (hE : E = (some (.int t), xA, σ)) : aw_W l M_Fa_lettersReadAt G B_Fa_lettersReadAt E 40 [(0, .ref 24), (1, .int v1)] [] xA σ 0 0 := by
  unfold m_Fa_lettersReadAt_J40 at h
  refine aw_aload_n (pc := 40) (q := 0) dX1_lettersReadAt_40 rfl ?_
  refine aw_getC (pc := 41) fd_X1_135 xA_24 rfl dX1_lettersReadAt_41 ?_
  refine aw_iload_n (pc := 44) (q := 1) dX1_lettersReadAt_44 rfl ?_
  obtain ⟨g3, h⟩ := aw_gde h
  refine aw_iald (pc := 45) xA_32 g3 dX1_lettersReadAt_45 ?_
  obtain ⟨r4, e5, h⟩ := aw_bde h
  refine aw_cS1 (pc := 46) [.int ((σ.1 32 v1.toNatClampNeg))] (c_Ex_letterBit e5) yy_Ex_letterBit.1 wm_469 yy_Ex_letterBit.2 rfl ⟨Nat.le_of_ble_eq_true rfl, Nat.le_of_ble_eq_true rfl⟩ ⟨Nat.zero_le _, Nat.zero_le _⟩ (Nat.le_of_ble_eq_true rfl) dX1_lettersReadAt_46 ?_
  cases h
  subst hE
  exact aw_iret (v := _) rfl aw_ni ⟨Nat.zero_le _, Nat.zero_le _⟩ dX1_lettersReadAt_49
set_option maxRecDepth 100000 in
set_option maxHeartbeats 4000000 in
theorem t_Fa_lettersReadAt {l : Launch} {G : aw_G} {E : aw_E} {σ : aw_S} {p1 : Int32} {t : Int32} (h : m_Fa_lettersReadAt σ p1 = some t) (hE : E = (some (.int t), xA, σ)) : aw_W l M_Fa_lettersReadAt G B_Fa_lettersReadAt E 0 [(0, .ref 24), (1, .int p1)] [] xA σ 0 0 := by
  unfold m_Fa_lettersReadAt at h
  refine aw_aload_n (pc := 0) (q := 0) dX1_lettersReadAt_0 rfl ?_
  refine aw_getC (pc := 1) fd_X1_129 xA_24 rfl dX1_lettersReadAt_1 ?_
  refine aw_iload_n (pc := 4) (q := 1) dX1_lettersReadAt_4 rfl ?_
  obtain ⟨g1, h⟩ := aw_gde h
  refine aw_iald (pc := 5) xA_29 g1 dX1_lettersReadAt_5 ?_
  by_cases c2 : (σ.1 29 p1.toNatClampNeg) = (1 : Int32)
  · replace h := aw_ifp c2 h
    refine aw_tableIn (pc := 6) (tgt := 40) dX1_lettersReadAt_6 0 (by rw [c2]; decide) (by decide) rfl (by decide) ?_
    exact t_Fa_lettersReadAt_J40 h hE
  · replace h := aw_ifn c2 h
    by_cases c6 : (σ.1 29 p1.toNatClampNeg) = (2 : Int32)
    · replace h := aw_ifp c6 h
      refine aw_tableIn (pc := 6) (tgt := 50) dX1_lettersReadAt_6 1 (by rw [c6]; decide) (by decide) rfl (by decide) ?_
      refine aw_aload_n (pc := 50) (q := 0) dX1_lettersReadAt_50 rfl ?_
      refine aw_getC (pc := 51) fd_X1_52 xA_24 rfl dX1_lettersReadAt_51 ?_
      refine aw_aload_n (pc := 54) (q := 0) dX1_lettersReadAt_54 rfl ?_
      refine aw_getC (pc := 55) fd_X1_105 xA_24 rfl dX1_lettersReadAt_55 ?_
      refine aw_iload_n (pc := 58) (q := 1) dX1_lettersReadAt_58 rfl ?_
      obtain ⟨g7, h⟩ := aw_gde h
      refine aw_iald (pc := 59) xA_33 g7 dX1_lettersReadAt_59 ?_
      obtain ⟨r8, e9, h⟩ := aw_bde h
      refine aw_cV1 (pc := 60) [.int ((σ.1 33 p1.toNatClampNeg))] (c_Ex_lettersOf isEx_25 e9) yy_Ex_lettersOf.1 wm_472 yy_Ex_lettersOf.2.1 yy_Ex_lettersOf.2.2 xA_25 ⟨_, _, rfl⟩ rfl ⟨Nat.le_of_ble_eq_true rfl, Nat.le_of_ble_eq_true rfl⟩ ⟨Nat.zero_le _, Nat.zero_le _⟩ (Nat.le_of_ble_eq_true rfl) dX1_lettersReadAt_60 ?_
      cases h
      subst hE
      exact aw_iret (v := _) rfl aw_ni ⟨Nat.zero_le _, Nat.zero_le _⟩ dX1_lettersReadAt_63
    · replace h := aw_ifn c6 h
      by_cases c10 : (σ.1 29 p1.toNatClampNeg) = (3 : Int32)
      · replace h := aw_ifp c10 h
        refine aw_tableIn (pc := 6) (tgt := 40) dX1_lettersReadAt_6 2 (by rw [c10]; decide) (by decide) rfl (by decide) ?_
        exact t_Fa_lettersReadAt_J40 h hE
      · replace h := aw_ifn c10 h
        by_cases c11 : (σ.1 29 p1.toNatClampNeg) = (4 : Int32)
        · replace h := aw_ifp c11 h
          refine aw_tableIn (pc := 6) (tgt := 74) dX1_lettersReadAt_6 3 (by rw [c11]; decide) (by decide) rfl (by decide) ?_
          refine aw_iconst (pc := 74) (v := 0) dX1_lettersReadAt_74 (by decide) ?_
          cases h
          subst hE
          exact aw_iret (v := (0 : Int32)) rfl aw_ni ⟨Nat.zero_le _, Nat.zero_le _⟩ dX1_lettersReadAt_75
        · replace h := aw_ifn c11 h
          by_cases c12 : (σ.1 29 p1.toNatClampNeg) = (5 : Int32)
          · replace h := aw_ifp c12 h
            refine aw_tableIn (pc := 6) (tgt := 64) dX1_lettersReadAt_6 4 (by rw [c12]; decide) (by decide) rfl (by decide) ?_
            refine aw_aload_n (pc := 64) (q := 0) dX1_lettersReadAt_64 rfl ?_
            refine aw_getC (pc := 65) fd_X1_132 xA_24 rfl dX1_lettersReadAt_65 ?_
            refine aw_iload_n (pc := 68) (q := 1) dX1_lettersReadAt_68 rfl ?_
            obtain ⟨g13, h⟩ := aw_gde h
            refine aw_iald (pc := 69) xA_31 g13 dX1_lettersReadAt_69 ?_
            obtain ⟨r14, e15, h⟩ := aw_bde h
            refine aw_cS1 (pc := 70) [.int ((σ.1 31 p1.toNatClampNeg))] (c_Ex_letterBit e15) yy_Ex_letterBit.1 wm_469 yy_Ex_letterBit.2 rfl ⟨Nat.le_of_ble_eq_true rfl, Nat.le_of_ble_eq_true rfl⟩ ⟨Nat.zero_le _, Nat.zero_le _⟩ (Nat.le_of_ble_eq_true rfl) dX1_lettersReadAt_70 ?_
            cases h
            subst hE
            exact aw_iret (v := _) rfl aw_ni ⟨Nat.zero_le _, Nat.zero_le _⟩ dX1_lettersReadAt_73
          · replace h := aw_ifn c12 h
            refine aw_tableOut (pc := 6) (tgt := 74) dX1_lettersReadAt_6 (aw_tout 1 5 (fun k h1 h2 => by
              have hk : k = 1 ∨ k = 2 ∨ k = 3 ∨ k = 4 ∨ k = 5 := by omega
              rcases hk with rfl | rfl | rfl | rfl | rfl
              · exact fun e => c2 (e.trans (by decide))
              · exact fun e => c6 (e.trans (by decide))
              · exact fun e => c10 (e.trans (by decide))
              · exact fun e => c11 (e.trans (by decide))
              · exact fun e => c12 (e.trans (by decide)))) (by decide) ?_
            refine aw_iconst (pc := 74) (v := 0) dX1_lettersReadAt_74 (by decide) ?_
            cases h
            subst hE
            exact aw_iret (v := (0 : Int32)) rfl aw_ni ⟨Nat.zero_le _, Nat.zero_le _⟩ dX1_lettersReadAt_75
theorem c_Fa_lettersReadAt {l : Launch} {G : aw_G} {σ : aw_S} {p1 : Int32} {t : Int32} (h : m_Fa_lettersReadAt σ p1 = some t) : aw_Ct l yX1_lettersReadAt M_Fa_lettersReadAt G B_Fa_lettersReadAt [.ref 24, .int p1] xA σ (some (.int t), xA, σ) := aw_Ct_of (by decide) rfl (fun h => by cases h) (Nat.le_of_ble_eq_true rfl) (t_Fa_lettersReadAt h rfl)
/-! LateMover$Facts.findLive(LLateMover$Graph;)V -/
def z_Fa_findLive_X2 (l : Launch) (G : aw_G) (E : aw_E) (s : Int32 × aw_S) : Prop := aw_W l M_Fa_findLive G B_Fa_findLive E 2 [(0, .ref 41), (1, .ref 24), (2, .int s.1)] [] xA s.2 0 0
def z_Fa_findLive_Y2 (l : Launch) (G : aw_G) (E : aw_E) (x : (aw_S)) : Prop := aw_W l M_Fa_findLive G B_Fa_findLive E 41 [(0, .ref 41), (1, .ref 24)] [] xA x 0 0
set_option maxRecDepth 100000 in
set_option maxHeartbeats 4000000 in
theorem t_Fa_findLive_B2 {l : Launch} {G : aw_G} {E : aw_E} {σ : aw_S} {v2 : Int32} {t : (aw_S) ⊕ (Int32 × aw_S)} (h : m_Fa_findLive_B2 σ v2 = some t) (hz : Sum.elim (z_Fa_findLive_Y2 l G E) (z_Fa_findLive_X2 l G E) t) : aw_W l M_Fa_findLive G B_Fa_findLive E 2 [(0, .ref 41), (1, .ref 24), (2, .int v2)] [] xA σ 0 0 := by
  unfold m_Fa_findLive_B2 at h
  refine aw_iload_n (pc := 2) (q := 2) dX1_findLive_2 rfl ?_
  refine aw_aload_n (pc := 3) (q := 1) dX1_findLive_3 rfl ?_
  refine aw_getI (pc := 4) fd_X1_67.r xA_24 rfl dX1_findLive_4 ?_
  refine aw_icmp_ge (pc := 7) (tgt := 41) dX1_findLive_7 (by decide) (fun c1 => ?_) (fun c1 => ?_)
  · replace h := aw_ifp c1 h
    refine aw_sub [0, 1] rfl ?_
    cases h
    exact hz
  · replace h := aw_ifn c1 h
    refine aw_aload_n (pc := 10) (q := 0) dX1_findLive_10 rfl ?_
    refine aw_getC (pc := 11) fd_X1_12.r xA_41 rfl dX1_findLive_11 ?_
    refine aw_iload_n (pc := 14) (q := 2) dX1_findLive_14 rfl ?_
    refine aw_aload_n (pc := 15) (q := 1) dX1_findLive_15 rfl ?_
    refine aw_iload_n (pc := 16) (q := 2) dX1_findLive_16 rfl ?_
    obtain ⟨r2, e3, h⟩ := aw_bde h
    refine aw_cS1 (pc := 17) [.ref 24, .int v2] (c_Fa_lettersReadAt e3) yy_Fa_lettersReadAt.1 wm_535 yy_Fa_lettersReadAt.2 rfl ⟨Nat.le_of_ble_eq_true rfl, Nat.le_of_ble_eq_true rfl⟩ ⟨Nat.zero_le _, Nat.zero_le _⟩ (Nat.le_of_ble_eq_true rfl) dX1_findLive_17 ?_
    refine aw_aload_n (pc := 20) (q := 1) dX1_findLive_20 rfl ?_
    refine aw_iload_n (pc := 21) (q := 2) dX1_findLive_21 rfl ?_
    obtain ⟨r4, e5, h⟩ := aw_bde h
    refine aw_cS1 (pc := 22) [.ref 24, .int v2] (c_Fa_letterChangedAt e5) yy_Fa_letterChangedAt.1 wm_464 yy_Fa_letterChangedAt.2 rfl ⟨Nat.le_of_ble_eq_true rfl, Nat.le_of_ble_eq_true rfl⟩ ⟨Nat.zero_le _, Nat.zero_le _⟩ (Nat.le_of_ble_eq_true rfl) dX1_findLive_22 ?_
    obtain ⟨r6, e7, h⟩ := aw_bde h
    refine aw_cS1 (pc := 25) [.int r4] (c_Ex_letterBit e7) yy_Ex_letterBit.1 wm_469 yy_Ex_letterBit.2 rfl ⟨Nat.le_of_ble_eq_true rfl, Nat.le_of_ble_eq_true rfl⟩ ⟨Nat.zero_le _, Nat.zero_le _⟩ (Nat.le_of_ble_eq_true rfl) dX1_findLive_25 ?_
    refine aw_iconst (pc := 28) (v := -1) dX1_findLive_28 (by decide) ?_
    refine aw_ixor (pc := 29) dX1_findLive_29 ?_
    refine aw_iconst (pc := 30) (v := 0) dX1_findLive_30 (by decide) ?_
    refine aw_iconst (pc := 31) (v := -1) dX1_findLive_31 (by decide) ?_
    obtain ⟨s10, e9, h⟩ := aw_bde h
    refine aw_cV0 (pc := 32) [.int v2, .int r2, .int ((r6 ^^^ (-1 : Int32))), .int ((0 : Int32)), .int ((-1 : Int32))] (c_Fl_tell e9) yy_Fl_tell.1 wm_491 yy_Fl_tell.2.1 yy_Fl_tell.2.2 xA_42 ⟨_, _, rfl⟩ rfl ⟨Nat.le_of_ble_eq_true rfl, Nat.le_of_ble_eq_true rfl⟩ ⟨Nat.zero_le _, Nat.zero_le _⟩ (Nat.le_of_ble_eq_true rfl) dX1_findLive_32 ?_
    obtain ⟨x11, e_x11⟩ : ∃ z, z = (v2 + (1 : Int32)) := ⟨_, rfl⟩
    replace h := aw_lte h x11 e_x11
    refine aw_iinc (pc := 35) (q := 2) (v := x11) [(2, .int x11), (0, .ref 41), (1, .ref 24)] dX1_findLive_35 rfl e_x11.symm (by decide) rfl ?_
    refine aw_goto (pc := 38) (tgt := 2) dX1_findLive_38 (by decide) ?_
    refine aw_sub [1, 2, 0] rfl ?_
    cases h
    exact hz
set_option maxRecDepth 100000 in
set_option maxHeartbeats 4000000 in
theorem t_Fa_findLive {l : Launch} {G : aw_G} {E : aw_E} {σ : aw_S} {t : aw_S} (h : m_Fa_findLive σ = some t) (hE : E = (none, xA, t)) : aw_W l M_Fa_findLive G B_Fa_findLive E 0 [(0, .ref 41), (1, .ref 24)] [] xA σ 0 0 := by
  unfold m_Fa_findLive at h
  refine aw_iconst (pc := 0) (v := 0) dX1_findLive_0 (by decide) ?_
  refine aw_istore_n (pc := 1) [(2, .int ((0 : Int32))), (0, .ref 41), (1, .ref 24)] dX1_findLive_1 (by decide) rfl ?_
  obtain ⟨x12, hl13, h⟩ := aw_bde h
  have K14 : z_Fa_findLive_Y2 l G E x12 := by
    show aw_W l M_Fa_findLive G B_Fa_findLive E 41 [(0, .ref 41), (1, .ref 24)] [] xA x12 0 0
    refine aw_aload_n (pc := 41) (q := 0) dX1_findLive_41 rfl ?_
    refine aw_getC (pc := 42) fd_X1_12.r xA_41 rfl dX1_findLive_42 ?_
    refine aw_aload_n (pc := 45) (q := 1) dX1_findLive_45 rfl ?_
    refine aw_aload_n (pc := 46) (q := 0) dX1_findLive_46 rfl ?_
    refine aw_getC (pc := 47) fd_X1_46.r xA_41 rfl dX1_findLive_47 ?_
    refine aw_iconst (pc := 50) (v := -1) dX1_findLive_50 (by decide) ?_
    refine aw_iconst (pc := 51) (v := 1) dX1_findLive_51 (by decide) ?_
    refine aw_iconst (pc := 52) (v := 0) dX1_findLive_52 (by decide) ?_
    obtain ⟨s17, e16, h⟩ := aw_bde h
    refine aw_cV0 (pc := 53) [.ref 24, .ref 56, .int ((-1 : Int32)), .int ((1 : Int32)), .int ((0 : Int32))] (c_Fl_solve xA_56 e16) yy_Fl_solve.1 wm_495 yy_Fl_solve.2.1 yy_Fl_solve.2.2 xA_42 ⟨_, _, rfl⟩ rfl ⟨Nat.le_of_ble_eq_true rfl, Nat.le_of_ble_eq_true rfl⟩ ⟨Nat.zero_le _, Nat.zero_le _⟩ (Nat.le_of_ble_eq_true rfl) dX1_findLive_53 ?_
    cases h
    subst hE
    exact aw_vret rfl ⟨Nat.zero_le _, Nat.zero_le _⟩ dX1_findLive_56
  refine aw_sub [1, 2, 0] rfl ?_
  show z_Fa_findLive_X2 l G E (((0 : Int32), σ))
  exact aw_lp_X (Xp := z_Fa_findLive_X2 l G E) (Y := z_Fa_findLive_Y2 l G E) hl13 K14 (fun s t hf hz => t_Fa_findLive_B2 hf hz)
theorem c_Fa_findLive {l : Launch} {G : aw_G} {σ : aw_S} {t : aw_S} (h : m_Fa_findLive σ = some t) : aw_Ct l yX1_findLive M_Fa_findLive G B_Fa_findLive [.ref 41, .ref 24] xA σ (none, xA, t) := aw_Ct_of (by decide) rfl (fun h => by cases h) (Nat.le_of_ble_eq_true rfl) (t_Fa_findLive h rfl)
/-! LateMover$Facts.findNeeded(LLateMover$Graph;)V -/
def z_Fa_findNeeded_X2 (l : Launch) (G : aw_G) (E : aw_E) (s : Int32 × aw_S) : Prop := aw_W l M_Fa_findNeeded G B_Fa_findNeeded E 2 [(0, .ref 41), (1, .ref 24), (2, .int s.1)] [] xA s.2 0 0
def z_Fa_findNeeded_Y2 (l : Launch) (G : aw_G) (E : aw_E) (x : (aw_S)) : Prop := aw_W l M_Fa_findNeeded G B_Fa_findNeeded E 53 [(0, .ref 41), (1, .ref 24)] [] xA x 0 0
set_option maxRecDepth 100000 in
set_option maxHeartbeats 4000000 in
theorem t_Fa_findNeeded_J39 {l : Launch} {G : aw_G} {E : aw_E} {σ : aw_S} {v2 : Int32} {k1 : Int32} {k2 : Int32} {k3 : Int32} {t : (aw_S) ⊕ (Int32 × aw_S)} (h : m_Fa_findNeeded_J39 σ v2 k1 k2 k3 = some t) (hz : Sum.elim (z_Fa_findNeeded_Y2 l G E) (z_Fa_findNeeded_X2 l G E) t) : aw_W l M_Fa_findNeeded G B_Fa_findNeeded E 39 [(0, .ref 41), (1, .ref 24), (2, .int v2)] [.int k3, .int k2, .int k1, .ref 42] xA σ 0 0 := by
  unfold m_Fa_findNeeded_J39 at h
  refine aw_iconst (pc := 39) (v := 0) dX1_findNeeded_39 (by decide) ?_
  refine aw_aload_n (pc := 40) (q := 0) dX1_findNeeded_40 rfl ?_
  refine aw_getI (pc := 41) fd_X1_64.r xA_41 rfl dX1_findNeeded_41 ?_
  obtain ⟨s8, e7, h⟩ := aw_bde h
  refine aw_cV0 (pc := 44) [.int k1, .int k2, .int k3, .int ((0 : Int32)), .int ((σ.1 41 13))] (c_Fl_tell e7) yy_Fl_tell.1 wm_491 yy_Fl_tell.2.1 yy_Fl_tell.2.2 xA_42 ⟨_, _, rfl⟩ rfl ⟨Nat.le_of_ble_eq_true rfl, Nat.le_of_ble_eq_true rfl⟩ ⟨Nat.zero_le _, Nat.zero_le _⟩ (Nat.le_of_ble_eq_true rfl) dX1_findNeeded_44 ?_
  obtain ⟨x9, e_x9⟩ : ∃ z, z = (v2 + (1 : Int32)) := ⟨_, rfl⟩
  replace h := aw_lte h x9 e_x9
  refine aw_iinc (pc := 47) (q := 2) (v := x9) [(2, .int x9), (0, .ref 41), (1, .ref 24)] dX1_findNeeded_47 rfl e_x9.symm (by decide) rfl ?_
  refine aw_goto (pc := 50) (tgt := 2) dX1_findNeeded_50 (by decide) ?_
  refine aw_sub [1, 2, 0] rfl ?_
  cases h
  exact hz
set_option maxRecDepth 100000 in
set_option maxHeartbeats 4000000 in
theorem t_Fa_findNeeded_B2 {l : Launch} {G : aw_G} {E : aw_E} {σ : aw_S} {v2 : Int32} {t : (aw_S) ⊕ (Int32 × aw_S)} (h : m_Fa_findNeeded_B2 σ v2 = some t) (hz : Sum.elim (z_Fa_findNeeded_Y2 l G E) (z_Fa_findNeeded_X2 l G E) t) : aw_W l M_Fa_findNeeded G B_Fa_findNeeded E 2 [(0, .ref 41), (1, .ref 24), (2, .int v2)] [] xA σ 0 0 := by
  unfold m_Fa_findNeeded_B2 at h
  refine aw_iload_n (pc := 2) (q := 2) dX1_findNeeded_2 rfl ?_
  refine aw_aload_n (pc := 3) (q := 1) dX1_findNeeded_3 rfl ?_
  refine aw_getI (pc := 4) fd_X1_67.r xA_24 rfl dX1_findNeeded_4 ?_
  refine aw_icmp_ge (pc := 7) (tgt := 53) dX1_findNeeded_7 (by decide) (fun c1 => ?_) (fun c1 => ?_)
  · replace h := aw_ifp c1 h
    refine aw_sub [0, 1] rfl ?_
    cases h
    exact hz
  · replace h := aw_ifn c1 h
    refine aw_aload_n (pc := 10) (q := 0) dX1_findNeeded_10 rfl ?_
    refine aw_getC (pc := 11) fd_X1_12.r xA_41 rfl dX1_findNeeded_11 ?_
    refine aw_iload_n (pc := 14) (q := 2) dX1_findNeeded_14 rfl ?_
    refine aw_aload_n (pc := 15) (q := 0) dX1_findNeeded_15 rfl ?_
    refine aw_getC (pc := 16) fd_X1_18.r xA_41 rfl dX1_findNeeded_16 ?_
    refine aw_iload_n (pc := 19) (q := 2) dX1_findNeeded_19 rfl ?_
    obtain ⟨g2, h⟩ := aw_gde h
    refine aw_iald (pc := 20) xA_47 g2 dX1_findNeeded_20 ?_
    refine aw_aload_n (pc := 21) (q := 1) dX1_findNeeded_21 rfl ?_
    refine aw_iload_n (pc := 22) (q := 2) dX1_findNeeded_22 rfl ?_
    obtain ⟨r3, e4, h⟩ := aw_bde h
    refine aw_cV1 (pc := 23) [.int v2] (c_Gr_edgesFrom e4) yy_Gr_edgesFrom.1 wm_490 yy_Gr_edgesFrom.2.1 yy_Gr_edgesFrom.2.2 xA_24 ⟨_, _, rfl⟩ rfl ⟨Nat.le_of_ble_eq_true rfl, Nat.le_of_ble_eq_true rfl⟩ ⟨Nat.zero_le _, Nat.zero_le _⟩ (Nat.le_of_ble_eq_true rfl) dX1_findNeeded_23 ?_
    refine aw_if_le (pc := 26) (tgt := 38) dX1_findNeeded_26 (by decide) (fun c5 => ?_) (fun c5 => ?_)
    · replace h := aw_ifp c5 h
      refine aw_iconst (pc := 38) (v := 0) dX1_findNeeded_38 (by decide) ?_
      exact t_Fa_findNeeded_J39 h hz
    · replace h := aw_ifn c5 h
      refine aw_aload_n (pc := 29) (q := 0) dX1_findNeeded_29 rfl ?_
      refine aw_getC (pc := 30) fd_X1_22.r xA_41 rfl dX1_findNeeded_30 ?_
      refine aw_iload_n (pc := 33) (q := 2) dX1_findNeeded_33 rfl ?_
      obtain ⟨g10, h⟩ := aw_gde h
      refine aw_iald (pc := 34) xA_48 g10 dX1_findNeeded_34 ?_
      refine aw_goto (pc := 35) (tgt := 39) dX1_findNeeded_35 (by decide) ?_
      exact t_Fa_findNeeded_J39 h hz
set_option maxRecDepth 100000 in
set_option maxHeartbeats 4000000 in
theorem t_Fa_findNeeded {l : Launch} {G : aw_G} {E : aw_E} {σ : aw_S} {t : aw_S} (h : m_Fa_findNeeded σ = some t) (hE : E = (none, xA, t)) : aw_W l M_Fa_findNeeded G B_Fa_findNeeded E 0 [(0, .ref 41), (1, .ref 24)] [] xA σ 0 0 := by
  unfold m_Fa_findNeeded at h
  refine aw_iconst (pc := 0) (v := 0) dX1_findNeeded_0 (by decide) ?_
  refine aw_istore_n (pc := 1) [(2, .int ((0 : Int32))), (0, .ref 41), (1, .ref 24)] dX1_findNeeded_1 (by decide) rfl ?_
  obtain ⟨x11, hl12, h⟩ := aw_bde h
  have K13 : z_Fa_findNeeded_Y2 l G E x11 := by
    show aw_W l M_Fa_findNeeded G B_Fa_findNeeded E 53 [(0, .ref 41), (1, .ref 24)] [] xA x11 0 0
    refine aw_aload_n (pc := 53) (q := 0) dX1_findNeeded_53 rfl ?_
    refine aw_getC (pc := 54) fd_X1_12.r xA_41 rfl dX1_findNeeded_54 ?_
    refine aw_aload_n (pc := 57) (q := 1) dX1_findNeeded_57 rfl ?_
    refine aw_aload_n (pc := 58) (q := 0) dX1_findNeeded_58 rfl ?_
    refine aw_getC (pc := 59) fd_X1_25.r xA_41 rfl dX1_findNeeded_59 ?_
    refine aw_aload_n (pc := 62) (q := 0) dX1_findNeeded_62 rfl ?_
    refine aw_getI (pc := 63) fd_X1_64.r xA_41 rfl dX1_findNeeded_63 ?_
    refine aw_iconst (pc := 66) (v := 1) dX1_findNeeded_66 (by decide) ?_
    refine aw_iconst (pc := 67) (v := 1) dX1_findNeeded_67 (by decide) ?_
    obtain ⟨s16, e15, h⟩ := aw_bde h
    refine aw_cV0 (pc := 68) [.ref 24, .ref 49, .int ((x11.1 41 13)), .int ((1 : Int32)), .int ((1 : Int32))] (c_Fl_solve xA_49 e15) yy_Fl_solve.1 wm_495 yy_Fl_solve.2.1 yy_Fl_solve.2.2 xA_42 ⟨_, _, rfl⟩ rfl ⟨Nat.le_of_ble_eq_true rfl, Nat.le_of_ble_eq_true rfl⟩ ⟨Nat.zero_le _, Nat.zero_le _⟩ (Nat.le_of_ble_eq_true rfl) dX1_findNeeded_68 ?_
    cases h
    subst hE
    exact aw_vret rfl ⟨Nat.zero_le _, Nat.zero_le _⟩ dX1_findNeeded_71
  refine aw_sub [1, 2, 0] rfl ?_
  show z_Fa_findNeeded_X2 l G E (((0 : Int32), σ))
  exact aw_lp_X (Xp := z_Fa_findNeeded_X2 l G E) (Y := z_Fa_findNeeded_Y2 l G E) hl12 K13 (fun s t hf hz => t_Fa_findNeeded_B2 hf hz)
theorem c_Fa_findNeeded {l : Launch} {G : aw_G} {σ : aw_S} {t : aw_S} (h : m_Fa_findNeeded σ = some t) : aw_Ct l yX1_findNeeded M_Fa_findNeeded G B_Fa_findNeeded [.ref 41, .ref 24] xA σ (none, xA, t) := aw_Ct_of (by decide) rfl (fun h => by cases h) (Nat.le_of_ble_eq_true rfl) (t_Fa_findNeeded h rfl)
/-! LateMover$Facts.findAtHand(LLateMover$Graph;)V -/
def z_Fa_findAtHand_X2 (l : Launch) (G : aw_G) (E : aw_E) (s : Int32 × aw_S) : Prop := aw_W l M_Fa_findAtHand G B_Fa_findAtHand E 2 [(0, .ref 41), (1, .ref 24), (2, .int s.1)] [] xA s.2 0 0
def z_Fa_findAtHand_Y2 (l : Launch) (G : aw_G) (E : aw_E) (x : (aw_S)) : Prop := aw_W l M_Fa_findAtHand G B_Fa_findAtHand E 56 [(0, .ref 41), (1, .ref 24)] [] xA x 0 0
set_option maxRecDepth 100000 in
set_option maxHeartbeats 4000000 in
theorem t_Fa_findAtHand_J28 {l : Launch} {G : aw_G} {E : aw_E} {σ : aw_S} {v2 : Int32} {k1 : Int32} {k2 : Int32} {k3 : Int32} {t : (aw_S) ⊕ (Int32 × aw_S)} (h : m_Fa_findAtHand_J28 σ v2 k1 k2 k3 = some t) (hz : Sum.elim (z_Fa_findAtHand_Y2 l G E) (z_Fa_findAtHand_X2 l G E) t) : aw_W l M_Fa_findAtHand G B_Fa_findAtHand E 28 [(0, .ref 41), (1, .ref 24), (2, .int v2)] [.int k3, .int k2, .int k1, .ref 42] xA σ 0 0 := by
  unfold m_Fa_findAtHand_J28 at h
  refine aw_aload_n (pc := 28) (q := 0) dX1_findAtHand_28 rfl ?_
  refine aw_getC (pc := 29) fd_X1_22.r xA_41 rfl dX1_findAtHand_29 ?_
  refine aw_iload_n (pc := 32) (q := 2) dX1_findAtHand_32 rfl ?_
  obtain ⟨g3, h⟩ := aw_gde h
  refine aw_iald (pc := 33) xA_48 g3 dX1_findAtHand_33 ?_
  refine aw_aload_n (pc := 34) (q := 0) dX1_findAtHand_34 rfl ?_
  refine aw_getC (pc := 35) fd_X1_18.r xA_41 rfl dX1_findAtHand_35 ?_
  refine aw_iload_n (pc := 38) (q := 2) dX1_findAtHand_38 rfl ?_
  obtain ⟨g4, h⟩ := aw_gde h
  refine aw_iald (pc := 39) xA_47 g4 dX1_findAtHand_39 ?_
  refine aw_iand (pc := 40) dX1_findAtHand_40 ?_
  refine aw_aload_n (pc := 41) (q := 0) dX1_findAtHand_41 rfl ?_
  refine aw_getC (pc := 42) fd_X1_22.r xA_41 rfl dX1_findAtHand_42 ?_
  refine aw_iload_n (pc := 45) (q := 2) dX1_findAtHand_45 rfl ?_
  obtain ⟨g5, h⟩ := aw_gde h
  refine aw_iald (pc := 46) xA_48 g5 dX1_findAtHand_46 ?_
  obtain ⟨s8, e7, h⟩ := aw_bde h
  refine aw_cV0 (pc := 47) [.int k1, .int k2, .int k3, .int (((σ.1 48 v2.toNatClampNeg) &&& (σ.1 47 v2.toNatClampNeg))), .int ((σ.1 48 v2.toNatClampNeg))] (c_Fl_tell e7) yy_Fl_tell.1 wm_491 yy_Fl_tell.2.1 yy_Fl_tell.2.2 xA_42 ⟨_, _, rfl⟩ rfl ⟨Nat.le_of_ble_eq_true rfl, Nat.le_of_ble_eq_true rfl⟩ ⟨Nat.zero_le _, Nat.zero_le _⟩ (Nat.le_of_ble_eq_true rfl) dX1_findAtHand_47 ?_
  obtain ⟨x9, e_x9⟩ : ∃ z, z = (v2 + (1 : Int32)) := ⟨_, rfl⟩
  replace h := aw_lte h x9 e_x9
  refine aw_iinc (pc := 50) (q := 2) (v := x9) [(2, .int x9), (0, .ref 41), (1, .ref 24)] dX1_findAtHand_50 rfl e_x9.symm (by decide) rfl ?_
  refine aw_goto (pc := 53) (tgt := 2) dX1_findAtHand_53 (by decide) ?_
  refine aw_sub [1, 2, 0] rfl ?_
  cases h
  exact hz
set_option maxRecDepth 100000 in
set_option maxHeartbeats 4000000 in
theorem t_Fa_findAtHand_B2 {l : Launch} {G : aw_G} {E : aw_E} {σ : aw_S} {v2 : Int32} {t : (aw_S) ⊕ (Int32 × aw_S)} (h : m_Fa_findAtHand_B2 σ v2 = some t) (hz : Sum.elim (z_Fa_findAtHand_Y2 l G E) (z_Fa_findAtHand_X2 l G E) t) : aw_W l M_Fa_findAtHand G B_Fa_findAtHand E 2 [(0, .ref 41), (1, .ref 24), (2, .int v2)] [] xA σ 0 0 := by
  unfold m_Fa_findAtHand_B2 at h
  refine aw_iload_n (pc := 2) (q := 2) dX1_findAtHand_2 rfl ?_
  refine aw_aload_n (pc := 3) (q := 1) dX1_findAtHand_3 rfl ?_
  refine aw_getI (pc := 4) fd_X1_67.r xA_24 rfl dX1_findAtHand_4 ?_
  refine aw_icmp_ge (pc := 7) (tgt := 56) dX1_findAtHand_7 (by decide) (fun c1 => ?_) (fun c1 => ?_)
  · replace h := aw_ifp c1 h
    refine aw_sub [0, 1] rfl ?_
    cases h
    exact hz
  · replace h := aw_ifn c1 h
    refine aw_aload_n (pc := 10) (q := 0) dX1_findAtHand_10 rfl ?_
    refine aw_getC (pc := 11) fd_X1_12.r xA_41 rfl dX1_findAtHand_11 ?_
    refine aw_iload_n (pc := 14) (q := 2) dX1_findAtHand_14 rfl ?_
    refine aw_iconst (pc := 15) (v := 0) dX1_findAtHand_15 (by decide) ?_
    refine aw_iload_n (pc := 16) (q := 2) dX1_findAtHand_16 rfl ?_
    refine aw_if_ne (pc := 17) (tgt := 24) dX1_findAtHand_17 (by decide) (fun c2 => ?_) (fun c2 => ?_)
    · replace h := aw_ifn c2 h
      refine aw_aload_n (pc := 24) (q := 0) dX1_findAtHand_24 rfl ?_
      refine aw_getI (pc := 25) fd_X1_64.r xA_41 rfl dX1_findAtHand_25 ?_
      exact t_Fa_findAtHand_J28 h hz
    · replace h := aw_ifp c2 h
      refine aw_iconst (pc := 20) (v := 0) dX1_findAtHand_20 (by decide) ?_
      refine aw_goto (pc := 21) (tgt := 28) dX1_findAtHand_21 (by decide) ?_
      exact t_Fa_findAtHand_J28 h hz
set_option maxRecDepth 100000 in
set_option maxHeartbeats 4000000 in
theorem t_Fa_findAtHand {l : Launch} {G : aw_G} {E : aw_E} {σ : aw_S} {t : aw_S} (h : m_Fa_findAtHand σ = some t) (hE : E = (none, xA, t)) : aw_W l M_Fa_findAtHand G B_Fa_findAtHand E 0 [(0, .ref 41), (1, .ref 24)] [] xA σ 0 0 := by
  unfold m_Fa_findAtHand at h
  refine aw_iconst (pc := 0) (v := 0) dX1_findAtHand_0 (by decide) ?_
  refine aw_istore_n (pc := 1) [(2, .int ((0 : Int32))), (0, .ref 41), (1, .ref 24)] dX1_findAtHand_1 (by decide) rfl ?_
  obtain ⟨x10, hl11, h⟩ := aw_bde h
  have K12 : z_Fa_findAtHand_Y2 l G E x10 := by
    show aw_W l M_Fa_findAtHand G B_Fa_findAtHand E 56 [(0, .ref 41), (1, .ref 24)] [] xA x10 0 0
    refine aw_aload_n (pc := 56) (q := 0) dX1_findAtHand_56 rfl ?_
    refine aw_getC (pc := 57) fd_X1_12.r xA_41 rfl dX1_findAtHand_57 ?_
    refine aw_aload_n (pc := 60) (q := 1) dX1_findAtHand_60 rfl ?_
    refine aw_aload_n (pc := 61) (q := 0) dX1_findAtHand_61 rfl ?_
    refine aw_getC (pc := 62) fd_X1_28.r xA_41 rfl dX1_findAtHand_62 ?_
    refine aw_aload_n (pc := 65) (q := 0) dX1_findAtHand_65 rfl ?_
    refine aw_getI (pc := 66) fd_X1_64.r xA_41 rfl dX1_findAtHand_66 ?_
    refine aw_iconst (pc := 69) (v := 0) dX1_findAtHand_69 (by decide) ?_
    refine aw_iconst (pc := 70) (v := 1) dX1_findAtHand_70 (by decide) ?_
    obtain ⟨s15, e14, h⟩ := aw_bde h
    refine aw_cV0 (pc := 71) [.ref 24, .ref 50, .int ((x10.1 41 13)), .int ((0 : Int32)), .int ((1 : Int32))] (c_Fl_solve xA_50 e14) yy_Fl_solve.1 wm_495 yy_Fl_solve.2.1 yy_Fl_solve.2.2 xA_42 ⟨_, _, rfl⟩ rfl ⟨Nat.le_of_ble_eq_true rfl, Nat.le_of_ble_eq_true rfl⟩ ⟨Nat.zero_le _, Nat.zero_le _⟩ (Nat.le_of_ble_eq_true rfl) dX1_findAtHand_71 ?_
    cases h
    subst hE
    exact aw_vret rfl ⟨Nat.zero_le _, Nat.zero_le _⟩ dX1_findAtHand_74
  refine aw_sub [1, 2, 0] rfl ?_
  show z_Fa_findAtHand_X2 l G E (((0 : Int32), σ))
  exact aw_lp_X (Xp := z_Fa_findAtHand_X2 l G E) (Y := z_Fa_findAtHand_Y2 l G E) hl11 K12 (fun s t hf hz => t_Fa_findAtHand_B2 hf hz)
theorem c_Fa_findAtHand {l : Launch} {G : aw_G} {σ : aw_S} {t : aw_S} (h : m_Fa_findAtHand σ = some t) : aw_Ct l yX1_findAtHand M_Fa_findAtHand G B_Fa_findAtHand [.ref 41, .ref 24] xA σ (none, xA, t) := aw_Ct_of (by decide) rfl (fun h => by cases h) (Nat.le_of_ble_eq_true rfl) (t_Fa_findAtHand h rfl)
/-! LateMover$Facts.findMaybe(LLateMover$Graph;)V -/
def z_Fa_findMaybe_X2 (l : Launch) (G : aw_G) (E : aw_E) (s : Int32 × aw_S) : Prop := aw_W l M_Fa_findMaybe G B_Fa_findMaybe E 2 [(0, .ref 41), (1, .ref 24), (2, .int s.1)] [] xA s.2 0 0
def z_Fa_findMaybe_Y2 (l : Launch) (G : aw_G) (E : aw_E) (x : (aw_S)) : Prop := aw_W l M_Fa_findMaybe G B_Fa_findMaybe E 48 [(0, .ref 41), (1, .ref 24)] [] xA x 0 0
set_option maxRecDepth 100000 in
set_option maxHeartbeats 4000000 in
theorem t_Fa_findMaybe_B2 {l : Launch} {G : aw_G} {E : aw_E} {σ : aw_S} {v2 : Int32} {t : (aw_S) ⊕ (Int32 × aw_S)} (h : m_Fa_findMaybe_B2 σ v2 = some t) (hz : Sum.elim (z_Fa_findMaybe_Y2 l G E) (z_Fa_findMaybe_X2 l G E) t) : aw_W l M_Fa_findMaybe G B_Fa_findMaybe E 2 [(0, .ref 41), (1, .ref 24), (2, .int v2)] [] xA σ 0 0 := by
  unfold m_Fa_findMaybe_B2 at h
  refine aw_iload_n (pc := 2) (q := 2) dX1_findMaybe_2 rfl ?_
  refine aw_aload_n (pc := 3) (q := 1) dX1_findMaybe_3 rfl ?_
  refine aw_getI (pc := 4) fd_X1_67.r xA_24 rfl dX1_findMaybe_4 ?_
  refine aw_icmp_ge (pc := 7) (tgt := 48) dX1_findMaybe_7 (by decide) (fun c1 => ?_) (fun c1 => ?_)
  · replace h := aw_ifp c1 h
    refine aw_sub [0, 1] rfl ?_
    cases h
    exact hz
  · replace h := aw_ifn c1 h
    refine aw_aload_n (pc := 10) (q := 0) dX1_findMaybe_10 rfl ?_
    refine aw_getC (pc := 11) fd_X1_12.r xA_41 rfl dX1_findMaybe_11 ?_
    refine aw_iload_n (pc := 14) (q := 2) dX1_findMaybe_14 rfl ?_
    refine aw_iconst (pc := 15) (v := 0) dX1_findMaybe_15 (by decide) ?_
    refine aw_aload_n (pc := 16) (q := 0) dX1_findMaybe_16 rfl ?_
    refine aw_getI (pc := 17) fd_X1_64.r xA_41 rfl dX1_findMaybe_17 ?_
    refine aw_aload_n (pc := 20) (q := 0) dX1_findMaybe_20 rfl ?_
    refine aw_getC (pc := 21) fd_X1_22.r xA_41 rfl dX1_findMaybe_21 ?_
    refine aw_iload_n (pc := 24) (q := 2) dX1_findMaybe_24 rfl ?_
    obtain ⟨g2, h⟩ := aw_gde h
    refine aw_iald (pc := 25) xA_48 g2 dX1_findMaybe_25 ?_
    refine aw_aload_n (pc := 26) (q := 0) dX1_findMaybe_26 rfl ?_
    refine aw_getC (pc := 27) fd_X1_18.r xA_41 rfl dX1_findMaybe_27 ?_
    refine aw_iload_n (pc := 30) (q := 2) dX1_findMaybe_30 rfl ?_
    obtain ⟨g3, h⟩ := aw_gde h
    refine aw_iald (pc := 31) xA_47 g3 dX1_findMaybe_31 ?_
    refine aw_iand (pc := 32) dX1_findMaybe_32 ?_
    refine aw_aload_n (pc := 33) (q := 0) dX1_findMaybe_33 rfl ?_
    refine aw_getC (pc := 34) fd_X1_22.r xA_41 rfl dX1_findMaybe_34 ?_
    refine aw_iload_n (pc := 37) (q := 2) dX1_findMaybe_37 rfl ?_
    obtain ⟨g4, h⟩ := aw_gde h
    refine aw_iald (pc := 38) xA_48 g4 dX1_findMaybe_38 ?_
    obtain ⟨s7, e6, h⟩ := aw_bde h
    refine aw_cV0 (pc := 39) [.int v2, .int ((0 : Int32)), .int ((σ.1 41 13)), .int (((σ.1 48 v2.toNatClampNeg) &&& (σ.1 47 v2.toNatClampNeg))), .int ((σ.1 48 v2.toNatClampNeg))] (c_Fl_tell e6) yy_Fl_tell.1 wm_491 yy_Fl_tell.2.1 yy_Fl_tell.2.2 xA_42 ⟨_, _, rfl⟩ rfl ⟨Nat.le_of_ble_eq_true rfl, Nat.le_of_ble_eq_true rfl⟩ ⟨Nat.zero_le _, Nat.zero_le _⟩ (Nat.le_of_ble_eq_true rfl) dX1_findMaybe_39 ?_
    obtain ⟨x8, e_x8⟩ : ∃ z, z = (v2 + (1 : Int32)) := ⟨_, rfl⟩
    replace h := aw_lte h x8 e_x8
    refine aw_iinc (pc := 42) (q := 2) (v := x8) [(2, .int x8), (0, .ref 41), (1, .ref 24)] dX1_findMaybe_42 rfl e_x8.symm (by decide) rfl ?_
    refine aw_goto (pc := 45) (tgt := 2) dX1_findMaybe_45 (by decide) ?_
    refine aw_sub [1, 2, 0] rfl ?_
    cases h
    exact hz
set_option maxRecDepth 100000 in
set_option maxHeartbeats 4000000 in
theorem t_Fa_findMaybe {l : Launch} {G : aw_G} {E : aw_E} {σ : aw_S} {t : aw_S} (h : m_Fa_findMaybe σ = some t) (hE : E = (none, xA, t)) : aw_W l M_Fa_findMaybe G B_Fa_findMaybe E 0 [(0, .ref 41), (1, .ref 24)] [] xA σ 0 0 := by
  unfold m_Fa_findMaybe at h
  refine aw_iconst (pc := 0) (v := 0) dX1_findMaybe_0 (by decide) ?_
  refine aw_istore_n (pc := 1) [(2, .int ((0 : Int32))), (0, .ref 41), (1, .ref 24)] dX1_findMaybe_1 (by decide) rfl ?_
  obtain ⟨x9, hl10, h⟩ := aw_bde h
  have K11 : z_Fa_findMaybe_Y2 l G E x9 := by
    show aw_W l M_Fa_findMaybe G B_Fa_findMaybe E 48 [(0, .ref 41), (1, .ref 24)] [] xA x9 0 0
    refine aw_aload_n (pc := 48) (q := 0) dX1_findMaybe_48 rfl ?_
    refine aw_getC (pc := 49) fd_X1_12.r xA_41 rfl dX1_findMaybe_49 ?_
    refine aw_aload_n (pc := 52) (q := 1) dX1_findMaybe_52 rfl ?_
    refine aw_aload_n (pc := 53) (q := 0) dX1_findMaybe_53 rfl ?_
    refine aw_getC (pc := 54) fd_X1_43.r xA_41 rfl dX1_findMaybe_54 ?_
    refine aw_aload_n (pc := 57) (q := 0) dX1_findMaybe_57 rfl ?_
    refine aw_getI (pc := 58) fd_X1_64.r xA_41 rfl dX1_findMaybe_58 ?_
    refine aw_iconst (pc := 61) (v := 0) dX1_findMaybe_61 (by decide) ?_
    refine aw_iconst (pc := 62) (v := 0) dX1_findMaybe_62 (by decide) ?_
    obtain ⟨s14, e13, h⟩ := aw_bde h
    refine aw_cV0 (pc := 63) [.ref 24, .ref 55, .int ((x9.1 41 13)), .int ((0 : Int32)), .int ((0 : Int32))] (c_Fl_solve xA_55 e13) yy_Fl_solve.1 wm_495 yy_Fl_solve.2.1 yy_Fl_solve.2.2 xA_42 ⟨_, _, rfl⟩ rfl ⟨Nat.le_of_ble_eq_true rfl, Nat.le_of_ble_eq_true rfl⟩ ⟨Nat.zero_le _, Nat.zero_le _⟩ (Nat.le_of_ble_eq_true rfl) dX1_findMaybe_63 ?_
    cases h
    subst hE
    exact aw_vret rfl ⟨Nat.zero_le _, Nat.zero_le _⟩ dX1_findMaybe_66
  refine aw_sub [1, 2, 0] rfl ?_
  show z_Fa_findMaybe_X2 l G E (((0 : Int32), σ))
  exact aw_lp_X (Xp := z_Fa_findMaybe_X2 l G E) (Y := z_Fa_findMaybe_Y2 l G E) hl10 K11 (fun s t hf hz => t_Fa_findMaybe_B2 hf hz)
theorem c_Fa_findMaybe {l : Launch} {G : aw_G} {σ : aw_S} {t : aw_S} (h : m_Fa_findMaybe σ = some t) : aw_Ct l yX1_findMaybe M_Fa_findMaybe G B_Fa_findMaybe [.ref 41, .ref 24] xA σ (none, xA, t) := aw_Ct_of (by decide) rfl (fun h => by cases h) (Nat.le_of_ble_eq_true rfl) (t_Fa_findMaybe h rfl)
/-! LateMover$Facts.findEarly(LLateMover$Graph;)V -/
def z_Fa_findEarly_X2 (l : Launch) (G : aw_G) (E : aw_E) (s : Int32 × aw_S) : Prop := aw_W l M_Fa_findEarly G B_Fa_findEarly E 2 [(0, .ref 41), (1, .ref 24), (2, .int s.1)] [] xA s.2 0 0
def z_Fa_findEarly_Y2 (l : Launch) (G : aw_G) (E : aw_E) (x : (aw_S)) : Prop := aw_W l M_Fa_findEarly G B_Fa_findEarly E 114 [] [] xA x 0 0
def z_Fa_findEarly_X26 (l : Launch) (G : aw_G) (E : aw_E) (σ : aw_S) (v2 : Int32) (s : Int32 × Int32) : Prop := aw_W l M_Fa_findEarly G B_Fa_findEarly E 26 [(0, .ref 41), (1, .ref 24), (2, .int v2), (3, .int s.1), (4, .int s.2)] [] xA σ 0 0
def z_Fa_findEarly_Y26 (l : Launch) (G : aw_G) (E : aw_E) (σ : aw_S) (v2 : Int32) (x : (Int32)) : Prop := aw_W l M_Fa_findEarly G B_Fa_findEarly E 94 [(0, .ref 41), (1, .ref 24), (2, .int v2), (3, .int x)] [] xA σ 0 0
set_option maxRecDepth 100000 in
set_option maxHeartbeats 4000000 in
theorem t_Fa_findEarly_J86 {l : Launch} {G : aw_G} {E : aw_E} {σ : aw_S} {v2 : Int32} {v4 : Int32} {k0 : Int32} {k1 : Int32} {t : (Int32) ⊕ (Int32 × Int32)} (h : m_Fa_findEarly_J86 σ v2 v4 k0 k1 = some t) (hz : Sum.elim (z_Fa_findEarly_Y26 l G E σ v2) (z_Fa_findEarly_X26 l G E σ v2) t) : aw_W l M_Fa_findEarly G B_Fa_findEarly E 86 [(0, .ref 41), (1, .ref 24), (2, .int v2), (4, .int v4)] [.int k1, .int k0] xA σ 0 0 := by
  unfold m_Fa_findEarly_J86 at h
  refine aw_ior (pc := 86) dX1_findEarly_86 ?_
  refine aw_nmI (fun x11 e_x11 => ?_)
  replace h := aw_lte h x11 e_x11
  refine aw_istore_n (pc := 87) [(3, .int x11), (0, .ref 41), (1, .ref 24), (2, .int v2), (4, .int v4)] dX1_findEarly_87 (by decide) rfl ?_
  obtain ⟨x12, e_x12⟩ : ∃ z, z = (v4 + (1 : Int32)) := ⟨_, rfl⟩
  replace h := aw_lte h x12 e_x12
  refine aw_iinc (pc := 88) (q := 4) (v := x12) [(4, .int x12), (3, .int x11), (0, .ref 41), (1, .ref 24), (2, .int v2)] dX1_findEarly_88 rfl e_x12.symm (by decide) rfl ?_
  refine aw_goto (pc := 91) (tgt := 26) dX1_findEarly_91 (by decide) ?_
  refine aw_sub [2, 3, 4, 1, 0] rfl ?_
  cases h
  exact hz
set_option maxRecDepth 100000 in
set_option maxHeartbeats 4000000 in
theorem t_Fa_findEarly_B26 {l : Launch} {G : aw_G} {E : aw_E} {σ : aw_S} {v2 : Int32} {v3 : Int32} {v4 : Int32} {t : (Int32) ⊕ (Int32 × Int32)} (h : m_Fa_findEarly_B26 σ v2 v3 v4 = some t) (hz : Sum.elim (z_Fa_findEarly_Y26 l G E σ v2) (z_Fa_findEarly_X26 l G E σ v2) t) : aw_W l M_Fa_findEarly G B_Fa_findEarly E 26 [(0, .ref 41), (1, .ref 24), (2, .int v2), (3, .int v3), (4, .int v4)] [] xA σ 0 0 := by
  unfold m_Fa_findEarly_B26 at h
  refine aw_iload (pc := 26) (q := 4) dX1_findEarly_26 rfl ?_
  refine aw_aload_n (pc := 28) (q := 1) dX1_findEarly_28 rfl ?_
  refine aw_iload_n (pc := 29) (q := 2) dX1_findEarly_29 rfl ?_
  obtain ⟨r3, e4, h⟩ := aw_bde h
  refine aw_cV1 (pc := 30) [.int v2] (c_Gr_edgesTo e4) yy_Gr_edgesTo.1 wm_555 yy_Gr_edgesTo.2.1 yy_Gr_edgesTo.2.2 xA_24 ⟨_, _, rfl⟩ rfl ⟨Nat.le_of_ble_eq_true rfl, Nat.le_of_ble_eq_true rfl⟩ ⟨Nat.zero_le _, Nat.zero_le _⟩ (Nat.le_of_ble_eq_true rfl) dX1_findEarly_30 ?_
  refine aw_icmp_ge (pc := 33) (tgt := 94) dX1_findEarly_33 (by decide) (fun c5 => ?_) (fun c5 => ?_)
  · replace h := aw_ifp c5 h
    refine aw_sub [0, 1, 2, 3] rfl ?_
    cases h
    exact hz
  · replace h := aw_ifn c5 h
    refine aw_aload_n (pc := 36) (q := 1) dX1_findEarly_36 rfl ?_
    refine aw_iload_n (pc := 37) (q := 2) dX1_findEarly_37 rfl ?_
    refine aw_iload (pc := 38) (q := 4) dX1_findEarly_38 rfl ?_
    obtain ⟨r6, e7, h⟩ := aw_bde h
    refine aw_cV1 (pc := 40) [.int v2, .int v4] (c_Gr_kthSource e7) yy_Gr_kthSource.1 wm_556 yy_Gr_kthSource.2.1 yy_Gr_kthSource.2.2 xA_24 ⟨_, _, rfl⟩ rfl ⟨Nat.le_of_ble_eq_true rfl, Nat.le_of_ble_eq_true rfl⟩ ⟨Nat.zero_le _, Nat.zero_le _⟩ (Nat.le_of_ble_eq_true rfl) dX1_findEarly_40 ?_
    refine aw_istore (pc := 43) [(5, .int r6), (0, .ref 41), (1, .ref 24), (2, .int v2), (3, .int v3), (4, .int v4)] dX1_findEarly_43 (by decide) rfl ?_
    refine aw_iload_n (pc := 45) (q := 4) dX1_findEarly_45 rfl ?_
    refine aw_aload_n (pc := 46) (q := 2) dX1_findEarly_46 rfl ?_
    refine aw_iload (pc := 47) (q := 0) dX1_findEarly_47 rfl ?_
    obtain ⟨r8, e9, h⟩ := aw_bde h
    refine aw_cV1 (pc := 49) [.int r6] (c_Gr_isNode e9) yy_Gr_isNode.1 wm_557 yy_Gr_isNode.2.1 yy_Gr_isNode.2.2 xA_24 ⟨_, _, rfl⟩ rfl ⟨Nat.le_of_ble_eq_true rfl, Nat.le_of_ble_eq_true rfl⟩ ⟨Nat.zero_le _, Nat.zero_le _⟩ (Nat.le_of_ble_eq_true rfl) dX1_findEarly_49 ?_
    refine aw_if_eq (pc := 52) (tgt := 85) dX1_findEarly_52 (by decide) (fun c10 => ?_) (fun c10 => ?_)
    · replace h := aw_ifp c10 h
      refine aw_iconst (pc := 85) (v := 0) dX1_findEarly_85 (by decide) ?_
      refine aw_sub [1, 2, 3, 5] rfl ?_
      exact t_Fa_findEarly_J86 h hz
    · replace h := aw_ifn c10 h
      refine aw_aload_n (pc := 55) (q := 1) dX1_findEarly_55 rfl ?_
      refine aw_getC (pc := 56) fd_X1_22.r xA_41 rfl dX1_findEarly_56 ?_
      refine aw_iload (pc := 59) (q := 0) dX1_findEarly_59 rfl ?_
      obtain ⟨g13, h⟩ := aw_gde h
      refine aw_iald (pc := 61) xA_48 g13 dX1_findEarly_61 ?_
      refine aw_iconst (pc := 62) (v := -1) dX1_findEarly_62 (by decide) ?_
      refine aw_ixor (pc := 63) dX1_findEarly_63 ?_
      refine aw_aload_n (pc := 64) (q := 1) dX1_findEarly_64 rfl ?_
      refine aw_getC (pc := 65) fd_X1_25.r xA_41 rfl dX1_findEarly_65 ?_
      refine aw_iload (pc := 68) (q := 0) dX1_findEarly_68 rfl ?_
      obtain ⟨g14, h⟩ := aw_gde h
      refine aw_iald (pc := 70) xA_49 g14 dX1_findEarly_70 ?_
      refine aw_aload_n (pc := 71) (q := 1) dX1_findEarly_71 rfl ?_
      refine aw_getC (pc := 72) fd_X1_28.r xA_41 rfl dX1_findEarly_72 ?_
      refine aw_iload (pc := 75) (q := 0) dX1_findEarly_75 rfl ?_
      obtain ⟨g15, h⟩ := aw_gde h
      refine aw_iald (pc := 77) xA_50 g15 dX1_findEarly_77 ?_
      refine aw_ior (pc := 78) dX1_findEarly_78 ?_
      refine aw_iconst (pc := 79) (v := -1) dX1_findEarly_79 (by decide) ?_
      refine aw_ixor (pc := 80) dX1_findEarly_80 ?_
      refine aw_ior (pc := 81) dX1_findEarly_81 ?_
      refine aw_goto (pc := 82) (tgt := 86) dX1_findEarly_82 (by decide) ?_
      refine aw_sub [1, 2, 3, 5] rfl ?_
      exact t_Fa_findEarly_J86 h hz
set_option maxRecDepth 100000 in
set_option maxHeartbeats 4000000 in
theorem t_Fa_findEarly_J22 {l : Launch} {G : aw_G} {E : aw_E} {σ : aw_S} {v2 : Int32} {k0 : Int32} {t : (aw_S) ⊕ (Int32 × aw_S)} (h : m_Fa_findEarly_J22 σ v2 k0 = some t) (hz : Sum.elim (z_Fa_findEarly_Y2 l G E) (z_Fa_findEarly_X2 l G E) t) : aw_W l M_Fa_findEarly G B_Fa_findEarly E 22 [(0, .ref 41), (1, .ref 24), (2, .int v2)] [.int k0] xA σ 0 0 := by
  unfold m_Fa_findEarly_J22 at h
  refine aw_istore_n (pc := 22) [(3, .int k0), (0, .ref 41), (1, .ref 24), (2, .int v2)] dX1_findEarly_22 (by decide) rfl ?_
  refine aw_iconst (pc := 23) (v := 0) dX1_findEarly_23 (by decide) ?_
  refine aw_istore (pc := 24) [(4, .int ((0 : Int32))), (3, .int k0), (0, .ref 41), (1, .ref 24), (2, .int v2)] dX1_findEarly_24 (by decide) rfl ?_
  obtain ⟨x16, hl17, h⟩ := aw_bde h
  have K18 : z_Fa_findEarly_Y26 l G E σ v2 x16 := by
    show aw_W l M_Fa_findEarly G B_Fa_findEarly E 94 [(0, .ref 41), (1, .ref 24), (2, .int v2), (3, .int x16)] [] xA σ 0 0
    refine aw_aload_n (pc := 94) (q := 0) dX1_findEarly_94 rfl ?_
    refine aw_getC (pc := 95) fd_X1_31.r xA_41 rfl dX1_findEarly_95 ?_
    refine aw_iload_n (pc := 98) (q := 2) dX1_findEarly_98 rfl ?_
    refine aw_aload_n (pc := 99) (q := 0) dX1_findEarly_99 rfl ?_
    refine aw_getC (pc := 100) fd_X1_25.r xA_41 rfl dX1_findEarly_100 ?_
    refine aw_iload_n (pc := 103) (q := 2) dX1_findEarly_103 rfl ?_
    obtain ⟨g19, h⟩ := aw_gde h
    refine aw_iald (pc := 104) xA_49 g19 dX1_findEarly_104 ?_
    refine aw_iload_n (pc := 105) (q := 3) dX1_findEarly_105 rfl ?_
    refine aw_iand (pc := 106) dX1_findEarly_106 ?_
    obtain ⟨g20, h⟩ := aw_gde h
    refine aw_iast (pc := 107) xA_51 g20 dX1_findEarly_107 ?_
    refine aw_nmS (fun s21 e_s21 => ?_)
    replace h := aw_lte h s21 e_s21
    obtain ⟨x22, e_x22⟩ : ∃ z, z = (v2 + (1 : Int32)) := ⟨_, rfl⟩
    replace h := aw_lte h x22 e_x22
    refine aw_iinc (pc := 108) (q := 2) (v := x22) [(2, .int x22), (0, .ref 41), (1, .ref 24), (3, .int x16)] dX1_findEarly_108 rfl e_x22.symm (by decide) rfl ?_
    refine aw_goto (pc := 111) (tgt := 2) dX1_findEarly_111 (by decide) ?_
    refine aw_sub [1, 2, 0] rfl ?_
    cases h
    exact hz
  refine aw_sub [2, 3, 4, 1, 0] rfl ?_
  show z_Fa_findEarly_X26 l G E σ v2 ((k0, (0 : Int32)))
  exact aw_lp_X (Xp := z_Fa_findEarly_X26 l G E σ v2) (Y := z_Fa_findEarly_Y26 l G E σ v2) hl17 K18 (fun s t hf hz => t_Fa_findEarly_B26 hf hz)
set_option maxRecDepth 100000 in
set_option maxHeartbeats 4000000 in
theorem t_Fa_findEarly_B2 {l : Launch} {G : aw_G} {E : aw_E} {σ : aw_S} {v2 : Int32} {t : (aw_S) ⊕ (Int32 × aw_S)} (h : m_Fa_findEarly_B2 σ v2 = some t) (hz : Sum.elim (z_Fa_findEarly_Y2 l G E) (z_Fa_findEarly_X2 l G E) t) : aw_W l M_Fa_findEarly G B_Fa_findEarly E 2 [(0, .ref 41), (1, .ref 24), (2, .int v2)] [] xA σ 0 0 := by
  unfold m_Fa_findEarly_B2 at h
  refine aw_iload_n (pc := 2) (q := 2) dX1_findEarly_2 rfl ?_
  refine aw_aload_n (pc := 3) (q := 1) dX1_findEarly_3 rfl ?_
  refine aw_getI (pc := 4) fd_X1_67.r xA_24 rfl dX1_findEarly_4 ?_
  refine aw_icmp_ge (pc := 7) (tgt := 114) dX1_findEarly_7 (by decide) (fun c1 => ?_) (fun c1 => ?_)
  · replace h := aw_ifp c1 h
    refine aw_sub [] rfl ?_
    cases h
    exact hz
  · replace h := aw_ifn c1 h
    refine aw_iload_n (pc := 10) (q := 2) dX1_findEarly_10 rfl ?_
    refine aw_if_ne (pc := 11) (tgt := 21) dX1_findEarly_11 (by decide) (fun c2 => ?_) (fun c2 => ?_)
    · replace h := aw_ifn c2 h
      refine aw_iconst (pc := 21) (v := 0) dX1_findEarly_21 (by decide) ?_
      exact t_Fa_findEarly_J22 h hz
    · replace h := aw_ifp c2 h
      refine aw_aload_n (pc := 14) (q := 0) dX1_findEarly_14 rfl ?_
      refine aw_getI (pc := 15) fd_X1_64.r xA_41 rfl dX1_findEarly_15 ?_
      refine aw_goto (pc := 18) (tgt := 22) dX1_findEarly_18 (by decide) ?_
      exact t_Fa_findEarly_J22 h hz
set_option maxRecDepth 100000 in
set_option maxHeartbeats 4000000 in
theorem t_Fa_findEarly {l : Launch} {G : aw_G} {E : aw_E} {σ : aw_S} {t : aw_S} (h : m_Fa_findEarly σ = some t) (hE : E = (none, xA, t)) : aw_W l M_Fa_findEarly G B_Fa_findEarly E 0 [(0, .ref 41), (1, .ref 24)] [] xA σ 0 0 := by
  unfold m_Fa_findEarly at h
  refine aw_iconst (pc := 0) (v := 0) dX1_findEarly_0 (by decide) ?_
  refine aw_istore_n (pc := 1) [(2, .int ((0 : Int32))), (0, .ref 41), (1, .ref 24)] dX1_findEarly_1 (by decide) rfl ?_
  obtain ⟨x23, hl24, h⟩ := aw_bde h
  have K25 : z_Fa_findEarly_Y2 l G E x23 := by
    show aw_W l M_Fa_findEarly G B_Fa_findEarly E 114 [] [] xA x23 0 0
    cases h
    subst hE
    exact aw_vret rfl ⟨Nat.zero_le _, Nat.zero_le _⟩ dX1_findEarly_114
  refine aw_sub [1, 2, 0] rfl ?_
  show z_Fa_findEarly_X2 l G E (((0 : Int32), σ))
  exact aw_lp_X (Xp := z_Fa_findEarly_X2 l G E) (Y := z_Fa_findEarly_Y2 l G E) hl24 K25 (fun s t hf hz => t_Fa_findEarly_B2 hf hz)
theorem c_Fa_findEarly {l : Launch} {G : aw_G} {σ : aw_S} {t : aw_S} (h : m_Fa_findEarly σ = some t) : aw_Ct l yX1_findEarly M_Fa_findEarly G B_Fa_findEarly [.ref 41, .ref 24] xA σ (none, xA, t) := aw_Ct_of (by decide) rfl (fun h => by cases h) (Nat.le_of_ble_eq_true rfl) (t_Fa_findEarly h rfl)
/-! LateMover$Facts.findDelayed(LLateMover$Graph;)V -/
def z_Fa_findDelayed_X2 (l : Launch) (G : aw_G) (E : aw_E) (s : Int32 × aw_S) : Prop := aw_W l M_Fa_findDelayed G B_Fa_findDelayed E 2 [(0, .ref 41), (1, .ref 24), (2, .int s.1)] [] xA s.2 0 0
def z_Fa_findDelayed_Y2 (l : Launch) (G : aw_G) (E : aw_E) (x : (aw_S)) : Prop := aw_W l M_Fa_findDelayed G B_Fa_findDelayed E 51 [(0, .ref 41), (1, .ref 24)] [] xA x 0 0
set_option maxRecDepth 100000 in
set_option maxHeartbeats 4000000 in
theorem t_Fa_findDelayed_J33 {l : Launch} {G : aw_G} {E : aw_E} {σ : aw_S} {v2 : Int32} {k1 : Int32} {k2 : Int32} {k3 : Int32} {t : (aw_S) ⊕ (Int32 × aw_S)} (h : m_Fa_findDelayed_J33 σ v2 k1 k2 k3 = some t) (hz : Sum.elim (z_Fa_findDelayed_Y2 l G E) (z_Fa_findDelayed_X2 l G E) t) : aw_W l M_Fa_findDelayed G B_Fa_findDelayed E 33 [(0, .ref 41), (1, .ref 24), (2, .int v2)] [.int k3, .int k2, .int k1, .ref 42] xA σ 0 0 := by
  unfold m_Fa_findDelayed_J33 at h
  refine aw_iconst (pc := 33) (v := 0) dX1_findDelayed_33 (by decide) ?_
  refine aw_aload_n (pc := 34) (q := 0) dX1_findDelayed_34 rfl ?_
  refine aw_getC (pc := 35) fd_X1_18.r xA_41 rfl dX1_findDelayed_35 ?_
  refine aw_iload_n (pc := 38) (q := 2) dX1_findDelayed_38 rfl ?_
  obtain ⟨g4, h⟩ := aw_gde h
  refine aw_iald (pc := 39) xA_47 g4 dX1_findDelayed_39 ?_
  refine aw_iconst (pc := 40) (v := -1) dX1_findDelayed_40 (by decide) ?_
  refine aw_ixor (pc := 41) dX1_findDelayed_41 ?_
  obtain ⟨s7, e6, h⟩ := aw_bde h
  refine aw_cV0 (pc := 42) [.int k1, .int k2, .int k3, .int ((0 : Int32)), .int (((σ.1 47 v2.toNatClampNeg) ^^^ (-1 : Int32)))] (c_Fl_tell e6) yy_Fl_tell.1 wm_491 yy_Fl_tell.2.1 yy_Fl_tell.2.2 xA_42 ⟨_, _, rfl⟩ rfl ⟨Nat.le_of_ble_eq_true rfl, Nat.le_of_ble_eq_true rfl⟩ ⟨Nat.zero_le _, Nat.zero_le _⟩ (Nat.le_of_ble_eq_true rfl) dX1_findDelayed_42 ?_
  obtain ⟨x8, e_x8⟩ : ∃ z, z = (v2 + (1 : Int32)) := ⟨_, rfl⟩
  replace h := aw_lte h x8 e_x8
  refine aw_iinc (pc := 45) (q := 2) (v := x8) [(2, .int x8), (0, .ref 41), (1, .ref 24)] dX1_findDelayed_45 rfl e_x8.symm (by decide) rfl ?_
  refine aw_goto (pc := 48) (tgt := 2) dX1_findDelayed_48 (by decide) ?_
  refine aw_sub [1, 2, 0] rfl ?_
  cases h
  exact hz
set_option maxRecDepth 100000 in
set_option maxHeartbeats 4000000 in
theorem t_Fa_findDelayed_B2 {l : Launch} {G : aw_G} {E : aw_E} {σ : aw_S} {v2 : Int32} {t : (aw_S) ⊕ (Int32 × aw_S)} (h : m_Fa_findDelayed_B2 σ v2 = some t) (hz : Sum.elim (z_Fa_findDelayed_Y2 l G E) (z_Fa_findDelayed_X2 l G E) t) : aw_W l M_Fa_findDelayed G B_Fa_findDelayed E 2 [(0, .ref 41), (1, .ref 24), (2, .int v2)] [] xA σ 0 0 := by
  unfold m_Fa_findDelayed_B2 at h
  refine aw_iload_n (pc := 2) (q := 2) dX1_findDelayed_2 rfl ?_
  refine aw_aload_n (pc := 3) (q := 1) dX1_findDelayed_3 rfl ?_
  refine aw_getI (pc := 4) fd_X1_67.r xA_24 rfl dX1_findDelayed_4 ?_
  refine aw_icmp_ge (pc := 7) (tgt := 51) dX1_findDelayed_7 (by decide) (fun c1 => ?_) (fun c1 => ?_)
  · replace h := aw_ifp c1 h
    refine aw_sub [0, 1] rfl ?_
    cases h
    exact hz
  · replace h := aw_ifn c1 h
    refine aw_aload_n (pc := 10) (q := 0) dX1_findDelayed_10 rfl ?_
    refine aw_getC (pc := 11) fd_X1_12.r xA_41 rfl dX1_findDelayed_11 ?_
    refine aw_iload_n (pc := 14) (q := 2) dX1_findDelayed_14 rfl ?_
    refine aw_aload_n (pc := 15) (q := 0) dX1_findDelayed_15 rfl ?_
    refine aw_getC (pc := 16) fd_X1_31.r xA_41 rfl dX1_findDelayed_16 ?_
    refine aw_iload_n (pc := 19) (q := 2) dX1_findDelayed_19 rfl ?_
    obtain ⟨g2, h⟩ := aw_gde h
    refine aw_iald (pc := 20) xA_51 g2 dX1_findDelayed_20 ?_
    refine aw_iload_n (pc := 21) (q := 2) dX1_findDelayed_21 rfl ?_
    refine aw_if_ne (pc := 22) (tgt := 29) dX1_findDelayed_22 (by decide) (fun c3 => ?_) (fun c3 => ?_)
    · replace h := aw_ifn c3 h
      refine aw_aload_n (pc := 29) (q := 0) dX1_findDelayed_29 rfl ?_
      refine aw_getI (pc := 30) fd_X1_64.r xA_41 rfl dX1_findDelayed_30 ?_
      exact t_Fa_findDelayed_J33 h hz
    · replace h := aw_ifp c3 h
      refine aw_iconst (pc := 25) (v := 0) dX1_findDelayed_25 (by decide) ?_
      refine aw_goto (pc := 26) (tgt := 33) dX1_findDelayed_26 (by decide) ?_
      exact t_Fa_findDelayed_J33 h hz
set_option maxRecDepth 100000 in
set_option maxHeartbeats 4000000 in
theorem t_Fa_findDelayed {l : Launch} {G : aw_G} {E : aw_E} {σ : aw_S} {t : aw_S} (h : m_Fa_findDelayed σ = some t) (hE : E = (none, xA, t)) : aw_W l M_Fa_findDelayed G B_Fa_findDelayed E 0 [(0, .ref 41), (1, .ref 24)] [] xA σ 0 0 := by
  unfold m_Fa_findDelayed at h
  refine aw_iconst (pc := 0) (v := 0) dX1_findDelayed_0 (by decide) ?_
  refine aw_istore_n (pc := 1) [(2, .int ((0 : Int32))), (0, .ref 41), (1, .ref 24)] dX1_findDelayed_1 (by decide) rfl ?_
  obtain ⟨x9, hl10, h⟩ := aw_bde h
  have K11 : z_Fa_findDelayed_Y2 l G E x9 := by
    show aw_W l M_Fa_findDelayed G B_Fa_findDelayed E 51 [(0, .ref 41), (1, .ref 24)] [] xA x9 0 0
    refine aw_aload_n (pc := 51) (q := 0) dX1_findDelayed_51 rfl ?_
    refine aw_getC (pc := 52) fd_X1_12.r xA_41 rfl dX1_findDelayed_52 ?_
    refine aw_aload_n (pc := 55) (q := 1) dX1_findDelayed_55 rfl ?_
    refine aw_aload_n (pc := 56) (q := 0) dX1_findDelayed_56 rfl ?_
    refine aw_getC (pc := 57) fd_X1_34.r xA_41 rfl dX1_findDelayed_57 ?_
    refine aw_aload_n (pc := 60) (q := 0) dX1_findDelayed_60 rfl ?_
    refine aw_getI (pc := 61) fd_X1_64.r xA_41 rfl dX1_findDelayed_61 ?_
    refine aw_iconst (pc := 64) (v := 0) dX1_findDelayed_64 (by decide) ?_
    refine aw_iconst (pc := 65) (v := 1) dX1_findDelayed_65 (by decide) ?_
    obtain ⟨s14, e13, h⟩ := aw_bde h
    refine aw_cV0 (pc := 66) [.ref 24, .ref 52, .int ((x9.1 41 13)), .int ((0 : Int32)), .int ((1 : Int32))] (c_Fl_solve xA_52 e13) yy_Fl_solve.1 wm_495 yy_Fl_solve.2.1 yy_Fl_solve.2.2 xA_42 ⟨_, _, rfl⟩ rfl ⟨Nat.le_of_ble_eq_true rfl, Nat.le_of_ble_eq_true rfl⟩ ⟨Nat.zero_le _, Nat.zero_le _⟩ (Nat.le_of_ble_eq_true rfl) dX1_findDelayed_66 ?_
    cases h
    subst hE
    exact aw_vret rfl ⟨Nat.zero_le _, Nat.zero_le _⟩ dX1_findDelayed_69
  refine aw_sub [1, 2, 0] rfl ?_
  show z_Fa_findDelayed_X2 l G E (((0 : Int32), σ))
  exact aw_lp_X (Xp := z_Fa_findDelayed_X2 l G E) (Y := z_Fa_findDelayed_Y2 l G E) hl10 K11 (fun s t hf hz => t_Fa_findDelayed_B2 hf hz)
theorem c_Fa_findDelayed {l : Launch} {G : aw_G} {σ : aw_S} {t : aw_S} (h : m_Fa_findDelayed σ = some t) : aw_Ct l yX1_findDelayed M_Fa_findDelayed G B_Fa_findDelayed [.ref 41, .ref 24] xA σ (none, xA, t) := aw_Ct_of (by decide) rfl (fun h => by cases h) (Nat.le_of_ble_eq_true rfl) (t_Fa_findDelayed h rfl)
/-! LateMover$Facts.findLate(LLateMover$Graph;)V -/
def z_Fa_findLate_X2 (l : Launch) (G : aw_G) (E : aw_E) (s : Int32 × aw_S) : Prop := aw_W l M_Fa_findLate G B_Fa_findLate E 2 [(0, .ref 41), (1, .ref 24), (2, .int s.1)] [] xA s.2 0 0
def z_Fa_findLate_Y2 (l : Launch) (G : aw_G) (E : aw_E) (x : (aw_S)) : Prop := aw_W l M_Fa_findLate G B_Fa_findLate E 95 [] [] xA x 0 0
def z_Fa_findLate_X18 (l : Launch) (G : aw_G) (E : aw_E) (σ : aw_S) (v2 : Int32) (s : Int32 × Int32) : Prop := aw_W l M_Fa_findLate G B_Fa_findLate E 18 [(0, .ref 41), (1, .ref 24), (2, .int v2), (3, .int s.1), (4, .int s.2)] [] xA σ 0 0
def z_Fa_findLate_Y18 (l : Launch) (G : aw_G) (E : aw_E) (σ : aw_S) (v2 : Int32) (x : (Int32)) : Prop := aw_W l M_Fa_findLate G B_Fa_findLate E 66 [(0, .ref 41), (1, .ref 24), (2, .int v2), (3, .int x)] [] xA σ 0 0
set_option maxRecDepth 100000 in
set_option maxHeartbeats 4000000 in
theorem t_Fa_findLate_J58 {l : Launch} {G : aw_G} {E : aw_E} {σ : aw_S} {v2 : Int32} {v4 : Int32} {k0 : Int32} {k1 : Int32} {t : (Int32) ⊕ (Int32 × Int32)} (h : m_Fa_findLate_J58 σ v2 v4 k0 k1 = some t) (hz : Sum.elim (z_Fa_findLate_Y18 l G E σ v2) (z_Fa_findLate_X18 l G E σ v2) t) : aw_W l M_Fa_findLate G B_Fa_findLate E 58 [(0, .ref 41), (1, .ref 24), (2, .int v2), (4, .int v4)] [.int k1, .int k0] xA σ 0 0 := by
  unfold m_Fa_findLate_J58 at h
  refine aw_iand (pc := 58) dX1_findLate_58 ?_
  refine aw_nmI (fun x11 e_x11 => ?_)
  replace h := aw_lte h x11 e_x11
  refine aw_istore_n (pc := 59) [(3, .int x11), (0, .ref 41), (1, .ref 24), (2, .int v2), (4, .int v4)] dX1_findLate_59 (by decide) rfl ?_
  obtain ⟨x12, e_x12⟩ : ∃ z, z = (v4 + (1 : Int32)) := ⟨_, rfl⟩
  replace h := aw_lte h x12 e_x12
  refine aw_iinc (pc := 60) (q := 4) (v := x12) [(4, .int x12), (3, .int x11), (0, .ref 41), (1, .ref 24), (2, .int v2)] dX1_findLate_60 rfl e_x12.symm (by decide) rfl ?_
  refine aw_goto (pc := 63) (tgt := 18) dX1_findLate_63 (by decide) ?_
  refine aw_sub [2, 3, 4, 1, 0] rfl ?_
  cases h
  exact hz
set_option maxRecDepth 100000 in
set_option maxHeartbeats 4000000 in
theorem t_Fa_findLate_B18 {l : Launch} {G : aw_G} {E : aw_E} {σ : aw_S} {v2 : Int32} {v3 : Int32} {v4 : Int32} {t : (Int32) ⊕ (Int32 × Int32)} (h : m_Fa_findLate_B18 σ v2 v3 v4 = some t) (hz : Sum.elim (z_Fa_findLate_Y18 l G E σ v2) (z_Fa_findLate_X18 l G E σ v2) t) : aw_W l M_Fa_findLate G B_Fa_findLate E 18 [(0, .ref 41), (1, .ref 24), (2, .int v2), (3, .int v3), (4, .int v4)] [] xA σ 0 0 := by
  unfold m_Fa_findLate_B18 at h
  refine aw_iload (pc := 18) (q := 4) dX1_findLate_18 rfl ?_
  refine aw_aload_n (pc := 20) (q := 1) dX1_findLate_20 rfl ?_
  refine aw_iload_n (pc := 21) (q := 2) dX1_findLate_21 rfl ?_
  obtain ⟨r3, e4, h⟩ := aw_bde h
  refine aw_cV1 (pc := 22) [.int v2] (c_Gr_edgesFrom e4) yy_Gr_edgesFrom.1 wm_490 yy_Gr_edgesFrom.2.1 yy_Gr_edgesFrom.2.2 xA_24 ⟨_, _, rfl⟩ rfl ⟨Nat.le_of_ble_eq_true rfl, Nat.le_of_ble_eq_true rfl⟩ ⟨Nat.zero_le _, Nat.zero_le _⟩ (Nat.le_of_ble_eq_true rfl) dX1_findLate_22 ?_
  refine aw_icmp_ge (pc := 25) (tgt := 66) dX1_findLate_25 (by decide) (fun c5 => ?_) (fun c5 => ?_)
  · replace h := aw_ifp c5 h
    refine aw_sub [0, 1, 2, 3] rfl ?_
    cases h
    exact hz
  · replace h := aw_ifn c5 h
    refine aw_aload_n (pc := 28) (q := 1) dX1_findLate_28 rfl ?_
    refine aw_iload_n (pc := 29) (q := 2) dX1_findLate_29 rfl ?_
    refine aw_iload (pc := 30) (q := 4) dX1_findLate_30 rfl ?_
    obtain ⟨r6, e7, h⟩ := aw_bde h
    refine aw_cV1 (pc := 32) [.int v2, .int v4] (c_Gr_kthTarget e7) yy_Gr_kthTarget.1 wm_566 yy_Gr_kthTarget.2.1 yy_Gr_kthTarget.2.2 xA_24 ⟨_, _, rfl⟩ rfl ⟨Nat.le_of_ble_eq_true rfl, Nat.le_of_ble_eq_true rfl⟩ ⟨Nat.zero_le _, Nat.zero_le _⟩ (Nat.le_of_ble_eq_true rfl) dX1_findLate_32 ?_
    refine aw_istore (pc := 35) [(5, .int r6), (0, .ref 41), (1, .ref 24), (2, .int v2), (3, .int v3), (4, .int v4)] dX1_findLate_35 (by decide) rfl ?_
    refine aw_iload_n (pc := 37) (q := 4) dX1_findLate_37 rfl ?_
    refine aw_aload_n (pc := 38) (q := 2) dX1_findLate_38 rfl ?_
    refine aw_iload (pc := 39) (q := 0) dX1_findLate_39 rfl ?_
    obtain ⟨r8, e9, h⟩ := aw_bde h
    refine aw_cV1 (pc := 41) [.int r6] (c_Gr_isNode e9) yy_Gr_isNode.1 wm_557 yy_Gr_isNode.2.1 yy_Gr_isNode.2.2 xA_24 ⟨_, _, rfl⟩ rfl ⟨Nat.le_of_ble_eq_true rfl, Nat.le_of_ble_eq_true rfl⟩ ⟨Nat.zero_le _, Nat.zero_le _⟩ (Nat.le_of_ble_eq_true rfl) dX1_findLate_41 ?_
    refine aw_if_eq (pc := 44) (tgt := 57) dX1_findLate_44 (by decide) (fun c10 => ?_) (fun c10 => ?_)
    · replace h := aw_ifp c10 h
      refine aw_iconst (pc := 57) (v := 0) dX1_findLate_57 (by decide) ?_
      refine aw_sub [1, 2, 3, 5] rfl ?_
      exact t_Fa_findLate_J58 h hz
    · replace h := aw_ifn c10 h
      refine aw_aload_n (pc := 47) (q := 1) dX1_findLate_47 rfl ?_
      refine aw_getC (pc := 48) fd_X1_34.r xA_41 rfl dX1_findLate_48 ?_
      refine aw_iload (pc := 51) (q := 0) dX1_findLate_51 rfl ?_
      obtain ⟨g13, h⟩ := aw_gde h
      refine aw_iald (pc := 53) xA_52 g13 dX1_findLate_53 ?_
      refine aw_goto (pc := 54) (tgt := 58) dX1_findLate_54 (by decide) ?_
      refine aw_sub [1, 2, 3, 5] rfl ?_
      exact t_Fa_findLate_J58 h hz
set_option maxRecDepth 100000 in
set_option maxHeartbeats 4000000 in
theorem t_Fa_findLate_B2 {l : Launch} {G : aw_G} {E : aw_E} {σ : aw_S} {v2 : Int32} {t : (aw_S) ⊕ (Int32 × aw_S)} (h : m_Fa_findLate_B2 σ v2 = some t) (hz : Sum.elim (z_Fa_findLate_Y2 l G E) (z_Fa_findLate_X2 l G E) t) : aw_W l M_Fa_findLate G B_Fa_findLate E 2 [(0, .ref 41), (1, .ref 24), (2, .int v2)] [] xA σ 0 0 := by
  unfold m_Fa_findLate_B2 at h
  refine aw_iload_n (pc := 2) (q := 2) dX1_findLate_2 rfl ?_
  refine aw_aload_n (pc := 3) (q := 1) dX1_findLate_3 rfl ?_
  refine aw_getI (pc := 4) fd_X1_67.r xA_24 rfl dX1_findLate_4 ?_
  refine aw_icmp_ge (pc := 7) (tgt := 95) dX1_findLate_7 (by decide) (fun c1 => ?_) (fun c1 => ?_)
  · replace h := aw_ifp c1 h
    refine aw_sub [] rfl ?_
    cases h
    exact hz
  · replace h := aw_ifn c1 h
    refine aw_aload_n (pc := 10) (q := 0) dX1_findLate_10 rfl ?_
    refine aw_getI (pc := 11) fd_X1_64.r xA_41 rfl dX1_findLate_11 ?_
    refine aw_nmI (fun x2 e_x2 => ?_)
    replace h := aw_lte h x2 e_x2
    refine aw_istore_n (pc := 14) [(3, .int x2), (0, .ref 41), (1, .ref 24), (2, .int v2)] dX1_findLate_14 (by decide) rfl ?_
    refine aw_iconst (pc := 15) (v := 0) dX1_findLate_15 (by decide) ?_
    refine aw_istore (pc := 16) [(4, .int ((0 : Int32))), (3, .int x2), (0, .ref 41), (1, .ref 24), (2, .int v2)] dX1_findLate_16 (by decide) rfl ?_
    obtain ⟨x14, hl15, h⟩ := aw_bde h
    have K16 : z_Fa_findLate_Y18 l G E σ v2 x14 := by
      show aw_W l M_Fa_findLate G B_Fa_findLate E 66 [(0, .ref 41), (1, .ref 24), (2, .int v2), (3, .int x14)] [] xA σ 0 0
      refine aw_aload_n (pc := 66) (q := 0) dX1_findLate_66 rfl ?_
      refine aw_getC (pc := 67) fd_X1_37.r xA_41 rfl dX1_findLate_67 ?_
      refine aw_iload_n (pc := 70) (q := 2) dX1_findLate_70 rfl ?_
      refine aw_aload_n (pc := 71) (q := 0) dX1_findLate_71 rfl ?_
      refine aw_getC (pc := 72) fd_X1_34.r xA_41 rfl dX1_findLate_72 ?_
      refine aw_iload_n (pc := 75) (q := 2) dX1_findLate_75 rfl ?_
      obtain ⟨g17, h⟩ := aw_gde h
      refine aw_iald (pc := 76) xA_52 g17 dX1_findLate_76 ?_
      refine aw_aload_n (pc := 77) (q := 0) dX1_findLate_77 rfl ?_
      refine aw_getC (pc := 78) fd_X1_18.r xA_41 rfl dX1_findLate_78 ?_
      refine aw_iload_n (pc := 81) (q := 2) dX1_findLate_81 rfl ?_
      obtain ⟨g18, h⟩ := aw_gde h
      refine aw_iald (pc := 82) xA_47 g18 dX1_findLate_82 ?_
      refine aw_iload_n (pc := 83) (q := 3) dX1_findLate_83 rfl ?_
      refine aw_iconst (pc := 84) (v := -1) dX1_findLate_84 (by decide) ?_
      refine aw_ixor (pc := 85) dX1_findLate_85 ?_
      refine aw_ior (pc := 86) dX1_findLate_86 ?_
      refine aw_iand (pc := 87) dX1_findLate_87 ?_
      obtain ⟨g19, h⟩ := aw_gde h
      refine aw_iast (pc := 88) xA_53 g19 dX1_findLate_88 ?_
      refine aw_nmS (fun s20 e_s20 => ?_)
      replace h := aw_lte h s20 e_s20
      obtain ⟨x21, e_x21⟩ : ∃ z, z = (v2 + (1 : Int32)) := ⟨_, rfl⟩
      replace h := aw_lte h x21 e_x21
      refine aw_iinc (pc := 89) (q := 2) (v := x21) [(2, .int x21), (0, .ref 41), (1, .ref 24), (3, .int x14)] dX1_findLate_89 rfl e_x21.symm (by decide) rfl ?_
      refine aw_goto (pc := 92) (tgt := 2) dX1_findLate_92 (by decide) ?_
      refine aw_sub [1, 2, 0] rfl ?_
      cases h
      exact hz
    refine aw_sub [2, 3, 4, 1, 0] rfl ?_
    show z_Fa_findLate_X18 l G E σ v2 ((x2, (0 : Int32)))
    exact aw_lp_X (Xp := z_Fa_findLate_X18 l G E σ v2) (Y := z_Fa_findLate_Y18 l G E σ v2) hl15 K16 (fun s t hf hz => t_Fa_findLate_B18 hf hz)
set_option maxRecDepth 100000 in
set_option maxHeartbeats 4000000 in
theorem t_Fa_findLate {l : Launch} {G : aw_G} {E : aw_E} {σ : aw_S} {t : aw_S} (h : m_Fa_findLate σ = some t) (hE : E = (none, xA, t)) : aw_W l M_Fa_findLate G B_Fa_findLate E 0 [(0, .ref 41), (1, .ref 24)] [] xA σ 0 0 := by
  unfold m_Fa_findLate at h
  refine aw_iconst (pc := 0) (v := 0) dX1_findLate_0 (by decide) ?_
  refine aw_istore_n (pc := 1) [(2, .int ((0 : Int32))), (0, .ref 41), (1, .ref 24)] dX1_findLate_1 (by decide) rfl ?_
  obtain ⟨x22, hl23, h⟩ := aw_bde h
  have K24 : z_Fa_findLate_Y2 l G E x22 := by
    show aw_W l M_Fa_findLate G B_Fa_findLate E 95 [] [] xA x22 0 0
    cases h
    subst hE
    exact aw_vret rfl ⟨Nat.zero_le _, Nat.zero_le _⟩ dX1_findLate_95
  refine aw_sub [1, 2, 0] rfl ?_
  show z_Fa_findLate_X2 l G E (((0 : Int32), σ))
  exact aw_lp_X (Xp := z_Fa_findLate_X2 l G E) (Y := z_Fa_findLate_Y2 l G E) hl23 K24 (fun s t hf hz => t_Fa_findLate_B2 hf hz)
theorem c_Fa_findLate {l : Launch} {G : aw_G} {σ : aw_S} {t : aw_S} (h : m_Fa_findLate σ = some t) : aw_Ct l yX1_findLate M_Fa_findLate G B_Fa_findLate [.ref 41, .ref 24] xA σ (none, xA, t) := aw_Ct_of (by decide) rfl (fun h => by cases h) (Nat.le_of_ble_eq_true rfl) (t_Fa_findLate h rfl)
/-! LateMover$Facts.findAlone(LLateMover$Graph;)V -/
def z_Fa_findAlone_X2 (l : Launch) (G : aw_G) (E : aw_E) (s : Int32 × aw_S) : Prop := aw_W l M_Fa_findAlone G B_Fa_findAlone E 2 [(0, .ref 41), (1, .ref 24), (2, .int s.1)] [] xA s.2 0 0
def z_Fa_findAlone_Y2 (l : Launch) (G : aw_G) (E : aw_E) (x : (aw_S)) : Prop := aw_W l M_Fa_findAlone G B_Fa_findAlone E 43 [(0, .ref 41), (1, .ref 24)] [] xA x 0 0
set_option maxRecDepth 100000 in
set_option maxHeartbeats 4000000 in
theorem t_Fa_findAlone_B2 {l : Launch} {G : aw_G} {E : aw_E} {σ : aw_S} {v2 : Int32} {t : (aw_S) ⊕ (Int32 × aw_S)} (h : m_Fa_findAlone_B2 σ v2 = some t) (hz : Sum.elim (z_Fa_findAlone_Y2 l G E) (z_Fa_findAlone_X2 l G E) t) : aw_W l M_Fa_findAlone G B_Fa_findAlone E 2 [(0, .ref 41), (1, .ref 24), (2, .int v2)] [] xA σ 0 0 := by
  unfold m_Fa_findAlone_B2 at h
  refine aw_iload_n (pc := 2) (q := 2) dX1_findAlone_2 rfl ?_
  refine aw_aload_n (pc := 3) (q := 1) dX1_findAlone_3 rfl ?_
  refine aw_getI (pc := 4) fd_X1_67.r xA_24 rfl dX1_findAlone_4 ?_
  refine aw_icmp_ge (pc := 7) (tgt := 43) dX1_findAlone_7 (by decide) (fun c1 => ?_) (fun c1 => ?_)
  · replace h := aw_ifp c1 h
    refine aw_sub [0, 1] rfl ?_
    cases h
    exact hz
  · replace h := aw_ifn c1 h
    refine aw_aload_n (pc := 10) (q := 0) dX1_findAlone_10 rfl ?_
    refine aw_getC (pc := 11) fd_X1_12.r xA_41 rfl dX1_findAlone_11 ?_
    refine aw_iload_n (pc := 14) (q := 2) dX1_findAlone_14 rfl ?_
    refine aw_iconst (pc := 15) (v := 0) dX1_findAlone_15 (by decide) ?_
    refine aw_aload_n (pc := 16) (q := 0) dX1_findAlone_16 rfl ?_
    refine aw_getI (pc := 17) fd_X1_64.r xA_41 rfl dX1_findAlone_17 ?_
    refine aw_aload_n (pc := 20) (q := 0) dX1_findAlone_20 rfl ?_
    refine aw_getC (pc := 21) fd_X1_37.r xA_41 rfl dX1_findAlone_21 ?_
    refine aw_iload_n (pc := 24) (q := 2) dX1_findAlone_24 rfl ?_
    obtain ⟨g2, h⟩ := aw_gde h
    refine aw_iald (pc := 25) xA_53 g2 dX1_findAlone_25 ?_
    refine aw_aload_n (pc := 26) (q := 0) dX1_findAlone_26 rfl ?_
    refine aw_getC (pc := 27) fd_X1_18.r xA_41 rfl dX1_findAlone_27 ?_
    refine aw_iload_n (pc := 30) (q := 2) dX1_findAlone_30 rfl ?_
    obtain ⟨g3, h⟩ := aw_gde h
    refine aw_iald (pc := 31) xA_47 g3 dX1_findAlone_31 ?_
    refine aw_iconst (pc := 32) (v := -1) dX1_findAlone_32 (by decide) ?_
    refine aw_ixor (pc := 33) dX1_findAlone_33 ?_
    obtain ⟨s6, e5, h⟩ := aw_bde h
    refine aw_cV0 (pc := 34) [.int v2, .int ((0 : Int32)), .int ((σ.1 41 13)), .int ((σ.1 53 v2.toNatClampNeg)), .int (((σ.1 47 v2.toNatClampNeg) ^^^ (-1 : Int32)))] (c_Fl_tell e5) yy_Fl_tell.1 wm_491 yy_Fl_tell.2.1 yy_Fl_tell.2.2 xA_42 ⟨_, _, rfl⟩ rfl ⟨Nat.le_of_ble_eq_true rfl, Nat.le_of_ble_eq_true rfl⟩ ⟨Nat.zero_le _, Nat.zero_le _⟩ (Nat.le_of_ble_eq_true rfl) dX1_findAlone_34 ?_
    obtain ⟨x7, e_x7⟩ : ∃ z, z = (v2 + (1 : Int32)) := ⟨_, rfl⟩
    replace h := aw_lte h x7 e_x7
    refine aw_iinc (pc := 37) (q := 2) (v := x7) [(2, .int x7), (0, .ref 41), (1, .ref 24)] dX1_findAlone_37 rfl e_x7.symm (by decide) rfl ?_
    refine aw_goto (pc := 40) (tgt := 2) dX1_findAlone_40 (by decide) ?_
    refine aw_sub [1, 2, 0] rfl ?_
    cases h
    exact hz
set_option maxRecDepth 100000 in
set_option maxHeartbeats 4000000 in
theorem t_Fa_findAlone {l : Launch} {G : aw_G} {E : aw_E} {σ : aw_S} {t : aw_S} (h : m_Fa_findAlone σ = some t) (hE : E = (none, xA, t)) : aw_W l M_Fa_findAlone G B_Fa_findAlone E 0 [(0, .ref 41), (1, .ref 24)] [] xA σ 0 0 := by
  unfold m_Fa_findAlone at h
  refine aw_iconst (pc := 0) (v := 0) dX1_findAlone_0 (by decide) ?_
  refine aw_istore_n (pc := 1) [(2, .int ((0 : Int32))), (0, .ref 41), (1, .ref 24)] dX1_findAlone_1 (by decide) rfl ?_
  obtain ⟨x8, hl9, h⟩ := aw_bde h
  have K10 : z_Fa_findAlone_Y2 l G E x8 := by
    show aw_W l M_Fa_findAlone G B_Fa_findAlone E 43 [(0, .ref 41), (1, .ref 24)] [] xA x8 0 0
    refine aw_aload_n (pc := 43) (q := 0) dX1_findAlone_43 rfl ?_
    refine aw_getC (pc := 44) fd_X1_12.r xA_41 rfl dX1_findAlone_44 ?_
    refine aw_aload_n (pc := 47) (q := 1) dX1_findAlone_47 rfl ?_
    refine aw_aload_n (pc := 48) (q := 0) dX1_findAlone_48 rfl ?_
    refine aw_getC (pc := 49) fd_X1_40.r xA_41 rfl dX1_findAlone_49 ?_
    refine aw_aload_n (pc := 52) (q := 0) dX1_findAlone_52 rfl ?_
    refine aw_getI (pc := 53) fd_X1_64.r xA_41 rfl dX1_findAlone_53 ?_
    refine aw_iconst (pc := 56) (v := 1) dX1_findAlone_56 (by decide) ?_
    refine aw_iconst (pc := 57) (v := 1) dX1_findAlone_57 (by decide) ?_
    obtain ⟨s13, e12, h⟩ := aw_bde h
    refine aw_cV0 (pc := 58) [.ref 24, .ref 54, .int ((x8.1 41 13)), .int ((1 : Int32)), .int ((1 : Int32))] (c_Fl_solve xA_54 e12) yy_Fl_solve.1 wm_495 yy_Fl_solve.2.1 yy_Fl_solve.2.2 xA_42 ⟨_, _, rfl⟩ rfl ⟨Nat.le_of_ble_eq_true rfl, Nat.le_of_ble_eq_true rfl⟩ ⟨Nat.zero_le _, Nat.zero_le _⟩ (Nat.le_of_ble_eq_true rfl) dX1_findAlone_58 ?_
    cases h
    subst hE
    exact aw_vret rfl ⟨Nat.zero_le _, Nat.zero_le _⟩ dX1_findAlone_61
  refine aw_sub [1, 2, 0] rfl ?_
  show z_Fa_findAlone_X2 l G E (((0 : Int32), σ))
  exact aw_lp_X (Xp := z_Fa_findAlone_X2 l G E) (Y := z_Fa_findAlone_Y2 l G E) hl9 K10 (fun s t hf hz => t_Fa_findAlone_B2 hf hz)
theorem c_Fa_findAlone {l : Launch} {G : aw_G} {σ : aw_S} {t : aw_S} (h : m_Fa_findAlone σ = some t) : aw_Ct l yX1_findAlone M_Fa_findAlone G B_Fa_findAlone [.ref 41, .ref 24] xA σ (none, xA, t) := aw_Ct_of (by decide) rfl (fun h => by cases h) (Nat.le_of_ble_eq_true rfl) (t_Fa_findAlone h rfl)
/-! LateMover$Facts.build(LLateMover$Graph;)V -/
def z_Fa_build_X17 (l : Launch) (G : aw_G) (E : aw_E) (s : Int32 × aw_S) : Prop := aw_W l M_Fa_build G B_Fa_build E 17 [(0, .ref 41), (1, .ref 24), (2, .int s.1)] [] xA s.2 0 0
def z_Fa_build_Y17 (l : Launch) (G : aw_G) (E : aw_E) (x : (aw_S)) : Prop := aw_W l M_Fa_build G B_Fa_build E 53 [(0, .ref 41), (1, .ref 24)] [] xA x 0 0
set_option maxRecDepth 100000 in
set_option maxHeartbeats 4000000 in
theorem t_Fa_build_B17 {l : Launch} {G : aw_G} {E : aw_E} {σ : aw_S} {v2 : Int32} {t : (aw_S) ⊕ (Int32 × aw_S)} (h : m_Fa_build_B17 σ v2 = some t) (hz : Sum.elim (z_Fa_build_Y17 l G E) (z_Fa_build_X17 l G E) t) : aw_W l M_Fa_build G B_Fa_build E 17 [(0, .ref 41), (1, .ref 24), (2, .int v2)] [] xA σ 0 0 := by
  unfold m_Fa_build_B17 at h
  refine aw_iload_n (pc := 17) (q := 2) dX1_build_17 rfl ?_
  refine aw_aload_n (pc := 18) (q := 1) dX1_build_18 rfl ?_
  refine aw_getI (pc := 19) fd_X1_67.r xA_24 rfl dX1_build_19 ?_
  refine aw_icmp_ge (pc := 22) (tgt := 53) dX1_build_22 (by decide) (fun c2 => ?_) (fun c2 => ?_)
  · replace h := aw_ifp c2 h
    refine aw_sub [0, 1] rfl ?_
    cases h
    exact hz
  · replace h := aw_ifn c2 h
    refine aw_aload_n (pc := 25) (q := 0) dX1_build_25 rfl ?_
    refine aw_getC (pc := 26) fd_X1_18.r xA_41 rfl dX1_build_26 ?_
    refine aw_iload_n (pc := 29) (q := 2) dX1_build_29 rfl ?_
    refine aw_aload_n (pc := 30) (q := 1) dX1_build_30 rfl ?_
    refine aw_iload_n (pc := 31) (q := 2) dX1_build_31 rfl ?_
    obtain ⟨r3, e4, h⟩ := aw_bde h
    refine aw_cS1 (pc := 32) [.ref 24, .int v2] (c_Fa_usedAt e4) yy_Fa_usedAt.1 wm_453 yy_Fa_usedAt.2 rfl ⟨Nat.le_of_ble_eq_true rfl, Nat.le_of_ble_eq_true rfl⟩ ⟨Nat.zero_le _, Nat.zero_le _⟩ (Nat.le_of_ble_eq_true rfl) dX1_build_32 ?_
    obtain ⟨g5, h⟩ := aw_gde h
    refine aw_iast (pc := 35) xA_47 g5 dX1_build_35 ?_
    refine aw_nmS (fun s6 e_s6 => ?_)
    replace h := aw_lte h s6 e_s6
    refine aw_aload_n (pc := 36) (q := 0) dX1_build_36 rfl ?_
    refine aw_getC (pc := 37) fd_X1_22.r xA_41 rfl dX1_build_37 ?_
    refine aw_iload_n (pc := 40) (q := 2) dX1_build_40 rfl ?_
    refine aw_aload_n (pc := 41) (q := 1) dX1_build_41 rfl ?_
    refine aw_iload_n (pc := 42) (q := 2) dX1_build_42 rfl ?_
    obtain ⟨r7, e8, h⟩ := aw_bde h
    refine aw_cS1 (pc := 43) [.ref 24, .int v2] (c_Fa_keptAt e8) yy_Fa_keptAt.1 wm_461 yy_Fa_keptAt.2 rfl ⟨Nat.le_of_ble_eq_true rfl, Nat.le_of_ble_eq_true rfl⟩ ⟨Nat.zero_le _, Nat.zero_le _⟩ (Nat.le_of_ble_eq_true rfl) dX1_build_43 ?_
    obtain ⟨g9, h⟩ := aw_gde h
    refine aw_iast (pc := 46) xA_48 g9 dX1_build_46 ?_
    refine aw_nmS (fun s10 e_s10 => ?_)
    replace h := aw_lte h s10 e_s10
    obtain ⟨x11, e_x11⟩ : ∃ z, z = (v2 + (1 : Int32)) := ⟨_, rfl⟩
    replace h := aw_lte h x11 e_x11
    refine aw_iinc (pc := 47) (q := 2) (v := x11) [(2, .int x11), (0, .ref 41), (1, .ref 24)] dX1_build_47 rfl e_x11.symm (by decide) rfl ?_
    refine aw_goto (pc := 50) (tgt := 17) dX1_build_50 (by decide) ?_
    refine aw_sub [1, 2, 0] rfl ?_
    cases h
    exact hz
set_option maxRecDepth 100000 in
set_option maxHeartbeats 4000000 in
theorem t_Fa_build {l : Launch} {G : aw_G} {E : aw_E} {σ : aw_S} {t : aw_S} (h : m_Fa_build σ = some t) (hE : E = (none, xA, t)) : aw_W l M_Fa_build G B_Fa_build E 0 [(0, .ref 41), (1, .ref 24)] [] xA σ 0 0 := by
  unfold m_Fa_build at h
  refine aw_aload_n (pc := 0) (q := 0) dX1_build_0 rfl ?_
  refine aw_iconst (pc := 1) (v := 1) dX1_build_1 (by decide) ?_
  refine aw_aload_n (pc := 2) (q := 1) dX1_build_2 rfl ?_
  refine aw_getC (pc := 3) fd_X1_52 xA_24 rfl dX1_build_3 ?_
  refine aw_getI (pc := 6) fd_X1_58.r xA_25 rfl dX1_build_6 ?_
  refine aw_ishl (pc := 9) dX1_build_9 ?_
  refine aw_iconst (pc := 10) (v := 1) dX1_build_10 (by decide) ?_
  refine aw_isub (pc := 11) dX1_build_11 ?_
  refine aw_putI (pc := 12) fd_X1_64 xA_41 rfl (fun _ => rfl) (fun _ => rfl) dX1_build_12 ?_
  refine aw_nmS (fun s1 e_s1 => ?_)
  replace h := aw_lte h s1 e_s1
  refine aw_iconst (pc := 15) (v := 0) dX1_build_15 (by decide) ?_
  refine aw_istore_n (pc := 16) [(2, .int ((0 : Int32))), (0, .ref 41), (1, .ref 24)] dX1_build_16 (by decide) rfl ?_
  obtain ⟨x12, hl13, h⟩ := aw_bde h
  have K14 : z_Fa_build_Y17 l G E x12 := by
    show aw_W l M_Fa_build G B_Fa_build E 53 [(0, .ref 41), (1, .ref 24)] [] xA x12 0 0
    refine aw_aload_n (pc := 53) (q := 0) dX1_build_53 rfl ?_
    refine aw_aload_n (pc := 54) (q := 1) dX1_build_54 rfl ?_
    obtain ⟨s17, e16, h⟩ := aw_bde h
    refine aw_cV0 (pc := 55) [.ref 24] (c_Fa_findSound e16) yy_Fa_findSound.1 wm_485 yy_Fa_findSound.2.1 yy_Fa_findSound.2.2 xA_41 ⟨_, _, rfl⟩ rfl ⟨Nat.le_of_ble_eq_true rfl, Nat.le_of_ble_eq_true rfl⟩ ⟨Nat.zero_le _, Nat.zero_le _⟩ (Nat.le_of_ble_eq_true rfl) dX1_build_55 ?_
    refine aw_aload_n (pc := 58) (q := 0) dX1_build_58 rfl ?_
    refine aw_aload_n (pc := 59) (q := 1) dX1_build_59 rfl ?_
    obtain ⟨s20, e19, h⟩ := aw_bde h
    refine aw_cV0 (pc := 60) [.ref 24] (c_Fa_findLive e19) yy_Fa_findLive.1 wm_531 yy_Fa_findLive.2.1 yy_Fa_findLive.2.2 xA_41 ⟨_, _, rfl⟩ rfl ⟨Nat.le_of_ble_eq_true rfl, Nat.le_of_ble_eq_true rfl⟩ ⟨Nat.zero_le _, Nat.zero_le _⟩ (Nat.le_of_ble_eq_true rfl) dX1_build_60 ?_
    refine aw_aload_n (pc := 63) (q := 0) dX1_build_63 rfl ?_
    refine aw_aload_n (pc := 64) (q := 1) dX1_build_64 rfl ?_
    obtain ⟨s23, e22, h⟩ := aw_bde h
    refine aw_cV0 (pc := 65) [.ref 24] (c_Fa_findNeeded e22) yy_Fa_findNeeded.1 wm_539 yy_Fa_findNeeded.2.1 yy_Fa_findNeeded.2.2 xA_41 ⟨_, _, rfl⟩ rfl ⟨Nat.le_of_ble_eq_true rfl, Nat.le_of_ble_eq_true rfl⟩ ⟨Nat.zero_le _, Nat.zero_le _⟩ (Nat.le_of_ble_eq_true rfl) dX1_build_65 ?_
    refine aw_aload_n (pc := 68) (q := 0) dX1_build_68 rfl ?_
    refine aw_aload_n (pc := 69) (q := 1) dX1_build_69 rfl ?_
    obtain ⟨s26, e25, h⟩ := aw_bde h
    refine aw_cV0 (pc := 70) [.ref 24] (c_Fa_findAtHand e25) yy_Fa_findAtHand.1 wm_543 yy_Fa_findAtHand.2.1 yy_Fa_findAtHand.2.2 xA_41 ⟨_, _, rfl⟩ rfl ⟨Nat.le_of_ble_eq_true rfl, Nat.le_of_ble_eq_true rfl⟩ ⟨Nat.zero_le _, Nat.zero_le _⟩ (Nat.le_of_ble_eq_true rfl) dX1_build_70 ?_
    refine aw_aload_n (pc := 73) (q := 0) dX1_build_73 rfl ?_
    refine aw_aload_n (pc := 74) (q := 1) dX1_build_74 rfl ?_
    obtain ⟨s29, e28, h⟩ := aw_bde h
    refine aw_cV0 (pc := 75) [.ref 24] (c_Fa_findMaybe e28) yy_Fa_findMaybe.1 wm_547 yy_Fa_findMaybe.2.1 yy_Fa_findMaybe.2.2 xA_41 ⟨_, _, rfl⟩ rfl ⟨Nat.le_of_ble_eq_true rfl, Nat.le_of_ble_eq_true rfl⟩ ⟨Nat.zero_le _, Nat.zero_le _⟩ (Nat.le_of_ble_eq_true rfl) dX1_build_75 ?_
    refine aw_aload_n (pc := 78) (q := 0) dX1_build_78 rfl ?_
    refine aw_aload_n (pc := 79) (q := 1) dX1_build_79 rfl ?_
    obtain ⟨s32, e31, h⟩ := aw_bde h
    refine aw_cV0 (pc := 80) [.ref 24] (c_Fa_findEarly e31) yy_Fa_findEarly.1 wm_551 yy_Fa_findEarly.2.1 yy_Fa_findEarly.2.2 xA_41 ⟨_, _, rfl⟩ rfl ⟨Nat.le_of_ble_eq_true rfl, Nat.le_of_ble_eq_true rfl⟩ ⟨Nat.zero_le _, Nat.zero_le _⟩ (Nat.le_of_ble_eq_true rfl) dX1_build_80 ?_
    refine aw_aload_n (pc := 83) (q := 0) dX1_build_83 rfl ?_
    refine aw_aload_n (pc := 84) (q := 1) dX1_build_84 rfl ?_
    obtain ⟨s35, e34, h⟩ := aw_bde h
    refine aw_cV0 (pc := 85) [.ref 24] (c_Fa_findDelayed e34) yy_Fa_findDelayed.1 wm_558 yy_Fa_findDelayed.2.1 yy_Fa_findDelayed.2.2 xA_41 ⟨_, _, rfl⟩ rfl ⟨Nat.le_of_ble_eq_true rfl, Nat.le_of_ble_eq_true rfl⟩ ⟨Nat.zero_le _, Nat.zero_le _⟩ (Nat.le_of_ble_eq_true rfl) dX1_build_85 ?_
    refine aw_aload_n (pc := 88) (q := 0) dX1_build_88 rfl ?_
    refine aw_aload_n (pc := 89) (q := 1) dX1_build_89 rfl ?_
    obtain ⟨s38, e37, h⟩ := aw_bde h
    refine aw_cV0 (pc := 90) [.ref 24] (c_Fa_findLate e37) yy_Fa_findLate.1 wm_562 yy_Fa_findLate.2.1 yy_Fa_findLate.2.2 xA_41 ⟨_, _, rfl⟩ rfl ⟨Nat.le_of_ble_eq_true rfl, Nat.le_of_ble_eq_true rfl⟩ ⟨Nat.zero_le _, Nat.zero_le _⟩ (Nat.le_of_ble_eq_true rfl) dX1_build_90 ?_
    refine aw_aload_n (pc := 93) (q := 0) dX1_build_93 rfl ?_
    refine aw_aload_n (pc := 94) (q := 1) dX1_build_94 rfl ?_
    obtain ⟨s41, e40, h⟩ := aw_bde h
    refine aw_cV0 (pc := 95) [.ref 24] (c_Fa_findAlone e40) yy_Fa_findAlone.1 wm_567 yy_Fa_findAlone.2.1 yy_Fa_findAlone.2.2 xA_41 ⟨_, _, rfl⟩ rfl ⟨Nat.le_of_ble_eq_true rfl, Nat.le_of_ble_eq_true rfl⟩ ⟨Nat.zero_le _, Nat.zero_le _⟩ (Nat.le_of_ble_eq_true rfl) dX1_build_95 ?_
    cases h
    subst hE
    exact aw_vret rfl ⟨Nat.zero_le _, Nat.zero_le _⟩ dX1_build_98
  refine aw_sub [1, 2, 0] rfl ?_
  show z_Fa_build_X17 l G E (((0 : Int32), s1))
  exact aw_lp_X (Xp := z_Fa_build_X17 l G E) (Y := z_Fa_build_Y17 l G E) hl13 K14 (fun s t hf hz => t_Fa_build_B17 hf hz)
theorem c_Fa_build {l : Launch} {G : aw_G} {σ : aw_S} {t : aw_S} (h : m_Fa_build σ = some t) : aw_Ct l yX1_build M_Fa_build G B_Fa_build [.ref 41, .ref 24] xA σ (none, xA, t) := aw_Ct_of (by decide) rfl (fun h => by cases h) (Nat.le_of_ble_eq_true rfl) (t_Fa_build h rfl)
/-! java/util/Arrays.fill([JJ)V -/
def z_Ar_fillJ_X6 (l : Launch) (G : aw_G) (E : aw_E) (v0 : Nat) (v1 : Int64) (v4 : Int32) (n0 : Nat) (s : Int32 × aw_S) : Prop := aw_W l M_Ar_fillJ G B_Ar_fillJ E 6 [(0, .ref v0), (1, .long v1), (3, .int s.1), (4, .int v4)] [] xA s.2 0 0
def z_Ar_fillJ_Y6 (l : Launch) (G : aw_G) (E : aw_E) (v0 : Nat) (v1 : Int64) (v4 : Int32) (n0 : Nat) (x : (aw_S)) : Prop := aw_W l M_Ar_fillJ G B_Ar_fillJ E 22 [] [] xA x 0 0
set_option maxRecDepth 100000 in
set_option maxHeartbeats 4000000 in
theorem t_Ar_fillJ_B6 {l : Launch} {G : aw_G} {E : aw_E} {σ : aw_S} {v0 : Nat} {v1 : Int64} {v4 : Int32} {n0 : Nat} {v3 : Int32} (h_v0 : xA[v0]? = some (.inr (3, n0, aw_no))) {t : (aw_S) ⊕ (Int32 × aw_S)} (h : m_Ar_fillJ_B6 σ v0 v1 v4 n0 v3 = some t) (hz : Sum.elim (z_Ar_fillJ_Y6 l G E v0 v1 v4 n0) (z_Ar_fillJ_X6 l G E v0 v1 v4 n0) t) : aw_W l M_Ar_fillJ G B_Ar_fillJ E 6 [(0, .ref v0), (1, .long v1), (3, .int v3), (4, .int v4)] [] xA σ 0 0 := by
  unfold m_Ar_fillJ_B6 at h
  refine aw_iload_n (pc := 6) (q := 2) dJ7_fill_d0a16_6 rfl ?_
  refine aw_iload (pc := 7) (q := 3) dJ7_fill_d0a16_7 rfl ?_
  refine aw_icmp_ge (pc := 9) (tgt := 22) dJ7_fill_d0a16_9 (by decide) (fun c2 => ?_) (fun c2 => ?_)
  · replace h := aw_ifp c2 h
    refine aw_sub [] rfl ?_
    cases h
    exact hz
  · replace h := aw_ifn c2 h
    refine aw_aload_n (pc := 12) (q := 0) dJ7_fill_d0a16_12 rfl ?_
    refine aw_iload_n (pc := 13) (q := 2) dJ7_fill_d0a16_13 rfl ?_
    refine aw_lload_n (pc := 14) (q := 1) dJ7_fill_d0a16_14 rfl ?_
    obtain ⟨g3, h⟩ := aw_gde h
    refine aw_last (pc := 15) h_v0 g3 dJ7_fill_d0a16_15 ?_
    refine aw_nmS (fun s4 e_s4 => ?_)
    replace h := aw_lte h s4 e_s4
    obtain ⟨x5, e_x5⟩ : ∃ z, z = (v3 + (1 : Int32)) := ⟨_, rfl⟩
    replace h := aw_lte h x5 e_x5
    refine aw_iinc (pc := 16) (q := 2) (v := x5) [(3, .int x5), (0, .ref v0), (1, .long v1), (4, .int v4)] dJ7_fill_d0a16_16 rfl e_x5.symm (by decide) rfl ?_
    refine aw_goto (pc := 19) (tgt := 6) dJ7_fill_d0a16_19 (by decide) ?_
    refine aw_sub [1, 2, 0, 3] rfl ?_
    cases h
    exact hz
set_option maxRecDepth 100000 in
set_option maxHeartbeats 4000000 in
theorem t_Ar_fillJ {l : Launch} {G : aw_G} {E : aw_E} {σ : aw_S} {p0 : Nat} {n0 : Nat} {p1 : Int64} (h_p0 : xA[p0]? = some (.inr (3, n0, aw_no))) {t : aw_S} (h : m_Ar_fillJ σ p0 n0 p1 = some t) (hE : E = (none, xA, t)) : aw_W l M_Ar_fillJ G B_Ar_fillJ E 0 [(0, .ref p0), (1, .long p1)] [] xA σ 0 0 := by
  unfold m_Ar_fillJ at h
  refine aw_iconst (pc := 0) (v := 0) dJ7_fill_d0a16_0 (by decide) ?_
  refine aw_istore_n (pc := 1) [(3, .int ((0 : Int32))), (0, .ref p0), (1, .long p1)] dJ7_fill_d0a16_1 (by decide) rfl ?_
  refine aw_aload_n (pc := 2) (q := 1) dJ7_fill_d0a16_2 rfl ?_
  refine aw_alen (pc := 3) (v := (Int32.ofNat n0)) h_p0 (by decide) rfl dJ7_fill_d0a16_3 ?_
  refine aw_nmI (fun x1 e_x1 => ?_)
  replace h := aw_lte h x1 e_x1
  refine aw_istore (pc := 4) [(4, .int x1), (3, .int ((0 : Int32))), (0, .ref p0), (1, .long p1)] dJ7_fill_d0a16_4 (by decide) rfl ?_
  obtain ⟨x6, hl7, h⟩ := aw_bde h
  have K8 : z_Ar_fillJ_Y6 l G E p0 p1 x1 n0 x6 := by
    show aw_W l M_Ar_fillJ G B_Ar_fillJ E 22 [] [] xA x6 0 0
    cases h
    subst hE
    exact aw_vret rfl ⟨Nat.zero_le _, Nat.zero_le _⟩ dJ7_fill_d0a16_22
  refine aw_sub [2, 3, 1, 0] rfl ?_
  show z_Ar_fillJ_X6 l G E p0 p1 x1 n0 (((0 : Int32), σ))
  exact aw_lp_X (Xp := z_Ar_fillJ_X6 l G E p0 p1 x1 n0) (Y := z_Ar_fillJ_Y6 l G E p0 p1 x1 n0) hl7 K8 (fun s t hf hz => t_Ar_fillJ_B6 h_p0 hf hz)
theorem c_Ar_fillJ {l : Launch} {G : aw_G} {σ : aw_S} {p0 : Nat} {n0 : Nat} {p1 : Int64} (h_p0 : xA[p0]? = some (.inr (3, n0, aw_no))) {t : aw_S} (h : m_Ar_fillJ σ p0 n0 p1 = some t) : aw_Ct l yJ7_fill_d0a16 M_Ar_fillJ G B_Ar_fillJ [.ref p0, .long p1] xA σ (none, xA, t) := aw_Ct_of (by decide) rfl (fun h => by cases h) (Nat.le_of_ble_eq_true rfl) (t_Ar_fillJ h_p0 h rfl)
/-! LateMover$Loops.narrowsAt(LLateMover$Graph;I)Z -/
def z_Lo_narrowsAt_X18 (l : Launch) (G : aw_G) (E : aw_E) (σ : aw_S) (v2 : Int32) (s : Int64 × Int64 × Int32) : Prop := aw_W l M_Lo_narrowsAt G B_Lo_narrowsAt E 18 [(0, .ref 58), (1, .ref 24), (2, .int v2), (3, .long s.1), (5, .long s.2.1), (7, .int s.2.2)] [] xA σ 0 0
def z_Lo_narrowsAt_Y18 (l : Launch) (G : aw_G) (E : aw_E) (σ : aw_S) (v2 : Int32) (x : (Int64 × Int64)) : Prop := aw_W l M_Lo_narrowsAt G B_Lo_narrowsAt E 91 [(0, .ref 58), (2, .int v2), (3, .long x.1), (5, .long x.2)] [] xA σ 0 0
set_option maxRecDepth 100000 in
set_option maxHeartbeats 4000000 in
theorem t_Lo_narrowsAt_J82 {l : Launch} {G : aw_G} {E : aw_E} {σ : aw_S} {v2 : Int32} {v3 : Int64} {v7 : Int32} {k0 : Int64} {k1 : Int64} {t : (Int64 × Int64) ⊕ (Int64 × Int64 × Int32)} (h : m_Lo_narrowsAt_J82 σ v2 v3 v7 k0 k1 = some t) (hz : Sum.elim (z_Lo_narrowsAt_Y18 l G E σ v2) (z_Lo_narrowsAt_X18 l G E σ v2) t) : aw_W l M_Lo_narrowsAt G B_Lo_narrowsAt E 82 [(0, .ref 58), (1, .ref 24), (2, .int v2), (3, .long v3), (7, .int v7)] [.long k1, .long k0] xA σ 0 0 := by
  unfold m_Lo_narrowsAt_J82 at h
  refine aw_land (pc := 82) dX4_narrowsAt_82 ?_
  refine aw_nmL (fun x14 e_x14 => ?_)
  replace h := aw_lte h x14 e_x14
  refine aw_lstore (pc := 83) [(5, .long x14), (0, .ref 58), (1, .ref 24), (2, .int v2), (3, .long v3), (7, .int v7)] dX4_narrowsAt_83 (by decide) rfl ?_
  obtain ⟨x15, e_x15⟩ : ∃ z, z = (v7 + (1 : Int32)) := ⟨_, rfl⟩
  replace h := aw_lte h x15 e_x15
  refine aw_iinc (pc := 85) (q := 5) (v := x15) [(7, .int x15), (5, .long x14), (0, .ref 58), (1, .ref 24), (2, .int v2), (3, .long v3)] dX4_narrowsAt_85 rfl e_x15.symm (by decide) rfl ?_
  refine aw_goto (pc := 88) (tgt := 18) dX4_narrowsAt_88 (by decide) ?_
  refine aw_sub [2, 3, 4, 5, 1, 0] rfl ?_
  cases h
  exact hz
set_option maxRecDepth 100000 in
set_option maxHeartbeats 4000000 in
theorem t_Lo_narrowsAt_J58 {l : Launch} {G : aw_G} {E : aw_E} {σ : aw_S} {v2 : Int32} {v5 : Int64} {v7 : Int32} {v8 : Int32} {k0 : Int64} {k1 : Int64} {t : (Int64 × Int64) ⊕ (Int64 × Int64 × Int32)} (h : m_Lo_narrowsAt_J58 σ v2 v5 v7 v8 k0 k1 = some t) (hz : Sum.elim (z_Lo_narrowsAt_Y18 l G E σ v2) (z_Lo_narrowsAt_X18 l G E σ v2) t) : aw_W l M_Lo_narrowsAt G B_Lo_narrowsAt E 58 [(0, .ref 58), (1, .ref 24), (2, .int v2), (5, .long v5), (7, .int v7), (8, .int v8)] [.long k1, .long k0] xA σ 0 0 := by
  unfold m_Lo_narrowsAt_J58 at h
  refine aw_land (pc := 58) dX4_narrowsAt_58 ?_
  refine aw_nmL (fun x10 e_x10 => ?_)
  replace h := aw_lte h x10 e_x10
  refine aw_lstore_n (pc := 59) [(3, .long x10), (0, .ref 58), (1, .ref 24), (2, .int v2), (5, .long v5), (7, .int v7), (8, .int v8)] dX4_narrowsAt_59 (by decide) rfl ?_
  refine aw_lload (pc := 60) (q := 4) dX4_narrowsAt_60 rfl ?_
  refine aw_aload_n (pc := 62) (q := 2) dX4_narrowsAt_62 rfl ?_
  refine aw_iload (pc := 63) (q := 6) dX4_narrowsAt_63 rfl ?_
  obtain ⟨r11, e12, h⟩ := aw_bde h
  refine aw_cV1 (pc := 65) [.int v8] (c_Gr_isNode e12) yy_Gr_isNode.1 wm_591 yy_Gr_isNode.2.1 yy_Gr_isNode.2.2 xA_24 ⟨_, _, rfl⟩ rfl ⟨Nat.le_of_ble_eq_true rfl, Nat.le_of_ble_eq_true rfl⟩ ⟨Nat.zero_le _, Nat.zero_le _⟩ (Nat.le_of_ble_eq_true rfl) dX4_narrowsAt_65 ?_
  refine aw_if_eq (pc := 68) (tgt := 81) dX4_narrowsAt_68 (by decide) (fun c13 => ?_) (fun c13 => ?_)
  · replace h := aw_ifp c13 h
    refine aw_lconst (pc := 81) (v := 0) dX4_narrowsAt_81 (by decide) ?_
    refine aw_sub [1, 2, 3, 0, 5] rfl ?_
    exact t_Lo_narrowsAt_J82 h hz
  · replace h := aw_ifn c13 h
    refine aw_aload_n (pc := 71) (q := 1) dX4_narrowsAt_71 rfl ?_
    refine aw_getC (pc := 72) fd_X4_15.r xA_58 rfl dX4_narrowsAt_72 ?_
    refine aw_iload (pc := 75) (q := 6) dX4_narrowsAt_75 rfl ?_
    obtain ⟨g16, h⟩ := aw_gde h
    refine aw_lald (pc := 77) xA_60 g16 dX4_narrowsAt_77 ?_
    refine aw_goto (pc := 78) (tgt := 82) dX4_narrowsAt_78 (by decide) ?_
    refine aw_sub [1, 2, 3, 0, 5] rfl ?_
    exact t_Lo_narrowsAt_J82 h hz
set_option maxRecDepth 100000 in
set_option maxHeartbeats 4000000 in
theorem t_Lo_narrowsAt_B18 {l : Launch} {G : aw_G} {E : aw_E} {σ : aw_S} {v2 : Int32} {v3 : Int64} {v5 : Int64} {v7 : Int32} {t : (Int64 × Int64) ⊕ (Int64 × Int64 × Int32)} (h : m_Lo_narrowsAt_B18 σ v2 v3 v5 v7 = some t) (hz : Sum.elim (z_Lo_narrowsAt_Y18 l G E σ v2) (z_Lo_narrowsAt_X18 l G E σ v2) t) : aw_W l M_Lo_narrowsAt G B_Lo_narrowsAt E 18 [(0, .ref 58), (1, .ref 24), (2, .int v2), (3, .long v3), (5, .long v5), (7, .int v7)] [] xA σ 0 0 := by
  unfold m_Lo_narrowsAt_B18 at h
  refine aw_iload (pc := 18) (q := 5) dX4_narrowsAt_18 rfl ?_
  refine aw_aload_n (pc := 20) (q := 1) dX4_narrowsAt_20 rfl ?_
  refine aw_iload_n (pc := 21) (q := 2) dX4_narrowsAt_21 rfl ?_
  obtain ⟨r2, e3, h⟩ := aw_bde h
  refine aw_cV1 (pc := 22) [.int v2] (c_Gr_edgesTo e3) yy_Gr_edgesTo.1 wm_589 yy_Gr_edgesTo.2.1 yy_Gr_edgesTo.2.2 xA_24 ⟨_, _, rfl⟩ rfl ⟨Nat.le_of_ble_eq_true rfl, Nat.le_of_ble_eq_true rfl⟩ ⟨Nat.zero_le _, Nat.zero_le _⟩ (Nat.le_of_ble_eq_true rfl) dX4_narrowsAt_22 ?_
  refine aw_icmp_ge (pc := 25) (tgt := 91) dX4_narrowsAt_25 (by decide) (fun c4 => ?_) (fun c4 => ?_)
  · replace h := aw_ifp c4 h
    refine aw_sub [0, 2, 3, 4] rfl ?_
    cases h
    exact hz
  · replace h := aw_ifn c4 h
    refine aw_aload_n (pc := 28) (q := 1) dX4_narrowsAt_28 rfl ?_
    refine aw_iload_n (pc := 29) (q := 2) dX4_narrowsAt_29 rfl ?_
    refine aw_iload (pc := 30) (q := 5) dX4_narrowsAt_30 rfl ?_
    obtain ⟨r5, e6, h⟩ := aw_bde h
    refine aw_cV1 (pc := 32) [.int v2, .int v7] (c_Gr_kthSource e6) yy_Gr_kthSource.1 wm_590 yy_Gr_kthSource.2.1 yy_Gr_kthSource.2.2 xA_24 ⟨_, _, rfl⟩ rfl ⟨Nat.le_of_ble_eq_true rfl, Nat.le_of_ble_eq_true rfl⟩ ⟨Nat.zero_le _, Nat.zero_le _⟩ (Nat.le_of_ble_eq_true rfl) dX4_narrowsAt_32 ?_
    refine aw_istore (pc := 35) [(8, .int r5), (0, .ref 58), (1, .ref 24), (2, .int v2), (3, .long v3), (5, .long v5), (7, .int v7)] dX4_narrowsAt_35 (by decide) rfl ?_
    refine aw_lload_n (pc := 37) (q := 4) dX4_narrowsAt_37 rfl ?_
    refine aw_aload_n (pc := 38) (q := 2) dX4_narrowsAt_38 rfl ?_
    refine aw_iload (pc := 39) (q := 0) dX4_narrowsAt_39 rfl ?_
    obtain ⟨r7, e8, h⟩ := aw_bde h
    refine aw_cV1 (pc := 41) [.int r5] (c_Gr_isNode e8) yy_Gr_isNode.1 wm_591 yy_Gr_isNode.2.1 yy_Gr_isNode.2.2 xA_24 ⟨_, _, rfl⟩ rfl ⟨Nat.le_of_ble_eq_true rfl, Nat.le_of_ble_eq_true rfl⟩ ⟨Nat.zero_le _, Nat.zero_le _⟩ (Nat.le_of_ble_eq_true rfl) dX4_narrowsAt_41 ?_
    refine aw_if_eq (pc := 44) (tgt := 57) dX4_narrowsAt_44 (by decide) (fun c9 => ?_) (fun c9 => ?_)
    · replace h := aw_ifp c9 h
      refine aw_lconst (pc := 57) (v := 0) dX4_narrowsAt_57 (by decide) ?_
      refine aw_sub [1, 2, 3, 5, 6, 0] rfl ?_
      exact t_Lo_narrowsAt_J58 h hz
    · replace h := aw_ifn c9 h
      refine aw_aload_n (pc := 47) (q := 1) dX4_narrowsAt_47 rfl ?_
      refine aw_getC (pc := 48) fd_X4_9.r xA_58 rfl dX4_narrowsAt_48 ?_
      refine aw_iload (pc := 51) (q := 0) dX4_narrowsAt_51 rfl ?_
      obtain ⟨g17, h⟩ := aw_gde h
      refine aw_lald (pc := 53) xA_59 g17 dX4_narrowsAt_53 ?_
      refine aw_goto (pc := 54) (tgt := 58) dX4_narrowsAt_54 (by decide) ?_
      refine aw_sub [1, 2, 3, 5, 6, 0] rfl ?_
      exact t_Lo_narrowsAt_J58 h hz
set_option maxRecDepth 100000 in
set_option maxHeartbeats 4000000 in
theorem t_Lo_narrowsAt_J156 {l : Launch} {G : aw_G} {E : aw_E} {σ : aw_S} {v2 : Int32} {v3 : Int64} {v5 : Int64} {k0 : Int32} {t : (Int32 × aw_S)} (h : m_Lo_narrowsAt_J156 σ v2 v3 v5 k0 = some t) (hE : E = (some (.int t.1), xA, t.2)) : aw_W l M_Lo_narrowsAt G B_Lo_narrowsAt E 156 [(0, .ref 58), (2, .int v2), (3, .long v3), (5, .long v5)] [.int k0] xA σ 0 0 := by
  unfold m_Lo_narrowsAt_J156 at h
  refine aw_istore (pc := 156) [(7, .int k0), (0, .ref 58), (2, .int v2), (3, .long v3), (5, .long v5)] dX4_narrowsAt_156 (by decide) rfl ?_
  refine aw_aload_n (pc := 158) (q := 1) dX4_narrowsAt_158 rfl ?_
  refine aw_getC (pc := 159) fd_X4_9.r xA_58 rfl dX4_narrowsAt_159 ?_
  refine aw_iload_n (pc := 162) (q := 2) dX4_narrowsAt_162 rfl ?_
  refine aw_lload_n (pc := 163) (q := 3) dX4_narrowsAt_163 rfl ?_
  obtain ⟨g27, h⟩ := aw_gde h
  refine aw_last (pc := 164) xA_59 g27 dX4_narrowsAt_164 ?_
  refine aw_nmS (fun s28 e_s28 => ?_)
  replace h := aw_lte h s28 e_s28
  refine aw_aload_n (pc := 165) (q := 1) dX4_narrowsAt_165 rfl ?_
  refine aw_getC (pc := 166) fd_X4_15.r xA_58 rfl dX4_narrowsAt_166 ?_
  refine aw_iload_n (pc := 169) (q := 2) dX4_narrowsAt_169 rfl ?_
  refine aw_lload (pc := 170) (q := 4) dX4_narrowsAt_170 rfl ?_
  obtain ⟨g29, h⟩ := aw_gde h
  refine aw_last (pc := 172) xA_60 g29 dX4_narrowsAt_172 ?_
  refine aw_nmS (fun s30 e_s30 => ?_)
  replace h := aw_lte h s30 e_s30
  refine aw_iload (pc := 173) (q := 0) dX4_narrowsAt_173 rfl ?_
  obtain ⟨g31, h⟩ := aw_gde h
  cases h
  subst hE
  exact aw_iret (v := _) rfl (aw_nz g31) ⟨Nat.zero_le _, Nat.zero_le _⟩ dX4_narrowsAt_175
set_option maxRecDepth 100000 in
set_option maxHeartbeats 4000000 in
theorem t_Lo_narrowsAt_J125 {l : Launch} {G : aw_G} {E : aw_E} {σ : aw_S} {v2 : Int32} {v3 : Int64} {k0 : Int64} {k1 : Int64} {t : (Int32 × aw_S)} (h : m_Lo_narrowsAt_J125 σ v2 v3 k0 k1 = some t) (hE : E = (some (.int t.1), xA, t.2)) : aw_W l M_Lo_narrowsAt G B_Lo_narrowsAt E 125 [(0, .ref 58), (2, .int v2), (3, .long v3)] [.long k1, .long k0] xA σ 0 0 := by
  unfold m_Lo_narrowsAt_J125 at h
  refine aw_lor (pc := 125) dX4_narrowsAt_125 ?_
  refine aw_nmL (fun x24 e_x24 => ?_)
  replace h := aw_lte h x24 e_x24
  refine aw_lstore (pc := 126) [(5, .long x24), (0, .ref 58), (2, .int v2), (3, .long v3)] dX4_narrowsAt_126 (by decide) rfl ?_
  refine aw_lload_n (pc := 128) (q := 3) dX4_narrowsAt_128 rfl ?_
  refine aw_aload_n (pc := 129) (q := 1) dX4_narrowsAt_129 rfl ?_
  refine aw_getC (pc := 130) fd_X4_9.r xA_58 rfl dX4_narrowsAt_130 ?_
  refine aw_iload_n (pc := 133) (q := 2) dX4_narrowsAt_133 rfl ?_
  obtain ⟨g25, h⟩ := aw_gde h
  refine aw_lald (pc := 134) xA_59 g25 dX4_narrowsAt_134 ?_
  refine aw_lcmp (pc := 135) dX4_narrowsAt_135 ?_
  refine aw_if_ne (pc := 136) (tgt := 151) dX4_narrowsAt_136 (by decide) (fun c26 => ?_) (fun c26 => ?_)
  · replace h := aw_ifn c26 h
    refine aw_iconst (pc := 151) (v := 1) dX4_narrowsAt_151 (by decide) ?_
    refine aw_goto (pc := 152) (tgt := 156) dX4_narrowsAt_152 (by decide) ?_
    refine aw_sub [1, 2, 3, 0] rfl ?_
    exact t_Lo_narrowsAt_J156 h hE
  · replace h := aw_ifp c26 h
    refine aw_lload (pc := 139) (q := 0) dX4_narrowsAt_139 rfl ?_
    refine aw_aload_n (pc := 141) (q := 1) dX4_narrowsAt_141 rfl ?_
    refine aw_getC (pc := 142) fd_X4_15.r xA_58 rfl dX4_narrowsAt_142 ?_
    refine aw_iload_n (pc := 145) (q := 2) dX4_narrowsAt_145 rfl ?_
    obtain ⟨g32, h⟩ := aw_gde h
    refine aw_lald (pc := 146) xA_60 g32 dX4_narrowsAt_146 ?_
    refine aw_lcmp (pc := 147) dX4_narrowsAt_147 ?_
    refine aw_if_eq (pc := 148) (tgt := 155) dX4_narrowsAt_148 (by decide) (fun c33 => ?_) (fun c33 => ?_)
    · replace h := aw_ifp c33 h
      refine aw_iconst (pc := 155) (v := 0) dX4_narrowsAt_155 (by decide) ?_
      refine aw_sub [1, 2, 3, 0] rfl ?_
      exact t_Lo_narrowsAt_J156 h hE
    · replace h := aw_ifn c33 h
      refine aw_iconst (pc := 151) (v := 1) dX4_narrowsAt_151 (by decide) ?_
      refine aw_goto (pc := 152) (tgt := 156) dX4_narrowsAt_152 (by decide) ?_
      refine aw_sub [1, 2, 3, 0] rfl ?_
      exact t_Lo_narrowsAt_J156 h hE
set_option maxRecDepth 100000 in
set_option maxHeartbeats 4000000 in
theorem t_Lo_narrowsAt_J105 {l : Launch} {G : aw_G} {E : aw_E} {σ : aw_S} {v2 : Int32} {v5 : Int64} {k0 : Int64} {k1 : Int64} {t : (Int32 × aw_S)} (h : m_Lo_narrowsAt_J105 σ v2 v5 k0 k1 = some t) (hE : E = (some (.int t.1), xA, t.2)) : aw_W l M_Lo_narrowsAt G B_Lo_narrowsAt E 105 [(0, .ref 58), (2, .int v2), (5, .long v5)] [.long k1, .long k0] xA σ 0 0 := by
  unfold m_Lo_narrowsAt_J105 at h
  refine aw_lor (pc := 105) dX4_narrowsAt_105 ?_
  refine aw_nmL (fun x22 e_x22 => ?_)
  replace h := aw_lte h x22 e_x22
  refine aw_lstore_n (pc := 106) [(3, .long x22), (0, .ref 58), (2, .int v2), (5, .long v5)] dX4_narrowsAt_106 (by decide) rfl ?_
  refine aw_lload (pc := 107) (q := 3) dX4_narrowsAt_107 rfl ?_
  refine aw_iload_n (pc := 109) (q := 2) dX4_narrowsAt_109 rfl ?_
  refine aw_bipush (pc := 110) (v := 64) dX4_narrowsAt_110 (by decide) ?_
  refine aw_icmp_ge (pc := 112) (tgt := 119) dX4_narrowsAt_112 (by decide) (fun c23 => ?_) (fun c23 => ?_)
  · replace h := aw_ifp c23 h
    refine aw_lconst (pc := 119) (v := 1) dX4_narrowsAt_119 (by decide) ?_
    refine aw_iload_n (pc := 120) (q := 2) dX4_narrowsAt_120 rfl ?_
    refine aw_bipush (pc := 121) (v := 64) dX4_narrowsAt_121 (by decide) ?_
    refine aw_isub (pc := 123) dX4_narrowsAt_123 ?_
    refine aw_lshl (pc := 124) dX4_narrowsAt_124 ?_
    refine aw_sub [1, 2, 0] rfl ?_
    exact t_Lo_narrowsAt_J125 h hE
  · replace h := aw_ifn c23 h
    refine aw_lconst (pc := 115) (v := 0) dX4_narrowsAt_115 (by decide) ?_
    refine aw_goto (pc := 116) (tgt := 125) dX4_narrowsAt_116 (by decide) ?_
    refine aw_sub [1, 2, 0] rfl ?_
    exact t_Lo_narrowsAt_J125 h hE
set_option maxRecDepth 100000 in
set_option maxHeartbeats 4000000 in
theorem t_Lo_narrowsAt_J11 {l : Launch} {G : aw_G} {E : aw_E} {σ : aw_S} {v2 : Int32} {k0 : Int64} {t : (Int32 × aw_S)} (h : m_Lo_narrowsAt_J11 σ v2 k0 = some t) (hE : E = (some (.int t.1), xA, t.2)) : aw_W l M_Lo_narrowsAt G B_Lo_narrowsAt E 11 [(0, .ref 58), (1, .ref 24), (2, .int v2)] [.long k0] xA σ 0 0 := by
  unfold m_Lo_narrowsAt_J11 at h
  refine aw_lstore_n (pc := 11) [(3, .long k0), (0, .ref 58), (1, .ref 24), (2, .int v2)] dX4_narrowsAt_11 (by decide) rfl ?_
  refine aw_lload_n (pc := 12) (q := 0) dX4_narrowsAt_12 rfl ?_
  refine aw_lstore (pc := 13) [(5, .long k0), (3, .long k0), (0, .ref 58), (1, .ref 24), (2, .int v2)] dX4_narrowsAt_13 (by decide) rfl ?_
  refine aw_iconst (pc := 15) (v := 0) dX4_narrowsAt_15 (by decide) ?_
  refine aw_istore (pc := 16) [(7, .int ((0 : Int32))), (5, .long k0), (3, .long k0), (0, .ref 58), (1, .ref 24), (2, .int v2)] dX4_narrowsAt_16 (by decide) rfl ?_
  obtain ⟨x18, hl19, h⟩ := aw_bde h
  have K20 : z_Lo_narrowsAt_Y18 l G E σ v2 x18 := by
    show aw_W l M_Lo_narrowsAt G B_Lo_narrowsAt E 91 [(0, .ref 58), (2, .int v2), (3, .long x18.1), (5, .long x18.2)] [] xA σ 0 0
    refine aw_lload_n (pc := 91) (q := 2) dX4_narrowsAt_91 rfl ?_
    refine aw_iload_n (pc := 92) (q := 1) dX4_narrowsAt_92 rfl ?_
    refine aw_bipush (pc := 93) (v := 64) dX4_narrowsAt_93 (by decide) ?_
    refine aw_icmp_ge (pc := 95) (tgt := 104) dX4_narrowsAt_95 (by decide) (fun c21 => ?_) (fun c21 => ?_)
    · replace h := aw_ifp c21 h
      refine aw_lconst (pc := 104) (v := 0) dX4_narrowsAt_104 (by decide) ?_
      refine aw_sub [0, 1, 3] rfl ?_
      exact t_Lo_narrowsAt_J105 h hE
    · replace h := aw_ifn c21 h
      refine aw_lconst (pc := 98) (v := 1) dX4_narrowsAt_98 (by decide) ?_
      refine aw_iload_n (pc := 99) (q := 1) dX4_narrowsAt_99 rfl ?_
      refine aw_lshl (pc := 100) dX4_narrowsAt_100 ?_
      refine aw_goto (pc := 101) (tgt := 105) dX4_narrowsAt_101 (by decide) ?_
      refine aw_sub [0, 1, 3] rfl ?_
      exact t_Lo_narrowsAt_J105 h hE
  refine aw_sub [3, 4, 5, 2, 1, 0] rfl ?_
  show z_Lo_narrowsAt_X18 l G E σ v2 ((k0, k0, (0 : Int32)))
  exact aw_lp_X (Xp := z_Lo_narrowsAt_X18 l G E σ v2) (Y := z_Lo_narrowsAt_Y18 l G E σ v2) hl19 K20 (fun s t hf hz => t_Lo_narrowsAt_B18 hf hz)
set_option maxRecDepth 100000 in
set_option maxHeartbeats 4000000 in
theorem t_Lo_narrowsAt {l : Launch} {G : aw_G} {E : aw_E} {σ : aw_S} {p2 : Int32} {t : (Int32 × aw_S)} (h : m_Lo_narrowsAt σ p2 = some t) (hE : E = (some (.int t.1), xA, t.2)) : aw_W l M_Lo_narrowsAt G B_Lo_narrowsAt E 0 [(0, .ref 58), (1, .ref 24), (2, .int p2)] [] xA σ 0 0 := by
  unfold m_Lo_narrowsAt at h
  refine aw_iload_n (pc := 0) (q := 2) dX4_narrowsAt_0 rfl ?_
  refine aw_if_ne (pc := 1) (tgt := 8) dX4_narrowsAt_1 (by decide) (fun c1 => ?_) (fun c1 => ?_)
  · replace h := aw_ifn c1 h
    refine aw_ldc2 (pc := 8) (v := -1) dX4_narrowsAt_8 wm_581 ?_
    exact t_Lo_narrowsAt_J11 h hE
  · replace h := aw_ifp c1 h
    refine aw_lconst (pc := 4) (v := 0) dX4_narrowsAt_4 (by decide) ?_
    refine aw_goto (pc := 5) (tgt := 11) dX4_narrowsAt_5 (by decide) ?_
    exact t_Lo_narrowsAt_J11 h hE
theorem c_Lo_narrowsAt {l : Launch} {G : aw_G} {σ : aw_S} {p2 : Int32} {t : (Int32 × aw_S)} (h : m_Lo_narrowsAt σ p2 = some t) : aw_Ct l yX4_narrowsAt M_Lo_narrowsAt G B_Lo_narrowsAt [.ref 58, .ref 24, .int p2] xA σ (some (.int t.1), xA, t.2) := aw_Ct_of (by decide) rfl (fun h => by cases h) (Nat.le_of_ble_eq_true rfl) (t_Lo_narrowsAt h rfl)
/-! LateMover$Loops.findOver(LLateMover$Graph;)V -/
def z_Lo_findOver_X24 (l : Launch) (G : aw_G) (E : aw_E) (s : Int32 × Int32 × aw_S) : Prop := aw_W l M_Lo_findOver G B_Lo_findOver E 24 [(0, .ref 58), (1, .ref 24), (2, .int s.1), (3, .int s.2.1)] [] xA s.2.2 0 0
def z_Lo_findOver_Y24 (l : Launch) (G : aw_G) (E : aw_E) (x : (aw_S)) : Prop := aw_W l M_Lo_findOver G B_Lo_findOver E 81 [] [] xA x 0 0
def z_Lo_findOver_X40 (l : Launch) (G : aw_G) (E : aw_E) (v3 : Int32) (s : Int32 × Int32 × aw_S) : Prop := aw_W l M_Lo_findOver G B_Lo_findOver E 40 [(0, .ref 58), (1, .ref 24), (2, .int s.1), (3, .int v3), (4, .int s.2.1)] [] xA s.2.2 0 0
def z_Lo_findOver_Y40 (l : Launch) (G : aw_G) (E : aw_E) (v3 : Int32) (x : (Int32 × aw_S)) : Prop := aw_W l M_Lo_findOver G B_Lo_findOver E 75 [(0, .ref 58), (1, .ref 24), (2, .int x.1), (3, .int v3)] [] xA x.2 0 0
set_option maxRecDepth 100000 in
set_option maxHeartbeats 4000000 in
theorem t_Lo_findOver_J68 {l : Launch} {G : aw_G} {E : aw_E} {σ : aw_S} {v3 : Int32} {v4 : Int32} {k0 : Int32} {t : (Int32 × aw_S) ⊕ (Int32 × Int32 × aw_S)} (h : m_Lo_findOver_J68 σ v3 v4 k0 = some t) (hz : Sum.elim (z_Lo_findOver_Y40 l G E v3) (z_Lo_findOver_X40 l G E v3) t) : aw_W l M_Lo_findOver G B_Lo_findOver E 68 [(0, .ref 58), (1, .ref 24), (3, .int v3), (4, .int v4)] [.int k0] xA σ 0 0 := by
  unfold m_Lo_findOver_J68 at h
  refine aw_istore_n (pc := 68) [(2, .int k0), (0, .ref 58), (1, .ref 24), (3, .int v3), (4, .int v4)] dX4_findOver_68 (by decide) rfl ?_
  obtain ⟨x14, e_x14⟩ : ∃ z, z = (v4 + (1 : Int32)) := ⟨_, rfl⟩
  replace h := aw_lte h x14 e_x14
  refine aw_iinc (pc := 69) (q := 4) (v := x14) [(4, .int x14), (2, .int k0), (0, .ref 58), (1, .ref 24), (3, .int v3)] dX4_findOver_69 rfl e_x14.symm (by decide) rfl ?_
  refine aw_goto (pc := 72) (tgt := 40) dX4_findOver_72 (by decide) ?_
  refine aw_sub [2, 3, 1, 4, 0] rfl ?_
  cases h
  exact hz
set_option maxRecDepth 100000 in
set_option maxHeartbeats 4000000 in
theorem t_Lo_findOver_B40 {l : Launch} {G : aw_G} {E : aw_E} {σ : aw_S} {v3 : Int32} {v2 : Int32} {v4 : Int32} {t : (Int32 × aw_S) ⊕ (Int32 × Int32 × aw_S)} (h : m_Lo_findOver_B40 σ v3 v2 v4 = some t) (hz : Sum.elim (z_Lo_findOver_Y40 l G E v3) (z_Lo_findOver_X40 l G E v3) t) : aw_W l M_Lo_findOver G B_Lo_findOver E 40 [(0, .ref 58), (1, .ref 24), (2, .int v2), (3, .int v3), (4, .int v4)] [] xA σ 0 0 := by
  unfold m_Lo_findOver_B40 at h
  refine aw_iload (pc := 40) (q := 4) dX4_findOver_40 rfl ?_
  refine aw_aload_n (pc := 42) (q := 1) dX4_findOver_42 rfl ?_
  refine aw_getI (pc := 43) fd_X4_39.r xA_24 rfl dX4_findOver_43 ?_
  refine aw_icmp_ge (pc := 46) (tgt := 75) dX4_findOver_46 (by decide) (fun c9 => ?_) (fun c9 => ?_)
  · replace h := aw_ifp c9 h
    refine aw_sub [0, 1, 2, 3] rfl ?_
    cases h
    exact hz
  · replace h := aw_ifn c9 h
    refine aw_aload_n (pc := 49) (q := 0) dX4_findOver_49 rfl ?_
    refine aw_aload_n (pc := 50) (q := 1) dX4_findOver_50 rfl ?_
    refine aw_iload (pc := 51) (q := 4) dX4_findOver_51 rfl ?_
    obtain ⟨r10, s12, e11, h⟩ := aw_bd2e h
    refine aw_cV1 (pc := 53) [.ref 24, .int v4] (c_Lo_narrowsAt e11) yy_Lo_narrowsAt.1 wm_585 yy_Lo_narrowsAt.2.1 yy_Lo_narrowsAt.2.2 xA_58 ⟨_, _, rfl⟩ rfl ⟨Nat.le_of_ble_eq_true rfl, Nat.le_of_ble_eq_true rfl⟩ ⟨Nat.zero_le _, Nat.zero_le _⟩ (Nat.le_of_ble_eq_true rfl) dX4_findOver_53 ?_
    refine aw_if_ne (pc := 56) (tgt := 63) dX4_findOver_56 (by decide) (fun c13 => ?_) (fun c13 => ?_)
    · replace h := aw_ifn c13 h
      refine aw_iconst (pc := 63) (v := 1) dX4_findOver_63 (by decide) ?_
      refine aw_goto (pc := 64) (tgt := 68) dX4_findOver_64 (by decide) ?_
      refine aw_sub [0, 1, 3, 4] rfl ?_
      exact t_Lo_findOver_J68 h hz
    · replace h := aw_ifp c13 h
      refine aw_iload_n (pc := 59) (q := 2) dX4_findOver_59 rfl ?_
      refine aw_if_eq (pc := 60) (tgt := 67) dX4_findOver_60 (by decide) (fun c15 => ?_) (fun c15 => ?_)
      · replace h := aw_ifp c15 h
        refine aw_iconst (pc := 67) (v := 0) dX4_findOver_67 (by decide) ?_
        refine aw_sub [0, 1, 3, 4] rfl ?_
        exact t_Lo_findOver_J68 h hz
      · replace h := aw_ifn c15 h
        refine aw_iconst (pc := 63) (v := 1) dX4_findOver_63 (by decide) ?_
        refine aw_goto (pc := 64) (tgt := 68) dX4_findOver_64 (by decide) ?_
        refine aw_sub [0, 1, 3, 4] rfl ?_
        exact t_Lo_findOver_J68 h hz
set_option maxRecDepth 100000 in
set_option maxHeartbeats 4000000 in
theorem t_Lo_findOver_B24 {l : Launch} {G : aw_G} {E : aw_E} {σ : aw_S} {v2 : Int32} {v3 : Int32} {t : (aw_S) ⊕ (Int32 × Int32 × aw_S)} (h : m_Lo_findOver_B24 σ v2 v3 = some t) (hz : Sum.elim (z_Lo_findOver_Y24 l G E) (z_Lo_findOver_X24 l G E) t) : aw_W l M_Lo_findOver G B_Lo_findOver E 24 [(0, .ref 58), (1, .ref 24), (2, .int v2), (3, .int v3)] [] xA σ 0 0 := by
  unfold m_Lo_findOver_B24 at h
  refine aw_iload_n (pc := 24) (q := 2) dX4_findOver_24 rfl ?_
  refine aw_if_eq (pc := 25) (tgt := 81) dX4_findOver_25 (by decide) (fun c7 => ?_) (fun c7 => ?_)
  · replace h := aw_ifp c7 h
    refine aw_sub [] rfl ?_
    cases h
    exact hz
  · replace h := aw_ifn c7 h
    refine aw_iload_n (pc := 28) (q := 3) dX4_findOver_28 rfl ?_
    refine aw_sipush (pc := 29) (v := 1000) dX4_findOver_29 (by decide) ?_
    refine aw_icmp_ge (pc := 32) (tgt := 81) dX4_findOver_32 (by decide) (fun c8 => ?_) (fun c8 => ?_)
    · replace h := aw_ifp c8 h
      refine aw_sub [] rfl ?_
      cases h
      exact hz
    · replace h := aw_ifn c8 h
      refine aw_iconst (pc := 35) (v := 0) dX4_findOver_35 (by decide) ?_
      refine aw_istore_n (pc := 36) [(2, .int ((0 : Int32))), (0, .ref 58), (1, .ref 24), (3, .int v3)] dX4_findOver_36 (by decide) rfl ?_
      refine aw_iconst (pc := 37) (v := 0) dX4_findOver_37 (by decide) ?_
      refine aw_istore (pc := 38) [(4, .int ((0 : Int32))), (2, .int ((0 : Int32))), (0, .ref 58), (1, .ref 24), (3, .int v3)] dX4_findOver_38 (by decide) rfl ?_
      obtain ⟨x16, hl17, h⟩ := aw_bde h
      have K18 : z_Lo_findOver_Y40 l G E v3 x16 := by
        show aw_W l M_Lo_findOver G B_Lo_findOver E 75 [(0, .ref 58), (1, .ref 24), (2, .int x16.1), (3, .int v3)] [] xA x16.2 0 0
        obtain ⟨x19, e_x19⟩ : ∃ z, z = (v3 + (1 : Int32)) := ⟨_, rfl⟩
        replace h := aw_lte h x19 e_x19
        refine aw_iinc (pc := 75) (q := 3) (v := x19) [(3, .int x19), (0, .ref 58), (1, .ref 24), (2, .int x16.1)] dX4_findOver_75 rfl e_x19.symm (by decide) rfl ?_
        refine aw_goto (pc := 78) (tgt := 24) dX4_findOver_78 (by decide) ?_
        refine aw_sub [1, 2, 3, 0] rfl ?_
        cases h
        exact hz
      refine aw_sub [2, 3, 1, 4, 0] rfl ?_
      show z_Lo_findOver_X40 l G E v3 (((0 : Int32), (0 : Int32), σ))
      exact aw_lp_X (Xp := z_Lo_findOver_X40 l G E v3) (Y := z_Lo_findOver_Y40 l G E v3) hl17 K18 (fun s t hf hz => t_Lo_findOver_B40 hf hz)
set_option maxRecDepth 100000 in
set_option maxHeartbeats 4000000 in
theorem t_Lo_findOver {l : Launch} {G : aw_G} {E : aw_E} {σ : aw_S} {t : aw_S} (h : m_Lo_findOver σ = some t) (hE : E = (none, xA, t)) : aw_W l M_Lo_findOver G B_Lo_findOver E 0 [(0, .ref 58), (1, .ref 24)] [] xA σ 0 0 := by
  unfold m_Lo_findOver at h
  refine aw_aload_n (pc := 0) (q := 0) dX4_findOver_0 rfl ?_
  refine aw_getC (pc := 1) fd_X4_9.r xA_58 rfl dX4_findOver_1 ?_
  refine aw_ldc2 (pc := 4) (v := -1) dX4_findOver_4 wm_581 ?_
  obtain ⟨s3, e2, h⟩ := aw_bde h
  refine aw_cS0 (pc := 7) [.ref 59, .long ((-1 : Int64))] (c_Ar_fillJ xA_59 e2) yy_Ar_fillJ.1 wm_582 yy_Ar_fillJ.2 rfl ⟨Nat.le_of_ble_eq_true rfl, Nat.le_of_ble_eq_true rfl⟩ ⟨Nat.zero_le _, Nat.zero_le _⟩ (Nat.le_of_ble_eq_true rfl) dX4_findOver_7 ?_
  refine aw_aload_n (pc := 10) (q := 0) dX4_findOver_10 rfl ?_
  refine aw_getC (pc := 11) fd_X4_15.r xA_58 rfl dX4_findOver_11 ?_
  refine aw_ldc2 (pc := 14) (v := -1) dX4_findOver_14 wm_581 ?_
  obtain ⟨s6, e5, h⟩ := aw_bde h
  refine aw_cS0 (pc := 17) [.ref 60, .long ((-1 : Int64))] (c_Ar_fillJ xA_60 e5) yy_Ar_fillJ.1 wm_582 yy_Ar_fillJ.2 rfl ⟨Nat.le_of_ble_eq_true rfl, Nat.le_of_ble_eq_true rfl⟩ ⟨Nat.zero_le _, Nat.zero_le _⟩ (Nat.le_of_ble_eq_true rfl) dX4_findOver_17 ?_
  refine aw_iconst (pc := 20) (v := 1) dX4_findOver_20 (by decide) ?_
  refine aw_istore_n (pc := 21) [(2, .int ((1 : Int32))), (0, .ref 58), (1, .ref 24)] dX4_findOver_21 (by decide) rfl ?_
  refine aw_iconst (pc := 22) (v := 0) dX4_findOver_22 (by decide) ?_
  refine aw_istore_n (pc := 23) [(3, .int ((0 : Int32))), (2, .int ((1 : Int32))), (0, .ref 58), (1, .ref 24)] dX4_findOver_23 (by decide) rfl ?_
  obtain ⟨x20, hl21, h⟩ := aw_bde h
  have K22 : z_Lo_findOver_Y24 l G E x20 := by
    show aw_W l M_Lo_findOver G B_Lo_findOver E 81 [] [] xA x20 0 0
    cases h
    subst hE
    exact aw_vret rfl ⟨Nat.zero_le _, Nat.zero_le _⟩ dX4_findOver_81
  refine aw_sub [2, 3, 1, 0] rfl ?_
  show z_Lo_findOver_X24 l G E (((1 : Int32), (0 : Int32), s6))
  exact aw_lp_X (Xp := z_Lo_findOver_X24 l G E) (Y := z_Lo_findOver_Y24 l G E) hl21 K22 (fun s t hf hz => t_Lo_findOver_B24 hf hz)
theorem c_Lo_findOver {l : Launch} {G : aw_G} {σ : aw_S} {t : aw_S} (h : m_Lo_findOver σ = some t) : aw_Ct l yX4_findOver M_Lo_findOver G B_Lo_findOver [.ref 58, .ref 24] xA σ (none, xA, t) := aw_Ct_of (by decide) rfl (fun h => by cases h) (Nat.le_of_ble_eq_true rfl) (t_Lo_findOver h rfl)
/-! LateMover$Loops.isOver(II)Z -/
set_option maxRecDepth 100000 in
set_option maxHeartbeats 4000000 in
theorem t_Lo_isOver {l : Launch} {G : aw_G} {E : aw_E} {σ : aw_S} {p1 : Int32} {p2 : Int32} {t : Int32} (h : m_Lo_isOver σ p1 p2 = some t) (hE : E = (some (.int t), xA, σ)) : aw_W l M_Lo_isOver G B_Lo_isOver E 0 [(0, .ref 58), (1, .int p1), (2, .int p2)] [] xA σ 0 0 := by
  unfold m_Lo_isOver at h
  refine aw_iload_n (pc := 0) (q := 1) dX4_isOver_0 rfl ?_
  refine aw_bipush (pc := 1) (v := 64) dX4_isOver_1 (by decide) ?_
  refine aw_icmp_ge (pc := 3) (tgt := 29) dX4_isOver_3 (by decide) (fun c1 => ?_) (fun c1 => ?_)
  · replace h := aw_ifp c1 h
    refine aw_aload_n (pc := 29) (q := 0) dX4_isOver_29 rfl ?_
    refine aw_getC (pc := 30) fd_X4_15.r xA_58 rfl dX4_isOver_30 ?_
    refine aw_iload_n (pc := 33) (q := 2) dX4_isOver_33 rfl ?_
    obtain ⟨g2, h⟩ := aw_gde h
    refine aw_lald (pc := 34) xA_60 g2 dX4_isOver_34 ?_
    refine aw_iload_n (pc := 35) (q := 1) dX4_isOver_35 rfl ?_
    refine aw_bipush (pc := 36) (v := 64) dX4_isOver_36 (by decide) ?_
    refine aw_isub (pc := 38) dX4_isOver_38 ?_
    refine aw_lushr (pc := 39) dX4_isOver_39 ?_
    refine aw_lconst (pc := 40) (v := 1) dX4_isOver_40 (by decide) ?_
    refine aw_land (pc := 41) dX4_isOver_41 ?_
    refine aw_lconst (pc := 42) (v := 1) dX4_isOver_42 (by decide) ?_
    refine aw_lcmp (pc := 43) dX4_isOver_43 ?_
    refine aw_if_ne (pc := 44) (tgt := 51) dX4_isOver_44 (by decide) (fun c3 => ?_) (fun c3 => ?_)
    · replace h := aw_ifn c3 h
      refine aw_iconst (pc := 51) (v := 0) dX4_isOver_51 (by decide) ?_
      cases h
      subst hE
      exact aw_iret (v := (0 : Int32)) rfl aw_n0 ⟨Nat.zero_le _, Nat.zero_le _⟩ dX4_isOver_52
    · replace h := aw_ifp c3 h
      refine aw_iconst (pc := 47) (v := 1) dX4_isOver_47 (by decide) ?_
      refine aw_goto (pc := 48) (tgt := 52) dX4_isOver_48 (by decide) ?_
      cases h
      subst hE
      exact aw_iret (v := (1 : Int32)) rfl aw_n1 ⟨Nat.zero_le _, Nat.zero_le _⟩ dX4_isOver_52
  · replace h := aw_ifn c1 h
    refine aw_aload_n (pc := 6) (q := 0) dX4_isOver_6 rfl ?_
    refine aw_getC (pc := 7) fd_X4_9.r xA_58 rfl dX4_isOver_7 ?_
    refine aw_iload_n (pc := 10) (q := 2) dX4_isOver_10 rfl ?_
    obtain ⟨g4, h⟩ := aw_gde h
    refine aw_lald (pc := 11) xA_59 g4 dX4_isOver_11 ?_
    refine aw_iload_n (pc := 12) (q := 1) dX4_isOver_12 rfl ?_
    refine aw_lushr (pc := 13) dX4_isOver_13 ?_
    refine aw_lconst (pc := 14) (v := 1) dX4_isOver_14 (by decide) ?_
    refine aw_land (pc := 15) dX4_isOver_15 ?_
    refine aw_lconst (pc := 16) (v := 1) dX4_isOver_16 (by decide) ?_
    refine aw_lcmp (pc := 17) dX4_isOver_17 ?_
    refine aw_if_ne (pc := 18) (tgt := 25) dX4_isOver_18 (by decide) (fun c5 => ?_) (fun c5 => ?_)
    · replace h := aw_ifn c5 h
      refine aw_iconst (pc := 25) (v := 0) dX4_isOver_25 (by decide) ?_
      refine aw_goto (pc := 26) (tgt := 52) dX4_isOver_26 (by decide) ?_
      cases h
      subst hE
      exact aw_iret (v := (0 : Int32)) rfl aw_n0 ⟨Nat.zero_le _, Nat.zero_le _⟩ dX4_isOver_52
    · replace h := aw_ifp c5 h
      refine aw_iconst (pc := 21) (v := 1) dX4_isOver_21 (by decide) ?_
      refine aw_goto (pc := 22) (tgt := 52) dX4_isOver_22 (by decide) ?_
      cases h
      subst hE
      exact aw_iret (v := (1 : Int32)) rfl aw_n1 ⟨Nat.zero_le _, Nat.zero_le _⟩ dX4_isOver_52
theorem c_Lo_isOver {l : Launch} {G : aw_G} {σ : aw_S} {p1 : Int32} {p2 : Int32} {t : Int32} (h : m_Lo_isOver σ p1 p2 = some t) : aw_Ct l yX4_isOver M_Lo_isOver G B_Lo_isOver [.ref 58, .int p1, .int p2] xA σ (some (.int t), xA, σ) := aw_Ct_of (by decide) rfl (fun h => by cases h) (Nat.le_of_ble_eq_true rfl) (t_Lo_isOver h rfl)
/-! LateMover$Loops.isHead(LLateMover$Graph;I)Z -/
def z_Lo_isHead_X2 (l : Launch) (G : aw_G) (E : aw_E) (σ : aw_S) (v2 : Int32) (s : Int32) : Prop := aw_W l M_Lo_isHead G B_Lo_isHead E 2 [(0, .ref 58), (1, .ref 24), (2, .int v2), (3, .int s)] [] xA σ 0 0
def z_Lo_isHead_Y2 (l : Launch) (G : aw_G) (E : aw_E) (σ : aw_S) (v2 : Int32) (x : ((Int32) ⊕ (Unit))) : Prop := (Sum.elim (fun r0 => E = (some (.int r0), xA, σ)) (fun r1 => aw_W l M_Lo_isHead G B_Lo_isHead E 46 [] [] xA σ 0 0)) x
set_option maxRecDepth 100000 in
set_option maxHeartbeats 4000000 in
theorem t_Lo_isHead_J40 {l : Launch} {G : aw_G} {E : aw_E} {σ : aw_S} {v2 : Int32} {v3 : Int32} {t : ((Int32) ⊕ (Unit)) ⊕ Int32} (h : m_Lo_isHead_J40 σ v2 v3 = some t) (hz : Sum.elim (z_Lo_isHead_Y2 l G E σ v2) (z_Lo_isHead_X2 l G E σ v2) t) : aw_W l M_Lo_isHead G B_Lo_isHead E 40 [(0, .ref 58), (1, .ref 24), (2, .int v2), (3, .int v3)] [] xA σ 0 0 := by
  unfold m_Lo_isHead_J40 at h
  obtain ⟨x9, e_x9⟩ : ∃ z, z = (v3 + (1 : Int32)) := ⟨_, rfl⟩
  replace h := aw_lte h x9 e_x9
  refine aw_iinc (pc := 40) (q := 3) (v := x9) [(3, .int x9), (0, .ref 58), (1, .ref 24), (2, .int v2)] dX4_isHead_40 rfl e_x9.symm (by decide) rfl ?_
  refine aw_goto (pc := 43) (tgt := 2) dX4_isHead_43 (by decide) ?_
  refine aw_sub [1, 2, 3, 0] rfl ?_
  cases h
  exact hz
set_option maxRecDepth 100000 in
set_option maxHeartbeats 4000000 in
theorem t_Lo_isHead_B2 {l : Launch} {G : aw_G} {E : aw_E} {σ : aw_S} {v2 : Int32} {v3 : Int32} {t : ((Int32) ⊕ (Unit)) ⊕ Int32} (h : m_Lo_isHead_B2 σ v2 v3 = some t) (hz : Sum.elim (z_Lo_isHead_Y2 l G E σ v2) (z_Lo_isHead_X2 l G E σ v2) t) : aw_W l M_Lo_isHead G B_Lo_isHead E 2 [(0, .ref 58), (1, .ref 24), (2, .int v2), (3, .int v3)] [] xA σ 0 0 := by
  unfold m_Lo_isHead_B2 at h
  refine aw_iload_n (pc := 2) (q := 3) dX4_isHead_2 rfl ?_
  refine aw_aload_n (pc := 3) (q := 1) dX4_isHead_3 rfl ?_
  refine aw_iload_n (pc := 4) (q := 2) dX4_isHead_4 rfl ?_
  obtain ⟨r1, e2, h⟩ := aw_bde h
  refine aw_cV1 (pc := 5) [.int v2] (c_Gr_edgesTo e2) yy_Gr_edgesTo.1 wm_589 yy_Gr_edgesTo.2.1 yy_Gr_edgesTo.2.2 xA_24 ⟨_, _, rfl⟩ rfl ⟨Nat.le_of_ble_eq_true rfl, Nat.le_of_ble_eq_true rfl⟩ ⟨Nat.zero_le _, Nat.zero_le _⟩ (Nat.le_of_ble_eq_true rfl) dX4_isHead_5 ?_
  refine aw_icmp_ge (pc := 8) (tgt := 46) dX4_isHead_8 (by decide) (fun c3 => ?_) (fun c3 => ?_)
  · replace h := aw_ifp c3 h
    refine aw_sub [] rfl ?_
    cases h
    exact hz
  · replace h := aw_ifn c3 h
    refine aw_aload_n (pc := 11) (q := 1) dX4_isHead_11 rfl ?_
    refine aw_iload_n (pc := 12) (q := 2) dX4_isHead_12 rfl ?_
    refine aw_iload_n (pc := 13) (q := 3) dX4_isHead_13 rfl ?_
    obtain ⟨r4, e5, h⟩ := aw_bde h
    refine aw_cV1 (pc := 14) [.int v2, .int v3] (c_Gr_kthSource e5) yy_Gr_kthSource.1 wm_590 yy_Gr_kthSource.2.1 yy_Gr_kthSource.2.2 xA_24 ⟨_, _, rfl⟩ rfl ⟨Nat.le_of_ble_eq_true rfl, Nat.le_of_ble_eq_true rfl⟩ ⟨Nat.zero_le _, Nat.zero_le _⟩ (Nat.le_of_ble_eq_true rfl) dX4_isHead_14 ?_
    refine aw_istore (pc := 17) [(4, .int r4), (0, .ref 58), (1, .ref 24), (2, .int v2), (3, .int v3)] dX4_isHead_17 (by decide) rfl ?_
    refine aw_aload_n (pc := 19) (q := 2) dX4_isHead_19 rfl ?_
    refine aw_iload (pc := 20) (q := 0) dX4_isHead_20 rfl ?_
    obtain ⟨r6, e7, h⟩ := aw_bde h
    refine aw_cV1 (pc := 22) [.int r4] (c_Gr_isNode e7) yy_Gr_isNode.1 wm_591 yy_Gr_isNode.2.1 yy_Gr_isNode.2.2 xA_24 ⟨_, _, rfl⟩ rfl ⟨Nat.le_of_ble_eq_true rfl, Nat.le_of_ble_eq_true rfl⟩ ⟨Nat.zero_le _, Nat.zero_le _⟩ (Nat.le_of_ble_eq_true rfl) dX4_isHead_22 ?_
    refine aw_if_eq (pc := 25) (tgt := 40) dX4_isHead_25 (by decide) (fun c8 => ?_) (fun c8 => ?_)
    · replace h := aw_ifp c8 h
      refine aw_sub [1, 2, 3, 4] rfl ?_
      exact t_Lo_isHead_J40 h hz
    · replace h := aw_ifn c8 h
      refine aw_aload_n (pc := 28) (q := 1) dX4_isHead_28 rfl ?_
      refine aw_iload_n (pc := 29) (q := 3) dX4_isHead_29 rfl ?_
      refine aw_iload (pc := 30) (q := 0) dX4_isHead_30 rfl ?_
      obtain ⟨r10, e11, h⟩ := aw_bde h
      refine aw_cV1 (pc := 32) [.int v2, .int r4] (c_Lo_isOver e11) yy_Lo_isOver.1 wm_597 yy_Lo_isOver.2.1 yy_Lo_isOver.2.2 xA_58 ⟨_, _, rfl⟩ rfl ⟨Nat.le_of_ble_eq_true rfl, Nat.le_of_ble_eq_true rfl⟩ ⟨Nat.zero_le _, Nat.zero_le _⟩ (Nat.le_of_ble_eq_true rfl) dX4_isHead_32 ?_
      refine aw_if_eq (pc := 35) (tgt := 40) dX4_isHead_35 (by decide) (fun c12 => ?_) (fun c12 => ?_)
      · replace h := aw_ifp c12 h
        refine aw_sub [1, 2, 3, 4] rfl ?_
        exact t_Lo_isHead_J40 h hz
      · replace h := aw_ifn c12 h
        refine aw_iconst (pc := 38) (v := 1) dX4_isHead_38 (by decide) ?_
        cases h
        have hE : E = _ := hz
        subst hE
        exact aw_iret (v := (1 : Int32)) rfl aw_n1 ⟨Nat.zero_le _, Nat.zero_le _⟩ dX4_isHead_39
set_option maxRecDepth 100000 in
set_option maxHeartbeats 4000000 in
theorem t_Lo_isHead {l : Launch} {G : aw_G} {E : aw_E} {σ : aw_S} {p2 : Int32} {t : Int32} (h : m_Lo_isHead σ p2 = some t) (hE : E = (some (.int t), xA, σ)) : aw_W l M_Lo_isHead G B_Lo_isHead E 0 [(0, .ref 58), (1, .ref 24), (2, .int p2)] [] xA σ 0 0 := by
  unfold m_Lo_isHead at h
  refine aw_iconst (pc := 0) (v := 0) dX4_isHead_0 (by decide) ?_
  refine aw_istore_n (pc := 1) [(3, .int ((0 : Int32))), (0, .ref 58), (1, .ref 24), (2, .int p2)] dX4_isHead_1 (by decide) rfl ?_
  obtain ⟨x13, hl14, h⟩ := aw_bde h
  have K15 : z_Lo_isHead_Y2 l G E σ p2 x13 := by
    cases x13 with
    | inl y16 =>
      replace h := aw_eL h
      show E = _
      cases h
      exact hE
    | inr y17 =>
      replace h := aw_eR h
      show aw_W l M_Lo_isHead G B_Lo_isHead E 46 [] [] xA σ 0 0
      refine aw_iconst (pc := 46) (v := 0) dX4_isHead_46 (by decide) ?_
      cases h
      subst hE
      exact aw_iret (v := (0 : Int32)) rfl aw_n0 ⟨Nat.zero_le _, Nat.zero_le _⟩ dX4_isHead_47
  refine aw_sub [1, 2, 3, 0] rfl ?_
  show z_Lo_isHead_X2 l G E σ p2 ((0 : Int32))
  exact aw_lp_X (Xp := z_Lo_isHead_X2 l G E σ p2) (Y := z_Lo_isHead_Y2 l G E σ p2) hl14 K15 (fun s t hf hz => t_Lo_isHead_B2 hf hz)
theorem c_Lo_isHead {l : Launch} {G : aw_G} {σ : aw_S} {p2 : Int32} {t : Int32} (h : m_Lo_isHead σ p2 = some t) : aw_Ct l yX4_isHead M_Lo_isHead G B_Lo_isHead [.ref 58, .ref 24, .int p2] xA σ (some (.int t), xA, σ) := aw_Ct_of (by decide) rfl (fun h => by cases h) (Nat.le_of_ble_eq_true rfl) (t_Lo_isHead h rfl)
/-! LateMover$Loops.leadsInside(LLateMover$Graph;I)Z -/
def z_Lo_leadsInside_X2 (l : Launch) (G : aw_G) (E : aw_E) (σ : aw_S) (v2 : Int32) (s : Int32) : Prop := aw_W l M_Lo_leadsInside G B_Lo_leadsInside E 2 [(0, .ref 58), (1, .ref 24), (2, .int v2), (3, .int s)] [] xA σ 0 0
def z_Lo_leadsInside_Y2 (l : Launch) (G : aw_G) (E : aw_E) (σ : aw_S) (v2 : Int32) (x : ((Int32) ⊕ (Unit))) : Prop := (Sum.elim (fun r0 => E = (some (.int r0), xA, σ)) (fun r1 => aw_W l M_Lo_leadsInside G B_Lo_leadsInside E 47 [] [] xA σ 0 0)) x
set_option maxRecDepth 100000 in
set_option maxHeartbeats 4000000 in
theorem t_Lo_leadsInside_J41 {l : Launch} {G : aw_G} {E : aw_E} {σ : aw_S} {v2 : Int32} {v3 : Int32} {t : ((Int32) ⊕ (Unit)) ⊕ Int32} (h : m_Lo_leadsInside_J41 σ v2 v3 = some t) (hz : Sum.elim (z_Lo_leadsInside_Y2 l G E σ v2) (z_Lo_leadsInside_X2 l G E σ v2) t) : aw_W l M_Lo_leadsInside G B_Lo_leadsInside E 41 [(0, .ref 58), (1, .ref 24), (2, .int v2), (3, .int v3)] [] xA σ 0 0 := by
  unfold m_Lo_leadsInside_J41 at h
  obtain ⟨x9, e_x9⟩ : ∃ z, z = (v3 + (1 : Int32)) := ⟨_, rfl⟩
  replace h := aw_lte h x9 e_x9
  refine aw_iinc (pc := 41) (q := 3) (v := x9) [(3, .int x9), (0, .ref 58), (1, .ref 24), (2, .int v2)] dX4_leadsInside_41 rfl e_x9.symm (by decide) rfl ?_
  refine aw_goto (pc := 44) (tgt := 2) dX4_leadsInside_44 (by decide) ?_
  refine aw_sub [1, 2, 3, 0] rfl ?_
  cases h
  exact hz
set_option maxRecDepth 100000 in
set_option maxHeartbeats 4000000 in
theorem t_Lo_leadsInside_B2 {l : Launch} {G : aw_G} {E : aw_E} {σ : aw_S} {v2 : Int32} {v3 : Int32} {t : ((Int32) ⊕ (Unit)) ⊕ Int32} (h : m_Lo_leadsInside_B2 σ v2 v3 = some t) (hz : Sum.elim (z_Lo_leadsInside_Y2 l G E σ v2) (z_Lo_leadsInside_X2 l G E σ v2) t) : aw_W l M_Lo_leadsInside G B_Lo_leadsInside E 2 [(0, .ref 58), (1, .ref 24), (2, .int v2), (3, .int v3)] [] xA σ 0 0 := by
  unfold m_Lo_leadsInside_B2 at h
  refine aw_iload_n (pc := 2) (q := 3) dX4_leadsInside_2 rfl ?_
  refine aw_aload_n (pc := 3) (q := 1) dX4_leadsInside_3 rfl ?_
  refine aw_iload_n (pc := 4) (q := 2) dX4_leadsInside_4 rfl ?_
  obtain ⟨r1, e2, h⟩ := aw_bde h
  refine aw_cV1 (pc := 5) [.int v2] (c_Gr_edgesFrom e2) yy_Gr_edgesFrom.1 wm_609 yy_Gr_edgesFrom.2.1 yy_Gr_edgesFrom.2.2 xA_24 ⟨_, _, rfl⟩ rfl ⟨Nat.le_of_ble_eq_true rfl, Nat.le_of_ble_eq_true rfl⟩ ⟨Nat.zero_le _, Nat.zero_le _⟩ (Nat.le_of_ble_eq_true rfl) dX4_leadsInside_5 ?_
  refine aw_icmp_ge (pc := 8) (tgt := 47) dX4_leadsInside_8 (by decide) (fun c3 => ?_) (fun c3 => ?_)
  · replace h := aw_ifp c3 h
    refine aw_sub [] rfl ?_
    cases h
    exact hz
  · replace h := aw_ifn c3 h
    refine aw_aload_n (pc := 11) (q := 1) dX4_leadsInside_11 rfl ?_
    refine aw_iload_n (pc := 12) (q := 2) dX4_leadsInside_12 rfl ?_
    refine aw_iload_n (pc := 13) (q := 3) dX4_leadsInside_13 rfl ?_
    obtain ⟨r4, e5, h⟩ := aw_bde h
    refine aw_cV1 (pc := 14) [.int v2, .int v3] (c_Gr_kthTarget e5) yy_Gr_kthTarget.1 wm_610 yy_Gr_kthTarget.2.1 yy_Gr_kthTarget.2.2 xA_24 ⟨_, _, rfl⟩ rfl ⟨Nat.le_of_ble_eq_true rfl, Nat.le_of_ble_eq_true rfl⟩ ⟨Nat.zero_le _, Nat.zero_le _⟩ (Nat.le_of_ble_eq_true rfl) dX4_leadsInside_14 ?_
    refine aw_istore (pc := 17) [(4, .int r4), (0, .ref 58), (1, .ref 24), (2, .int v2), (3, .int v3)] dX4_leadsInside_17 (by decide) rfl ?_
    refine aw_aload_n (pc := 19) (q := 2) dX4_leadsInside_19 rfl ?_
    refine aw_iload (pc := 20) (q := 0) dX4_leadsInside_20 rfl ?_
    obtain ⟨r6, e7, h⟩ := aw_bde h
    refine aw_cV1 (pc := 22) [.int r4] (c_Gr_isNode e7) yy_Gr_isNode.1 wm_591 yy_Gr_isNode.2.1 yy_Gr_isNode.2.2 xA_24 ⟨_, _, rfl⟩ rfl ⟨Nat.le_of_ble_eq_true rfl, Nat.le_of_ble_eq_true rfl⟩ ⟨Nat.zero_le _, Nat.zero_le _⟩ (Nat.le_of_ble_eq_true rfl) dX4_leadsInside_22 ?_
    refine aw_if_eq (pc := 25) (tgt := 41) dX4_leadsInside_25 (by decide) (fun c8 => ?_) (fun c8 => ?_)
    · replace h := aw_ifp c8 h
      refine aw_sub [1, 2, 3, 4] rfl ?_
      exact t_Lo_leadsInside_J41 h hz
    · replace h := aw_ifn c8 h
      refine aw_aload_n (pc := 28) (q := 1) dX4_leadsInside_28 rfl ?_
      refine aw_getC (pc := 29) fd_X4_18.r xA_58 rfl dX4_leadsInside_29 ?_
      refine aw_iload (pc := 32) (q := 0) dX4_leadsInside_32 rfl ?_
      obtain ⟨g10, h⟩ := aw_gde h
      refine aw_iald (pc := 34) xA_61 g10 dX4_leadsInside_34 ?_
      refine aw_iconst (pc := 35) (v := 1) dX4_leadsInside_35 (by decide) ?_
      refine aw_icmp_ne (pc := 36) (tgt := 41) dX4_leadsInside_36 (by decide) (fun c11 => ?_) (fun c11 => ?_)
      · replace h := aw_ifn c11 h
        refine aw_sub [1, 2, 3, 4] rfl ?_
        exact t_Lo_leadsInside_J41 h hz
      · replace h := aw_ifp c11 h
        refine aw_iconst (pc := 39) (v := 1) dX4_leadsInside_39 (by decide) ?_
        cases h
        have hE : E = _ := hz
        subst hE
        exact aw_iret (v := (1 : Int32)) rfl aw_n1 ⟨Nat.zero_le _, Nat.zero_le _⟩ dX4_leadsInside_40
set_option maxRecDepth 100000 in
set_option maxHeartbeats 4000000 in
theorem t_Lo_leadsInside {l : Launch} {G : aw_G} {E : aw_E} {σ : aw_S} {p2 : Int32} {t : Int32} (h : m_Lo_leadsInside σ p2 = some t) (hE : E = (some (.int t), xA, σ)) : aw_W l M_Lo_leadsInside G B_Lo_leadsInside E 0 [(0, .ref 58), (1, .ref 24), (2, .int p2)] [] xA σ 0 0 := by
  unfold m_Lo_leadsInside at h
  refine aw_iconst (pc := 0) (v := 0) dX4_leadsInside_0 (by decide) ?_
  refine aw_istore_n (pc := 1) [(3, .int ((0 : Int32))), (0, .ref 58), (1, .ref 24), (2, .int p2)] dX4_leadsInside_1 (by decide) rfl ?_
  obtain ⟨x12, hl13, h⟩ := aw_bde h
  have K14 : z_Lo_leadsInside_Y2 l G E σ p2 x12 := by
    cases x12 with
    | inl y15 =>
      replace h := aw_eL h
      show E = _
      cases h
      exact hE
    | inr y16 =>
      replace h := aw_eR h
      show aw_W l M_Lo_leadsInside G B_Lo_leadsInside E 47 [] [] xA σ 0 0
      refine aw_iconst (pc := 47) (v := 0) dX4_leadsInside_47 (by decide) ?_
      cases h
      subst hE
      exact aw_iret (v := (0 : Int32)) rfl aw_n0 ⟨Nat.zero_le _, Nat.zero_le _⟩ dX4_leadsInside_48
  refine aw_sub [1, 2, 3, 0] rfl ?_
  show z_Lo_leadsInside_X2 l G E σ p2 ((0 : Int32))
  exact aw_lp_X (Xp := z_Lo_leadsInside_X2 l G E σ p2) (Y := z_Lo_leadsInside_Y2 l G E σ p2) hl13 K14 (fun s t hf hz => t_Lo_leadsInside_B2 hf hz)
theorem c_Lo_leadsInside {l : Launch} {G : aw_G} {σ : aw_S} {p2 : Int32} {t : Int32} (h : m_Lo_leadsInside σ p2 = some t) : aw_Ct l yX4_leadsInside M_Lo_leadsInside G B_Lo_leadsInside [.ref 58, .ref 24, .int p2] xA σ (some (.int t), xA, σ) := aw_Ct_of (by decide) rfl (fun h => by cases h) (Nat.le_of_ble_eq_true rfl) (t_Lo_leadsInside h rfl)
/-! LateMover$Loops.addLoop(LLateMover$Graph;I)V -/
def z_Lo_addLoop_X20 (l : Launch) (G : aw_G) (E : aw_E) (v2 : Int32) (s : Int32 × Int32 × aw_S) : Prop := aw_W l M_Lo_addLoop G B_Lo_addLoop E 20 [(0, .ref 58), (1, .ref 24), (2, .int v2), (3, .int s.1), (4, .int s.2.1)] [] xA s.2.2 0 0
def z_Lo_addLoop_Y20 (l : Launch) (G : aw_G) (E : aw_E) (v2 : Int32) (x : (aw_S)) : Prop := aw_W l M_Lo_addLoop G B_Lo_addLoop E 99 [(0, .ref 58), (1, .ref 24)] [] xA x 0 0
def z_Lo_addLoop_X42 (l : Launch) (G : aw_G) (E : aw_E) (v2 : Int32) (v4 : Int32) (s : Int32 × Int32 × aw_S) : Prop := aw_W l M_Lo_addLoop G B_Lo_addLoop E 42 [(0, .ref 58), (1, .ref 24), (2, .int v2), (3, .int s.1), (4, .int v4), (5, .int s.2.1)] [] xA s.2.2 0 0
def z_Lo_addLoop_Y42 (l : Launch) (G : aw_G) (E : aw_E) (v2 : Int32) (v4 : Int32) (x : (Int32 × aw_S)) : Prop := aw_W l M_Lo_addLoop G B_Lo_addLoop E 93 [(0, .ref 58), (1, .ref 24), (2, .int v2), (3, .int x.1), (4, .int v4)] [] xA x.2 0 0
def z_Lo_addLoop_X102 (l : Launch) (G : aw_G) (E : aw_E) (s : Int32 × aw_S) : Prop := aw_W l M_Lo_addLoop G B_Lo_addLoop E 102 [(0, .ref 58), (1, .ref 24), (4, .int s.1)] [] xA s.2 0 0
def z_Lo_addLoop_Y102 (l : Launch) (G : aw_G) (E : aw_E) (x : (aw_S)) : Prop := aw_W l M_Lo_addLoop G B_Lo_addLoop E 134 [] [] xA x 0 0
set_option maxRecDepth 100000 in
set_option maxHeartbeats 4000000 in
theorem t_Lo_addLoop_J87 {l : Launch} {G : aw_G} {E : aw_E} {σ : aw_S} {v2 : Int32} {v3 : Int32} {v4 : Int32} {v5 : Int32} {t : (Int32 × aw_S) ⊕ (Int32 × Int32 × aw_S)} (h : m_Lo_addLoop_J87 σ v2 v3 v4 v5 = some t) (hz : Sum.elim (z_Lo_addLoop_Y42 l G E v2 v4) (z_Lo_addLoop_X42 l G E v2 v4) t) : aw_W l M_Lo_addLoop G B_Lo_addLoop E 87 [(0, .ref 58), (1, .ref 24), (2, .int v2), (3, .int v3), (4, .int v4), (5, .int v5)] [] xA σ 0 0 := by
  unfold m_Lo_addLoop_J87 at h
  obtain ⟨x12, e_x12⟩ : ∃ z, z = (v5 + (-1 : Int32)) := ⟨_, rfl⟩
  replace h := aw_lte h x12 e_x12
  refine aw_iinc (pc := 87) (q := 5) (v := x12) [(5, .int x12), (0, .ref 58), (1, .ref 24), (2, .int v2), (3, .int v3), (4, .int v4)] dX4_addLoop_87 rfl e_x12.symm (by decide) rfl ?_
  refine aw_goto (pc := 90) (tgt := 42) dX4_addLoop_90 (by decide) ?_
  refine aw_sub [1, 2, 3, 4, 5, 0] rfl ?_
  cases h
  exact hz
set_option maxRecDepth 100000 in
set_option maxHeartbeats 4000000 in
theorem t_Lo_addLoop_B42 {l : Launch} {G : aw_G} {E : aw_E} {σ : aw_S} {v2 : Int32} {v4 : Int32} {v3 : Int32} {v5 : Int32} {t : (Int32 × aw_S) ⊕ (Int32 × Int32 × aw_S)} (h : m_Lo_addLoop_B42 σ v2 v4 v3 v5 = some t) (hz : Sum.elim (z_Lo_addLoop_Y42 l G E v2 v4) (z_Lo_addLoop_X42 l G E v2 v4) t) : aw_W l M_Lo_addLoop G B_Lo_addLoop E 42 [(0, .ref 58), (1, .ref 24), (2, .int v2), (3, .int v3), (4, .int v4), (5, .int v5)] [] xA σ 0 0 := by
  unfold m_Lo_addLoop_B42 at h
  refine aw_iload (pc := 42) (q := 5) dX4_addLoop_42 rfl ?_
  refine aw_if_lt (pc := 44) (tgt := 93) dX4_addLoop_44 (by decide) (fun c9 => ?_) (fun c9 => ?_)
  · replace h := aw_ifp c9 h
    refine aw_sub [0, 1, 2, 3, 4] rfl ?_
    cases h
    exact hz
  · replace h := aw_ifn c9 h
    refine aw_aload_n (pc := 47) (q := 0) dX4_addLoop_47 rfl ?_
    refine aw_getC (pc := 48) fd_X4_18.r xA_58 rfl dX4_addLoop_48 ?_
    refine aw_iload (pc := 51) (q := 5) dX4_addLoop_51 rfl ?_
    obtain ⟨g10, h⟩ := aw_gde h
    refine aw_iald (pc := 53) xA_61 g10 dX4_addLoop_53 ?_
    refine aw_if_ne (pc := 54) (tgt := 87) dX4_addLoop_54 (by decide) (fun c11 => ?_) (fun c11 => ?_)
    · replace h := aw_ifn c11 h
      exact t_Lo_addLoop_J87 h hz
    · replace h := aw_ifp c11 h
      refine aw_aload_n (pc := 57) (q := 0) dX4_addLoop_57 rfl ?_
      refine aw_iload_n (pc := 58) (q := 2) dX4_addLoop_58 rfl ?_
      refine aw_iload (pc := 59) (q := 5) dX4_addLoop_59 rfl ?_
      obtain ⟨r13, e14, h⟩ := aw_bde h
      refine aw_cV1 (pc := 61) [.int v2, .int v5] (c_Lo_isOver e14) yy_Lo_isOver.1 wm_597 yy_Lo_isOver.2.1 yy_Lo_isOver.2.2 xA_58 ⟨_, _, rfl⟩ rfl ⟨Nat.le_of_ble_eq_true rfl, Nat.le_of_ble_eq_true rfl⟩ ⟨Nat.zero_le _, Nat.zero_le _⟩ (Nat.le_of_ble_eq_true rfl) dX4_addLoop_61 ?_
      refine aw_if_eq (pc := 64) (tgt := 87) dX4_addLoop_64 (by decide) (fun c15 => ?_) (fun c15 => ?_)
      · replace h := aw_ifp c15 h
        exact t_Lo_addLoop_J87 h hz
      · replace h := aw_ifn c15 h
        refine aw_aload_n (pc := 67) (q := 0) dX4_addLoop_67 rfl ?_
        refine aw_aload_n (pc := 68) (q := 1) dX4_addLoop_68 rfl ?_
        refine aw_iload (pc := 69) (q := 5) dX4_addLoop_69 rfl ?_
        obtain ⟨r16, e17, h⟩ := aw_bde h
        refine aw_cV1 (pc := 71) [.ref 24, .int v5] (c_Lo_leadsInside e17) yy_Lo_leadsInside.1 wm_605 yy_Lo_leadsInside.2.1 yy_Lo_leadsInside.2.2 xA_58 ⟨_, _, rfl⟩ rfl ⟨Nat.le_of_ble_eq_true rfl, Nat.le_of_ble_eq_true rfl⟩ ⟨Nat.zero_le _, Nat.zero_le _⟩ (Nat.le_of_ble_eq_true rfl) dX4_addLoop_71 ?_
        refine aw_if_eq (pc := 74) (tgt := 87) dX4_addLoop_74 (by decide) (fun c18 => ?_) (fun c18 => ?_)
        · replace h := aw_ifp c18 h
          exact t_Lo_addLoop_J87 h hz
        · replace h := aw_ifn c18 h
          refine aw_aload_n (pc := 77) (q := 0) dX4_addLoop_77 rfl ?_
          refine aw_getC (pc := 78) fd_X4_18.r xA_58 rfl dX4_addLoop_78 ?_
          refine aw_iload (pc := 81) (q := 5) dX4_addLoop_81 rfl ?_
          refine aw_iconst (pc := 83) (v := 1) dX4_addLoop_83 (by decide) ?_
          obtain ⟨g19, h⟩ := aw_gde h
          refine aw_iast (pc := 84) xA_61 g19 dX4_addLoop_84 ?_
          refine aw_nmS (fun s20 e_s20 => ?_)
          replace h := aw_lte h s20 e_s20
          refine aw_iconst (pc := 85) (v := 1) dX4_addLoop_85 (by decide) ?_
          refine aw_istore_n (pc := 86) [(3, .int ((1 : Int32))), (0, .ref 58), (1, .ref 24), (2, .int v2), (4, .int v4), (5, .int v5)] dX4_addLoop_86 (by decide) rfl ?_
          refine aw_sub [1, 2, 3, 0, 4, 5] rfl ?_
          exact t_Lo_addLoop_J87 h hz
set_option maxRecDepth 100000 in
set_option maxHeartbeats 4000000 in
theorem t_Lo_addLoop_B20 {l : Launch} {G : aw_G} {E : aw_E} {σ : aw_S} {v2 : Int32} {v3 : Int32} {v4 : Int32} {t : (aw_S) ⊕ (Int32 × Int32 × aw_S)} (h : m_Lo_addLoop_B20 σ v2 v3 v4 = some t) (hz : Sum.elim (z_Lo_addLoop_Y20 l G E v2) (z_Lo_addLoop_X20 l G E v2) t) : aw_W l M_Lo_addLoop G B_Lo_addLoop E 20 [(0, .ref 58), (1, .ref 24), (2, .int v2), (3, .int v3), (4, .int v4)] [] xA σ 0 0 := by
  unfold m_Lo_addLoop_B20 at h
  refine aw_iload_n (pc := 20) (q := 3) dX4_addLoop_20 rfl ?_
  refine aw_if_eq (pc := 21) (tgt := 99) dX4_addLoop_21 (by decide) (fun c6 => ?_) (fun c6 => ?_)
  · replace h := aw_ifp c6 h
    refine aw_sub [0, 1] rfl ?_
    cases h
    exact hz
  · replace h := aw_ifn c6 h
    refine aw_iload (pc := 24) (q := 4) dX4_addLoop_24 rfl ?_
    refine aw_sipush (pc := 26) (v := 1000) dX4_addLoop_26 (by decide) ?_
    refine aw_icmp_ge (pc := 29) (tgt := 99) dX4_addLoop_29 (by decide) (fun c7 => ?_) (fun c7 => ?_)
    · replace h := aw_ifp c7 h
      refine aw_sub [0, 1] rfl ?_
      cases h
      exact hz
    · replace h := aw_ifn c7 h
      refine aw_iconst (pc := 32) (v := 0) dX4_addLoop_32 (by decide) ?_
      refine aw_istore_n (pc := 33) [(3, .int ((0 : Int32))), (0, .ref 58), (1, .ref 24), (2, .int v2), (4, .int v4)] dX4_addLoop_33 (by decide) rfl ?_
      refine aw_aload_n (pc := 34) (q := 2) dX4_addLoop_34 rfl ?_
      refine aw_getI (pc := 35) fd_X4_39.r xA_24 rfl dX4_addLoop_35 ?_
      refine aw_iconst (pc := 38) (v := 1) dX4_addLoop_38 (by decide) ?_
      refine aw_isub (pc := 39) dX4_addLoop_39 ?_
      refine aw_nmI (fun x8 e_x8 => ?_)
      replace h := aw_lte h x8 e_x8
      refine aw_istore (pc := 40) [(5, .int x8), (3, .int ((0 : Int32))), (0, .ref 58), (1, .ref 24), (2, .int v2), (4, .int v4)] dX4_addLoop_40 (by decide) rfl ?_
      obtain ⟨x21, hl22, h⟩ := aw_bde h
      have K23 : z_Lo_addLoop_Y42 l G E v2 v4 x21 := by
        show aw_W l M_Lo_addLoop G B_Lo_addLoop E 93 [(0, .ref 58), (1, .ref 24), (2, .int v2), (3, .int x21.1), (4, .int v4)] [] xA x21.2 0 0
        obtain ⟨x24, e_x24⟩ : ∃ z, z = (v4 + (1 : Int32)) := ⟨_, rfl⟩
        replace h := aw_lte h x24 e_x24
        refine aw_iinc (pc := 93) (q := 4) (v := x24) [(4, .int x24), (0, .ref 58), (1, .ref 24), (2, .int v2), (3, .int x21.1)] dX4_addLoop_93 rfl e_x24.symm (by decide) rfl ?_
        refine aw_goto (pc := 96) (tgt := 20) dX4_addLoop_96 (by decide) ?_
        refine aw_sub [1, 2, 3, 4, 0] rfl ?_
        cases h
        exact hz
      refine aw_sub [2, 3, 4, 1, 5, 0] rfl ?_
      show z_Lo_addLoop_X42 l G E v2 v4 (((0 : Int32), x8, σ))
      exact aw_lp_X (Xp := z_Lo_addLoop_X42 l G E v2 v4) (Y := z_Lo_addLoop_Y42 l G E v2 v4) hl22 K23 (fun s t hf hz => t_Lo_addLoop_B42 hf hz)
set_option maxRecDepth 100000 in
set_option maxHeartbeats 4000000 in
theorem t_Lo_addLoop_B102 {l : Launch} {G : aw_G} {E : aw_E} {σ : aw_S} {v4 : Int32} {t : (aw_S) ⊕ (Int32 × aw_S)} (h : m_Lo_addLoop_B102 σ v4 = some t) (hz : Sum.elim (z_Lo_addLoop_Y102 l G E) (z_Lo_addLoop_X102 l G E) t) : aw_W l M_Lo_addLoop G B_Lo_addLoop E 102 [(0, .ref 58), (1, .ref 24), (4, .int v4)] [] xA σ 0 0 := by
  unfold m_Lo_addLoop_B102 at h
  refine aw_iload (pc := 102) (q := 2) dX4_addLoop_102 rfl ?_
  refine aw_aload_n (pc := 104) (q := 1) dX4_addLoop_104 rfl ?_
  refine aw_getI (pc := 105) fd_X4_39.r xA_24 rfl dX4_addLoop_105 ?_
  refine aw_icmp_ge (pc := 108) (tgt := 134) dX4_addLoop_108 (by decide) (fun c28 => ?_) (fun c28 => ?_)
  · replace h := aw_ifp c28 h
    refine aw_sub [] rfl ?_
    cases h
    exact hz
  · replace h := aw_ifn c28 h
    refine aw_aload_n (pc := 111) (q := 0) dX4_addLoop_111 rfl ?_
    refine aw_getC (pc := 112) fd_X4_22.r xA_58 rfl dX4_addLoop_112 ?_
    refine aw_iload (pc := 115) (q := 2) dX4_addLoop_115 rfl ?_
    refine aw_dup2 (pc := 117) dX4_addLoop_117 rfl rfl ?_
    obtain ⟨g29, h⟩ := aw_gde h
    refine aw_iald (pc := 118) xA_62 g29 dX4_addLoop_118 ?_
    refine aw_aload_n (pc := 119) (q := 0) dX4_addLoop_119 rfl ?_
    refine aw_getC (pc := 120) fd_X4_18.r xA_58 rfl dX4_addLoop_120 ?_
    refine aw_iload (pc := 123) (q := 2) dX4_addLoop_123 rfl ?_
    obtain ⟨g30, h⟩ := aw_gde h
    refine aw_iald (pc := 125) xA_61 g30 dX4_addLoop_125 ?_
    refine aw_iadd (pc := 126) dX4_addLoop_126 ?_
    obtain ⟨g31, h⟩ := aw_gde h
    refine aw_iast (pc := 127) xA_62 g31 dX4_addLoop_127 ?_
    refine aw_nmS (fun s32 e_s32 => ?_)
    replace h := aw_lte h s32 e_s32
    obtain ⟨x33, e_x33⟩ : ∃ z, z = (v4 + (1 : Int32)) := ⟨_, rfl⟩
    replace h := aw_lte h x33 e_x33
    refine aw_iinc (pc := 128) (q := 2) (v := x33) [(4, .int x33), (0, .ref 58), (1, .ref 24)] dX4_addLoop_128 rfl e_x33.symm (by decide) rfl ?_
    refine aw_goto (pc := 131) (tgt := 102) dX4_addLoop_131 (by decide) ?_
    refine aw_sub [1, 2, 0] rfl ?_
    cases h
    exact hz
set_option maxRecDepth 100000 in
set_option maxHeartbeats 4000000 in
theorem t_Lo_addLoop {l : Launch} {G : aw_G} {E : aw_E} {σ : aw_S} {p2 : Int32} {t : aw_S} (h : m_Lo_addLoop σ p2 = some t) (hE : E = (none, xA, t)) : aw_W l M_Lo_addLoop G B_Lo_addLoop E 0 [(0, .ref 58), (1, .ref 24), (2, .int p2)] [] xA σ 0 0 := by
  unfold m_Lo_addLoop at h
  refine aw_aload_n (pc := 0) (q := 0) dX4_addLoop_0 rfl ?_
  refine aw_getC (pc := 1) fd_X4_18.r xA_58 rfl dX4_addLoop_1 ?_
  refine aw_iconst (pc := 4) (v := 0) dX4_addLoop_4 (by decide) ?_
  obtain ⟨s3, e2, h⟩ := aw_bde h
  refine aw_cS0 (pc := 5) [.ref 61, .int ((0 : Int32))] (c_Ar_fillI xA_61 e2) yy_Ar_fillI.1 wm_592 yy_Ar_fillI.2 rfl ⟨Nat.le_of_ble_eq_true rfl, Nat.le_of_ble_eq_true rfl⟩ ⟨Nat.zero_le _, Nat.zero_le _⟩ (Nat.le_of_ble_eq_true rfl) dX4_addLoop_5 ?_
  refine aw_aload_n (pc := 8) (q := 0) dX4_addLoop_8 rfl ?_
  refine aw_getC (pc := 9) fd_X4_18.r xA_58 rfl dX4_addLoop_9 ?_
  refine aw_iload_n (pc := 12) (q := 2) dX4_addLoop_12 rfl ?_
  refine aw_iconst (pc := 13) (v := 1) dX4_addLoop_13 (by decide) ?_
  obtain ⟨g4, h⟩ := aw_gde h
  refine aw_iast (pc := 14) xA_61 g4 dX4_addLoop_14 ?_
  refine aw_nmS (fun s5 e_s5 => ?_)
  replace h := aw_lte h s5 e_s5
  refine aw_iconst (pc := 15) (v := 1) dX4_addLoop_15 (by decide) ?_
  refine aw_istore_n (pc := 16) [(3, .int ((1 : Int32))), (0, .ref 58), (1, .ref 24), (2, .int p2)] dX4_addLoop_16 (by decide) rfl ?_
  refine aw_iconst (pc := 17) (v := 0) dX4_addLoop_17 (by decide) ?_
  refine aw_istore (pc := 18) [(4, .int ((0 : Int32))), (3, .int ((1 : Int32))), (0, .ref 58), (1, .ref 24), (2, .int p2)] dX4_addLoop_18 (by decide) rfl ?_
  obtain ⟨x25, hl26, h⟩ := aw_bde h
  have K27 : z_Lo_addLoop_Y20 l G E p2 x25 := by
    show aw_W l M_Lo_addLoop G B_Lo_addLoop E 99 [(0, .ref 58), (1, .ref 24)] [] xA x25 0 0
    refine aw_iconst (pc := 99) (v := 0) dX4_addLoop_99 (by decide) ?_
    refine aw_istore (pc := 100) [(4, .int ((0 : Int32))), (0, .ref 58), (1, .ref 24)] dX4_addLoop_100 (by decide) rfl ?_
    obtain ⟨x34, hl35, h⟩ := aw_bde h
    have K36 : z_Lo_addLoop_Y102 l G E x34 := by
      show aw_W l M_Lo_addLoop G B_Lo_addLoop E 134 [] [] xA x34 0 0
      cases h
      subst hE
      exact aw_vret rfl ⟨Nat.zero_le _, Nat.zero_le _⟩ dX4_addLoop_134
    refine aw_sub [1, 2, 0] rfl ?_
    show z_Lo_addLoop_X102 l G E (((0 : Int32), x25))
    exact aw_lp_X (Xp := z_Lo_addLoop_X102 l G E) (Y := z_Lo_addLoop_Y102 l G E) hl35 K36 (fun s t hf hz => t_Lo_addLoop_B102 hf hz)
  refine aw_sub [2, 3, 4, 1, 0] rfl ?_
  show z_Lo_addLoop_X20 l G E p2 (((1 : Int32), (0 : Int32), s5))
  exact aw_lp_X (Xp := z_Lo_addLoop_X20 l G E p2) (Y := z_Lo_addLoop_Y20 l G E p2) hl26 K27 (fun s t hf hz => t_Lo_addLoop_B20 hf hz)
theorem c_Lo_addLoop {l : Launch} {G : aw_G} {σ : aw_S} {p2 : Int32} {t : aw_S} (h : m_Lo_addLoop σ p2 = some t) : aw_Ct l yX4_addLoop M_Lo_addLoop G B_Lo_addLoop [.ref 58, .ref 24, .int p2] xA σ (none, xA, t) := aw_Ct_of (by decide) rfl (fun h => by cases h) (Nat.le_of_ble_eq_true rfl) (t_Lo_addLoop h rfl)
/-! LateMover$Loops.build(LLateMover$Graph;)V -/
def z_Lo_build_X20 (l : Launch) (G : aw_G) (E : aw_E) (s : Int32 × aw_S) : Prop := aw_W l M_Lo_build G B_Lo_build E 20 [(0, .ref 58), (1, .ref 24), (2, .int s.1)] [] xA s.2 0 0
def z_Lo_build_Y20 (l : Launch) (G : aw_G) (E : aw_E) (x : (aw_S)) : Prop := aw_W l M_Lo_build G B_Lo_build E 59 [] [] xA x 0 0
set_option maxRecDepth 100000 in
set_option maxHeartbeats 4000000 in
theorem t_Lo_build_J53 {l : Launch} {G : aw_G} {E : aw_E} {σ : aw_S} {v2 : Int32} {t : (aw_S) ⊕ (Int32 × aw_S)} (h : m_Lo_build_J53 σ v2 = some t) (hz : Sum.elim (z_Lo_build_Y20 l G E) (z_Lo_build_X20 l G E) t) : aw_W l M_Lo_build G B_Lo_build E 53 [(0, .ref 58), (1, .ref 24), (2, .int v2)] [] xA σ 0 0 := by
  unfold m_Lo_build_J53 at h
  obtain ⟨x12, e_x12⟩ : ∃ z, z = (v2 + (1 : Int32)) := ⟨_, rfl⟩
  replace h := aw_lte h x12 e_x12
  refine aw_iinc (pc := 53) (q := 2) (v := x12) [(2, .int x12), (0, .ref 58), (1, .ref 24)] dX4_build_53 rfl e_x12.symm (by decide) rfl ?_
  refine aw_goto (pc := 56) (tgt := 20) dX4_build_56 (by decide) ?_
  refine aw_sub [1, 2, 0] rfl ?_
  cases h
  exact hz
set_option maxRecDepth 100000 in
set_option maxHeartbeats 4000000 in
theorem t_Lo_build_B20 {l : Launch} {G : aw_G} {E : aw_E} {σ : aw_S} {v2 : Int32} {t : (aw_S) ⊕ (Int32 × aw_S)} (h : m_Lo_build_B20 σ v2 = some t) (hz : Sum.elim (z_Lo_build_Y20 l G E) (z_Lo_build_X20 l G E) t) : aw_W l M_Lo_build G B_Lo_build E 20 [(0, .ref 58), (1, .ref 24), (2, .int v2)] [] xA σ 0 0 := by
  unfold m_Lo_build_B20 at h
  refine aw_iload_n (pc := 20) (q := 2) dX4_build_20 rfl ?_
  refine aw_aload_n (pc := 21) (q := 1) dX4_build_21 rfl ?_
  refine aw_getI (pc := 22) fd_X4_39.r xA_24 rfl dX4_build_22 ?_
  refine aw_icmp_ge (pc := 25) (tgt := 59) dX4_build_25 (by decide) (fun c8 => ?_) (fun c8 => ?_)
  · replace h := aw_ifp c8 h
    refine aw_sub [] rfl ?_
    cases h
    exact hz
  · replace h := aw_ifn c8 h
    refine aw_aload_n (pc := 28) (q := 0) dX4_build_28 rfl ?_
    refine aw_aload_n (pc := 29) (q := 1) dX4_build_29 rfl ?_
    refine aw_iload_n (pc := 30) (q := 2) dX4_build_30 rfl ?_
    obtain ⟨r9, e10, h⟩ := aw_bde h
    refine aw_cV1 (pc := 31) [.ref 24, .int v2] (c_Lo_isHead e10) yy_Lo_isHead.1 wm_593 yy_Lo_isHead.2.1 yy_Lo_isHead.2.2 xA_58 ⟨_, _, rfl⟩ rfl ⟨Nat.le_of_ble_eq_true rfl, Nat.le_of_ble_eq_true rfl⟩ ⟨Nat.zero_le _, Nat.zero_le _⟩ (Nat.le_of_ble_eq_true rfl) dX4_build_31 ?_
    refine aw_if_eq (pc := 34) (tgt := 53) dX4_build_34 (by decide) (fun c11 => ?_) (fun c11 => ?_)
    · replace h := aw_ifp c11 h
      exact t_Lo_build_J53 h hz
    · replace h := aw_ifn c11 h
      refine aw_aload_n (pc := 37) (q := 0) dX4_build_37 rfl ?_
      refine aw_dup (pc := 38) dX4_build_38 rfl ?_
      refine aw_getI (pc := 39) fd_X4_35.r xA_58 rfl dX4_build_39 ?_
      refine aw_iconst (pc := 42) (v := 1) dX4_build_42 (by decide) ?_
      refine aw_iadd (pc := 43) dX4_build_43 ?_
      refine aw_putI (pc := 44) fd_X4_35 xA_58 rfl (fun _ => rfl) (fun _ => rfl) dX4_build_44 ?_
      refine aw_nmS (fun s13 e_s13 => ?_)
      replace h := aw_lte h s13 e_s13
      refine aw_aload_n (pc := 47) (q := 0) dX4_build_47 rfl ?_
      refine aw_aload_n (pc := 48) (q := 1) dX4_build_48 rfl ?_
      refine aw_iload_n (pc := 49) (q := 2) dX4_build_49 rfl ?_
      obtain ⟨s16, e15, h⟩ := aw_bde h
      refine aw_cV0 (pc := 50) [.ref 24, .int v2] (c_Lo_addLoop e15) yy_Lo_addLoop.1 wm_601 yy_Lo_addLoop.2.1 yy_Lo_addLoop.2.2 xA_58 ⟨_, _, rfl⟩ rfl ⟨Nat.le_of_ble_eq_true rfl, Nat.le_of_ble_eq_true rfl⟩ ⟨Nat.zero_le _, Nat.zero_le _⟩ (Nat.le_of_ble_eq_true rfl) dX4_build_50 ?_
      exact t_Lo_build_J53 h hz
set_option maxRecDepth 100000 in
set_option maxHeartbeats 4000000 in
theorem t_Lo_build {l : Launch} {G : aw_G} {E : aw_E} {σ : aw_S} {t : aw_S} (h : m_Lo_build σ = some t) (hE : E = (none, xA, t)) : aw_W l M_Lo_build G B_Lo_build E 0 [(0, .ref 58), (1, .ref 24)] [] xA σ 0 0 := by
  unfold m_Lo_build at h
  refine aw_aload_n (pc := 0) (q := 0) dX4_build_0 rfl ?_
  refine aw_aload_n (pc := 1) (q := 1) dX4_build_1 rfl ?_
  obtain ⟨s3, e2, h⟩ := aw_bde h
  refine aw_cV0 (pc := 2) [.ref 24] (c_Lo_findOver e2) yy_Lo_findOver.1 wm_577 yy_Lo_findOver.2.1 yy_Lo_findOver.2.2 xA_58 ⟨_, _, rfl⟩ rfl ⟨Nat.le_of_ble_eq_true rfl, Nat.le_of_ble_eq_true rfl⟩ ⟨Nat.zero_le _, Nat.zero_le _⟩ (Nat.le_of_ble_eq_true rfl) dX4_build_2 ?_
  refine aw_aload_n (pc := 5) (q := 0) dX4_build_5 rfl ?_
  refine aw_getC (pc := 6) fd_X4_22.r xA_58 rfl dX4_build_6 ?_
  refine aw_iconst (pc := 9) (v := 0) dX4_build_9 (by decide) ?_
  obtain ⟨s6, e5, h⟩ := aw_bde h
  refine aw_cS0 (pc := 10) [.ref 62, .int ((0 : Int32))] (c_Ar_fillI xA_62 e5) yy_Ar_fillI.1 wm_592 yy_Ar_fillI.2 rfl ⟨Nat.le_of_ble_eq_true rfl, Nat.le_of_ble_eq_true rfl⟩ ⟨Nat.zero_le _, Nat.zero_le _⟩ (Nat.le_of_ble_eq_true rfl) dX4_build_10 ?_
  refine aw_aload_n (pc := 13) (q := 0) dX4_build_13 rfl ?_
  refine aw_iconst (pc := 14) (v := 0) dX4_build_14 (by decide) ?_
  refine aw_putI (pc := 15) fd_X4_35 xA_58 rfl (fun _ => rfl) (fun _ => rfl) dX4_build_15 ?_
  refine aw_nmS (fun s7 e_s7 => ?_)
  replace h := aw_lte h s7 e_s7
  refine aw_iconst (pc := 18) (v := 0) dX4_build_18 (by decide) ?_
  refine aw_istore_n (pc := 19) [(2, .int ((0 : Int32))), (0, .ref 58), (1, .ref 24)] dX4_build_19 (by decide) rfl ?_
  obtain ⟨x17, hl18, h⟩ := aw_bde h
  have K19 : z_Lo_build_Y20 l G E x17 := by
    show aw_W l M_Lo_build G B_Lo_build E 59 [] [] xA x17 0 0
    cases h
    subst hE
    exact aw_vret rfl ⟨Nat.zero_le _, Nat.zero_le _⟩ dX4_build_59
  refine aw_sub [1, 2, 0] rfl ?_
  show z_Lo_build_X20 l G E (((0 : Int32), s7))
  exact aw_lp_X (Xp := z_Lo_build_X20 l G E) (Y := z_Lo_build_Y20 l G E) hl18 K19 (fun s t hf hz => t_Lo_build_B20 hf hz)
theorem c_Lo_build {l : Launch} {G : aw_G} {σ : aw_S} {t : aw_S} (h : m_Lo_build σ = some t) : aw_Ct l yX4_build M_Lo_build G B_Lo_build [.ref 58, .ref 24] xA σ (none, xA, t) := aw_Ct_of (by decide) rfl (fun h => by cases h) (Nat.le_of_ble_eq_true rfl) (t_Lo_build h rfl)
/-! LateMover$Placement.tell(III)V -/
set_option maxRecDepth 100000 in
set_option maxHeartbeats 4000000 in
theorem t_Pl_tell {l : Launch} {G : aw_G} {E : aw_E} {σ : aw_S} {o : Nat} {p1 : Int32} {p2 : Int32} {p3 : Int32} (h_o : isPl o) {t : aw_S} (h : m_Pl_tell σ o p1 p2 p3 = some t) (hE : E = (none, xA, t)) : aw_W l M_Pl_tell G B_Pl_tell E 0 [(0, .ref o), (1, .int p1), (2, .int p2), (3, .int p3)] [] xA σ 0 0 := by
  unfold m_Pl_tell at h
  refine aw_iload_n (pc := 0) (q := 1) dX6_tell_0 rfl ?_
  refine aw_if_lt (pc := 1) (tgt := 25) dX6_tell_1 (by decide) (fun c1 => ?_) (fun c1 => ?_)
  · replace h := aw_ifp c1 h
    cases h
    subst hE
    exact aw_vret rfl ⟨Nat.zero_le _, Nat.zero_le _⟩ dX6_tell_25
  · replace h := aw_ifn c1 h
    refine aw_iload_n (pc := 4) (q := 1) dX6_tell_4 rfl ?_
    refine aw_sipush (pc := 5) (v := 128) dX6_tell_5 (by decide) ?_
    refine aw_icmp_ge (pc := 8) (tgt := 25) dX6_tell_8 (by decide) (fun c2 => ?_) (fun c2 => ?_)
    · replace h := aw_ifp c2 h
      cases h
      subst hE
      exact aw_vret rfl ⟨Nat.zero_le _, Nat.zero_le _⟩ dX6_tell_25
    · replace h := aw_ifn c2 h
      refine aw_aload_n (pc := 11) (q := 0) dX6_tell_11 rfl ?_
      refine aw_getC (pc := 12) fd_X6_9.r h_o.1 rfl dX6_tell_12 ?_
      refine aw_iload_n (pc := 15) (q := 1) dX6_tell_15 rfl ?_
      refine aw_iload_n (pc := 16) (q := 2) dX6_tell_16 rfl ?_
      obtain ⟨g3, h⟩ := aw_gde h
      refine aw_iast (pc := 17) h_o.2.1 g3 dX6_tell_17 ?_
      refine aw_nmS (fun s4 e_s4 => ?_)
      replace h := aw_lte h s4 e_s4
      refine aw_aload_n (pc := 18) (q := 0) dX6_tell_18 rfl ?_
      refine aw_getC (pc := 19) fd_X6_15.r h_o.1 rfl dX6_tell_19 ?_
      refine aw_iload_n (pc := 22) (q := 1) dX6_tell_22 rfl ?_
      refine aw_iload_n (pc := 23) (q := 3) dX6_tell_23 rfl ?_
      obtain ⟨g5, h⟩ := aw_gde h
      refine aw_iast (pc := 24) h_o.2.2.1 g5 dX6_tell_24 ?_
      refine aw_nmS (fun s6 e_s6 => ?_)
      replace h := aw_lte h s6 e_s6
      cases h
      subst hE
      exact aw_vret rfl ⟨Nat.zero_le _, Nat.zero_le _⟩ dX6_tell_25
theorem c_Pl_tell {l : Launch} {G : aw_G} {σ : aw_S} {o : Nat} {p1 : Int32} {p2 : Int32} {p3 : Int32} (h_o : isPl o) {t : aw_S} (h : m_Pl_tell σ o p1 p2 p3 = some t) : aw_Ct l yX6_tell M_Pl_tell G B_Pl_tell [.ref o, .int p1, .int p2, .int p3] xA σ (none, xA, t) := aw_Ct_of (by decide) rfl (fun h => by cases h) (Nat.le_of_ble_eq_true rfl) (t_Pl_tell h_o h rfl)
/-! LateMover.bitOf(II)I -/
set_option maxRecDepth 100000 in
set_option maxHeartbeats 4000000 in
theorem t_Mo_bitOf {l : Launch} {G : aw_G} {E : aw_E} {σ : aw_S} {p0 : Int32} {p1 : Int32} {t : Int32} (h : m_Mo_bitOf σ p0 p1 = some t) (hE : E = (some (.int t), xA, σ)) : aw_W l M_Mo_bitOf G B_Mo_bitOf E 0 [(0, .int p0), (1, .int p1)] [] xA σ 0 0 := by
  unfold m_Mo_bitOf at h
  refine aw_iload_n (pc := 0) (q := 0) dX11_bitOf_0 rfl ?_
  refine aw_iload_n (pc := 1) (q := 1) dX11_bitOf_1 rfl ?_
  refine aw_iushr (pc := 2) dX11_bitOf_2 ?_
  refine aw_iconst (pc := 3) (v := 1) dX11_bitOf_3 (by decide) ?_
  refine aw_iand (pc := 4) dX11_bitOf_4 ?_
  cases h
  subst hE
  exact aw_iret (v := ((aw_ushr p0 p1) &&& (1 : Int32))) rfl aw_ni ⟨Nat.zero_le _, Nat.zero_le _⟩ dX11_bitOf_5
theorem c_Mo_bitOf {l : Launch} {G : aw_G} {σ : aw_S} {p0 : Int32} {p1 : Int32} {t : Int32} (h : m_Mo_bitOf σ p0 p1 = some t) : aw_Ct l yX11_bitOf M_Mo_bitOf G B_Mo_bitOf [.int p0, .int p1] xA σ (some (.int t), xA, σ) := aw_Ct_of (by decide) rfl (fun h => by cases h) (Nat.le_of_ble_eq_true rfl) (t_Mo_bitOf h rfl)
/-! LateMover$Placement.findClashes(LLateMover$Graph;)V -/
def z_Pl_findClashes_X2 (l : Launch) (G : aw_G) (E : aw_E) (v0 : Nat) (s : Int32 × aw_S) : Prop := aw_W l M_Pl_findClashes G B_Pl_findClashes E 2 [(0, .ref v0), (1, .ref 24), (2, .int s.1)] [] xA s.2 0 0
def z_Pl_findClashes_Y2 (l : Launch) (G : aw_G) (E : aw_E) (v0 : Nat) (x : (aw_S)) : Prop := aw_W l M_Pl_findClashes G B_Pl_findClashes E 81 [] [] xA x 0 0
def z_Pl_findClashes_X18 (l : Launch) (G : aw_G) (E : aw_E) (σ : aw_S) (v0 : Nat) (v2 : Int32) (s : Int32 × Int32) : Prop := aw_W l M_Pl_findClashes G B_Pl_findClashes E 18 [(0, .ref v0), (1, .ref 24), (2, .int v2), (3, .int s.1), (4, .int s.2)] [] xA σ 0 0
def z_Pl_findClashes_Y18 (l : Launch) (G : aw_G) (E : aw_E) (σ : aw_S) (v0 : Nat) (v2 : Int32) (x : (Int32)) : Prop := aw_W l M_Pl_findClashes G B_Pl_findClashes E 62 [(0, .ref v0), (1, .ref 24), (2, .int v2), (3, .int x)] [] xA σ 0 0
set_option maxRecDepth 100000 in
set_option maxHeartbeats 4000000 in
theorem t_Pl_findClashes_J54 {l : Launch} {G : aw_G} {E : aw_E} {σ : aw_S} {v0 : Nat} {v2 : Int32} {v4 : Int32} {k0 : Int32} {k1 : Int32} (h_v0 : isPl v0) {t : (Int32) ⊕ (Int32 × Int32)} (h : m_Pl_findClashes_J54 σ v0 v2 v4 k0 k1 = some t) (hz : Sum.elim (z_Pl_findClashes_Y18 l G E σ v0 v2) (z_Pl_findClashes_X18 l G E σ v0 v2) t) : aw_W l M_Pl_findClashes G B_Pl_findClashes E 54 [(0, .ref v0), (1, .ref 24), (2, .int v2), (4, .int v4)] [.int k1, .int k0] xA σ 0 0 := by
  unfold m_Pl_findClashes_J54 at h
  refine aw_ior (pc := 54) dX6_findClashes_54 ?_
  refine aw_nmI (fun x7 e_x7 => ?_)
  replace h := aw_lte h x7 e_x7
  refine aw_istore_n (pc := 55) [(3, .int x7), (0, .ref v0), (1, .ref 24), (2, .int v2), (4, .int v4)] dX6_findClashes_55 (by decide) rfl ?_
  obtain ⟨x8, e_x8⟩ : ∃ z, z = (v4 + (1 : Int32)) := ⟨_, rfl⟩
  replace h := aw_lte h x8 e_x8
  refine aw_iinc (pc := 56) (q := 4) (v := x8) [(4, .int x8), (3, .int x7), (0, .ref v0), (1, .ref 24), (2, .int v2)] dX6_findClashes_56 rfl e_x8.symm (by decide) rfl ?_
  refine aw_goto (pc := 59) (tgt := 18) dX6_findClashes_59 (by decide) ?_
  refine aw_sub [2, 3, 4, 1, 0] rfl ?_
  cases h
  exact hz
set_option maxRecDepth 100000 in
set_option maxHeartbeats 4000000 in
theorem t_Pl_findClashes_B18 {l : Launch} {G : aw_G} {E : aw_E} {σ : aw_S} {v0 : Nat} {v2 : Int32} {v3 : Int32} {v4 : Int32} (h_v0 : isPl v0) {t : (Int32) ⊕ (Int32 × Int32)} (h : m_Pl_findClashes_B18 σ v0 v2 v3 v4 = some t) (hz : Sum.elim (z_Pl_findClashes_Y18 l G E σ v0 v2) (z_Pl_findClashes_X18 l G E σ v0 v2) t) : aw_W l M_Pl_findClashes G B_Pl_findClashes E 18 [(0, .ref v0), (1, .ref 24), (2, .int v2), (3, .int v3), (4, .int v4)] [] xA σ 0 0 := by
  unfold m_Pl_findClashes_B18 at h
  refine aw_iload (pc := 18) (q := 4) dX6_findClashes_18 rfl ?_
  refine aw_aload_n (pc := 20) (q := 1) dX6_findClashes_20 rfl ?_
  refine aw_getI (pc := 21) fd_X6_27.r xA_24 rfl dX6_findClashes_21 ?_
  refine aw_icmp_ge (pc := 24) (tgt := 62) dX6_findClashes_24 (by decide) (fun c2 => ?_) (fun c2 => ?_)
  · replace h := aw_ifp c2 h
    refine aw_sub [0, 1, 2, 3] rfl ?_
    cases h
    exact hz
  · replace h := aw_ifn c2 h
    refine aw_iload_n (pc := 27) (q := 3) dX6_findClashes_27 rfl ?_
    refine aw_aload_n (pc := 28) (q := 0) dX6_findClashes_28 rfl ?_
    refine aw_getC (pc := 29) fd_X6_18.r h_v0.1 rfl dX6_findClashes_29 ?_
    refine aw_iload (pc := 32) (q := 4) dX6_findClashes_32 rfl ?_
    obtain ⟨g3, h⟩ := aw_gde h
    refine aw_iald (pc := 34) h_v0.2.2.2.1 g3 dX6_findClashes_34 ?_
    refine aw_iload_n (pc := 35) (q := 2) dX6_findClashes_35 rfl ?_
    obtain ⟨r4, e5, h⟩ := aw_bde h
    refine aw_cN1 (pc := 36) [.int ((σ.1 (v0 + 3) v4.toNatClampNeg)), .int v2] (c_Mo_bitOf e5) yy_Mo_bitOf.1 nm_X6_59 yy_Mo_bitOf.2 rfl ⟨Nat.le_of_ble_eq_true rfl, Nat.le_of_ble_eq_true rfl⟩ ⟨Nat.zero_le _, Nat.zero_le _⟩ (Nat.le_of_ble_eq_true rfl) dX6_findClashes_36 ?_
    refine aw_iconst (pc := 39) (v := 1) dX6_findClashes_39 (by decide) ?_
    refine aw_icmp_ne (pc := 40) (tgt := 53) dX6_findClashes_40 (by decide) (fun c6 => ?_) (fun c6 => ?_)
    · replace h := aw_ifn c6 h
      refine aw_iconst (pc := 53) (v := 0) dX6_findClashes_53 (by decide) ?_
      refine aw_sub [0, 1, 2, 4] rfl ?_
      exact t_Pl_findClashes_J54 h_v0 h hz
    · replace h := aw_ifp c6 h
      refine aw_aload_n (pc := 43) (q := 0) dX6_findClashes_43 rfl ?_
      refine aw_getC (pc := 44) fd_X6_18.r h_v0.1 rfl dX6_findClashes_44 ?_
      refine aw_iload (pc := 47) (q := 4) dX6_findClashes_47 rfl ?_
      obtain ⟨g9, h⟩ := aw_gde h
      refine aw_iald (pc := 49) h_v0.2.2.2.1 g9 dX6_findClashes_49 ?_
      refine aw_goto (pc := 50) (tgt := 54) dX6_findClashes_50 (by decide) ?_
      refine aw_sub [0, 1, 2, 4] rfl ?_
      exact t_Pl_findClashes_J54 h_v0 h hz
set_option maxRecDepth 100000 in
set_option maxHeartbeats 4000000 in
theorem t_Pl_findClashes_B2 {l : Launch} {G : aw_G} {E : aw_E} {σ : aw_S} {v0 : Nat} {v2 : Int32} (h_v0 : isPl v0) {t : (aw_S) ⊕ (Int32 × aw_S)} (h : m_Pl_findClashes_B2 σ v0 v2 = some t) (hz : Sum.elim (z_Pl_findClashes_Y2 l G E v0) (z_Pl_findClashes_X2 l G E v0) t) : aw_W l M_Pl_findClashes G B_Pl_findClashes E 2 [(0, .ref v0), (1, .ref 24), (2, .int v2)] [] xA σ 0 0 := by
  unfold m_Pl_findClashes_B2 at h
  refine aw_iload_n (pc := 2) (q := 2) dX6_findClashes_2 rfl ?_
  refine aw_aload_n (pc := 3) (q := 1) dX6_findClashes_3 rfl ?_
  refine aw_getC (pc := 4) fd_X6_50 xA_24 rfl dX6_findClashes_4 ?_
  refine aw_getI (pc := 7) fd_X6_54.r xA_25 rfl dX6_findClashes_7 ?_
  refine aw_icmp_ge (pc := 10) (tgt := 81) dX6_findClashes_10 (by decide) (fun c1 => ?_) (fun c1 => ?_)
  · replace h := aw_ifp c1 h
    refine aw_sub [] rfl ?_
    cases h
    exact hz
  · replace h := aw_ifn c1 h
    refine aw_iconst (pc := 13) (v := 0) dX6_findClashes_13 (by decide) ?_
    refine aw_istore_n (pc := 14) [(3, .int ((0 : Int32))), (0, .ref v0), (1, .ref 24), (2, .int v2)] dX6_findClashes_14 (by decide) rfl ?_
    refine aw_iconst (pc := 15) (v := 0) dX6_findClashes_15 (by decide) ?_
    refine aw_istore (pc := 16) [(4, .int ((0 : Int32))), (3, .int ((0 : Int32))), (0, .ref v0), (1, .ref 24), (2, .int v2)] dX6_findClashes_16 (by decide) rfl ?_
    obtain ⟨x10, hl11, h⟩ := aw_bde h
    have K12 : z_Pl_findClashes_Y18 l G E σ v0 v2 x10 := by
      show aw_W l M_Pl_findClashes G B_Pl_findClashes E 62 [(0, .ref v0), (1, .ref 24), (2, .int v2), (3, .int x10)] [] xA σ 0 0
      refine aw_aload_n (pc := 62) (q := 0) dX6_findClashes_62 rfl ?_
      refine aw_getC (pc := 63) fd_X6_21.r h_v0.1 rfl dX6_findClashes_63 ?_
      refine aw_iload_n (pc := 66) (q := 2) dX6_findClashes_66 rfl ?_
      refine aw_iload_n (pc := 67) (q := 3) dX6_findClashes_67 rfl ?_
      refine aw_iconst (pc := 68) (v := 1) dX6_findClashes_68 (by decide) ?_
      refine aw_iload_n (pc := 69) (q := 2) dX6_findClashes_69 rfl ?_
      refine aw_ishl (pc := 70) dX6_findClashes_70 ?_
      refine aw_iconst (pc := 71) (v := -1) dX6_findClashes_71 (by decide) ?_
      refine aw_ixor (pc := 72) dX6_findClashes_72 ?_
      refine aw_iand (pc := 73) dX6_findClashes_73 ?_
      obtain ⟨g13, h⟩ := aw_gde h
      refine aw_iast (pc := 74) h_v0.2.2.2.2.1 g13 dX6_findClashes_74 ?_
      refine aw_nmS (fun s14 e_s14 => ?_)
      replace h := aw_lte h s14 e_s14
      obtain ⟨x15, e_x15⟩ : ∃ z, z = (v2 + (1 : Int32)) := ⟨_, rfl⟩
      replace h := aw_lte h x15 e_x15
      refine aw_iinc (pc := 75) (q := 2) (v := x15) [(2, .int x15), (0, .ref v0), (1, .ref 24), (3, .int x10)] dX6_findClashes_75 rfl e_x15.symm (by decide) rfl ?_
      refine aw_goto (pc := 78) (tgt := 2) dX6_findClashes_78 (by decide) ?_
      refine aw_sub [1, 2, 0] rfl ?_
      cases h
      exact hz
    refine aw_sub [2, 3, 4, 1, 0] rfl ?_
    show z_Pl_findClashes_X18 l G E σ v0 v2 (((0 : Int32), (0 : Int32)))
    exact aw_lp_X (Xp := z_Pl_findClashes_X18 l G E σ v0 v2) (Y := z_Pl_findClashes_Y18 l G E σ v0 v2) hl11 K12 (fun s t hf hz => t_Pl_findClashes_B18 h_v0 hf hz)
set_option maxRecDepth 100000 in
set_option maxHeartbeats 4000000 in
theorem t_Pl_findClashes {l : Launch} {G : aw_G} {E : aw_E} {σ : aw_S} {o : Nat} (h_o : isPl o) {t : aw_S} (h : m_Pl_findClashes σ o = some t) (hE : E = (none, xA, t)) : aw_W l M_Pl_findClashes G B_Pl_findClashes E 0 [(0, .ref o), (1, .ref 24)] [] xA σ 0 0 := by
  unfold m_Pl_findClashes at h
  refine aw_iconst (pc := 0) (v := 0) dX6_findClashes_0 (by decide) ?_
  refine aw_istore_n (pc := 1) [(2, .int ((0 : Int32))), (0, .ref o), (1, .ref 24)] dX6_findClashes_1 (by decide) rfl ?_
  obtain ⟨x16, hl17, h⟩ := aw_bde h
  have K18 : z_Pl_findClashes_Y2 l G E o x16 := by
    show aw_W l M_Pl_findClashes G B_Pl_findClashes E 81 [] [] xA x16 0 0
    cases h
    subst hE
    exact aw_vret rfl ⟨Nat.zero_le _, Nat.zero_le _⟩ dX6_findClashes_81
  refine aw_sub [1, 2, 0] rfl ?_
  show z_Pl_findClashes_X2 l G E o (((0 : Int32), σ))
  exact aw_lp_X (Xp := z_Pl_findClashes_X2 l G E o) (Y := z_Pl_findClashes_Y2 l G E o) hl17 K18 (fun s t hf hz => t_Pl_findClashes_B2 h_o hf hz)
theorem c_Pl_findClashes {l : Launch} {G : aw_G} {σ : aw_S} {o : Nat} (h_o : isPl o) {t : aw_S} (h : m_Pl_findClashes σ o = some t) : aw_Ct l yX6_findClashes M_Pl_findClashes G B_Pl_findClashes [.ref o, .ref 24] xA σ (none, xA, t) := aw_Ct_of (by decide) rfl (fun h => by cases h) (Nat.le_of_ble_eq_true rfl) (t_Pl_findClashes h_o h rfl)
/-! LateMover$Placement.firstFreeName(I)I -/
def z_Pl_firstFreeName_X4 (l : Launch) (G : aw_G) (E : aw_E) (σ : aw_S) (v0 : Nat) (v1 : Int32) (s : Int32 × Int32) : Prop := aw_W l M_Pl_firstFreeName G B_Pl_firstFreeName E 4 [(0, .ref v0), (1, .int v1), (2, .int s.1), (3, .int s.2)] [] xA σ 0 0
def z_Pl_firstFreeName_Y4 (l : Launch) (G : aw_G) (E : aw_E) (σ : aw_S) (v0 : Nat) (v1 : Int32) (x : (Int32)) : Prop := aw_W l M_Pl_firstFreeName G B_Pl_firstFreeName E 50 [(2, .int x)] [] xA σ 0 0
def z_Pl_firstFreeName_X52 (l : Launch) (G : aw_G) (E : aw_E) (σ : aw_S) (v2 : Int32) (s : Int32) : Prop := aw_W l M_Pl_firstFreeName G B_Pl_firstFreeName E 52 [(2, .int v2), (3, .int s)] [] xA σ 0 0
def z_Pl_firstFreeName_Y52 (l : Launch) (G : aw_G) (E : aw_E) (σ : aw_S) (v2 : Int32) (x : (Int32)) : Prop := aw_W l M_Pl_firstFreeName G B_Pl_firstFreeName E 73 [(3, .int x)] [] xA σ 0 0
set_option maxRecDepth 100000 in
set_option maxHeartbeats 4000000 in
theorem t_Pl_firstFreeName_J44 {l : Launch} {G : aw_G} {E : aw_E} {σ : aw_S} {v0 : Nat} {v1 : Int32} {v2 : Int32} {v3 : Int32} (h_v0 : isPl v0) {t : (Int32) ⊕ (Int32 × Int32)} (h : m_Pl_firstFreeName_J44 σ v0 v1 v2 v3 = some t) (hz : Sum.elim (z_Pl_firstFreeName_Y4 l G E σ v0 v1) (z_Pl_firstFreeName_X4 l G E σ v0 v1) t) : aw_W l M_Pl_firstFreeName G B_Pl_firstFreeName E 44 [(0, .ref v0), (1, .int v1), (2, .int v2), (3, .int v3)] [] xA σ 0 0 := by
  unfold m_Pl_firstFreeName_J44 at h
  obtain ⟨x6, e_x6⟩ : ∃ z, z = (v3 + (1 : Int32)) := ⟨_, rfl⟩
  replace h := aw_lte h x6 e_x6
  refine aw_iinc (pc := 44) (q := 3) (v := x6) [(3, .int x6), (0, .ref v0), (1, .int v1), (2, .int v2)] dX6_firstFreeName_44 rfl e_x6.symm (by decide) rfl ?_
  refine aw_goto (pc := 47) (tgt := 4) dX6_firstFreeName_47 (by decide) ?_
  refine aw_sub [1, 2, 3, 0] rfl ?_
  cases h
  exact hz
set_option maxRecDepth 100000 in
set_option maxHeartbeats 4000000 in
theorem t_Pl_firstFreeName_B4 {l : Launch} {G : aw_G} {E : aw_E} {σ : aw_S} {v0 : Nat} {v1 : Int32} {v2 : Int32} {v3 : Int32} (h_v0 : isPl v0) {t : (Int32) ⊕ (Int32 × Int32)} (h : m_Pl_firstFreeName_B4 σ v0 v1 v2 v3 = some t) (hz : Sum.elim (z_Pl_firstFreeName_Y4 l G E σ v0 v1) (z_Pl_firstFreeName_X4 l G E σ v0 v1) t) : aw_W l M_Pl_firstFreeName G B_Pl_firstFreeName E 4 [(0, .ref v0), (1, .int v1), (2, .int v2), (3, .int v3)] [] xA σ 0 0 := by
  unfold m_Pl_firstFreeName_B4 at h
  refine aw_iload_n (pc := 4) (q := 3) dX6_firstFreeName_4 rfl ?_
  refine aw_iload_n (pc := 5) (q := 1) dX6_firstFreeName_5 rfl ?_
  refine aw_icmp_ge (pc := 6) (tgt := 50) dX6_firstFreeName_6 (by decide) (fun c1 => ?_) (fun c1 => ?_)
  · replace h := aw_ifp c1 h
    refine aw_sub [2] rfl ?_
    cases h
    exact hz
  · replace h := aw_ifn c1 h
    refine aw_aload_n (pc := 9) (q := 0) dX6_firstFreeName_9 rfl ?_
    refine aw_getC (pc := 10) fd_X6_21.r h_v0.1 rfl dX6_firstFreeName_10 ?_
    refine aw_iload_n (pc := 13) (q := 1) dX6_firstFreeName_13 rfl ?_
    obtain ⟨g2, h⟩ := aw_gde h
    refine aw_iald (pc := 14) h_v0.2.2.2.2.1 g2 dX6_firstFreeName_14 ?_
    refine aw_iload_n (pc := 15) (q := 3) dX6_firstFreeName_15 rfl ?_
    obtain ⟨r3, e4, h⟩ := aw_bde h
    refine aw_cN1 (pc := 16) [.int ((σ.1 (v0 + 4) v1.toNatClampNeg)), .int v3] (c_Mo_bitOf e4) yy_Mo_bitOf.1 nm_X6_59 yy_Mo_bitOf.2 rfl ⟨Nat.le_of_ble_eq_true rfl, Nat.le_of_ble_eq_true rfl⟩ ⟨Nat.zero_le _, Nat.zero_le _⟩ (Nat.le_of_ble_eq_true rfl) dX6_firstFreeName_16 ?_
    refine aw_iconst (pc := 19) (v := 1) dX6_firstFreeName_19 (by decide) ?_
    refine aw_icmp_ne (pc := 20) (tgt := 44) dX6_firstFreeName_20 (by decide) (fun c5 => ?_) (fun c5 => ?_)
    · replace h := aw_ifn c5 h
      exact t_Pl_firstFreeName_J44 h_v0 h hz
    · replace h := aw_ifp c5 h
      refine aw_aload_n (pc := 23) (q := 0) dX6_firstFreeName_23 rfl ?_
      refine aw_getC (pc := 24) fd_X6_24.r h_v0.1 rfl dX6_firstFreeName_24 ?_
      refine aw_iload_n (pc := 27) (q := 3) dX6_firstFreeName_27 rfl ?_
      obtain ⟨g7, h⟩ := aw_gde h
      refine aw_iald (pc := 28) h_v0.2.2.2.2.2 g7 dX6_firstFreeName_28 ?_
      refine aw_iconst (pc := 29) (v := -1) dX6_firstFreeName_29 (by decide) ?_
      refine aw_icmp_eq (pc := 30) (tgt := 44) dX6_firstFreeName_30 (by decide) (fun c8 => ?_) (fun c8 => ?_)
      · replace h := aw_ifp c8 h
        exact t_Pl_firstFreeName_J44 h_v0 h hz
      · replace h := aw_ifn c8 h
        refine aw_iload_n (pc := 33) (q := 2) dX6_firstFreeName_33 rfl ?_
        refine aw_iconst (pc := 34) (v := 1) dX6_firstFreeName_34 (by decide) ?_
        refine aw_aload_n (pc := 35) (q := 0) dX6_firstFreeName_35 rfl ?_
        refine aw_getC (pc := 36) fd_X6_24.r h_v0.1 rfl dX6_firstFreeName_36 ?_
        refine aw_iload_n (pc := 39) (q := 3) dX6_firstFreeName_39 rfl ?_
        obtain ⟨g9, h⟩ := aw_gde h
        refine aw_iald (pc := 40) h_v0.2.2.2.2.2 g9 dX6_firstFreeName_40 ?_
        refine aw_ishl (pc := 41) dX6_firstFreeName_41 ?_
        refine aw_ior (pc := 42) dX6_firstFreeName_42 ?_
        refine aw_nmI (fun x10 e_x10 => ?_)
        replace h := aw_lte h x10 e_x10
        refine aw_istore_n (pc := 43) [(2, .int x10), (0, .ref v0), (1, .int v1), (3, .int v3)] dX6_firstFreeName_43 (by decide) rfl ?_
        refine aw_sub [1, 2, 0, 3] rfl ?_
        exact t_Pl_firstFreeName_J44 h_v0 h hz
set_option maxRecDepth 100000 in
set_option maxHeartbeats 4000000 in
theorem t_Pl_firstFreeName_B52 {l : Launch} {G : aw_G} {E : aw_E} {σ : aw_S} {v2 : Int32} {v3 : Int32} {t : (Int32) ⊕ Int32} (h : m_Pl_firstFreeName_B52 σ v2 v3 = some t) (hz : Sum.elim (z_Pl_firstFreeName_Y52 l G E σ v2) (z_Pl_firstFreeName_X52 l G E σ v2) t) : aw_W l M_Pl_firstFreeName G B_Pl_firstFreeName E 52 [(2, .int v2), (3, .int v3)] [] xA σ 0 0 := by
  unfold m_Pl_firstFreeName_B52 at h
  refine aw_iload_n (pc := 52) (q := 1) dX6_firstFreeName_52 rfl ?_
  refine aw_bipush (pc := 53) (v := 24) dX6_firstFreeName_53 (by decide) ?_
  refine aw_icmp_ge (pc := 55) (tgt := 73) dX6_firstFreeName_55 (by decide) (fun c14 => ?_) (fun c14 => ?_)
  · replace h := aw_ifp c14 h
    refine aw_sub [1] rfl ?_
    cases h
    exact hz
  · replace h := aw_ifn c14 h
    refine aw_iload_n (pc := 58) (q := 0) dX6_firstFreeName_58 rfl ?_
    refine aw_iload_n (pc := 59) (q := 1) dX6_firstFreeName_59 rfl ?_
    obtain ⟨r15, e16, h⟩ := aw_bde h
    refine aw_cN1 (pc := 60) [.int v2, .int v3] (c_Mo_bitOf e16) yy_Mo_bitOf.1 nm_X6_59 yy_Mo_bitOf.2 rfl ⟨Nat.le_of_ble_eq_true rfl, Nat.le_of_ble_eq_true rfl⟩ ⟨Nat.zero_le _, Nat.zero_le _⟩ (Nat.le_of_ble_eq_true rfl) dX6_firstFreeName_60 ?_
    refine aw_iconst (pc := 63) (v := 1) dX6_firstFreeName_63 (by decide) ?_
    refine aw_icmp_ne (pc := 64) (tgt := 73) dX6_firstFreeName_64 (by decide) (fun c17 => ?_) (fun c17 => ?_)
    · replace h := aw_ifn c17 h
      refine aw_sub [1] rfl ?_
      cases h
      exact hz
    · replace h := aw_ifp c17 h
      obtain ⟨x18, e_x18⟩ : ∃ z, z = (v3 + (1 : Int32)) := ⟨_, rfl⟩
      replace h := aw_lte h x18 e_x18
      refine aw_iinc (pc := 67) (q := 1) (v := x18) [(3, .int x18), (2, .int v2)] dX6_firstFreeName_67 rfl e_x18.symm (by decide) rfl ?_
      refine aw_goto (pc := 70) (tgt := 52) dX6_firstFreeName_70 (by decide) ?_
      refine aw_sub [1, 0] rfl ?_
      cases h
      exact hz
set_option maxRecDepth 100000 in
set_option maxHeartbeats 4000000 in
theorem t_Pl_firstFreeName {l : Launch} {G : aw_G} {E : aw_E} {σ : aw_S} {o : Nat} {p1 : Int32} (h_o : isPl o) {t : Int32} (h : m_Pl_firstFreeName σ o p1 = some t) (hE : E = (some (.int t), xA, σ)) : aw_W l M_Pl_firstFreeName G B_Pl_firstFreeName E 0 [(0, .ref o), (1, .int p1)] [] xA σ 0 0 := by
  unfold m_Pl_firstFreeName at h
  refine aw_iconst (pc := 0) (v := 0) dX6_firstFreeName_0 (by decide) ?_
  refine aw_istore_n (pc := 1) [(2, .int ((0 : Int32))), (0, .ref o), (1, .int p1)] dX6_firstFreeName_1 (by decide) rfl ?_
  refine aw_iconst (pc := 2) (v := 0) dX6_firstFreeName_2 (by decide) ?_
  refine aw_istore_n (pc := 3) [(3, .int ((0 : Int32))), (2, .int ((0 : Int32))), (0, .ref o), (1, .int p1)] dX6_firstFreeName_3 (by decide) rfl ?_
  obtain ⟨x11, hl12, h⟩ := aw_bde h
  have K13 : z_Pl_firstFreeName_Y4 l G E σ o p1 x11 := by
    show aw_W l M_Pl_firstFreeName G B_Pl_firstFreeName E 50 [(2, .int x11)] [] xA σ 0 0
    refine aw_iconst (pc := 50) (v := 0) dX6_firstFreeName_50 (by decide) ?_
    refine aw_istore_n (pc := 51) [(3, .int ((0 : Int32))), (2, .int x11)] dX6_firstFreeName_51 (by decide) rfl ?_
    obtain ⟨x19, hl20, h⟩ := aw_bde h
    have K21 : z_Pl_firstFreeName_Y52 l G E σ x11 x19 := by
      show aw_W l M_Pl_firstFreeName G B_Pl_firstFreeName E 73 [(3, .int x19)] [] xA σ 0 0
      refine aw_iload_n (pc := 73) (q := 0) dX6_firstFreeName_73 rfl ?_
      cases h
      subst hE
      exact aw_iret (v := _) rfl aw_ni ⟨Nat.zero_le _, Nat.zero_le _⟩ dX6_firstFreeName_74
    refine aw_sub [1, 0] rfl ?_
    show z_Pl_firstFreeName_X52 l G E σ x11 ((0 : Int32))
    exact aw_lp_X (Xp := z_Pl_firstFreeName_X52 l G E σ x11) (Y := z_Pl_firstFreeName_Y52 l G E σ x11) hl20 K21 (fun s t hf hz => t_Pl_firstFreeName_B52 hf hz)
  refine aw_sub [2, 3, 1, 0] rfl ?_
  show z_Pl_firstFreeName_X4 l G E σ o p1 (((0 : Int32), (0 : Int32)))
  exact aw_lp_X (Xp := z_Pl_firstFreeName_X4 l G E σ o p1) (Y := z_Pl_firstFreeName_Y4 l G E σ o p1) hl12 K13 (fun s t hf hz => t_Pl_firstFreeName_B4 h_o hf hz)
theorem c_Pl_firstFreeName {l : Launch} {G : aw_G} {σ : aw_S} {o : Nat} {p1 : Int32} (h_o : isPl o) {t : Int32} (h : m_Pl_firstFreeName σ o p1 = some t) : aw_Ct l yX6_firstFreeName M_Pl_firstFreeName G B_Pl_firstFreeName [.ref o, .int p1] xA σ (some (.int t), xA, σ) := aw_Ct_of (by decide) rfl (fun h => by cases h) (Nat.le_of_ble_eq_true rfl) (t_Pl_firstFreeName h_o h rfl)
/-! LateMover$Placement.shareNames(LLateMover$Graph;)V -/
def z_Pl_shareNames_X7 (l : Launch) (G : aw_G) (E : aw_E) (v0 : Nat) (s : Int32 × aw_S) : Prop := aw_W l M_Pl_shareNames G B_Pl_shareNames E 7 [(0, .ref v0), (1, .ref 24), (2, .int s.1)] [] xA s.2 0 0
def z_Pl_shareNames_Y7 (l : Launch) (G : aw_G) (E : aw_E) (v0 : Nat) (x : (aw_S)) : Prop := aw_W l M_Pl_shareNames G B_Pl_shareNames E 72 [] [] xA x 0 0
set_option maxRecDepth 100000 in
set_option maxHeartbeats 4000000 in
theorem t_Pl_shareNames_J46 {l : Launch} {G : aw_G} {E : aw_E} {σ : aw_S} {v0 : Nat} {v2 : Int32} {k0 : Nat} {k1 : Int32} {k2 : Int32} (h_v0 : isPl v0) (h_k0 : xA[k0]? = some (.inr (0, 24, aw_no))) {t : (aw_S) ⊕ (Int32 × aw_S)} (h : m_Pl_shareNames_J46 σ v0 v2 k0 k1 k2 = some t) (hz : Sum.elim (z_Pl_shareNames_Y7 l G E v0) (z_Pl_shareNames_X7 l G E v0) t) : aw_W l M_Pl_shareNames G B_Pl_shareNames E 46 [(0, .ref v0), (1, .ref 24), (2, .int v2)] [.int k2, .int k1, .ref k0] xA σ 0 0 := by
  unfold m_Pl_shareNames_J46 at h
  obtain ⟨g8, h⟩ := aw_gde h
  refine aw_iast (pc := 46) h_k0 g8 dX6_shareNames_46 ?_
  refine aw_nmS (fun s9 e_s9 => ?_)
  replace h := aw_lte h s9 e_s9
  refine aw_aload_n (pc := 47) (q := 0) dX6_shareNames_47 rfl ?_
  refine aw_aload_n (pc := 48) (q := 0) dX6_shareNames_48 rfl ?_
  refine aw_getI (pc := 49) fd_X6_63.r h_v0.1 rfl dX6_shareNames_49 ?_
  refine aw_aload_n (pc := 52) (q := 0) dX6_shareNames_52 rfl ?_
  refine aw_getC (pc := 53) fd_X6_24.r h_v0.1 rfl dX6_shareNames_53 ?_
  refine aw_iload_n (pc := 56) (q := 2) dX6_shareNames_56 rfl ?_
  obtain ⟨g10, h⟩ := aw_gde h
  refine aw_iald (pc := 57) h_v0.2.2.2.2.2 g10 dX6_shareNames_57 ?_
  refine aw_iconst (pc := 58) (v := 1) dX6_shareNames_58 (by decide) ?_
  refine aw_iadd (pc := 59) dX6_shareNames_59 ?_
  refine aw_mmax (pc := 60) wm_635 ⟨Nat.le_of_ble_eq_true rfl, Nat.le_of_ble_eq_true rfl⟩ ⟨Nat.zero_le _, Nat.zero_le _⟩ (Nat.le_of_ble_eq_true rfl) dX6_shareNames_60 ?_
  refine aw_putI (pc := 63) fd_X6_63 h_v0.1 rfl (fun _ => rfl) (fun _ => rfl) dX6_shareNames_63 ?_
  refine aw_nmS (fun s11 e_s11 => ?_)
  replace h := aw_lte h s11 e_s11
  obtain ⟨x12, e_x12⟩ : ∃ z, z = (v2 + (1 : Int32)) := ⟨_, rfl⟩
  replace h := aw_lte h x12 e_x12
  refine aw_iinc (pc := 66) (q := 2) (v := x12) [(2, .int x12), (0, .ref v0), (1, .ref 24)] dX6_shareNames_66 rfl e_x12.symm (by decide) rfl ?_
  refine aw_goto (pc := 69) (tgt := 7) dX6_shareNames_69 (by decide) ?_
  refine aw_sub [1, 2, 0] rfl ?_
  cases h
  exact hz
set_option maxRecDepth 100000 in
set_option maxHeartbeats 4000000 in
theorem t_Pl_shareNames_B7 {l : Launch} {G : aw_G} {E : aw_E} {σ : aw_S} {v0 : Nat} {v2 : Int32} (h_v0 : isPl v0) {t : (aw_S) ⊕ (Int32 × aw_S)} (h : m_Pl_shareNames_B7 σ v0 v2 = some t) (hz : Sum.elim (z_Pl_shareNames_Y7 l G E v0) (z_Pl_shareNames_X7 l G E v0) t) : aw_W l M_Pl_shareNames G B_Pl_shareNames E 7 [(0, .ref v0), (1, .ref 24), (2, .int v2)] [] xA σ 0 0 := by
  unfold m_Pl_shareNames_B7 at h
  refine aw_iload_n (pc := 7) (q := 2) dX6_shareNames_7 rfl ?_
  refine aw_aload_n (pc := 8) (q := 1) dX6_shareNames_8 rfl ?_
  refine aw_getC (pc := 9) fd_X6_50 xA_24 rfl dX6_shareNames_9 ?_
  refine aw_getI (pc := 12) fd_X6_54.r xA_25 rfl dX6_shareNames_12 ?_
  refine aw_icmp_ge (pc := 15) (tgt := 72) dX6_shareNames_15 (by decide) (fun c2 => ?_) (fun c2 => ?_)
  · replace h := aw_ifp c2 h
    refine aw_sub [] rfl ?_
    cases h
    exact hz
  · replace h := aw_ifn c2 h
    refine aw_aload_n (pc := 18) (q := 0) dX6_shareNames_18 rfl ?_
    refine aw_getC (pc := 19) fd_X6_24.r h_v0.1 rfl dX6_shareNames_19 ?_
    refine aw_iload_n (pc := 22) (q := 2) dX6_shareNames_22 rfl ?_
    refine aw_aload_n (pc := 23) (q := 1) dX6_shareNames_23 rfl ?_
    refine aw_aload_n (pc := 24) (q := 0) dX6_shareNames_24 rfl ?_
    refine aw_getC (pc := 25) fd_X6_9.r h_v0.1 rfl dX6_shareNames_25 ?_
    refine aw_iconst (pc := 28) (v := 1) dX6_shareNames_28 (by decide) ?_
    refine aw_iload_n (pc := 29) (q := 2) dX6_shareNames_29 rfl ?_
    refine aw_ishl (pc := 30) dX6_shareNames_30 ?_
    obtain ⟨r3, e4, h⟩ := aw_bde h
    refine aw_cV1 (pc := 31) [.ref (v0 + 1), .int (((1 : Int32) <<< (v2 &&& 31)))] (c_Gr_nodesWith h_v0.2.1 e4) yy_Gr_nodesWith.1 wm_639 yy_Gr_nodesWith.2.1 yy_Gr_nodesWith.2.2 xA_24 ⟨_, _, rfl⟩ rfl ⟨Nat.le_of_ble_eq_true rfl, Nat.le_of_ble_eq_true rfl⟩ ⟨Nat.zero_le _, Nat.zero_le _⟩ (Nat.le_of_ble_eq_true rfl) dX6_shareNames_31 ?_
    refine aw_if_ne (pc := 34) (tgt := 41) dX6_shareNames_34 (by decide) (fun c5 => ?_) (fun c5 => ?_)
    · replace h := aw_ifn c5 h
      refine aw_aload_n (pc := 41) (q := 0) dX6_shareNames_41 rfl ?_
      refine aw_iload_n (pc := 42) (q := 2) dX6_shareNames_42 rfl ?_
      obtain ⟨r6, e7, h⟩ := aw_bde h
      refine aw_cV1 (pc := 43) [.int v2] (c_Pl_firstFreeName h_v0 e7) yy_Pl_firstFreeName.1 wm_640 yy_Pl_firstFreeName.2.1 yy_Pl_firstFreeName.2.2 h_v0.1 ⟨_, _, rfl⟩ rfl ⟨Nat.le_of_ble_eq_true rfl, Nat.le_of_ble_eq_true rfl⟩ ⟨Nat.zero_le _, Nat.zero_le _⟩ (Nat.le_of_ble_eq_true rfl) dX6_shareNames_43 ?_
      exact t_Pl_shareNames_J46 h_v0 h_v0.2.2.2.2.2 h hz
    · replace h := aw_ifp c5 h
      refine aw_iconst (pc := 37) (v := -1) dX6_shareNames_37 (by decide) ?_
      refine aw_goto (pc := 38) (tgt := 46) dX6_shareNames_38 (by decide) ?_
      exact t_Pl_shareNames_J46 h_v0 h_v0.2.2.2.2.2 h hz
set_option maxRecDepth 100000 in
set_option maxHeartbeats 4000000 in
theorem t_Pl_shareNames {l : Launch} {G : aw_G} {E : aw_E} {σ : aw_S} {o : Nat} (h_o : isPl o) {t : aw_S} (h : m_Pl_shareNames σ o = some t) (hE : E = (none, xA, t)) : aw_W l M_Pl_shareNames G B_Pl_shareNames E 0 [(0, .ref o), (1, .ref 24)] [] xA σ 0 0 := by
  unfold m_Pl_shareNames at h
  refine aw_aload_n (pc := 0) (q := 0) dX6_shareNames_0 rfl ?_
  refine aw_iconst (pc := 1) (v := 0) dX6_shareNames_1 (by decide) ?_
  refine aw_putI (pc := 2) fd_X6_63 h_o.1 rfl (fun _ => rfl) (fun _ => rfl) dX6_shareNames_2 ?_
  refine aw_nmS (fun s1 e_s1 => ?_)
  replace h := aw_lte h s1 e_s1
  refine aw_iconst (pc := 5) (v := 0) dX6_shareNames_5 (by decide) ?_
  refine aw_istore_n (pc := 6) [(2, .int ((0 : Int32))), (0, .ref o), (1, .ref 24)] dX6_shareNames_6 (by decide) rfl ?_
  obtain ⟨x13, hl14, h⟩ := aw_bde h
  have K15 : z_Pl_shareNames_Y7 l G E o x13 := by
    show aw_W l M_Pl_shareNames G B_Pl_shareNames E 72 [] [] xA x13 0 0
    cases h
    subst hE
    exact aw_vret rfl ⟨Nat.zero_le _, Nat.zero_le _⟩ dX6_shareNames_72
  refine aw_sub [1, 2, 0] rfl ?_
  show z_Pl_shareNames_X7 l G E o (((0 : Int32), s1))
  exact aw_lp_X (Xp := z_Pl_shareNames_X7 l G E o) (Y := z_Pl_shareNames_Y7 l G E o) hl14 K15 (fun s t hf hz => t_Pl_shareNames_B7 h_o hf hz)
theorem c_Pl_shareNames {l : Launch} {G : aw_G} {σ : aw_S} {o : Nat} (h_o : isPl o) {t : aw_S} (h : m_Pl_shareNames σ o = some t) : aw_Ct l yX6_shareNames M_Pl_shareNames G B_Pl_shareNames [.ref o, .ref 24] xA σ (none, xA, t) := aw_Ct_of (by decide) rfl (fun h => by cases h) (Nat.le_of_ble_eq_true rfl) (t_Pl_shareNames h_o h rfl)
/-! LateMover$Placement.build(LLateMover$Graph;LLateMover$Flow;)V -/
def z_Pl_build_X2 (l : Launch) (G : aw_G) (E : aw_E) (v0 : Nat) (s : Int32 × aw_S) : Prop := aw_W l M_Pl_build G B_Pl_build E 2 [(0, .ref v0), (1, .ref 24), (2, .ref 42), (3, .int s.1)] [] xA s.2 0 0
def z_Pl_build_Y2 (l : Launch) (G : aw_G) (E : aw_E) (v0 : Nat) (x : (aw_S)) : Prop := aw_W l M_Pl_build G B_Pl_build E 37 [(0, .ref v0), (1, .ref 24), (2, .ref 42)] [] xA x 0 0
set_option maxRecDepth 100000 in
set_option maxHeartbeats 4000000 in
theorem t_Pl_build_B2 {l : Launch} {G : aw_G} {E : aw_E} {σ : aw_S} {v0 : Nat} {v3 : Int32} (h_v0 : isPl v0) {t : (aw_S) ⊕ (Int32 × aw_S)} (h : m_Pl_build_B2 σ v0 v3 = some t) (hz : Sum.elim (z_Pl_build_Y2 l G E v0) (z_Pl_build_X2 l G E v0) t) : aw_W l M_Pl_build G B_Pl_build E 2 [(0, .ref v0), (1, .ref 24), (2, .ref 42), (3, .int v3)] [] xA σ 0 0 := by
  unfold m_Pl_build_B2 at h
  refine aw_iload_n (pc := 2) (q := 3) dX6_build_2 rfl ?_
  refine aw_aload_n (pc := 3) (q := 1) dX6_build_3 rfl ?_
  refine aw_getI (pc := 4) fd_X6_27.r xA_24 rfl dX6_build_4 ?_
  refine aw_icmp_ge (pc := 7) (tgt := 37) dX6_build_7 (by decide) (fun c1 => ?_) (fun c1 => ?_)
  · replace h := aw_ifp c1 h
    refine aw_sub [0, 1, 2] rfl ?_
    cases h
    exact hz
  · replace h := aw_ifn c1 h
    refine aw_aload_n (pc := 10) (q := 2) dX6_build_10 rfl ?_
    refine aw_iload_n (pc := 11) (q := 3) dX6_build_11 rfl ?_
    refine aw_aload_n (pc := 12) (q := 0) dX6_build_12 rfl ?_
    refine aw_getC (pc := 13) fd_X6_15.r h_v0.1 rfl dX6_build_13 ?_
    refine aw_iload_n (pc := 16) (q := 3) dX6_build_16 rfl ?_
    obtain ⟨g2, h⟩ := aw_gde h
    refine aw_iald (pc := 17) h_v0.2.2.1 g2 dX6_build_17 ?_
    refine aw_iconst (pc := 18) (v := -1) dX6_build_18 (by decide) ?_
    refine aw_iconst (pc := 19) (v := 0) dX6_build_19 (by decide) ?_
    refine aw_aload_n (pc := 20) (q := 0) dX6_build_20 rfl ?_
    refine aw_getC (pc := 21) fd_X6_9.r h_v0.1 rfl dX6_build_21 ?_
    refine aw_iload_n (pc := 24) (q := 3) dX6_build_24 rfl ?_
    obtain ⟨g3, h⟩ := aw_gde h
    refine aw_iald (pc := 25) h_v0.2.1 g3 dX6_build_25 ?_
    refine aw_iconst (pc := 26) (v := -1) dX6_build_26 (by decide) ?_
    refine aw_ixor (pc := 27) dX6_build_27 ?_
    obtain ⟨s6, e5, h⟩ := aw_bde h
    refine aw_cV0 (pc := 28) [.int v3, .int ((σ.1 (v0 + 2) v3.toNatClampNeg)), .int ((-1 : Int32)), .int ((0 : Int32)), .int (((σ.1 (v0 + 1) v3.toNatClampNeg) ^^^ (-1 : Int32)))] (c_Fl_tell e5) yy_Fl_tell.1 wm_620 yy_Fl_tell.2.1 yy_Fl_tell.2.2 xA_42 ⟨_, _, rfl⟩ rfl ⟨Nat.le_of_ble_eq_true rfl, Nat.le_of_ble_eq_true rfl⟩ ⟨Nat.zero_le _, Nat.zero_le _⟩ (Nat.le_of_ble_eq_true rfl) dX6_build_28 ?_
    obtain ⟨x7, e_x7⟩ : ∃ z, z = (v3 + (1 : Int32)) := ⟨_, rfl⟩
    replace h := aw_lte h x7 e_x7
    refine aw_iinc (pc := 31) (q := 3) (v := x7) [(3, .int x7), (0, .ref v0), (1, .ref 24), (2, .ref 42)] dX6_build_31 rfl e_x7.symm (by decide) rfl ?_
    refine aw_goto (pc := 34) (tgt := 2) dX6_build_34 (by decide) ?_
    refine aw_sub [1, 2, 3, 0] rfl ?_
    cases h
    exact hz
set_option maxRecDepth 100000 in
set_option maxHeartbeats 4000000 in
theorem t_Pl_build {l : Launch} {G : aw_G} {E : aw_E} {σ : aw_S} {o : Nat} (h_o : isPl o) {t : aw_S} (h : m_Pl_build σ o = some t) (hE : E = (none, xA, t)) : aw_W l M_Pl_build G B_Pl_build E 0 [(0, .ref o), (1, .ref 24), (2, .ref 42)] [] xA σ 0 0 := by
  unfold m_Pl_build at h
  refine aw_iconst (pc := 0) (v := 0) dX6_build_0 (by decide) ?_
  refine aw_istore_n (pc := 1) [(3, .int ((0 : Int32))), (0, .ref o), (1, .ref 24), (2, .ref 42)] dX6_build_1 (by decide) rfl ?_
  obtain ⟨x8, hl9, h⟩ := aw_bde h
  have K10 : z_Pl_build_Y2 l G E o x8 := by
    show aw_W l M_Pl_build G B_Pl_build E 37 [(0, .ref o), (1, .ref 24), (2, .ref 42)] [] xA x8 0 0
    refine aw_aload_n (pc := 37) (q := 2) dX6_build_37 rfl ?_
    refine aw_aload_n (pc := 38) (q := 1) dX6_build_38 rfl ?_
    refine aw_aload_n (pc := 39) (q := 0) dX6_build_39 rfl ?_
    refine aw_getC (pc := 40) fd_X6_18.r h_o.1 rfl dX6_build_40 ?_
    refine aw_iconst (pc := 43) (v := -1) dX6_build_43 (by decide) ?_
    refine aw_iconst (pc := 44) (v := 1) dX6_build_44 (by decide) ?_
    refine aw_iconst (pc := 45) (v := 0) dX6_build_45 (by decide) ?_
    obtain ⟨s13, e12, h⟩ := aw_bde h
    refine aw_cV0 (pc := 46) [.ref 24, .ref (o + 3), .int ((-1 : Int32)), .int ((1 : Int32)), .int ((0 : Int32))] (c_Fl_solve h_o.2.2.2.1 e12) yy_Fl_solve.1 wm_621 yy_Fl_solve.2.1 yy_Fl_solve.2.2 xA_42 ⟨_, _, rfl⟩ rfl ⟨Nat.le_of_ble_eq_true rfl, Nat.le_of_ble_eq_true rfl⟩ ⟨Nat.zero_le _, Nat.zero_le _⟩ (Nat.le_of_ble_eq_true rfl) dX6_build_46 ?_
    refine aw_aload_n (pc := 49) (q := 0) dX6_build_49 rfl ?_
    refine aw_aload_n (pc := 50) (q := 1) dX6_build_50 rfl ?_
    obtain ⟨s16, e15, h⟩ := aw_bde h
    refine aw_cV0 (pc := 51) [.ref 24] (c_Pl_findClashes h_o e15) yy_Pl_findClashes.1 wm_622 yy_Pl_findClashes.2.1 yy_Pl_findClashes.2.2 h_o.1 ⟨_, _, rfl⟩ rfl ⟨Nat.le_of_ble_eq_true rfl, Nat.le_of_ble_eq_true rfl⟩ ⟨Nat.zero_le _, Nat.zero_le _⟩ (Nat.le_of_ble_eq_true rfl) dX6_build_51 ?_
    refine aw_aload_n (pc := 54) (q := 0) dX6_build_54 rfl ?_
    refine aw_aload_n (pc := 55) (q := 1) dX6_build_55 rfl ?_
    obtain ⟨s19, e18, h⟩ := aw_bde h
    refine aw_cV0 (pc := 56) [.ref 24] (c_Pl_shareNames h_o e18) yy_Pl_shareNames.1 wm_630 yy_Pl_shareNames.2.1 yy_Pl_shareNames.2.2 h_o.1 ⟨_, _, rfl⟩ rfl ⟨Nat.le_of_ble_eq_true rfl, Nat.le_of_ble_eq_true rfl⟩ ⟨Nat.zero_le _, Nat.zero_le _⟩ (Nat.le_of_ble_eq_true rfl) dX6_build_56 ?_
    cases h
    subst hE
    exact aw_vret rfl ⟨Nat.zero_le _, Nat.zero_le _⟩ dX6_build_59
  refine aw_sub [1, 2, 3, 0] rfl ?_
  show z_Pl_build_X2 l G E o (((0 : Int32), σ))
  exact aw_lp_X (Xp := z_Pl_build_X2 l G E o) (Y := z_Pl_build_Y2 l G E o) hl9 K10 (fun s t hf hz => t_Pl_build_B2 h_o hf hz)
theorem c_Pl_build {l : Launch} {G : aw_G} {σ : aw_S} {o : Nat} (h_o : isPl o) {t : aw_S} (h : m_Pl_build σ o = some t) : aw_Ct l yX6_build M_Pl_build G B_Pl_build [.ref o, .ref 24, .ref 42] xA σ (none, xA, t) := aw_Ct_of (by decide) rfl (fun h => by cases h) (Nat.le_of_ble_eq_true rfl) (t_Pl_build h_o h rfl)
/-! LateMover$Others.forget()V -/
set_option maxRecDepth 100000 in
set_option maxHeartbeats 4000000 in
theorem t_Ot_forget {l : Launch} {G : aw_G} {E : aw_E} {σ : aw_S} {t : aw_S} (h : m_Ot_forget σ = some t) (hE : E = (none, xA, t)) : aw_W l M_Ot_forget G B_Ot_forget E 0 [(0, .ref 105)] [] xA σ 0 0 := by
  unfold m_Ot_forget at h
  refine aw_aload_n (pc := 0) (q := 0) dX5_forget_0 rfl ?_
  refine aw_iconst (pc := 1) (v := 0) dX5_forget_1 (by decide) ?_
  refine aw_putI (pc := 2) fd_X5_32 xA_105 rfl (fun _ => rfl) (fun _ => rfl) dX5_forget_2 ?_
  refine aw_nmS (fun s1 e_s1 => ?_)
  replace h := aw_lte h s1 e_s1
  cases h
  subst hE
  exact aw_vret rfl ⟨Nat.zero_le _, Nat.zero_le _⟩ dX5_forget_5
theorem c_Ot_forget {l : Launch} {G : aw_G} {σ : aw_S} {t : aw_S} (h : m_Ot_forget σ = some t) : aw_Ct l yX5_forget M_Ot_forget G B_Ot_forget [.ref 105] xA σ (none, xA, t) := aw_Ct_of (by decide) rfl (fun h => by cases h) (Nat.le_of_ble_eq_true rfl) (t_Ot_forget h rfl)
/-! LateMover.settle()V -/
def z_Mo_settle_X49 (l : Launch) (G : aw_G) (E : aw_E) (s : Int32 × aw_S) : Prop := aw_W l M_Mo_settle G B_Mo_settle E 49 [(0, .ref 0), (1, .int s.1)] [] xA s.2 0 0
def z_Mo_settle_Y49 (l : Launch) (G : aw_G) (E : aw_E) (x : (aw_S)) : Prop := aw_W l M_Mo_settle G B_Mo_settle E 154 [(0, .ref 0)] [] xA x 0 0
set_option maxRecDepth 100000 in
set_option maxHeartbeats 4000000 in
theorem t_Mo_settle_B49 {l : Launch} {G : aw_G} {E : aw_E} {σ : aw_S} {v1 : Int32} {t : (aw_S) ⊕ (Int32 × aw_S)} (h : m_Mo_settle_B49 σ v1 = some t) (hz : Sum.elim (z_Mo_settle_Y49 l G E) (z_Mo_settle_X49 l G E) t) : aw_W l M_Mo_settle G B_Mo_settle E 49 [(0, .ref 0), (1, .int v1)] [] xA σ 0 0 := by
  unfold m_Mo_settle_B49 at h
  refine aw_iload_n (pc := 49) (q := 1) dX11_settle_49 rfl ?_
  refine aw_aload_n (pc := 50) (q := 0) dX11_settle_50 rfl ?_
  refine aw_getC (pc := 51) fd_X11_36.r xA_0 rfl dX11_settle_51 ?_
  refine aw_getI (pc := 54) fd_X11_120.r xA_24 rfl dX11_settle_54 ?_
  refine aw_icmp_ge (pc := 57) (tgt := 154) dX11_settle_57 (by decide) (fun c13 => ?_) (fun c13 => ?_)
  · replace h := aw_ifp c13 h
    refine aw_sub [0] rfl ?_
    cases h
    exact hz
  · replace h := aw_ifn c13 h
    refine aw_aload_n (pc := 60) (q := 0) dX11_settle_60 rfl ?_
    refine aw_getC (pc := 61) fd_X11_43.r xA_0 rfl dX11_settle_61 ?_
    refine aw_getC (pc := 64) fd_X11_142 xA_41 rfl dX11_settle_64 ?_
    refine aw_iload_n (pc := 67) (q := 1) dX11_settle_67 rfl ?_
    obtain ⟨g14, h⟩ := aw_gde h
    refine aw_iald (pc := 68) xA_53 g14 dX11_settle_68 ?_
    refine aw_aload_n (pc := 69) (q := 0) dX11_settle_69 rfl ?_
    refine aw_getC (pc := 70) fd_X11_43.r xA_0 rfl dX11_settle_70 ?_
    refine aw_getC (pc := 73) fd_X11_145 xA_41 rfl dX11_settle_73 ?_
    refine aw_iload_n (pc := 76) (q := 1) dX11_settle_76 rfl ?_
    obtain ⟨g15, h⟩ := aw_gde h
    refine aw_iald (pc := 77) xA_54 g15 dX11_settle_77 ?_
    refine aw_iand (pc := 78) dX11_settle_78 ?_
    refine aw_nmI (fun x16 e_x16 => ?_)
    replace h := aw_lte h x16 e_x16
    refine aw_istore_n (pc := 79) [(2, .int x16), (0, .ref 0), (1, .int v1)] dX11_settle_79 (by decide) rfl ?_
    refine aw_aload_n (pc := 80) (q := 1) dX11_settle_80 rfl ?_
    refine aw_getC (pc := 81) fd_X11_61.r xA_0 rfl dX11_settle_81 ?_
    refine aw_iload_n (pc := 84) (q := 2) dX11_settle_84 rfl ?_
    refine aw_aload_n (pc := 85) (q := 1) dX11_settle_85 rfl ?_
    refine aw_getC (pc := 86) fd_X11_43.r xA_0 rfl dX11_settle_86 ?_
    refine aw_getC (pc := 89) fd_X11_148 xA_41 rfl dX11_settle_89 ?_
    refine aw_iload_n (pc := 92) (q := 2) dX11_settle_92 rfl ?_
    obtain ⟨g17, h⟩ := aw_gde h
    refine aw_iald (pc := 93) xA_51 g17 dX11_settle_93 ?_
    refine aw_aload_n (pc := 94) (q := 1) dX11_settle_94 rfl ?_
    refine aw_getC (pc := 95) fd_X11_43.r xA_0 rfl dX11_settle_95 ?_
    refine aw_getC (pc := 98) fd_X11_151 xA_41 rfl dX11_settle_98 ?_
    refine aw_iload_n (pc := 101) (q := 2) dX11_settle_101 rfl ?_
    obtain ⟨g18, h⟩ := aw_gde h
    refine aw_iald (pc := 102) xA_47 g18 dX11_settle_102 ?_
    obtain ⟨s21, e20, h⟩ := aw_bde h
    refine aw_cV0 (pc := 103) [.int v1, .int ((σ.1 51 v1.toNatClampNeg)), .int ((σ.1 47 v1.toNatClampNeg))] (c_Pl_tell isPl_69 e20) yy_Pl_tell.1 wm_611 yy_Pl_tell.2.1 yy_Pl_tell.2.2 xA_69 ⟨_, _, rfl⟩ rfl ⟨Nat.le_of_ble_eq_true rfl, Nat.le_of_ble_eq_true rfl⟩ ⟨Nat.zero_le _, Nat.zero_le _⟩ (Nat.le_of_ble_eq_true rfl) dX11_settle_103 ?_
    refine aw_aload_n (pc := 106) (q := 1) dX11_settle_106 rfl ?_
    refine aw_getC (pc := 107) fd_X11_64.r xA_0 rfl dX11_settle_107 ?_
    refine aw_iload_n (pc := 110) (q := 2) dX11_settle_110 rfl ?_
    refine aw_aload_n (pc := 111) (q := 1) dX11_settle_111 rfl ?_
    refine aw_getC (pc := 112) fd_X11_43.r xA_0 rfl dX11_settle_112 ?_
    refine aw_getC (pc := 115) fd_X11_142 xA_41 rfl dX11_settle_115 ?_
    refine aw_iload_n (pc := 118) (q := 2) dX11_settle_118 rfl ?_
    obtain ⟨g22, h⟩ := aw_gde h
    refine aw_iald (pc := 119) xA_53 g22 dX11_settle_119 ?_
    refine aw_aload_n (pc := 120) (q := 1) dX11_settle_120 rfl ?_
    refine aw_getC (pc := 121) fd_X11_43.r xA_0 rfl dX11_settle_121 ?_
    refine aw_getC (pc := 124) fd_X11_145 xA_41 rfl dX11_settle_124 ?_
    refine aw_iload_n (pc := 127) (q := 2) dX11_settle_127 rfl ?_
    obtain ⟨g23, h⟩ := aw_gde h
    refine aw_iald (pc := 128) xA_54 g23 dX11_settle_128 ?_
    refine aw_iconst (pc := 129) (v := -1) dX11_settle_129 (by decide) ?_
    refine aw_ixor (pc := 130) dX11_settle_130 ?_
    refine aw_iand (pc := 131) dX11_settle_131 ?_
    refine aw_aload_n (pc := 132) (q := 1) dX11_settle_132 rfl ?_
    refine aw_getC (pc := 133) fd_X11_43.r xA_0 rfl dX11_settle_133 ?_
    refine aw_getC (pc := 136) fd_X11_151 xA_41 rfl dX11_settle_136 ?_
    refine aw_iload_n (pc := 139) (q := 2) dX11_settle_139 rfl ?_
    obtain ⟨g24, h⟩ := aw_gde h
    refine aw_iald (pc := 140) xA_47 g24 dX11_settle_140 ?_
    refine aw_iload_n (pc := 141) (q := 0) dX11_settle_141 rfl ?_
    refine aw_iconst (pc := 142) (v := -1) dX11_settle_142 (by decide) ?_
    refine aw_ixor (pc := 143) dX11_settle_143 ?_
    refine aw_iand (pc := 144) dX11_settle_144 ?_
    obtain ⟨s27, e26, h⟩ := aw_bde h
    refine aw_cV0 (pc := 145) [.int v1, .int (((s21.1 53 v1.toNatClampNeg) &&& ((s21.1 54 v1.toNatClampNeg) ^^^ (-1 : Int32)))), .int (((s21.1 47 v1.toNatClampNeg) &&& (x16 ^^^ (-1 : Int32))))] (c_Pl_tell isPl_75 e26) yy_Pl_tell.1 wm_611 yy_Pl_tell.2.1 yy_Pl_tell.2.2 xA_75 ⟨_, _, rfl⟩ rfl ⟨Nat.le_of_ble_eq_true rfl, Nat.le_of_ble_eq_true rfl⟩ ⟨Nat.zero_le _, Nat.zero_le _⟩ (Nat.le_of_ble_eq_true rfl) dX11_settle_145 ?_
    obtain ⟨x28, e_x28⟩ : ∃ z, z = (v1 + (1 : Int32)) := ⟨_, rfl⟩
    replace h := aw_lte h x28 e_x28
    refine aw_iinc (pc := 148) (q := 2) (v := x28) [(1, .int x28), (2, .int x16), (0, .ref 0)] dX11_settle_148 rfl e_x28.symm (by decide) rfl ?_
    refine aw_goto (pc := 151) (tgt := 49) dX11_settle_151 (by decide) ?_
    refine aw_sub [2, 0] rfl ?_
    cases h
    exact hz
set_option maxRecDepth 100000 in
set_option maxHeartbeats 4000000 in
theorem t_Mo_settle {l : Launch} {G : aw_G} {E : aw_E} {σ : aw_S} {t : aw_S} (h : m_Mo_settle σ = some t) (hE : E = (none, xA, t)) : aw_W l M_Mo_settle G B_Mo_settle E 0 [(0, .ref 0)] [] xA σ 0 0 := by
  unfold m_Mo_settle at h
  refine aw_aload_n (pc := 0) (q := 0) dX11_settle_0 rfl ?_
  refine aw_getC (pc := 1) fd_X11_16.r xA_0 rfl dX11_settle_1 ?_
  refine aw_aload_n (pc := 4) (q := 0) dX11_settle_4 rfl ?_
  refine aw_getC (pc := 5) fd_X11_29.r xA_0 rfl dX11_settle_5 ?_
  refine aw_getC (pc := 8) fd_X11_131 xA_8 rfl dX11_settle_8 ?_
  obtain ⟨s3, e2, h⟩ := aw_bde h
  refine aw_cV0 (pc := 11) [.ref 9] (c_Te_copyFrom isTe_3 isTe_9 e2) yy_Te_copyFrom.1 wm_367 yy_Te_copyFrom.2.1 yy_Te_copyFrom.2.2 xA_3 ⟨_, _, rfl⟩ rfl ⟨Nat.le_of_ble_eq_true rfl, Nat.le_of_ble_eq_true rfl⟩ ⟨Nat.zero_le _, Nat.zero_le _⟩ (Nat.le_of_ble_eq_true rfl) dX11_settle_11 ?_
  refine aw_aload_n (pc := 14) (q := 0) dX11_settle_14 rfl ?_
  refine aw_getC (pc := 15) fd_X11_36.r xA_0 rfl dX11_settle_15 ?_
  refine aw_aload_n (pc := 18) (q := 0) dX11_settle_18 rfl ?_
  refine aw_getC (pc := 19) fd_X11_29.r xA_0 rfl dX11_settle_19 ?_
  obtain ⟨s6, e5, h⟩ := aw_bde h
  refine aw_cV0 (pc := 22) [.ref 8] (c_Gr_build e5) yy_Gr_build.1 wm_368 yy_Gr_build.2.1 yy_Gr_build.2.2 xA_24 ⟨_, _, rfl⟩ rfl ⟨Nat.le_of_ble_eq_true rfl, Nat.le_of_ble_eq_true rfl⟩ ⟨Nat.zero_le _, Nat.zero_le _⟩ (Nat.le_of_ble_eq_true rfl) dX11_settle_22 ?_
  refine aw_aload_n (pc := 25) (q := 0) dX11_settle_25 rfl ?_
  refine aw_getC (pc := 26) fd_X11_43.r xA_0 rfl dX11_settle_26 ?_
  refine aw_aload_n (pc := 29) (q := 0) dX11_settle_29 rfl ?_
  refine aw_getC (pc := 30) fd_X11_36.r xA_0 rfl dX11_settle_30 ?_
  obtain ⟨s9, e8, h⟩ := aw_bde h
  refine aw_cV0 (pc := 33) [.ref 24] (c_Fa_build e8) yy_Fa_build.1 wm_445 yy_Fa_build.2.1 yy_Fa_build.2.2 xA_41 ⟨_, _, rfl⟩ rfl ⟨Nat.le_of_ble_eq_true rfl, Nat.le_of_ble_eq_true rfl⟩ ⟨Nat.zero_le _, Nat.zero_le _⟩ (Nat.le_of_ble_eq_true rfl) dX11_settle_33 ?_
  refine aw_aload_n (pc := 36) (q := 0) dX11_settle_36 rfl ?_
  refine aw_getC (pc := 37) fd_X11_50.r xA_0 rfl dX11_settle_37 ?_
  refine aw_aload_n (pc := 40) (q := 0) dX11_settle_40 rfl ?_
  refine aw_getC (pc := 41) fd_X11_36.r xA_0 rfl dX11_settle_41 ?_
  obtain ⟨s12, e11, h⟩ := aw_bde h
  refine aw_cV0 (pc := 44) [.ref 24] (c_Lo_build e11) yy_Lo_build.1 wm_571 yy_Lo_build.2.1 yy_Lo_build.2.2 xA_58 ⟨_, _, rfl⟩ rfl ⟨Nat.le_of_ble_eq_true rfl, Nat.le_of_ble_eq_true rfl⟩ ⟨Nat.zero_le _, Nat.zero_le _⟩ (Nat.le_of_ble_eq_true rfl) dX11_settle_44 ?_
  refine aw_iconst (pc := 47) (v := 0) dX11_settle_47 (by decide) ?_
  refine aw_istore_n (pc := 48) [(1, .int ((0 : Int32))), (0, .ref 0)] dX11_settle_48 (by decide) rfl ?_
  obtain ⟨x29, hl30, h⟩ := aw_bde h
  have K31 : z_Mo_settle_Y49 l G E x29 := by
    show aw_W l M_Mo_settle G B_Mo_settle E 154 [(0, .ref 0)] [] xA x29 0 0
    refine aw_aload_n (pc := 154) (q := 0) dX11_settle_154 rfl ?_
    refine aw_getC (pc := 155) fd_X11_61.r xA_0 rfl dX11_settle_155 ?_
    refine aw_aload_n (pc := 158) (q := 0) dX11_settle_158 rfl ?_
    refine aw_getC (pc := 159) fd_X11_36.r xA_0 rfl dX11_settle_159 ?_
    refine aw_aload_n (pc := 162) (q := 0) dX11_settle_162 rfl ?_
    refine aw_getC (pc := 163) fd_X11_43.r xA_0 rfl dX11_settle_163 ?_
    refine aw_getC (pc := 166) fd_X11_158 xA_41 rfl dX11_settle_166 ?_
    obtain ⟨s34, e33, h⟩ := aw_bde h
    refine aw_cV0 (pc := 169) [.ref 24, .ref 42] (c_Pl_build isPl_69 e33) yy_Pl_build.1 wm_615 yy_Pl_build.2.1 yy_Pl_build.2.2 xA_69 ⟨_, _, rfl⟩ rfl ⟨Nat.le_of_ble_eq_true rfl, Nat.le_of_ble_eq_true rfl⟩ ⟨Nat.zero_le _, Nat.zero_le _⟩ (Nat.le_of_ble_eq_true rfl) dX11_settle_169 ?_
    refine aw_aload_n (pc := 172) (q := 0) dX11_settle_172 rfl ?_
    refine aw_getC (pc := 173) fd_X11_64.r xA_0 rfl dX11_settle_173 ?_
    refine aw_aload_n (pc := 176) (q := 0) dX11_settle_176 rfl ?_
    refine aw_getC (pc := 177) fd_X11_36.r xA_0 rfl dX11_settle_177 ?_
    refine aw_aload_n (pc := 180) (q := 0) dX11_settle_180 rfl ?_
    refine aw_getC (pc := 181) fd_X11_43.r xA_0 rfl dX11_settle_181 ?_
    refine aw_getC (pc := 184) fd_X11_158 xA_41 rfl dX11_settle_184 ?_
    obtain ⟨s37, e36, h⟩ := aw_bde h
    refine aw_cV0 (pc := 187) [.ref 24, .ref 42] (c_Pl_build isPl_75 e36) yy_Pl_build.1 wm_615 yy_Pl_build.2.1 yy_Pl_build.2.2 xA_75 ⟨_, _, rfl⟩ rfl ⟨Nat.le_of_ble_eq_true rfl, Nat.le_of_ble_eq_true rfl⟩ ⟨Nat.zero_le _, Nat.zero_le _⟩ (Nat.le_of_ble_eq_true rfl) dX11_settle_187 ?_
    refine aw_aload_n (pc := 190) (q := 0) dX11_settle_190 rfl ?_
    refine aw_getC (pc := 191) fd_X11_94.r xA_0 rfl dX11_settle_191 ?_
    obtain ⟨s40, e39, h⟩ := aw_bde h
    refine aw_cV0 (pc := 194) [] (c_Ot_forget e39) yy_Ot_forget.1 wm_644 yy_Ot_forget.2.1 yy_Ot_forget.2.2 xA_105 ⟨_, _, rfl⟩ rfl ⟨Nat.le_of_ble_eq_true rfl, Nat.le_of_ble_eq_true rfl⟩ ⟨Nat.zero_le _, Nat.zero_le _⟩ (Nat.le_of_ble_eq_true rfl) dX11_settle_194 ?_
    refine aw_aload_n (pc := 197) (q := 0) dX11_settle_197 rfl ?_
    refine aw_iconst (pc := 198) (v := 0) dX11_settle_198 (by decide) ?_
    refine aw_putI (pc := 199) fd_X11_168 xA_0 rfl (fun _ => aw_n0) (fun _ => aw_fz (Or.inl rfl)) dX11_settle_199 ?_
    refine aw_nmS (fun s41 e_s41 => ?_)
    replace h := aw_lte h s41 e_s41
    cases h
    subst hE
    exact aw_vret rfl ⟨Nat.zero_le _, Nat.zero_le _⟩ dX11_settle_202
  refine aw_sub [1, 0] rfl ?_
  show z_Mo_settle_X49 l G E (((0 : Int32), s12))
  exact aw_lp_X (Xp := z_Mo_settle_X49 l G E) (Y := z_Mo_settle_Y49 l G E) hl30 K31 (fun s t hf hz => t_Mo_settle_B49 hf hz)
theorem c_Mo_settle {l : Launch} {G : aw_G} {σ : aw_S} {t : aw_S} (h : m_Mo_settle σ = some t) : aw_Ct l yX11_settle M_Mo_settle G B_Mo_settle [.ref 0] xA σ (none, xA, t) := aw_Ct_of (by decide) rfl (fun h => by cases h) (Nat.le_of_ble_eq_true rfl) (t_Mo_settle h rfl)
/-! LateMover.program()I -/
set_option maxRecDepth 100000 in
set_option maxHeartbeats 4000000 in
theorem t_Mo_program {l : Launch} {G : aw_G} {E : aw_E} {σ : aw_S} {t : (Int32 × aw_S)} (h : m_Mo_program σ = some t) (hE : E = (some (.int t.1), xA, t.2)) : aw_W l M_Mo_program G B_Mo_program E 0 [(0, .ref 0)] [] xA σ 0 0 := by
  unfold m_Mo_program at h
  refine aw_aload_n (pc := 0) (q := 0) dX11_program_0 rfl ?_
  refine aw_aload_n (pc := 1) (q := 0) dX11_program_1 rfl ?_
  refine aw_getC (pc := 2) fd_X11_29.r xA_0 rfl dX11_program_2 ?_
  refine aw_aload_n (pc := 5) (q := 0) dX11_program_5 rfl ?_
  refine aw_getC (pc := 6) fd_X11_12.r xA_0 rfl dX11_program_6 ?_
  obtain ⟨r1, s3, e2, h⟩ := aw_bd2e h
  refine aw_cV1 (pc := 9) [.ref 1] (c_Re_faultOf isTe_1 e2) yy_Re_faultOf.1 wm_263 yy_Re_faultOf.2.1 yy_Re_faultOf.2.2 xA_8 ⟨_, _, rfl⟩ rfl ⟨Nat.le_of_ble_eq_true rfl, Nat.le_of_ble_eq_true rfl⟩ ⟨Nat.zero_le _, Nat.zero_le _⟩ (Nat.le_of_ble_eq_true rfl) dX11_program_9 ?_
  refine aw_putI (pc := 12) fd_X11_98 xA_0 rfl (fun _ => rfl) (fun _ => rfl) dX11_program_12 ?_
  refine aw_nmS (fun s4 e_s4 => ?_)
  replace h := aw_lte h s4 e_s4
  refine aw_aload_n (pc := 15) (q := 0) dX11_program_15 rfl ?_
  refine aw_getC (pc := 16) fd_X11_12.r xA_0 rfl dX11_program_16 ?_
  refine aw_iconst (pc := 19) (v := 0) dX11_program_19 (by decide) ?_
  obtain ⟨s7, e6, h⟩ := aw_bde h
  refine aw_cV0 (pc := 20) [.int ((0 : Int32))] (c_Te_cut isTe_1 e6) yy_Te_cut.1 wm_247 yy_Te_cut.2.1 yy_Te_cut.2.2 xA_1 ⟨_, _, rfl⟩ rfl ⟨Nat.le_of_ble_eq_true rfl, Nat.le_of_ble_eq_true rfl⟩ ⟨Nat.zero_le _, Nat.zero_le _⟩ (Nat.le_of_ble_eq_true rfl) dX11_program_20 ?_
  refine aw_aload_n (pc := 23) (q := 0) dX11_program_23 rfl ?_
  refine aw_getI (pc := 24) fd_X11_98.r xA_0 rfl dX11_program_24 ?_
  refine aw_iconst (pc := 27) (v := -1) dX11_program_27 (by decide) ?_
  refine aw_icmp_eq (pc := 28) (tgt := 33) dX11_program_28 (by decide) (fun c8 => ?_) (fun c8 => ?_)
  · replace h := aw_ifp c8 h
    refine aw_aload_n (pc := 33) (q := 0) dX11_program_33 rfl ?_
    obtain ⟨s11, e10, h⟩ := aw_bde h
    refine aw_cV0 (pc := 34) [] (c_Mo_settle e10) yy_Mo_settle.1 wm_356 yy_Mo_settle.2.1 yy_Mo_settle.2.2 xA_0 ⟨_, _, rfl⟩ rfl ⟨Nat.le_of_ble_eq_true rfl, Nat.le_of_ble_eq_true rfl⟩ ⟨Nat.zero_le _, Nat.zero_le _⟩ (Nat.le_of_ble_eq_true rfl) dX11_program_34 ?_
    refine aw_aload_n (pc := 37) (q := 0) dX11_program_37 rfl ?_
    refine aw_getC (pc := 38) fd_X11_36.r xA_0 rfl dX11_program_38 ?_
    refine aw_getI (pc := 41) fd_X11_120.r xA_24 rfl dX11_program_41 ?_
    cases h
    subst hE
    exact aw_iret (v := (s11.1 24 13)) rfl aw_ni ⟨Nat.zero_le _, Nat.zero_le _⟩ dX11_program_44
  · replace h := aw_ifn c8 h
    refine aw_iconst (pc := 31) (v := -1) dX11_program_31 (by decide) ?_
    cases h
    subst hE
    exact aw_iret (v := (-1 : Int32)) rfl aw_ni ⟨Nat.zero_le _, Nat.zero_le _⟩ dX11_program_32
theorem c_Mo_program {l : Launch} {G : aw_G} {σ : aw_S} {t : (Int32 × aw_S)} (h : m_Mo_program σ = some t) : aw_Ct l yX11_program M_Mo_program G B_Mo_program [.ref 0] xA σ (some (.int t.1), xA, t.2) := aw_Ct_of (by decide) rfl (fun h => by cases h) (Nat.le_of_ble_eq_true rfl) (t_Mo_program h rfl)
/-! LateMover.fault()I -/
set_option maxRecDepth 100000 in
set_option maxHeartbeats 4000000 in
theorem t_Mo_fault {l : Launch} {G : aw_G} {E : aw_E} {σ : aw_S} {t : Int32} (h : m_Mo_fault σ = some t) (hE : E = (some (.int t), xA, σ)) : aw_W l M_Mo_fault G B_Mo_fault E 0 [(0, .ref 0)] [] xA σ 0 0 := by
  unfold m_Mo_fault at h
  refine aw_aload_n (pc := 0) (q := 0) dX11_fault_0 rfl ?_
  refine aw_getI (pc := 1) fd_X11_98.r xA_0 rfl dX11_fault_1 ?_
  cases h
  subst hE
  exact aw_iret (v := (σ.1 0 17)) rfl aw_ni ⟨Nat.zero_le _, Nat.zero_le _⟩ dX11_fault_4
theorem c_Mo_fault {l : Launch} {G : aw_G} {σ : aw_S} {t : Int32} (h : m_Mo_fault σ = some t) : aw_Ct l yX11_fault M_Mo_fault G B_Mo_fault [.ref 0] xA σ (some (.int t), xA, σ) := aw_Ct_of (by decide) rfl (fun h => by cases h) (Nat.le_of_ble_eq_true rfl) (t_Mo_fault h rfl)
/-! LateMover.isProgram()Z -/
set_option maxRecDepth 100000 in
set_option maxHeartbeats 4000000 in
theorem t_Mo_isProgram {l : Launch} {G : aw_G} {E : aw_E} {σ : aw_S} {t : Int32} (h : m_Mo_isProgram σ = some t) (hE : E = (some (.int t), xA, σ)) : aw_W l M_Mo_isProgram G B_Mo_isProgram E 0 [(0, .ref 0)] [] xA σ 0 0 := by
  unfold m_Mo_isProgram at h
  refine aw_aload_n (pc := 0) (q := 0) dX11_isProgram_0 rfl ?_
  refine aw_getC (pc := 1) fd_X11_36.r xA_0 rfl dX11_isProgram_1 ?_
  refine aw_getI (pc := 4) fd_X11_120.r xA_24 rfl dX11_isProgram_4 ?_
  refine aw_if_le (pc := 7) (tgt := 14) dX11_isProgram_7 (by decide) (fun c1 => ?_) (fun c1 => ?_)
  · replace h := aw_ifp c1 h
    refine aw_iconst (pc := 14) (v := 0) dX11_isProgram_14 (by decide) ?_
    cases h
    subst hE
    exact aw_iret (v := (0 : Int32)) rfl aw_n0 ⟨Nat.zero_le _, Nat.zero_le _⟩ dX11_isProgram_15
  · replace h := aw_ifn c1 h
    refine aw_iconst (pc := 10) (v := 1) dX11_isProgram_10 (by decide) ?_
    refine aw_goto (pc := 11) (tgt := 15) dX11_isProgram_11 (by decide) ?_
    cases h
    subst hE
    exact aw_iret (v := (1 : Int32)) rfl aw_n1 ⟨Nat.zero_le _, Nat.zero_le _⟩ dX11_isProgram_15
theorem c_Mo_isProgram {l : Launch} {G : aw_G} {σ : aw_S} {t : Int32} (h : m_Mo_isProgram σ = some t) : aw_Ct l yX11_isProgram M_Mo_isProgram G B_Mo_isProgram [.ref 0] xA σ (some (.int t), xA, σ) := aw_Ct_of (by decide) rfl (fun h => by cases h) (Nat.le_of_ble_eq_true rfl) (t_Mo_isProgram h rfl)
/-! LateMover.keep(I)Z -/
set_option maxRecDepth 100000 in
set_option maxHeartbeats 4000000 in
theorem t_Mo_keep {l : Launch} {G : aw_G} {E : aw_E} {σ : aw_S} {p1 : Int32} {t : (Int32 × aw_S)} (h : m_Mo_keep σ p1 = some t) (hE : E = (some (.int t.1), xA, t.2)) : aw_W l M_Mo_keep G B_Mo_keep E 0 [(0, .ref 0), (1, .int p1)] [] xA σ 0 0 := by
  unfold m_Mo_keep at h
  refine aw_iload_n (pc := 0) (q := 1) dX11_keep_0 rfl ?_
  refine aw_if_lt (pc := 1) (tgt := 16) dX11_keep_1 (by decide) (fun c1 => ?_) (fun c1 => ?_)
  · replace h := aw_ifp c1 h
    refine aw_iconst (pc := 16) (v := 0) dX11_keep_16 (by decide) ?_
    cases h
    subst hE
    exact aw_iret (v := (0 : Int32)) rfl aw_n0 ⟨Nat.zero_le _, Nat.zero_le _⟩ dX11_keep_17
  · replace h := aw_ifn c1 h
    refine aw_iload_n (pc := 4) (q := 1) dX11_keep_4 rfl ?_
    refine aw_iconst (pc := 5) (v := 3) dX11_keep_5 (by decide) ?_
    refine aw_icmp_ge (pc := 6) (tgt := 16) dX11_keep_6 (by decide) (fun c2 => ?_) (fun c2 => ?_)
    · replace h := aw_ifp c2 h
      refine aw_iconst (pc := 16) (v := 0) dX11_keep_16 (by decide) ?_
      cases h
      subst hE
      exact aw_iret (v := (0 : Int32)) rfl aw_n0 ⟨Nat.zero_le _, Nat.zero_le _⟩ dX11_keep_17
    · replace h := aw_ifn c2 h
      refine aw_aload_n (pc := 9) (q := 0) dX11_keep_9 rfl ?_
      obtain ⟨r3, e4, h⟩ := aw_bde h
      refine aw_cV1 (pc := 10) [] (c_Mo_isProgram e4) yy_Mo_isProgram.1 wm_1083 yy_Mo_isProgram.2.1 yy_Mo_isProgram.2.2 xA_0 ⟨_, _, rfl⟩ rfl ⟨Nat.le_of_ble_eq_true rfl, Nat.le_of_ble_eq_true rfl⟩ ⟨Nat.zero_le _, Nat.zero_le _⟩ (Nat.le_of_ble_eq_true rfl) dX11_keep_10 ?_
      refine aw_if_ne (pc := 13) (tgt := 18) dX11_keep_13 (by decide) (fun c5 => ?_) (fun c5 => ?_)
      · replace h := aw_ifn c5 h
        refine aw_aload_n (pc := 18) (q := 0) dX11_keep_18 rfl ?_
        refine aw_getC (pc := 19) fd_X11_22.r xA_0 rfl dX11_keep_19 ?_
        refine aw_iload_n (pc := 22) (q := 1) dX11_keep_22 rfl ?_
        obtain ⟨g6, h⟩ := aw_gde h
        obtain ⟨w7, e8, h⟩ := aw_bde h
        refine aw_aald (pc := 23) (Or.inr rfl) xA_7 g6 e8 dX11_keep_23 ?_
        refine aw_astore_n (pc := 24) [(2, .ref w7), (0, .ref 0), (1, .int p1)] dX11_keep_24 (by decide) rfl ?_
        refine aw_aload_n (pc := 25) (q := 0) dX11_keep_25 rfl ?_
        refine aw_ifnonnull (pc := 26) (tgt := 31) dX11_keep_26 (by decide) ?_
        refine aw_aload_n (pc := 31) (q := 0) dX11_keep_31 rfl ?_
        refine aw_aload_n (pc := 32) (q := 1) dX11_keep_32 rfl ?_
        refine aw_getC (pc := 33) fd_X11_16.r xA_0 rfl dX11_keep_33 ?_
        obtain ⟨s11, e10, h⟩ := aw_bde h
        refine aw_cV0 (pc := 36) [.ref 3] (c_Te_copyFrom (aw_kept_ok e8) isTe_3 e10) yy_Te_copyFrom.1 wm_367 yy_Te_copyFrom.2.1 yy_Te_copyFrom.2.2 (aw_kept_ok e8).1 ⟨_, _, rfl⟩ rfl ⟨Nat.le_of_ble_eq_true rfl, Nat.le_of_ble_eq_true rfl⟩ ⟨Nat.zero_le _, Nat.zero_le _⟩ (Nat.le_of_ble_eq_true rfl) dX11_keep_36 ?_
        refine aw_iconst (pc := 39) (v := 1) dX11_keep_39 (by decide) ?_
        cases h
        subst hE
        exact aw_iret (v := (1 : Int32)) rfl aw_n1 ⟨Nat.zero_le _, Nat.zero_le _⟩ dX11_keep_40
      · replace h := aw_ifp c5 h
        refine aw_iconst (pc := 16) (v := 0) dX11_keep_16 (by decide) ?_
        cases h
        subst hE
        exact aw_iret (v := (0 : Int32)) rfl aw_n0 ⟨Nat.zero_le _, Nat.zero_le _⟩ dX11_keep_17
theorem c_Mo_keep {l : Launch} {G : aw_G} {σ : aw_S} {p1 : Int32} {t : (Int32 × aw_S)} (h : m_Mo_keep σ p1 = some t) : aw_Ct l yX11_keep M_Mo_keep G B_Mo_keep [.ref 0, .int p1] xA σ (some (.int t.1), xA, t.2) := aw_Ct_of (by decide) rfl (fun h => by cases h) (Nat.le_of_ble_eq_true rfl) (t_Mo_keep h rfl)
/-! LateMover.back(I)Z -/
set_option maxRecDepth 100000 in
set_option maxHeartbeats 4000000 in
theorem t_Mo_back {l : Launch} {G : aw_G} {E : aw_E} {σ : aw_S} {p1 : Int32} {t : (Int32 × aw_S)} (h : m_Mo_back σ p1 = some t) (hE : E = (some (.int t.1), xA, t.2)) : aw_W l M_Mo_back G B_Mo_back E 0 [(0, .ref 0), (1, .int p1)] [] xA σ 0 0 := by
  unfold m_Mo_back at h
  refine aw_iload_n (pc := 0) (q := 1) dX11_back_0 rfl ?_
  refine aw_if_lt (pc := 1) (tgt := 9) dX11_back_1 (by decide) (fun c1 => ?_) (fun c1 => ?_)
  · replace h := aw_ifp c1 h
    refine aw_iconst (pc := 9) (v := 0) dX11_back_9 (by decide) ?_
    cases h
    subst hE
    exact aw_iret (v := (0 : Int32)) rfl aw_n0 ⟨Nat.zero_le _, Nat.zero_le _⟩ dX11_back_10
  · replace h := aw_ifn c1 h
    refine aw_iload_n (pc := 4) (q := 1) dX11_back_4 rfl ?_
    refine aw_iconst (pc := 5) (v := 3) dX11_back_5 (by decide) ?_
    refine aw_icmp_lt (pc := 6) (tgt := 11) dX11_back_6 (by decide) (fun c2 => ?_) (fun c2 => ?_)
    · replace h := aw_ifp c2 h
      refine aw_aload_n (pc := 11) (q := 0) dX11_back_11 rfl ?_
      refine aw_getC (pc := 12) fd_X11_22.r xA_0 rfl dX11_back_12 ?_
      refine aw_iload_n (pc := 15) (q := 1) dX11_back_15 rfl ?_
      obtain ⟨g3, h⟩ := aw_gde h
      obtain ⟨w4, e5, h⟩ := aw_bde h
      refine aw_aald (pc := 16) (Or.inr rfl) xA_7 g3 e5 dX11_back_16 ?_
      refine aw_astore_n (pc := 17) [(2, .ref w4), (0, .ref 0), (1, .int p1)] dX11_back_17 (by decide) rfl ?_
      refine aw_aload_n (pc := 18) (q := 0) dX11_back_18 rfl ?_
      refine aw_ifnull (pc := 19) dX11_back_19 ?_
      refine aw_aload_n (pc := 22) (q := 1) dX11_back_22 rfl ?_
      refine aw_getC (pc := 23) fd_X11_29.r xA_0 rfl dX11_back_23 ?_
      refine aw_aload_n (pc := 26) (q := 0) dX11_back_26 rfl ?_
      obtain ⟨r6, s8, e7, h⟩ := aw_bd2e h
      refine aw_cV1 (pc := 27) [.ref w4] (c_Re_faultOf (aw_kept_ok e5) e7) yy_Re_faultOf.1 wm_263 yy_Re_faultOf.2.1 yy_Re_faultOf.2.2 xA_8 ⟨_, _, rfl⟩ rfl ⟨Nat.le_of_ble_eq_true rfl, Nat.le_of_ble_eq_true rfl⟩ ⟨Nat.zero_le _, Nat.zero_le _⟩ (Nat.le_of_ble_eq_true rfl) dX11_back_27 ?_
      refine aw_iconst (pc := 30) (v := -1) dX11_back_30 (by decide) ?_
      refine aw_icmp_eq (pc := 31) (tgt := 36) dX11_back_31 (by decide) (fun c9 => ?_) (fun c9 => ?_)
      · replace h := aw_ifp c9 h
        refine aw_aload_n (pc := 36) (q := 1) dX11_back_36 rfl ?_
        obtain ⟨s12, e11, h⟩ := aw_bde h
        refine aw_cV0 (pc := 37) [] (c_Mo_settle e11) yy_Mo_settle.1 wm_356 yy_Mo_settle.2.1 yy_Mo_settle.2.2 xA_0 ⟨_, _, rfl⟩ rfl ⟨Nat.le_of_ble_eq_true rfl, Nat.le_of_ble_eq_true rfl⟩ ⟨Nat.zero_le _, Nat.zero_le _⟩ (Nat.le_of_ble_eq_true rfl) dX11_back_37 ?_
        refine aw_iconst (pc := 40) (v := 1) dX11_back_40 (by decide) ?_
        cases h
        subst hE
        exact aw_iret (v := (1 : Int32)) rfl aw_n1 ⟨Nat.zero_le _, Nat.zero_le _⟩ dX11_back_41
      · replace h := aw_ifn c9 h
        refine aw_iconst (pc := 34) (v := 0) dX11_back_34 (by decide) ?_
        cases h
        subst hE
        exact aw_iret (v := (0 : Int32)) rfl aw_n0 ⟨Nat.zero_le _, Nat.zero_le _⟩ dX11_back_35
    · replace h := aw_ifn c2 h
      refine aw_iconst (pc := 9) (v := 0) dX11_back_9 (by decide) ?_
      cases h
      subst hE
      exact aw_iret (v := (0 : Int32)) rfl aw_n0 ⟨Nat.zero_le _, Nat.zero_le _⟩ dX11_back_10
theorem c_Mo_back {l : Launch} {G : aw_G} {σ : aw_S} {p1 : Int32} {t : (Int32 × aw_S)} (h : m_Mo_back σ p1 = some t) : aw_Ct l yX11_back M_Mo_back G B_Mo_back [.ref 0, .int p1] xA σ (some (.int t.1), xA, t.2) := aw_Ct_of (by decide) rfl (fun h => by cases h) (Nat.le_of_ble_eq_true rfl) (t_Mo_back h rfl)
/-! LateMover$Graph.edges()I -/
def z_Gr_edges_X4 (l : Launch) (G : aw_G) (E : aw_E) (σ : aw_S) (s : Int32 × Int32) : Prop := aw_W l M_Gr_edges G B_Gr_edges E 4 [(0, .ref 24), (1, .int s.1), (2, .int s.2)] [] xA σ 0 0
def z_Gr_edges_Y4 (l : Launch) (G : aw_G) (E : aw_E) (σ : aw_S) (x : (Int32)) : Prop := aw_W l M_Gr_edges G B_Gr_edges E 26 [(1, .int x)] [] xA σ 0 0
set_option maxRecDepth 100000 in
set_option maxHeartbeats 4000000 in
theorem t_Gr_edges_B4 {l : Launch} {G : aw_G} {E : aw_E} {σ : aw_S} {v1 : Int32} {v2 : Int32} {t : (Int32) ⊕ (Int32 × Int32)} (h : m_Gr_edges_B4 σ v1 v2 = some t) (hz : Sum.elim (z_Gr_edges_Y4 l G E σ) (z_Gr_edges_X4 l G E σ) t) : aw_W l M_Gr_edges G B_Gr_edges E 4 [(0, .ref 24), (1, .int v1), (2, .int v2)] [] xA σ 0 0 := by
  unfold m_Gr_edges_B4 at h
  refine aw_iload_n (pc := 4) (q := 2) dX3_edges_4 rfl ?_
  refine aw_aload_n (pc := 5) (q := 0) dX3_edges_5 rfl ?_
  refine aw_getI (pc := 6) fd_X3_67.r xA_24 rfl dX3_edges_6 ?_
  refine aw_icmp_ge (pc := 9) (tgt := 26) dX3_edges_9 (by decide) (fun c1 => ?_) (fun c1 => ?_)
  · replace h := aw_ifp c1 h
    refine aw_sub [1] rfl ?_
    cases h
    exact hz
  · replace h := aw_ifn c1 h
    refine aw_iload_n (pc := 12) (q := 1) dX3_edges_12 rfl ?_
    refine aw_aload_n (pc := 13) (q := 0) dX3_edges_13 rfl ?_
    refine aw_iload_n (pc := 14) (q := 2) dX3_edges_14 rfl ?_
    obtain ⟨r2, e3, h⟩ := aw_bde h
    refine aw_cV1 (pc := 15) [.int v2] (c_Gr_edgesFrom e3) yy_Gr_edgesFrom.1 wm_423 yy_Gr_edgesFrom.2.1 yy_Gr_edgesFrom.2.2 xA_24 ⟨_, _, rfl⟩ rfl ⟨Nat.le_of_ble_eq_true rfl, Nat.le_of_ble_eq_true rfl⟩ ⟨Nat.zero_le _, Nat.zero_le _⟩ (Nat.le_of_ble_eq_true rfl) dX3_edges_15 ?_
    refine aw_iadd (pc := 18) dX3_edges_18 ?_
    refine aw_nmI (fun x4 e_x4 => ?_)
    replace h := aw_lte h x4 e_x4
    refine aw_istore_n (pc := 19) [(1, .int x4), (0, .ref 24), (2, .int v2)] dX3_edges_19 (by decide) rfl ?_
    obtain ⟨x5, e_x5⟩ : ∃ z, z = (v2 + (1 : Int32)) := ⟨_, rfl⟩
    replace h := aw_lte h x5 e_x5
    refine aw_iinc (pc := 20) (q := 2) (v := x5) [(2, .int x5), (1, .int x4), (0, .ref 24)] dX3_edges_20 rfl e_x5.symm (by decide) rfl ?_
    refine aw_goto (pc := 23) (tgt := 4) dX3_edges_23 (by decide) ?_
    refine aw_sub [2, 1, 0] rfl ?_
    cases h
    exact hz
set_option maxRecDepth 100000 in
set_option maxHeartbeats 4000000 in
theorem t_Gr_edges {l : Launch} {G : aw_G} {E : aw_E} {σ : aw_S} {t : Int32} (h : m_Gr_edges σ = some t) (hE : E = (some (.int t), xA, σ)) : aw_W l M_Gr_edges G B_Gr_edges E 0 [(0, .ref 24)] [] xA σ 0 0 := by
  unfold m_Gr_edges at h
  refine aw_iconst (pc := 0) (v := 0) dX3_edges_0 (by decide) ?_
  refine aw_istore_n (pc := 1) [(1, .int ((0 : Int32))), (0, .ref 24)] dX3_edges_1 (by decide) rfl ?_
  refine aw_iconst (pc := 2) (v := 0) dX3_edges_2 (by decide) ?_
  refine aw_istore_n (pc := 3) [(2, .int ((0 : Int32))), (1, .int ((0 : Int32))), (0, .ref 24)] dX3_edges_3 (by decide) rfl ?_
  obtain ⟨x6, hl7, h⟩ := aw_bde h
  have K8 : z_Gr_edges_Y4 l G E σ x6 := by
    show aw_W l M_Gr_edges G B_Gr_edges E 26 [(1, .int x6)] [] xA σ 0 0
    refine aw_iload_n (pc := 26) (q := 0) dX3_edges_26 rfl ?_
    cases h
    subst hE
    exact aw_iret (v := _) rfl aw_ni ⟨Nat.zero_le _, Nat.zero_le _⟩ dX3_edges_27
  refine aw_sub [2, 1, 0] rfl ?_
  show z_Gr_edges_X4 l G E σ (((0 : Int32), (0 : Int32)))
  exact aw_lp_X (Xp := z_Gr_edges_X4 l G E σ) (Y := z_Gr_edges_Y4 l G E σ) hl7 K8 (fun s t hf hz => t_Gr_edges_B4 hf hz)
theorem c_Gr_edges {l : Launch} {G : aw_G} {σ : aw_S} {t : Int32} (h : m_Gr_edges σ = some t) : aw_Ct l yX3_edges M_Gr_edges G B_Gr_edges [.ref 24] xA σ (some (.int t), xA, σ) := aw_Ct_of (by decide) rfl (fun h => by cases h) (Nat.le_of_ble_eq_true rfl) (t_Gr_edges h rfl)
/-! LateMover$Graph.countOf(I)I -/
def z_Gr_countOf_X4 (l : Launch) (G : aw_G) (E : aw_E) (σ : aw_S) (v1 : Int32) (s : Int32 × Int32) : Prop := aw_W l M_Gr_countOf G B_Gr_countOf E 4 [(0, .ref 24), (1, .int v1), (2, .int s.1), (3, .int s.2)] [] xA σ 0 0
def z_Gr_countOf_Y4 (l : Launch) (G : aw_G) (E : aw_E) (σ : aw_S) (v1 : Int32) (x : (Int32)) : Prop := aw_W l M_Gr_countOf G B_Gr_countOf E 39 [(2, .int x)] [] xA σ 0 0
set_option maxRecDepth 100000 in
set_option maxHeartbeats 4000000 in
theorem t_Gr_countOf_J28 {l : Launch} {G : aw_G} {E : aw_E} {σ : aw_S} {v1 : Int32} {v3 : Int32} {k0 : Int32} {k1 : Int32} {t : (Int32) ⊕ (Int32 × Int32)} (h : m_Gr_countOf_J28 σ v1 v3 k0 k1 = some t) (hz : Sum.elim (z_Gr_countOf_Y4 l G E σ v1) (z_Gr_countOf_X4 l G E σ v1) t) : aw_W l M_Gr_countOf G B_Gr_countOf E 28 [(0, .ref 24), (1, .int v1), (3, .int v3)] [.int k1, .int k0] xA σ 0 0 := by
  unfold m_Gr_countOf_J28 at h
  obtain ⟨r4, e5, h⟩ := aw_bde h
  refine aw_cN1 (pc := 28) [.int k1] (c_Mo_oneIf e5) yy_Mo_oneIf.1 nm_X3_125 yy_Mo_oneIf.2 rfl ⟨Nat.le_of_ble_eq_true rfl, Nat.le_of_ble_eq_true rfl⟩ ⟨Nat.zero_le _, Nat.zero_le _⟩ (Nat.le_of_ble_eq_true rfl) dX3_countOf_28 ?_
  refine aw_iadd (pc := 31) dX3_countOf_31 ?_
  refine aw_nmI (fun x6 e_x6 => ?_)
  replace h := aw_lte h x6 e_x6
  refine aw_istore_n (pc := 32) [(2, .int x6), (0, .ref 24), (1, .int v1), (3, .int v3)] dX3_countOf_32 (by decide) rfl ?_
  obtain ⟨x7, e_x7⟩ : ∃ z, z = (v3 + (1 : Int32)) := ⟨_, rfl⟩
  replace h := aw_lte h x7 e_x7
  refine aw_iinc (pc := 33) (q := 3) (v := x7) [(3, .int x7), (2, .int x6), (0, .ref 24), (1, .int v1)] dX3_countOf_33 rfl e_x7.symm (by decide) rfl ?_
  refine aw_goto (pc := 36) (tgt := 4) dX3_countOf_36 (by decide) ?_
  refine aw_sub [2, 3, 1, 0] rfl ?_
  cases h
  exact hz
set_option maxRecDepth 100000 in
set_option maxHeartbeats 4000000 in
theorem t_Gr_countOf_B4 {l : Launch} {G : aw_G} {E : aw_E} {σ : aw_S} {v1 : Int32} {v2 : Int32} {v3 : Int32} {t : (Int32) ⊕ (Int32 × Int32)} (h : m_Gr_countOf_B4 σ v1 v2 v3 = some t) (hz : Sum.elim (z_Gr_countOf_Y4 l G E σ v1) (z_Gr_countOf_X4 l G E σ v1) t) : aw_W l M_Gr_countOf G B_Gr_countOf E 4 [(0, .ref 24), (1, .int v1), (2, .int v2), (3, .int v3)] [] xA σ 0 0 := by
  unfold m_Gr_countOf_B4 at h
  refine aw_iload_n (pc := 4) (q := 3) dX3_countOf_4 rfl ?_
  refine aw_aload_n (pc := 5) (q := 0) dX3_countOf_5 rfl ?_
  refine aw_getI (pc := 6) fd_X3_67.r xA_24 rfl dX3_countOf_6 ?_
  refine aw_icmp_ge (pc := 9) (tgt := 39) dX3_countOf_9 (by decide) (fun c1 => ?_) (fun c1 => ?_)
  · replace h := aw_ifp c1 h
    refine aw_sub [2] rfl ?_
    cases h
    exact hz
  · replace h := aw_ifn c1 h
    refine aw_iload_n (pc := 12) (q := 2) dX3_countOf_12 rfl ?_
    refine aw_aload_n (pc := 13) (q := 0) dX3_countOf_13 rfl ?_
    refine aw_getC (pc := 14) fd_X3_18.r xA_24 rfl dX3_countOf_14 ?_
    refine aw_iload_n (pc := 17) (q := 3) dX3_countOf_17 rfl ?_
    obtain ⟨g2, h⟩ := aw_gde h
    refine aw_iald (pc := 18) xA_29 g2 dX3_countOf_18 ?_
    refine aw_iload_n (pc := 19) (q := 1) dX3_countOf_19 rfl ?_
    refine aw_icmp_ne (pc := 20) (tgt := 27) dX3_countOf_20 (by decide) (fun c3 => ?_) (fun c3 => ?_)
    · replace h := aw_ifn c3 h
      refine aw_iconst (pc := 27) (v := 0) dX3_countOf_27 (by decide) ?_
      refine aw_sub [0, 1, 3] rfl ?_
      exact t_Gr_countOf_J28 h hz
    · replace h := aw_ifp c3 h
      refine aw_iconst (pc := 23) (v := 1) dX3_countOf_23 (by decide) ?_
      refine aw_goto (pc := 24) (tgt := 28) dX3_countOf_24 (by decide) ?_
      refine aw_sub [0, 1, 3] rfl ?_
      exact t_Gr_countOf_J28 h hz
set_option maxRecDepth 100000 in
set_option maxHeartbeats 4000000 in
theorem t_Gr_countOf {l : Launch} {G : aw_G} {E : aw_E} {σ : aw_S} {p1 : Int32} {t : Int32} (h : m_Gr_countOf σ p1 = some t) (hE : E = (some (.int t), xA, σ)) : aw_W l M_Gr_countOf G B_Gr_countOf E 0 [(0, .ref 24), (1, .int p1)] [] xA σ 0 0 := by
  unfold m_Gr_countOf at h
  refine aw_iconst (pc := 0) (v := 0) dX3_countOf_0 (by decide) ?_
  refine aw_istore_n (pc := 1) [(2, .int ((0 : Int32))), (0, .ref 24), (1, .int p1)] dX3_countOf_1 (by decide) rfl ?_
  refine aw_iconst (pc := 2) (v := 0) dX3_countOf_2 (by decide) ?_
  refine aw_istore_n (pc := 3) [(3, .int ((0 : Int32))), (2, .int ((0 : Int32))), (0, .ref 24), (1, .int p1)] dX3_countOf_3 (by decide) rfl ?_
  obtain ⟨x8, hl9, h⟩ := aw_bde h
  have K10 : z_Gr_countOf_Y4 l G E σ p1 x8 := by
    show aw_W l M_Gr_countOf G B_Gr_countOf E 39 [(2, .int x8)] [] xA σ 0 0
    refine aw_iload_n (pc := 39) (q := 0) dX3_countOf_39 rfl ?_
    cases h
    subst hE
    exact aw_iret (v := _) rfl aw_ni ⟨Nat.zero_le _, Nat.zero_le _⟩ dX3_countOf_40
  refine aw_sub [2, 3, 1, 0] rfl ?_
  show z_Gr_countOf_X4 l G E σ p1 (((0 : Int32), (0 : Int32)))
  exact aw_lp_X (Xp := z_Gr_countOf_X4 l G E σ p1) (Y := z_Gr_countOf_Y4 l G E σ p1) hl9 K10 (fun s t hf hz => t_Gr_countOf_B4 hf hz)
theorem c_Gr_countOf {l : Launch} {G : aw_G} {σ : aw_S} {p1 : Int32} {t : Int32} (h : m_Gr_countOf σ p1 = some t) : aw_Ct l yX3_countOf M_Gr_countOf G B_Gr_countOf [.ref 24, .int p1] xA σ (some (.int t), xA, σ) := aw_Ct_of (by decide) rfl (fun h => by cases h) (Nat.le_of_ble_eq_true rfl) (t_Gr_countOf h rfl)
/-! LateMover.is(I)I -/
set_option maxRecDepth 100000 in
set_option maxHeartbeats 4000000 in
theorem t_Mo_is {l : Launch} {G : aw_G} {E : aw_E} {σ : aw_S} {p1 : Int32} {t : Int32} (h : m_Mo_is σ p1 = some t) (hE : E = (some (.int t), xA, σ)) : aw_W l M_Mo_is G B_Mo_is E 0 [(0, .ref 0), (1, .int p1)] [] xA σ 0 0 := by
  unfold m_Mo_is at h
  refine aw_iload_n (pc := 0) (q := 1) dX11_is_0 rfl ?_
  by_cases c1 : p1 = (0 : Int32)
  · replace h := aw_ifp c1 h
    refine aw_tableIn (pc := 1) (tgt := 48) dX11_is_1 0 (by rw [c1]; decide) (by decide) rfl (by decide) ?_
    refine aw_aload_n (pc := 48) (q := 0) dX11_is_48 rfl ?_
    refine aw_getC (pc := 49) fd_X11_36.r xA_0 rfl dX11_is_49 ?_
    refine aw_getI (pc := 52) fd_X11_172.r xA_24 rfl dX11_is_52 ?_
    cases h
    subst hE
    exact aw_iret (v := (σ.1 24 14)) rfl aw_ni ⟨Nat.zero_le _, Nat.zero_le _⟩ dX11_is_55
  · replace h := aw_ifn c1 h
    by_cases c2 : p1 = (1 : Int32)
    · replace h := aw_ifp c2 h
      refine aw_tableIn (pc := 1) (tgt := 56) dX11_is_1 1 (by rw [c2]; decide) (by decide) rfl (by decide) ?_
      refine aw_aload_n (pc := 56) (q := 0) dX11_is_56 rfl ?_
      refine aw_getC (pc := 57) fd_X11_36.r xA_0 rfl dX11_is_57 ?_
      refine aw_getI (pc := 60) fd_X11_120.r xA_24 rfl dX11_is_60 ?_
      cases h
      subst hE
      exact aw_iret (v := (σ.1 24 13)) rfl aw_ni ⟨Nat.zero_le _, Nat.zero_le _⟩ dX11_is_63
    · replace h := aw_ifn c2 h
      by_cases c3 : p1 = (2 : Int32)
      · replace h := aw_ifp c3 h
        refine aw_tableIn (pc := 1) (tgt := 64) dX11_is_1 2 (by rw [c3]; decide) (by decide) rfl (by decide) ?_
        refine aw_aload_n (pc := 64) (q := 0) dX11_is_64 rfl ?_
        refine aw_getC (pc := 65) fd_X11_36.r xA_0 rfl dX11_is_65 ?_
        refine aw_getC (pc := 68) fd_X11_175 xA_24 rfl dX11_is_68 ?_
        refine aw_getI (pc := 71) fd_X11_179.r xA_25 rfl dX11_is_71 ?_
        cases h
        subst hE
        exact aw_iret (v := (σ.1 25 3)) rfl aw_ni ⟨Nat.zero_le _, Nat.zero_le _⟩ dX11_is_74
      · replace h := aw_ifn c3 h
        by_cases c4 : p1 = (3 : Int32)
        · replace h := aw_ifp c4 h
          refine aw_tableIn (pc := 1) (tgt := 75) dX11_is_1 3 (by rw [c4]; decide) (by decide) rfl (by decide) ?_
          refine aw_aload_n (pc := 75) (q := 0) dX11_is_75 rfl ?_
          refine aw_getC (pc := 76) fd_X11_36.r xA_0 rfl dX11_is_76 ?_
          obtain ⟨r5, e6, h⟩ := aw_bde h
          refine aw_cV1 (pc := 79) [] (c_Gr_edges e6) yy_Gr_edges.1 wm_886 yy_Gr_edges.2.1 yy_Gr_edges.2.2 xA_24 ⟨_, _, rfl⟩ rfl ⟨Nat.le_of_ble_eq_true rfl, Nat.le_of_ble_eq_true rfl⟩ ⟨Nat.zero_le _, Nat.zero_le _⟩ (Nat.le_of_ble_eq_true rfl) dX11_is_79 ?_
          cases h
          subst hE
          exact aw_iret (v := _) rfl aw_ni ⟨Nat.zero_le _, Nat.zero_le _⟩ dX11_is_82
        · replace h := aw_ifn c4 h
          by_cases c7 : p1 = (4 : Int32)
          · replace h := aw_ifp c7 h
            refine aw_tableIn (pc := 1) (tgt := 83) dX11_is_1 4 (by rw [c7]; decide) (by decide) rfl (by decide) ?_
            refine aw_aload_n (pc := 83) (q := 0) dX11_is_83 rfl ?_
            refine aw_getC (pc := 84) fd_X11_36.r xA_0 rfl dX11_is_84 ?_
            refine aw_iconst (pc := 87) (v := 0) dX11_is_87 (by decide) ?_
            obtain ⟨r8, e9, h⟩ := aw_bde h
            refine aw_cV1 (pc := 88) [.int ((0 : Int32))] (c_Gr_countOf e9) yy_Gr_countOf.1 wm_890 yy_Gr_countOf.2.1 yy_Gr_countOf.2.2 xA_24 ⟨_, _, rfl⟩ rfl ⟨Nat.le_of_ble_eq_true rfl, Nat.le_of_ble_eq_true rfl⟩ ⟨Nat.zero_le _, Nat.zero_le _⟩ (Nat.le_of_ble_eq_true rfl) dX11_is_88 ?_
            cases h
            subst hE
            exact aw_iret (v := _) rfl aw_ni ⟨Nat.zero_le _, Nat.zero_le _⟩ dX11_is_91
          · replace h := aw_ifn c7 h
            by_cases c10 : p1 = (5 : Int32)
            · replace h := aw_ifp c10 h
              refine aw_tableIn (pc := 1) (tgt := 92) dX11_is_1 5 (by rw [c10]; decide) (by decide) rfl (by decide) ?_
              refine aw_aload_n (pc := 92) (q := 0) dX11_is_92 rfl ?_
              refine aw_getC (pc := 93) fd_X11_43.r xA_0 rfl dX11_is_93 ?_
              refine aw_getI (pc := 96) fd_X11_191.r xA_41 rfl dX11_is_96 ?_
              obtain ⟨r11, e12, h⟩ := aw_bde h
              refine aw_cS1 (pc := 99) [.int ((σ.1 41 12))] (c_Mo_oneIf e12) yy_Mo_oneIf.1 wm_894 yy_Mo_oneIf.2 rfl ⟨Nat.le_of_ble_eq_true rfl, Nat.le_of_ble_eq_true rfl⟩ ⟨Nat.zero_le _, Nat.zero_le _⟩ (Nat.le_of_ble_eq_true rfl) dX11_is_99 ?_
              cases h
              subst hE
              exact aw_iret (v := _) rfl aw_ni ⟨Nat.zero_le _, Nat.zero_le _⟩ dX11_is_102
            · replace h := aw_ifn c10 h
              by_cases c13 : p1 = (6 : Int32)
              · replace h := aw_ifp c13 h
                refine aw_tableIn (pc := 1) (tgt := 103) dX11_is_1 6 (by rw [c13]; decide) (by decide) rfl (by decide) ?_
                refine aw_aload_n (pc := 103) (q := 0) dX11_is_103 rfl ?_
                refine aw_getC (pc := 104) fd_X11_36.r xA_0 rfl dX11_is_104 ?_
                refine aw_bipush (pc := 107) (v := 6) dX11_is_107 (by decide) ?_
                obtain ⟨r14, e15, h⟩ := aw_bde h
                refine aw_cV1 (pc := 109) [.int ((6 : Int32))] (c_Gr_countOf e15) yy_Gr_countOf.1 wm_890 yy_Gr_countOf.2.1 yy_Gr_countOf.2.2 xA_24 ⟨_, _, rfl⟩ rfl ⟨Nat.le_of_ble_eq_true rfl, Nat.le_of_ble_eq_true rfl⟩ ⟨Nat.zero_le _, Nat.zero_le _⟩ (Nat.le_of_ble_eq_true rfl) dX11_is_109 ?_
                cases h
                subst hE
                exact aw_iret (v := _) rfl aw_ni ⟨Nat.zero_le _, Nat.zero_le _⟩ dX11_is_112
              · replace h := aw_ifn c13 h
                by_cases c16 : p1 = (7 : Int32)
                · replace h := aw_ifp c16 h
                  refine aw_tableIn (pc := 1) (tgt := 113) dX11_is_1 7 (by rw [c16]; decide) (by decide) rfl (by decide) ?_
                  refine aw_aload_n (pc := 113) (q := 0) dX11_is_113 rfl ?_
                  refine aw_getC (pc := 114) fd_X11_12.r xA_0 rfl dX11_is_114 ?_
                  obtain ⟨r17, e18, h⟩ := aw_bde h
                  refine aw_cV1 (pc := 117) [] (c_Te_size isTe_1 e18) yy_Te_size.1 wm_221 yy_Te_size.2.1 yy_Te_size.2.2 xA_1 ⟨_, _, rfl⟩ rfl ⟨Nat.le_of_ble_eq_true rfl, Nat.le_of_ble_eq_true rfl⟩ ⟨Nat.zero_le _, Nat.zero_le _⟩ (Nat.le_of_ble_eq_true rfl) dX11_is_117 ?_
                  cases h
                  subst hE
                  exact aw_iret (v := _) rfl aw_ni ⟨Nat.zero_le _, Nat.zero_le _⟩ dX11_is_120
                · replace h := aw_ifn c16 h
                  refine aw_tableOut (pc := 1) (tgt := 121) dX11_is_1 (aw_tout 0 7 (fun k h1 h2 => by
                    have hk : k = 0 ∨ k = 1 ∨ k = 2 ∨ k = 3 ∨ k = 4 ∨ k = 5 ∨ k = 6 ∨ k = 7 := by omega
                    rcases hk with rfl | rfl | rfl | rfl | rfl | rfl | rfl | rfl
                    · exact fun e => c1 (e.trans (by decide))
                    · exact fun e => c2 (e.trans (by decide))
                    · exact fun e => c3 (e.trans (by decide))
                    · exact fun e => c4 (e.trans (by decide))
                    · exact fun e => c7 (e.trans (by decide))
                    · exact fun e => c10 (e.trans (by decide))
                    · exact fun e => c13 (e.trans (by decide))
                    · exact fun e => c16 (e.trans (by decide)))) (by decide) ?_
                  refine aw_iconst (pc := 121) (v := -1) dX11_is_121 (by decide) ?_
                  cases h
                  subst hE
                  exact aw_iret (v := (-1 : Int32)) rfl aw_ni ⟨Nat.zero_le _, Nat.zero_le _⟩ dX11_is_122
theorem c_Mo_is {l : Launch} {G : aw_G} {σ : aw_S} {p1 : Int32} {t : Int32} (h : m_Mo_is σ p1 = some t) : aw_Ct l yX11_is M_Mo_is G B_Mo_is [.ref 0, .int p1] xA σ (some (.int t), xA, σ) := aw_Ct_of (by decide) rfl (fun h => by cases h) (Nat.le_of_ble_eq_true rfl) (t_Mo_is h rfl)
/-! LateMover.node(II)I -/
set_option maxRecDepth 100000 in
set_option maxHeartbeats 4000000 in
theorem t_Mo_node {l : Launch} {G : aw_G} {E : aw_E} {σ : aw_S} {p1 : Int32} {p2 : Int32} {t : Int32} (h : m_Mo_node σ p1 p2 = some t) (hE : E = (some (.int t), xA, σ)) : aw_W l M_Mo_node G B_Mo_node E 0 [(0, .ref 0), (1, .int p1), (2, .int p2)] [] xA σ 0 0 := by
  unfold m_Mo_node at h
  refine aw_aload_n (pc := 0) (q := 0) dX11_node_0 rfl ?_
  refine aw_getC (pc := 1) fd_X11_36.r xA_0 rfl dX11_node_1 ?_
  refine aw_iload_n (pc := 4) (q := 1) dX11_node_4 rfl ?_
  obtain ⟨r1, e2, h⟩ := aw_bde h
  refine aw_cV1 (pc := 5) [.int p1] (c_Gr_isNode e2) yy_Gr_isNode.1 wm_917 yy_Gr_isNode.2.1 yy_Gr_isNode.2.2 xA_24 ⟨_, _, rfl⟩ rfl ⟨Nat.le_of_ble_eq_true rfl, Nat.le_of_ble_eq_true rfl⟩ ⟨Nat.zero_le _, Nat.zero_le _⟩ (Nat.le_of_ble_eq_true rfl) dX11_node_5 ?_
  refine aw_if_ne (pc := 8) (tgt := 14) dX11_node_8 (by decide) (fun c3 => ?_) (fun c3 => ?_)
  · replace h := aw_ifn c3 h
    refine aw_iload_n (pc := 14) (q := 2) dX11_node_14 rfl ?_
    by_cases c4 : p2 = (0 : Int32)
    · replace h := aw_ifp c4 h
      refine aw_tableIn (pc := 15) (tgt := 60) dX11_node_15 0 (by rw [c4]; decide) (by decide) rfl (by decide) ?_
      refine aw_aload_n (pc := 60) (q := 0) dX11_node_60 rfl ?_
      refine aw_getC (pc := 61) fd_X11_36.r xA_0 rfl dX11_node_61 ?_
      refine aw_getC (pc := 64) fd_X11_202 xA_24 rfl dX11_node_64 ?_
      refine aw_iload_n (pc := 67) (q := 1) dX11_node_67 rfl ?_
      obtain ⟨g5, h⟩ := aw_gde h
      refine aw_iald (pc := 68) xA_29 g5 dX11_node_68 ?_
      cases h
      subst hE
      exact aw_iret (v := (σ.1 29 p1.toNatClampNeg)) rfl aw_ni ⟨Nat.zero_le _, Nat.zero_le _⟩ dX11_node_69
    · replace h := aw_ifn c4 h
      by_cases c6 : p2 = (1 : Int32)
      · replace h := aw_ifp c6 h
        refine aw_tableIn (pc := 15) (tgt := 70) dX11_node_15 1 (by rw [c6]; decide) (by decide) rfl (by decide) ?_
        refine aw_aload_n (pc := 70) (q := 0) dX11_node_70 rfl ?_
        refine aw_getC (pc := 71) fd_X11_36.r xA_0 rfl dX11_node_71 ?_
        refine aw_getC (pc := 74) fd_X11_205 xA_24 rfl dX11_node_74 ?_
        refine aw_iload_n (pc := 77) (q := 1) dX11_node_77 rfl ?_
        obtain ⟨g7, h⟩ := aw_gde h
        refine aw_iald (pc := 78) xA_30 g7 dX11_node_78 ?_
        cases h
        subst hE
        exact aw_iret (v := (σ.1 30 p1.toNatClampNeg)) rfl aw_ni ⟨Nat.zero_le _, Nat.zero_le _⟩ dX11_node_79
      · replace h := aw_ifn c6 h
        by_cases c8 : p2 = (2 : Int32)
        · replace h := aw_ifp c8 h
          refine aw_tableIn (pc := 15) (tgt := 80) dX11_node_15 2 (by rw [c8]; decide) (by decide) rfl (by decide) ?_
          refine aw_aload_n (pc := 80) (q := 0) dX11_node_80 rfl ?_
          refine aw_getC (pc := 81) fd_X11_36.r xA_0 rfl dX11_node_81 ?_
          refine aw_getC (pc := 84) fd_X11_208 xA_24 rfl dX11_node_84 ?_
          refine aw_iload_n (pc := 87) (q := 1) dX11_node_87 rfl ?_
          obtain ⟨g9, h⟩ := aw_gde h
          refine aw_iald (pc := 88) xA_33 g9 dX11_node_88 ?_
          cases h
          subst hE
          exact aw_iret (v := (σ.1 33 p1.toNatClampNeg)) rfl aw_ni ⟨Nat.zero_le _, Nat.zero_le _⟩ dX11_node_89
        · replace h := aw_ifn c8 h
          by_cases c10 : p2 = (3 : Int32)
          · replace h := aw_ifp c10 h
            refine aw_tableIn (pc := 15) (tgt := 90) dX11_node_15 3 (by rw [c10]; decide) (by decide) rfl (by decide) ?_
            refine aw_aload_n (pc := 90) (q := 0) dX11_node_90 rfl ?_
            refine aw_getC (pc := 91) fd_X11_36.r xA_0 rfl dX11_node_91 ?_
            refine aw_getC (pc := 94) fd_X11_211 xA_24 rfl dX11_node_94 ?_
            refine aw_iload_n (pc := 97) (q := 1) dX11_node_97 rfl ?_
            obtain ⟨g11, h⟩ := aw_gde h
            refine aw_iald (pc := 98) xA_31 g11 dX11_node_98 ?_
            cases h
            subst hE
            exact aw_iret (v := (σ.1 31 p1.toNatClampNeg)) rfl aw_ni ⟨Nat.zero_le _, Nat.zero_le _⟩ dX11_node_99
          · replace h := aw_ifn c10 h
            by_cases c12 : p2 = (4 : Int32)
            · replace h := aw_ifp c12 h
              refine aw_tableIn (pc := 15) (tgt := 100) dX11_node_15 4 (by rw [c12]; decide) (by decide) rfl (by decide) ?_
              refine aw_aload_n (pc := 100) (q := 0) dX11_node_100 rfl ?_
              refine aw_getC (pc := 101) fd_X11_36.r xA_0 rfl dX11_node_101 ?_
              refine aw_iload_n (pc := 104) (q := 1) dX11_node_104 rfl ?_
              obtain ⟨r13, e14, h⟩ := aw_bde h
              refine aw_cV1 (pc := 105) [.int p1] (c_Gr_edgesFrom e14) yy_Gr_edgesFrom.1 wm_918 yy_Gr_edgesFrom.2.1 yy_Gr_edgesFrom.2.2 xA_24 ⟨_, _, rfl⟩ rfl ⟨Nat.le_of_ble_eq_true rfl, Nat.le_of_ble_eq_true rfl⟩ ⟨Nat.zero_le _, Nat.zero_le _⟩ (Nat.le_of_ble_eq_true rfl) dX11_node_105 ?_
              cases h
              subst hE
              exact aw_iret (v := _) rfl aw_ni ⟨Nat.zero_le _, Nat.zero_le _⟩ dX11_node_108
            · replace h := aw_ifn c12 h
              by_cases c15 : p2 = (5 : Int32)
              · replace h := aw_ifp c15 h
                refine aw_tableIn (pc := 15) (tgt := 109) dX11_node_15 5 (by rw [c15]; decide) (by decide) rfl (by decide) ?_
                refine aw_aload_n (pc := 109) (q := 0) dX11_node_109 rfl ?_
                refine aw_getC (pc := 110) fd_X11_36.r xA_0 rfl dX11_node_110 ?_
                refine aw_iload_n (pc := 113) (q := 1) dX11_node_113 rfl ?_
                obtain ⟨r16, e17, h⟩ := aw_bde h
                refine aw_cV1 (pc := 114) [.int p1] (c_Gr_edgesTo e17) yy_Gr_edgesTo.1 wm_919 yy_Gr_edgesTo.2.1 yy_Gr_edgesTo.2.2 xA_24 ⟨_, _, rfl⟩ rfl ⟨Nat.le_of_ble_eq_true rfl, Nat.le_of_ble_eq_true rfl⟩ ⟨Nat.zero_le _, Nat.zero_le _⟩ (Nat.le_of_ble_eq_true rfl) dX11_node_114 ?_
                cases h
                subst hE
                exact aw_iret (v := _) rfl aw_ni ⟨Nat.zero_le _, Nat.zero_le _⟩ dX11_node_117
              · replace h := aw_ifn c15 h
                by_cases c18 : p2 = (6 : Int32)
                · replace h := aw_ifp c18 h
                  refine aw_tableIn (pc := 15) (tgt := 118) dX11_node_15 6 (by rw [c18]; decide) (by decide) rfl (by decide) ?_
                  refine aw_aload_n (pc := 118) (q := 0) dX11_node_118 rfl ?_
                  refine aw_getC (pc := 119) fd_X11_36.r xA_0 rfl dX11_node_119 ?_
                  refine aw_getC (pc := 122) fd_X11_220 xA_24 rfl dX11_node_122 ?_
                  refine aw_iload_n (pc := 125) (q := 1) dX11_node_125 rfl ?_
                  obtain ⟨g19, h⟩ := aw_gde h
                  refine aw_iald (pc := 126) xA_36 g19 dX11_node_126 ?_
                  cases h
                  subst hE
                  exact aw_iret (v := (σ.1 36 p1.toNatClampNeg)) rfl aw_ni ⟨Nat.zero_le _, Nat.zero_le _⟩ dX11_node_127
                · replace h := aw_ifn c18 h
                  by_cases c20 : p2 = (7 : Int32)
                  · replace h := aw_ifp c20 h
                    refine aw_tableIn (pc := 15) (tgt := 128) dX11_node_15 7 (by rw [c20]; decide) (by decide) rfl (by decide) ?_
                    refine aw_aload_n (pc := 128) (q := 0) dX11_node_128 rfl ?_
                    refine aw_getC (pc := 129) fd_X11_36.r xA_0 rfl dX11_node_129 ?_
                    refine aw_getC (pc := 132) fd_X11_223 xA_24 rfl dX11_node_132 ?_
                    refine aw_iload_n (pc := 135) (q := 1) dX11_node_135 rfl ?_
                    obtain ⟨g21, h⟩ := aw_gde h
                    refine aw_iald (pc := 136) xA_37 g21 dX11_node_136 ?_
                    cases h
                    subst hE
                    exact aw_iret (v := (σ.1 37 p1.toNatClampNeg)) rfl aw_ni ⟨Nat.zero_le _, Nat.zero_le _⟩ dX11_node_137
                  · replace h := aw_ifn c20 h
                    refine aw_tableOut (pc := 15) (tgt := 138) dX11_node_15 (aw_tout 0 7 (fun k h1 h2 => by
                      have hk : k = 0 ∨ k = 1 ∨ k = 2 ∨ k = 3 ∨ k = 4 ∨ k = 5 ∨ k = 6 ∨ k = 7 := by omega
                      rcases hk with rfl | rfl | rfl | rfl | rfl | rfl | rfl | rfl
                      · exact fun e => c4 (e.trans (by decide))
                      · exact fun e => c6 (e.trans (by decide))
                      · exact fun e => c8 (e.trans (by decide))
                      · exact fun e => c10 (e.trans (by decide))
                      · exact fun e => c12 (e.trans (by decide))
                      · exact fun e => c15 (e.trans (by decide))
                      · exact fun e => c18 (e.trans (by decide))
                      · exact fun e => c20 (e.trans (by decide)))) (by decide) ?_
                    refine aw_bipush (pc := 138) (v := -2) dX11_node_138 (by decide) ?_
                    cases h
                    subst hE
                    exact aw_iret (v := (-2 : Int32)) rfl aw_ni ⟨Nat.zero_le _, Nat.zero_le _⟩ dX11_node_140
  · replace h := aw_ifp c3 h
    refine aw_bipush (pc := 11) (v := -2) dX11_node_11 (by decide) ?_
    cases h
    subst hE
    exact aw_iret (v := (-2 : Int32)) rfl aw_ni ⟨Nat.zero_le _, Nat.zero_le _⟩ dX11_node_13
theorem c_Mo_node {l : Launch} {G : aw_G} {σ : aw_S} {p1 : Int32} {p2 : Int32} {t : Int32} (h : m_Mo_node σ p1 p2 = some t) : aw_Ct l yX11_node M_Mo_node G B_Mo_node [.ref 0, .int p1, .int p2] xA σ (some (.int t), xA, σ) := aw_Ct_of (by decide) rfl (fun h => by cases h) (Nat.le_of_ble_eq_true rfl) (t_Mo_node h rfl)
/-! LateMover.expression(II)I -/
set_option maxRecDepth 100000 in
set_option maxHeartbeats 4000000 in
theorem t_Mo_expression {l : Launch} {G : aw_G} {E : aw_E} {σ : aw_S} {p1 : Int32} {p2 : Int32} {t : Int32} (h : m_Mo_expression σ p1 p2 = some t) (hE : E = (some (.int t), xA, σ)) : aw_W l M_Mo_expression G B_Mo_expression E 0 [(0, .ref 0), (1, .int p1), (2, .int p2)] [] xA σ 0 0 := by
  unfold m_Mo_expression at h
  refine aw_aload_n (pc := 0) (q := 0) dX11_expression_0 rfl ?_
  refine aw_getC (pc := 1) fd_X11_36.r xA_0 rfl dX11_expression_1 ?_
  refine aw_getC (pc := 4) fd_X11_175 xA_24 rfl dX11_expression_4 ?_
  refine aw_astore_n (pc := 7) [(3, .ref 25), (0, .ref 0), (1, .int p1), (2, .int p2)] dX11_expression_7 (by decide) rfl ?_
  refine aw_aload_n (pc := 8) (q := 0) dX11_expression_8 rfl ?_
  refine aw_iload_n (pc := 9) (q := 2) dX11_expression_9 rfl ?_
  obtain ⟨r1, e2, h⟩ := aw_bde h
  refine aw_cV1 (pc := 10) [.int p1] (c_Ex_isOne isEx_25 e2) yy_Ex_isOne.1 wm_940 yy_Ex_isOne.2.1 yy_Ex_isOne.2.2 xA_25 ⟨_, _, rfl⟩ rfl ⟨Nat.le_of_ble_eq_true rfl, Nat.le_of_ble_eq_true rfl⟩ ⟨Nat.zero_le _, Nat.zero_le _⟩ (Nat.le_of_ble_eq_true rfl) dX11_expression_10 ?_
  refine aw_if_ne (pc := 13) (tgt := 19) dX11_expression_13 (by decide) (fun c3 => ?_) (fun c3 => ?_)
  · replace h := aw_ifn c3 h
    refine aw_iload_n (pc := 19) (q := 3) dX11_expression_19 rfl ?_
    by_cases c4 : p2 = (0 : Int32)
    · replace h := aw_ifp c4 h
      refine aw_tableIn (pc := 20) (tgt := 60) dX11_expression_20 0 (by rw [c4]; decide) (by decide) rfl (by decide) ?_
      refine aw_aload_n (pc := 60) (q := 0) dX11_expression_60 rfl ?_
      refine aw_getC (pc := 61) fd_X11_229 xA_25 rfl dX11_expression_61 ?_
      refine aw_iload_n (pc := 64) (q := 2) dX11_expression_64 rfl ?_
      obtain ⟨g5, h⟩ := aw_gde h
      refine aw_iald (pc := 65) xA_26 g5 dX11_expression_65 ?_
      cases h
      subst hE
      exact aw_iret (v := (σ.1 26 p1.toNatClampNeg)) rfl aw_ni ⟨Nat.zero_le _, Nat.zero_le _⟩ dX11_expression_66
    · replace h := aw_ifn c4 h
      by_cases c6 : p2 = (1 : Int32)
      · replace h := aw_ifp c6 h
        refine aw_tableIn (pc := 20) (tgt := 67) dX11_expression_20 1 (by rw [c6]; decide) (by decide) rfl (by decide) ?_
        refine aw_aload_n (pc := 67) (q := 0) dX11_expression_67 rfl ?_
        refine aw_getC (pc := 68) fd_X11_232 xA_25 rfl dX11_expression_68 ?_
        refine aw_iload_n (pc := 71) (q := 2) dX11_expression_71 rfl ?_
        obtain ⟨g7, h⟩ := aw_gde h
        refine aw_iald (pc := 72) xA_27 g7 dX11_expression_72 ?_
        cases h
        subst hE
        exact aw_iret (v := (σ.1 27 p1.toNatClampNeg)) rfl aw_ni ⟨Nat.zero_le _, Nat.zero_le _⟩ dX11_expression_73
      · replace h := aw_ifn c6 h
        by_cases c8 : p2 = (2 : Int32)
        · replace h := aw_ifp c8 h
          refine aw_tableIn (pc := 20) (tgt := 74) dX11_expression_20 2 (by rw [c8]; decide) (by decide) rfl (by decide) ?_
          refine aw_aload_n (pc := 74) (q := 0) dX11_expression_74 rfl ?_
          refine aw_getC (pc := 75) fd_X11_235 xA_25 rfl dX11_expression_75 ?_
          refine aw_iload_n (pc := 78) (q := 2) dX11_expression_78 rfl ?_
          obtain ⟨g9, h⟩ := aw_gde h
          refine aw_iald (pc := 79) xA_28 g9 dX11_expression_79 ?_
          cases h
          subst hE
          exact aw_iret (v := (σ.1 28 p1.toNatClampNeg)) rfl aw_ni ⟨Nat.zero_le _, Nat.zero_le _⟩ dX11_expression_80
        · replace h := aw_ifn c8 h
          by_cases c10 : p2 = (3 : Int32)
          · replace h := aw_ifp c10 h
            refine aw_tableIn (pc := 20) (tgt := 81) dX11_expression_20 3 (by rw [c10]; decide) (by decide) rfl (by decide) ?_
            refine aw_aload_n (pc := 81) (q := 0) dX11_expression_81 rfl ?_
            refine aw_iload_n (pc := 82) (q := 2) dX11_expression_82 rfl ?_
            obtain ⟨r11, e12, h⟩ := aw_bde h
            refine aw_cV1 (pc := 83) [.int p1] (c_Ex_isRisky isEx_25 e12) yy_Ex_isRisky.1 wm_941 yy_Ex_isRisky.2.1 yy_Ex_isRisky.2.2 xA_25 ⟨_, _, rfl⟩ rfl ⟨Nat.le_of_ble_eq_true rfl, Nat.le_of_ble_eq_true rfl⟩ ⟨Nat.zero_le _, Nat.zero_le _⟩ (Nat.le_of_ble_eq_true rfl) dX11_expression_83 ?_
            obtain ⟨r13, e14, h⟩ := aw_bde h
            refine aw_cS1 (pc := 86) [.int r11] (c_Mo_oneIf e14) yy_Mo_oneIf.1 wm_894 yy_Mo_oneIf.2 rfl ⟨Nat.le_of_ble_eq_true rfl, Nat.le_of_ble_eq_true rfl⟩ ⟨Nat.zero_le _, Nat.zero_le _⟩ (Nat.le_of_ble_eq_true rfl) dX11_expression_86 ?_
            cases h
            subst hE
            exact aw_iret (v := _) rfl aw_ni ⟨Nat.zero_le _, Nat.zero_le _⟩ dX11_expression_89
          · replace h := aw_ifn c10 h
            by_cases c15 : p2 = (4 : Int32)
            · replace h := aw_ifp c15 h
              refine aw_tableIn (pc := 20) (tgt := 90) dX11_expression_20 4 (by rw [c15]; decide) (by decide) rfl (by decide) ?_
              refine aw_aload_n (pc := 90) (q := 1) dX11_expression_90 rfl ?_
              refine aw_getC (pc := 91) fd_X11_36.r xA_0 rfl dX11_expression_91 ?_
              refine aw_aload_n (pc := 94) (q := 1) dX11_expression_94 rfl ?_
              refine aw_getC (pc := 95) fd_X11_43.r xA_0 rfl dX11_expression_95 ?_
              refine aw_getC (pc := 98) fd_X11_151 xA_41 rfl dX11_expression_98 ?_
              refine aw_iconst (pc := 101) (v := 1) dX11_expression_101 (by decide) ?_
              refine aw_iload_n (pc := 102) (q := 2) dX11_expression_102 rfl ?_
              refine aw_ishl (pc := 103) dX11_expression_103 ?_
              obtain ⟨r16, e17, h⟩ := aw_bde h
              refine aw_cV1 (pc := 104) [.ref 47, .int (((1 : Int32) <<< (p1 &&& 31)))] (c_Gr_nodesWith xA_47 e17) yy_Gr_nodesWith.1 wm_942 yy_Gr_nodesWith.2.1 yy_Gr_nodesWith.2.2 xA_24 ⟨_, _, rfl⟩ rfl ⟨Nat.le_of_ble_eq_true rfl, Nat.le_of_ble_eq_true rfl⟩ ⟨Nat.zero_le _, Nat.zero_le _⟩ (Nat.le_of_ble_eq_true rfl) dX11_expression_104 ?_
              cases h
              subst hE
              exact aw_iret (v := _) rfl aw_ni ⟨Nat.zero_le _, Nat.zero_le _⟩ dX11_expression_107
            · replace h := aw_ifn c15 h
              by_cases c18 : p2 = (5 : Int32)
              · replace h := aw_ifp c18 h
                refine aw_tableIn (pc := 20) (tgt := 108) dX11_expression_20 5 (by rw [c18]; decide) (by decide) rfl (by decide) ?_
                refine aw_aload_n (pc := 108) (q := 1) dX11_expression_108 rfl ?_
                refine aw_getC (pc := 109) fd_X11_36.r xA_0 rfl dX11_expression_109 ?_
                refine aw_getI (pc := 112) fd_X11_120.r xA_24 rfl dX11_expression_112 ?_
                refine aw_aload_n (pc := 115) (q := 1) dX11_expression_115 rfl ?_
                refine aw_getC (pc := 116) fd_X11_36.r xA_0 rfl dX11_expression_116 ?_
                refine aw_aload_n (pc := 119) (q := 1) dX11_expression_119 rfl ?_
                refine aw_getC (pc := 120) fd_X11_43.r xA_0 rfl dX11_expression_120 ?_
                refine aw_getC (pc := 123) fd_X11_245 xA_41 rfl dX11_expression_123 ?_
                refine aw_iconst (pc := 126) (v := 1) dX11_expression_126 (by decide) ?_
                refine aw_iload_n (pc := 127) (q := 2) dX11_expression_127 rfl ?_
                refine aw_ishl (pc := 128) dX11_expression_128 ?_
                obtain ⟨r19, e20, h⟩ := aw_bde h
                refine aw_cV1 (pc := 129) [.ref 48, .int (((1 : Int32) <<< (p1 &&& 31)))] (c_Gr_nodesWith xA_48 e20) yy_Gr_nodesWith.1 wm_942 yy_Gr_nodesWith.2.1 yy_Gr_nodesWith.2.2 xA_24 ⟨_, _, rfl⟩ rfl ⟨Nat.le_of_ble_eq_true rfl, Nat.le_of_ble_eq_true rfl⟩ ⟨Nat.zero_le _, Nat.zero_le _⟩ (Nat.le_of_ble_eq_true rfl) dX11_expression_129 ?_
                refine aw_isub (pc := 132) dX11_expression_132 ?_
                cases h
                subst hE
                exact aw_iret (v := ((σ.1 24 13) - r19)) rfl aw_ni ⟨Nat.zero_le _, Nat.zero_le _⟩ dX11_expression_133
              · replace h := aw_ifn c18 h
                refine aw_tableOut (pc := 20) (tgt := 134) dX11_expression_20 (aw_tout 0 5 (fun k h1 h2 => by
                  have hk : k = 0 ∨ k = 1 ∨ k = 2 ∨ k = 3 ∨ k = 4 ∨ k = 5 := by omega
                  rcases hk with rfl | rfl | rfl | rfl | rfl | rfl
                  · exact fun e => c4 (e.trans (by decide))
                  · exact fun e => c6 (e.trans (by decide))
                  · exact fun e => c8 (e.trans (by decide))
                  · exact fun e => c10 (e.trans (by decide))
                  · exact fun e => c15 (e.trans (by decide))
                  · exact fun e => c18 (e.trans (by decide)))) (by decide) ?_
                refine aw_bipush (pc := 134) (v := -2) dX11_expression_134 (by decide) ?_
                cases h
                subst hE
                exact aw_iret (v := (-2 : Int32)) rfl aw_ni ⟨Nat.zero_le _, Nat.zero_le _⟩ dX11_expression_136
  · replace h := aw_ifp c3 h
    refine aw_bipush (pc := 16) (v := -2) dX11_expression_16 (by decide) ?_
    cases h
    subst hE
    exact aw_iret (v := (-2 : Int32)) rfl aw_ni ⟨Nat.zero_le _, Nat.zero_le _⟩ dX11_expression_18
theorem c_Mo_expression {l : Launch} {G : aw_G} {σ : aw_S} {p1 : Int32} {p2 : Int32} {t : Int32} (h : m_Mo_expression σ p1 p2 = some t) : aw_Ct l yX11_expression M_Mo_expression G B_Mo_expression [.ref 0, .int p1, .int p2] xA σ (some (.int t), xA, σ) := aw_Ct_of (by decide) rfl (fun h => by cases h) (Nat.le_of_ble_eq_true rfl) (t_Mo_expression h rfl)
/-! LateMover.risky()I -/
def z_Mo_risky_X4 (l : Launch) (G : aw_G) (E : aw_E) (σ : aw_S) (s : Int32 × Int32) : Prop := aw_W l M_Mo_risky G B_Mo_risky E 4 [(0, .ref 0), (1, .int s.1), (2, .int s.2)] [] xA σ 0 0
def z_Mo_risky_Y4 (l : Launch) (G : aw_G) (E : aw_E) (σ : aw_S) (x : (Int32)) : Prop := aw_W l M_Mo_risky G B_Mo_risky E 41 [(1, .int x)] [] xA σ 0 0
set_option maxRecDepth 100000 in
set_option maxHeartbeats 4000000 in
theorem t_Mo_risky_B4 {l : Launch} {G : aw_G} {E : aw_E} {σ : aw_S} {v1 : Int32} {v2 : Int32} {t : (Int32) ⊕ (Int32 × Int32)} (h : m_Mo_risky_B4 σ v1 v2 = some t) (hz : Sum.elim (z_Mo_risky_Y4 l G E σ) (z_Mo_risky_X4 l G E σ) t) : aw_W l M_Mo_risky G B_Mo_risky E 4 [(0, .ref 0), (1, .int v1), (2, .int v2)] [] xA σ 0 0 := by
  unfold m_Mo_risky_B4 at h
  refine aw_iload_n (pc := 4) (q := 2) dX11_risky_4 rfl ?_
  refine aw_aload_n (pc := 5) (q := 0) dX11_risky_5 rfl ?_
  refine aw_getC (pc := 6) fd_X11_36.r xA_0 rfl dX11_risky_6 ?_
  refine aw_getC (pc := 9) fd_X11_175 xA_24 rfl dX11_risky_9 ?_
  refine aw_getI (pc := 12) fd_X11_179.r xA_25 rfl dX11_risky_12 ?_
  refine aw_icmp_ge (pc := 15) (tgt := 41) dX11_risky_15 (by decide) (fun c1 => ?_) (fun c1 => ?_)
  · replace h := aw_ifp c1 h
    refine aw_sub [1] rfl ?_
    cases h
    exact hz
  · replace h := aw_ifn c1 h
    refine aw_iload_n (pc := 18) (q := 1) dX11_risky_18 rfl ?_
    refine aw_aload_n (pc := 19) (q := 0) dX11_risky_19 rfl ?_
    refine aw_getC (pc := 20) fd_X11_36.r xA_0 rfl dX11_risky_20 ?_
    refine aw_getC (pc := 23) fd_X11_175 xA_24 rfl dX11_risky_23 ?_
    refine aw_iload_n (pc := 26) (q := 2) dX11_risky_26 rfl ?_
    obtain ⟨r2, e3, h⟩ := aw_bde h
    refine aw_cV1 (pc := 27) [.int v2] (c_Ex_isRisky isEx_25 e3) yy_Ex_isRisky.1 wm_941 yy_Ex_isRisky.2.1 yy_Ex_isRisky.2.2 xA_25 ⟨_, _, rfl⟩ rfl ⟨Nat.le_of_ble_eq_true rfl, Nat.le_of_ble_eq_true rfl⟩ ⟨Nat.zero_le _, Nat.zero_le _⟩ (Nat.le_of_ble_eq_true rfl) dX11_risky_27 ?_
    obtain ⟨r4, e5, h⟩ := aw_bde h
    refine aw_cS1 (pc := 30) [.int r2] (c_Mo_oneIf e5) yy_Mo_oneIf.1 wm_894 yy_Mo_oneIf.2 rfl ⟨Nat.le_of_ble_eq_true rfl, Nat.le_of_ble_eq_true rfl⟩ ⟨Nat.zero_le _, Nat.zero_le _⟩ (Nat.le_of_ble_eq_true rfl) dX11_risky_30 ?_
    refine aw_iadd (pc := 33) dX11_risky_33 ?_
    refine aw_nmI (fun x6 e_x6 => ?_)
    replace h := aw_lte h x6 e_x6
    refine aw_istore_n (pc := 34) [(1, .int x6), (0, .ref 0), (2, .int v2)] dX11_risky_34 (by decide) rfl ?_
    obtain ⟨x7, e_x7⟩ : ∃ z, z = (v2 + (1 : Int32)) := ⟨_, rfl⟩
    replace h := aw_lte h x7 e_x7
    refine aw_iinc (pc := 35) (q := 2) (v := x7) [(2, .int x7), (1, .int x6), (0, .ref 0)] dX11_risky_35 rfl e_x7.symm (by decide) rfl ?_
    refine aw_goto (pc := 38) (tgt := 4) dX11_risky_38 (by decide) ?_
    refine aw_sub [2, 1, 0] rfl ?_
    cases h
    exact hz
set_option maxRecDepth 100000 in
set_option maxHeartbeats 4000000 in
theorem t_Mo_risky {l : Launch} {G : aw_G} {E : aw_E} {σ : aw_S} {t : Int32} (h : m_Mo_risky σ = some t) (hE : E = (some (.int t), xA, σ)) : aw_W l M_Mo_risky G B_Mo_risky E 0 [(0, .ref 0)] [] xA σ 0 0 := by
  unfold m_Mo_risky at h
  refine aw_iconst (pc := 0) (v := 0) dX11_risky_0 (by decide) ?_
  refine aw_istore_n (pc := 1) [(1, .int ((0 : Int32))), (0, .ref 0)] dX11_risky_1 (by decide) rfl ?_
  refine aw_iconst (pc := 2) (v := 0) dX11_risky_2 (by decide) ?_
  refine aw_istore_n (pc := 3) [(2, .int ((0 : Int32))), (1, .int ((0 : Int32))), (0, .ref 0)] dX11_risky_3 (by decide) rfl ?_
  obtain ⟨x8, hl9, h⟩ := aw_bde h
  have K10 : z_Mo_risky_Y4 l G E σ x8 := by
    show aw_W l M_Mo_risky G B_Mo_risky E 41 [(1, .int x8)] [] xA σ 0 0
    refine aw_iload_n (pc := 41) (q := 0) dX11_risky_41 rfl ?_
    cases h
    subst hE
    exact aw_iret (v := _) rfl aw_ni ⟨Nat.zero_le _, Nat.zero_le _⟩ dX11_risky_42
  refine aw_sub [2, 1, 0] rfl ?_
  show z_Mo_risky_X4 l G E σ (((0 : Int32), (0 : Int32)))
  exact aw_lp_X (Xp := z_Mo_risky_X4 l G E σ) (Y := z_Mo_risky_Y4 l G E σ) hl9 K10 (fun s t hf hz => t_Mo_risky_B4 hf hz)
theorem c_Mo_risky {l : Launch} {G : aw_G} {σ : aw_S} {t : Int32} (h : m_Mo_risky σ = some t) : aw_Ct l yX11_risky M_Mo_risky G B_Mo_risky [.ref 0] xA σ (some (.int t), xA, σ) := aw_Ct_of (by decide) rfl (fun h => by cases h) (Nat.le_of_ble_eq_true rfl) (t_Mo_risky h rfl)
/-! LateMover.isSoundOne(I)Z -/
set_option maxRecDepth 100000 in
set_option maxHeartbeats 4000000 in
theorem t_Mo_isSoundOne {l : Launch} {G : aw_G} {E : aw_E} {σ : aw_S} {p1 : Int32} {t : Int32} (h : m_Mo_isSoundOne σ p1 = some t) (hE : E = (some (.int t), xA, σ)) : aw_W l M_Mo_isSoundOne G B_Mo_isSoundOne E 0 [(0, .ref 0), (1, .int p1)] [] xA σ 0 0 := by
  unfold m_Mo_isSoundOne at h
  refine aw_aload_n (pc := 0) (q := 0) dX11_isSoundOne_0 rfl ?_
  refine aw_getC (pc := 1) fd_X11_43.r xA_0 rfl dX11_isSoundOne_1 ?_
  refine aw_getI (pc := 4) fd_X11_191.r xA_41 rfl dX11_isSoundOne_4 ?_
  refine aw_if_eq (pc := 7) (tgt := 28) dX11_isSoundOne_7 (by decide) (fun c1 => ?_) (fun c1 => ?_)
  · replace h := aw_ifp c1 h
    refine aw_iconst (pc := 28) (v := 0) dX11_isSoundOne_28 (by decide) ?_
    cases h
    subst hE
    exact aw_iret (v := (0 : Int32)) rfl aw_n0 ⟨Nat.zero_le _, Nat.zero_le _⟩ dX11_isSoundOne_29
  · replace h := aw_ifn c1 h
    refine aw_aload_n (pc := 10) (q := 0) dX11_isSoundOne_10 rfl ?_
    refine aw_getC (pc := 11) fd_X11_36.r xA_0 rfl dX11_isSoundOne_11 ?_
    refine aw_getC (pc := 14) fd_X11_175 xA_24 rfl dX11_isSoundOne_14 ?_
    refine aw_iload_n (pc := 17) (q := 1) dX11_isSoundOne_17 rfl ?_
    obtain ⟨r2, e3, h⟩ := aw_bde h
    refine aw_cV1 (pc := 18) [.int p1] (c_Ex_isOne isEx_25 e3) yy_Ex_isOne.1 wm_940 yy_Ex_isOne.2.1 yy_Ex_isOne.2.2 xA_25 ⟨_, _, rfl⟩ rfl ⟨Nat.le_of_ble_eq_true rfl, Nat.le_of_ble_eq_true rfl⟩ ⟨Nat.zero_le _, Nat.zero_le _⟩ (Nat.le_of_ble_eq_true rfl) dX11_isSoundOne_18 ?_
    refine aw_if_eq (pc := 21) (tgt := 28) dX11_isSoundOne_21 (by decide) (fun c4 => ?_) (fun c4 => ?_)
    · replace h := aw_ifp c4 h
      refine aw_iconst (pc := 28) (v := 0) dX11_isSoundOne_28 (by decide) ?_
      cases h
      subst hE
      exact aw_iret (v := (0 : Int32)) rfl aw_n0 ⟨Nat.zero_le _, Nat.zero_le _⟩ dX11_isSoundOne_29
    · replace h := aw_ifn c4 h
      refine aw_iconst (pc := 24) (v := 1) dX11_isSoundOne_24 (by decide) ?_
      refine aw_goto (pc := 25) (tgt := 29) dX11_isSoundOne_25 (by decide) ?_
      cases h
      subst hE
      exact aw_iret (v := (1 : Int32)) rfl aw_n1 ⟨Nat.zero_le _, Nat.zero_le _⟩ dX11_isSoundOne_29
theorem c_Mo_isSoundOne {l : Launch} {G : aw_G} {σ : aw_S} {p1 : Int32} {t : Int32} (h : m_Mo_isSoundOne σ p1 = some t) : aw_Ct l yX11_isSoundOne M_Mo_isSoundOne G B_Mo_isSoundOne [.ref 0, .int p1] xA σ (some (.int t), xA, σ) := aw_Ct_of (by decide) rfl (fun h => by cases h) (Nat.le_of_ble_eq_true rfl) (t_Mo_isSoundOne h rfl)
/-! LateMover.fact(III)I -/
set_option maxRecDepth 100000 in
set_option maxHeartbeats 4000000 in
theorem t_Mo_fact {l : Launch} {G : aw_G} {E : aw_E} {σ : aw_S} {p1 : Int32} {p2 : Int32} {p3 : Int32} {t : Int32} (h : m_Mo_fact σ p1 p2 p3 = some t) (hE : E = (some (.int t), xA, σ)) : aw_W l M_Mo_fact G B_Mo_fact E 0 [(0, .ref 0), (1, .int p1), (2, .int p2), (3, .int p3)] [] xA σ 0 0 := by
  unfold m_Mo_fact at h
  refine aw_aload_n (pc := 0) (q := 0) dX11_fact_0 rfl ?_
  refine aw_iload_n (pc := 1) (q := 1) dX11_fact_1 rfl ?_
  obtain ⟨r1, e2, h⟩ := aw_bde h
  refine aw_cV1 (pc := 2) [.int p1] (c_Mo_isSoundOne e2) yy_Mo_isSoundOne.1 wm_966 yy_Mo_isSoundOne.2.1 yy_Mo_isSoundOne.2.2 xA_0 ⟨_, _, rfl⟩ rfl ⟨Nat.le_of_ble_eq_true rfl, Nat.le_of_ble_eq_true rfl⟩ ⟨Nat.zero_le _, Nat.zero_le _⟩ (Nat.le_of_ble_eq_true rfl) dX11_fact_2 ?_
  refine aw_if_eq (pc := 5) (tgt := 19) dX11_fact_5 (by decide) (fun c3 => ?_) (fun c3 => ?_)
  · replace h := aw_ifp c3 h
    refine aw_iconst (pc := 19) (v := -1) dX11_fact_19 (by decide) ?_
    cases h
    subst hE
    exact aw_iret (v := (-1 : Int32)) rfl aw_ni ⟨Nat.zero_le _, Nat.zero_le _⟩ dX11_fact_20
  · replace h := aw_ifn c3 h
    refine aw_aload_n (pc := 8) (q := 0) dX11_fact_8 rfl ?_
    refine aw_getC (pc := 9) fd_X11_36.r xA_0 rfl dX11_fact_9 ?_
    refine aw_iload_n (pc := 12) (q := 2) dX11_fact_12 rfl ?_
    obtain ⟨r4, e5, h⟩ := aw_bde h
    refine aw_cV1 (pc := 13) [.int p2] (c_Gr_isNode e5) yy_Gr_isNode.1 wm_917 yy_Gr_isNode.2.1 yy_Gr_isNode.2.2 xA_24 ⟨_, _, rfl⟩ rfl ⟨Nat.le_of_ble_eq_true rfl, Nat.le_of_ble_eq_true rfl⟩ ⟨Nat.zero_le _, Nat.zero_le _⟩ (Nat.le_of_ble_eq_true rfl) dX11_fact_13 ?_
    refine aw_if_ne (pc := 16) (tgt := 21) dX11_fact_16 (by decide) (fun c6 => ?_) (fun c6 => ?_)
    · replace h := aw_ifn c6 h
      refine aw_iload_n (pc := 21) (q := 3) dX11_fact_21 rfl ?_
      by_cases c7 : p3 = (0 : Int32)
      · replace h := aw_ifp c7 h
        refine aw_tableIn (pc := 22) (tgt := 68) dX11_fact_22 0 (by rw [c7]; decide) (by decide) rfl (by decide) ?_
        refine aw_aload_n (pc := 68) (q := 0) dX11_fact_68 rfl ?_
        refine aw_getC (pc := 69) fd_X11_43.r xA_0 rfl dX11_fact_69 ?_
        refine aw_getC (pc := 72) fd_X11_151 xA_41 rfl dX11_fact_72 ?_
        refine aw_iload_n (pc := 75) (q := 2) dX11_fact_75 rfl ?_
        obtain ⟨g8, h⟩ := aw_gde h
        refine aw_iald (pc := 76) xA_47 g8 dX11_fact_76 ?_
        refine aw_iload_n (pc := 77) (q := 1) dX11_fact_77 rfl ?_
        obtain ⟨r9, e10, h⟩ := aw_bde h
        refine aw_cS1 (pc := 78) [.int ((σ.1 47 p2.toNatClampNeg)), .int p1] (c_Mo_bitOf e10) yy_Mo_bitOf.1 wm_970 yy_Mo_bitOf.2 rfl ⟨Nat.le_of_ble_eq_true rfl, Nat.le_of_ble_eq_true rfl⟩ ⟨Nat.zero_le _, Nat.zero_le _⟩ (Nat.le_of_ble_eq_true rfl) dX11_fact_78 ?_
        cases h
        subst hE
        exact aw_iret (v := _) rfl aw_ni ⟨Nat.zero_le _, Nat.zero_le _⟩ dX11_fact_81
      · replace h := aw_ifn c7 h
        by_cases c11 : p3 = (1 : Int32)
        · replace h := aw_ifp c11 h
          refine aw_tableIn (pc := 22) (tgt := 82) dX11_fact_22 1 (by rw [c11]; decide) (by decide) rfl (by decide) ?_
          refine aw_aload_n (pc := 82) (q := 0) dX11_fact_82 rfl ?_
          refine aw_getC (pc := 83) fd_X11_43.r xA_0 rfl dX11_fact_83 ?_
          refine aw_getC (pc := 86) fd_X11_245 xA_41 rfl dX11_fact_86 ?_
          refine aw_iload_n (pc := 89) (q := 2) dX11_fact_89 rfl ?_
          obtain ⟨g12, h⟩ := aw_gde h
          refine aw_iald (pc := 90) xA_48 g12 dX11_fact_90 ?_
          refine aw_iload_n (pc := 91) (q := 1) dX11_fact_91 rfl ?_
          obtain ⟨r13, e14, h⟩ := aw_bde h
          refine aw_cS1 (pc := 92) [.int ((σ.1 48 p2.toNatClampNeg)), .int p1] (c_Mo_bitOf e14) yy_Mo_bitOf.1 wm_970 yy_Mo_bitOf.2 rfl ⟨Nat.le_of_ble_eq_true rfl, Nat.le_of_ble_eq_true rfl⟩ ⟨Nat.zero_le _, Nat.zero_le _⟩ (Nat.le_of_ble_eq_true rfl) dX11_fact_92 ?_
          cases h
          subst hE
          exact aw_iret (v := _) rfl aw_ni ⟨Nat.zero_le _, Nat.zero_le _⟩ dX11_fact_95
        · replace h := aw_ifn c11 h
          by_cases c15 : p3 = (2 : Int32)
          · replace h := aw_ifp c15 h
            refine aw_tableIn (pc := 22) (tgt := 96) dX11_fact_22 2 (by rw [c15]; decide) (by decide) rfl (by decide) ?_
            refine aw_aload_n (pc := 96) (q := 0) dX11_fact_96 rfl ?_
            refine aw_getC (pc := 97) fd_X11_43.r xA_0 rfl dX11_fact_97 ?_
            refine aw_getC (pc := 100) fd_X11_255 xA_41 rfl dX11_fact_100 ?_
            refine aw_iload_n (pc := 103) (q := 2) dX11_fact_103 rfl ?_
            obtain ⟨g16, h⟩ := aw_gde h
            refine aw_iald (pc := 104) xA_49 g16 dX11_fact_104 ?_
            refine aw_iload_n (pc := 105) (q := 1) dX11_fact_105 rfl ?_
            obtain ⟨r17, e18, h⟩ := aw_bde h
            refine aw_cS1 (pc := 106) [.int ((σ.1 49 p2.toNatClampNeg)), .int p1] (c_Mo_bitOf e18) yy_Mo_bitOf.1 wm_970 yy_Mo_bitOf.2 rfl ⟨Nat.le_of_ble_eq_true rfl, Nat.le_of_ble_eq_true rfl⟩ ⟨Nat.zero_le _, Nat.zero_le _⟩ (Nat.le_of_ble_eq_true rfl) dX11_fact_106 ?_
            cases h
            subst hE
            exact aw_iret (v := _) rfl aw_ni ⟨Nat.zero_le _, Nat.zero_le _⟩ dX11_fact_109
          · replace h := aw_ifn c15 h
            by_cases c19 : p3 = (3 : Int32)
            · replace h := aw_ifp c19 h
              refine aw_tableIn (pc := 22) (tgt := 110) dX11_fact_22 3 (by rw [c19]; decide) (by decide) rfl (by decide) ?_
              refine aw_aload_n (pc := 110) (q := 0) dX11_fact_110 rfl ?_
              refine aw_getC (pc := 111) fd_X11_43.r xA_0 rfl dX11_fact_111 ?_
              refine aw_getC (pc := 114) fd_X11_258 xA_41 rfl dX11_fact_114 ?_
              refine aw_iload_n (pc := 117) (q := 2) dX11_fact_117 rfl ?_
              obtain ⟨g20, h⟩ := aw_gde h
              refine aw_iald (pc := 118) xA_50 g20 dX11_fact_118 ?_
              refine aw_iload_n (pc := 119) (q := 1) dX11_fact_119 rfl ?_
              obtain ⟨r21, e22, h⟩ := aw_bde h
              refine aw_cS1 (pc := 120) [.int ((σ.1 50 p2.toNatClampNeg)), .int p1] (c_Mo_bitOf e22) yy_Mo_bitOf.1 wm_970 yy_Mo_bitOf.2 rfl ⟨Nat.le_of_ble_eq_true rfl, Nat.le_of_ble_eq_true rfl⟩ ⟨Nat.zero_le _, Nat.zero_le _⟩ (Nat.le_of_ble_eq_true rfl) dX11_fact_120 ?_
              cases h
              subst hE
              exact aw_iret (v := _) rfl aw_ni ⟨Nat.zero_le _, Nat.zero_le _⟩ dX11_fact_123
            · replace h := aw_ifn c19 h
              by_cases c23 : p3 = (4 : Int32)
              · replace h := aw_ifp c23 h
                refine aw_tableIn (pc := 22) (tgt := 124) dX11_fact_22 4 (by rw [c23]; decide) (by decide) rfl (by decide) ?_
                refine aw_aload_n (pc := 124) (q := 0) dX11_fact_124 rfl ?_
                refine aw_getC (pc := 125) fd_X11_43.r xA_0 rfl dX11_fact_125 ?_
                refine aw_getC (pc := 128) fd_X11_148 xA_41 rfl dX11_fact_128 ?_
                refine aw_iload_n (pc := 131) (q := 2) dX11_fact_131 rfl ?_
                obtain ⟨g24, h⟩ := aw_gde h
                refine aw_iald (pc := 132) xA_51 g24 dX11_fact_132 ?_
                refine aw_iload_n (pc := 133) (q := 1) dX11_fact_133 rfl ?_
                obtain ⟨r25, e26, h⟩ := aw_bde h
                refine aw_cS1 (pc := 134) [.int ((σ.1 51 p2.toNatClampNeg)), .int p1] (c_Mo_bitOf e26) yy_Mo_bitOf.1 wm_970 yy_Mo_bitOf.2 rfl ⟨Nat.le_of_ble_eq_true rfl, Nat.le_of_ble_eq_true rfl⟩ ⟨Nat.zero_le _, Nat.zero_le _⟩ (Nat.le_of_ble_eq_true rfl) dX11_fact_134 ?_
                cases h
                subst hE
                exact aw_iret (v := _) rfl aw_ni ⟨Nat.zero_le _, Nat.zero_le _⟩ dX11_fact_137
              · replace h := aw_ifn c23 h
                by_cases c27 : p3 = (5 : Int32)
                · replace h := aw_ifp c27 h
                  refine aw_tableIn (pc := 22) (tgt := 138) dX11_fact_22 5 (by rw [c27]; decide) (by decide) rfl (by decide) ?_
                  refine aw_aload_n (pc := 138) (q := 0) dX11_fact_138 rfl ?_
                  refine aw_getC (pc := 139) fd_X11_43.r xA_0 rfl dX11_fact_139 ?_
                  refine aw_getC (pc := 142) fd_X11_261 xA_41 rfl dX11_fact_142 ?_
                  refine aw_iload_n (pc := 145) (q := 2) dX11_fact_145 rfl ?_
                  obtain ⟨g28, h⟩ := aw_gde h
                  refine aw_iald (pc := 146) xA_52 g28 dX11_fact_146 ?_
                  refine aw_iload_n (pc := 147) (q := 1) dX11_fact_147 rfl ?_
                  obtain ⟨r29, e30, h⟩ := aw_bde h
                  refine aw_cS1 (pc := 148) [.int ((σ.1 52 p2.toNatClampNeg)), .int p1] (c_Mo_bitOf e30) yy_Mo_bitOf.1 wm_970 yy_Mo_bitOf.2 rfl ⟨Nat.le_of_ble_eq_true rfl, Nat.le_of_ble_eq_true rfl⟩ ⟨Nat.zero_le _, Nat.zero_le _⟩ (Nat.le_of_ble_eq_true rfl) dX11_fact_148 ?_
                  cases h
                  subst hE
                  exact aw_iret (v := _) rfl aw_ni ⟨Nat.zero_le _, Nat.zero_le _⟩ dX11_fact_151
                · replace h := aw_ifn c27 h
                  by_cases c31 : p3 = (6 : Int32)
                  · replace h := aw_ifp c31 h
                    refine aw_tableIn (pc := 22) (tgt := 152) dX11_fact_22 6 (by rw [c31]; decide) (by decide) rfl (by decide) ?_
                    refine aw_aload_n (pc := 152) (q := 0) dX11_fact_152 rfl ?_
                    refine aw_getC (pc := 153) fd_X11_43.r xA_0 rfl dX11_fact_153 ?_
                    refine aw_getC (pc := 156) fd_X11_142 xA_41 rfl dX11_fact_156 ?_
                    refine aw_iload_n (pc := 159) (q := 2) dX11_fact_159 rfl ?_
                    obtain ⟨g32, h⟩ := aw_gde h
                    refine aw_iald (pc := 160) xA_53 g32 dX11_fact_160 ?_
                    refine aw_iload_n (pc := 161) (q := 1) dX11_fact_161 rfl ?_
                    obtain ⟨r33, e34, h⟩ := aw_bde h
                    refine aw_cS1 (pc := 162) [.int ((σ.1 53 p2.toNatClampNeg)), .int p1] (c_Mo_bitOf e34) yy_Mo_bitOf.1 wm_970 yy_Mo_bitOf.2 rfl ⟨Nat.le_of_ble_eq_true rfl, Nat.le_of_ble_eq_true rfl⟩ ⟨Nat.zero_le _, Nat.zero_le _⟩ (Nat.le_of_ble_eq_true rfl) dX11_fact_162 ?_
                    cases h
                    subst hE
                    exact aw_iret (v := _) rfl aw_ni ⟨Nat.zero_le _, Nat.zero_le _⟩ dX11_fact_165
                  · replace h := aw_ifn c31 h
                    by_cases c35 : p3 = (7 : Int32)
                    · replace h := aw_ifp c35 h
                      refine aw_tableIn (pc := 22) (tgt := 166) dX11_fact_22 7 (by rw [c35]; decide) (by decide) rfl (by decide) ?_
                      refine aw_aload_n (pc := 166) (q := 0) dX11_fact_166 rfl ?_
                      refine aw_getC (pc := 167) fd_X11_43.r xA_0 rfl dX11_fact_167 ?_
                      refine aw_getC (pc := 170) fd_X11_145 xA_41 rfl dX11_fact_170 ?_
                      refine aw_iload_n (pc := 173) (q := 2) dX11_fact_173 rfl ?_
                      obtain ⟨g36, h⟩ := aw_gde h
                      refine aw_iald (pc := 174) xA_54 g36 dX11_fact_174 ?_
                      refine aw_iload_n (pc := 175) (q := 1) dX11_fact_175 rfl ?_
                      obtain ⟨r37, e38, h⟩ := aw_bde h
                      refine aw_cS1 (pc := 176) [.int ((σ.1 54 p2.toNatClampNeg)), .int p1] (c_Mo_bitOf e38) yy_Mo_bitOf.1 wm_970 yy_Mo_bitOf.2 rfl ⟨Nat.le_of_ble_eq_true rfl, Nat.le_of_ble_eq_true rfl⟩ ⟨Nat.zero_le _, Nat.zero_le _⟩ (Nat.le_of_ble_eq_true rfl) dX11_fact_176 ?_
                      cases h
                      subst hE
                      exact aw_iret (v := _) rfl aw_ni ⟨Nat.zero_le _, Nat.zero_le _⟩ dX11_fact_179
                    · replace h := aw_ifn c35 h
                      refine aw_tableOut (pc := 22) (tgt := 180) dX11_fact_22 (aw_tout 0 7 (fun k h1 h2 => by
                        have hk : k = 0 ∨ k = 1 ∨ k = 2 ∨ k = 3 ∨ k = 4 ∨ k = 5 ∨ k = 6 ∨ k = 7 := by omega
                        rcases hk with rfl | rfl | rfl | rfl | rfl | rfl | rfl | rfl
                        · exact fun e => c7 (e.trans (by decide))
                        · exact fun e => c11 (e.trans (by decide))
                        · exact fun e => c15 (e.trans (by decide))
                        · exact fun e => c19 (e.trans (by decide))
                        · exact fun e => c23 (e.trans (by decide))
                        · exact fun e => c27 (e.trans (by decide))
                        · exact fun e => c31 (e.trans (by decide))
                        · exact fun e => c35 (e.trans (by decide)))) (by decide) ?_
                      refine aw_iconst (pc := 180) (v := -1) dX11_fact_180 (by decide) ?_
                      cases h
                      subst hE
                      exact aw_iret (v := (-1 : Int32)) rfl aw_ni ⟨Nat.zero_le _, Nat.zero_le _⟩ dX11_fact_181
    · replace h := aw_ifp c6 h
      refine aw_iconst (pc := 19) (v := -1) dX11_fact_19 (by decide) ?_
      cases h
      subst hE
      exact aw_iret (v := (-1 : Int32)) rfl aw_ni ⟨Nat.zero_le _, Nat.zero_le _⟩ dX11_fact_20
theorem c_Mo_fact {l : Launch} {G : aw_G} {σ : aw_S} {p1 : Int32} {p2 : Int32} {p3 : Int32} {t : Int32} (h : m_Mo_fact σ p1 p2 p3 = some t) : aw_Ct l yX11_fact M_Mo_fact G B_Mo_fact [.ref 0, .int p1, .int p2, .int p3] xA σ (some (.int t), xA, σ) := aw_Ct_of (by decide) rfl (fun h => by cases h) (Nat.le_of_ble_eq_true rfl) (t_Mo_fact h rfl)
/-! LateMover.isMoved(I)Z -/
set_option maxRecDepth 100000 in
set_option maxHeartbeats 4000000 in
theorem t_Mo_isMoved {l : Launch} {G : aw_G} {E : aw_E} {σ : aw_S} {p1 : Int32} {t : Int32} (h : m_Mo_isMoved σ p1 = some t) (hE : E = (some (.int t), xA, σ)) : aw_W l M_Mo_isMoved G B_Mo_isMoved E 0 [(0, .ref 0), (1, .int p1)] [] xA σ 0 0 := by
  unfold m_Mo_isMoved at h
  refine aw_aload_n (pc := 0) (q := 0) dX11_isMoved_0 rfl ?_
  refine aw_getC (pc := 1) fd_X11_43.r xA_0 rfl dX11_isMoved_1 ?_
  refine aw_getI (pc := 4) fd_X11_191.r xA_41 rfl dX11_isMoved_4 ?_
  refine aw_if_eq (pc := 7) (tgt := 23) dX11_isMoved_7 (by decide) (fun c1 => ?_) (fun c1 => ?_)
  · replace h := aw_ifp c1 h
    refine aw_iconst (pc := 23) (v := 0) dX11_isMoved_23 (by decide) ?_
    cases h
    subst hE
    exact aw_iret (v := (0 : Int32)) rfl aw_n0 ⟨Nat.zero_le _, Nat.zero_le _⟩ dX11_isMoved_24
  · replace h := aw_ifn c1 h
    refine aw_iload_n (pc := 10) (q := 1) dX11_isMoved_10 rfl ?_
    refine aw_if_eq (pc := 11) (tgt := 19) dX11_isMoved_11 (by decide) (fun c2 => ?_) (fun c2 => ?_)
    · replace h := aw_ifp c2 h
      refine aw_iconst (pc := 19) (v := 1) dX11_isMoved_19 (by decide) ?_
      refine aw_goto (pc := 20) (tgt := 24) dX11_isMoved_20 (by decide) ?_
      cases h
      subst hE
      exact aw_iret (v := (1 : Int32)) rfl aw_n1 ⟨Nat.zero_le _, Nat.zero_le _⟩ dX11_isMoved_24
    · replace h := aw_ifn c2 h
      refine aw_iload_n (pc := 14) (q := 1) dX11_isMoved_14 rfl ?_
      refine aw_iconst (pc := 15) (v := 1) dX11_isMoved_15 (by decide) ?_
      refine aw_icmp_ne (pc := 16) (tgt := 23) dX11_isMoved_16 (by decide) (fun c3 => ?_) (fun c3 => ?_)
      · replace h := aw_ifn c3 h
        refine aw_iconst (pc := 23) (v := 0) dX11_isMoved_23 (by decide) ?_
        cases h
        subst hE
        exact aw_iret (v := (0 : Int32)) rfl aw_n0 ⟨Nat.zero_le _, Nat.zero_le _⟩ dX11_isMoved_24
      · replace h := aw_ifp c3 h
        refine aw_iconst (pc := 19) (v := 1) dX11_isMoved_19 (by decide) ?_
        refine aw_goto (pc := 20) (tgt := 24) dX11_isMoved_20 (by decide) ?_
        cases h
        subst hE
        exact aw_iret (v := (1 : Int32)) rfl aw_n1 ⟨Nat.zero_le _, Nat.zero_le _⟩ dX11_isMoved_24
theorem c_Mo_isMoved {l : Launch} {G : aw_G} {σ : aw_S} {p1 : Int32} {t : Int32} (h : m_Mo_isMoved σ p1 = some t) : aw_Ct l yX11_isMoved M_Mo_isMoved G B_Mo_isMoved [.ref 0, .int p1] xA σ (some (.int t), xA, σ) := aw_Ct_of (by decide) rfl (fun h => by cases h) (Nat.le_of_ble_eq_true rfl) (t_Mo_isMoved h rfl)
/-! LateMover.placementBy(I)LLateMover$Placement; -/
set_option maxRecDepth 100000 in
set_option maxHeartbeats 4000000 in
theorem t_Mo_placementBy {l : Launch} {G : aw_G} {E : aw_E} {σ : aw_S} {p1 : Int32} {t : Nat} (h : m_Mo_placementBy σ p1 = some t) (hE : E = (some (.ref t), xA, σ)) : aw_W l M_Mo_placementBy G B_Mo_placementBy E 0 [(0, .ref 0), (1, .int p1)] [] xA σ 0 0 := by
  unfold m_Mo_placementBy at h
  refine aw_iload_n (pc := 0) (q := 1) dX11_placementBy_0 rfl ?_
  refine aw_if_ne (pc := 1) (tgt := 9) dX11_placementBy_1 (by decide) (fun c1 => ?_) (fun c1 => ?_)
  · replace h := aw_ifn c1 h
    refine aw_iload_n (pc := 9) (q := 1) dX11_placementBy_9 rfl ?_
    refine aw_iconst (pc := 10) (v := 1) dX11_placementBy_10 (by decide) ?_
    refine aw_icmp_ne (pc := 11) (tgt := 21) dX11_placementBy_11 (by decide) (fun c2 => ?_) (fun c2 => ?_)
    · replace h := aw_ifn c2 h
      refine aw_aload_n (pc := 21) (q := 0) dX11_placementBy_21 rfl ?_
      refine aw_getC (pc := 22) fd_X11_57.r xA_0 rfl dX11_placementBy_22 ?_
      cases h
      subst hE
      exact aw_aret (v := _) rfl ⟨Nat.zero_le _, Nat.zero_le _⟩ dX11_placementBy_25
    · replace h := aw_ifp c2 h
      refine aw_aload_n (pc := 14) (q := 0) dX11_placementBy_14 rfl ?_
      refine aw_getC (pc := 15) fd_X11_64.r xA_0 rfl dX11_placementBy_15 ?_
      refine aw_goto (pc := 18) (tgt := 25) dX11_placementBy_18 (by decide) ?_
      cases h
      subst hE
      exact aw_aret (v := _) rfl ⟨Nat.zero_le _, Nat.zero_le _⟩ dX11_placementBy_25
  · replace h := aw_ifp c1 h
    refine aw_aload_n (pc := 4) (q := 0) dX11_placementBy_4 rfl ?_
    refine aw_getC (pc := 5) fd_X11_61.r xA_0 rfl dX11_placementBy_5 ?_
    cases h
    subst hE
    exact aw_aret (v := _) rfl ⟨Nat.zero_le _, Nat.zero_le _⟩ dX11_placementBy_8
theorem c_Mo_placementBy {l : Launch} {G : aw_G} {σ : aw_S} {p1 : Int32} {t : Nat} (h : m_Mo_placementBy σ p1 = some t) : aw_Ct l yX11_placementBy M_Mo_placementBy G B_Mo_placementBy [.ref 0, .int p1] xA σ (some (.ref t), xA, σ) := aw_Ct_of (by decide) rfl (fun h => by cases h) (Nat.le_of_ble_eq_true rfl) (t_Mo_placementBy h rfl)
/-! LateMover.placed(IIII)I -/
set_option maxRecDepth 100000 in
set_option maxHeartbeats 4000000 in
theorem t_Mo_placed {l : Launch} {G : aw_G} {E : aw_E} {σ : aw_S} {p1 : Int32} {p2 : Int32} {p3 : Int32} {p4 : Int32} {t : Int32} (h : m_Mo_placed σ p1 p2 p3 p4 = some t) (hE : E = (some (.int t), xA, σ)) : aw_W l M_Mo_placed G B_Mo_placed E 0 [(0, .ref 0), (1, .int p1), (2, .int p2), (3, .int p3), (4, .int p4)] [] xA σ 0 0 := by
  unfold m_Mo_placed at h
  refine aw_aload_n (pc := 0) (q := 0) dX11_placed_0 rfl ?_
  refine aw_iload_n (pc := 1) (q := 1) dX11_placed_1 rfl ?_
  obtain ⟨r1, e2, h⟩ := aw_bde h
  refine aw_cV1 (pc := 2) [.int p1] (c_Mo_isSoundOne e2) yy_Mo_isSoundOne.1 wm_966 yy_Mo_isSoundOne.2.1 yy_Mo_isSoundOne.2.2 xA_0 ⟨_, _, rfl⟩ rfl ⟨Nat.le_of_ble_eq_true rfl, Nat.le_of_ble_eq_true rfl⟩ ⟨Nat.zero_le _, Nat.zero_le _⟩ (Nat.le_of_ble_eq_true rfl) dX11_placed_2 ?_
  refine aw_if_eq (pc := 5) (tgt := 27) dX11_placed_5 (by decide) (fun c3 => ?_) (fun c3 => ?_)
  · replace h := aw_ifp c3 h
    refine aw_iconst (pc := 27) (v := -1) dX11_placed_27 (by decide) ?_
    cases h
    subst hE
    exact aw_iret (v := (-1 : Int32)) rfl aw_ni ⟨Nat.zero_le _, Nat.zero_le _⟩ dX11_placed_28
  · replace h := aw_ifn c3 h
    refine aw_aload_n (pc := 8) (q := 0) dX11_placed_8 rfl ?_
    refine aw_getC (pc := 9) fd_X11_36.r xA_0 rfl dX11_placed_9 ?_
    refine aw_iload_n (pc := 12) (q := 2) dX11_placed_12 rfl ?_
    obtain ⟨r4, e5, h⟩ := aw_bde h
    refine aw_cV1 (pc := 13) [.int p2] (c_Gr_isNode e5) yy_Gr_isNode.1 wm_917 yy_Gr_isNode.2.1 yy_Gr_isNode.2.2 xA_24 ⟨_, _, rfl⟩ rfl ⟨Nat.le_of_ble_eq_true rfl, Nat.le_of_ble_eq_true rfl⟩ ⟨Nat.zero_le _, Nat.zero_le _⟩ (Nat.le_of_ble_eq_true rfl) dX11_placed_13 ?_
    refine aw_if_eq (pc := 16) (tgt := 27) dX11_placed_16 (by decide) (fun c6 => ?_) (fun c6 => ?_)
    · replace h := aw_ifp c6 h
      refine aw_iconst (pc := 27) (v := -1) dX11_placed_27 (by decide) ?_
      cases h
      subst hE
      exact aw_iret (v := (-1 : Int32)) rfl aw_ni ⟨Nat.zero_le _, Nat.zero_le _⟩ dX11_placed_28
    · replace h := aw_ifn c6 h
      refine aw_aload_n (pc := 19) (q := 0) dX11_placed_19 rfl ?_
      refine aw_iload_n (pc := 20) (q := 3) dX11_placed_20 rfl ?_
      obtain ⟨r7, e8, h⟩ := aw_bde h
      refine aw_cV1 (pc := 21) [.int p3] (c_Mo_isMoved e8) yy_Mo_isMoved.1 wm_982 yy_Mo_isMoved.2.1 yy_Mo_isMoved.2.2 xA_0 ⟨_, _, rfl⟩ rfl ⟨Nat.le_of_ble_eq_true rfl, Nat.le_of_ble_eq_true rfl⟩ ⟨Nat.zero_le _, Nat.zero_le _⟩ (Nat.le_of_ble_eq_true rfl) dX11_placed_21 ?_
      refine aw_if_ne (pc := 24) (tgt := 29) dX11_placed_24 (by decide) (fun c9 => ?_) (fun c9 => ?_)
      · replace h := aw_ifn c9 h
        refine aw_aload_n (pc := 29) (q := 0) dX11_placed_29 rfl ?_
        refine aw_iload_n (pc := 30) (q := 3) dX11_placed_30 rfl ?_
        obtain ⟨r10, e11, h⟩ := aw_bde h
        refine aw_cV1 (pc := 31) [.int p3] (c_Mo_placementBy e11) yy_Mo_placementBy.1 wm_986 yy_Mo_placementBy.2.1 yy_Mo_placementBy.2.2 xA_0 ⟨_, _, rfl⟩ rfl ⟨Nat.le_of_ble_eq_true rfl, Nat.le_of_ble_eq_true rfl⟩ ⟨Nat.zero_le _, Nat.zero_le _⟩ (Nat.le_of_ble_eq_true rfl) dX11_placed_31 ?_
        have h_r10 : isPl r10 := aw_plBy_ok e11
        refine aw_astore (pc := 34) [(5, .ref r10), (0, .ref 0), (1, .int p1), (2, .int p2), (3, .int p3), (4, .int p4)] dX11_placed_34 (by decide) rfl ?_
        refine aw_iload (pc := 36) (q := 5) dX11_placed_36 rfl ?_
        by_cases c12 : p4 = (0 : Int32)
        · replace h := aw_ifp c12 h
          refine aw_tableIn (pc := 38) (tgt := 64) dX11_placed_38 0 (by rw [c12]; decide) (by decide) rfl (by decide) ?_
          refine aw_aload (pc := 64) (q := 0) dX11_placed_64 rfl ?_
          refine aw_getC (pc := 66) fd_X11_271 h_r10.1 rfl dX11_placed_66 ?_
          refine aw_iload_n (pc := 69) (q := 3) dX11_placed_69 rfl ?_
          obtain ⟨g13, h⟩ := aw_gde h
          refine aw_iald (pc := 70) h_r10.2.1 g13 dX11_placed_70 ?_
          refine aw_iload_n (pc := 71) (q := 2) dX11_placed_71 rfl ?_
          obtain ⟨r14, e15, h⟩ := aw_bde h
          refine aw_cS1 (pc := 72) [.int ((σ.1 (r10 + 1) p2.toNatClampNeg)), .int p1] (c_Mo_bitOf e15) yy_Mo_bitOf.1 wm_970 yy_Mo_bitOf.2 rfl ⟨Nat.le_of_ble_eq_true rfl, Nat.le_of_ble_eq_true rfl⟩ ⟨Nat.zero_le _, Nat.zero_le _⟩ (Nat.le_of_ble_eq_true rfl) dX11_placed_72 ?_
          cases h
          subst hE
          exact aw_iret (v := _) rfl aw_ni ⟨Nat.zero_le _, Nat.zero_le _⟩ dX11_placed_75
        · replace h := aw_ifn c12 h
          by_cases c16 : p4 = (1 : Int32)
          · replace h := aw_ifp c16 h
            refine aw_tableIn (pc := 38) (tgt := 76) dX11_placed_38 1 (by rw [c16]; decide) (by decide) rfl (by decide) ?_
            refine aw_aload (pc := 76) (q := 0) dX11_placed_76 rfl ?_
            refine aw_getC (pc := 78) fd_X11_274 h_r10.1 rfl dX11_placed_78 ?_
            refine aw_iload_n (pc := 81) (q := 3) dX11_placed_81 rfl ?_
            obtain ⟨g17, h⟩ := aw_gde h
            refine aw_iald (pc := 82) h_r10.2.2.1 g17 dX11_placed_82 ?_
            refine aw_iload_n (pc := 83) (q := 2) dX11_placed_83 rfl ?_
            obtain ⟨r18, e19, h⟩ := aw_bde h
            refine aw_cS1 (pc := 84) [.int ((σ.1 (r10 + 2) p2.toNatClampNeg)), .int p1] (c_Mo_bitOf e19) yy_Mo_bitOf.1 wm_970 yy_Mo_bitOf.2 rfl ⟨Nat.le_of_ble_eq_true rfl, Nat.le_of_ble_eq_true rfl⟩ ⟨Nat.zero_le _, Nat.zero_le _⟩ (Nat.le_of_ble_eq_true rfl) dX11_placed_84 ?_
            cases h
            subst hE
            exact aw_iret (v := _) rfl aw_ni ⟨Nat.zero_le _, Nat.zero_le _⟩ dX11_placed_87
          · replace h := aw_ifn c16 h
            by_cases c20 : p4 = (2 : Int32)
            · replace h := aw_ifp c20 h
              refine aw_tableIn (pc := 38) (tgt := 88) dX11_placed_38 2 (by rw [c20]; decide) (by decide) rfl (by decide) ?_
              refine aw_aload (pc := 88) (q := 0) dX11_placed_88 rfl ?_
              refine aw_getC (pc := 90) fd_X11_277 h_r10.1 rfl dX11_placed_90 ?_
              refine aw_iload_n (pc := 93) (q := 3) dX11_placed_93 rfl ?_
              obtain ⟨g21, h⟩ := aw_gde h
              refine aw_iald (pc := 94) h_r10.2.2.2.1 g21 dX11_placed_94 ?_
              refine aw_iload_n (pc := 95) (q := 2) dX11_placed_95 rfl ?_
              obtain ⟨r22, e23, h⟩ := aw_bde h
              refine aw_cS1 (pc := 96) [.int ((σ.1 (r10 + 3) p2.toNatClampNeg)), .int p1] (c_Mo_bitOf e23) yy_Mo_bitOf.1 wm_970 yy_Mo_bitOf.2 rfl ⟨Nat.le_of_ble_eq_true rfl, Nat.le_of_ble_eq_true rfl⟩ ⟨Nat.zero_le _, Nat.zero_le _⟩ (Nat.le_of_ble_eq_true rfl) dX11_placed_96 ?_
              cases h
              subst hE
              exact aw_iret (v := _) rfl aw_ni ⟨Nat.zero_le _, Nat.zero_le _⟩ dX11_placed_99
            · replace h := aw_ifn c20 h
              refine aw_tableOut (pc := 38) (tgt := 100) dX11_placed_38 (aw_tout 0 2 (fun k h1 h2 => by
                have hk : k = 0 ∨ k = 1 ∨ k = 2 := by omega
                rcases hk with rfl | rfl | rfl
                · exact fun e => c12 (e.trans (by decide))
                · exact fun e => c16 (e.trans (by decide))
                · exact fun e => c20 (e.trans (by decide)))) (by decide) ?_
              refine aw_iconst (pc := 100) (v := -1) dX11_placed_100 (by decide) ?_
              cases h
              subst hE
              exact aw_iret (v := (-1 : Int32)) rfl aw_ni ⟨Nat.zero_le _, Nat.zero_le _⟩ dX11_placed_101
      · replace h := aw_ifp c9 h
        refine aw_iconst (pc := 27) (v := -1) dX11_placed_27 (by decide) ?_
        cases h
        subst hE
        exact aw_iret (v := (-1 : Int32)) rfl aw_ni ⟨Nat.zero_le _, Nat.zero_le _⟩ dX11_placed_28
theorem c_Mo_placed {l : Launch} {G : aw_G} {σ : aw_S} {p1 : Int32} {p2 : Int32} {p3 : Int32} {p4 : Int32} {t : Int32} (h : m_Mo_placed σ p1 p2 p3 p4 = some t) : aw_Ct l yX11_placed M_Mo_placed G B_Mo_placed [.ref 0, .int p1, .int p2, .int p3, .int p4] xA σ (some (.int t), xA, σ) := aw_Ct_of (by decide) rfl (fun h => by cases h) (Nat.le_of_ble_eq_true rfl) (t_Mo_placed h rfl)
/-! java/lang/Integer.bitCount(I)I -/
set_option maxRecDepth 100000 in
set_option maxHeartbeats 4000000 in
theorem t_In_bitCount {l : Launch} {G : aw_G} {E : aw_E} {σ : aw_S} {p0 : Int32} {t : Int32} (h : m_In_bitCount σ p0 = some t) (hE : E = (some (.int t), xA, σ)) : aw_W l M_In_bitCount G B_In_bitCount E 0 [(0, .int p0)] [] xA σ 0 0 := by
  unfold m_In_bitCount at h
  refine aw_iload_n (pc := 0) (q := 0) dJ6_bitCount_0f7a4_0 rfl ?_
  refine aw_iload_n (pc := 1) (q := 0) dJ6_bitCount_0f7a4_1 rfl ?_
  refine aw_iconst (pc := 2) (v := 1) dJ6_bitCount_0f7a4_2 (by decide) ?_
  refine aw_iushr (pc := 3) dJ6_bitCount_0f7a4_3 ?_
  refine aw_ldcw (pc := 4) (v := 1431655765) dJ6_bitCount_0f7a4_4 wm_1014 ?_
  refine aw_iand (pc := 7) dJ6_bitCount_0f7a4_7 ?_
  refine aw_isub (pc := 8) dJ6_bitCount_0f7a4_8 ?_
  refine aw_nmI (fun x1 e_x1 => ?_)
  replace h := aw_lte h x1 e_x1
  refine aw_istore_n (pc := 9) [(0, .int x1)] dJ6_bitCount_0f7a4_9 (by decide) rfl ?_
  refine aw_iload_n (pc := 10) (q := 0) dJ6_bitCount_0f7a4_10 rfl ?_
  refine aw_ldcw (pc := 11) (v := 858993459) dJ6_bitCount_0f7a4_11 wm_1015 ?_
  refine aw_iand (pc := 14) dJ6_bitCount_0f7a4_14 ?_
  refine aw_iload_n (pc := 15) (q := 0) dJ6_bitCount_0f7a4_15 rfl ?_
  refine aw_iconst (pc := 16) (v := 2) dJ6_bitCount_0f7a4_16 (by decide) ?_
  refine aw_iushr (pc := 17) dJ6_bitCount_0f7a4_17 ?_
  refine aw_ldcw (pc := 18) (v := 858993459) dJ6_bitCount_0f7a4_18 wm_1015 ?_
  refine aw_iand (pc := 21) dJ6_bitCount_0f7a4_21 ?_
  refine aw_iadd (pc := 22) dJ6_bitCount_0f7a4_22 ?_
  refine aw_nmI (fun x2 e_x2 => ?_)
  replace h := aw_lte h x2 e_x2
  refine aw_istore_n (pc := 23) [(0, .int x2)] dJ6_bitCount_0f7a4_23 (by decide) rfl ?_
  refine aw_iload_n (pc := 24) (q := 0) dJ6_bitCount_0f7a4_24 rfl ?_
  refine aw_iload_n (pc := 25) (q := 0) dJ6_bitCount_0f7a4_25 rfl ?_
  refine aw_iconst (pc := 26) (v := 4) dJ6_bitCount_0f7a4_26 (by decide) ?_
  refine aw_iushr (pc := 27) dJ6_bitCount_0f7a4_27 ?_
  refine aw_iadd (pc := 28) dJ6_bitCount_0f7a4_28 ?_
  refine aw_ldcw (pc := 29) (v := 252645135) dJ6_bitCount_0f7a4_29 wm_1016 ?_
  refine aw_iand (pc := 32) dJ6_bitCount_0f7a4_32 ?_
  refine aw_nmI (fun x3 e_x3 => ?_)
  replace h := aw_lte h x3 e_x3
  refine aw_istore_n (pc := 33) [(0, .int x3)] dJ6_bitCount_0f7a4_33 (by decide) rfl ?_
  refine aw_iload_n (pc := 34) (q := 0) dJ6_bitCount_0f7a4_34 rfl ?_
  refine aw_iload_n (pc := 35) (q := 0) dJ6_bitCount_0f7a4_35 rfl ?_
  refine aw_bipush (pc := 36) (v := 8) dJ6_bitCount_0f7a4_36 (by decide) ?_
  refine aw_iushr (pc := 38) dJ6_bitCount_0f7a4_38 ?_
  refine aw_iadd (pc := 39) dJ6_bitCount_0f7a4_39 ?_
  refine aw_nmI (fun x4 e_x4 => ?_)
  replace h := aw_lte h x4 e_x4
  refine aw_istore_n (pc := 40) [(0, .int x4)] dJ6_bitCount_0f7a4_40 (by decide) rfl ?_
  refine aw_iload_n (pc := 41) (q := 0) dJ6_bitCount_0f7a4_41 rfl ?_
  refine aw_iload_n (pc := 42) (q := 0) dJ6_bitCount_0f7a4_42 rfl ?_
  refine aw_bipush (pc := 43) (v := 16) dJ6_bitCount_0f7a4_43 (by decide) ?_
  refine aw_iushr (pc := 45) dJ6_bitCount_0f7a4_45 ?_
  refine aw_iadd (pc := 46) dJ6_bitCount_0f7a4_46 ?_
  refine aw_nmI (fun x5 e_x5 => ?_)
  replace h := aw_lte h x5 e_x5
  refine aw_istore_n (pc := 47) [(0, .int x5)] dJ6_bitCount_0f7a4_47 (by decide) rfl ?_
  refine aw_iload_n (pc := 48) (q := 0) dJ6_bitCount_0f7a4_48 rfl ?_
  refine aw_bipush (pc := 49) (v := 63) dJ6_bitCount_0f7a4_49 (by decide) ?_
  refine aw_iand (pc := 51) dJ6_bitCount_0f7a4_51 ?_
  cases h
  subst hE
  exact aw_iret (v := (x5 &&& (63 : Int32))) rfl aw_ni ⟨Nat.zero_le _, Nat.zero_le _⟩ dJ6_bitCount_0f7a4_52
theorem c_In_bitCount {l : Launch} {G : aw_G} {σ : aw_S} {p0 : Int32} {t : Int32} (h : m_In_bitCount σ p0 = some t) : aw_Ct l yJ6_bitCount_0f7a4 M_In_bitCount G B_In_bitCount [.int p0] xA σ (some (.int t), xA, σ) := aw_Ct_of (by decide) rfl (fun h => by cases h) (Nat.le_of_ble_eq_true rfl) (t_In_bitCount h rfl)
/-! LateMover$Graph.bitsIn([I)I -/
def z_Gr_bitsIn_X4 (l : Launch) (G : aw_G) (E : aw_E) (σ : aw_S) (v1 : Nat) (s : Int32 × Int32) : Prop := aw_W l M_Gr_bitsIn G B_Gr_bitsIn E 4 [(0, .ref 24), (1, .ref v1), (2, .int s.1), (3, .int s.2)] [] xA σ 0 0
def z_Gr_bitsIn_Y4 (l : Launch) (G : aw_G) (E : aw_E) (σ : aw_S) (v1 : Nat) (x : (Int32)) : Prop := aw_W l M_Gr_bitsIn G B_Gr_bitsIn E 27 [(2, .int x)] [] xA σ 0 0
set_option maxRecDepth 100000 in
set_option maxHeartbeats 4000000 in
theorem t_Gr_bitsIn_B4 {l : Launch} {G : aw_G} {E : aw_E} {σ : aw_S} {v1 : Nat} {v2 : Int32} {v3 : Int32} (h_v1 : xA[v1]? = some (.inr (0, 128, aw_no))) {t : (Int32) ⊕ (Int32 × Int32)} (h : m_Gr_bitsIn_B4 σ v1 v2 v3 = some t) (hz : Sum.elim (z_Gr_bitsIn_Y4 l G E σ v1) (z_Gr_bitsIn_X4 l G E σ v1) t) : aw_W l M_Gr_bitsIn G B_Gr_bitsIn E 4 [(0, .ref 24), (1, .ref v1), (2, .int v2), (3, .int v3)] [] xA σ 0 0 := by
  unfold m_Gr_bitsIn_B4 at h
  refine aw_iload_n (pc := 4) (q := 3) dX3_bitsIn_4 rfl ?_
  refine aw_aload_n (pc := 5) (q := 0) dX3_bitsIn_5 rfl ?_
  refine aw_getI (pc := 6) fd_X3_67.r xA_24 rfl dX3_bitsIn_6 ?_
  refine aw_icmp_ge (pc := 9) (tgt := 27) dX3_bitsIn_9 (by decide) (fun c1 => ?_) (fun c1 => ?_)
  · replace h := aw_ifp c1 h
    refine aw_sub [2] rfl ?_
    cases h
    exact hz
  · replace h := aw_ifn c1 h
    refine aw_iload_n (pc := 12) (q := 2) dX3_bitsIn_12 rfl ?_
    refine aw_aload_n (pc := 13) (q := 1) dX3_bitsIn_13 rfl ?_
    refine aw_iload_n (pc := 14) (q := 3) dX3_bitsIn_14 rfl ?_
    obtain ⟨g2, h⟩ := aw_gde h
    refine aw_iald (pc := 15) h_v1 g2 dX3_bitsIn_15 ?_
    obtain ⟨r3, e4, h⟩ := aw_bde h
    refine aw_cS1 (pc := 16) [.int ((σ.1 v1 v3.toNatClampNeg))] (c_In_bitCount e4) yy_In_bitCount.1 wm_1010 yy_In_bitCount.2 rfl ⟨Nat.le_of_ble_eq_true rfl, Nat.le_of_ble_eq_true rfl⟩ ⟨Nat.zero_le _, Nat.zero_le _⟩ (Nat.le_of_ble_eq_true rfl) dX3_bitsIn_16 ?_
    refine aw_iadd (pc := 19) dX3_bitsIn_19 ?_
    refine aw_nmI (fun x5 e_x5 => ?_)
    replace h := aw_lte h x5 e_x5
    refine aw_istore_n (pc := 20) [(2, .int x5), (0, .ref 24), (1, .ref v1), (3, .int v3)] dX3_bitsIn_20 (by decide) rfl ?_
    obtain ⟨x6, e_x6⟩ : ∃ z, z = (v3 + (1 : Int32)) := ⟨_, rfl⟩
    replace h := aw_lte h x6 e_x6
    refine aw_iinc (pc := 21) (q := 3) (v := x6) [(3, .int x6), (2, .int x5), (0, .ref 24), (1, .ref v1)] dX3_bitsIn_21 rfl e_x6.symm (by decide) rfl ?_
    refine aw_goto (pc := 24) (tgt := 4) dX3_bitsIn_24 (by decide) ?_
    refine aw_sub [2, 3, 1, 0] rfl ?_
    cases h
    exact hz
set_option maxRecDepth 100000 in
set_option maxHeartbeats 4000000 in
theorem t_Gr_bitsIn {l : Launch} {G : aw_G} {E : aw_E} {σ : aw_S} {p1 : Nat} (h_p1 : xA[p1]? = some (.inr (0, 128, aw_no))) {t : Int32} (h : m_Gr_bitsIn σ p1 = some t) (hE : E = (some (.int t), xA, σ)) : aw_W l M_Gr_bitsIn G B_Gr_bitsIn E 0 [(0, .ref 24), (1, .ref p1)] [] xA σ 0 0 := by
  unfold m_Gr_bitsIn at h
  refine aw_iconst (pc := 0) (v := 0) dX3_bitsIn_0 (by decide) ?_
  refine aw_istore_n (pc := 1) [(2, .int ((0 : Int32))), (0, .ref 24), (1, .ref p1)] dX3_bitsIn_1 (by decide) rfl ?_
  refine aw_iconst (pc := 2) (v := 0) dX3_bitsIn_2 (by decide) ?_
  refine aw_istore_n (pc := 3) [(3, .int ((0 : Int32))), (2, .int ((0 : Int32))), (0, .ref 24), (1, .ref p1)] dX3_bitsIn_3 (by decide) rfl ?_
  obtain ⟨x7, hl8, h⟩ := aw_bde h
  have K9 : z_Gr_bitsIn_Y4 l G E σ p1 x7 := by
    show aw_W l M_Gr_bitsIn G B_Gr_bitsIn E 27 [(2, .int x7)] [] xA σ 0 0
    refine aw_iload_n (pc := 27) (q := 0) dX3_bitsIn_27 rfl ?_
    cases h
    subst hE
    exact aw_iret (v := _) rfl aw_ni ⟨Nat.zero_le _, Nat.zero_le _⟩ dX3_bitsIn_28
  refine aw_sub [2, 3, 1, 0] rfl ?_
  show z_Gr_bitsIn_X4 l G E σ p1 (((0 : Int32), (0 : Int32)))
  exact aw_lp_X (Xp := z_Gr_bitsIn_X4 l G E σ p1) (Y := z_Gr_bitsIn_Y4 l G E σ p1) hl8 K9 (fun s t hf hz => t_Gr_bitsIn_B4 h_p1 hf hz)
theorem c_Gr_bitsIn {l : Launch} {G : aw_G} {σ : aw_S} {p1 : Nat} (h_p1 : xA[p1]? = some (.inr (0, 128, aw_no))) {t : Int32} (h : m_Gr_bitsIn σ p1 = some t) : aw_Ct l yX3_bitsIn M_Gr_bitsIn G B_Gr_bitsIn [.ref 24, .ref p1] xA σ (some (.int t), xA, σ) := aw_Ct_of (by decide) rfl (fun h => by cases h) (Nat.le_of_ble_eq_true rfl) (t_Gr_bitsIn h_p1 h rfl)
/-! LateMover.countIn([II)I -/
set_option maxRecDepth 100000 in
set_option maxHeartbeats 4000000 in
theorem t_Mo_countIn {l : Launch} {G : aw_G} {E : aw_E} {σ : aw_S} {p1 : Nat} {p2 : Int32} (h_p1 : xA[p1]? = some (.inr (0, 128, aw_no))) {t : Int32} (h : m_Mo_countIn σ p1 p2 = some t) (hE : E = (some (.int t), xA, σ)) : aw_W l M_Mo_countIn G B_Mo_countIn E 0 [(0, .ref 0), (1, .ref p1), (2, .int p2)] [] xA σ 0 0 := by
  unfold m_Mo_countIn at h
  refine aw_iload_n (pc := 0) (q := 2) dX11_countIn_0 rfl ?_
  refine aw_iconst (pc := 1) (v := -1) dX11_countIn_1 (by decide) ?_
  refine aw_icmp_ne (pc := 2) (tgt := 16) dX11_countIn_2 (by decide) (fun c1 => ?_) (fun c1 => ?_)
  · replace h := aw_ifn c1 h
    refine aw_aload_n (pc := 16) (q := 0) dX11_countIn_16 rfl ?_
    refine aw_getC (pc := 17) fd_X11_36.r xA_0 rfl dX11_countIn_17 ?_
    refine aw_aload_n (pc := 20) (q := 1) dX11_countIn_20 rfl ?_
    refine aw_iconst (pc := 21) (v := 1) dX11_countIn_21 (by decide) ?_
    refine aw_iload_n (pc := 22) (q := 2) dX11_countIn_22 rfl ?_
    refine aw_ishl (pc := 23) dX11_countIn_23 ?_
    obtain ⟨r2, e3, h⟩ := aw_bde h
    refine aw_cV1 (pc := 24) [.ref p1, .int (((1 : Int32) <<< (p2 &&& 31)))] (c_Gr_nodesWith h_p1 e3) yy_Gr_nodesWith.1 wm_942 yy_Gr_nodesWith.2.1 yy_Gr_nodesWith.2.2 xA_24 ⟨_, _, rfl⟩ rfl ⟨Nat.le_of_ble_eq_true rfl, Nat.le_of_ble_eq_true rfl⟩ ⟨Nat.zero_le _, Nat.zero_le _⟩ (Nat.le_of_ble_eq_true rfl) dX11_countIn_24 ?_
    cases h
    subst hE
    exact aw_iret (v := _) rfl aw_ni ⟨Nat.zero_le _, Nat.zero_le _⟩ dX11_countIn_27
  · replace h := aw_ifp c1 h
    refine aw_aload_n (pc := 5) (q := 0) dX11_countIn_5 rfl ?_
    refine aw_getC (pc := 6) fd_X11_36.r xA_0 rfl dX11_countIn_6 ?_
    refine aw_aload_n (pc := 9) (q := 1) dX11_countIn_9 rfl ?_
    obtain ⟨r4, e5, h⟩ := aw_bde h
    refine aw_cV1 (pc := 10) [.ref p1] (c_Gr_bitsIn h_p1 e5) yy_Gr_bitsIn.1 wm_1006 yy_Gr_bitsIn.2.1 yy_Gr_bitsIn.2.2 xA_24 ⟨_, _, rfl⟩ rfl ⟨Nat.le_of_ble_eq_true rfl, Nat.le_of_ble_eq_true rfl⟩ ⟨Nat.zero_le _, Nat.zero_le _⟩ (Nat.le_of_ble_eq_true rfl) dX11_countIn_10 ?_
    refine aw_goto (pc := 13) (tgt := 27) dX11_countIn_13 (by decide) ?_
    cases h
    subst hE
    exact aw_iret (v := _) rfl aw_ni ⟨Nat.zero_le _, Nat.zero_le _⟩ dX11_countIn_27
theorem c_Mo_countIn {l : Launch} {G : aw_G} {σ : aw_S} {p1 : Nat} {p2 : Int32} (h_p1 : xA[p1]? = some (.inr (0, 128, aw_no))) {t : Int32} (h : m_Mo_countIn σ p1 p2 = some t) : aw_Ct l yX11_countIn M_Mo_countIn G B_Mo_countIn [.ref 0, .ref p1, .int p2] xA σ (some (.int t), xA, σ) := aw_Ct_of (by decide) rfl (fun h => by cases h) (Nat.le_of_ble_eq_true rfl) (t_Mo_countIn h_p1 h rfl)
/-! LateMover$Placement.clashingPairs(I)I -/
def z_Pl_clashingPairs_X4 (l : Launch) (G : aw_G) (E : aw_E) (σ : aw_S) (v0 : Nat) (v1 : Int32) (s : Int32 × Int32) : Prop := aw_W l M_Pl_clashingPairs G B_Pl_clashingPairs E 4 [(0, .ref v0), (1, .int v1), (2, .int s.1), (3, .int s.2)] [] xA σ 0 0
def z_Pl_clashingPairs_Y4 (l : Launch) (G : aw_G) (E : aw_E) (σ : aw_S) (v0 : Nat) (v1 : Int32) (x : (Int32)) : Prop := aw_W l M_Pl_clashingPairs G B_Pl_clashingPairs E 33 [(2, .int x)] [] xA σ 0 0
set_option maxRecDepth 100000 in
set_option maxHeartbeats 4000000 in
theorem t_Pl_clashingPairs_B4 {l : Launch} {G : aw_G} {E : aw_E} {σ : aw_S} {v0 : Nat} {v1 : Int32} {v2 : Int32} {v3 : Int32} (h_v0 : isPl v0) {t : (Int32) ⊕ (Int32 × Int32)} (h : m_Pl_clashingPairs_B4 σ v0 v1 v2 v3 = some t) (hz : Sum.elim (z_Pl_clashingPairs_Y4 l G E σ v0 v1) (z_Pl_clashingPairs_X4 l G E σ v0 v1) t) : aw_W l M_Pl_clashingPairs G B_Pl_clashingPairs E 4 [(0, .ref v0), (1, .int v1), (2, .int v2), (3, .int v3)] [] xA σ 0 0 := by
  unfold m_Pl_clashingPairs_B4 at h
  refine aw_iload_n (pc := 4) (q := 3) dX6_clashingPairs_4 rfl ?_
  refine aw_iload_n (pc := 5) (q := 1) dX6_clashingPairs_5 rfl ?_
  refine aw_icmp_ge (pc := 6) (tgt := 33) dX6_clashingPairs_6 (by decide) (fun c1 => ?_) (fun c1 => ?_)
  · replace h := aw_ifp c1 h
    refine aw_sub [2] rfl ?_
    cases h
    exact hz
  · replace h := aw_ifn c1 h
    refine aw_iload_n (pc := 9) (q := 3) dX6_clashingPairs_9 rfl ?_
    refine aw_bipush (pc := 10) (v := 24) dX6_clashingPairs_10 (by decide) ?_
    refine aw_icmp_ge (pc := 12) (tgt := 33) dX6_clashingPairs_12 (by decide) (fun c2 => ?_) (fun c2 => ?_)
    · replace h := aw_ifp c2 h
      refine aw_sub [2] rfl ?_
      cases h
      exact hz
    · replace h := aw_ifn c2 h
      refine aw_iload_n (pc := 15) (q := 2) dX6_clashingPairs_15 rfl ?_
      refine aw_aload_n (pc := 16) (q := 0) dX6_clashingPairs_16 rfl ?_
      refine aw_getC (pc := 17) fd_X6_21.r h_v0.1 rfl dX6_clashingPairs_17 ?_
      refine aw_iload_n (pc := 20) (q := 3) dX6_clashingPairs_20 rfl ?_
      obtain ⟨g3, h⟩ := aw_gde h
      refine aw_iald (pc := 21) h_v0.2.2.2.2.1 g3 dX6_clashingPairs_21 ?_
      obtain ⟨r4, e5, h⟩ := aw_bde h
      refine aw_cS1 (pc := 22) [.int ((σ.1 (v0 + 4) v3.toNatClampNeg))] (c_In_bitCount e5) yy_In_bitCount.1 wm_1021 yy_In_bitCount.2 rfl ⟨Nat.le_of_ble_eq_true rfl, Nat.le_of_ble_eq_true rfl⟩ ⟨Nat.zero_le _, Nat.zero_le _⟩ (Nat.le_of_ble_eq_true rfl) dX6_clashingPairs_22 ?_
      refine aw_iadd (pc := 25) dX6_clashingPairs_25 ?_
      refine aw_nmI (fun x6 e_x6 => ?_)
      replace h := aw_lte h x6 e_x6
      refine aw_istore_n (pc := 26) [(2, .int x6), (0, .ref v0), (1, .int v1), (3, .int v3)] dX6_clashingPairs_26 (by decide) rfl ?_
      obtain ⟨x7, e_x7⟩ : ∃ z, z = (v3 + (1 : Int32)) := ⟨_, rfl⟩
      replace h := aw_lte h x7 e_x7
      refine aw_iinc (pc := 27) (q := 3) (v := x7) [(3, .int x7), (2, .int x6), (0, .ref v0), (1, .int v1)] dX6_clashingPairs_27 rfl e_x7.symm (by decide) rfl ?_
      refine aw_goto (pc := 30) (tgt := 4) dX6_clashingPairs_30 (by decide) ?_
      refine aw_sub [2, 3, 1, 0] rfl ?_
      cases h
      exact hz
set_option maxRecDepth 100000 in
set_option maxHeartbeats 4000000 in
theorem t_Pl_clashingPairs {l : Launch} {G : aw_G} {E : aw_E} {σ : aw_S} {o : Nat} {p1 : Int32} (h_o : isPl o) {t : Int32} (h : m_Pl_clashingPairs σ o p1 = some t) (hE : E = (some (.int t), xA, σ)) : aw_W l M_Pl_clashingPairs G B_Pl_clashingPairs E 0 [(0, .ref o), (1, .int p1)] [] xA σ 0 0 := by
  unfold m_Pl_clashingPairs at h
  refine aw_iconst (pc := 0) (v := 0) dX6_clashingPairs_0 (by decide) ?_
  refine aw_istore_n (pc := 1) [(2, .int ((0 : Int32))), (0, .ref o), (1, .int p1)] dX6_clashingPairs_1 (by decide) rfl ?_
  refine aw_iconst (pc := 2) (v := 0) dX6_clashingPairs_2 (by decide) ?_
  refine aw_istore_n (pc := 3) [(3, .int ((0 : Int32))), (2, .int ((0 : Int32))), (0, .ref o), (1, .int p1)] dX6_clashingPairs_3 (by decide) rfl ?_
  obtain ⟨x8, hl9, h⟩ := aw_bde h
  have K10 : z_Pl_clashingPairs_Y4 l G E σ o p1 x8 := by
    show aw_W l M_Pl_clashingPairs G B_Pl_clashingPairs E 33 [(2, .int x8)] [] xA σ 0 0
    refine aw_iload_n (pc := 33) (q := 0) dX6_clashingPairs_33 rfl ?_
    refine aw_iconst (pc := 34) (v := 2) dX6_clashingPairs_34 (by decide) ?_
    refine aw_idiv (pc := 35) dX6_clashingPairs_35 (by decide) ?_
    cases h
    subst hE
    exact aw_iret (v := (x8 / (2 : Int32))) rfl aw_ni ⟨Nat.zero_le _, Nat.zero_le _⟩ dX6_clashingPairs_36
  refine aw_sub [2, 3, 1, 0] rfl ?_
  show z_Pl_clashingPairs_X4 l G E σ o p1 (((0 : Int32), (0 : Int32)))
  exact aw_lp_X (Xp := z_Pl_clashingPairs_X4 l G E σ o p1) (Y := z_Pl_clashingPairs_Y4 l G E σ o p1) hl9 K10 (fun s t hf hz => t_Pl_clashingPairs_B4 h_o hf hz)
theorem c_Pl_clashingPairs {l : Launch} {G : aw_G} {σ : aw_S} {o : Nat} {p1 : Int32} (h_o : isPl o) {t : Int32} (h : m_Pl_clashingPairs σ o p1 = some t) : aw_Ct l yX6_clashingPairs M_Pl_clashingPairs G B_Pl_clashingPairs [.ref o, .int p1] xA σ (some (.int t), xA, σ) := aw_Ct_of (by decide) rfl (fun h => by cases h) (Nat.le_of_ble_eq_true rfl) (t_Pl_clashingPairs h_o h rfl)
/-! LateMover.placement(III)I -/
set_option maxRecDepth 100000 in
set_option maxHeartbeats 4000000 in
theorem t_Mo_placement_J29 {l : Launch} {G : aw_G} {E : aw_E} {σ : aw_S} {v1 : Int32} {v2 : Int32} {v3 : Int32} {t : Int32} (h : m_Mo_placement_J29 σ v1 v2 v3 = some t) (hE : E = (some (.int t), xA, σ)) : aw_W l M_Mo_placement G B_Mo_placement E 29 [(0, .ref 0), (1, .int v1), (2, .int v2), (3, .int v3)] [] xA σ 0 0 := by
  unfold m_Mo_placement_J29 at h
  refine aw_aload_n (pc := 29) (q := 0) dX11_placement_29 rfl ?_
  refine aw_iload_n (pc := 30) (q := 2) dX11_placement_30 rfl ?_
  obtain ⟨r5, e6, h⟩ := aw_bde h
  refine aw_cV1 (pc := 31) [.int v2] (c_Mo_placementBy e6) yy_Mo_placementBy.1 wm_986 yy_Mo_placementBy.2.1 yy_Mo_placementBy.2.2 xA_0 ⟨_, _, rfl⟩ rfl ⟨Nat.le_of_ble_eq_true rfl, Nat.le_of_ble_eq_true rfl⟩ ⟨Nat.zero_le _, Nat.zero_le _⟩ (Nat.le_of_ble_eq_true rfl) dX11_placement_31 ?_
  have h_r5 : isPl r5 := aw_plBy_ok e6
  refine aw_astore (pc := 34) [(4, .ref r5), (0, .ref 0), (1, .int v1), (2, .int v2), (3, .int v3)] dX11_placement_34 (by decide) rfl ?_
  refine aw_iload_n (pc := 36) (q := 4) dX11_placement_36 rfl ?_
  by_cases c7 : v3 = (0 : Int32)
  · replace h := aw_ifp c7 h
    refine aw_tableIn (pc := 37) (tgt := 68) dX11_placement_37 0 (by rw [c7]; decide) (by decide) rfl (by decide) ?_
    refine aw_aload_n (pc := 68) (q := 1) dX11_placement_68 rfl ?_
    refine aw_aload (pc := 69) (q := 0) dX11_placement_69 rfl ?_
    refine aw_getC (pc := 71) fd_X11_271 h_r5.1 rfl dX11_placement_71 ?_
    refine aw_iload_n (pc := 74) (q := 2) dX11_placement_74 rfl ?_
    obtain ⟨r8, e9, h⟩ := aw_bde h
    refine aw_cV1 (pc := 75) [.ref (r5 + 1), .int v1] (c_Mo_countIn h_r5.2.1 e9) yy_Mo_countIn.1 wm_1002 yy_Mo_countIn.2.1 yy_Mo_countIn.2.2 xA_0 ⟨_, _, rfl⟩ rfl ⟨Nat.le_of_ble_eq_true rfl, Nat.le_of_ble_eq_true rfl⟩ ⟨Nat.zero_le _, Nat.zero_le _⟩ (Nat.le_of_ble_eq_true rfl) dX11_placement_75 ?_
    cases h
    subst hE
    exact aw_iret (v := _) rfl aw_ni ⟨Nat.zero_le _, Nat.zero_le _⟩ dX11_placement_78
  · replace h := aw_ifn c7 h
    by_cases c10 : v3 = (1 : Int32)
    · replace h := aw_ifp c10 h
      refine aw_tableIn (pc := 37) (tgt := 79) dX11_placement_37 1 (by rw [c10]; decide) (by decide) rfl (by decide) ?_
      refine aw_aload_n (pc := 79) (q := 1) dX11_placement_79 rfl ?_
      refine aw_aload (pc := 80) (q := 0) dX11_placement_80 rfl ?_
      refine aw_getC (pc := 82) fd_X11_274 h_r5.1 rfl dX11_placement_82 ?_
      refine aw_iload_n (pc := 85) (q := 2) dX11_placement_85 rfl ?_
      obtain ⟨r11, e12, h⟩ := aw_bde h
      refine aw_cV1 (pc := 86) [.ref (r5 + 2), .int v1] (c_Mo_countIn h_r5.2.2.1 e12) yy_Mo_countIn.1 wm_1002 yy_Mo_countIn.2.1 yy_Mo_countIn.2.2 xA_0 ⟨_, _, rfl⟩ rfl ⟨Nat.le_of_ble_eq_true rfl, Nat.le_of_ble_eq_true rfl⟩ ⟨Nat.zero_le _, Nat.zero_le _⟩ (Nat.le_of_ble_eq_true rfl) dX11_placement_86 ?_
      cases h
      subst hE
      exact aw_iret (v := _) rfl aw_ni ⟨Nat.zero_le _, Nat.zero_le _⟩ dX11_placement_89
    · replace h := aw_ifn c10 h
      by_cases c13 : v3 = (2 : Int32)
      · replace h := aw_ifp c13 h
        refine aw_tableIn (pc := 37) (tgt := 90) dX11_placement_37 2 (by rw [c13]; decide) (by decide) rfl (by decide) ?_
        refine aw_aload_n (pc := 90) (q := 1) dX11_placement_90 rfl ?_
        refine aw_aload (pc := 91) (q := 0) dX11_placement_91 rfl ?_
        refine aw_getC (pc := 93) fd_X11_277 h_r5.1 rfl dX11_placement_93 ?_
        refine aw_iload_n (pc := 96) (q := 2) dX11_placement_96 rfl ?_
        obtain ⟨r14, e15, h⟩ := aw_bde h
        refine aw_cV1 (pc := 97) [.ref (r5 + 3), .int v1] (c_Mo_countIn h_r5.2.2.2.1 e15) yy_Mo_countIn.1 wm_1002 yy_Mo_countIn.2.1 yy_Mo_countIn.2.2 xA_0 ⟨_, _, rfl⟩ rfl ⟨Nat.le_of_ble_eq_true rfl, Nat.le_of_ble_eq_true rfl⟩ ⟨Nat.zero_le _, Nat.zero_le _⟩ (Nat.le_of_ble_eq_true rfl) dX11_placement_97 ?_
        cases h
        subst hE
        exact aw_iret (v := _) rfl aw_ni ⟨Nat.zero_le _, Nat.zero_le _⟩ dX11_placement_100
      · replace h := aw_ifn c13 h
        by_cases c16 : v3 = (3 : Int32)
        · replace h := aw_ifp c16 h
          refine aw_tableIn (pc := 37) (tgt := 101) dX11_placement_37 3 (by rw [c16]; decide) (by decide) rfl (by decide) ?_
          refine aw_iload_n (pc := 101) (q := 2) dX11_placement_101 rfl ?_
          refine aw_iconst (pc := 102) (v := -1) dX11_placement_102 (by decide) ?_
          refine aw_icmp_ne (pc := 103) (tgt := 124) dX11_placement_103 (by decide) (fun c17 => ?_) (fun c17 => ?_)
          · replace h := aw_ifn c17 h
            refine aw_aload (pc := 124) (q := 0) dX11_placement_124 rfl ?_
            refine aw_getC (pc := 126) fd_X11_286 h_r5.1 rfl dX11_placement_126 ?_
            refine aw_iload_n (pc := 129) (q := 2) dX11_placement_129 rfl ?_
            obtain ⟨g18, h⟩ := aw_gde h
            refine aw_iald (pc := 130) h_r5.2.2.2.2.1 g18 dX11_placement_130 ?_
            obtain ⟨r19, e20, h⟩ := aw_bde h
            refine aw_cS1 (pc := 131) [.int ((σ.1 (r5 + 4) v1.toNatClampNeg))] (c_In_bitCount e20) yy_In_bitCount.1 wm_1022 yy_In_bitCount.2 rfl ⟨Nat.le_of_ble_eq_true rfl, Nat.le_of_ble_eq_true rfl⟩ ⟨Nat.zero_le _, Nat.zero_le _⟩ (Nat.le_of_ble_eq_true rfl) dX11_placement_131 ?_
            cases h
            subst hE
            exact aw_iret (v := _) rfl aw_ni ⟨Nat.zero_le _, Nat.zero_le _⟩ dX11_placement_134
          · replace h := aw_ifp c17 h
            refine aw_aload (pc := 106) (q := 0) dX11_placement_106 rfl ?_
            refine aw_aload_n (pc := 108) (q := 1) dX11_placement_108 rfl ?_
            refine aw_getC (pc := 109) fd_X11_36.r xA_0 rfl dX11_placement_109 ?_
            refine aw_getC (pc := 112) fd_X11_175 xA_24 rfl dX11_placement_112 ?_
            refine aw_getI (pc := 115) fd_X11_179.r xA_25 rfl dX11_placement_115 ?_
            obtain ⟨r21, e22, h⟩ := aw_bde h
            refine aw_cV1 (pc := 118) [.int ((σ.1 25 3))] (c_Pl_clashingPairs h_r5 e22) yy_Pl_clashingPairs.1 wm_1017 yy_Pl_clashingPairs.2.1 yy_Pl_clashingPairs.2.2 h_r5.1 ⟨_, _, rfl⟩ rfl ⟨Nat.le_of_ble_eq_true rfl, Nat.le_of_ble_eq_true rfl⟩ ⟨Nat.zero_le _, Nat.zero_le _⟩ (Nat.le_of_ble_eq_true rfl) dX11_placement_118 ?_
            refine aw_goto (pc := 121) (tgt := 134) dX11_placement_121 (by decide) ?_
            cases h
            subst hE
            exact aw_iret (v := _) rfl aw_ni ⟨Nat.zero_le _, Nat.zero_le _⟩ dX11_placement_134
        · replace h := aw_ifn c16 h
          refine aw_tableOut (pc := 37) (tgt := 135) dX11_placement_37 (aw_tout 0 3 (fun k h1 h2 => by
            have hk : k = 0 ∨ k = 1 ∨ k = 2 ∨ k = 3 := by omega
            rcases hk with rfl | rfl | rfl | rfl
            · exact fun e => c7 (e.trans (by decide))
            · exact fun e => c10 (e.trans (by decide))
            · exact fun e => c13 (e.trans (by decide))
            · exact fun e => c16 (e.trans (by decide)))) (by decide) ?_
          refine aw_iconst (pc := 135) (v := -1) dX11_placement_135 (by decide) ?_
          cases h
          subst hE
          exact aw_iret (v := (-1 : Int32)) rfl aw_ni ⟨Nat.zero_le _, Nat.zero_le _⟩ dX11_placement_136
set_option maxRecDepth 100000 in
set_option maxHeartbeats 4000000 in
theorem t_Mo_placement {l : Launch} {G : aw_G} {E : aw_E} {σ : aw_S} {p1 : Int32} {p2 : Int32} {p3 : Int32} {t : Int32} (h : m_Mo_placement σ p1 p2 p3 = some t) (hE : E = (some (.int t), xA, σ)) : aw_W l M_Mo_placement G B_Mo_placement E 0 [(0, .ref 0), (1, .int p1), (2, .int p2), (3, .int p3)] [] xA σ 0 0 := by
  unfold m_Mo_placement at h
  refine aw_aload_n (pc := 0) (q := 0) dX11_placement_0 rfl ?_
  refine aw_iload_n (pc := 1) (q := 2) dX11_placement_1 rfl ?_
  obtain ⟨r1, e2, h⟩ := aw_bde h
  refine aw_cV1 (pc := 2) [.int p2] (c_Mo_isMoved e2) yy_Mo_isMoved.1 wm_982 yy_Mo_isMoved.2.1 yy_Mo_isMoved.2.2 xA_0 ⟨_, _, rfl⟩ rfl ⟨Nat.le_of_ble_eq_true rfl, Nat.le_of_ble_eq_true rfl⟩ ⟨Nat.zero_le _, Nat.zero_le _⟩ (Nat.le_of_ble_eq_true rfl) dX11_placement_2 ?_
  refine aw_if_eq (pc := 5) (tgt := 27) dX11_placement_5 (by decide) (fun c3 => ?_) (fun c3 => ?_)
  · replace h := aw_ifp c3 h
    refine aw_iconst (pc := 27) (v := -1) dX11_placement_27 (by decide) ?_
    cases h
    subst hE
    exact aw_iret (v := (-1 : Int32)) rfl aw_ni ⟨Nat.zero_le _, Nat.zero_le _⟩ dX11_placement_28
  · replace h := aw_ifn c3 h
    refine aw_iload_n (pc := 8) (q := 1) dX11_placement_8 rfl ?_
    refine aw_iconst (pc := 9) (v := -1) dX11_placement_9 (by decide) ?_
    refine aw_icmp_eq (pc := 10) (tgt := 29) dX11_placement_10 (by decide) (fun c4 => ?_) (fun c4 => ?_)
    · replace h := aw_ifp c4 h
      exact t_Mo_placement_J29 h hE
    · replace h := aw_ifn c4 h
      refine aw_aload_n (pc := 13) (q := 0) dX11_placement_13 rfl ?_
      refine aw_getC (pc := 14) fd_X11_36.r xA_0 rfl dX11_placement_14 ?_
      refine aw_getC (pc := 17) fd_X11_175 xA_24 rfl dX11_placement_17 ?_
      refine aw_iload_n (pc := 20) (q := 1) dX11_placement_20 rfl ?_
      obtain ⟨r23, e24, h⟩ := aw_bde h
      refine aw_cV1 (pc := 21) [.int p1] (c_Ex_isOne isEx_25 e24) yy_Ex_isOne.1 wm_940 yy_Ex_isOne.2.1 yy_Ex_isOne.2.2 xA_25 ⟨_, _, rfl⟩ rfl ⟨Nat.le_of_ble_eq_true rfl, Nat.le_of_ble_eq_true rfl⟩ ⟨Nat.zero_le _, Nat.zero_le _⟩ (Nat.le_of_ble_eq_true rfl) dX11_placement_21 ?_
      refine aw_if_ne (pc := 24) (tgt := 29) dX11_placement_24 (by decide) (fun c25 => ?_) (fun c25 => ?_)
      · replace h := aw_ifn c25 h
        exact t_Mo_placement_J29 h hE
      · replace h := aw_ifp c25 h
        refine aw_iconst (pc := 27) (v := -1) dX11_placement_27 (by decide) ?_
        cases h
        subst hE
        exact aw_iret (v := (-1 : Int32)) rfl aw_ni ⟨Nat.zero_le _, Nat.zero_le _⟩ dX11_placement_28
theorem c_Mo_placement {l : Launch} {G : aw_G} {σ : aw_S} {p1 : Int32} {p2 : Int32} {p3 : Int32} {t : Int32} (h : m_Mo_placement σ p1 p2 p3 = some t) : aw_Ct l yX11_placement M_Mo_placement G B_Mo_placement [.ref 0, .int p1, .int p2, .int p3] xA σ (some (.int t), xA, σ) := aw_Ct_of (by decide) rfl (fun h => by cases h) (Nat.le_of_ble_eq_true rfl) (t_Mo_placement h rfl)
/-! LateMover.shared(II)I -/
set_option maxRecDepth 100000 in
set_option maxHeartbeats 4000000 in
theorem t_Mo_shared {l : Launch} {G : aw_G} {E : aw_E} {σ : aw_S} {p1 : Int32} {p2 : Int32} {t : Int32} (h : m_Mo_shared σ p1 p2 = some t) (hE : E = (some (.int t), xA, σ)) : aw_W l M_Mo_shared G B_Mo_shared E 0 [(0, .ref 0), (1, .int p1), (2, .int p2)] [] xA σ 0 0 := by
  unfold m_Mo_shared at h
  refine aw_aload_n (pc := 0) (q := 0) dX11_shared_0 rfl ?_
  refine aw_iload_n (pc := 1) (q := 2) dX11_shared_1 rfl ?_
  obtain ⟨r1, e2, h⟩ := aw_bde h
  refine aw_cV1 (pc := 2) [.int p2] (c_Mo_isMoved e2) yy_Mo_isMoved.1 wm_982 yy_Mo_isMoved.2.1 yy_Mo_isMoved.2.2 xA_0 ⟨_, _, rfl⟩ rfl ⟨Nat.le_of_ble_eq_true rfl, Nat.le_of_ble_eq_true rfl⟩ ⟨Nat.zero_le _, Nat.zero_le _⟩ (Nat.le_of_ble_eq_true rfl) dX11_shared_2 ?_
  refine aw_if_ne (pc := 5) (tgt := 10) dX11_shared_5 (by decide) (fun c3 => ?_) (fun c3 => ?_)
  · replace h := aw_ifn c3 h
    refine aw_aload_n (pc := 10) (q := 0) dX11_shared_10 rfl ?_
    refine aw_iload_n (pc := 11) (q := 2) dX11_shared_11 rfl ?_
    obtain ⟨r4, e5, h⟩ := aw_bde h
    refine aw_cV1 (pc := 12) [.int p2] (c_Mo_placementBy e5) yy_Mo_placementBy.1 wm_986 yy_Mo_placementBy.2.1 yy_Mo_placementBy.2.2 xA_0 ⟨_, _, rfl⟩ rfl ⟨Nat.le_of_ble_eq_true rfl, Nat.le_of_ble_eq_true rfl⟩ ⟨Nat.zero_le _, Nat.zero_le _⟩ (Nat.le_of_ble_eq_true rfl) dX11_shared_12 ?_
    have h_r4 : isPl r4 := aw_plBy_ok e5
    refine aw_astore_n (pc := 15) [(3, .ref r4), (0, .ref 0), (1, .int p1), (2, .int p2)] dX11_shared_15 (by decide) rfl ?_
    refine aw_iload_n (pc := 16) (q := 2) dX11_shared_16 rfl ?_
    refine aw_iconst (pc := 17) (v := -1) dX11_shared_17 (by decide) ?_
    refine aw_icmp_ne (pc := 18) (tgt := 26) dX11_shared_18 (by decide) (fun c6 => ?_) (fun c6 => ?_)
    · replace h := aw_ifn c6 h
      refine aw_aload_n (pc := 26) (q := 1) dX11_shared_26 rfl ?_
      refine aw_getC (pc := 27) fd_X11_36.r xA_0 rfl dX11_shared_27 ?_
      refine aw_getC (pc := 30) fd_X11_175 xA_24 rfl dX11_shared_30 ?_
      refine aw_iload_n (pc := 33) (q := 2) dX11_shared_33 rfl ?_
      obtain ⟨r7, e8, h⟩ := aw_bde h
      refine aw_cV1 (pc := 34) [.int p1] (c_Ex_isOne isEx_25 e8) yy_Ex_isOne.1 wm_940 yy_Ex_isOne.2.1 yy_Ex_isOne.2.2 xA_25 ⟨_, _, rfl⟩ rfl ⟨Nat.le_of_ble_eq_true rfl, Nat.le_of_ble_eq_true rfl⟩ ⟨Nat.zero_le _, Nat.zero_le _⟩ (Nat.le_of_ble_eq_true rfl) dX11_shared_34 ?_
      refine aw_if_eq (pc := 37) (tgt := 49) dX11_shared_37 (by decide) (fun c9 => ?_) (fun c9 => ?_)
      · replace h := aw_ifp c9 h
        refine aw_iconst (pc := 49) (v := -1) dX11_shared_49 (by decide) ?_
        cases h
        subst hE
        exact aw_iret (v := (-1 : Int32)) rfl aw_ni ⟨Nat.zero_le _, Nat.zero_le _⟩ dX11_shared_50
      · replace h := aw_ifn c9 h
        refine aw_aload_n (pc := 40) (q := 0) dX11_shared_40 rfl ?_
        refine aw_getC (pc := 41) fd_X11_301 h_r4.1 rfl dX11_shared_41 ?_
        refine aw_iload_n (pc := 44) (q := 2) dX11_shared_44 rfl ?_
        obtain ⟨g10, h⟩ := aw_gde h
        refine aw_iald (pc := 45) h_r4.2.2.2.2.2 g10 dX11_shared_45 ?_
        refine aw_goto (pc := 46) (tgt := 50) dX11_shared_46 (by decide) ?_
        cases h
        subst hE
        exact aw_iret (v := (σ.1 (r4 + 5) p1.toNatClampNeg)) rfl aw_ni ⟨Nat.zero_le _, Nat.zero_le _⟩ dX11_shared_50
    · replace h := aw_ifp c6 h
      refine aw_aload_n (pc := 21) (q := 0) dX11_shared_21 rfl ?_
      refine aw_getI (pc := 22) fd_X11_298.r h_r4.1 rfl dX11_shared_22 ?_
      cases h
      subst hE
      exact aw_iret (v := (σ.1 r4 5)) rfl aw_ni ⟨Nat.zero_le _, Nat.zero_le _⟩ dX11_shared_25
  · replace h := aw_ifp c3 h
    refine aw_iconst (pc := 8) (v := -1) dX11_shared_8 (by decide) ?_
    cases h
    subst hE
    exact aw_iret (v := (-1 : Int32)) rfl aw_ni ⟨Nat.zero_le _, Nat.zero_le _⟩ dX11_shared_9
theorem c_Mo_shared {l : Launch} {G : aw_G} {σ : aw_S} {p1 : Int32} {p2 : Int32} {t : Int32} (h : m_Mo_shared σ p1 p2 = some t) : aw_Ct l yX11_shared M_Mo_shared G B_Mo_shared [.ref 0, .int p1, .int p2] xA σ (some (.int t), xA, σ) := aw_Ct_of (by decide) rfl (fun h => by cases h) (Nat.le_of_ble_eq_true rfl) (t_Mo_shared h rfl)
/-! LateMover.most(I)I -/
def z_Mo_most_X21 (l : Launch) (G : aw_G) (E : aw_E) (σ : aw_S) (v2 : Nat) (s : Int32 × Int32) : Prop := aw_W l M_Mo_most G B_Mo_most E 21 [(0, .ref 0), (2, .ref v2), (3, .int s.1), (4, .int s.2)] [] xA σ 0 0
def z_Mo_most_Y21 (l : Launch) (G : aw_G) (E : aw_E) (σ : aw_S) (v2 : Nat) (x : (Int32)) : Prop := aw_W l M_Mo_most G B_Mo_most E 54 [(3, .int x)] [] xA σ 0 0
set_option maxRecDepth 100000 in
set_option maxHeartbeats 4000000 in
theorem t_Mo_most_B21 {l : Launch} {G : aw_G} {E : aw_E} {σ : aw_S} {v2 : Nat} {v3 : Int32} {v4 : Int32} (h_v2 : isPl v2) {t : (Int32) ⊕ (Int32 × Int32)} (h : m_Mo_most_B21 σ v2 v3 v4 = some t) (hz : Sum.elim (z_Mo_most_Y21 l G E σ v2) (z_Mo_most_X21 l G E σ v2) t) : aw_W l M_Mo_most G B_Mo_most E 21 [(0, .ref 0), (2, .ref v2), (3, .int v3), (4, .int v4)] [] xA σ 0 0 := by
  unfold m_Mo_most_B21 at h
  refine aw_iload (pc := 21) (q := 3) dX11_most_21 rfl ?_
  refine aw_aload_n (pc := 23) (q := 0) dX11_most_23 rfl ?_
  refine aw_getC (pc := 24) fd_X11_36.r xA_0 rfl dX11_most_24 ?_
  refine aw_getI (pc := 27) fd_X11_120.r xA_24 rfl dX11_most_27 ?_
  refine aw_icmp_ge (pc := 30) (tgt := 54) dX11_most_30 (by decide) (fun c6 => ?_) (fun c6 => ?_)
  · replace h := aw_ifp c6 h
    refine aw_sub [2] rfl ?_
    cases h
    exact hz
  · replace h := aw_ifn c6 h
    refine aw_iload_n (pc := 33) (q := 2) dX11_most_33 rfl ?_
    refine aw_aload_n (pc := 34) (q := 1) dX11_most_34 rfl ?_
    refine aw_getC (pc := 35) fd_X11_277 h_v2.1 rfl dX11_most_35 ?_
    refine aw_iload (pc := 38) (q := 3) dX11_most_38 rfl ?_
    obtain ⟨g7, h⟩ := aw_gde h
    refine aw_iald (pc := 40) h_v2.2.2.2.1 g7 dX11_most_40 ?_
    obtain ⟨r8, e9, h⟩ := aw_bde h
    refine aw_cS1 (pc := 41) [.int ((σ.1 (v2 + 3) v4.toNatClampNeg))] (c_In_bitCount e9) yy_In_bitCount.1 wm_1022 yy_In_bitCount.2 rfl ⟨Nat.le_of_ble_eq_true rfl, Nat.le_of_ble_eq_true rfl⟩ ⟨Nat.zero_le _, Nat.zero_le _⟩ (Nat.le_of_ble_eq_true rfl) dX11_most_41 ?_
    refine aw_mmax (pc := 44) wm_1057 ⟨Nat.le_of_ble_eq_true rfl, Nat.le_of_ble_eq_true rfl⟩ ⟨Nat.zero_le _, Nat.zero_le _⟩ (Nat.le_of_ble_eq_true rfl) dX11_most_44 ?_
    refine aw_nmI (fun x10 e_x10 => ?_)
    replace h := aw_lte h x10 e_x10
    refine aw_istore_n (pc := 47) [(3, .int x10), (0, .ref 0), (2, .ref v2), (4, .int v4)] dX11_most_47 (by decide) rfl ?_
    obtain ⟨x11, e_x11⟩ : ∃ z, z = (v4 + (1 : Int32)) := ⟨_, rfl⟩
    replace h := aw_lte h x11 e_x11
    refine aw_iinc (pc := 48) (q := 3) (v := x11) [(4, .int x11), (3, .int x10), (0, .ref 0), (2, .ref v2)] dX11_most_48 rfl e_x11.symm (by decide) rfl ?_
    refine aw_goto (pc := 51) (tgt := 21) dX11_most_51 (by decide) ?_
    refine aw_sub [2, 3, 1, 0] rfl ?_
    cases h
    exact hz
set_option maxRecDepth 100000 in
set_option maxHeartbeats 4000000 in
theorem t_Mo_most {l : Launch} {G : aw_G} {E : aw_E} {σ : aw_S} {p1 : Int32} {t : Int32} (h : m_Mo_most σ p1 = some t) (hE : E = (some (.int t), xA, σ)) : aw_W l M_Mo_most G B_Mo_most E 0 [(0, .ref 0), (1, .int p1)] [] xA σ 0 0 := by
  unfold m_Mo_most at h
  refine aw_aload_n (pc := 0) (q := 0) dX11_most_0 rfl ?_
  refine aw_iload_n (pc := 1) (q := 1) dX11_most_1 rfl ?_
  obtain ⟨r1, e2, h⟩ := aw_bde h
  refine aw_cV1 (pc := 2) [.int p1] (c_Mo_isMoved e2) yy_Mo_isMoved.1 wm_982 yy_Mo_isMoved.2.1 yy_Mo_isMoved.2.2 xA_0 ⟨_, _, rfl⟩ rfl ⟨Nat.le_of_ble_eq_true rfl, Nat.le_of_ble_eq_true rfl⟩ ⟨Nat.zero_le _, Nat.zero_le _⟩ (Nat.le_of_ble_eq_true rfl) dX11_most_2 ?_
  refine aw_if_ne (pc := 5) (tgt := 10) dX11_most_5 (by decide) (fun c3 => ?_) (fun c3 => ?_)
  · replace h := aw_ifn c3 h
    refine aw_aload_n (pc := 10) (q := 0) dX11_most_10 rfl ?_
    refine aw_iload_n (pc := 11) (q := 1) dX11_most_11 rfl ?_
    obtain ⟨r4, e5, h⟩ := aw_bde h
    refine aw_cV1 (pc := 12) [.int p1] (c_Mo_placementBy e5) yy_Mo_placementBy.1 wm_986 yy_Mo_placementBy.2.1 yy_Mo_placementBy.2.2 xA_0 ⟨_, _, rfl⟩ rfl ⟨Nat.le_of_ble_eq_true rfl, Nat.le_of_ble_eq_true rfl⟩ ⟨Nat.zero_le _, Nat.zero_le _⟩ (Nat.le_of_ble_eq_true rfl) dX11_most_12 ?_
    have h_r4 : isPl r4 := aw_plBy_ok e5
    refine aw_astore_n (pc := 15) [(2, .ref r4), (0, .ref 0), (1, .int p1)] dX11_most_15 (by decide) rfl ?_
    refine aw_iconst (pc := 16) (v := 0) dX11_most_16 (by decide) ?_
    refine aw_istore_n (pc := 17) [(3, .int ((0 : Int32))), (2, .ref r4), (0, .ref 0), (1, .int p1)] dX11_most_17 (by decide) rfl ?_
    refine aw_iconst (pc := 18) (v := 0) dX11_most_18 (by decide) ?_
    refine aw_istore (pc := 19) [(4, .int ((0 : Int32))), (3, .int ((0 : Int32))), (2, .ref r4), (0, .ref 0), (1, .int p1)] dX11_most_19 (by decide) rfl ?_
    obtain ⟨x12, hl13, h⟩ := aw_bde h
    have K14 : z_Mo_most_Y21 l G E σ r4 x12 := by
      show aw_W l M_Mo_most G B_Mo_most E 54 [(3, .int x12)] [] xA σ 0 0
      refine aw_iload_n (pc := 54) (q := 0) dX11_most_54 rfl ?_
      cases h
      subst hE
      exact aw_iret (v := _) rfl aw_ni ⟨Nat.zero_le _, Nat.zero_le _⟩ dX11_most_55
    refine aw_sub [3, 2, 1, 0] rfl ?_
    show z_Mo_most_X21 l G E σ r4 (((0 : Int32), (0 : Int32)))
    exact aw_lp_X (Xp := z_Mo_most_X21 l G E σ r4) (Y := z_Mo_most_Y21 l G E σ r4) hl13 K14 (fun s t hf hz => t_Mo_most_B21 h_r4 hf hz)
  · replace h := aw_ifp c3 h
    refine aw_iconst (pc := 8) (v := -1) dX11_most_8 (by decide) ?_
    cases h
    subst hE
    exact aw_iret (v := (-1 : Int32)) rfl aw_ni ⟨Nat.zero_le _, Nat.zero_le _⟩ dX11_most_9
theorem c_Mo_most {l : Launch} {G : aw_G} {σ : aw_S} {p1 : Int32} {t : Int32} (h : m_Mo_most σ p1 = some t) : aw_Ct l yX11_most M_Mo_most G B_Mo_most [.ref 0, .int p1] xA σ (some (.int t), xA, σ) := aw_Ct_of (by decide) rfl (fun h => by cases h) (Nat.le_of_ble_eq_true rfl) (t_Mo_most h rfl)
/-! LateMover.letter(II)I -/
set_option maxRecDepth 100000 in
set_option maxHeartbeats 4000000 in
theorem t_Mo_letter {l : Launch} {G : aw_G} {E : aw_E} {σ : aw_S} {p1 : Int32} {p2 : Int32} {t : (Int32 × aw_S)} (h : m_Mo_letter σ p1 p2 = some t) (hE : E = (some (.int t.1), xA, t.2)) : aw_W l M_Mo_letter G B_Mo_letter E 0 [(0, .ref 0), (1, .int p1), (2, .int p2)] [] xA σ 0 0 := by
  unfold m_Mo_letter at h
  refine aw_iload_n (pc := 0) (q := 1) dX11_letter_0 rfl ?_
  refine aw_if_lt (pc := 1) (tgt := 10) dX11_letter_1 (by decide) (fun c1 => ?_) (fun c1 => ?_)
  · replace h := aw_ifp c1 h
    refine aw_iconst (pc := 10) (v := 0) dX11_letter_10 (by decide) ?_
    cases h
    subst hE
    exact aw_iret (v := (0 : Int32)) rfl aw_ni ⟨Nat.zero_le _, Nat.zero_le _⟩ dX11_letter_11
  · replace h := aw_ifn c1 h
    refine aw_iload_n (pc := 4) (q := 1) dX11_letter_4 rfl ?_
    refine aw_bipush (pc := 5) (v := 26) dX11_letter_5 (by decide) ?_
    refine aw_icmp_lt (pc := 7) (tgt := 12) dX11_letter_7 (by decide) (fun c2 => ?_) (fun c2 => ?_)
    · replace h := aw_ifp c2 h
      refine aw_aload_n (pc := 12) (q := 0) dX11_letter_12 rfl ?_
      refine aw_getC (pc := 13) fd_X11_67.r xA_0 rfl dX11_letter_13 ?_
      refine aw_iload_n (pc := 16) (q := 1) dX11_letter_16 rfl ?_
      obtain ⟨g3, h⟩ := aw_gde h
      refine aw_iald (pc := 17) xA_81 g3 dX11_letter_17 ?_
      refine aw_nmI (fun x4 e_x4 => ?_)
      replace h := aw_lte h x4 e_x4
      refine aw_istore_n (pc := 18) [(3, .int x4), (0, .ref 0), (1, .int p1), (2, .int p2)] dX11_letter_18 (by decide) rfl ?_
      refine aw_aload_n (pc := 19) (q := 1) dX11_letter_19 rfl ?_
      refine aw_getC (pc := 20) fd_X11_67.r xA_0 rfl dX11_letter_20 ?_
      refine aw_iload_n (pc := 23) (q := 2) dX11_letter_23 rfl ?_
      refine aw_iload_n (pc := 24) (q := 3) dX11_letter_24 rfl ?_
      obtain ⟨g5, h⟩ := aw_gde h
      refine aw_iast (pc := 25) xA_81 g5 dX11_letter_25 ?_
      refine aw_nmS (fun s6 e_s6 => ?_)
      replace h := aw_lte h s6 e_s6
      refine aw_iload_n (pc := 26) (q := 0) dX11_letter_26 rfl ?_
      cases h
      subst hE
      exact aw_iret (v := _) rfl aw_ni ⟨Nat.zero_le _, Nat.zero_le _⟩ dX11_letter_27
    · replace h := aw_ifn c2 h
      refine aw_iconst (pc := 10) (v := 0) dX11_letter_10 (by decide) ?_
      cases h
      subst hE
      exact aw_iret (v := (0 : Int32)) rfl aw_ni ⟨Nat.zero_le _, Nat.zero_le _⟩ dX11_letter_11
theorem c_Mo_letter {l : Launch} {G : aw_G} {σ : aw_S} {p1 : Int32} {p2 : Int32} {t : (Int32 × aw_S)} (h : m_Mo_letter σ p1 p2 = some t) : aw_Ct l yX11_letter M_Mo_letter G B_Mo_letter [.ref 0, .int p1, .int p2] xA σ (some (.int t.1), xA, t.2) := aw_Ct_of (by decide) rfl (fun h => by cases h) (Nat.le_of_ble_eq_true rfl) (t_Mo_letter h rfl)
/-! LateMover.isRunnable(I)Z -/
set_option maxRecDepth 100000 in
set_option maxHeartbeats 4000000 in
theorem t_Mo_isRunnable {l : Launch} {G : aw_G} {E : aw_E} {σ : aw_S} {p1 : Int32} {t : Int32} (h : m_Mo_isRunnable σ p1 = some t) (hE : E = (some (.int t), xA, σ)) : aw_W l M_Mo_isRunnable G B_Mo_isRunnable E 0 [(0, .ref 0), (1, .int p1)] [] xA σ 0 0 := by
  unfold m_Mo_isRunnable at h
  refine aw_aload_n (pc := 0) (q := 0) dX11_isRunnable_0 rfl ?_
  obtain ⟨r1, e2, h⟩ := aw_bde h
  refine aw_cV1 (pc := 1) [] (c_Mo_isProgram e2) yy_Mo_isProgram.1 wm_1083 yy_Mo_isProgram.2.1 yy_Mo_isProgram.2.2 xA_0 ⟨_, _, rfl⟩ rfl ⟨Nat.le_of_ble_eq_true rfl, Nat.le_of_ble_eq_true rfl⟩ ⟨Nat.zero_le _, Nat.zero_le _⟩ (Nat.le_of_ble_eq_true rfl) dX11_isRunnable_1 ?_
  refine aw_if_eq (pc := 4) (tgt := 24) dX11_isRunnable_4 (by decide) (fun c3 => ?_) (fun c3 => ?_)
  · replace h := aw_ifp c3 h
    refine aw_iconst (pc := 24) (v := 0) dX11_isRunnable_24 (by decide) ?_
    cases h
    subst hE
    exact aw_iret (v := (0 : Int32)) rfl aw_n0 ⟨Nat.zero_le _, Nat.zero_le _⟩ dX11_isRunnable_25
  · replace h := aw_ifn c3 h
    refine aw_iload_n (pc := 7) (q := 1) dX11_isRunnable_7 rfl ?_
    refine aw_iconst (pc := 8) (v := -1) dX11_isRunnable_8 (by decide) ?_
    refine aw_icmp_eq (pc := 9) (tgt := 20) dX11_isRunnable_9 (by decide) (fun c4 => ?_) (fun c4 => ?_)
    · replace h := aw_ifp c4 h
      refine aw_iconst (pc := 20) (v := 1) dX11_isRunnable_20 (by decide) ?_
      refine aw_goto (pc := 21) (tgt := 25) dX11_isRunnable_21 (by decide) ?_
      cases h
      subst hE
      exact aw_iret (v := (1 : Int32)) rfl aw_n1 ⟨Nat.zero_le _, Nat.zero_le _⟩ dX11_isRunnable_25
    · replace h := aw_ifn c4 h
      refine aw_aload_n (pc := 12) (q := 0) dX11_isRunnable_12 rfl ?_
      refine aw_iload_n (pc := 13) (q := 1) dX11_isRunnable_13 rfl ?_
      obtain ⟨r5, e6, h⟩ := aw_bde h
      refine aw_cV1 (pc := 14) [.int p1] (c_Mo_isMoved e6) yy_Mo_isMoved.1 wm_982 yy_Mo_isMoved.2.1 yy_Mo_isMoved.2.2 xA_0 ⟨_, _, rfl⟩ rfl ⟨Nat.le_of_ble_eq_true rfl, Nat.le_of_ble_eq_true rfl⟩ ⟨Nat.zero_le _, Nat.zero_le _⟩ (Nat.le_of_ble_eq_true rfl) dX11_isRunnable_14 ?_
      refine aw_if_eq (pc := 17) (tgt := 24) dX11_isRunnable_17 (by decide) (fun c7 => ?_) (fun c7 => ?_)
      · replace h := aw_ifp c7 h
        refine aw_iconst (pc := 24) (v := 0) dX11_isRunnable_24 (by decide) ?_
        cases h
        subst hE
        exact aw_iret (v := (0 : Int32)) rfl aw_n0 ⟨Nat.zero_le _, Nat.zero_le _⟩ dX11_isRunnable_25
      · replace h := aw_ifn c7 h
        refine aw_iconst (pc := 20) (v := 1) dX11_isRunnable_20 (by decide) ?_
        refine aw_goto (pc := 21) (tgt := 25) dX11_isRunnable_21 (by decide) ?_
        cases h
        subst hE
        exact aw_iret (v := (1 : Int32)) rfl aw_n1 ⟨Nat.zero_le _, Nat.zero_le _⟩ dX11_isRunnable_25
theorem c_Mo_isRunnable {l : Launch} {G : aw_G} {σ : aw_S} {p1 : Int32} {t : Int32} (h : m_Mo_isRunnable σ p1 = some t) : aw_Ct l yX11_isRunnable M_Mo_isRunnable G B_Mo_isRunnable [.ref 0, .int p1] xA σ (some (.int t), xA, σ) := aw_Ct_of (by decide) rfl (fun h => by cases h) (Nat.le_of_ble_eq_true rfl) (t_Mo_isRunnable h rfl)
/-! LateMover$Run.valueOf(I)I -/
set_option maxRecDepth 100000 in
set_option maxHeartbeats 4000000 in
theorem t_Ru_valueOf {l : Launch} {G : aw_G} {E : aw_E} {σ : aw_S} {o : Nat} {p1 : Int32} (h_o : isRu o) {t : Int32} (h : m_Ru_valueOf σ o p1 = some t) (hE : E = (some (.int t), xA, σ)) : aw_W l M_Ru_valueOf G B_Ru_valueOf E 0 [(0, .ref o), (1, .int p1)] [] xA σ 0 0 := by
  unfold m_Ru_valueOf at h
  refine aw_iload_n (pc := 0) (q := 1) dX8_valueOf_0 rfl ?_
  refine aw_if_ge (pc := 1) (tgt := 6) dX8_valueOf_1 (by decide) (fun c1 => ?_) (fun c1 => ?_)
  · replace h := aw_ifp c1 h
    refine aw_iload_n (pc := 6) (q := 1) dX8_valueOf_6 rfl ?_
    refine aw_bipush (pc := 7) (v := 26) dX8_valueOf_7 (by decide) ?_
    refine aw_icmp_ge (pc := 9) (tgt := 21) dX8_valueOf_9 (by decide) (fun c2 => ?_) (fun c2 => ?_)
    · replace h := aw_ifp c2 h
      refine aw_iload_n (pc := 21) (q := 1) dX8_valueOf_21 rfl ?_
      refine aw_bipush (pc := 22) (v := 26) dX8_valueOf_22 (by decide) ?_
      refine aw_isub (pc := 24) dX8_valueOf_24 ?_
      cases h
      subst hE
      exact aw_iret (v := (p1 - (26 : Int32))) rfl aw_ni ⟨Nat.zero_le _, Nat.zero_le _⟩ dX8_valueOf_25
    · replace h := aw_ifn c2 h
      refine aw_aload_n (pc := 12) (q := 0) dX8_valueOf_12 rfl ?_
      refine aw_getC (pc := 13) fd_X8_9.r h_o.1 rfl dX8_valueOf_13 ?_
      refine aw_iload_n (pc := 16) (q := 1) dX8_valueOf_16 rfl ?_
      obtain ⟨g3, h⟩ := aw_gde h
      refine aw_iald (pc := 17) h_o.2.1 g3 dX8_valueOf_17 ?_
      refine aw_goto (pc := 18) (tgt := 25) dX8_valueOf_18 (by decide) ?_
      cases h
      subst hE
      exact aw_iret (v := (σ.1 (o + 1) p1.toNatClampNeg)) rfl aw_ni ⟨Nat.zero_le _, Nat.zero_le _⟩ dX8_valueOf_25
  · replace h := aw_ifn c1 h
    refine aw_iconst (pc := 4) (v := 0) dX8_valueOf_4 (by decide) ?_
    cases h
    subst hE
    exact aw_iret (v := (0 : Int32)) rfl aw_ni ⟨Nat.zero_le _, Nat.zero_le _⟩ dX8_valueOf_5
theorem c_Ru_valueOf {l : Launch} {G : aw_G} {σ : aw_S} {o : Nat} {p1 : Int32} (h_o : isRu o) {t : Int32} (h : m_Ru_valueOf σ o p1 = some t) : aw_Ct l yX8_valueOf M_Ru_valueOf G B_Ru_valueOf [.ref o, .int p1] xA σ (some (.int t), xA, σ) := aw_Ct_of (by decide) rfl (fun h => by cases h) (Nat.le_of_ble_eq_true rfl) (t_Ru_valueOf h_o h rfl)
/-! LateMover$Run.divide(III)Z -/
set_option maxRecDepth 100000 in
set_option maxHeartbeats 4000000 in
theorem t_Ru_divide_J22 {l : Launch} {G : aw_G} {E : aw_E} {σ : aw_S} {k0 : Nat} {k1 : Int32} (h_k0 : isRu k0) {t : (Int32 × aw_S)} (h : m_Ru_divide_J22 σ k0 k1 = some t) (hE : E = (some (.int t.1), xA, t.2)) : aw_W l M_Ru_divide G B_Ru_divide E 22 [] [.int k1, .ref k0] xA σ 0 0 := by
  unfold m_Ru_divide_J22 at h
  refine aw_putI (pc := 22) fd_X8_99 h_k0.1 rfl (fun _ => rfl) (fun _ => rfl) dX8_divide_22 ?_
  refine aw_nmS (fun s4 e_s4 => ?_)
  replace h := aw_lte h s4 e_s4
  refine aw_iconst (pc := 25) (v := 1) dX8_divide_25 (by decide) ?_
  cases h
  subst hE
  exact aw_iret (v := (1 : Int32)) rfl aw_n1 ⟨Nat.zero_le _, Nat.zero_le _⟩ dX8_divide_26
set_option maxRecDepth 100000 in
set_option maxHeartbeats 4000000 in
theorem t_Ru_divide {l : Launch} {G : aw_G} {E : aw_E} {σ : aw_S} {o : Nat} {p1 : Int32} {p2 : Int32} {p3 : Int32} (h_o : isRu o) {t : (Int32 × aw_S)} (h : m_Ru_divide σ o p1 p2 p3 = some t) (hE : E = (some (.int t.1), xA, t.2)) : aw_W l M_Ru_divide G B_Ru_divide E 0 [(0, .ref o), (1, .int p1), (2, .int p2), (3, .int p3)] [] xA σ 0 0 := by
  unfold m_Ru_divide at h
  refine aw_iload_n (pc := 0) (q := 3) dX8_divide_0 rfl ?_
  refine aw_if_ne (pc := 1) (tgt := 6) dX8_divide_1 (by decide) (fun c1 => ?_) (fun c1 => ?_)
  · replace h := aw_ifn c1 h
    refine aw_aload_n (pc := 6) (q := 0) dX8_divide_6 rfl ?_
    refine aw_iload_n (pc := 7) (q := 1) dX8_divide_7 rfl ?_
    refine aw_bipush (pc := 8) (v := 47) dX8_divide_8 (by decide) ?_
    refine aw_icmp_ne (pc := 10) (tgt := 19) dX8_divide_10 (by decide) (fun c2 => ?_) (fun c2 => ?_)
    · replace h := aw_ifn c2 h
      refine aw_iload_n (pc := 19) (q := 2) dX8_divide_19 rfl ?_
      refine aw_iload_n (pc := 20) (q := 3) dX8_divide_20 rfl ?_
      obtain ⟨g3, h⟩ := aw_gde h
      refine aw_irem (pc := 21) dX8_divide_21 g3 ?_
      refine aw_sub [] rfl ?_
      exact t_Ru_divide_J22 h_o h hE
    · replace h := aw_ifp c2 h
      refine aw_iload_n (pc := 13) (q := 2) dX8_divide_13 rfl ?_
      refine aw_iload_n (pc := 14) (q := 3) dX8_divide_14 rfl ?_
      obtain ⟨g5, h⟩ := aw_gde h
      refine aw_idiv (pc := 15) dX8_divide_15 g5 ?_
      refine aw_goto (pc := 16) (tgt := 22) dX8_divide_16 (by decide) ?_
      refine aw_sub [] rfl ?_
      exact t_Ru_divide_J22 h_o h hE
  · replace h := aw_ifp c1 h
    refine aw_iconst (pc := 4) (v := 0) dX8_divide_4 (by decide) ?_
    cases h
    subst hE
    exact aw_iret (v := (0 : Int32)) rfl aw_n0 ⟨Nat.zero_le _, Nat.zero_le _⟩ dX8_divide_5
theorem c_Ru_divide {l : Launch} {G : aw_G} {σ : aw_S} {o : Nat} {p1 : Int32} {p2 : Int32} {p3 : Int32} (h_o : isRu o) {t : (Int32 × aw_S)} (h : m_Ru_divide σ o p1 p2 p3 = some t) : aw_Ct l yX8_divide M_Ru_divide G B_Ru_divide [.ref o, .int p1, .int p2, .int p3] xA σ (some (.int t.1), xA, t.2) := aw_Ct_of (by decide) rfl (fun h => by cases h) (Nat.le_of_ble_eq_true rfl) (t_Ru_divide h_o h rfl)

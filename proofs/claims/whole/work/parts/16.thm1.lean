/-! LateMover$Text.size()I -/
set_option maxRecDepth 100000 in
set_option maxHeartbeats 4000000 in
theorem t_Te_size {l : Launch} {G : aw_G} {E : aw_E} {σ : aw_S} {o : Nat} (h_o : isTe o) {t : Int32} (h : m_Te_size σ o = some t) (hE : E = (some (.int t), xA, σ)) : aw_W l M_Te_size G B_Te_size E 0 [(0, .ref o)] [] xA σ 0 0 := by
  unfold m_Te_size at h
  refine aw_aload_n (pc := 0) (q := 0) dX9_size_0 rfl ?_
  refine aw_getI (pc := 1) fd_X9_15.r h_o.1 rfl dX9_size_1 ?_
  cases h
  subst hE
  exact aw_iret (v := (σ.1 o 1)) rfl aw_ni ⟨Nat.zero_le _, Nat.zero_le _⟩ dX9_size_4
theorem c_Te_size {l : Launch} {G : aw_G} {σ : aw_S} {o : Nat} (h_o : isTe o) {t : Int32} (h : m_Te_size σ o = some t) : aw_Ct l yX9_size M_Te_size G B_Te_size [.ref o] xA σ (some (.int t), xA, σ) := aw_Ct_of (by decide) rfl (fun h => by cases h) (Nat.le_of_ble_eq_true rfl) (t_Te_size h_o h rfl)
/-! LateMover$Text.put(I)V -/
set_option maxRecDepth 100000 in
set_option maxHeartbeats 4000000 in
theorem t_Te_put {l : Launch} {G : aw_G} {E : aw_E} {σ : aw_S} {o : Nat} {p1 : Int32} (h_o : isTe o) {t : aw_S} (h : m_Te_put σ o p1 = some t) (hE : E = (none, xA, t)) : aw_W l M_Te_put G B_Te_put E 0 [(0, .ref o), (1, .int p1)] [] xA σ 0 0 := by
  unfold m_Te_put at h
  refine aw_aload_n (pc := 0) (q := 0) dX9_put_0 rfl ?_
  refine aw_getI (pc := 1) fd_X9_15.r h_o.1 rfl dX9_put_1 ?_
  refine aw_if_lt (pc := 4) (tgt := 38) dX9_put_4 (by decide) (fun c1 => ?_) (fun c1 => ?_)
  · replace h := aw_ifp c1 h
    cases h
    subst hE
    exact aw_vret rfl ⟨Nat.zero_le _, Nat.zero_le _⟩ dX9_put_38
  · replace h := aw_ifn c1 h
    refine aw_aload_n (pc := 7) (q := 0) dX9_put_7 rfl ?_
    refine aw_getI (pc := 8) fd_X9_15.r h_o.1 rfl dX9_put_8 ?_
    refine aw_sipush (pc := 11) (v := 800) dX9_put_11 (by decide) ?_
    refine aw_icmp_ge (pc := 14) (tgt := 38) dX9_put_14 (by decide) (fun c2 => ?_) (fun c2 => ?_)
    · replace h := aw_ifp c2 h
      cases h
      subst hE
      exact aw_vret rfl ⟨Nat.zero_le _, Nat.zero_le _⟩ dX9_put_38
    · replace h := aw_ifn c2 h
      refine aw_aload_n (pc := 17) (q := 0) dX9_put_17 rfl ?_
      refine aw_getC (pc := 18) fd_X9_9.r h_o.1 rfl dX9_put_18 ?_
      refine aw_aload_n (pc := 21) (q := 0) dX9_put_21 rfl ?_
      refine aw_getI (pc := 22) fd_X9_15.r h_o.1 rfl dX9_put_22 ?_
      refine aw_iload_n (pc := 25) (q := 1) dX9_put_25 rfl ?_
      refine aw_i2b (pc := 26) dX9_put_26 ?_
      obtain ⟨g3, h⟩ := aw_gde h
      refine aw_bast (pc := 27) h_o.2 g3 dX9_put_27 ?_
      refine aw_nmS (fun s4 e_s4 => ?_)
      replace h := aw_lte h s4 e_s4
      refine aw_aload_n (pc := 28) (q := 0) dX9_put_28 rfl ?_
      refine aw_dup (pc := 29) dX9_put_29 rfl ?_
      refine aw_getI (pc := 30) fd_X9_15.r h_o.1 rfl dX9_put_30 ?_
      refine aw_iconst (pc := 33) (v := 1) dX9_put_33 (by decide) ?_
      refine aw_iadd (pc := 34) dX9_put_34 ?_
      refine aw_putI (pc := 35) fd_X9_15 h_o.1 rfl (fun _ => rfl) (fun _ => rfl) dX9_put_35 ?_
      refine aw_nmS (fun s5 e_s5 => ?_)
      replace h := aw_lte h s5 e_s5
      cases h
      subst hE
      exact aw_vret rfl ⟨Nat.zero_le _, Nat.zero_le _⟩ dX9_put_38
theorem c_Te_put {l : Launch} {G : aw_G} {σ : aw_S} {o : Nat} {p1 : Int32} (h_o : isTe o) {t : aw_S} (h : m_Te_put σ o p1 = some t) : aw_Ct l yX9_put M_Te_put G B_Te_put [.ref o, .int p1] xA σ (none, xA, t) := aw_Ct_of (by decide) rfl (fun h => by cases h) (Nat.le_of_ble_eq_true rfl) (t_Te_put h_o h rfl)
/-! LateMover$Text.putFour(I)V -/
set_option maxRecDepth 100000 in
set_option maxHeartbeats 4000000 in
theorem t_Te_putFour {l : Launch} {G : aw_G} {E : aw_E} {σ : aw_S} {o : Nat} {p1 : Int32} (h_o : isTe o) {t : aw_S} (h : m_Te_putFour σ o p1 = some t) (hE : E = (none, xA, t)) : aw_W l M_Te_putFour G B_Te_putFour E 0 [(0, .ref o), (1, .int p1)] [] xA σ 0 0 := by
  unfold m_Te_putFour at h
  refine aw_aload_n (pc := 0) (q := 0) dX9_putFour_0 rfl ?_
  refine aw_iload_n (pc := 1) (q := 1) dX9_putFour_1 rfl ?_
  refine aw_bipush (pc := 2) (v := 24) dX9_putFour_2 (by decide) ?_
  refine aw_iushr (pc := 4) dX9_putFour_4 ?_
  obtain ⟨s3, e2, h⟩ := aw_bde h
  refine aw_cV0 (pc := 5) [.int ((aw_ushr p1 ((24 : Int32))))] (c_Te_put h_o e2) yy_Te_put.1 wm_230 yy_Te_put.2.1 yy_Te_put.2.2 h_o.1 ⟨_, _, rfl⟩ rfl ⟨Nat.le_of_ble_eq_true rfl, Nat.le_of_ble_eq_true rfl⟩ ⟨Nat.zero_le _, Nat.zero_le _⟩ (Nat.le_of_ble_eq_true rfl) dX9_putFour_5 ?_
  refine aw_aload_n (pc := 8) (q := 0) dX9_putFour_8 rfl ?_
  refine aw_iload_n (pc := 9) (q := 1) dX9_putFour_9 rfl ?_
  refine aw_bipush (pc := 10) (v := 16) dX9_putFour_10 (by decide) ?_
  refine aw_iushr (pc := 12) dX9_putFour_12 ?_
  obtain ⟨s6, e5, h⟩ := aw_bde h
  refine aw_cV0 (pc := 13) [.int ((aw_ushr p1 ((16 : Int32))))] (c_Te_put h_o e5) yy_Te_put.1 wm_230 yy_Te_put.2.1 yy_Te_put.2.2 h_o.1 ⟨_, _, rfl⟩ rfl ⟨Nat.le_of_ble_eq_true rfl, Nat.le_of_ble_eq_true rfl⟩ ⟨Nat.zero_le _, Nat.zero_le _⟩ (Nat.le_of_ble_eq_true rfl) dX9_putFour_13 ?_
  refine aw_aload_n (pc := 16) (q := 0) dX9_putFour_16 rfl ?_
  refine aw_iload_n (pc := 17) (q := 1) dX9_putFour_17 rfl ?_
  refine aw_bipush (pc := 18) (v := 8) dX9_putFour_18 (by decide) ?_
  refine aw_iushr (pc := 20) dX9_putFour_20 ?_
  obtain ⟨s9, e8, h⟩ := aw_bde h
  refine aw_cV0 (pc := 21) [.int ((aw_ushr p1 ((8 : Int32))))] (c_Te_put h_o e8) yy_Te_put.1 wm_230 yy_Te_put.2.1 yy_Te_put.2.2 h_o.1 ⟨_, _, rfl⟩ rfl ⟨Nat.le_of_ble_eq_true rfl, Nat.le_of_ble_eq_true rfl⟩ ⟨Nat.zero_le _, Nat.zero_le _⟩ (Nat.le_of_ble_eq_true rfl) dX9_putFour_21 ?_
  refine aw_aload_n (pc := 24) (q := 0) dX9_putFour_24 rfl ?_
  refine aw_iload_n (pc := 25) (q := 1) dX9_putFour_25 rfl ?_
  obtain ⟨s12, e11, h⟩ := aw_bde h
  refine aw_cV0 (pc := 26) [.int p1] (c_Te_put h_o e11) yy_Te_put.1 wm_230 yy_Te_put.2.1 yy_Te_put.2.2 h_o.1 ⟨_, _, rfl⟩ rfl ⟨Nat.le_of_ble_eq_true rfl, Nat.le_of_ble_eq_true rfl⟩ ⟨Nat.zero_le _, Nat.zero_le _⟩ (Nat.le_of_ble_eq_true rfl) dX9_putFour_26 ?_
  cases h
  subst hE
  exact aw_vret rfl ⟨Nat.zero_le _, Nat.zero_le _⟩ dX9_putFour_29
theorem c_Te_putFour {l : Launch} {G : aw_G} {σ : aw_S} {o : Nat} {p1 : Int32} (h_o : isTe o) {t : aw_S} (h : m_Te_putFour σ o p1 = some t) : aw_Ct l yX9_putFour M_Te_putFour G B_Te_putFour [.ref o, .int p1] xA σ (none, xA, t) := aw_Ct_of (by decide) rfl (fun h => by cases h) (Nat.le_of_ble_eq_true rfl) (t_Te_putFour h_o h rfl)
/-! LateMover.feed(IIIII)I -/
set_option maxRecDepth 100000 in
set_option maxHeartbeats 4000000 in
theorem t_Mo_feed {l : Launch} {G : aw_G} {E : aw_E} {σ : aw_S} {p1 : Int32} {p2 : Int32} {p3 : Int32} {p4 : Int32} {p5 : Int32} {t : (Int32 × aw_S)} (h : m_Mo_feed σ p1 p2 p3 p4 p5 = some t) (hE : E = (some (.int t.1), xA, t.2)) : aw_W l M_Mo_feed G B_Mo_feed E 0 [(0, .ref 0), (1, .int p1), (2, .int p2), (3, .int p3), (4, .int p4), (5, .int p5)] [] xA σ 0 0 := by
  unfold m_Mo_feed at h
  refine aw_aload_n (pc := 0) (q := 0) dX11_feed_0 rfl ?_
  refine aw_getC (pc := 1) fd_X11_12.r xA_0 rfl dX11_feed_1 ?_
  obtain ⟨r1, e2, h⟩ := aw_bde h
  refine aw_cV1 (pc := 4) [] (c_Te_size isTe_1 e2) yy_Te_size.1 wm_221 yy_Te_size.2.1 yy_Te_size.2.2 xA_1 ⟨_, _, rfl⟩ rfl ⟨Nat.le_of_ble_eq_true rfl, Nat.le_of_ble_eq_true rfl⟩ ⟨Nat.zero_le _, Nat.zero_le _⟩ (Nat.le_of_ble_eq_true rfl) dX11_feed_4 ?_
  refine aw_bipush (pc := 7) (v := 20) dX11_feed_7 (by decide) ?_
  refine aw_iadd (pc := 9) dX11_feed_9 ?_
  refine aw_sipush (pc := 10) (v := 800) dX11_feed_10 (by decide) ?_
  refine aw_icmp_le (pc := 13) (tgt := 18) dX11_feed_13 (by decide) (fun c3 => ?_) (fun c3 => ?_)
  · replace h := aw_ifp c3 h
    refine aw_aload_n (pc := 18) (q := 0) dX11_feed_18 rfl ?_
    refine aw_getC (pc := 19) fd_X11_12.r xA_0 rfl dX11_feed_19 ?_
    refine aw_iload_n (pc := 22) (q := 1) dX11_feed_22 rfl ?_
    obtain ⟨s6, e5, h⟩ := aw_bde h
    refine aw_cV0 (pc := 23) [.int p1] (c_Te_putFour isTe_1 e5) yy_Te_putFour.1 wm_226 yy_Te_putFour.2.1 yy_Te_putFour.2.2 xA_1 ⟨_, _, rfl⟩ rfl ⟨Nat.le_of_ble_eq_true rfl, Nat.le_of_ble_eq_true rfl⟩ ⟨Nat.zero_le _, Nat.zero_le _⟩ (Nat.le_of_ble_eq_true rfl) dX11_feed_23 ?_
    refine aw_aload_n (pc := 26) (q := 0) dX11_feed_26 rfl ?_
    refine aw_getC (pc := 27) fd_X11_12.r xA_0 rfl dX11_feed_27 ?_
    refine aw_iload_n (pc := 30) (q := 2) dX11_feed_30 rfl ?_
    obtain ⟨s9, e8, h⟩ := aw_bde h
    refine aw_cV0 (pc := 31) [.int p2] (c_Te_putFour isTe_1 e8) yy_Te_putFour.1 wm_226 yy_Te_putFour.2.1 yy_Te_putFour.2.2 xA_1 ⟨_, _, rfl⟩ rfl ⟨Nat.le_of_ble_eq_true rfl, Nat.le_of_ble_eq_true rfl⟩ ⟨Nat.zero_le _, Nat.zero_le _⟩ (Nat.le_of_ble_eq_true rfl) dX11_feed_31 ?_
    refine aw_aload_n (pc := 34) (q := 0) dX11_feed_34 rfl ?_
    refine aw_getC (pc := 35) fd_X11_12.r xA_0 rfl dX11_feed_35 ?_
    refine aw_iload_n (pc := 38) (q := 3) dX11_feed_38 rfl ?_
    obtain ⟨s12, e11, h⟩ := aw_bde h
    refine aw_cV0 (pc := 39) [.int p3] (c_Te_putFour isTe_1 e11) yy_Te_putFour.1 wm_226 yy_Te_putFour.2.1 yy_Te_putFour.2.2 xA_1 ⟨_, _, rfl⟩ rfl ⟨Nat.le_of_ble_eq_true rfl, Nat.le_of_ble_eq_true rfl⟩ ⟨Nat.zero_le _, Nat.zero_le _⟩ (Nat.le_of_ble_eq_true rfl) dX11_feed_39 ?_
    refine aw_aload_n (pc := 42) (q := 0) dX11_feed_42 rfl ?_
    refine aw_getC (pc := 43) fd_X11_12.r xA_0 rfl dX11_feed_43 ?_
    refine aw_iload (pc := 46) (q := 4) dX11_feed_46 rfl ?_
    obtain ⟨s15, e14, h⟩ := aw_bde h
    refine aw_cV0 (pc := 48) [.int p4] (c_Te_putFour isTe_1 e14) yy_Te_putFour.1 wm_226 yy_Te_putFour.2.1 yy_Te_putFour.2.2 xA_1 ⟨_, _, rfl⟩ rfl ⟨Nat.le_of_ble_eq_true rfl, Nat.le_of_ble_eq_true rfl⟩ ⟨Nat.zero_le _, Nat.zero_le _⟩ (Nat.le_of_ble_eq_true rfl) dX11_feed_48 ?_
    refine aw_aload_n (pc := 51) (q := 0) dX11_feed_51 rfl ?_
    refine aw_getC (pc := 52) fd_X11_12.r xA_0 rfl dX11_feed_52 ?_
    refine aw_iload (pc := 55) (q := 5) dX11_feed_55 rfl ?_
    obtain ⟨s18, e17, h⟩ := aw_bde h
    refine aw_cV0 (pc := 57) [.int p5] (c_Te_putFour isTe_1 e17) yy_Te_putFour.1 wm_226 yy_Te_putFour.2.1 yy_Te_putFour.2.2 xA_1 ⟨_, _, rfl⟩ rfl ⟨Nat.le_of_ble_eq_true rfl, Nat.le_of_ble_eq_true rfl⟩ ⟨Nat.zero_le _, Nat.zero_le _⟩ (Nat.le_of_ble_eq_true rfl) dX11_feed_57 ?_
    refine aw_aload_n (pc := 60) (q := 0) dX11_feed_60 rfl ?_
    refine aw_getC (pc := 61) fd_X11_12.r xA_0 rfl dX11_feed_61 ?_
    obtain ⟨r19, e20, h⟩ := aw_bde h
    refine aw_cV1 (pc := 64) [] (c_Te_size isTe_1 e20) yy_Te_size.1 wm_221 yy_Te_size.2.1 yy_Te_size.2.2 xA_1 ⟨_, _, rfl⟩ rfl ⟨Nat.le_of_ble_eq_true rfl, Nat.le_of_ble_eq_true rfl⟩ ⟨Nat.zero_le _, Nat.zero_le _⟩ (Nat.le_of_ble_eq_true rfl) dX11_feed_64 ?_
    cases h
    subst hE
    exact aw_iret (v := _) rfl aw_ni ⟨Nat.zero_le _, Nat.zero_le _⟩ dX11_feed_67
  · replace h := aw_ifn c3 h
    refine aw_iconst (pc := 16) (v := -1) dX11_feed_16 (by decide) ?_
    cases h
    subst hE
    exact aw_iret (v := (-1 : Int32)) rfl aw_ni ⟨Nat.zero_le _, Nat.zero_le _⟩ dX11_feed_17
theorem c_Mo_feed {l : Launch} {G : aw_G} {σ : aw_S} {p1 : Int32} {p2 : Int32} {p3 : Int32} {p4 : Int32} {p5 : Int32} {t : (Int32 × aw_S)} (h : m_Mo_feed σ p1 p2 p3 p4 p5 = some t) : aw_Ct l yX11_feed M_Mo_feed G B_Mo_feed [.ref 0, .int p1, .int p2, .int p3, .int p4, .int p5] xA σ (some (.int t.1), xA, t.2) := aw_Ct_of (by decide) rfl (fun h => by cases h) (Nat.le_of_ble_eq_true rfl) (t_Mo_feed h rfl)
/-! LateMover$Text.cut(I)V -/
set_option maxRecDepth 100000 in
set_option maxHeartbeats 4000000 in
theorem t_Te_cut {l : Launch} {G : aw_G} {E : aw_E} {σ : aw_S} {o : Nat} {p1 : Int32} (h_o : isTe o) {t : aw_S} (h : m_Te_cut σ o p1 = some t) (hE : E = (none, xA, t)) : aw_W l M_Te_cut G B_Te_cut E 0 [(0, .ref o), (1, .int p1)] [] xA σ 0 0 := by
  unfold m_Te_cut at h
  refine aw_iload_n (pc := 0) (q := 1) dX9_cut_0 rfl ?_
  refine aw_if_lt (pc := 1) (tgt := 17) dX9_cut_1 (by decide) (fun c1 => ?_) (fun c1 => ?_)
  · replace h := aw_ifp c1 h
    cases h
    subst hE
    exact aw_vret rfl ⟨Nat.zero_le _, Nat.zero_le _⟩ dX9_cut_17
  · replace h := aw_ifn c1 h
    refine aw_iload_n (pc := 4) (q := 1) dX9_cut_4 rfl ?_
    refine aw_aload_n (pc := 5) (q := 0) dX9_cut_5 rfl ?_
    refine aw_getI (pc := 6) fd_X9_15.r h_o.1 rfl dX9_cut_6 ?_
    refine aw_icmp_gt (pc := 9) (tgt := 17) dX9_cut_9 (by decide) (fun c2 => ?_) (fun c2 => ?_)
    · replace h := aw_ifp c2 h
      cases h
      subst hE
      exact aw_vret rfl ⟨Nat.zero_le _, Nat.zero_le _⟩ dX9_cut_17
    · replace h := aw_ifn c2 h
      refine aw_aload_n (pc := 12) (q := 0) dX9_cut_12 rfl ?_
      refine aw_iload_n (pc := 13) (q := 1) dX9_cut_13 rfl ?_
      refine aw_putI (pc := 14) fd_X9_15 h_o.1 rfl (fun _ => rfl) (fun _ => rfl) dX9_cut_14 ?_
      refine aw_nmS (fun s3 e_s3 => ?_)
      replace h := aw_lte h s3 e_s3
      cases h
      subst hE
      exact aw_vret rfl ⟨Nat.zero_le _, Nat.zero_le _⟩ dX9_cut_17
theorem c_Te_cut {l : Launch} {G : aw_G} {σ : aw_S} {o : Nat} {p1 : Int32} (h_o : isTe o) {t : aw_S} (h : m_Te_cut σ o p1 = some t) : aw_Ct l yX9_cut M_Te_cut G B_Te_cut [.ref o, .int p1] xA σ (none, xA, t) := aw_Ct_of (by decide) rfl (fun h => by cases h) (Nat.le_of_ble_eq_true rfl) (t_Te_cut h_o h rfl)
/-! LateMover.end(I)I -/
set_option maxRecDepth 100000 in
set_option maxHeartbeats 4000000 in
theorem t_Mo_end {l : Launch} {G : aw_G} {E : aw_E} {σ : aw_S} {p1 : Int32} {t : (Int32 × aw_S)} (h : m_Mo_end σ p1 = some t) (hE : E = (some (.int t.1), xA, t.2)) : aw_W l M_Mo_end G B_Mo_end E 0 [(0, .ref 0), (1, .int p1)] [] xA σ 0 0 := by
  unfold m_Mo_end at h
  refine aw_iload_n (pc := 0) (q := 1) dX11_end_0 rfl ?_
  refine aw_if_lt (pc := 1) (tgt := 15) dX11_end_1 (by decide) (fun c1 => ?_) (fun c1 => ?_)
  · replace h := aw_ifp c1 h
    refine aw_iconst (pc := 15) (v := -1) dX11_end_15 (by decide) ?_
    cases h
    subst hE
    exact aw_iret (v := (-1 : Int32)) rfl aw_ni ⟨Nat.zero_le _, Nat.zero_le _⟩ dX11_end_16
  · replace h := aw_ifn c1 h
    refine aw_iload_n (pc := 4) (q := 1) dX11_end_4 rfl ?_
    refine aw_aload_n (pc := 5) (q := 0) dX11_end_5 rfl ?_
    refine aw_getC (pc := 6) fd_X11_12.r xA_0 rfl dX11_end_6 ?_
    obtain ⟨r2, e3, h⟩ := aw_bde h
    refine aw_cV1 (pc := 9) [] (c_Te_size isTe_1 e3) yy_Te_size.1 wm_221 yy_Te_size.2.1 yy_Te_size.2.2 xA_1 ⟨_, _, rfl⟩ rfl ⟨Nat.le_of_ble_eq_true rfl, Nat.le_of_ble_eq_true rfl⟩ ⟨Nat.zero_le _, Nat.zero_le _⟩ (Nat.le_of_ble_eq_true rfl) dX11_end_9 ?_
    refine aw_icmp_le (pc := 12) (tgt := 17) dX11_end_12 (by decide) (fun c4 => ?_) (fun c4 => ?_)
    · replace h := aw_ifp c4 h
      refine aw_aload_n (pc := 17) (q := 0) dX11_end_17 rfl ?_
      refine aw_getC (pc := 18) fd_X11_12.r xA_0 rfl dX11_end_18 ?_
      refine aw_iload_n (pc := 21) (q := 1) dX11_end_21 rfl ?_
      obtain ⟨s7, e6, h⟩ := aw_bde h
      refine aw_cV0 (pc := 22) [.int p1] (c_Te_cut isTe_1 e6) yy_Te_cut.1 wm_247 yy_Te_cut.2.1 yy_Te_cut.2.2 xA_1 ⟨_, _, rfl⟩ rfl ⟨Nat.le_of_ble_eq_true rfl, Nat.le_of_ble_eq_true rfl⟩ ⟨Nat.zero_le _, Nat.zero_le _⟩ (Nat.le_of_ble_eq_true rfl) dX11_end_22 ?_
      refine aw_iload_n (pc := 25) (q := 1) dX11_end_25 rfl ?_
      cases h
      subst hE
      exact aw_iret (v := _) rfl aw_ni ⟨Nat.zero_le _, Nat.zero_le _⟩ dX11_end_26
    · replace h := aw_ifn c4 h
      refine aw_iconst (pc := 15) (v := -1) dX11_end_15 (by decide) ?_
      cases h
      subst hE
      exact aw_iret (v := (-1 : Int32)) rfl aw_ni ⟨Nat.zero_le _, Nat.zero_le _⟩ dX11_end_16
theorem c_Mo_end {l : Launch} {G : aw_G} {σ : aw_S} {p1 : Int32} {t : (Int32 × aw_S)} (h : m_Mo_end σ p1 = some t) : aw_Ct l yX11_end M_Mo_end G B_Mo_end [.ref 0, .int p1] xA σ (some (.int t.1), xA, t.2) := aw_Ct_of (by decide) rfl (fun h => by cases h) (Nat.le_of_ble_eq_true rfl) (t_Mo_end h rfl)
/-! LateMover$Text.copyFrom(LLateMover$Text;)V -/
set_option maxRecDepth 100000 in
set_option maxHeartbeats 4000000 in
theorem t_Te_copyFrom {l : Launch} {G : aw_G} {E : aw_E} {σ : aw_S} {o : Nat} {p1 : Nat} (h_o : isTe o) (h_p1 : isTe p1) {t : aw_S} (h : m_Te_copyFrom σ o p1 = some t) (hE : E = (none, xA, t)) : aw_W l M_Te_copyFrom G B_Te_copyFrom E 0 [(0, .ref o), (1, .ref p1)] [] xA σ 0 0 := by
  unfold m_Te_copyFrom at h
  refine aw_aload_n (pc := 0) (q := 1) dX9_copyFrom_0 rfl ?_
  refine aw_getC (pc := 1) fd_X9_9.r h_p1.1 rfl dX9_copyFrom_1 ?_
  refine aw_iconst (pc := 4) (v := 0) dX9_copyFrom_4 (by decide) ?_
  refine aw_aload_n (pc := 5) (q := 0) dX9_copyFrom_5 rfl ?_
  refine aw_getC (pc := 6) fd_X9_9.r h_o.1 rfl dX9_copyFrom_6 ?_
  refine aw_iconst (pc := 9) (v := 0) dX9_copyFrom_9 (by decide) ?_
  refine aw_sipush (pc := 10) (v := 800) dX9_copyFrom_10 (by decide) ?_
  obtain ⟨g2, h⟩ := aw_gde h
  refine aw_copyB (pc := 13) (N := 800) wm_277 h_p1.2 h_o.2 (by decide) (Nat.le_of_ble_eq_true rfl) (Nat.le_of_ble_eq_true rfl) g2 ⟨Nat.le_of_ble_eq_true rfl, Nat.le_of_ble_eq_true rfl⟩ (Nat.le_of_ble_eq_true rfl) dX9_copyFrom_13 ?_
  refine aw_nmS (fun s1 e_s1 => ?_)
  replace h := aw_lte h s1 e_s1
  refine aw_aload_n (pc := 16) (q := 0) dX9_copyFrom_16 rfl ?_
  refine aw_aload_n (pc := 17) (q := 1) dX9_copyFrom_17 rfl ?_
  refine aw_getI (pc := 18) fd_X9_15.r h_p1.1 rfl dX9_copyFrom_18 ?_
  refine aw_putI (pc := 21) fd_X9_15 h_o.1 rfl (fun _ => rfl) (fun _ => rfl) dX9_copyFrom_21 ?_
  refine aw_nmS (fun s3 e_s3 => ?_)
  replace h := aw_lte h s3 e_s3
  cases h
  subst hE
  exact aw_vret rfl ⟨Nat.zero_le _, Nat.zero_le _⟩ dX9_copyFrom_24
theorem c_Te_copyFrom {l : Launch} {G : aw_G} {σ : aw_S} {o : Nat} {p1 : Nat} (h_o : isTe o) (h_p1 : isTe p1) {t : aw_S} (h : m_Te_copyFrom σ o p1 = some t) : aw_Ct l yX9_copyFrom M_Te_copyFrom G B_Te_copyFrom [.ref o, .ref p1] xA σ (none, xA, t) := aw_Ct_of (by decide) rfl (fun h => by cases h) (Nat.le_of_ble_eq_true rfl) (t_Te_copyFrom h_o h_p1 h rfl)
/-! LateMover$Text.at(I)I -/
set_option maxRecDepth 100000 in
set_option maxHeartbeats 4000000 in
theorem t_Te_at {l : Launch} {G : aw_G} {E : aw_E} {σ : aw_S} {o : Nat} {p1 : Int32} (h_o : isTe o) {t : Int32} (h : m_Te_at σ o p1 = some t) (hE : E = (some (.int t), xA, σ)) : aw_W l M_Te_at G B_Te_at E 0 [(0, .ref o), (1, .int p1)] [] xA σ 0 0 := by
  unfold m_Te_at at h
  refine aw_iload_n (pc := 0) (q := 1) dX9_at_0 rfl ?_
  refine aw_if_lt (pc := 1) (tgt := 32) dX9_at_1 (by decide) (fun c1 => ?_) (fun c1 => ?_)
  · replace h := aw_ifp c1 h
    refine aw_iconst (pc := 32) (v := -1) dX9_at_32 (by decide) ?_
    cases h
    subst hE
    exact aw_iret (v := (-1 : Int32)) rfl aw_ni ⟨Nat.zero_le _, Nat.zero_le _⟩ dX9_at_33
  · replace h := aw_ifn c1 h
    refine aw_iload_n (pc := 4) (q := 1) dX9_at_4 rfl ?_
    refine aw_aload_n (pc := 5) (q := 0) dX9_at_5 rfl ?_
    refine aw_getI (pc := 6) fd_X9_15.r h_o.1 rfl dX9_at_6 ?_
    refine aw_icmp_ge (pc := 9) (tgt := 32) dX9_at_9 (by decide) (fun c2 => ?_) (fun c2 => ?_)
    · replace h := aw_ifp c2 h
      refine aw_iconst (pc := 32) (v := -1) dX9_at_32 (by decide) ?_
      cases h
      subst hE
      exact aw_iret (v := (-1 : Int32)) rfl aw_ni ⟨Nat.zero_le _, Nat.zero_le _⟩ dX9_at_33
    · replace h := aw_ifn c2 h
      refine aw_iload_n (pc := 12) (q := 1) dX9_at_12 rfl ?_
      refine aw_sipush (pc := 13) (v := 800) dX9_at_13 (by decide) ?_
      refine aw_icmp_ge (pc := 16) (tgt := 32) dX9_at_16 (by decide) (fun c3 => ?_) (fun c3 => ?_)
      · replace h := aw_ifp c3 h
        refine aw_iconst (pc := 32) (v := -1) dX9_at_32 (by decide) ?_
        cases h
        subst hE
        exact aw_iret (v := (-1 : Int32)) rfl aw_ni ⟨Nat.zero_le _, Nat.zero_le _⟩ dX9_at_33
      · replace h := aw_ifn c3 h
        refine aw_aload_n (pc := 19) (q := 0) dX9_at_19 rfl ?_
        refine aw_getC (pc := 20) fd_X9_9.r h_o.1 rfl dX9_at_20 ?_
        refine aw_iload_n (pc := 23) (q := 1) dX9_at_23 rfl ?_
        obtain ⟨g4, h⟩ := aw_gde h
        refine aw_bald (pc := 24) h_o.2 g4 dX9_at_24 ?_
        refine aw_sipush (pc := 25) (v := 255) dX9_at_25 (by decide) ?_
        refine aw_iand (pc := 28) dX9_at_28 ?_
        refine aw_goto (pc := 29) (tgt := 33) dX9_at_29 (by decide) ?_
        cases h
        subst hE
        exact aw_iret (v := ((σ.1 (o + 1) p1.toNatClampNeg) &&& (255 : Int32))) rfl aw_ni ⟨Nat.zero_le _, Nat.zero_le _⟩ dX9_at_33
theorem c_Te_at {l : Launch} {G : aw_G} {σ : aw_S} {o : Nat} {p1 : Int32} (h_o : isTe o) {t : Int32} (h : m_Te_at σ o p1 = some t) : aw_Ct l yX9_at M_Te_at G B_Te_at [.ref o, .int p1] xA σ (some (.int t), xA, σ) := aw_Ct_of (by decide) rfl (fun h => by cases h) (Nat.le_of_ble_eq_true rfl) (t_Te_at h_o h rfl)
/-! LateMover$Reader.isLetter(I)Z -/
set_option maxRecDepth 100000 in
set_option maxHeartbeats 4000000 in
theorem t_Re_isLetter {l : Launch} {G : aw_G} {E : aw_E} {σ : aw_S} {p0 : Int32} {t : Int32} (h : m_Re_isLetter σ p0 = some t) (hE : E = (some (.int t), xA, σ)) : aw_W l M_Re_isLetter G B_Re_isLetter E 0 [(0, .int p0)] [] xA σ 0 0 := by
  unfold m_Re_isLetter at h
  refine aw_iload_n (pc := 0) (q := 0) dX7_isLetter_0 rfl ?_
  refine aw_bipush (pc := 1) (v := 97) dX7_isLetter_1 (by decide) ?_
  refine aw_icmp_lt (pc := 3) (tgt := 16) dX7_isLetter_3 (by decide) (fun c1 => ?_) (fun c1 => ?_)
  · replace h := aw_ifp c1 h
    refine aw_iconst (pc := 16) (v := 0) dX7_isLetter_16 (by decide) ?_
    cases h
    subst hE
    exact aw_iret (v := (0 : Int32)) rfl aw_n0 ⟨Nat.zero_le _, Nat.zero_le _⟩ dX7_isLetter_17
  · replace h := aw_ifn c1 h
    refine aw_iload_n (pc := 6) (q := 0) dX7_isLetter_6 rfl ?_
    refine aw_bipush (pc := 7) (v := 122) dX7_isLetter_7 (by decide) ?_
    refine aw_icmp_gt (pc := 9) (tgt := 16) dX7_isLetter_9 (by decide) (fun c2 => ?_) (fun c2 => ?_)
    · replace h := aw_ifp c2 h
      refine aw_iconst (pc := 16) (v := 0) dX7_isLetter_16 (by decide) ?_
      cases h
      subst hE
      exact aw_iret (v := (0 : Int32)) rfl aw_n0 ⟨Nat.zero_le _, Nat.zero_le _⟩ dX7_isLetter_17
    · replace h := aw_ifn c2 h
      refine aw_iconst (pc := 12) (v := 1) dX7_isLetter_12 (by decide) ?_
      refine aw_goto (pc := 13) (tgt := 17) dX7_isLetter_13 (by decide) ?_
      cases h
      subst hE
      exact aw_iret (v := (1 : Int32)) rfl aw_n1 ⟨Nat.zero_le _, Nat.zero_le _⟩ dX7_isLetter_17
theorem c_Re_isLetter {l : Launch} {G : aw_G} {σ : aw_S} {p0 : Int32} {t : Int32} (h : m_Re_isLetter σ p0 = some t) : aw_Ct l yX7_isLetter M_Re_isLetter G B_Re_isLetter [.int p0] xA σ (some (.int t), xA, σ) := aw_Ct_of (by decide) rfl (fun h => by cases h) (Nat.le_of_ble_eq_true rfl) (t_Re_isLetter h rfl)
/-! LateMover$Reader.startsStatement()Z -/
set_option maxRecDepth 100000 in
set_option maxHeartbeats 4000000 in
theorem t_Re_startsStatement {l : Launch} {G : aw_G} {E : aw_E} {σ : aw_S} {t : Int32} (h : m_Re_startsStatement σ = some t) (hE : E = (some (.int t), xA, σ)) : aw_W l M_Re_startsStatement G B_Re_startsStatement E 0 [(0, .ref 8)] [] xA σ 0 0 := by
  unfold m_Re_startsStatement at h
  refine aw_aload_n (pc := 0) (q := 0) dX7_startsStatement_0 rfl ?_
  refine aw_getC (pc := 1) fd_X7_12.r xA_8 rfl dX7_startsStatement_1 ?_
  refine aw_aload_n (pc := 4) (q := 0) dX7_startsStatement_4 rfl ?_
  refine aw_getI (pc := 5) fd_X7_70.r xA_8 rfl dX7_startsStatement_5 ?_
  obtain ⟨r1, e2, h⟩ := aw_bde h
  refine aw_cV1 (pc := 8) [.int ((σ.1 8 14))] (c_Te_at isTe_9 e2) yy_Te_at.1 wm_294 yy_Te_at.2.1 yy_Te_at.2.2 xA_9 ⟨_, _, rfl⟩ rfl ⟨Nat.le_of_ble_eq_true rfl, Nat.le_of_ble_eq_true rfl⟩ ⟨Nat.zero_le _, Nat.zero_le _⟩ (Nat.le_of_ble_eq_true rfl) dX7_startsStatement_8 ?_
  obtain ⟨r3, e4, h⟩ := aw_bde h
  refine aw_cS1 (pc := 11) [.int r1] (c_Re_isLetter e4) yy_Re_isLetter.1 wm_298 yy_Re_isLetter.2 rfl ⟨Nat.le_of_ble_eq_true rfl, Nat.le_of_ble_eq_true rfl⟩ ⟨Nat.zero_le _, Nat.zero_le _⟩ (Nat.le_of_ble_eq_true rfl) dX7_startsStatement_11 ?_
  refine aw_if_ne (pc := 14) (tgt := 33) dX7_startsStatement_14 (by decide) (fun c5 => ?_) (fun c5 => ?_)
  · replace h := aw_ifn c5 h
    refine aw_iconst (pc := 33) (v := 1) dX7_startsStatement_33 (by decide) ?_
    refine aw_goto (pc := 34) (tgt := 38) dX7_startsStatement_34 (by decide) ?_
    cases h
    subst hE
    exact aw_iret (v := (1 : Int32)) rfl aw_n1 ⟨Nat.zero_le _, Nat.zero_le _⟩ dX7_startsStatement_38
  · replace h := aw_ifp c5 h
    refine aw_aload_n (pc := 17) (q := 0) dX7_startsStatement_17 rfl ?_
    refine aw_getC (pc := 18) fd_X7_12.r xA_8 rfl dX7_startsStatement_18 ?_
    refine aw_aload_n (pc := 21) (q := 0) dX7_startsStatement_21 rfl ?_
    refine aw_getI (pc := 22) fd_X7_70.r xA_8 rfl dX7_startsStatement_22 ?_
    obtain ⟨r6, e7, h⟩ := aw_bde h
    refine aw_cV1 (pc := 25) [.int ((σ.1 8 14))] (c_Te_at isTe_9 e7) yy_Te_at.1 wm_294 yy_Te_at.2.1 yy_Te_at.2.2 xA_9 ⟨_, _, rfl⟩ rfl ⟨Nat.le_of_ble_eq_true rfl, Nat.le_of_ble_eq_true rfl⟩ ⟨Nat.zero_le _, Nat.zero_le _⟩ (Nat.le_of_ble_eq_true rfl) dX7_startsStatement_25 ?_
    refine aw_bipush (pc := 28) (v := 33) dX7_startsStatement_28 (by decide) ?_
    refine aw_icmp_ne (pc := 30) (tgt := 37) dX7_startsStatement_30 (by decide) (fun c8 => ?_) (fun c8 => ?_)
    · replace h := aw_ifn c8 h
      refine aw_iconst (pc := 37) (v := 0) dX7_startsStatement_37 (by decide) ?_
      cases h
      subst hE
      exact aw_iret (v := (0 : Int32)) rfl aw_n0 ⟨Nat.zero_le _, Nat.zero_le _⟩ dX7_startsStatement_38
    · replace h := aw_ifp c8 h
      refine aw_iconst (pc := 33) (v := 1) dX7_startsStatement_33 (by decide) ?_
      refine aw_goto (pc := 34) (tgt := 38) dX7_startsStatement_34 (by decide) ?_
      cases h
      subst hE
      exact aw_iret (v := (1 : Int32)) rfl aw_n1 ⟨Nat.zero_le _, Nat.zero_le _⟩ dX7_startsStatement_38
theorem c_Re_startsStatement {l : Launch} {G : aw_G} {σ : aw_S} {t : Int32} (h : m_Re_startsStatement σ = some t) : aw_Ct l yX7_startsStatement M_Re_startsStatement G B_Re_startsStatement [.ref 8] xA σ (some (.int t), xA, σ) := aw_Ct_of (by decide) rfl (fun h => by cases h) (Nat.le_of_ble_eq_true rfl) (t_Re_startsStatement h rfl)
/-! LateMover$Reader.refuse(I)Z -/
set_option maxRecDepth 100000 in
set_option maxHeartbeats 4000000 in
theorem t_Re_refuse {l : Launch} {G : aw_G} {E : aw_E} {σ : aw_S} {p1 : Int32} {t : (Int32 × aw_S)} (h : m_Re_refuse σ p1 = some t) (hE : E = (some (.int t.1), xA, t.2)) : aw_W l M_Re_refuse G B_Re_refuse E 0 [(0, .ref 8), (1, .int p1)] [] xA σ 0 0 := by
  unfold m_Re_refuse at h
  refine aw_aload_n (pc := 0) (q := 0) dX7_refuse_0 rfl ?_
  refine aw_iload_n (pc := 1) (q := 1) dX7_refuse_1 rfl ?_
  refine aw_putI (pc := 2) fd_X7_77 xA_8 rfl (fun _ => rfl) (fun _ => rfl) dX7_refuse_2 ?_
  refine aw_nmS (fun s1 e_s1 => ?_)
  replace h := aw_lte h s1 e_s1
  refine aw_iconst (pc := 5) (v := 0) dX7_refuse_5 (by decide) ?_
  cases h
  subst hE
  exact aw_iret (v := (0 : Int32)) rfl aw_n0 ⟨Nat.zero_le _, Nat.zero_le _⟩ dX7_refuse_6
theorem c_Re_refuse {l : Launch} {G : aw_G} {σ : aw_S} {p1 : Int32} {t : (Int32 × aw_S)} (h : m_Re_refuse σ p1 = some t) : aw_Ct l yX7_refuse M_Re_refuse G B_Re_refuse [.ref 8, .int p1] xA σ (some (.int t.1), xA, t.2) := aw_Ct_of (by decide) rfl (fun h => by cases h) (Nat.le_of_ble_eq_true rfl) (t_Re_refuse h rfl)
/-! LateMover$Reader.take(I)Z -/
set_option maxRecDepth 100000 in
set_option maxHeartbeats 4000000 in
theorem t_Re_take {l : Launch} {G : aw_G} {E : aw_E} {σ : aw_S} {p1 : Int32} {t : (Int32 × aw_S)} (h : m_Re_take σ p1 = some t) (hE : E = (some (.int t.1), xA, t.2)) : aw_W l M_Re_take G B_Re_take E 0 [(0, .ref 8), (1, .int p1)] [] xA σ 0 0 := by
  unfold m_Re_take at h
  refine aw_aload_n (pc := 0) (q := 0) dX7_take_0 rfl ?_
  refine aw_getC (pc := 1) fd_X7_12.r xA_8 rfl dX7_take_1 ?_
  refine aw_aload_n (pc := 4) (q := 0) dX7_take_4 rfl ?_
  refine aw_getI (pc := 5) fd_X7_70.r xA_8 rfl dX7_take_5 ?_
  obtain ⟨r1, e2, h⟩ := aw_bde h
  refine aw_cV1 (pc := 8) [.int ((σ.1 8 14))] (c_Te_at isTe_9 e2) yy_Te_at.1 wm_294 yy_Te_at.2.1 yy_Te_at.2.2 xA_9 ⟨_, _, rfl⟩ rfl ⟨Nat.le_of_ble_eq_true rfl, Nat.le_of_ble_eq_true rfl⟩ ⟨Nat.zero_le _, Nat.zero_le _⟩ (Nat.le_of_ble_eq_true rfl) dX7_take_8 ?_
  refine aw_iload_n (pc := 11) (q := 1) dX7_take_11 rfl ?_
  refine aw_icmp_eq (pc := 12) (tgt := 24) dX7_take_12 (by decide) (fun c3 => ?_) (fun c3 => ?_)
  · replace h := aw_ifp c3 h
    refine aw_aload_n (pc := 24) (q := 0) dX7_take_24 rfl ?_
    refine aw_dup (pc := 25) dX7_take_25 rfl ?_
    refine aw_getI (pc := 26) fd_X7_70.r xA_8 rfl dX7_take_26 ?_
    refine aw_iconst (pc := 29) (v := 1) dX7_take_29 (by decide) ?_
    refine aw_iadd (pc := 30) dX7_take_30 ?_
    refine aw_putI (pc := 31) fd_X7_70 xA_8 rfl (fun _ => rfl) (fun _ => rfl) dX7_take_31 ?_
    refine aw_nmS (fun s4 e_s4 => ?_)
    replace h := aw_lte h s4 e_s4
    refine aw_iconst (pc := 34) (v := 1) dX7_take_34 (by decide) ?_
    cases h
    subst hE
    exact aw_iret (v := (1 : Int32)) rfl aw_n1 ⟨Nat.zero_le _, Nat.zero_le _⟩ dX7_take_35
  · replace h := aw_ifn c3 h
    refine aw_aload_n (pc := 15) (q := 0) dX7_take_15 rfl ?_
    refine aw_aload_n (pc := 16) (q := 0) dX7_take_16 rfl ?_
    refine aw_getI (pc := 17) fd_X7_70.r xA_8 rfl dX7_take_17 ?_
    obtain ⟨r5, s7, e6, h⟩ := aw_bd2e h
    refine aw_cV1 (pc := 20) [.int ((σ.1 8 14))] (c_Re_refuse e6) yy_Re_refuse.1 wm_286 yy_Re_refuse.2.1 yy_Re_refuse.2.2 xA_8 ⟨_, _, rfl⟩ rfl ⟨Nat.le_of_ble_eq_true rfl, Nat.le_of_ble_eq_true rfl⟩ ⟨Nat.zero_le _, Nat.zero_le _⟩ (Nat.le_of_ble_eq_true rfl) dX7_take_20 ?_
    obtain ⟨g8, h⟩ := aw_gde h
    cases h
    subst hE
    exact aw_iret (v := _) rfl (aw_nz g8) ⟨Nat.zero_le _, Nat.zero_le _⟩ dX7_take_23
theorem c_Re_take {l : Launch} {G : aw_G} {σ : aw_S} {p1 : Int32} {t : (Int32 × aw_S)} (h : m_Re_take σ p1 = some t) : aw_Ct l yX7_take M_Re_take G B_Re_take [.ref 8, .int p1] xA σ (some (.int t.1), xA, t.2) := aw_Ct_of (by decide) rfl (fun h => by cases h) (Nat.le_of_ble_eq_true rfl) (t_Re_take h rfl)
/-! LateMover$Reader.isDigit(I)Z -/
set_option maxRecDepth 100000 in
set_option maxHeartbeats 4000000 in
theorem t_Re_isDigit {l : Launch} {G : aw_G} {E : aw_E} {σ : aw_S} {p0 : Int32} {t : Int32} (h : m_Re_isDigit σ p0 = some t) (hE : E = (some (.int t), xA, σ)) : aw_W l M_Re_isDigit G B_Re_isDigit E 0 [(0, .int p0)] [] xA σ 0 0 := by
  unfold m_Re_isDigit at h
  refine aw_iload_n (pc := 0) (q := 0) dX7_isDigit_0 rfl ?_
  refine aw_bipush (pc := 1) (v := 48) dX7_isDigit_1 (by decide) ?_
  refine aw_icmp_lt (pc := 3) (tgt := 16) dX7_isDigit_3 (by decide) (fun c1 => ?_) (fun c1 => ?_)
  · replace h := aw_ifp c1 h
    refine aw_iconst (pc := 16) (v := 0) dX7_isDigit_16 (by decide) ?_
    cases h
    subst hE
    exact aw_iret (v := (0 : Int32)) rfl aw_n0 ⟨Nat.zero_le _, Nat.zero_le _⟩ dX7_isDigit_17
  · replace h := aw_ifn c1 h
    refine aw_iload_n (pc := 6) (q := 0) dX7_isDigit_6 rfl ?_
    refine aw_bipush (pc := 7) (v := 57) dX7_isDigit_7 (by decide) ?_
    refine aw_icmp_gt (pc := 9) (tgt := 16) dX7_isDigit_9 (by decide) (fun c2 => ?_) (fun c2 => ?_)
    · replace h := aw_ifp c2 h
      refine aw_iconst (pc := 16) (v := 0) dX7_isDigit_16 (by decide) ?_
      cases h
      subst hE
      exact aw_iret (v := (0 : Int32)) rfl aw_n0 ⟨Nat.zero_le _, Nat.zero_le _⟩ dX7_isDigit_17
    · replace h := aw_ifn c2 h
      refine aw_iconst (pc := 12) (v := 1) dX7_isDigit_12 (by decide) ?_
      refine aw_goto (pc := 13) (tgt := 17) dX7_isDigit_13 (by decide) ?_
      cases h
      subst hE
      exact aw_iret (v := (1 : Int32)) rfl aw_n1 ⟨Nat.zero_le _, Nat.zero_le _⟩ dX7_isDigit_17
theorem c_Re_isDigit {l : Launch} {G : aw_G} {σ : aw_S} {p0 : Int32} {t : Int32} (h : m_Re_isDigit σ p0 = some t) : aw_Ct l yX7_isDigit M_Re_isDigit G B_Re_isDigit [.int p0] xA σ (some (.int t), xA, σ) := aw_Ct_of (by decide) rfl (fun h => by cases h) (Nat.le_of_ble_eq_true rfl) (t_Re_isDigit h rfl)
/-! LateMover$Reader.readNumber(I)I -/
def z_Re_readNumber_X4 (l : Launch) (G : aw_G) (E : aw_E) (v1 : Int32) (s : Int32 × Int32 × aw_S) : Prop := aw_W l M_Re_readNumber G B_Re_readNumber E 4 [(0, .ref 8), (1, .int v1), (2, .int s.1), (3, .int s.2.1)] [] xA s.2.2 0 0
def z_Re_readNumber_Y4 (l : Launch) (G : aw_G) (E : aw_E) (v1 : Int32) (x : (Int32 × Int32 × aw_S)) : Prop := aw_W l M_Re_readNumber G B_Re_readNumber E 62 [(0, .ref 8), (2, .int x.1), (3, .int x.2.1)] [] xA x.2.2 0 0
set_option maxRecDepth 100000 in
set_option maxHeartbeats 4000000 in
theorem t_Re_readNumber_B4 {l : Launch} {G : aw_G} {E : aw_E} {σ : aw_S} {v1 : Int32} {v2 : Int32} {v3 : Int32} {t : (Int32 × Int32 × aw_S) ⊕ (Int32 × Int32 × aw_S)} (h : m_Re_readNumber_B4 σ v1 v2 v3 = some t) (hz : Sum.elim (z_Re_readNumber_Y4 l G E v1) (z_Re_readNumber_X4 l G E v1) t) : aw_W l M_Re_readNumber G B_Re_readNumber E 4 [(0, .ref 8), (1, .int v1), (2, .int v2), (3, .int v3)] [] xA σ 0 0 := by
  unfold m_Re_readNumber_B4 at h
  refine aw_iload_n (pc := 4) (q := 3) dX7_readNumber_4 rfl ?_
  refine aw_iload_n (pc := 5) (q := 1) dX7_readNumber_5 rfl ?_
  refine aw_icmp_ge (pc := 6) (tgt := 62) dX7_readNumber_6 (by decide) (fun c1 => ?_) (fun c1 => ?_)
  · replace h := aw_ifp c1 h
    refine aw_sub [0, 2, 3] rfl ?_
    cases h
    exact hz
  · replace h := aw_ifn c1 h
    refine aw_aload_n (pc := 9) (q := 0) dX7_readNumber_9 rfl ?_
    refine aw_getC (pc := 10) fd_X7_12.r xA_8 rfl dX7_readNumber_10 ?_
    refine aw_aload_n (pc := 13) (q := 0) dX7_readNumber_13 rfl ?_
    refine aw_getI (pc := 14) fd_X7_70.r xA_8 rfl dX7_readNumber_14 ?_
    obtain ⟨r2, e3, h⟩ := aw_bde h
    refine aw_cV1 (pc := 17) [.int ((σ.1 8 14))] (c_Te_at isTe_9 e3) yy_Te_at.1 wm_294 yy_Te_at.2.1 yy_Te_at.2.2 xA_9 ⟨_, _, rfl⟩ rfl ⟨Nat.le_of_ble_eq_true rfl, Nat.le_of_ble_eq_true rfl⟩ ⟨Nat.zero_le _, Nat.zero_le _⟩ (Nat.le_of_ble_eq_true rfl) dX7_readNumber_17 ?_
    obtain ⟨r4, e5, h⟩ := aw_bde h
    refine aw_cS1 (pc := 20) [.int r2] (c_Re_isDigit e5) yy_Re_isDigit.1 wm_313 yy_Re_isDigit.2 rfl ⟨Nat.le_of_ble_eq_true rfl, Nat.le_of_ble_eq_true rfl⟩ ⟨Nat.zero_le _, Nat.zero_le _⟩ (Nat.le_of_ble_eq_true rfl) dX7_readNumber_20 ?_
    refine aw_if_eq (pc := 23) (tgt := 62) dX7_readNumber_23 (by decide) (fun c6 => ?_) (fun c6 => ?_)
    · replace h := aw_ifp c6 h
      refine aw_sub [0, 2, 3] rfl ?_
      cases h
      exact hz
    · replace h := aw_ifn c6 h
      refine aw_iload_n (pc := 26) (q := 2) dX7_readNumber_26 rfl ?_
      refine aw_bipush (pc := 27) (v := 10) dX7_readNumber_27 (by decide) ?_
      refine aw_imul (pc := 29) dX7_readNumber_29 ?_
      refine aw_aload_n (pc := 30) (q := 0) dX7_readNumber_30 rfl ?_
      refine aw_getC (pc := 31) fd_X7_12.r xA_8 rfl dX7_readNumber_31 ?_
      refine aw_aload_n (pc := 34) (q := 0) dX7_readNumber_34 rfl ?_
      refine aw_getI (pc := 35) fd_X7_70.r xA_8 rfl dX7_readNumber_35 ?_
      obtain ⟨r7, e8, h⟩ := aw_bde h
      refine aw_cV1 (pc := 38) [.int ((σ.1 8 14))] (c_Te_at isTe_9 e8) yy_Te_at.1 wm_294 yy_Te_at.2.1 yy_Te_at.2.2 xA_9 ⟨_, _, rfl⟩ rfl ⟨Nat.le_of_ble_eq_true rfl, Nat.le_of_ble_eq_true rfl⟩ ⟨Nat.zero_le _, Nat.zero_le _⟩ (Nat.le_of_ble_eq_true rfl) dX7_readNumber_38 ?_
      refine aw_iadd (pc := 41) dX7_readNumber_41 ?_
      refine aw_bipush (pc := 42) (v := 48) dX7_readNumber_42 (by decide) ?_
      refine aw_isub (pc := 44) dX7_readNumber_44 ?_
      refine aw_nmI (fun x9 e_x9 => ?_)
      replace h := aw_lte h x9 e_x9
      refine aw_istore_n (pc := 45) [(2, .int x9), (0, .ref 8), (1, .int v1), (3, .int v3)] dX7_readNumber_45 (by decide) rfl ?_
      obtain ⟨x10, e_x10⟩ : ∃ z, z = (v3 + (1 : Int32)) := ⟨_, rfl⟩
      replace h := aw_lte h x10 e_x10
      refine aw_iinc (pc := 46) (q := 3) (v := x10) [(3, .int x10), (2, .int x9), (0, .ref 8), (1, .int v1)] dX7_readNumber_46 rfl e_x10.symm (by decide) rfl ?_
      refine aw_aload_n (pc := 49) (q := 2) dX7_readNumber_49 rfl ?_
      refine aw_dup (pc := 50) dX7_readNumber_50 rfl ?_
      refine aw_getI (pc := 51) fd_X7_70.r xA_8 rfl dX7_readNumber_51 ?_
      refine aw_iconst (pc := 54) (v := 1) dX7_readNumber_54 (by decide) ?_
      refine aw_iadd (pc := 55) dX7_readNumber_55 ?_
      refine aw_putI (pc := 56) fd_X7_70 xA_8 rfl (fun _ => rfl) (fun _ => rfl) dX7_readNumber_56 ?_
      refine aw_nmS (fun s11 e_s11 => ?_)
      replace h := aw_lte h s11 e_s11
      refine aw_goto (pc := 59) (tgt := 4) dX7_readNumber_59 (by decide) ?_
      refine aw_sub [2, 3, 1, 0] rfl ?_
      cases h
      exact hz
set_option maxRecDepth 100000 in
set_option maxHeartbeats 4000000 in
theorem t_Re_readNumber {l : Launch} {G : aw_G} {E : aw_E} {σ : aw_S} {p1 : Int32} {t : (Int32 × aw_S)} (h : m_Re_readNumber σ p1 = some t) (hE : E = (some (.int t.1), xA, t.2)) : aw_W l M_Re_readNumber G B_Re_readNumber E 0 [(0, .ref 8), (1, .int p1)] [] xA σ 0 0 := by
  unfold m_Re_readNumber at h
  refine aw_iconst (pc := 0) (v := 0) dX7_readNumber_0 (by decide) ?_
  refine aw_istore_n (pc := 1) [(2, .int ((0 : Int32))), (0, .ref 8), (1, .int p1)] dX7_readNumber_1 (by decide) rfl ?_
  refine aw_iconst (pc := 2) (v := 0) dX7_readNumber_2 (by decide) ?_
  refine aw_istore_n (pc := 3) [(3, .int ((0 : Int32))), (2, .int ((0 : Int32))), (0, .ref 8), (1, .int p1)] dX7_readNumber_3 (by decide) rfl ?_
  obtain ⟨x12, hl13, h⟩ := aw_bde h
  have K14 : z_Re_readNumber_Y4 l G E p1 x12 := by
    show aw_W l M_Re_readNumber G B_Re_readNumber E 62 [(0, .ref 8), (2, .int x12.1), (3, .int x12.2.1)] [] xA x12.2.2 0 0
    refine aw_iload_n (pc := 62) (q := 2) dX7_readNumber_62 rfl ?_
    refine aw_if_ne (pc := 63) (tgt := 77) dX7_readNumber_63 (by decide) (fun c15 => ?_) (fun c15 => ?_)
    · replace h := aw_ifn c15 h
      refine aw_iload_n (pc := 77) (q := 1) dX7_readNumber_77 rfl ?_
      cases h
      subst hE
      exact aw_iret (v := x12.1) rfl aw_ni ⟨Nat.zero_le _, Nat.zero_le _⟩ dX7_readNumber_78
    · replace h := aw_ifp c15 h
      refine aw_aload_n (pc := 66) (q := 0) dX7_readNumber_66 rfl ?_
      refine aw_aload_n (pc := 67) (q := 0) dX7_readNumber_67 rfl ?_
      refine aw_getI (pc := 68) fd_X7_70.r xA_8 rfl dX7_readNumber_68 ?_
      obtain ⟨r16, s18, e17, h⟩ := aw_bd2e h
      refine aw_cV1 (pc := 71) [.int ((x12.2.2.1 8 14))] (c_Re_refuse e17) yy_Re_refuse.1 wm_286 yy_Re_refuse.2.1 yy_Re_refuse.2.2 xA_8 ⟨_, _, rfl⟩ rfl ⟨Nat.le_of_ble_eq_true rfl, Nat.le_of_ble_eq_true rfl⟩ ⟨Nat.zero_le _, Nat.zero_le _⟩ (Nat.le_of_ble_eq_true rfl) dX7_readNumber_71 ?_
      refine aw_pop (pc := 74) dX7_readNumber_74 rfl ?_
      refine aw_iconst (pc := 75) (v := -1) dX7_readNumber_75 (by decide) ?_
      cases h
      subst hE
      exact aw_iret (v := (-1 : Int32)) rfl aw_ni ⟨Nat.zero_le _, Nat.zero_le _⟩ dX7_readNumber_76
  refine aw_sub [2, 3, 1, 0] rfl ?_
  show z_Re_readNumber_X4 l G E p1 (((0 : Int32), (0 : Int32), σ))
  exact aw_lp_X (Xp := z_Re_readNumber_X4 l G E p1) (Y := z_Re_readNumber_Y4 l G E p1) hl13 K14 (fun s t hf hz => t_Re_readNumber_B4 hf hz)
theorem c_Re_readNumber {l : Launch} {G : aw_G} {σ : aw_S} {p1 : Int32} {t : (Int32 × aw_S)} (h : m_Re_readNumber σ p1 = some t) : aw_Ct l yX7_readNumber M_Re_readNumber G B_Re_readNumber [.ref 8, .int p1] xA σ (some (.int t.1), xA, t.2) := aw_Ct_of (by decide) rfl (fun h => by cases h) (Nat.le_of_ble_eq_true rfl) (t_Re_readNumber h rfl)
/-! LateMover$Reader.readOperand()I -/
set_option maxRecDepth 100000 in
set_option maxHeartbeats 4000000 in
theorem t_Re_readOperand {l : Launch} {G : aw_G} {E : aw_E} {σ : aw_S} {t : (Int32 × aw_S)} (h : m_Re_readOperand σ = some t) (hE : E = (some (.int t.1), xA, t.2)) : aw_W l M_Re_readOperand G B_Re_readOperand E 0 [(0, .ref 8)] [] xA σ 0 0 := by
  unfold m_Re_readOperand at h
  refine aw_aload_n (pc := 0) (q := 0) dX7_readOperand_0 rfl ?_
  refine aw_getC (pc := 1) fd_X7_12.r xA_8 rfl dX7_readOperand_1 ?_
  refine aw_aload_n (pc := 4) (q := 0) dX7_readOperand_4 rfl ?_
  refine aw_getI (pc := 5) fd_X7_70.r xA_8 rfl dX7_readOperand_5 ?_
  obtain ⟨r1, e2, h⟩ := aw_bde h
  refine aw_cV1 (pc := 8) [.int ((σ.1 8 14))] (c_Te_at isTe_9 e2) yy_Te_at.1 wm_294 yy_Te_at.2.1 yy_Te_at.2.2 xA_9 ⟨_, _, rfl⟩ rfl ⟨Nat.le_of_ble_eq_true rfl, Nat.le_of_ble_eq_true rfl⟩ ⟨Nat.zero_le _, Nat.zero_le _⟩ (Nat.le_of_ble_eq_true rfl) dX7_readOperand_8 ?_
  refine aw_istore_n (pc := 11) [(1, .int r1), (0, .ref 8)] dX7_readOperand_11 (by decide) rfl ?_
  refine aw_iload_n (pc := 12) (q := 0) dX7_readOperand_12 rfl ?_
  obtain ⟨r3, e4, h⟩ := aw_bde h
  refine aw_cS1 (pc := 13) [.int r1] (c_Re_isLetter e4) yy_Re_isLetter.1 wm_298 yy_Re_isLetter.2 rfl ⟨Nat.le_of_ble_eq_true rfl, Nat.le_of_ble_eq_true rfl⟩ ⟨Nat.zero_le _, Nat.zero_le _⟩ (Nat.le_of_ble_eq_true rfl) dX7_readOperand_13 ?_
  refine aw_if_eq (pc := 16) (tgt := 34) dX7_readOperand_16 (by decide) (fun c5 => ?_) (fun c5 => ?_)
  · replace h := aw_ifp c5 h
    refine aw_aload_n (pc := 34) (q := 1) dX7_readOperand_34 rfl ?_
    refine aw_iconst (pc := 35) (v := 3) dX7_readOperand_35 (by decide) ?_
    obtain ⟨r6, s8, e7, h⟩ := aw_bd2e h
    refine aw_cV1 (pc := 36) [.int ((3 : Int32))] (c_Re_readNumber e7) yy_Re_readNumber.1 wm_309 yy_Re_readNumber.2.1 yy_Re_readNumber.2.2 xA_8 ⟨_, _, rfl⟩ rfl ⟨Nat.le_of_ble_eq_true rfl, Nat.le_of_ble_eq_true rfl⟩ ⟨Nat.zero_le _, Nat.zero_le _⟩ (Nat.le_of_ble_eq_true rfl) dX7_readOperand_36 ?_
    refine aw_istore_n (pc := 39) [(2, .int r6), (1, .int r1), (0, .ref 8)] dX7_readOperand_39 (by decide) rfl ?_
    refine aw_iload_n (pc := 40) (q := 0) dX7_readOperand_40 rfl ?_
    refine aw_iconst (pc := 41) (v := -1) dX7_readOperand_41 (by decide) ?_
    refine aw_icmp_ne (pc := 42) (tgt := 49) dX7_readOperand_42 (by decide) (fun c9 => ?_) (fun c9 => ?_)
    · replace h := aw_ifn c9 h
      refine aw_iload_n (pc := 49) (q := 0) dX7_readOperand_49 rfl ?_
      refine aw_bipush (pc := 50) (v := 26) dX7_readOperand_50 (by decide) ?_
      refine aw_iadd (pc := 52) dX7_readOperand_52 ?_
      cases h
      subst hE
      exact aw_iret (v := (r6 + (26 : Int32))) rfl aw_ni ⟨Nat.zero_le _, Nat.zero_le _⟩ dX7_readOperand_53
    · replace h := aw_ifp c9 h
      refine aw_iconst (pc := 45) (v := -1) dX7_readOperand_45 (by decide) ?_
      refine aw_goto (pc := 46) (tgt := 53) dX7_readOperand_46 (by decide) ?_
      cases h
      subst hE
      exact aw_iret (v := (-1 : Int32)) rfl aw_ni ⟨Nat.zero_le _, Nat.zero_le _⟩ dX7_readOperand_53
  · replace h := aw_ifn c5 h
    refine aw_aload_n (pc := 19) (q := 1) dX7_readOperand_19 rfl ?_
    refine aw_dup (pc := 20) dX7_readOperand_20 rfl ?_
    refine aw_getI (pc := 21) fd_X7_70.r xA_8 rfl dX7_readOperand_21 ?_
    refine aw_iconst (pc := 24) (v := 1) dX7_readOperand_24 (by decide) ?_
    refine aw_iadd (pc := 25) dX7_readOperand_25 ?_
    refine aw_putI (pc := 26) fd_X7_70 xA_8 rfl (fun _ => rfl) (fun _ => rfl) dX7_readOperand_26 ?_
    refine aw_nmS (fun s10 e_s10 => ?_)
    replace h := aw_lte h s10 e_s10
    refine aw_iload_n (pc := 29) (q := 0) dX7_readOperand_29 rfl ?_
    refine aw_bipush (pc := 30) (v := 97) dX7_readOperand_30 (by decide) ?_
    refine aw_isub (pc := 32) dX7_readOperand_32 ?_
    cases h
    subst hE
    exact aw_iret (v := (r1 - (97 : Int32))) rfl aw_ni ⟨Nat.zero_le _, Nat.zero_le _⟩ dX7_readOperand_33
theorem c_Re_readOperand {l : Launch} {G : aw_G} {σ : aw_S} {t : (Int32 × aw_S)} (h : m_Re_readOperand σ = some t) : aw_Ct l yX7_readOperand M_Re_readOperand G B_Re_readOperand [.ref 8] xA σ (some (.int t.1), xA, t.2) := aw_Ct_of (by decide) rfl (fun h => by cases h) (Nat.le_of_ble_eq_true rfl) (t_Re_readOperand h rfl)
/-! LateMover$Reader.isOperator(I)Z -/
set_option maxRecDepth 100000 in
set_option maxHeartbeats 4000000 in
theorem t_Re_isOperator {l : Launch} {G : aw_G} {E : aw_E} {σ : aw_S} {p0 : Int32} {t : Int32} (h : m_Re_isOperator σ p0 = some t) (hE : E = (some (.int t), xA, σ)) : aw_W l M_Re_isOperator G B_Re_isOperator E 0 [(0, .int p0)] [] xA σ 0 0 := by
  unfold m_Re_isOperator at h
  refine aw_iload_n (pc := 0) (q := 0) dX7_isOperator_0 rfl ?_
  by_cases c1 : p0 = (37 : Int32)
  · replace h := aw_ifp c1 h
    refine aw_tableIn (pc := 1) (tgt := 112) dX7_isOperator_1 0 (by rw [c1]; decide) (by decide) rfl (by decide) ?_
    refine aw_iconst (pc := 112) (v := 1) dX7_isOperator_112 (by decide) ?_
    cases h
    subst hE
    exact aw_iret (v := (1 : Int32)) rfl aw_n1 ⟨Nat.zero_le _, Nat.zero_le _⟩ dX7_isOperator_113
  · replace h := aw_ifn c1 h
    by_cases c2 : p0 = (38 : Int32)
    · replace h := aw_ifp c2 h
      refine aw_tableIn (pc := 1) (tgt := 112) dX7_isOperator_1 1 (by rw [c2]; decide) (by decide) rfl (by decide) ?_
      refine aw_iconst (pc := 112) (v := 1) dX7_isOperator_112 (by decide) ?_
      cases h
      subst hE
      exact aw_iret (v := (1 : Int32)) rfl aw_n1 ⟨Nat.zero_le _, Nat.zero_le _⟩ dX7_isOperator_113
    · replace h := aw_ifn c2 h
      by_cases c3 : p0 = (39 : Int32)
      · replace h := aw_ifp c3 h
        refine aw_tableIn (pc := 1) (tgt := 114) dX7_isOperator_1 2 (by rw [c3]; decide) (by decide) rfl (by decide) ?_
        refine aw_iconst (pc := 114) (v := 0) dX7_isOperator_114 (by decide) ?_
        cases h
        subst hE
        exact aw_iret (v := (0 : Int32)) rfl aw_n0 ⟨Nat.zero_le _, Nat.zero_le _⟩ dX7_isOperator_115
      · replace h := aw_ifn c3 h
        by_cases c4 : p0 = (40 : Int32)
        · replace h := aw_ifp c4 h
          refine aw_tableIn (pc := 1) (tgt := 114) dX7_isOperator_1 3 (by rw [c4]; decide) (by decide) rfl (by decide) ?_
          refine aw_iconst (pc := 114) (v := 0) dX7_isOperator_114 (by decide) ?_
          cases h
          subst hE
          exact aw_iret (v := (0 : Int32)) rfl aw_n0 ⟨Nat.zero_le _, Nat.zero_le _⟩ dX7_isOperator_115
        · replace h := aw_ifn c4 h
          by_cases c5 : p0 = (41 : Int32)
          · replace h := aw_ifp c5 h
            refine aw_tableIn (pc := 1) (tgt := 114) dX7_isOperator_1 4 (by rw [c5]; decide) (by decide) rfl (by decide) ?_
            refine aw_iconst (pc := 114) (v := 0) dX7_isOperator_114 (by decide) ?_
            cases h
            subst hE
            exact aw_iret (v := (0 : Int32)) rfl aw_n0 ⟨Nat.zero_le _, Nat.zero_le _⟩ dX7_isOperator_115
          · replace h := aw_ifn c5 h
            by_cases c6 : p0 = (42 : Int32)
            · replace h := aw_ifp c6 h
              refine aw_tableIn (pc := 1) (tgt := 112) dX7_isOperator_1 5 (by rw [c6]; decide) (by decide) rfl (by decide) ?_
              refine aw_iconst (pc := 112) (v := 1) dX7_isOperator_112 (by decide) ?_
              cases h
              subst hE
              exact aw_iret (v := (1 : Int32)) rfl aw_n1 ⟨Nat.zero_le _, Nat.zero_le _⟩ dX7_isOperator_113
            · replace h := aw_ifn c6 h
              by_cases c7 : p0 = (43 : Int32)
              · replace h := aw_ifp c7 h
                refine aw_tableIn (pc := 1) (tgt := 112) dX7_isOperator_1 6 (by rw [c7]; decide) (by decide) rfl (by decide) ?_
                refine aw_iconst (pc := 112) (v := 1) dX7_isOperator_112 (by decide) ?_
                cases h
                subst hE
                exact aw_iret (v := (1 : Int32)) rfl aw_n1 ⟨Nat.zero_le _, Nat.zero_le _⟩ dX7_isOperator_113
              · replace h := aw_ifn c7 h
                by_cases c8 : p0 = (44 : Int32)
                · replace h := aw_ifp c8 h
                  refine aw_tableIn (pc := 1) (tgt := 114) dX7_isOperator_1 7 (by rw [c8]; decide) (by decide) rfl (by decide) ?_
                  refine aw_iconst (pc := 114) (v := 0) dX7_isOperator_114 (by decide) ?_
                  cases h
                  subst hE
                  exact aw_iret (v := (0 : Int32)) rfl aw_n0 ⟨Nat.zero_le _, Nat.zero_le _⟩ dX7_isOperator_115
                · replace h := aw_ifn c8 h
                  by_cases c9 : p0 = (45 : Int32)
                  · replace h := aw_ifp c9 h
                    refine aw_tableIn (pc := 1) (tgt := 112) dX7_isOperator_1 8 (by rw [c9]; decide) (by decide) rfl (by decide) ?_
                    refine aw_iconst (pc := 112) (v := 1) dX7_isOperator_112 (by decide) ?_
                    cases h
                    subst hE
                    exact aw_iret (v := (1 : Int32)) rfl aw_n1 ⟨Nat.zero_le _, Nat.zero_le _⟩ dX7_isOperator_113
                  · replace h := aw_ifn c9 h
                    by_cases c10 : p0 = (46 : Int32)
                    · replace h := aw_ifp c10 h
                      refine aw_tableIn (pc := 1) (tgt := 114) dX7_isOperator_1 9 (by rw [c10]; decide) (by decide) rfl (by decide) ?_
                      refine aw_iconst (pc := 114) (v := 0) dX7_isOperator_114 (by decide) ?_
                      cases h
                      subst hE
                      exact aw_iret (v := (0 : Int32)) rfl aw_n0 ⟨Nat.zero_le _, Nat.zero_le _⟩ dX7_isOperator_115
                    · replace h := aw_ifn c10 h
                      by_cases c11 : p0 = (47 : Int32)
                      · replace h := aw_ifp c11 h
                        refine aw_tableIn (pc := 1) (tgt := 112) dX7_isOperator_1 10 (by rw [c11]; decide) (by decide) rfl (by decide) ?_
                        refine aw_iconst (pc := 112) (v := 1) dX7_isOperator_112 (by decide) ?_
                        cases h
                        subst hE
                        exact aw_iret (v := (1 : Int32)) rfl aw_n1 ⟨Nat.zero_le _, Nat.zero_le _⟩ dX7_isOperator_113
                      · replace h := aw_ifn c11 h
                        by_cases c12 : p0 = (48 : Int32)
                        · replace h := aw_ifp c12 h
                          refine aw_tableIn (pc := 1) (tgt := 114) dX7_isOperator_1 11 (by rw [c12]; decide) (by decide) rfl (by decide) ?_
                          refine aw_iconst (pc := 114) (v := 0) dX7_isOperator_114 (by decide) ?_
                          cases h
                          subst hE
                          exact aw_iret (v := (0 : Int32)) rfl aw_n0 ⟨Nat.zero_le _, Nat.zero_le _⟩ dX7_isOperator_115
                        · replace h := aw_ifn c12 h
                          by_cases c13 : p0 = (49 : Int32)
                          · replace h := aw_ifp c13 h
                            refine aw_tableIn (pc := 1) (tgt := 114) dX7_isOperator_1 12 (by rw [c13]; decide) (by decide) rfl (by decide) ?_
                            refine aw_iconst (pc := 114) (v := 0) dX7_isOperator_114 (by decide) ?_
                            cases h
                            subst hE
                            exact aw_iret (v := (0 : Int32)) rfl aw_n0 ⟨Nat.zero_le _, Nat.zero_le _⟩ dX7_isOperator_115
                          · replace h := aw_ifn c13 h
                            by_cases c14 : p0 = (50 : Int32)
                            · replace h := aw_ifp c14 h
                              refine aw_tableIn (pc := 1) (tgt := 114) dX7_isOperator_1 13 (by rw [c14]; decide) (by decide) rfl (by decide) ?_
                              refine aw_iconst (pc := 114) (v := 0) dX7_isOperator_114 (by decide) ?_
                              cases h
                              subst hE
                              exact aw_iret (v := (0 : Int32)) rfl aw_n0 ⟨Nat.zero_le _, Nat.zero_le _⟩ dX7_isOperator_115
                            · replace h := aw_ifn c14 h
                              by_cases c15 : p0 = (51 : Int32)
                              · replace h := aw_ifp c15 h
                                refine aw_tableIn (pc := 1) (tgt := 114) dX7_isOperator_1 14 (by rw [c15]; decide) (by decide) rfl (by decide) ?_
                                refine aw_iconst (pc := 114) (v := 0) dX7_isOperator_114 (by decide) ?_
                                cases h
                                subst hE
                                exact aw_iret (v := (0 : Int32)) rfl aw_n0 ⟨Nat.zero_le _, Nat.zero_le _⟩ dX7_isOperator_115
                              · replace h := aw_ifn c15 h
                                by_cases c16 : p0 = (52 : Int32)
                                · replace h := aw_ifp c16 h
                                  refine aw_tableIn (pc := 1) (tgt := 114) dX7_isOperator_1 15 (by rw [c16]; decide) (by decide) rfl (by decide) ?_
                                  refine aw_iconst (pc := 114) (v := 0) dX7_isOperator_114 (by decide) ?_
                                  cases h
                                  subst hE
                                  exact aw_iret (v := (0 : Int32)) rfl aw_n0 ⟨Nat.zero_le _, Nat.zero_le _⟩ dX7_isOperator_115
                                · replace h := aw_ifn c16 h
                                  by_cases c17 : p0 = (53 : Int32)
                                  · replace h := aw_ifp c17 h
                                    refine aw_tableIn (pc := 1) (tgt := 114) dX7_isOperator_1 16 (by rw [c17]; decide) (by decide) rfl (by decide) ?_
                                    refine aw_iconst (pc := 114) (v := 0) dX7_isOperator_114 (by decide) ?_
                                    cases h
                                    subst hE
                                    exact aw_iret (v := (0 : Int32)) rfl aw_n0 ⟨Nat.zero_le _, Nat.zero_le _⟩ dX7_isOperator_115
                                  · replace h := aw_ifn c17 h
                                    by_cases c18 : p0 = (54 : Int32)
                                    · replace h := aw_ifp c18 h
                                      refine aw_tableIn (pc := 1) (tgt := 114) dX7_isOperator_1 17 (by rw [c18]; decide) (by decide) rfl (by decide) ?_
                                      refine aw_iconst (pc := 114) (v := 0) dX7_isOperator_114 (by decide) ?_
                                      cases h
                                      subst hE
                                      exact aw_iret (v := (0 : Int32)) rfl aw_n0 ⟨Nat.zero_le _, Nat.zero_le _⟩ dX7_isOperator_115
                                    · replace h := aw_ifn c18 h
                                      by_cases c19 : p0 = (55 : Int32)
                                      · replace h := aw_ifp c19 h
                                        refine aw_tableIn (pc := 1) (tgt := 114) dX7_isOperator_1 18 (by rw [c19]; decide) (by decide) rfl (by decide) ?_
                                        refine aw_iconst (pc := 114) (v := 0) dX7_isOperator_114 (by decide) ?_
                                        cases h
                                        subst hE
                                        exact aw_iret (v := (0 : Int32)) rfl aw_n0 ⟨Nat.zero_le _, Nat.zero_le _⟩ dX7_isOperator_115
                                      · replace h := aw_ifn c19 h
                                        by_cases c20 : p0 = (56 : Int32)
                                        · replace h := aw_ifp c20 h
                                          refine aw_tableIn (pc := 1) (tgt := 114) dX7_isOperator_1 19 (by rw [c20]; decide) (by decide) rfl (by decide) ?_
                                          refine aw_iconst (pc := 114) (v := 0) dX7_isOperator_114 (by decide) ?_
                                          cases h
                                          subst hE
                                          exact aw_iret (v := (0 : Int32)) rfl aw_n0 ⟨Nat.zero_le _, Nat.zero_le _⟩ dX7_isOperator_115
                                        · replace h := aw_ifn c20 h
                                          by_cases c21 : p0 = (57 : Int32)
                                          · replace h := aw_ifp c21 h
                                            refine aw_tableIn (pc := 1) (tgt := 114) dX7_isOperator_1 20 (by rw [c21]; decide) (by decide) rfl (by decide) ?_
                                            refine aw_iconst (pc := 114) (v := 0) dX7_isOperator_114 (by decide) ?_
                                            cases h
                                            subst hE
                                            exact aw_iret (v := (0 : Int32)) rfl aw_n0 ⟨Nat.zero_le _, Nat.zero_le _⟩ dX7_isOperator_115
                                          · replace h := aw_ifn c21 h
                                            by_cases c22 : p0 = (58 : Int32)
                                            · replace h := aw_ifp c22 h
                                              refine aw_tableIn (pc := 1) (tgt := 114) dX7_isOperator_1 21 (by rw [c22]; decide) (by decide) rfl (by decide) ?_
                                              refine aw_iconst (pc := 114) (v := 0) dX7_isOperator_114 (by decide) ?_
                                              cases h
                                              subst hE
                                              exact aw_iret (v := (0 : Int32)) rfl aw_n0 ⟨Nat.zero_le _, Nat.zero_le _⟩ dX7_isOperator_115
                                            · replace h := aw_ifn c22 h
                                              by_cases c23 : p0 = (59 : Int32)
                                              · replace h := aw_ifp c23 h
                                                refine aw_tableIn (pc := 1) (tgt := 114) dX7_isOperator_1 22 (by rw [c23]; decide) (by decide) rfl (by decide) ?_
                                                refine aw_iconst (pc := 114) (v := 0) dX7_isOperator_114 (by decide) ?_
                                                cases h
                                                subst hE
                                                exact aw_iret (v := (0 : Int32)) rfl aw_n0 ⟨Nat.zero_le _, Nat.zero_le _⟩ dX7_isOperator_115
                                              · replace h := aw_ifn c23 h
                                                by_cases c24 : p0 = (60 : Int32)
                                                · replace h := aw_ifp c24 h
                                                  refine aw_tableIn (pc := 1) (tgt := 112) dX7_isOperator_1 23 (by rw [c24]; decide) (by decide) rfl (by decide) ?_
                                                  refine aw_iconst (pc := 112) (v := 1) dX7_isOperator_112 (by decide) ?_
                                                  cases h
                                                  subst hE
                                                  exact aw_iret (v := (1 : Int32)) rfl aw_n1 ⟨Nat.zero_le _, Nat.zero_le _⟩ dX7_isOperator_113
                                                · replace h := aw_ifn c24 h
                                                  refine aw_tableOut (pc := 1) (tgt := 114) dX7_isOperator_1 (aw_tout 37 60 (fun k h1 h2 => by
                                                    have hk : k = 37 ∨ k = 38 ∨ k = 39 ∨ k = 40 ∨ k = 41 ∨ k = 42 ∨ k = 43 ∨ k = 44 ∨ k = 45 ∨ k = 46 ∨ k = 47 ∨ k = 48 ∨ k = 49 ∨ k = 50 ∨ k = 51 ∨ k = 52 ∨ k = 53 ∨ k = 54 ∨ k = 55 ∨ k = 56 ∨ k = 57 ∨ k = 58 ∨ k = 59 ∨ k = 60 := by omega
                                                    rcases hk with rfl | rfl | rfl | rfl | rfl | rfl | rfl | rfl | rfl | rfl | rfl | rfl | rfl | rfl | rfl | rfl | rfl | rfl | rfl | rfl | rfl | rfl | rfl | rfl
                                                    · exact fun e => c1 (e.trans (by decide))
                                                    · exact fun e => c2 (e.trans (by decide))
                                                    · exact fun e => c3 (e.trans (by decide))
                                                    · exact fun e => c4 (e.trans (by decide))
                                                    · exact fun e => c5 (e.trans (by decide))
                                                    · exact fun e => c6 (e.trans (by decide))
                                                    · exact fun e => c7 (e.trans (by decide))
                                                    · exact fun e => c8 (e.trans (by decide))
                                                    · exact fun e => c9 (e.trans (by decide))
                                                    · exact fun e => c10 (e.trans (by decide))
                                                    · exact fun e => c11 (e.trans (by decide))
                                                    · exact fun e => c12 (e.trans (by decide))
                                                    · exact fun e => c13 (e.trans (by decide))
                                                    · exact fun e => c14 (e.trans (by decide))
                                                    · exact fun e => c15 (e.trans (by decide))
                                                    · exact fun e => c16 (e.trans (by decide))
                                                    · exact fun e => c17 (e.trans (by decide))
                                                    · exact fun e => c18 (e.trans (by decide))
                                                    · exact fun e => c19 (e.trans (by decide))
                                                    · exact fun e => c20 (e.trans (by decide))
                                                    · exact fun e => c21 (e.trans (by decide))
                                                    · exact fun e => c22 (e.trans (by decide))
                                                    · exact fun e => c23 (e.trans (by decide))
                                                    · exact fun e => c24 (e.trans (by decide)))) (by decide) ?_
                                                  refine aw_iconst (pc := 114) (v := 0) dX7_isOperator_114 (by decide) ?_
                                                  cases h
                                                  subst hE
                                                  exact aw_iret (v := (0 : Int32)) rfl aw_n0 ⟨Nat.zero_le _, Nat.zero_le _⟩ dX7_isOperator_115
theorem c_Re_isOperator {l : Launch} {G : aw_G} {σ : aw_S} {p0 : Int32} {t : Int32} (h : m_Re_isOperator σ p0 = some t) : aw_Ct l yX7_isOperator M_Re_isOperator G B_Re_isOperator [.int p0] xA σ (some (.int t), xA, σ) := aw_Ct_of (by decide) rfl (fun h => by cases h) (Nat.le_of_ble_eq_true rfl) (t_Re_isOperator h rfl)
/-! LateMover$Expressions.numberOf(III)I -/
def z_Ex_numberOf_X3 (l : Launch) (G : aw_G) (E : aw_E) (σ : aw_S) (v0 : Nat) (v1 : Int32) (v2 : Int32) (v3 : Int32) (s : Int32) : Prop := aw_W l M_Ex_numberOf G B_Ex_numberOf E 3 [(0, .ref v0), (1, .int v1), (2, .int v2), (3, .int v3), (4, .int s)] [] xA σ 0 0
def z_Ex_numberOf_Y3 (l : Launch) (G : aw_G) (E : aw_E) (σ : aw_S) (v0 : Nat) (v1 : Int32) (v2 : Int32) (v3 : Int32) (x : (((Int32 × aw_S)) ⊕ (Unit))) : Prop := (Sum.elim (fun r0 => E = (some (.int r0.1), xA, r0.2)) (fun r1 => aw_W l M_Ex_numberOf G B_Ex_numberOf E 61 [(0, .ref v0), (1, .int v1), (2, .int v2), (3, .int v3)] [] xA σ 0 0)) x
set_option maxRecDepth 100000 in
set_option maxHeartbeats 4000000 in
theorem t_Ex_numberOf_J55 {l : Launch} {G : aw_G} {E : aw_E} {σ : aw_S} {v0 : Nat} {v1 : Int32} {v2 : Int32} {v3 : Int32} {v4 : Int32} (h_v0 : isEx v0) {t : (((Int32 × aw_S)) ⊕ (Unit)) ⊕ Int32} (h : m_Ex_numberOf_J55 σ v0 v1 v2 v3 v4 = some t) (hz : Sum.elim (z_Ex_numberOf_Y3 l G E σ v0 v1 v2 v3) (z_Ex_numberOf_X3 l G E σ v0 v1 v2 v3) t) : aw_W l M_Ex_numberOf G B_Ex_numberOf E 55 [(0, .ref v0), (1, .int v1), (2, .int v2), (3, .int v3), (4, .int v4)] [] xA σ 0 0 := by
  unfold m_Ex_numberOf_J55 at h
  obtain ⟨x5, e_x5⟩ : ∃ z, z = (v4 + (1 : Int32)) := ⟨_, rfl⟩
  replace h := aw_lte h x5 e_x5
  refine aw_iinc (pc := 55) (q := 4) (v := x5) [(4, .int x5), (0, .ref v0), (1, .int v1), (2, .int v2), (3, .int v3)] dX0_numberOf_55 rfl e_x5.symm (by decide) rfl ?_
  refine aw_goto (pc := 58) (tgt := 3) dX0_numberOf_58 (by decide) ?_
  refine aw_sub [1, 2, 3, 4, 0] rfl ?_
  cases h
  exact hz
set_option maxRecDepth 100000 in
set_option maxHeartbeats 4000000 in
theorem t_Ex_numberOf_B3 {l : Launch} {G : aw_G} {E : aw_E} {σ : aw_S} {v0 : Nat} {v1 : Int32} {v2 : Int32} {v3 : Int32} {v4 : Int32} (h_v0 : isEx v0) {t : (((Int32 × aw_S)) ⊕ (Unit)) ⊕ Int32} (h : m_Ex_numberOf_B3 σ v0 v1 v2 v3 v4 = some t) (hz : Sum.elim (z_Ex_numberOf_Y3 l G E σ v0 v1 v2 v3) (z_Ex_numberOf_X3 l G E σ v0 v1 v2 v3) t) : aw_W l M_Ex_numberOf G B_Ex_numberOf E 3 [(0, .ref v0), (1, .int v1), (2, .int v2), (3, .int v3), (4, .int v4)] [] xA σ 0 0 := by
  unfold m_Ex_numberOf_B3 at h
  refine aw_iload (pc := 3) (q := 4) dX0_numberOf_3 rfl ?_
  refine aw_aload_n (pc := 5) (q := 0) dX0_numberOf_5 rfl ?_
  refine aw_getI (pc := 6) fd_X0_21.r h_v0.1 rfl dX0_numberOf_6 ?_
  refine aw_icmp_ge (pc := 9) (tgt := 61) dX0_numberOf_9 (by decide) (fun c1 => ?_) (fun c1 => ?_)
  · replace h := aw_ifp c1 h
    refine aw_sub [0, 1, 2, 3] rfl ?_
    cases h
    exact hz
  · replace h := aw_ifn c1 h
    refine aw_iload (pc := 12) (q := 4) dX0_numberOf_12 rfl ?_
    refine aw_bipush (pc := 14) (v := 24) dX0_numberOf_14 (by decide) ?_
    refine aw_icmp_ge (pc := 16) (tgt := 61) dX0_numberOf_16 (by decide) (fun c2 => ?_) (fun c2 => ?_)
    · replace h := aw_ifp c2 h
      refine aw_sub [0, 1, 2, 3] rfl ?_
      cases h
      exact hz
    · replace h := aw_ifn c2 h
      refine aw_aload_n (pc := 19) (q := 0) dX0_numberOf_19 rfl ?_
      refine aw_getC (pc := 20) fd_X0_9.r h_v0.1 rfl dX0_numberOf_20 ?_
      refine aw_iload (pc := 23) (q := 4) dX0_numberOf_23 rfl ?_
      obtain ⟨g3, h⟩ := aw_gde h
      refine aw_iald (pc := 25) h_v0.2.1 g3 dX0_numberOf_25 ?_
      refine aw_iload_n (pc := 26) (q := 1) dX0_numberOf_26 rfl ?_
      refine aw_icmp_ne (pc := 27) (tgt := 55) dX0_numberOf_27 (by decide) (fun c4 => ?_) (fun c4 => ?_)
      · replace h := aw_ifn c4 h
        exact t_Ex_numberOf_J55 h_v0 h hz
      · replace h := aw_ifp c4 h
        refine aw_aload_n (pc := 30) (q := 0) dX0_numberOf_30 rfl ?_
        refine aw_getC (pc := 31) fd_X0_15.r h_v0.1 rfl dX0_numberOf_31 ?_
        refine aw_iload (pc := 34) (q := 4) dX0_numberOf_34 rfl ?_
        obtain ⟨g6, h⟩ := aw_gde h
        refine aw_iald (pc := 36) h_v0.2.2.1 g6 dX0_numberOf_36 ?_
        refine aw_iload_n (pc := 37) (q := 2) dX0_numberOf_37 rfl ?_
        refine aw_icmp_ne (pc := 38) (tgt := 55) dX0_numberOf_38 (by decide) (fun c7 => ?_) (fun c7 => ?_)
        · replace h := aw_ifn c7 h
          exact t_Ex_numberOf_J55 h_v0 h hz
        · replace h := aw_ifp c7 h
          refine aw_aload_n (pc := 41) (q := 0) dX0_numberOf_41 rfl ?_
          refine aw_getC (pc := 42) fd_X0_18.r h_v0.1 rfl dX0_numberOf_42 ?_
          refine aw_iload (pc := 45) (q := 4) dX0_numberOf_45 rfl ?_
          obtain ⟨g8, h⟩ := aw_gde h
          refine aw_iald (pc := 47) h_v0.2.2.2 g8 dX0_numberOf_47 ?_
          refine aw_iload_n (pc := 48) (q := 3) dX0_numberOf_48 rfl ?_
          refine aw_icmp_ne (pc := 49) (tgt := 55) dX0_numberOf_49 (by decide) (fun c9 => ?_) (fun c9 => ?_)
          · replace h := aw_ifn c9 h
            exact t_Ex_numberOf_J55 h_v0 h hz
          · replace h := aw_ifp c9 h
            refine aw_iload (pc := 52) (q := 4) dX0_numberOf_52 rfl ?_
            cases h
            have hE : E = _ := hz
            subst hE
            exact aw_iret (v := _) rfl aw_ni ⟨Nat.zero_le _, Nat.zero_le _⟩ dX0_numberOf_54
set_option maxRecDepth 100000 in
set_option maxHeartbeats 4000000 in
theorem t_Ex_numberOf {l : Launch} {G : aw_G} {E : aw_E} {σ : aw_S} {o : Nat} {p1 : Int32} {p2 : Int32} {p3 : Int32} (h_o : isEx o) {t : (Int32 × aw_S)} (h : m_Ex_numberOf σ o p1 p2 p3 = some t) (hE : E = (some (.int t.1), xA, t.2)) : aw_W l M_Ex_numberOf G B_Ex_numberOf E 0 [(0, .ref o), (1, .int p1), (2, .int p2), (3, .int p3)] [] xA σ 0 0 := by
  unfold m_Ex_numberOf at h
  refine aw_iconst (pc := 0) (v := 0) dX0_numberOf_0 (by decide) ?_
  refine aw_istore (pc := 1) [(4, .int ((0 : Int32))), (0, .ref o), (1, .int p1), (2, .int p2), (3, .int p3)] dX0_numberOf_1 (by decide) rfl ?_
  obtain ⟨x10, hl11, h⟩ := aw_bde h
  have K12 : z_Ex_numberOf_Y3 l G E σ o p1 p2 p3 x10 := by
    cases x10 with
    | inl y13 =>
      replace h := aw_eL h
      show E = _
      cases h
      exact hE
    | inr y14 =>
      replace h := aw_eR h
      show aw_W l M_Ex_numberOf G B_Ex_numberOf E 61 [(0, .ref o), (1, .int p1), (2, .int p2), (3, .int p3)] [] xA σ 0 0
      refine aw_aload_n (pc := 61) (q := 0) dX0_numberOf_61 rfl ?_
      refine aw_getI (pc := 62) fd_X0_21.r h_o.1 rfl dX0_numberOf_62 ?_
      refine aw_if_lt (pc := 65) (tgt := 77) dX0_numberOf_65 (by decide) (fun c15 => ?_) (fun c15 => ?_)
      · replace h := aw_ifp c15 h
        refine aw_iconst (pc := 77) (v := -1) dX0_numberOf_77 (by decide) ?_
        cases h
        subst hE
        exact aw_iret (v := (-1 : Int32)) rfl aw_ni ⟨Nat.zero_le _, Nat.zero_le _⟩ dX0_numberOf_78
      · replace h := aw_ifn c15 h
        refine aw_aload_n (pc := 68) (q := 0) dX0_numberOf_68 rfl ?_
        refine aw_getI (pc := 69) fd_X0_21.r h_o.1 rfl dX0_numberOf_69 ?_
        refine aw_bipush (pc := 72) (v := 24) dX0_numberOf_72 (by decide) ?_
        refine aw_icmp_lt (pc := 74) (tgt := 79) dX0_numberOf_74 (by decide) (fun c16 => ?_) (fun c16 => ?_)
        · replace h := aw_ifp c16 h
          refine aw_aload_n (pc := 79) (q := 0) dX0_numberOf_79 rfl ?_
          refine aw_getC (pc := 80) fd_X0_9.r h_o.1 rfl dX0_numberOf_80 ?_
          refine aw_aload_n (pc := 83) (q := 0) dX0_numberOf_83 rfl ?_
          refine aw_getI (pc := 84) fd_X0_21.r h_o.1 rfl dX0_numberOf_84 ?_
          refine aw_iload_n (pc := 87) (q := 1) dX0_numberOf_87 rfl ?_
          obtain ⟨g17, h⟩ := aw_gde h
          refine aw_iast (pc := 88) h_o.2.1 g17 dX0_numberOf_88 ?_
          refine aw_nmS (fun s18 e_s18 => ?_)
          replace h := aw_lte h s18 e_s18
          refine aw_aload_n (pc := 89) (q := 0) dX0_numberOf_89 rfl ?_
          refine aw_getC (pc := 90) fd_X0_15.r h_o.1 rfl dX0_numberOf_90 ?_
          refine aw_aload_n (pc := 93) (q := 0) dX0_numberOf_93 rfl ?_
          refine aw_getI (pc := 94) fd_X0_21.r h_o.1 rfl dX0_numberOf_94 ?_
          refine aw_iload_n (pc := 97) (q := 2) dX0_numberOf_97 rfl ?_
          obtain ⟨g19, h⟩ := aw_gde h
          refine aw_iast (pc := 98) h_o.2.2.1 g19 dX0_numberOf_98 ?_
          refine aw_nmS (fun s20 e_s20 => ?_)
          replace h := aw_lte h s20 e_s20
          refine aw_aload_n (pc := 99) (q := 0) dX0_numberOf_99 rfl ?_
          refine aw_getC (pc := 100) fd_X0_18.r h_o.1 rfl dX0_numberOf_100 ?_
          refine aw_aload_n (pc := 103) (q := 0) dX0_numberOf_103 rfl ?_
          refine aw_getI (pc := 104) fd_X0_21.r h_o.1 rfl dX0_numberOf_104 ?_
          refine aw_iload_n (pc := 107) (q := 3) dX0_numberOf_107 rfl ?_
          obtain ⟨g21, h⟩ := aw_gde h
          refine aw_iast (pc := 108) h_o.2.2.2 g21 dX0_numberOf_108 ?_
          refine aw_nmS (fun s22 e_s22 => ?_)
          replace h := aw_lte h s22 e_s22
          refine aw_aload_n (pc := 109) (q := 0) dX0_numberOf_109 rfl ?_
          refine aw_dup (pc := 110) dX0_numberOf_110 rfl ?_
          refine aw_getI (pc := 111) fd_X0_21.r h_o.1 rfl dX0_numberOf_111 ?_
          refine aw_iconst (pc := 114) (v := 1) dX0_numberOf_114 (by decide) ?_
          refine aw_iadd (pc := 115) dX0_numberOf_115 ?_
          refine aw_putI (pc := 116) fd_X0_21 h_o.1 rfl (fun _ => rfl) (fun _ => rfl) dX0_numberOf_116 ?_
          refine aw_nmS (fun s23 e_s23 => ?_)
          replace h := aw_lte h s23 e_s23
          refine aw_aload_n (pc := 119) (q := 0) dX0_numberOf_119 rfl ?_
          refine aw_getI (pc := 120) fd_X0_21.r h_o.1 rfl dX0_numberOf_120 ?_
          refine aw_iconst (pc := 123) (v := 1) dX0_numberOf_123 (by decide) ?_
          refine aw_isub (pc := 124) dX0_numberOf_124 ?_
          cases h
          subst hE
          exact aw_iret (v := ((s23.1 o 3) - (1 : Int32))) rfl aw_ni ⟨Nat.zero_le _, Nat.zero_le _⟩ dX0_numberOf_125
        · replace h := aw_ifn c16 h
          refine aw_iconst (pc := 77) (v := -1) dX0_numberOf_77 (by decide) ?_
          cases h
          subst hE
          exact aw_iret (v := (-1 : Int32)) rfl aw_ni ⟨Nat.zero_le _, Nat.zero_le _⟩ dX0_numberOf_78
  refine aw_sub [1, 2, 3, 4, 0] rfl ?_
  show z_Ex_numberOf_X3 l G E σ o p1 p2 p3 ((0 : Int32))
  exact aw_lp_X (Xp := z_Ex_numberOf_X3 l G E σ o p1 p2 p3) (Y := z_Ex_numberOf_Y3 l G E σ o p1 p2 p3) hl11 K12 (fun s t hf hz => t_Ex_numberOf_B3 h_o hf hz)
theorem c_Ex_numberOf {l : Launch} {G : aw_G} {σ : aw_S} {o : Nat} {p1 : Int32} {p2 : Int32} {p3 : Int32} (h_o : isEx o) {t : (Int32 × aw_S)} (h : m_Ex_numberOf σ o p1 p2 p3 = some t) : aw_Ct l yX0_numberOf M_Ex_numberOf G B_Ex_numberOf [.ref o, .int p1, .int p2, .int p3] xA σ (some (.int t.1), xA, t.2) := aw_Ct_of (by decide) rfl (fun h => by cases h) (Nat.le_of_ble_eq_true rfl) (t_Ex_numberOf h_o h rfl)
/-! LateMover$Reader.addLine(I)Z -/
set_option maxRecDepth 100000 in
set_option maxHeartbeats 4000000 in
theorem t_Re_addLine_J16 {l : Launch} {G : aw_G} {E : aw_E} {σ : aw_S} {t : (Int32 × aw_S)} (h : m_Re_addLine_J16 σ = some t) (hE : E = (some (.int t.1), xA, t.2)) : aw_W l M_Re_addLine G B_Re_addLine E 16 [(0, .ref 8)] [] xA σ 0 0 := by
  unfold m_Re_addLine_J16 at h
  refine aw_aload_n (pc := 16) (q := 0) dX7_addLine_16 rfl ?_
  refine aw_aload_n (pc := 17) (q := 0) dX7_addLine_17 rfl ?_
  refine aw_getI (pc := 18) fd_X7_70.r xA_8 rfl dX7_addLine_18 ?_
  obtain ⟨r2, s4, e3, h⟩ := aw_bd2e h
  refine aw_cV1 (pc := 21) [.int ((σ.1 8 14))] (c_Re_refuse e3) yy_Re_refuse.1 wm_286 yy_Re_refuse.2.1 yy_Re_refuse.2.2 xA_8 ⟨_, _, rfl⟩ rfl ⟨Nat.le_of_ble_eq_true rfl, Nat.le_of_ble_eq_true rfl⟩ ⟨Nat.zero_le _, Nat.zero_le _⟩ (Nat.le_of_ble_eq_true rfl) dX7_addLine_21 ?_
  obtain ⟨g5, h⟩ := aw_gde h
  cases h
  subst hE
  exact aw_iret (v := _) rfl (aw_nz g5) ⟨Nat.zero_le _, Nat.zero_le _⟩ dX7_addLine_24
set_option maxRecDepth 100000 in
set_option maxHeartbeats 4000000 in
theorem t_Re_addLine {l : Launch} {G : aw_G} {E : aw_E} {σ : aw_S} {p1 : Int32} {t : (Int32 × aw_S)} (h : m_Re_addLine σ p1 = some t) (hE : E = (some (.int t.1), xA, t.2)) : aw_W l M_Re_addLine G B_Re_addLine E 0 [(0, .ref 8), (1, .int p1)] [] xA σ 0 0 := by
  unfold m_Re_addLine at h
  refine aw_aload_n (pc := 0) (q := 0) dX7_addLine_0 rfl ?_
  refine aw_getI (pc := 1) fd_X7_61.r xA_8 rfl dX7_addLine_1 ?_
  refine aw_if_lt (pc := 4) (tgt := 16) dX7_addLine_4 (by decide) (fun c1 => ?_) (fun c1 => ?_)
  · replace h := aw_ifp c1 h
    refine aw_sub [0] rfl ?_
    exact t_Re_addLine_J16 h hE
  · replace h := aw_ifn c1 h
    refine aw_aload_n (pc := 7) (q := 0) dX7_addLine_7 rfl ?_
    refine aw_getI (pc := 8) fd_X7_61.r xA_8 rfl dX7_addLine_8 ?_
    refine aw_bipush (pc := 11) (v := 76) dX7_addLine_11 (by decide) ?_
    refine aw_icmp_lt (pc := 13) (tgt := 25) dX7_addLine_13 (by decide) (fun c6 => ?_) (fun c6 => ?_)
    · replace h := aw_ifp c6 h
      refine aw_aload_n (pc := 25) (q := 0) dX7_addLine_25 rfl ?_
      refine aw_getC (pc := 26) fd_X7_25.r xA_8 rfl dX7_addLine_26 ?_
      refine aw_aload_n (pc := 29) (q := 0) dX7_addLine_29 rfl ?_
      refine aw_getI (pc := 30) fd_X7_61.r xA_8 rfl dX7_addLine_30 ?_
      refine aw_iload_n (pc := 33) (q := 1) dX7_addLine_33 rfl ?_
      obtain ⟨g7, h⟩ := aw_gde h
      refine aw_iast (pc := 34) xA_15 g7 dX7_addLine_34 ?_
      refine aw_nmS (fun s8 e_s8 => ?_)
      replace h := aw_lte h s8 e_s8
      refine aw_aload_n (pc := 35) (q := 0) dX7_addLine_35 rfl ?_
      refine aw_getC (pc := 36) fd_X7_29.r xA_8 rfl dX7_addLine_36 ?_
      refine aw_aload_n (pc := 39) (q := 0) dX7_addLine_39 rfl ?_
      refine aw_getI (pc := 40) fd_X7_61.r xA_8 rfl dX7_addLine_40 ?_
      refine aw_aload_n (pc := 43) (q := 0) dX7_addLine_43 rfl ?_
      refine aw_getI (pc := 44) fd_X7_64.r xA_8 rfl dX7_addLine_44 ?_
      obtain ⟨g9, h⟩ := aw_gde h
      refine aw_iast (pc := 47) xA_16 g9 dX7_addLine_47 ?_
      refine aw_nmS (fun s10 e_s10 => ?_)
      replace h := aw_lte h s10 e_s10
      refine aw_aload_n (pc := 48) (q := 0) dX7_addLine_48 rfl ?_
      refine aw_getC (pc := 49) fd_X7_32.r xA_8 rfl dX7_addLine_49 ?_
      refine aw_aload_n (pc := 52) (q := 0) dX7_addLine_52 rfl ?_
      refine aw_getI (pc := 53) fd_X7_61.r xA_8 rfl dX7_addLine_53 ?_
      refine aw_iconst (pc := 56) (v := -1) dX7_addLine_56 (by decide) ?_
      obtain ⟨g11, h⟩ := aw_gde h
      refine aw_iast (pc := 57) xA_17 g11 dX7_addLine_57 ?_
      refine aw_nmS (fun s12 e_s12 => ?_)
      replace h := aw_lte h s12 e_s12
      refine aw_aload_n (pc := 58) (q := 0) dX7_addLine_58 rfl ?_
      refine aw_getC (pc := 59) fd_X7_35.r xA_8 rfl dX7_addLine_59 ?_
      refine aw_aload_n (pc := 62) (q := 0) dX7_addLine_62 rfl ?_
      refine aw_getI (pc := 63) fd_X7_61.r xA_8 rfl dX7_addLine_63 ?_
      refine aw_iconst (pc := 66) (v := -1) dX7_addLine_66 (by decide) ?_
      obtain ⟨g13, h⟩ := aw_gde h
      refine aw_iast (pc := 67) xA_18 g13 dX7_addLine_67 ?_
      refine aw_nmS (fun s14 e_s14 => ?_)
      replace h := aw_lte h s14 e_s14
      refine aw_aload_n (pc := 68) (q := 0) dX7_addLine_68 rfl ?_
      refine aw_getC (pc := 69) fd_X7_38.r xA_8 rfl dX7_addLine_69 ?_
      refine aw_aload_n (pc := 72) (q := 0) dX7_addLine_72 rfl ?_
      refine aw_getI (pc := 73) fd_X7_61.r xA_8 rfl dX7_addLine_73 ?_
      refine aw_iconst (pc := 76) (v := -1) dX7_addLine_76 (by decide) ?_
      obtain ⟨g15, h⟩ := aw_gde h
      refine aw_iast (pc := 77) xA_19 g15 dX7_addLine_77 ?_
      refine aw_nmS (fun s16 e_s16 => ?_)
      replace h := aw_lte h s16 e_s16
      refine aw_aload_n (pc := 78) (q := 0) dX7_addLine_78 rfl ?_
      refine aw_getC (pc := 79) fd_X7_41.r xA_8 rfl dX7_addLine_79 ?_
      refine aw_aload_n (pc := 82) (q := 0) dX7_addLine_82 rfl ?_
      refine aw_getI (pc := 83) fd_X7_61.r xA_8 rfl dX7_addLine_83 ?_
      refine aw_iconst (pc := 86) (v := -1) dX7_addLine_86 (by decide) ?_
      obtain ⟨g17, h⟩ := aw_gde h
      refine aw_iast (pc := 87) xA_20 g17 dX7_addLine_87 ?_
      refine aw_nmS (fun s18 e_s18 => ?_)
      replace h := aw_lte h s18 e_s18
      refine aw_aload_n (pc := 88) (q := 0) dX7_addLine_88 rfl ?_
      refine aw_getC (pc := 89) fd_X7_44.r xA_8 rfl dX7_addLine_89 ?_
      refine aw_aload_n (pc := 92) (q := 0) dX7_addLine_92 rfl ?_
      refine aw_getI (pc := 93) fd_X7_61.r xA_8 rfl dX7_addLine_93 ?_
      refine aw_iconst (pc := 96) (v := -1) dX7_addLine_96 (by decide) ?_
      obtain ⟨g19, h⟩ := aw_gde h
      refine aw_iast (pc := 97) xA_21 g19 dX7_addLine_97 ?_
      refine aw_nmS (fun s20 e_s20 => ?_)
      replace h := aw_lte h s20 e_s20
      refine aw_aload_n (pc := 98) (q := 0) dX7_addLine_98 rfl ?_
      refine aw_dup (pc := 99) dX7_addLine_99 rfl ?_
      refine aw_getI (pc := 100) fd_X7_61.r xA_8 rfl dX7_addLine_100 ?_
      refine aw_iconst (pc := 103) (v := 1) dX7_addLine_103 (by decide) ?_
      refine aw_iadd (pc := 104) dX7_addLine_104 ?_
      refine aw_putI (pc := 105) fd_X7_61 xA_8 rfl (fun _ => rfl) (fun _ => rfl) dX7_addLine_105 ?_
      refine aw_nmS (fun s21 e_s21 => ?_)
      replace h := aw_lte h s21 e_s21
      refine aw_iconst (pc := 108) (v := 1) dX7_addLine_108 (by decide) ?_
      cases h
      subst hE
      exact aw_iret (v := (1 : Int32)) rfl aw_n1 ⟨Nat.zero_le _, Nat.zero_le _⟩ dX7_addLine_109
    · replace h := aw_ifn c6 h
      refine aw_sub [0] rfl ?_
      exact t_Re_addLine_J16 h hE
theorem c_Re_addLine {l : Launch} {G : aw_G} {σ : aw_S} {p1 : Int32} {t : (Int32 × aw_S)} (h : m_Re_addLine σ p1 = some t) : aw_Ct l yX7_addLine M_Re_addLine G B_Re_addLine [.ref 8, .int p1] xA σ (some (.int t.1), xA, t.2) := aw_Ct_of (by decide) rfl (fun h => by cases h) (Nat.le_of_ble_eq_true rfl) (t_Re_addLine h rfl)
/-! LateMover$Reader.addStatement(IIII)Z -/
set_option maxRecDepth 100000 in
set_option maxHeartbeats 4000000 in
theorem t_Re_addStatement {l : Launch} {G : aw_G} {E : aw_E} {σ : aw_S} {p1 : Int32} {p2 : Int32} {p3 : Int32} {p4 : Int32} {t : (Int32 × aw_S)} (h : m_Re_addStatement σ p1 p2 p3 p4 = some t) (hE : E = (some (.int t.1), xA, t.2)) : aw_W l M_Re_addStatement G B_Re_addStatement E 0 [(0, .ref 8), (1, .int p1), (2, .int p2), (3, .int p3), (4, .int p4)] [] xA σ 0 0 := by
  unfold m_Re_addStatement at h
  refine aw_aload_n (pc := 0) (q := 0) dX7_addStatement_0 rfl ?_
  refine aw_iload_n (pc := 1) (q := 1) dX7_addStatement_1 rfl ?_
  obtain ⟨r1, s3, e2, h⟩ := aw_bd2e h
  refine aw_cV1 (pc := 2) [.int p1] (c_Re_addLine e2) yy_Re_addLine.1 wm_320 yy_Re_addLine.2.1 yy_Re_addLine.2.2 xA_8 ⟨_, _, rfl⟩ rfl ⟨Nat.le_of_ble_eq_true rfl, Nat.le_of_ble_eq_true rfl⟩ ⟨Nat.zero_le _, Nat.zero_le _⟩ (Nat.le_of_ble_eq_true rfl) dX7_addStatement_2 ?_
  refine aw_if_ne (pc := 5) (tgt := 10) dX7_addStatement_5 (by decide) (fun c4 => ?_) (fun c4 => ?_)
  · replace h := aw_ifn c4 h
    refine aw_aload_n (pc := 10) (q := 0) dX7_addStatement_10 rfl ?_
    refine aw_getC (pc := 11) fd_X7_32.r xA_8 rfl dX7_addStatement_11 ?_
    refine aw_aload_n (pc := 14) (q := 0) dX7_addStatement_14 rfl ?_
    refine aw_getI (pc := 15) fd_X7_61.r xA_8 rfl dX7_addStatement_15 ?_
    refine aw_iconst (pc := 18) (v := 1) dX7_addStatement_18 (by decide) ?_
    refine aw_isub (pc := 19) dX7_addStatement_19 ?_
    refine aw_iload_n (pc := 20) (q := 2) dX7_addStatement_20 rfl ?_
    obtain ⟨g5, h⟩ := aw_gde h
    refine aw_iast (pc := 21) xA_17 g5 dX7_addStatement_21 ?_
    refine aw_nmS (fun s6 e_s6 => ?_)
    replace h := aw_lte h s6 e_s6
    refine aw_aload_n (pc := 22) (q := 0) dX7_addStatement_22 rfl ?_
    refine aw_getC (pc := 23) fd_X7_35.r xA_8 rfl dX7_addStatement_23 ?_
    refine aw_aload_n (pc := 26) (q := 0) dX7_addStatement_26 rfl ?_
    refine aw_getI (pc := 27) fd_X7_61.r xA_8 rfl dX7_addStatement_27 ?_
    refine aw_iconst (pc := 30) (v := 1) dX7_addStatement_30 (by decide) ?_
    refine aw_isub (pc := 31) dX7_addStatement_31 ?_
    refine aw_iload_n (pc := 32) (q := 3) dX7_addStatement_32 rfl ?_
    obtain ⟨g7, h⟩ := aw_gde h
    refine aw_iast (pc := 33) xA_18 g7 dX7_addStatement_33 ?_
    refine aw_nmS (fun s8 e_s8 => ?_)
    replace h := aw_lte h s8 e_s8
    refine aw_aload_n (pc := 34) (q := 0) dX7_addStatement_34 rfl ?_
    refine aw_getC (pc := 35) fd_X7_38.r xA_8 rfl dX7_addStatement_35 ?_
    refine aw_aload_n (pc := 38) (q := 0) dX7_addStatement_38 rfl ?_
    refine aw_getI (pc := 39) fd_X7_61.r xA_8 rfl dX7_addStatement_39 ?_
    refine aw_iconst (pc := 42) (v := 1) dX7_addStatement_42 (by decide) ?_
    refine aw_isub (pc := 43) dX7_addStatement_43 ?_
    refine aw_iload (pc := 44) (q := 4) dX7_addStatement_44 rfl ?_
    obtain ⟨g9, h⟩ := aw_gde h
    refine aw_iast (pc := 46) xA_19 g9 dX7_addStatement_46 ?_
    refine aw_nmS (fun s10 e_s10 => ?_)
    replace h := aw_lte h s10 e_s10
    refine aw_iconst (pc := 47) (v := 1) dX7_addStatement_47 (by decide) ?_
    cases h
    subst hE
    exact aw_iret (v := (1 : Int32)) rfl aw_n1 ⟨Nat.zero_le _, Nat.zero_le _⟩ dX7_addStatement_48
  · replace h := aw_ifp c4 h
    refine aw_iconst (pc := 8) (v := 0) dX7_addStatement_8 (by decide) ?_
    cases h
    subst hE
    exact aw_iret (v := (0 : Int32)) rfl aw_n0 ⟨Nat.zero_le _, Nat.zero_le _⟩ dX7_addStatement_9
theorem c_Re_addStatement {l : Launch} {G : aw_G} {σ : aw_S} {p1 : Int32} {p2 : Int32} {p3 : Int32} {p4 : Int32} {t : (Int32 × aw_S)} (h : m_Re_addStatement σ p1 p2 p3 p4 = some t) : aw_Ct l yX7_addStatement M_Re_addStatement G B_Re_addStatement [.ref 8, .int p1, .int p2, .int p3, .int p4] xA σ (some (.int t.1), xA, t.2) := aw_Ct_of (by decide) rfl (fun h => by cases h) (Nat.le_of_ble_eq_true rfl) (t_Re_addStatement h rfl)
/-! LateMover$Reader.readRightSide(I)Z -/
set_option maxRecDepth 100000 in
set_option maxHeartbeats 4000000 in
theorem t_Re_readRightSide {l : Launch} {G : aw_G} {E : aw_E} {σ : aw_S} {p1 : Int32} {t : (Int32 × aw_S)} (h : m_Re_readRightSide σ p1 = some t) (hE : E = (some (.int t.1), xA, t.2)) : aw_W l M_Re_readRightSide G B_Re_readRightSide E 0 [(0, .ref 8), (1, .int p1)] [] xA σ 0 0 := by
  unfold m_Re_readRightSide at h
  refine aw_aload_n (pc := 0) (q := 0) dX7_readRightSide_0 rfl ?_
  refine aw_getI (pc := 1) fd_X7_70.r xA_8 rfl dX7_readRightSide_1 ?_
  refine aw_nmI (fun x1 e_x1 => ?_)
  replace h := aw_lte h x1 e_x1
  refine aw_istore_n (pc := 4) [(2, .int x1), (0, .ref 8), (1, .int p1)] dX7_readRightSide_4 (by decide) rfl ?_
  refine aw_aload_n (pc := 5) (q := 1) dX7_readRightSide_5 rfl ?_
  obtain ⟨r2, s4, e3, h⟩ := aw_bd2e h
  refine aw_cV1 (pc := 6) [] (c_Re_readOperand e3) yy_Re_readOperand.1 wm_305 yy_Re_readOperand.2.1 yy_Re_readOperand.2.2 xA_8 ⟨_, _, rfl⟩ rfl ⟨Nat.le_of_ble_eq_true rfl, Nat.le_of_ble_eq_true rfl⟩ ⟨Nat.zero_le _, Nat.zero_le _⟩ (Nat.le_of_ble_eq_true rfl) dX7_readRightSide_6 ?_
  refine aw_istore_n (pc := 9) [(3, .int r2), (2, .int x1), (0, .ref 8), (1, .int p1)] dX7_readRightSide_9 (by decide) rfl ?_
  refine aw_iload_n (pc := 10) (q := 0) dX7_readRightSide_10 rfl ?_
  refine aw_iconst (pc := 11) (v := -1) dX7_readRightSide_11 (by decide) ?_
  refine aw_icmp_ne (pc := 12) (tgt := 17) dX7_readRightSide_12 (by decide) (fun c5 => ?_) (fun c5 => ?_)
  · replace h := aw_ifn c5 h
    refine aw_aload_n (pc := 17) (q := 2) dX7_readRightSide_17 rfl ?_
    refine aw_getC (pc := 18) fd_X7_12.r xA_8 rfl dX7_readRightSide_18 ?_
    refine aw_aload_n (pc := 21) (q := 2) dX7_readRightSide_21 rfl ?_
    refine aw_getI (pc := 22) fd_X7_70.r xA_8 rfl dX7_readRightSide_22 ?_
    obtain ⟨r6, e7, h⟩ := aw_bde h
    refine aw_cV1 (pc := 25) [.int ((s4.1 8 14))] (c_Te_at isTe_9 e7) yy_Te_at.1 wm_294 yy_Te_at.2.1 yy_Te_at.2.2 xA_9 ⟨_, _, rfl⟩ rfl ⟨Nat.le_of_ble_eq_true rfl, Nat.le_of_ble_eq_true rfl⟩ ⟨Nat.zero_le _, Nat.zero_le _⟩ (Nat.le_of_ble_eq_true rfl) dX7_readRightSide_25 ?_
    refine aw_istore (pc := 28) [(4, .int r6), (3, .int r2), (2, .int x1), (0, .ref 8), (1, .int p1)] dX7_readRightSide_28 (by decide) rfl ?_
    refine aw_iload (pc := 30) (q := 0) dX7_readRightSide_30 rfl ?_
    obtain ⟨r8, e9, h⟩ := aw_bde h
    refine aw_cS1 (pc := 32) [.int r6] (c_Re_isOperator e9) yy_Re_isOperator.1 wm_332 yy_Re_isOperator.2 rfl ⟨Nat.le_of_ble_eq_true rfl, Nat.le_of_ble_eq_true rfl⟩ ⟨Nat.zero_le _, Nat.zero_le _⟩ (Nat.le_of_ble_eq_true rfl) dX7_readRightSide_32 ?_
    refine aw_if_ne (pc := 35) (tgt := 47) dX7_readRightSide_35 (by decide) (fun c10 => ?_) (fun c10 => ?_)
    · replace h := aw_ifn c10 h
      refine aw_aload_n (pc := 47) (q := 3) dX7_readRightSide_47 rfl ?_
      refine aw_dup (pc := 48) dX7_readRightSide_48 rfl ?_
      refine aw_getI (pc := 49) fd_X7_70.r xA_8 rfl dX7_readRightSide_49 ?_
      refine aw_iconst (pc := 52) (v := 1) dX7_readRightSide_52 (by decide) ?_
      refine aw_iadd (pc := 53) dX7_readRightSide_53 ?_
      refine aw_putI (pc := 54) fd_X7_70 xA_8 rfl (fun _ => rfl) (fun _ => rfl) dX7_readRightSide_54 ?_
      refine aw_nmS (fun s11 e_s11 => ?_)
      replace h := aw_lte h s11 e_s11
      refine aw_aload_n (pc := 57) (q := 3) dX7_readRightSide_57 rfl ?_
      obtain ⟨r12, s14, e13, h⟩ := aw_bd2e h
      refine aw_cV1 (pc := 58) [] (c_Re_readOperand e13) yy_Re_readOperand.1 wm_305 yy_Re_readOperand.2.1 yy_Re_readOperand.2.2 xA_8 ⟨_, _, rfl⟩ rfl ⟨Nat.le_of_ble_eq_true rfl, Nat.le_of_ble_eq_true rfl⟩ ⟨Nat.zero_le _, Nat.zero_le _⟩ (Nat.le_of_ble_eq_true rfl) dX7_readRightSide_58 ?_
      refine aw_istore (pc := 61) [(5, .int r12), (4, .int r6), (3, .int r2), (2, .int x1), (0, .ref 8), (1, .int p1)] dX7_readRightSide_61 (by decide) rfl ?_
      refine aw_iload (pc := 63) (q := 0) dX7_readRightSide_63 rfl ?_
      refine aw_iconst (pc := 65) (v := -1) dX7_readRightSide_65 (by decide) ?_
      refine aw_icmp_ne (pc := 66) (tgt := 71) dX7_readRightSide_66 (by decide) (fun c15 => ?_) (fun c15 => ?_)
      · replace h := aw_ifn c15 h
        refine aw_aload_n (pc := 71) (q := 4) dX7_readRightSide_71 rfl ?_
        refine aw_getC (pc := 72) fd_X7_21.r xA_8 rfl dX7_readRightSide_72 ?_
        refine aw_iload (pc := 75) (q := 1) dX7_readRightSide_75 rfl ?_
        refine aw_iload_n (pc := 77) (q := 2) dX7_readRightSide_77 rfl ?_
        refine aw_iload (pc := 78) (q := 0) dX7_readRightSide_78 rfl ?_
        obtain ⟨r16, s18, e17, h⟩ := aw_bd2e h
        refine aw_cV1 (pc := 80) [.int r6, .int r2, .int r12] (c_Ex_numberOf isEx_11 e17) yy_Ex_numberOf.1 wm_335 yy_Ex_numberOf.2.1 yy_Ex_numberOf.2.2 xA_11 ⟨_, _, rfl⟩ rfl ⟨Nat.le_of_ble_eq_true rfl, Nat.le_of_ble_eq_true rfl⟩ ⟨Nat.zero_le _, Nat.zero_le _⟩ (Nat.le_of_ble_eq_true rfl) dX7_readRightSide_80 ?_
        refine aw_istore (pc := 83) [(6, .int r16), (5, .int r12), (4, .int r6), (3, .int r2), (2, .int x1), (0, .ref 8), (1, .int p1)] dX7_readRightSide_83 (by decide) rfl ?_
        refine aw_iload (pc := 85) (q := 0) dX7_readRightSide_85 rfl ?_
        refine aw_iconst (pc := 87) (v := -1) dX7_readRightSide_87 (by decide) ?_
        refine aw_icmp_ne (pc := 88) (tgt := 97) dX7_readRightSide_88 (by decide) (fun c19 => ?_) (fun c19 => ?_)
        · replace h := aw_ifn c19 h
          refine aw_aload_n (pc := 97) (q := 5) dX7_readRightSide_97 rfl ?_
          refine aw_iconst (pc := 98) (v := 2) dX7_readRightSide_98 (by decide) ?_
          refine aw_iload_n (pc := 99) (q := 6) dX7_readRightSide_99 rfl ?_
          refine aw_iconst (pc := 100) (v := -1) dX7_readRightSide_100 (by decide) ?_
          refine aw_iload (pc := 101) (q := 0) dX7_readRightSide_101 rfl ?_
          obtain ⟨r20, s22, e21, h⟩ := aw_bd2e h
          refine aw_cV1 (pc := 103) [.int ((2 : Int32)), .int p1, .int ((-1 : Int32)), .int r16] (c_Re_addStatement e21) yy_Re_addStatement.1 wm_316 yy_Re_addStatement.2.1 yy_Re_addStatement.2.2 xA_8 ⟨_, _, rfl⟩ rfl ⟨Nat.le_of_ble_eq_true rfl, Nat.le_of_ble_eq_true rfl⟩ ⟨Nat.zero_le _, Nat.zero_le _⟩ (Nat.le_of_ble_eq_true rfl) dX7_readRightSide_103 ?_
          obtain ⟨g23, h⟩ := aw_gde h
          cases h
          subst hE
          exact aw_iret (v := _) rfl (aw_nz g23) ⟨Nat.zero_le _, Nat.zero_le _⟩ dX7_readRightSide_106
        · replace h := aw_ifp c19 h
          refine aw_aload_n (pc := 91) (q := 5) dX7_readRightSide_91 rfl ?_
          refine aw_iload_n (pc := 92) (q := 4) dX7_readRightSide_92 rfl ?_
          obtain ⟨r24, s26, e25, h⟩ := aw_bd2e h
          refine aw_cV1 (pc := 93) [.int x1] (c_Re_refuse e25) yy_Re_refuse.1 wm_286 yy_Re_refuse.2.1 yy_Re_refuse.2.2 xA_8 ⟨_, _, rfl⟩ rfl ⟨Nat.le_of_ble_eq_true rfl, Nat.le_of_ble_eq_true rfl⟩ ⟨Nat.zero_le _, Nat.zero_le _⟩ (Nat.le_of_ble_eq_true rfl) dX7_readRightSide_93 ?_
          obtain ⟨g27, h⟩ := aw_gde h
          cases h
          subst hE
          exact aw_iret (v := _) rfl (aw_nz g27) ⟨Nat.zero_le _, Nat.zero_le _⟩ dX7_readRightSide_96
      · replace h := aw_ifp c15 h
        refine aw_iconst (pc := 69) (v := 0) dX7_readRightSide_69 (by decide) ?_
        cases h
        subst hE
        exact aw_iret (v := (0 : Int32)) rfl aw_n0 ⟨Nat.zero_le _, Nat.zero_le _⟩ dX7_readRightSide_70
    · replace h := aw_ifp c10 h
      refine aw_aload_n (pc := 38) (q := 3) dX7_readRightSide_38 rfl ?_
      refine aw_iconst (pc := 39) (v := 1) dX7_readRightSide_39 (by decide) ?_
      refine aw_iload_n (pc := 40) (q := 4) dX7_readRightSide_40 rfl ?_
      refine aw_iload_n (pc := 41) (q := 1) dX7_readRightSide_41 rfl ?_
      refine aw_iconst (pc := 42) (v := -1) dX7_readRightSide_42 (by decide) ?_
      obtain ⟨r28, s30, e29, h⟩ := aw_bd2e h
      refine aw_cV1 (pc := 43) [.int ((1 : Int32)), .int p1, .int r2, .int ((-1 : Int32))] (c_Re_addStatement e29) yy_Re_addStatement.1 wm_316 yy_Re_addStatement.2.1 yy_Re_addStatement.2.2 xA_8 ⟨_, _, rfl⟩ rfl ⟨Nat.le_of_ble_eq_true rfl, Nat.le_of_ble_eq_true rfl⟩ ⟨Nat.zero_le _, Nat.zero_le _⟩ (Nat.le_of_ble_eq_true rfl) dX7_readRightSide_43 ?_
      obtain ⟨g31, h⟩ := aw_gde h
      cases h
      subst hE
      exact aw_iret (v := _) rfl (aw_nz g31) ⟨Nat.zero_le _, Nat.zero_le _⟩ dX7_readRightSide_46
  · replace h := aw_ifp c5 h
    refine aw_iconst (pc := 15) (v := 0) dX7_readRightSide_15 (by decide) ?_
    cases h
    subst hE
    exact aw_iret (v := (0 : Int32)) rfl aw_n0 ⟨Nat.zero_le _, Nat.zero_le _⟩ dX7_readRightSide_16
theorem c_Re_readRightSide {l : Launch} {G : aw_G} {σ : aw_S} {p1 : Int32} {t : (Int32 × aw_S)} (h : m_Re_readRightSide σ p1 = some t) : aw_Ct l yX7_readRightSide M_Re_readRightSide G B_Re_readRightSide [.ref 8, .int p1] xA σ (some (.int t.1), xA, t.2) := aw_Ct_of (by decide) rfl (fun h => by cases h) (Nat.le_of_ble_eq_true rfl) (t_Re_readRightSide h rfl)
/-! LateMover$Reader.readStatement()Z -/
set_option maxRecDepth 100000 in
set_option maxHeartbeats 4000000 in
theorem t_Re_readStatement {l : Launch} {G : aw_G} {E : aw_E} {σ : aw_S} {t : (Int32 × aw_S)} (h : m_Re_readStatement σ = some t) (hE : E = (some (.int t.1), xA, t.2)) : aw_W l M_Re_readStatement G B_Re_readStatement E 0 [(0, .ref 8)] [] xA σ 0 0 := by
  unfold m_Re_readStatement at h
  refine aw_aload_n (pc := 0) (q := 0) dX7_readStatement_0 rfl ?_
  refine aw_getI (pc := 1) fd_X7_67.r xA_8 rfl dX7_readStatement_1 ?_
  refine aw_bipush (pc := 4) (v := 60) dX7_readStatement_4 (by decide) ?_
  refine aw_icmp_lt (pc := 6) (tgt := 18) dX7_readStatement_6 (by decide) (fun c1 => ?_) (fun c1 => ?_)
  · replace h := aw_ifp c1 h
    refine aw_aload_n (pc := 18) (q := 0) dX7_readStatement_18 rfl ?_
    refine aw_dup (pc := 19) dX7_readStatement_19 rfl ?_
    refine aw_getI (pc := 20) fd_X7_67.r xA_8 rfl dX7_readStatement_20 ?_
    refine aw_iconst (pc := 23) (v := 1) dX7_readStatement_23 (by decide) ?_
    refine aw_iadd (pc := 24) dX7_readStatement_24 ?_
    refine aw_putI (pc := 25) fd_X7_67 xA_8 rfl (fun _ => rfl) (fun _ => rfl) dX7_readStatement_25 ?_
    refine aw_nmS (fun s2 e_s2 => ?_)
    replace h := aw_lte h s2 e_s2
    refine aw_aload_n (pc := 28) (q := 0) dX7_readStatement_28 rfl ?_
    refine aw_getC (pc := 29) fd_X7_12.r xA_8 rfl dX7_readStatement_29 ?_
    refine aw_aload_n (pc := 32) (q := 0) dX7_readStatement_32 rfl ?_
    refine aw_getI (pc := 33) fd_X7_70.r xA_8 rfl dX7_readStatement_33 ?_
    obtain ⟨r3, e4, h⟩ := aw_bde h
    refine aw_cV1 (pc := 36) [.int ((s2.1 8 14))] (c_Te_at isTe_9 e4) yy_Te_at.1 wm_294 yy_Te_at.2.1 yy_Te_at.2.2 xA_9 ⟨_, _, rfl⟩ rfl ⟨Nat.le_of_ble_eq_true rfl, Nat.le_of_ble_eq_true rfl⟩ ⟨Nat.zero_le _, Nat.zero_le _⟩ (Nat.le_of_ble_eq_true rfl) dX7_readStatement_36 ?_
    refine aw_istore_n (pc := 39) [(1, .int r3), (0, .ref 8)] dX7_readStatement_39 (by decide) rfl ?_
    refine aw_aload_n (pc := 40) (q := 1) dX7_readStatement_40 rfl ?_
    refine aw_dup (pc := 41) dX7_readStatement_41 rfl ?_
    refine aw_getI (pc := 42) fd_X7_70.r xA_8 rfl dX7_readStatement_42 ?_
    refine aw_iconst (pc := 45) (v := 1) dX7_readStatement_45 (by decide) ?_
    refine aw_iadd (pc := 46) dX7_readStatement_46 ?_
    refine aw_putI (pc := 47) fd_X7_70 xA_8 rfl (fun _ => rfl) (fun _ => rfl) dX7_readStatement_47 ?_
    refine aw_nmS (fun s5 e_s5 => ?_)
    replace h := aw_lte h s5 e_s5
    refine aw_iload_n (pc := 50) (q := 0) dX7_readStatement_50 rfl ?_
    refine aw_bipush (pc := 51) (v := 33) dX7_readStatement_51 (by decide) ?_
    refine aw_icmp_ne (pc := 53) (tgt := 83) dX7_readStatement_53 (by decide) (fun c6 => ?_) (fun c6 => ?_)
    · replace h := aw_ifn c6 h
      refine aw_aload_n (pc := 83) (q := 1) dX7_readStatement_83 rfl ?_
      refine aw_bipush (pc := 84) (v := 61) dX7_readStatement_84 (by decide) ?_
      obtain ⟨r7, s9, e8, h⟩ := aw_bd2e h
      refine aw_cV1 (pc := 86) [.int ((61 : Int32))] (c_Re_take e8) yy_Re_take.1 wm_324 yy_Re_take.2.1 yy_Re_take.2.2 xA_8 ⟨_, _, rfl⟩ rfl ⟨Nat.le_of_ble_eq_true rfl, Nat.le_of_ble_eq_true rfl⟩ ⟨Nat.zero_le _, Nat.zero_le _⟩ (Nat.le_of_ble_eq_true rfl) dX7_readStatement_86 ?_
      refine aw_if_eq (pc := 89) (tgt := 107) dX7_readStatement_89 (by decide) (fun c10 => ?_) (fun c10 => ?_)
      · replace h := aw_ifp c10 h
        refine aw_iconst (pc := 107) (v := 0) dX7_readStatement_107 (by decide) ?_
        cases h
        subst hE
        exact aw_iret (v := (0 : Int32)) rfl aw_n0 ⟨Nat.zero_le _, Nat.zero_le _⟩ dX7_readStatement_108
      · replace h := aw_ifn c10 h
        refine aw_aload_n (pc := 92) (q := 1) dX7_readStatement_92 rfl ?_
        refine aw_iload_n (pc := 93) (q := 0) dX7_readStatement_93 rfl ?_
        refine aw_bipush (pc := 94) (v := 97) dX7_readStatement_94 (by decide) ?_
        refine aw_isub (pc := 96) dX7_readStatement_96 ?_
        obtain ⟨r11, s13, e12, h⟩ := aw_bd2e h
        refine aw_cV1 (pc := 97) [.int ((r3 - (97 : Int32)))] (c_Re_readRightSide e12) yy_Re_readRightSide.1 wm_328 yy_Re_readRightSide.2.1 yy_Re_readRightSide.2.2 xA_8 ⟨_, _, rfl⟩ rfl ⟨Nat.le_of_ble_eq_true rfl, Nat.le_of_ble_eq_true rfl⟩ ⟨Nat.zero_le _, Nat.zero_le _⟩ (Nat.le_of_ble_eq_true rfl) dX7_readStatement_97 ?_
        refine aw_if_eq (pc := 100) (tgt := 107) dX7_readStatement_100 (by decide) (fun c14 => ?_) (fun c14 => ?_)
        · replace h := aw_ifp c14 h
          refine aw_iconst (pc := 107) (v := 0) dX7_readStatement_107 (by decide) ?_
          cases h
          subst hE
          exact aw_iret (v := (0 : Int32)) rfl aw_n0 ⟨Nat.zero_le _, Nat.zero_le _⟩ dX7_readStatement_108
        · replace h := aw_ifn c14 h
          refine aw_iconst (pc := 103) (v := 1) dX7_readStatement_103 (by decide) ?_
          refine aw_goto (pc := 104) (tgt := 108) dX7_readStatement_104 (by decide) ?_
          cases h
          subst hE
          exact aw_iret (v := (1 : Int32)) rfl aw_n1 ⟨Nat.zero_le _, Nat.zero_le _⟩ dX7_readStatement_108
    · replace h := aw_ifp c6 h
      refine aw_aload_n (pc := 56) (q := 1) dX7_readStatement_56 rfl ?_
      obtain ⟨r15, s17, e16, h⟩ := aw_bd2e h
      refine aw_cV1 (pc := 57) [] (c_Re_readOperand e16) yy_Re_readOperand.1 wm_305 yy_Re_readOperand.2.1 yy_Re_readOperand.2.2 xA_8 ⟨_, _, rfl⟩ rfl ⟨Nat.le_of_ble_eq_true rfl, Nat.le_of_ble_eq_true rfl⟩ ⟨Nat.zero_le _, Nat.zero_le _⟩ (Nat.le_of_ble_eq_true rfl) dX7_readStatement_57 ?_
      refine aw_istore_n (pc := 60) [(2, .int r15), (1, .int r3), (0, .ref 8)] dX7_readStatement_60 (by decide) rfl ?_
      refine aw_iload_n (pc := 61) (q := 0) dX7_readStatement_61 rfl ?_
      refine aw_iconst (pc := 62) (v := -1) dX7_readStatement_62 (by decide) ?_
      refine aw_icmp_eq (pc := 63) (tgt := 81) dX7_readStatement_63 (by decide) (fun c18 => ?_) (fun c18 => ?_)
      · replace h := aw_ifp c18 h
        refine aw_iconst (pc := 81) (v := 0) dX7_readStatement_81 (by decide) ?_
        cases h
        subst hE
        exact aw_iret (v := (0 : Int32)) rfl aw_n0 ⟨Nat.zero_le _, Nat.zero_le _⟩ dX7_readStatement_82
      · replace h := aw_ifn c18 h
        refine aw_aload_n (pc := 66) (q := 2) dX7_readStatement_66 rfl ?_
        refine aw_iconst (pc := 67) (v := 3) dX7_readStatement_67 (by decide) ?_
        refine aw_iconst (pc := 68) (v := -1) dX7_readStatement_68 (by decide) ?_
        refine aw_iload_n (pc := 69) (q := 0) dX7_readStatement_69 rfl ?_
        refine aw_iconst (pc := 70) (v := -1) dX7_readStatement_70 (by decide) ?_
        obtain ⟨r19, s21, e20, h⟩ := aw_bd2e h
        refine aw_cV1 (pc := 71) [.int ((3 : Int32)), .int ((-1 : Int32)), .int r15, .int ((-1 : Int32))] (c_Re_addStatement e20) yy_Re_addStatement.1 wm_316 yy_Re_addStatement.2.1 yy_Re_addStatement.2.2 xA_8 ⟨_, _, rfl⟩ rfl ⟨Nat.le_of_ble_eq_true rfl, Nat.le_of_ble_eq_true rfl⟩ ⟨Nat.zero_le _, Nat.zero_le _⟩ (Nat.le_of_ble_eq_true rfl) dX7_readStatement_71 ?_
        refine aw_if_eq (pc := 74) (tgt := 81) dX7_readStatement_74 (by decide) (fun c22 => ?_) (fun c22 => ?_)
        · replace h := aw_ifp c22 h
          refine aw_iconst (pc := 81) (v := 0) dX7_readStatement_81 (by decide) ?_
          cases h
          subst hE
          exact aw_iret (v := (0 : Int32)) rfl aw_n0 ⟨Nat.zero_le _, Nat.zero_le _⟩ dX7_readStatement_82
        · replace h := aw_ifn c22 h
          refine aw_iconst (pc := 77) (v := 1) dX7_readStatement_77 (by decide) ?_
          refine aw_goto (pc := 78) (tgt := 82) dX7_readStatement_78 (by decide) ?_
          cases h
          subst hE
          exact aw_iret (v := (1 : Int32)) rfl aw_n1 ⟨Nat.zero_le _, Nat.zero_le _⟩ dX7_readStatement_82
  · replace h := aw_ifn c1 h
    refine aw_aload_n (pc := 9) (q := 0) dX7_readStatement_9 rfl ?_
    refine aw_aload_n (pc := 10) (q := 0) dX7_readStatement_10 rfl ?_
    refine aw_getI (pc := 11) fd_X7_70.r xA_8 rfl dX7_readStatement_11 ?_
    obtain ⟨r23, s25, e24, h⟩ := aw_bd2e h
    refine aw_cV1 (pc := 14) [.int ((σ.1 8 14))] (c_Re_refuse e24) yy_Re_refuse.1 wm_286 yy_Re_refuse.2.1 yy_Re_refuse.2.2 xA_8 ⟨_, _, rfl⟩ rfl ⟨Nat.le_of_ble_eq_true rfl, Nat.le_of_ble_eq_true rfl⟩ ⟨Nat.zero_le _, Nat.zero_le _⟩ (Nat.le_of_ble_eq_true rfl) dX7_readStatement_14 ?_
    obtain ⟨g26, h⟩ := aw_gde h
    cases h
    subst hE
    exact aw_iret (v := _) rfl (aw_nz g26) ⟨Nat.zero_le _, Nat.zero_le _⟩ dX7_readStatement_17
theorem c_Re_readStatement {l : Launch} {G : aw_G} {σ : aw_S} {t : (Int32 × aw_S)} (h : m_Re_readStatement σ = some t) : aw_Ct l yX7_readStatement M_Re_readStatement G B_Re_readStatement [.ref 8] xA σ (some (.int t.1), xA, t.2) := aw_Ct_of (by decide) rfl (fun h => by cases h) (Nat.le_of_ble_eq_true rfl) (t_Re_readStatement h rfl)
/-! LateMover$Reader.readTarget([I[I)Z -/
set_option maxRecDepth 100000 in
set_option maxHeartbeats 4000000 in
theorem t_Re_readTarget {l : Launch} {G : aw_G} {E : aw_E} {σ : aw_S} {p1 : Nat} {p2 : Nat} (h_p1 : xA[p1]? = some (.inr (0, 76, aw_no))) (h_p2 : xA[p2]? = some (.inr (0, 76, aw_no))) {t : (Int32 × aw_S)} (h : m_Re_readTarget σ p1 p2 = some t) (hE : E = (some (.int t.1), xA, t.2)) : aw_W l M_Re_readTarget G B_Re_readTarget E 0 [(0, .ref 8), (1, .ref p1), (2, .ref p2)] [] xA σ 0 0 := by
  unfold m_Re_readTarget at h
  refine aw_aload_n (pc := 0) (q := 0) dX7_readTarget_0 rfl ?_
  refine aw_getI (pc := 1) fd_X7_70.r xA_8 rfl dX7_readTarget_1 ?_
  refine aw_nmI (fun x1 e_x1 => ?_)
  replace h := aw_lte h x1 e_x1
  refine aw_istore_n (pc := 4) [(3, .int x1), (0, .ref 8), (1, .ref p1), (2, .ref p2)] dX7_readTarget_4 (by decide) rfl ?_
  refine aw_aload_n (pc := 5) (q := 1) dX7_readTarget_5 rfl ?_
  refine aw_iconst (pc := 6) (v := 2) dX7_readTarget_6 (by decide) ?_
  obtain ⟨r2, s4, e3, h⟩ := aw_bd2e h
  refine aw_cV1 (pc := 7) [.int ((2 : Int32))] (c_Re_readNumber e3) yy_Re_readNumber.1 wm_309 yy_Re_readNumber.2.1 yy_Re_readNumber.2.2 xA_8 ⟨_, _, rfl⟩ rfl ⟨Nat.le_of_ble_eq_true rfl, Nat.le_of_ble_eq_true rfl⟩ ⟨Nat.zero_le _, Nat.zero_le _⟩ (Nat.le_of_ble_eq_true rfl) dX7_readTarget_7 ?_
  refine aw_istore (pc := 10) [(4, .int r2), (3, .int x1), (0, .ref 8), (1, .ref p1), (2, .ref p2)] dX7_readTarget_10 (by decide) rfl ?_
  refine aw_aload_n (pc := 12) (q := 2) dX7_readTarget_12 rfl ?_
  refine aw_getI (pc := 13) fd_X7_61.r xA_8 rfl dX7_readTarget_13 ?_
  refine aw_iconst (pc := 16) (v := 1) dX7_readTarget_16 (by decide) ?_
  refine aw_isub (pc := 17) dX7_readTarget_17 ?_
  refine aw_nmI (fun x5 e_x5 => ?_)
  replace h := aw_lte h x5 e_x5
  refine aw_istore (pc := 18) [(5, .int x5), (4, .int r2), (3, .int x1), (0, .ref 8), (1, .ref p1), (2, .ref p2)] dX7_readTarget_18 (by decide) rfl ?_
  refine aw_iload (pc := 20) (q := 1) dX7_readTarget_20 rfl ?_
  refine aw_iconst (pc := 22) (v := -1) dX7_readTarget_22 (by decide) ?_
  refine aw_icmp_eq (pc := 23) (tgt := 38) dX7_readTarget_23 (by decide) (fun c6 => ?_) (fun c6 => ?_)
  · replace h := aw_ifp c6 h
    refine aw_iconst (pc := 38) (v := 0) dX7_readTarget_38 (by decide) ?_
    cases h
    subst hE
    exact aw_iret (v := (0 : Int32)) rfl aw_n0 ⟨Nat.zero_le _, Nat.zero_le _⟩ dX7_readTarget_39
  · replace h := aw_ifn c6 h
    refine aw_iload (pc := 26) (q := 0) dX7_readTarget_26 rfl ?_
    refine aw_if_lt (pc := 28) (tgt := 38) dX7_readTarget_28 (by decide) (fun c7 => ?_) (fun c7 => ?_)
    · replace h := aw_ifp c7 h
      refine aw_iconst (pc := 38) (v := 0) dX7_readTarget_38 (by decide) ?_
      cases h
      subst hE
      exact aw_iret (v := (0 : Int32)) rfl aw_n0 ⟨Nat.zero_le _, Nat.zero_le _⟩ dX7_readTarget_39
    · replace h := aw_ifn c7 h
      refine aw_iload (pc := 31) (q := 0) dX7_readTarget_31 rfl ?_
      refine aw_bipush (pc := 33) (v := 76) dX7_readTarget_33 (by decide) ?_
      refine aw_icmp_lt (pc := 35) (tgt := 40) dX7_readTarget_35 (by decide) (fun c8 => ?_) (fun c8 => ?_)
      · replace h := aw_ifp c8 h
        refine aw_aload_n (pc := 40) (q := 4) dX7_readTarget_40 rfl ?_
        refine aw_iload (pc := 41) (q := 0) dX7_readTarget_41 rfl ?_
        refine aw_iload (pc := 43) (q := 1) dX7_readTarget_43 rfl ?_
        obtain ⟨g9, h⟩ := aw_gde h
        refine aw_iast (pc := 45) h_p1 g9 dX7_readTarget_45 ?_
        refine aw_nmS (fun s10 e_s10 => ?_)
        replace h := aw_lte h s10 e_s10
        refine aw_aload_n (pc := 46) (q := 5) dX7_readTarget_46 rfl ?_
        refine aw_iload (pc := 47) (q := 0) dX7_readTarget_47 rfl ?_
        refine aw_iload_n (pc := 49) (q := 2) dX7_readTarget_49 rfl ?_
        obtain ⟨g11, h⟩ := aw_gde h
        refine aw_iast (pc := 50) h_p2 g11 dX7_readTarget_50 ?_
        refine aw_nmS (fun s12 e_s12 => ?_)
        replace h := aw_lte h s12 e_s12
        refine aw_iconst (pc := 51) (v := 1) dX7_readTarget_51 (by decide) ?_
        cases h
        subst hE
        exact aw_iret (v := (1 : Int32)) rfl aw_n1 ⟨Nat.zero_le _, Nat.zero_le _⟩ dX7_readTarget_52
      · replace h := aw_ifn c8 h
        refine aw_iconst (pc := 38) (v := 0) dX7_readTarget_38 (by decide) ?_
        cases h
        subst hE
        exact aw_iret (v := (0 : Int32)) rfl aw_n0 ⟨Nat.zero_le _, Nat.zero_le _⟩ dX7_readTarget_39
theorem c_Re_readTarget {l : Launch} {G : aw_G} {σ : aw_S} {p1 : Nat} {p2 : Nat} (h_p1 : xA[p1]? = some (.inr (0, 76, aw_no))) (h_p2 : xA[p2]? = some (.inr (0, 76, aw_no))) {t : (Int32 × aw_S)} (h : m_Re_readTarget σ p1 p2 = some t) : aw_Ct l yX7_readTarget M_Re_readTarget G B_Re_readTarget [.ref 8, .ref p1, .ref p2] xA σ (some (.int t.1), xA, t.2) := aw_Ct_of (by decide) rfl (fun h => by cases h) (Nat.le_of_ble_eq_true rfl) (t_Re_readTarget h_p1 h_p2 h rfl)
/-! LateMover$Reader.readChoice()Z -/
set_option maxRecDepth 100000 in
set_option maxHeartbeats 4000000 in
theorem t_Re_readChoice {l : Launch} {G : aw_G} {E : aw_E} {σ : aw_S} {t : (Int32 × aw_S)} (h : m_Re_readChoice σ = some t) (hE : E = (some (.int t.1), xA, t.2)) : aw_W l M_Re_readChoice G B_Re_readChoice E 0 [(0, .ref 8)] [] xA σ 0 0 := by
  unfold m_Re_readChoice at h
  refine aw_aload_n (pc := 0) (q := 0) dX7_readChoice_0 rfl ?_
  refine aw_getC (pc := 1) fd_X7_12.r xA_8 rfl dX7_readChoice_1 ?_
  refine aw_aload_n (pc := 4) (q := 0) dX7_readChoice_4 rfl ?_
  refine aw_getI (pc := 5) fd_X7_70.r xA_8 rfl dX7_readChoice_5 ?_
  obtain ⟨r1, e2, h⟩ := aw_bde h
  refine aw_cV1 (pc := 8) [.int ((σ.1 8 14))] (c_Te_at isTe_9 e2) yy_Te_at.1 wm_294 yy_Te_at.2.1 yy_Te_at.2.2 xA_9 ⟨_, _, rfl⟩ rfl ⟨Nat.le_of_ble_eq_true rfl, Nat.le_of_ble_eq_true rfl⟩ ⟨Nat.zero_le _, Nat.zero_le _⟩ (Nat.le_of_ble_eq_true rfl) dX7_readChoice_8 ?_
  refine aw_istore_n (pc := 11) [(1, .int r1), (0, .ref 8)] dX7_readChoice_11 (by decide) rfl ?_
  refine aw_iload_n (pc := 12) (q := 0) dX7_readChoice_12 rfl ?_
  obtain ⟨r3, e4, h⟩ := aw_bde h
  refine aw_cS1 (pc := 13) [.int r1] (c_Re_isLetter e4) yy_Re_isLetter.1 wm_298 yy_Re_isLetter.2 rfl ⟨Nat.le_of_ble_eq_true rfl, Nat.le_of_ble_eq_true rfl⟩ ⟨Nat.zero_le _, Nat.zero_le _⟩ (Nat.le_of_ble_eq_true rfl) dX7_readChoice_13 ?_
  refine aw_if_ne (pc := 16) (tgt := 28) dX7_readChoice_16 (by decide) (fun c5 => ?_) (fun c5 => ?_)
  · replace h := aw_ifn c5 h
    refine aw_aload_n (pc := 28) (q := 1) dX7_readChoice_28 rfl ?_
    refine aw_dup (pc := 29) dX7_readChoice_29 rfl ?_
    refine aw_getI (pc := 30) fd_X7_70.r xA_8 rfl dX7_readChoice_30 ?_
    refine aw_iconst (pc := 33) (v := 1) dX7_readChoice_33 (by decide) ?_
    refine aw_iadd (pc := 34) dX7_readChoice_34 ?_
    refine aw_putI (pc := 35) fd_X7_70 xA_8 rfl (fun _ => rfl) (fun _ => rfl) dX7_readChoice_35 ?_
    refine aw_nmS (fun s6 e_s6 => ?_)
    replace h := aw_lte h s6 e_s6
    refine aw_aload_n (pc := 38) (q := 1) dX7_readChoice_38 rfl ?_
    refine aw_iconst (pc := 39) (v := 5) dX7_readChoice_39 (by decide) ?_
    obtain ⟨r7, s9, e8, h⟩ := aw_bd2e h
    refine aw_cV1 (pc := 40) [.int ((5 : Int32))] (c_Re_addLine e8) yy_Re_addLine.1 wm_320 yy_Re_addLine.2.1 yy_Re_addLine.2.2 xA_8 ⟨_, _, rfl⟩ rfl ⟨Nat.le_of_ble_eq_true rfl, Nat.le_of_ble_eq_true rfl⟩ ⟨Nat.zero_le _, Nat.zero_le _⟩ (Nat.le_of_ble_eq_true rfl) dX7_readChoice_40 ?_
    refine aw_if_ne (pc := 43) (tgt := 48) dX7_readChoice_43 (by decide) (fun c10 => ?_) (fun c10 => ?_)
    · replace h := aw_ifn c10 h
      refine aw_aload_n (pc := 48) (q := 1) dX7_readChoice_48 rfl ?_
      refine aw_getC (pc := 49) fd_X7_32.r xA_8 rfl dX7_readChoice_49 ?_
      refine aw_aload_n (pc := 52) (q := 1) dX7_readChoice_52 rfl ?_
      refine aw_getI (pc := 53) fd_X7_61.r xA_8 rfl dX7_readChoice_53 ?_
      refine aw_iconst (pc := 56) (v := 1) dX7_readChoice_56 (by decide) ?_
      refine aw_isub (pc := 57) dX7_readChoice_57 ?_
      refine aw_iload_n (pc := 58) (q := 0) dX7_readChoice_58 rfl ?_
      refine aw_bipush (pc := 59) (v := 97) dX7_readChoice_59 (by decide) ?_
      refine aw_isub (pc := 61) dX7_readChoice_61 ?_
      obtain ⟨g11, h⟩ := aw_gde h
      refine aw_iast (pc := 62) xA_17 g11 dX7_readChoice_62 ?_
      refine aw_nmS (fun s12 e_s12 => ?_)
      replace h := aw_lte h s12 e_s12
      refine aw_aload_n (pc := 63) (q := 1) dX7_readChoice_63 rfl ?_
      refine aw_aload_n (pc := 64) (q := 1) dX7_readChoice_64 rfl ?_
      refine aw_getC (pc := 65) fd_X7_41.r xA_8 rfl dX7_readChoice_65 ?_
      refine aw_aload_n (pc := 68) (q := 1) dX7_readChoice_68 rfl ?_
      refine aw_getC (pc := 69) fd_X7_47.r xA_8 rfl dX7_readChoice_69 ?_
      obtain ⟨r13, s15, e14, h⟩ := aw_bd2e h
      refine aw_cV1 (pc := 72) [.ref 20, .ref 22] (c_Re_readTarget xA_20 xA_22 e14) yy_Re_readTarget.1 wm_344 yy_Re_readTarget.2.1 yy_Re_readTarget.2.2 xA_8 ⟨_, _, rfl⟩ rfl ⟨Nat.le_of_ble_eq_true rfl, Nat.le_of_ble_eq_true rfl⟩ ⟨Nat.zero_le _, Nat.zero_le _⟩ (Nat.le_of_ble_eq_true rfl) dX7_readChoice_72 ?_
      refine aw_if_eq (pc := 75) (tgt := 106) dX7_readChoice_75 (by decide) (fun c16 => ?_) (fun c16 => ?_)
      · replace h := aw_ifp c16 h
        refine aw_iconst (pc := 106) (v := 0) dX7_readChoice_106 (by decide) ?_
        cases h
        subst hE
        exact aw_iret (v := (0 : Int32)) rfl aw_n0 ⟨Nat.zero_le _, Nat.zero_le _⟩ dX7_readChoice_107
      · replace h := aw_ifn c16 h
        refine aw_aload_n (pc := 78) (q := 1) dX7_readChoice_78 rfl ?_
        refine aw_bipush (pc := 79) (v := 44) dX7_readChoice_79 (by decide) ?_
        obtain ⟨r17, s19, e18, h⟩ := aw_bd2e h
        refine aw_cV1 (pc := 81) [.int ((44 : Int32))] (c_Re_take e18) yy_Re_take.1 wm_324 yy_Re_take.2.1 yy_Re_take.2.2 xA_8 ⟨_, _, rfl⟩ rfl ⟨Nat.le_of_ble_eq_true rfl, Nat.le_of_ble_eq_true rfl⟩ ⟨Nat.zero_le _, Nat.zero_le _⟩ (Nat.le_of_ble_eq_true rfl) dX7_readChoice_81 ?_
        refine aw_if_eq (pc := 84) (tgt := 106) dX7_readChoice_84 (by decide) (fun c20 => ?_) (fun c20 => ?_)
        · replace h := aw_ifp c20 h
          refine aw_iconst (pc := 106) (v := 0) dX7_readChoice_106 (by decide) ?_
          cases h
          subst hE
          exact aw_iret (v := (0 : Int32)) rfl aw_n0 ⟨Nat.zero_le _, Nat.zero_le _⟩ dX7_readChoice_107
        · replace h := aw_ifn c20 h
          refine aw_aload_n (pc := 87) (q := 1) dX7_readChoice_87 rfl ?_
          refine aw_aload_n (pc := 88) (q := 1) dX7_readChoice_88 rfl ?_
          refine aw_getC (pc := 89) fd_X7_44.r xA_8 rfl dX7_readChoice_89 ?_
          refine aw_aload_n (pc := 92) (q := 1) dX7_readChoice_92 rfl ?_
          refine aw_getC (pc := 93) fd_X7_50.r xA_8 rfl dX7_readChoice_93 ?_
          obtain ⟨r21, s23, e22, h⟩ := aw_bd2e h
          refine aw_cV1 (pc := 96) [.ref 21, .ref 23] (c_Re_readTarget xA_21 xA_23 e22) yy_Re_readTarget.1 wm_344 yy_Re_readTarget.2.1 yy_Re_readTarget.2.2 xA_8 ⟨_, _, rfl⟩ rfl ⟨Nat.le_of_ble_eq_true rfl, Nat.le_of_ble_eq_true rfl⟩ ⟨Nat.zero_le _, Nat.zero_le _⟩ (Nat.le_of_ble_eq_true rfl) dX7_readChoice_96 ?_
          refine aw_if_eq (pc := 99) (tgt := 106) dX7_readChoice_99 (by decide) (fun c24 => ?_) (fun c24 => ?_)
          · replace h := aw_ifp c24 h
            refine aw_iconst (pc := 106) (v := 0) dX7_readChoice_106 (by decide) ?_
            cases h
            subst hE
            exact aw_iret (v := (0 : Int32)) rfl aw_n0 ⟨Nat.zero_le _, Nat.zero_le _⟩ dX7_readChoice_107
          · replace h := aw_ifn c24 h
            refine aw_iconst (pc := 102) (v := 1) dX7_readChoice_102 (by decide) ?_
            refine aw_goto (pc := 103) (tgt := 107) dX7_readChoice_103 (by decide) ?_
            cases h
            subst hE
            exact aw_iret (v := (1 : Int32)) rfl aw_n1 ⟨Nat.zero_le _, Nat.zero_le _⟩ dX7_readChoice_107
    · replace h := aw_ifp c10 h
      refine aw_iconst (pc := 46) (v := 0) dX7_readChoice_46 (by decide) ?_
      cases h
      subst hE
      exact aw_iret (v := (0 : Int32)) rfl aw_n0 ⟨Nat.zero_le _, Nat.zero_le _⟩ dX7_readChoice_47
  · replace h := aw_ifp c5 h
    refine aw_aload_n (pc := 19) (q := 1) dX7_readChoice_19 rfl ?_
    refine aw_aload_n (pc := 20) (q := 1) dX7_readChoice_20 rfl ?_
    refine aw_getI (pc := 21) fd_X7_70.r xA_8 rfl dX7_readChoice_21 ?_
    obtain ⟨r25, s27, e26, h⟩ := aw_bd2e h
    refine aw_cV1 (pc := 24) [.int ((σ.1 8 14))] (c_Re_refuse e26) yy_Re_refuse.1 wm_286 yy_Re_refuse.2.1 yy_Re_refuse.2.2 xA_8 ⟨_, _, rfl⟩ rfl ⟨Nat.le_of_ble_eq_true rfl, Nat.le_of_ble_eq_true rfl⟩ ⟨Nat.zero_le _, Nat.zero_le _⟩ (Nat.le_of_ble_eq_true rfl) dX7_readChoice_24 ?_
    obtain ⟨g28, h⟩ := aw_gde h
    cases h
    subst hE
    exact aw_iret (v := _) rfl (aw_nz g28) ⟨Nat.zero_le _, Nat.zero_le _⟩ dX7_readChoice_27
theorem c_Re_readChoice {l : Launch} {G : aw_G} {σ : aw_S} {t : (Int32 × aw_S)} (h : m_Re_readChoice σ = some t) : aw_Ct l yX7_readChoice M_Re_readChoice G B_Re_readChoice [.ref 8] xA σ (some (.int t.1), xA, t.2) := aw_Ct_of (by decide) rfl (fun h => by cases h) (Nat.le_of_ble_eq_true rfl) (t_Re_readChoice h rfl)
/-! LateMover$Reader.readEnd()Z -/
set_option maxRecDepth 100000 in
set_option maxHeartbeats 4000000 in
theorem t_Re_readEnd {l : Launch} {G : aw_G} {E : aw_E} {σ : aw_S} {t : (Int32 × aw_S)} (h : m_Re_readEnd σ = some t) (hE : E = (some (.int t.1), xA, t.2)) : aw_W l M_Re_readEnd G B_Re_readEnd E 0 [(0, .ref 8)] [] xA σ 0 0 := by
  unfold m_Re_readEnd at h
  refine aw_aload_n (pc := 0) (q := 0) dX7_readEnd_0 rfl ?_
  refine aw_getC (pc := 1) fd_X7_12.r xA_8 rfl dX7_readEnd_1 ?_
  refine aw_aload_n (pc := 4) (q := 0) dX7_readEnd_4 rfl ?_
  refine aw_getI (pc := 5) fd_X7_70.r xA_8 rfl dX7_readEnd_5 ?_
  obtain ⟨r1, e2, h⟩ := aw_bde h
  refine aw_cV1 (pc := 8) [.int ((σ.1 8 14))] (c_Te_at isTe_9 e2) yy_Te_at.1 wm_294 yy_Te_at.2.1 yy_Te_at.2.2 xA_9 ⟨_, _, rfl⟩ rfl ⟨Nat.le_of_ble_eq_true rfl, Nat.le_of_ble_eq_true rfl⟩ ⟨Nat.zero_le _, Nat.zero_le _⟩ (Nat.le_of_ble_eq_true rfl) dX7_readEnd_8 ?_
  refine aw_istore_n (pc := 11) [(1, .int r1), (0, .ref 8)] dX7_readEnd_11 (by decide) rfl ?_
  refine aw_iload_n (pc := 12) (q := 0) dX7_readEnd_12 rfl ?_
  refine aw_bipush (pc := 13) (v := 46) dX7_readEnd_13 (by decide) ?_
  refine aw_icmp_ne (pc := 15) (tgt := 35) dX7_readEnd_15 (by decide) (fun c3 => ?_) (fun c3 => ?_)
  · replace h := aw_ifn c3 h
    refine aw_iload_n (pc := 35) (q := 0) dX7_readEnd_35 rfl ?_
    refine aw_bipush (pc := 36) (v := 62) dX7_readEnd_36 (by decide) ?_
    refine aw_icmp_ne (pc := 38) (tgt := 80) dX7_readEnd_38 (by decide) (fun c4 => ?_) (fun c4 => ?_)
    · replace h := aw_ifn c4 h
      refine aw_aload_n (pc := 80) (q := 1) dX7_readEnd_80 rfl ?_
      refine aw_bipush (pc := 81) (v := 63) dX7_readEnd_81 (by decide) ?_
      obtain ⟨r5, s7, e6, h⟩ := aw_bd2e h
      refine aw_cV1 (pc := 83) [.int ((63 : Int32))] (c_Re_take e6) yy_Re_take.1 wm_324 yy_Re_take.2.1 yy_Re_take.2.2 xA_8 ⟨_, _, rfl⟩ rfl ⟨Nat.le_of_ble_eq_true rfl, Nat.le_of_ble_eq_true rfl⟩ ⟨Nat.zero_le _, Nat.zero_le _⟩ (Nat.le_of_ble_eq_true rfl) dX7_readEnd_83 ?_
      refine aw_if_eq (pc := 86) (tgt := 100) dX7_readEnd_86 (by decide) (fun c8 => ?_) (fun c8 => ?_)
      · replace h := aw_ifp c8 h
        refine aw_iconst (pc := 100) (v := 0) dX7_readEnd_100 (by decide) ?_
        cases h
        subst hE
        exact aw_iret (v := (0 : Int32)) rfl aw_n0 ⟨Nat.zero_le _, Nat.zero_le _⟩ dX7_readEnd_101
      · replace h := aw_ifn c8 h
        refine aw_aload_n (pc := 89) (q := 1) dX7_readEnd_89 rfl ?_
        obtain ⟨r9, s11, e10, h⟩ := aw_bd2e h
        refine aw_cV1 (pc := 90) [] (c_Re_readChoice e10) yy_Re_readChoice.1 wm_348 yy_Re_readChoice.2.1 yy_Re_readChoice.2.2 xA_8 ⟨_, _, rfl⟩ rfl ⟨Nat.le_of_ble_eq_true rfl, Nat.le_of_ble_eq_true rfl⟩ ⟨Nat.zero_le _, Nat.zero_le _⟩ (Nat.le_of_ble_eq_true rfl) dX7_readEnd_90 ?_
        refine aw_if_eq (pc := 93) (tgt := 100) dX7_readEnd_93 (by decide) (fun c12 => ?_) (fun c12 => ?_)
        · replace h := aw_ifp c12 h
          refine aw_iconst (pc := 100) (v := 0) dX7_readEnd_100 (by decide) ?_
          cases h
          subst hE
          exact aw_iret (v := (0 : Int32)) rfl aw_n0 ⟨Nat.zero_le _, Nat.zero_le _⟩ dX7_readEnd_101
        · replace h := aw_ifn c12 h
          refine aw_iconst (pc := 96) (v := 1) dX7_readEnd_96 (by decide) ?_
          refine aw_goto (pc := 97) (tgt := 101) dX7_readEnd_97 (by decide) ?_
          cases h
          subst hE
          exact aw_iret (v := (1 : Int32)) rfl aw_n1 ⟨Nat.zero_le _, Nat.zero_le _⟩ dX7_readEnd_101
    · replace h := aw_ifp c4 h
      refine aw_aload_n (pc := 41) (q := 1) dX7_readEnd_41 rfl ?_
      refine aw_dup (pc := 42) dX7_readEnd_42 rfl ?_
      refine aw_getI (pc := 43) fd_X7_70.r xA_8 rfl dX7_readEnd_43 ?_
      refine aw_iconst (pc := 46) (v := 1) dX7_readEnd_46 (by decide) ?_
      refine aw_iadd (pc := 47) dX7_readEnd_47 ?_
      refine aw_putI (pc := 48) fd_X7_70 xA_8 rfl (fun _ => rfl) (fun _ => rfl) dX7_readEnd_48 ?_
      refine aw_nmS (fun s13 e_s13 => ?_)
      replace h := aw_lte h s13 e_s13
      refine aw_aload_n (pc := 51) (q := 1) dX7_readEnd_51 rfl ?_
      refine aw_iconst (pc := 52) (v := 4) dX7_readEnd_52 (by decide) ?_
      obtain ⟨r14, s16, e15, h⟩ := aw_bd2e h
      refine aw_cV1 (pc := 53) [.int ((4 : Int32))] (c_Re_addLine e15) yy_Re_addLine.1 wm_320 yy_Re_addLine.2.1 yy_Re_addLine.2.2 xA_8 ⟨_, _, rfl⟩ rfl ⟨Nat.le_of_ble_eq_true rfl, Nat.le_of_ble_eq_true rfl⟩ ⟨Nat.zero_le _, Nat.zero_le _⟩ (Nat.le_of_ble_eq_true rfl) dX7_readEnd_53 ?_
      refine aw_if_eq (pc := 56) (tgt := 78) dX7_readEnd_56 (by decide) (fun c17 => ?_) (fun c17 => ?_)
      · replace h := aw_ifp c17 h
        refine aw_iconst (pc := 78) (v := 0) dX7_readEnd_78 (by decide) ?_
        cases h
        subst hE
        exact aw_iret (v := (0 : Int32)) rfl aw_n0 ⟨Nat.zero_le _, Nat.zero_le _⟩ dX7_readEnd_79
      · replace h := aw_ifn c17 h
        refine aw_aload_n (pc := 59) (q := 1) dX7_readEnd_59 rfl ?_
        refine aw_aload_n (pc := 60) (q := 1) dX7_readEnd_60 rfl ?_
        refine aw_getC (pc := 61) fd_X7_41.r xA_8 rfl dX7_readEnd_61 ?_
        refine aw_aload_n (pc := 64) (q := 1) dX7_readEnd_64 rfl ?_
        refine aw_getC (pc := 65) fd_X7_47.r xA_8 rfl dX7_readEnd_65 ?_
        obtain ⟨r18, s20, e19, h⟩ := aw_bd2e h
        refine aw_cV1 (pc := 68) [.ref 20, .ref 22] (c_Re_readTarget xA_20 xA_22 e19) yy_Re_readTarget.1 wm_344 yy_Re_readTarget.2.1 yy_Re_readTarget.2.2 xA_8 ⟨_, _, rfl⟩ rfl ⟨Nat.le_of_ble_eq_true rfl, Nat.le_of_ble_eq_true rfl⟩ ⟨Nat.zero_le _, Nat.zero_le _⟩ (Nat.le_of_ble_eq_true rfl) dX7_readEnd_68 ?_
        refine aw_if_eq (pc := 71) (tgt := 78) dX7_readEnd_71 (by decide) (fun c21 => ?_) (fun c21 => ?_)
        · replace h := aw_ifp c21 h
          refine aw_iconst (pc := 78) (v := 0) dX7_readEnd_78 (by decide) ?_
          cases h
          subst hE
          exact aw_iret (v := (0 : Int32)) rfl aw_n0 ⟨Nat.zero_le _, Nat.zero_le _⟩ dX7_readEnd_79
        · replace h := aw_ifn c21 h
          refine aw_iconst (pc := 74) (v := 1) dX7_readEnd_74 (by decide) ?_
          refine aw_goto (pc := 75) (tgt := 79) dX7_readEnd_75 (by decide) ?_
          cases h
          subst hE
          exact aw_iret (v := (1 : Int32)) rfl aw_n1 ⟨Nat.zero_le _, Nat.zero_le _⟩ dX7_readEnd_79
  · replace h := aw_ifp c3 h
    refine aw_aload_n (pc := 18) (q := 1) dX7_readEnd_18 rfl ?_
    refine aw_dup (pc := 19) dX7_readEnd_19 rfl ?_
    refine aw_getI (pc := 20) fd_X7_70.r xA_8 rfl dX7_readEnd_20 ?_
    refine aw_iconst (pc := 23) (v := 1) dX7_readEnd_23 (by decide) ?_
    refine aw_iadd (pc := 24) dX7_readEnd_24 ?_
    refine aw_putI (pc := 25) fd_X7_70 xA_8 rfl (fun _ => rfl) (fun _ => rfl) dX7_readEnd_25 ?_
    refine aw_nmS (fun s22 e_s22 => ?_)
    replace h := aw_lte h s22 e_s22
    refine aw_aload_n (pc := 28) (q := 1) dX7_readEnd_28 rfl ?_
    refine aw_bipush (pc := 29) (v := 6) dX7_readEnd_29 (by decide) ?_
    obtain ⟨r23, s25, e24, h⟩ := aw_bd2e h
    refine aw_cV1 (pc := 31) [.int ((6 : Int32))] (c_Re_addLine e24) yy_Re_addLine.1 wm_320 yy_Re_addLine.2.1 yy_Re_addLine.2.2 xA_8 ⟨_, _, rfl⟩ rfl ⟨Nat.le_of_ble_eq_true rfl, Nat.le_of_ble_eq_true rfl⟩ ⟨Nat.zero_le _, Nat.zero_le _⟩ (Nat.le_of_ble_eq_true rfl) dX7_readEnd_31 ?_
    obtain ⟨g26, h⟩ := aw_gde h
    cases h
    subst hE
    exact aw_iret (v := _) rfl (aw_nz g26) ⟨Nat.zero_le _, Nat.zero_le _⟩ dX7_readEnd_34
theorem c_Re_readEnd {l : Launch} {G : aw_G} {σ : aw_S} {t : (Int32 × aw_S)} (h : m_Re_readEnd σ = some t) : aw_Ct l yX7_readEnd M_Re_readEnd G B_Re_readEnd [.ref 8] xA σ (some (.int t.1), xA, t.2) := aw_Ct_of (by decide) rfl (fun h => by cases h) (Nat.le_of_ble_eq_true rfl) (t_Re_readEnd h rfl)
/-! LateMover$Reader.readBlock()Z -/
def z_Re_readBlock_X20 (l : Launch) (G : aw_G) (E : aw_E) (s : Int32 × aw_S) : Prop := aw_W l M_Re_readBlock G B_Re_readBlock E 20 [(0, .ref 8), (1, .int s.1)] [] xA s.2 0 0
def z_Re_readBlock_Y20 (l : Launch) (G : aw_G) (E : aw_E) (x : (((Int32 × aw_S)) ⊕ (aw_S))) : Prop := (Sum.elim (fun r0 => E = (some (.int r0.1), xA, r0.2)) (fun r1 => aw_W l M_Re_readBlock G B_Re_readBlock E 57 [(0, .ref 8)] [] xA r1 0 0)) x
set_option maxRecDepth 100000 in
set_option maxHeartbeats 4000000 in
theorem t_Re_readBlock_B20 {l : Launch} {G : aw_G} {E : aw_E} {σ : aw_S} {v1 : Int32} {t : (((Int32 × aw_S)) ⊕ (aw_S)) ⊕ (Int32 × aw_S)} (h : m_Re_readBlock_B20 σ v1 = some t) (hz : Sum.elim (z_Re_readBlock_Y20 l G E) (z_Re_readBlock_X20 l G E) t) : aw_W l M_Re_readBlock G B_Re_readBlock E 20 [(0, .ref 8), (1, .int v1)] [] xA σ 0 0 := by
  unfold m_Re_readBlock_B20 at h
  refine aw_iload_n (pc := 20) (q := 1) dX7_readBlock_20 rfl ?_
  refine aw_bipush (pc := 21) (v := 60) dX7_readBlock_21 (by decide) ?_
  refine aw_icmp_gt (pc := 23) (tgt := 57) dX7_readBlock_23 (by decide) (fun c2 => ?_) (fun c2 => ?_)
  · replace h := aw_ifp c2 h
    refine aw_sub [0] rfl ?_
    cases h
    exact hz
  · replace h := aw_ifn c2 h
    refine aw_aload_n (pc := 26) (q := 0) dX7_readBlock_26 rfl ?_
    obtain ⟨r3, e4, h⟩ := aw_bde h
    refine aw_cV1 (pc := 27) [] (c_Re_startsStatement e4) yy_Re_startsStatement.1 wm_290 yy_Re_startsStatement.2.1 yy_Re_startsStatement.2.2 xA_8 ⟨_, _, rfl⟩ rfl ⟨Nat.le_of_ble_eq_true rfl, Nat.le_of_ble_eq_true rfl⟩ ⟨Nat.zero_le _, Nat.zero_le _⟩ (Nat.le_of_ble_eq_true rfl) dX7_readBlock_27 ?_
    refine aw_if_eq (pc := 30) (tgt := 57) dX7_readBlock_30 (by decide) (fun c5 => ?_) (fun c5 => ?_)
    · replace h := aw_ifp c5 h
      refine aw_sub [0] rfl ?_
      cases h
      exact hz
    · replace h := aw_ifn c5 h
      refine aw_aload_n (pc := 33) (q := 0) dX7_readBlock_33 rfl ?_
      obtain ⟨r6, s8, e7, h⟩ := aw_bd2e h
      refine aw_cV1 (pc := 34) [] (c_Re_readStatement e7) yy_Re_readStatement.1 wm_301 yy_Re_readStatement.2.1 yy_Re_readStatement.2.2 xA_8 ⟨_, _, rfl⟩ rfl ⟨Nat.le_of_ble_eq_true rfl, Nat.le_of_ble_eq_true rfl⟩ ⟨Nat.zero_le _, Nat.zero_le _⟩ (Nat.le_of_ble_eq_true rfl) dX7_readBlock_34 ?_
      refine aw_if_eq (pc := 37) (tgt := 49) dX7_readBlock_37 (by decide) (fun c9 => ?_) (fun c9 => ?_)
      · replace h := aw_ifp c9 h
        refine aw_iconst (pc := 49) (v := 0) dX7_readBlock_49 (by decide) ?_
        cases h
        have hE : E = _ := hz
        subst hE
        exact aw_iret (v := (0 : Int32)) rfl aw_n0 ⟨Nat.zero_le _, Nat.zero_le _⟩ dX7_readBlock_50
      · replace h := aw_ifn c9 h
        refine aw_aload_n (pc := 40) (q := 0) dX7_readBlock_40 rfl ?_
        refine aw_bipush (pc := 41) (v := 59) dX7_readBlock_41 (by decide) ?_
        obtain ⟨r10, s12, e11, h⟩ := aw_bd2e h
        refine aw_cV1 (pc := 43) [.int ((59 : Int32))] (c_Re_take e11) yy_Re_take.1 wm_324 yy_Re_take.2.1 yy_Re_take.2.2 xA_8 ⟨_, _, rfl⟩ rfl ⟨Nat.le_of_ble_eq_true rfl, Nat.le_of_ble_eq_true rfl⟩ ⟨Nat.zero_le _, Nat.zero_le _⟩ (Nat.le_of_ble_eq_true rfl) dX7_readBlock_43 ?_
        refine aw_if_ne (pc := 46) (tgt := 51) dX7_readBlock_46 (by decide) (fun c13 => ?_) (fun c13 => ?_)
        · replace h := aw_ifn c13 h
          obtain ⟨x14, e_x14⟩ : ∃ z, z = (v1 + (1 : Int32)) := ⟨_, rfl⟩
          replace h := aw_lte h x14 e_x14
          refine aw_iinc (pc := 51) (q := 1) (v := x14) [(1, .int x14), (0, .ref 8)] dX7_readBlock_51 rfl e_x14.symm (by decide) rfl ?_
          refine aw_goto (pc := 54) (tgt := 20) dX7_readBlock_54 (by decide) ?_
          refine aw_sub [1, 0] rfl ?_
          cases h
          exact hz
        · replace h := aw_ifp c13 h
          refine aw_iconst (pc := 49) (v := 0) dX7_readBlock_49 (by decide) ?_
          cases h
          have hE : E = _ := hz
          subst hE
          exact aw_iret (v := (0 : Int32)) rfl aw_n0 ⟨Nat.zero_le _, Nat.zero_le _⟩ dX7_readBlock_50
set_option maxRecDepth 100000 in
set_option maxHeartbeats 4000000 in
theorem t_Re_readBlock {l : Launch} {G : aw_G} {E : aw_E} {σ : aw_S} {t : (Int32 × aw_S)} (h : m_Re_readBlock σ = some t) (hE : E = (some (.int t.1), xA, t.2)) : aw_W l M_Re_readBlock G B_Re_readBlock E 0 [(0, .ref 8)] [] xA σ 0 0 := by
  unfold m_Re_readBlock at h
  refine aw_aload_n (pc := 0) (q := 0) dX7_readBlock_0 rfl ?_
  refine aw_getI (pc := 1) fd_X7_64.r xA_8 rfl dX7_readBlock_1 ?_
  refine aw_bipush (pc := 4) (v := 16) dX7_readBlock_4 (by decide) ?_
  refine aw_icmp_lt (pc := 6) (tgt := 18) dX7_readBlock_6 (by decide) (fun c1 => ?_) (fun c1 => ?_)
  · replace h := aw_ifp c1 h
    refine aw_iconst (pc := 18) (v := 0) dX7_readBlock_18 (by decide) ?_
    refine aw_istore_n (pc := 19) [(1, .int ((0 : Int32))), (0, .ref 8)] dX7_readBlock_19 (by decide) rfl ?_
    obtain ⟨x15, hl16, h⟩ := aw_bde h
    have K17 : z_Re_readBlock_Y20 l G E x15 := by
      cases x15 with
      | inl y18 =>
        replace h := aw_eL h
        show E = _
        cases h
        exact hE
      | inr y19 =>
        replace h := aw_eR h
        show aw_W l M_Re_readBlock G B_Re_readBlock E 57 [(0, .ref 8)] [] xA y19 0 0
        refine aw_aload_n (pc := 57) (q := 0) dX7_readBlock_57 rfl ?_
        obtain ⟨r20, s22, e21, h⟩ := aw_bd2e h
        refine aw_cV1 (pc := 58) [] (c_Re_readEnd e21) yy_Re_readEnd.1 wm_340 yy_Re_readEnd.2.1 yy_Re_readEnd.2.2 xA_8 ⟨_, _, rfl⟩ rfl ⟨Nat.le_of_ble_eq_true rfl, Nat.le_of_ble_eq_true rfl⟩ ⟨Nat.zero_le _, Nat.zero_le _⟩ (Nat.le_of_ble_eq_true rfl) dX7_readBlock_58 ?_
        refine aw_if_eq (pc := 61) (tgt := 73) dX7_readBlock_61 (by decide) (fun c23 => ?_) (fun c23 => ?_)
        · replace h := aw_ifp c23 h
          refine aw_iconst (pc := 73) (v := 0) dX7_readBlock_73 (by decide) ?_
          cases h
          subst hE
          exact aw_iret (v := (0 : Int32)) rfl aw_n0 ⟨Nat.zero_le _, Nat.zero_le _⟩ dX7_readBlock_74
        · replace h := aw_ifn c23 h
          refine aw_aload_n (pc := 64) (q := 0) dX7_readBlock_64 rfl ?_
          refine aw_bipush (pc := 65) (v := 59) dX7_readBlock_65 (by decide) ?_
          obtain ⟨r24, s26, e25, h⟩ := aw_bd2e h
          refine aw_cV1 (pc := 67) [.int ((59 : Int32))] (c_Re_take e25) yy_Re_take.1 wm_324 yy_Re_take.2.1 yy_Re_take.2.2 xA_8 ⟨_, _, rfl⟩ rfl ⟨Nat.le_of_ble_eq_true rfl, Nat.le_of_ble_eq_true rfl⟩ ⟨Nat.zero_le _, Nat.zero_le _⟩ (Nat.le_of_ble_eq_true rfl) dX7_readBlock_67 ?_
          refine aw_if_ne (pc := 70) (tgt := 75) dX7_readBlock_70 (by decide) (fun c27 => ?_) (fun c27 => ?_)
          · replace h := aw_ifn c27 h
            refine aw_aload_n (pc := 75) (q := 0) dX7_readBlock_75 rfl ?_
            refine aw_dup (pc := 76) dX7_readBlock_76 rfl ?_
            refine aw_getI (pc := 77) fd_X7_64.r xA_8 rfl dX7_readBlock_77 ?_
            refine aw_iconst (pc := 80) (v := 1) dX7_readBlock_80 (by decide) ?_
            refine aw_iadd (pc := 81) dX7_readBlock_81 ?_
            refine aw_putI (pc := 82) fd_X7_64 xA_8 rfl (fun _ => rfl) (fun _ => rfl) dX7_readBlock_82 ?_
            refine aw_nmS (fun s28 e_s28 => ?_)
            replace h := aw_lte h s28 e_s28
            refine aw_iconst (pc := 85) (v := 1) dX7_readBlock_85 (by decide) ?_
            cases h
            subst hE
            exact aw_iret (v := (1 : Int32)) rfl aw_n1 ⟨Nat.zero_le _, Nat.zero_le _⟩ dX7_readBlock_86
          · replace h := aw_ifp c27 h
            refine aw_iconst (pc := 73) (v := 0) dX7_readBlock_73 (by decide) ?_
            cases h
            subst hE
            exact aw_iret (v := (0 : Int32)) rfl aw_n0 ⟨Nat.zero_le _, Nat.zero_le _⟩ dX7_readBlock_74
    refine aw_sub [1, 0] rfl ?_
    show z_Re_readBlock_X20 l G E (((0 : Int32), σ))
    exact aw_lp_X (Xp := z_Re_readBlock_X20 l G E) (Y := z_Re_readBlock_Y20 l G E) hl16 K17 (fun s t hf hz => t_Re_readBlock_B20 hf hz)
  · replace h := aw_ifn c1 h
    refine aw_aload_n (pc := 9) (q := 0) dX7_readBlock_9 rfl ?_
    refine aw_aload_n (pc := 10) (q := 0) dX7_readBlock_10 rfl ?_
    refine aw_getI (pc := 11) fd_X7_70.r xA_8 rfl dX7_readBlock_11 ?_
    obtain ⟨r29, s31, e30, h⟩ := aw_bd2e h
    refine aw_cV1 (pc := 14) [.int ((σ.1 8 14))] (c_Re_refuse e30) yy_Re_refuse.1 wm_286 yy_Re_refuse.2.1 yy_Re_refuse.2.2 xA_8 ⟨_, _, rfl⟩ rfl ⟨Nat.le_of_ble_eq_true rfl, Nat.le_of_ble_eq_true rfl⟩ ⟨Nat.zero_le _, Nat.zero_le _⟩ (Nat.le_of_ble_eq_true rfl) dX7_readBlock_14 ?_
    obtain ⟨g32, h⟩ := aw_gde h
    cases h
    subst hE
    exact aw_iret (v := _) rfl (aw_nz g32) ⟨Nat.zero_le _, Nat.zero_le _⟩ dX7_readBlock_17
theorem c_Re_readBlock {l : Launch} {G : aw_G} {σ : aw_S} {t : (Int32 × aw_S)} (h : m_Re_readBlock σ = some t) : aw_Ct l yX7_readBlock M_Re_readBlock G B_Re_readBlock [.ref 8] xA σ (some (.int t.1), xA, t.2) := aw_Ct_of (by decide) rfl (fun h => by cases h) (Nat.le_of_ble_eq_true rfl) (t_Re_readBlock h rfl)
/-! LateMover$Reader.findStrayNumber()V -/
def z_Re_findStrayNumber_X2 (l : Launch) (G : aw_G) (E : aw_E) (s : Int32 × aw_S) : Prop := aw_W l M_Re_findStrayNumber G B_Re_findStrayNumber E 2 [(0, .ref 8), (1, .int s.1)] [] xA s.2 0 0
def z_Re_findStrayNumber_Y2 (l : Launch) (G : aw_G) (E : aw_E) (x : (aw_S)) : Prop := aw_W l M_Re_findStrayNumber G B_Re_findStrayNumber E 73 [] [] xA x 0 0
set_option maxRecDepth 100000 in
set_option maxHeartbeats 4000000 in
theorem t_Re_findStrayNumber_J67 {l : Launch} {G : aw_G} {E : aw_E} {σ : aw_S} {v1 : Int32} {t : (aw_S) ⊕ (Int32 × aw_S)} (h : m_Re_findStrayNumber_J67 σ v1 = some t) (hz : Sum.elim (z_Re_findStrayNumber_Y2 l G E) (z_Re_findStrayNumber_X2 l G E) t) : aw_W l M_Re_findStrayNumber G B_Re_findStrayNumber E 67 [(0, .ref 8), (1, .int v1)] [] xA σ 0 0 := by
  unfold m_Re_findStrayNumber_J67 at h
  obtain ⟨x7, e_x7⟩ : ∃ z, z = (v1 + (1 : Int32)) := ⟨_, rfl⟩
  replace h := aw_lte h x7 e_x7
  refine aw_iinc (pc := 67) (q := 1) (v := x7) [(1, .int x7), (0, .ref 8)] dX7_findStrayNumber_67 rfl e_x7.symm (by decide) rfl ?_
  refine aw_goto (pc := 70) (tgt := 2) dX7_findStrayNumber_70 (by decide) ?_
  refine aw_sub [1, 0] rfl ?_
  cases h
  exact hz
set_option maxRecDepth 100000 in
set_option maxHeartbeats 4000000 in
theorem t_Re_findStrayNumber_B2 {l : Launch} {G : aw_G} {E : aw_E} {σ : aw_S} {v1 : Int32} {t : (aw_S) ⊕ (Int32 × aw_S)} (h : m_Re_findStrayNumber_B2 σ v1 = some t) (hz : Sum.elim (z_Re_findStrayNumber_Y2 l G E) (z_Re_findStrayNumber_X2 l G E) t) : aw_W l M_Re_findStrayNumber G B_Re_findStrayNumber E 2 [(0, .ref 8), (1, .int v1)] [] xA σ 0 0 := by
  unfold m_Re_findStrayNumber_B2 at h
  refine aw_iload_n (pc := 2) (q := 1) dX7_findStrayNumber_2 rfl ?_
  refine aw_aload_n (pc := 3) (q := 0) dX7_findStrayNumber_3 rfl ?_
  refine aw_getI (pc := 4) fd_X7_61.r xA_8 rfl dX7_findStrayNumber_4 ?_
  refine aw_icmp_ge (pc := 7) (tgt := 73) dX7_findStrayNumber_7 (by decide) (fun c1 => ?_) (fun c1 => ?_)
  · replace h := aw_ifp c1 h
    refine aw_sub [] rfl ?_
    cases h
    exact hz
  · replace h := aw_ifn c1 h
    refine aw_aload_n (pc := 10) (q := 0) dX7_findStrayNumber_10 rfl ?_
    refine aw_getI (pc := 11) fd_X7_77.r xA_8 rfl dX7_findStrayNumber_11 ?_
    refine aw_iconst (pc := 14) (v := -1) dX7_findStrayNumber_14 (by decide) ?_
    refine aw_icmp_ne (pc := 15) (tgt := 73) dX7_findStrayNumber_15 (by decide) (fun c2 => ?_) (fun c2 => ?_)
    · replace h := aw_ifn c2 h
      refine aw_sub [] rfl ?_
      cases h
      exact hz
    · replace h := aw_ifp c2 h
      refine aw_aload_n (pc := 18) (q := 0) dX7_findStrayNumber_18 rfl ?_
      refine aw_getC (pc := 19) fd_X7_41.r xA_8 rfl dX7_findStrayNumber_19 ?_
      refine aw_iload_n (pc := 22) (q := 1) dX7_findStrayNumber_22 rfl ?_
      obtain ⟨g3, h⟩ := aw_gde h
      refine aw_iald (pc := 23) xA_20 g3 dX7_findStrayNumber_23 ?_
      refine aw_aload_n (pc := 24) (q := 0) dX7_findStrayNumber_24 rfl ?_
      refine aw_getI (pc := 25) fd_X7_64.r xA_8 rfl dX7_findStrayNumber_25 ?_
      refine aw_icmp_lt (pc := 28) (tgt := 44) dX7_findStrayNumber_28 (by decide) (fun c4 => ?_) (fun c4 => ?_)
      · replace h := aw_ifp c4 h
        refine aw_aload_n (pc := 44) (q := 0) dX7_findStrayNumber_44 rfl ?_
        refine aw_getC (pc := 45) fd_X7_44.r xA_8 rfl dX7_findStrayNumber_45 ?_
        refine aw_iload_n (pc := 48) (q := 1) dX7_findStrayNumber_48 rfl ?_
        obtain ⟨g5, h⟩ := aw_gde h
        refine aw_iald (pc := 49) xA_21 g5 dX7_findStrayNumber_49 ?_
        refine aw_aload_n (pc := 50) (q := 0) dX7_findStrayNumber_50 rfl ?_
        refine aw_getI (pc := 51) fd_X7_64.r xA_8 rfl dX7_findStrayNumber_51 ?_
        refine aw_icmp_lt (pc := 54) (tgt := 67) dX7_findStrayNumber_54 (by decide) (fun c6 => ?_) (fun c6 => ?_)
        · replace h := aw_ifp c6 h
          exact t_Re_findStrayNumber_J67 h hz
        · replace h := aw_ifn c6 h
          refine aw_aload_n (pc := 57) (q := 0) dX7_findStrayNumber_57 rfl ?_
          refine aw_aload_n (pc := 58) (q := 0) dX7_findStrayNumber_58 rfl ?_
          refine aw_getC (pc := 59) fd_X7_50.r xA_8 rfl dX7_findStrayNumber_59 ?_
          refine aw_iload_n (pc := 62) (q := 1) dX7_findStrayNumber_62 rfl ?_
          obtain ⟨g8, h⟩ := aw_gde h
          refine aw_iald (pc := 63) xA_23 g8 dX7_findStrayNumber_63 ?_
          refine aw_putI (pc := 64) fd_X7_77 xA_8 rfl (fun _ => rfl) (fun _ => rfl) dX7_findStrayNumber_64 ?_
          refine aw_nmS (fun s9 e_s9 => ?_)
          replace h := aw_lte h s9 e_s9
          exact t_Re_findStrayNumber_J67 h hz
      · replace h := aw_ifn c4 h
        refine aw_aload_n (pc := 31) (q := 0) dX7_findStrayNumber_31 rfl ?_
        refine aw_aload_n (pc := 32) (q := 0) dX7_findStrayNumber_32 rfl ?_
        refine aw_getC (pc := 33) fd_X7_47.r xA_8 rfl dX7_findStrayNumber_33 ?_
        refine aw_iload_n (pc := 36) (q := 1) dX7_findStrayNumber_36 rfl ?_
        obtain ⟨g10, h⟩ := aw_gde h
        refine aw_iald (pc := 37) xA_22 g10 dX7_findStrayNumber_37 ?_
        refine aw_putI (pc := 38) fd_X7_77 xA_8 rfl (fun _ => rfl) (fun _ => rfl) dX7_findStrayNumber_38 ?_
        refine aw_nmS (fun s11 e_s11 => ?_)
        replace h := aw_lte h s11 e_s11
        refine aw_goto (pc := 41) (tgt := 67) dX7_findStrayNumber_41 (by decide) ?_
        exact t_Re_findStrayNumber_J67 h hz
set_option maxRecDepth 100000 in
set_option maxHeartbeats 4000000 in
theorem t_Re_findStrayNumber {l : Launch} {G : aw_G} {E : aw_E} {σ : aw_S} {t : aw_S} (h : m_Re_findStrayNumber σ = some t) (hE : E = (none, xA, t)) : aw_W l M_Re_findStrayNumber G B_Re_findStrayNumber E 0 [(0, .ref 8)] [] xA σ 0 0 := by
  unfold m_Re_findStrayNumber at h
  refine aw_iconst (pc := 0) (v := 0) dX7_findStrayNumber_0 (by decide) ?_
  refine aw_istore_n (pc := 1) [(1, .int ((0 : Int32))), (0, .ref 8)] dX7_findStrayNumber_1 (by decide) rfl ?_
  obtain ⟨x12, hl13, h⟩ := aw_bde h
  have K14 : z_Re_findStrayNumber_Y2 l G E x12 := by
    show aw_W l M_Re_findStrayNumber G B_Re_findStrayNumber E 73 [] [] xA x12 0 0
    cases h
    subst hE
    exact aw_vret rfl ⟨Nat.zero_le _, Nat.zero_le _⟩ dX7_findStrayNumber_73
  refine aw_sub [1, 0] rfl ?_
  show z_Re_findStrayNumber_X2 l G E (((0 : Int32), σ))
  exact aw_lp_X (Xp := z_Re_findStrayNumber_X2 l G E) (Y := z_Re_findStrayNumber_Y2 l G E) hl13 K14 (fun s t hf hz => t_Re_findStrayNumber_B2 hf hz)
theorem c_Re_findStrayNumber {l : Launch} {G : aw_G} {σ : aw_S} {t : aw_S} (h : m_Re_findStrayNumber σ = some t) : aw_Ct l yX7_findStrayNumber M_Re_findStrayNumber G B_Re_findStrayNumber [.ref 8] xA σ (none, xA, t) := aw_Ct_of (by decide) rfl (fun h => by cases h) (Nat.le_of_ble_eq_true rfl) (t_Re_findStrayNumber h rfl)
/-! LateMover$Reader.faultOf(LLateMover$Text;)I -/
def z_Re_faultOf_X57 (l : Launch) (G : aw_G) (E : aw_E) (s : Int32 × aw_S) : Prop := aw_W l M_Re_faultOf G B_Re_faultOf E 57 [(0, .ref 8), (2, .int s.1)] [] xA s.2 0 0
def z_Re_faultOf_Y57 (l : Launch) (G : aw_G) (E : aw_E) (x : (aw_S)) : Prop := aw_W l M_Re_faultOf G B_Re_faultOf E 97 [(0, .ref 8)] [] xA x 0 0
set_option maxRecDepth 100000 in
set_option maxHeartbeats 4000000 in
theorem t_Re_faultOf_B57 {l : Launch} {G : aw_G} {E : aw_E} {σ : aw_S} {v2 : Int32} {t : (aw_S) ⊕ (Int32 × aw_S)} (h : m_Re_faultOf_B57 σ v2 = some t) (hz : Sum.elim (z_Re_faultOf_Y57 l G E) (z_Re_faultOf_X57 l G E) t) : aw_W l M_Re_faultOf G B_Re_faultOf E 57 [(0, .ref 8), (2, .int v2)] [] xA σ 0 0 := by
  unfold m_Re_faultOf_B57 at h
  refine aw_iload_n (pc := 57) (q := 1) dX7_faultOf_57 rfl ?_
  refine aw_sipush (pc := 58) (v := 800) dX7_faultOf_58 (by decide) ?_
  refine aw_icmp_ge (pc := 61) (tgt := 97) dX7_faultOf_61 (by decide) (fun c13 => ?_) (fun c13 => ?_)
  · replace h := aw_ifp c13 h
    refine aw_sub [0] rfl ?_
    cases h
    exact hz
  · replace h := aw_ifn c13 h
    refine aw_aload_n (pc := 64) (q := 0) dX7_faultOf_64 rfl ?_
    refine aw_getI (pc := 65) fd_X7_77.r xA_8 rfl dX7_faultOf_65 ?_
    refine aw_iconst (pc := 68) (v := -1) dX7_faultOf_68 (by decide) ?_
    refine aw_icmp_ne (pc := 69) (tgt := 97) dX7_faultOf_69 (by decide) (fun c14 => ?_) (fun c14 => ?_)
    · replace h := aw_ifn c14 h
      refine aw_sub [0] rfl ?_
      cases h
      exact hz
    · replace h := aw_ifp c14 h
      refine aw_aload_n (pc := 72) (q := 0) dX7_faultOf_72 rfl ?_
      refine aw_getI (pc := 73) fd_X7_70.r xA_8 rfl dX7_faultOf_73 ?_
      refine aw_aload_n (pc := 76) (q := 0) dX7_faultOf_76 rfl ?_
      refine aw_getC (pc := 77) fd_X7_12.r xA_8 rfl dX7_faultOf_77 ?_
      obtain ⟨r15, e16, h⟩ := aw_bde h
      refine aw_cV1 (pc := 80) [] (c_Te_size isTe_9 e16) yy_Te_size.1 wm_281 yy_Te_size.2.1 yy_Te_size.2.2 xA_9 ⟨_, _, rfl⟩ rfl ⟨Nat.le_of_ble_eq_true rfl, Nat.le_of_ble_eq_true rfl⟩ ⟨Nat.zero_le _, Nat.zero_le _⟩ (Nat.le_of_ble_eq_true rfl) dX7_faultOf_80 ?_
      refine aw_icmp_ge (pc := 83) (tgt := 97) dX7_faultOf_83 (by decide) (fun c17 => ?_) (fun c17 => ?_)
      · replace h := aw_ifp c17 h
        refine aw_sub [0] rfl ?_
        cases h
        exact hz
      · replace h := aw_ifn c17 h
        refine aw_aload_n (pc := 86) (q := 0) dX7_faultOf_86 rfl ?_
        obtain ⟨r18, s20, e19, h⟩ := aw_bd2e h
        refine aw_cV1 (pc := 87) [] (c_Re_readBlock e19) yy_Re_readBlock.1 wm_282 yy_Re_readBlock.2.1 yy_Re_readBlock.2.2 xA_8 ⟨_, _, rfl⟩ rfl ⟨Nat.le_of_ble_eq_true rfl, Nat.le_of_ble_eq_true rfl⟩ ⟨Nat.zero_le _, Nat.zero_le _⟩ (Nat.le_of_ble_eq_true rfl) dX7_faultOf_87 ?_
        refine aw_pop (pc := 90) dX7_faultOf_90 rfl ?_
        obtain ⟨x21, e_x21⟩ : ∃ z, z = (v2 + (1 : Int32)) := ⟨_, rfl⟩
        replace h := aw_lte h x21 e_x21
        refine aw_iinc (pc := 91) (q := 1) (v := x21) [(2, .int x21), (0, .ref 8)] dX7_faultOf_91 rfl e_x21.symm (by decide) rfl ?_
        refine aw_goto (pc := 94) (tgt := 57) dX7_faultOf_94 (by decide) ?_
        refine aw_sub [1, 0] rfl ?_
        cases h
        exact hz
set_option maxRecDepth 100000 in
set_option maxHeartbeats 4000000 in
theorem t_Re_faultOf_J109 {l : Launch} {G : aw_G} {E : aw_E} {σ : aw_S} {t : (Int32 × aw_S)} (h : m_Re_faultOf_J109 σ = some t) (hE : E = (some (.int t.1), xA, t.2)) : aw_W l M_Re_faultOf G B_Re_faultOf E 109 [(0, .ref 8)] [] xA σ 0 0 := by
  unfold m_Re_faultOf_J109 at h
  refine aw_aload_n (pc := 109) (q := 0) dX7_faultOf_109 rfl ?_
  refine aw_getI (pc := 110) fd_X7_77.r xA_8 rfl dX7_faultOf_110 ?_
  cases h
  subst hE
  exact aw_iret (v := (σ.1 8 15)) rfl aw_ni ⟨Nat.zero_le _, Nat.zero_le _⟩ dX7_faultOf_113
set_option maxRecDepth 100000 in
set_option maxHeartbeats 4000000 in
theorem t_Re_faultOf_J52 {l : Launch} {G : aw_G} {E : aw_E} {σ : aw_S} {k1 : Int32} {t : (Int32 × aw_S)} (h : m_Re_faultOf_J52 σ k1 = some t) (hE : E = (some (.int t.1), xA, t.2)) : aw_W l M_Re_faultOf G B_Re_faultOf E 52 [(0, .ref 8)] [.int k1, .ref 8] xA σ 0 0 := by
  unfold m_Re_faultOf_J52 at h
  refine aw_putI (pc := 52) fd_X7_77 xA_8 rfl (fun _ => rfl) (fun _ => rfl) dX7_faultOf_52 ?_
  refine aw_nmS (fun s12 e_s12 => ?_)
  replace h := aw_lte h s12 e_s12
  refine aw_iconst (pc := 55) (v := 0) dX7_faultOf_55 (by decide) ?_
  refine aw_istore_n (pc := 56) [(2, .int ((0 : Int32))), (0, .ref 8)] dX7_faultOf_56 (by decide) rfl ?_
  obtain ⟨x22, hl23, h⟩ := aw_bde h
  have K24 : z_Re_faultOf_Y57 l G E x22 := by
    show aw_W l M_Re_faultOf G B_Re_faultOf E 97 [(0, .ref 8)] [] xA x22 0 0
    refine aw_aload_n (pc := 97) (q := 0) dX7_faultOf_97 rfl ?_
    refine aw_getI (pc := 98) fd_X7_77.r xA_8 rfl dX7_faultOf_98 ?_
    refine aw_iconst (pc := 101) (v := -1) dX7_faultOf_101 (by decide) ?_
    refine aw_icmp_ne (pc := 102) (tgt := 109) dX7_faultOf_102 (by decide) (fun c25 => ?_) (fun c25 => ?_)
    · replace h := aw_ifn c25 h
      exact t_Re_faultOf_J109 h hE
    · replace h := aw_ifp c25 h
      refine aw_aload_n (pc := 105) (q := 0) dX7_faultOf_105 rfl ?_
      obtain ⟨s28, e27, h⟩ := aw_bde h
      refine aw_cV0 (pc := 106) [] (c_Re_findStrayNumber e27) yy_Re_findStrayNumber.1 wm_352 yy_Re_findStrayNumber.2.1 yy_Re_findStrayNumber.2.2 xA_8 ⟨_, _, rfl⟩ rfl ⟨Nat.le_of_ble_eq_true rfl, Nat.le_of_ble_eq_true rfl⟩ ⟨Nat.zero_le _, Nat.zero_le _⟩ (Nat.le_of_ble_eq_true rfl) dX7_faultOf_106 ?_
      exact t_Re_faultOf_J109 h hE
  refine aw_sub [1, 0] rfl ?_
  show z_Re_faultOf_X57 l G E (((0 : Int32), s12))
  exact aw_lp_X (Xp := z_Re_faultOf_X57 l G E) (Y := z_Re_faultOf_Y57 l G E) hl23 K24 (fun s t hf hz => t_Re_faultOf_B57 hf hz)
set_option maxRecDepth 100000 in
set_option maxHeartbeats 4000000 in
theorem t_Re_faultOf {l : Launch} {G : aw_G} {E : aw_E} {σ : aw_S} {p1 : Nat} (h_p1 : isTe p1) {t : (Int32 × aw_S)} (h : m_Re_faultOf σ p1 = some t) (hE : E = (some (.int t.1), xA, t.2)) : aw_W l M_Re_faultOf G B_Re_faultOf E 0 [(0, .ref 8), (1, .ref p1)] [] xA σ 0 0 := by
  unfold m_Re_faultOf at h
  refine aw_aload_n (pc := 0) (q := 0) dX7_faultOf_0 rfl ?_
  refine aw_getC (pc := 1) fd_X7_12.r xA_8 rfl dX7_faultOf_1 ?_
  refine aw_aload_n (pc := 4) (q := 1) dX7_faultOf_4 rfl ?_
  obtain ⟨s3, e2, h⟩ := aw_bde h
  refine aw_cV0 (pc := 5) [.ref p1] (c_Te_copyFrom isTe_9 h_p1 e2) yy_Te_copyFrom.1 wm_273 yy_Te_copyFrom.2.1 yy_Te_copyFrom.2.2 xA_9 ⟨_, _, rfl⟩ rfl ⟨Nat.le_of_ble_eq_true rfl, Nat.le_of_ble_eq_true rfl⟩ ⟨Nat.zero_le _, Nat.zero_le _⟩ (Nat.le_of_ble_eq_true rfl) dX7_faultOf_5 ?_
  refine aw_aload_n (pc := 8) (q := 0) dX7_faultOf_8 rfl ?_
  refine aw_getC (pc := 9) fd_X7_21.r xA_8 rfl dX7_faultOf_9 ?_
  refine aw_iconst (pc := 12) (v := 0) dX7_faultOf_12 (by decide) ?_
  refine aw_putI (pc := 13) fd_X7_57 xA_11 rfl (fun _ => rfl) (fun _ => rfl) dX7_faultOf_13 ?_
  refine aw_nmS (fun s4 e_s4 => ?_)
  replace h := aw_lte h s4 e_s4
  refine aw_aload_n (pc := 16) (q := 0) dX7_faultOf_16 rfl ?_
  refine aw_iconst (pc := 17) (v := 0) dX7_faultOf_17 (by decide) ?_
  refine aw_putI (pc := 18) fd_X7_61 xA_8 rfl (fun _ => rfl) (fun _ => rfl) dX7_faultOf_18 ?_
  refine aw_nmS (fun s5 e_s5 => ?_)
  replace h := aw_lte h s5 e_s5
  refine aw_aload_n (pc := 21) (q := 0) dX7_faultOf_21 rfl ?_
  refine aw_iconst (pc := 22) (v := 0) dX7_faultOf_22 (by decide) ?_
  refine aw_putI (pc := 23) fd_X7_64 xA_8 rfl (fun _ => rfl) (fun _ => rfl) dX7_faultOf_23 ?_
  refine aw_nmS (fun s6 e_s6 => ?_)
  replace h := aw_lte h s6 e_s6
  refine aw_aload_n (pc := 26) (q := 0) dX7_faultOf_26 rfl ?_
  refine aw_iconst (pc := 27) (v := 0) dX7_faultOf_27 (by decide) ?_
  refine aw_putI (pc := 28) fd_X7_67 xA_8 rfl (fun _ => rfl) (fun _ => rfl) dX7_faultOf_28 ?_
  refine aw_nmS (fun s7 e_s7 => ?_)
  replace h := aw_lte h s7 e_s7
  refine aw_aload_n (pc := 31) (q := 0) dX7_faultOf_31 rfl ?_
  refine aw_iconst (pc := 32) (v := 0) dX7_faultOf_32 (by decide) ?_
  refine aw_putI (pc := 33) fd_X7_70 xA_8 rfl (fun _ => rfl) (fun _ => rfl) dX7_faultOf_33 ?_
  refine aw_nmS (fun s8 e_s8 => ?_)
  replace h := aw_lte h s8 e_s8
  refine aw_aload_n (pc := 36) (q := 0) dX7_faultOf_36 rfl ?_
  refine aw_aload_n (pc := 37) (q := 0) dX7_faultOf_37 rfl ?_
  refine aw_getC (pc := 38) fd_X7_12.r xA_8 rfl dX7_faultOf_38 ?_
  obtain ⟨r9, e10, h⟩ := aw_bde h
  refine aw_cV1 (pc := 41) [] (c_Te_size isTe_9 e10) yy_Te_size.1 wm_281 yy_Te_size.2.1 yy_Te_size.2.2 xA_9 ⟨_, _, rfl⟩ rfl ⟨Nat.le_of_ble_eq_true rfl, Nat.le_of_ble_eq_true rfl⟩ ⟨Nat.zero_le _, Nat.zero_le _⟩ (Nat.le_of_ble_eq_true rfl) dX7_faultOf_41 ?_
  refine aw_if_ne (pc := 44) (tgt := 51) dX7_faultOf_44 (by decide) (fun c11 => ?_) (fun c11 => ?_)
  · replace h := aw_ifn c11 h
    refine aw_iconst (pc := 51) (v := -1) dX7_faultOf_51 (by decide) ?_
    refine aw_sub [0] rfl ?_
    exact t_Re_faultOf_J52 h hE
  · replace h := aw_ifp c11 h
    refine aw_iconst (pc := 47) (v := 0) dX7_faultOf_47 (by decide) ?_
    refine aw_goto (pc := 48) (tgt := 52) dX7_faultOf_48 (by decide) ?_
    refine aw_sub [0] rfl ?_
    exact t_Re_faultOf_J52 h hE
theorem c_Re_faultOf {l : Launch} {G : aw_G} {σ : aw_S} {p1 : Nat} (h_p1 : isTe p1) {t : (Int32 × aw_S)} (h : m_Re_faultOf σ p1 = some t) : aw_Ct l yX7_faultOf M_Re_faultOf G B_Re_faultOf [.ref 8, .ref p1] xA σ (some (.int t.1), xA, t.2) := aw_Ct_of (by decide) rfl (fun h => by cases h) (Nat.le_of_ble_eq_true rfl) (t_Re_faultOf h_p1 h rfl)
/-! LateMover$Expressions.copyFrom(LLateMover$Expressions;)V -/
set_option maxRecDepth 100000 in
set_option maxHeartbeats 4000000 in
theorem t_Ex_copyFrom {l : Launch} {G : aw_G} {E : aw_E} {σ : aw_S} {o : Nat} {p1 : Nat} (h_o : isEx o) (h_p1 : isEx p1) {t : aw_S} (h : m_Ex_copyFrom σ o p1 = some t) (hE : E = (none, xA, t)) : aw_W l M_Ex_copyFrom G B_Ex_copyFrom E 0 [(0, .ref o), (1, .ref p1)] [] xA σ 0 0 := by
  unfold m_Ex_copyFrom at h
  refine aw_aload_n (pc := 0) (q := 1) dX0_copyFrom_0 rfl ?_
  refine aw_getC (pc := 1) fd_X0_9.r h_p1.1 rfl dX0_copyFrom_1 ?_
  refine aw_iconst (pc := 4) (v := 0) dX0_copyFrom_4 (by decide) ?_
  refine aw_aload_n (pc := 5) (q := 0) dX0_copyFrom_5 rfl ?_
  refine aw_getC (pc := 6) fd_X0_9.r h_o.1 rfl dX0_copyFrom_6 ?_
  refine aw_iconst (pc := 9) (v := 0) dX0_copyFrom_9 (by decide) ?_
  refine aw_bipush (pc := 10) (v := 24) dX0_copyFrom_10 (by decide) ?_
  refine aw_copyI (pc := 12) (N := 24) wm_380 h_p1.2.1 h_o.2.1 (by decide) (Nat.le_of_ble_eq_true rfl) (Nat.le_of_ble_eq_true rfl) (fun _ _ => rfl) ⟨Nat.le_of_ble_eq_true rfl, Nat.le_of_ble_eq_true rfl⟩ (Nat.le_of_ble_eq_true rfl) dX0_copyFrom_12 ?_
  refine aw_nmS (fun s1 e_s1 => ?_)
  replace h := aw_lte h s1 e_s1
  refine aw_aload_n (pc := 15) (q := 1) dX0_copyFrom_15 rfl ?_
  refine aw_getC (pc := 16) fd_X0_15.r h_p1.1 rfl dX0_copyFrom_16 ?_
  refine aw_iconst (pc := 19) (v := 0) dX0_copyFrom_19 (by decide) ?_
  refine aw_aload_n (pc := 20) (q := 0) dX0_copyFrom_20 rfl ?_
  refine aw_getC (pc := 21) fd_X0_15.r h_o.1 rfl dX0_copyFrom_21 ?_
  refine aw_iconst (pc := 24) (v := 0) dX0_copyFrom_24 (by decide) ?_
  refine aw_bipush (pc := 25) (v := 24) dX0_copyFrom_25 (by decide) ?_
  refine aw_copyI (pc := 27) (N := 24) wm_380 h_p1.2.2.1 h_o.2.2.1 (by decide) (Nat.le_of_ble_eq_true rfl) (Nat.le_of_ble_eq_true rfl) (fun _ _ => rfl) ⟨Nat.le_of_ble_eq_true rfl, Nat.le_of_ble_eq_true rfl⟩ (Nat.le_of_ble_eq_true rfl) dX0_copyFrom_27 ?_
  refine aw_nmS (fun s2 e_s2 => ?_)
  replace h := aw_lte h s2 e_s2
  refine aw_aload_n (pc := 30) (q := 1) dX0_copyFrom_30 rfl ?_
  refine aw_getC (pc := 31) fd_X0_18.r h_p1.1 rfl dX0_copyFrom_31 ?_
  refine aw_iconst (pc := 34) (v := 0) dX0_copyFrom_34 (by decide) ?_
  refine aw_aload_n (pc := 35) (q := 0) dX0_copyFrom_35 rfl ?_
  refine aw_getC (pc := 36) fd_X0_18.r h_o.1 rfl dX0_copyFrom_36 ?_
  refine aw_iconst (pc := 39) (v := 0) dX0_copyFrom_39 (by decide) ?_
  refine aw_bipush (pc := 40) (v := 24) dX0_copyFrom_40 (by decide) ?_
  refine aw_copyI (pc := 42) (N := 24) wm_380 h_p1.2.2.2 h_o.2.2.2 (by decide) (Nat.le_of_ble_eq_true rfl) (Nat.le_of_ble_eq_true rfl) (fun _ _ => rfl) ⟨Nat.le_of_ble_eq_true rfl, Nat.le_of_ble_eq_true rfl⟩ (Nat.le_of_ble_eq_true rfl) dX0_copyFrom_42 ?_
  refine aw_nmS (fun s3 e_s3 => ?_)
  replace h := aw_lte h s3 e_s3
  refine aw_aload_n (pc := 45) (q := 0) dX0_copyFrom_45 rfl ?_
  refine aw_aload_n (pc := 46) (q := 1) dX0_copyFrom_46 rfl ?_
  refine aw_getI (pc := 47) fd_X0_21.r h_p1.1 rfl dX0_copyFrom_47 ?_
  refine aw_putI (pc := 50) fd_X0_21 h_o.1 rfl (fun _ => rfl) (fun _ => rfl) dX0_copyFrom_50 ?_
  refine aw_nmS (fun s4 e_s4 => ?_)
  replace h := aw_lte h s4 e_s4
  cases h
  subst hE
  exact aw_vret rfl ⟨Nat.zero_le _, Nat.zero_le _⟩ dX0_copyFrom_53
theorem c_Ex_copyFrom {l : Launch} {G : aw_G} {σ : aw_S} {o : Nat} {p1 : Nat} (h_o : isEx o) (h_p1 : isEx p1) {t : aw_S} (h : m_Ex_copyFrom σ o p1 = some t) : aw_Ct l yX0_copyFrom M_Ex_copyFrom G B_Ex_copyFrom [.ref o, .ref p1] xA σ (none, xA, t) := aw_Ct_of (by decide) rfl (fun h => by cases h) (Nat.le_of_ble_eq_true rfl) (t_Ex_copyFrom h_o h_p1 h rfl)
/-! LateMover$Graph.add(I)I -/
set_option maxRecDepth 100000 in
set_option maxHeartbeats 4000000 in
theorem t_Gr_add {l : Launch} {G : aw_G} {E : aw_E} {σ : aw_S} {p1 : Int32} {t : (Int32 × aw_S)} (h : m_Gr_add σ p1 = some t) (hE : E = (some (.int t.1), xA, t.2)) : aw_W l M_Gr_add G B_Gr_add E 0 [(0, .ref 24), (1, .int p1)] [] xA σ 0 0 := by
  unfold m_Gr_add at h
  refine aw_aload_n (pc := 0) (q := 0) dX3_add_0 rfl ?_
  refine aw_getI (pc := 1) fd_X3_67.r xA_24 rfl dX3_add_1 ?_
  refine aw_nmI (fun x1 e_x1 => ?_)
  replace h := aw_lte h x1 e_x1
  refine aw_istore_n (pc := 4) [(2, .int x1), (0, .ref 24), (1, .int p1)] dX3_add_4 (by decide) rfl ?_
  refine aw_iload_n (pc := 5) (q := 0) dX3_add_5 rfl ?_
  refine aw_if_lt (pc := 6) (tgt := 16) dX3_add_6 (by decide) (fun c2 => ?_) (fun c2 => ?_)
  · replace h := aw_ifp c2 h
    refine aw_iconst (pc := 16) (v := -1) dX3_add_16 (by decide) ?_
    cases h
    subst hE
    exact aw_iret (v := (-1 : Int32)) rfl aw_ni ⟨Nat.zero_le _, Nat.zero_le _⟩ dX3_add_17
  · replace h := aw_ifn c2 h
    refine aw_iload_n (pc := 9) (q := 0) dX3_add_9 rfl ?_
    refine aw_sipush (pc := 10) (v := 128) dX3_add_10 (by decide) ?_
    refine aw_icmp_lt (pc := 13) (tgt := 18) dX3_add_13 (by decide) (fun c3 => ?_) (fun c3 => ?_)
    · replace h := aw_ifp c3 h
      refine aw_aload_n (pc := 18) (q := 1) dX3_add_18 rfl ?_
      refine aw_getC (pc := 19) fd_X3_18.r xA_24 rfl dX3_add_19 ?_
      refine aw_iload_n (pc := 22) (q := 0) dX3_add_22 rfl ?_
      refine aw_iload_n (pc := 23) (q := 2) dX3_add_23 rfl ?_
      obtain ⟨g4, h⟩ := aw_gde h
      refine aw_iast (pc := 24) xA_29 g4 dX3_add_24 ?_
      refine aw_nmS (fun s5 e_s5 => ?_)
      replace h := aw_lte h s5 e_s5
      refine aw_aload_n (pc := 25) (q := 1) dX3_add_25 rfl ?_
      refine aw_getC (pc := 26) fd_X3_22.r xA_24 rfl dX3_add_26 ?_
      refine aw_iload_n (pc := 29) (q := 0) dX3_add_29 rfl ?_
      refine aw_iconst (pc := 30) (v := -1) dX3_add_30 (by decide) ?_
      obtain ⟨g6, h⟩ := aw_gde h
      refine aw_iast (pc := 31) xA_30 g6 dX3_add_31 ?_
      refine aw_nmS (fun s7 e_s7 => ?_)
      replace h := aw_lte h s7 e_s7
      refine aw_aload_n (pc := 32) (q := 1) dX3_add_32 rfl ?_
      refine aw_getC (pc := 33) fd_X3_25.r xA_24 rfl dX3_add_33 ?_
      refine aw_iload_n (pc := 36) (q := 0) dX3_add_36 rfl ?_
      refine aw_iconst (pc := 37) (v := -1) dX3_add_37 (by decide) ?_
      obtain ⟨g8, h⟩ := aw_gde h
      refine aw_iast (pc := 38) xA_31 g8 dX3_add_38 ?_
      refine aw_nmS (fun s9 e_s9 => ?_)
      replace h := aw_lte h s9 e_s9
      refine aw_aload_n (pc := 39) (q := 1) dX3_add_39 rfl ?_
      refine aw_getC (pc := 40) fd_X3_28.r xA_24 rfl dX3_add_40 ?_
      refine aw_iload_n (pc := 43) (q := 0) dX3_add_43 rfl ?_
      refine aw_iconst (pc := 44) (v := -1) dX3_add_44 (by decide) ?_
      obtain ⟨g10, h⟩ := aw_gde h
      refine aw_iast (pc := 45) xA_32 g10 dX3_add_45 ?_
      refine aw_nmS (fun s11 e_s11 => ?_)
      replace h := aw_lte h s11 e_s11
      refine aw_aload_n (pc := 46) (q := 1) dX3_add_46 rfl ?_
      refine aw_getC (pc := 47) fd_X3_31.r xA_24 rfl dX3_add_47 ?_
      refine aw_iload_n (pc := 50) (q := 0) dX3_add_50 rfl ?_
      refine aw_iconst (pc := 51) (v := -1) dX3_add_51 (by decide) ?_
      obtain ⟨g12, h⟩ := aw_gde h
      refine aw_iast (pc := 52) xA_33 g12 dX3_add_52 ?_
      refine aw_nmS (fun s13 e_s13 => ?_)
      replace h := aw_lte h s13 e_s13
      refine aw_aload_n (pc := 53) (q := 1) dX3_add_53 rfl ?_
      refine aw_getC (pc := 54) fd_X3_34.r xA_24 rfl dX3_add_54 ?_
      refine aw_iload_n (pc := 57) (q := 0) dX3_add_57 rfl ?_
      refine aw_iconst (pc := 58) (v := -1) dX3_add_58 (by decide) ?_
      obtain ⟨g14, h⟩ := aw_gde h
      refine aw_iast (pc := 59) xA_34 g14 dX3_add_59 ?_
      refine aw_nmS (fun s15 e_s15 => ?_)
      replace h := aw_lte h s15 e_s15
      refine aw_aload_n (pc := 60) (q := 1) dX3_add_60 rfl ?_
      refine aw_getC (pc := 61) fd_X3_37.r xA_24 rfl dX3_add_61 ?_
      refine aw_iload_n (pc := 64) (q := 0) dX3_add_64 rfl ?_
      refine aw_iconst (pc := 65) (v := -1) dX3_add_65 (by decide) ?_
      obtain ⟨g16, h⟩ := aw_gde h
      refine aw_iast (pc := 66) xA_35 g16 dX3_add_66 ?_
      refine aw_nmS (fun s17 e_s17 => ?_)
      replace h := aw_lte h s17 e_s17
      refine aw_aload_n (pc := 67) (q := 1) dX3_add_67 rfl ?_
      refine aw_getC (pc := 68) fd_X3_40.r xA_24 rfl dX3_add_68 ?_
      refine aw_iload_n (pc := 71) (q := 0) dX3_add_71 rfl ?_
      refine aw_iconst (pc := 72) (v := -1) dX3_add_72 (by decide) ?_
      obtain ⟨g18, h⟩ := aw_gde h
      refine aw_iast (pc := 73) xA_36 g18 dX3_add_73 ?_
      refine aw_nmS (fun s19 e_s19 => ?_)
      replace h := aw_lte h s19 e_s19
      refine aw_aload_n (pc := 74) (q := 1) dX3_add_74 rfl ?_
      refine aw_getC (pc := 75) fd_X3_43.r xA_24 rfl dX3_add_75 ?_
      refine aw_iload_n (pc := 78) (q := 0) dX3_add_78 rfl ?_
      refine aw_iconst (pc := 79) (v := -1) dX3_add_79 (by decide) ?_
      obtain ⟨g20, h⟩ := aw_gde h
      refine aw_iast (pc := 80) xA_37 g20 dX3_add_80 ?_
      refine aw_nmS (fun s21 e_s21 => ?_)
      replace h := aw_lte h s21 e_s21
      refine aw_aload_n (pc := 81) (q := 1) dX3_add_81 rfl ?_
      refine aw_dup (pc := 82) dX3_add_82 rfl ?_
      refine aw_getI (pc := 83) fd_X3_67.r xA_24 rfl dX3_add_83 ?_
      refine aw_iconst (pc := 86) (v := 1) dX3_add_86 (by decide) ?_
      refine aw_iadd (pc := 87) dX3_add_87 ?_
      refine aw_putI (pc := 88) fd_X3_67 xA_24 rfl (fun _ => rfl) (fun _ => rfl) dX3_add_88 ?_
      refine aw_nmS (fun s22 e_s22 => ?_)
      replace h := aw_lte h s22 e_s22
      refine aw_iload_n (pc := 91) (q := 0) dX3_add_91 rfl ?_
      cases h
      subst hE
      exact aw_iret (v := _) rfl aw_ni ⟨Nat.zero_le _, Nat.zero_le _⟩ dX3_add_92
    · replace h := aw_ifn c3 h
      refine aw_iconst (pc := 16) (v := -1) dX3_add_16 (by decide) ?_
      cases h
      subst hE
      exact aw_iret (v := (-1 : Int32)) rfl aw_ni ⟨Nat.zero_le _, Nat.zero_le _⟩ dX3_add_17
theorem c_Gr_add {l : Launch} {G : aw_G} {σ : aw_S} {p1 : Int32} {t : (Int32 × aw_S)} (h : m_Gr_add σ p1 = some t) : aw_Ct l yX3_add M_Gr_add G B_Gr_add [.ref 24, .int p1] xA σ (some (.int t.1), xA, t.2) := aw_Ct_of (by decide) rfl (fun h => by cases h) (Nat.le_of_ble_eq_true rfl) (t_Gr_add h rfl)
/-! LateMover$Graph.blockBit(I)I -/
set_option maxRecDepth 100000 in
set_option maxHeartbeats 4000000 in
theorem t_Gr_blockBit {l : Launch} {G : aw_G} {E : aw_E} {σ : aw_S} {p0 : Int32} {t : Int32} (h : m_Gr_blockBit σ p0 = some t) (hE : E = (some (.int t), xA, σ)) : aw_W l M_Gr_blockBit G B_Gr_blockBit E 0 [(0, .int p0)] [] xA σ 0 0 := by
  unfold m_Gr_blockBit at h
  refine aw_iload_n (pc := 0) (q := 0) dX3_blockBit_0 rfl ?_
  refine aw_if_lt (pc := 1) (tgt := 16) dX3_blockBit_1 (by decide) (fun c1 => ?_) (fun c1 => ?_)
  · replace h := aw_ifp c1 h
    refine aw_iconst (pc := 16) (v := 0) dX3_blockBit_16 (by decide) ?_
    cases h
    subst hE
    exact aw_iret (v := (0 : Int32)) rfl aw_ni ⟨Nat.zero_le _, Nat.zero_le _⟩ dX3_blockBit_17
  · replace h := aw_ifn c1 h
    refine aw_iload_n (pc := 4) (q := 0) dX3_blockBit_4 rfl ?_
    refine aw_bipush (pc := 5) (v := 16) dX3_blockBit_5 (by decide) ?_
    refine aw_icmp_ge (pc := 7) (tgt := 16) dX3_blockBit_7 (by decide) (fun c2 => ?_) (fun c2 => ?_)
    · replace h := aw_ifp c2 h
      refine aw_iconst (pc := 16) (v := 0) dX3_blockBit_16 (by decide) ?_
      cases h
      subst hE
      exact aw_iret (v := (0 : Int32)) rfl aw_ni ⟨Nat.zero_le _, Nat.zero_le _⟩ dX3_blockBit_17
    · replace h := aw_ifn c2 h
      refine aw_iconst (pc := 10) (v := 1) dX3_blockBit_10 (by decide) ?_
      refine aw_iload_n (pc := 11) (q := 0) dX3_blockBit_11 rfl ?_
      refine aw_ishl (pc := 12) dX3_blockBit_12 ?_
      refine aw_goto (pc := 13) (tgt := 17) dX3_blockBit_13 (by decide) ?_
      cases h
      subst hE
      exact aw_iret (v := ((1 : Int32) <<< (p0 &&& 31))) rfl aw_ni ⟨Nat.zero_le _, Nat.zero_le _⟩ dX3_blockBit_17
theorem c_Gr_blockBit {l : Launch} {G : aw_G} {σ : aw_S} {p0 : Int32} {t : Int32} (h : m_Gr_blockBit σ p0 = some t) : aw_Ct l yX3_blockBit M_Gr_blockBit G B_Gr_blockBit [.int p0] xA σ (some (.int t), xA, σ) := aw_Ct_of (by decide) rfl (fun h => by cases h) (Nat.le_of_ble_eq_true rfl) (t_Gr_blockBit h rfl)
/-! LateMover$Graph.reachedBlocks(LLateMover$Reader;)I -/
def z_Gr_reachedBlocks_X4 (l : Launch) (G : aw_G) (E : aw_E) (σ : aw_S) (s : Int32 × Int32) : Prop := aw_W l M_Gr_reachedBlocks G B_Gr_reachedBlocks E 4 [(0, .ref 8), (1, .int s.1), (2, .int s.2)] [] xA σ 0 0
def z_Gr_reachedBlocks_Y4 (l : Launch) (G : aw_G) (E : aw_E) (σ : aw_S) (x : (Int32)) : Prop := aw_W l M_Gr_reachedBlocks G B_Gr_reachedBlocks E 74 [(1, .int x)] [] xA σ 0 0
def z_Gr_reachedBlocks_X12 (l : Launch) (G : aw_G) (E : aw_E) (σ : aw_S) (v2 : Int32) (s : Int32 × Int32) : Prop := aw_W l M_Gr_reachedBlocks G B_Gr_reachedBlocks E 12 [(0, .ref 8), (1, .int s.1), (2, .int v2), (3, .int s.2)] [] xA σ 0 0
def z_Gr_reachedBlocks_Y12 (l : Launch) (G : aw_G) (E : aw_E) (σ : aw_S) (v2 : Int32) (x : (Int32)) : Prop := aw_W l M_Gr_reachedBlocks G B_Gr_reachedBlocks E 68 [(0, .ref 8), (1, .int x), (2, .int v2)] [] xA σ 0 0
set_option maxRecDepth 100000 in
set_option maxHeartbeats 4000000 in
theorem t_Gr_reachedBlocks_J62 {l : Launch} {G : aw_G} {E : aw_E} {σ : aw_S} {v1 : Int32} {v2 : Int32} {v3 : Int32} {t : (Int32) ⊕ (Int32 × Int32)} (h : m_Gr_reachedBlocks_J62 σ v1 v2 v3 = some t) (hz : Sum.elim (z_Gr_reachedBlocks_Y12 l G E σ v2) (z_Gr_reachedBlocks_X12 l G E σ v2) t) : aw_W l M_Gr_reachedBlocks G B_Gr_reachedBlocks E 62 [(0, .ref 8), (1, .int v1), (2, .int v2), (3, .int v3)] [] xA σ 0 0 := by
  unfold m_Gr_reachedBlocks_J62 at h
  obtain ⟨x6, e_x6⟩ : ∃ z, z = (v3 + (1 : Int32)) := ⟨_, rfl⟩
  replace h := aw_lte h x6 e_x6
  refine aw_iinc (pc := 62) (q := 3) (v := x6) [(3, .int x6), (0, .ref 8), (1, .int v1), (2, .int v2)] dX3_reachedBlocks_62 rfl e_x6.symm (by decide) rfl ?_
  refine aw_goto (pc := 65) (tgt := 12) dX3_reachedBlocks_65 (by decide) ?_
  refine aw_sub [1, 2, 3, 0] rfl ?_
  cases h
  exact hz
set_option maxRecDepth 100000 in
set_option maxHeartbeats 4000000 in
theorem t_Gr_reachedBlocks_B12 {l : Launch} {G : aw_G} {E : aw_E} {σ : aw_S} {v2 : Int32} {v1 : Int32} {v3 : Int32} {t : (Int32) ⊕ (Int32 × Int32)} (h : m_Gr_reachedBlocks_B12 σ v2 v1 v3 = some t) (hz : Sum.elim (z_Gr_reachedBlocks_Y12 l G E σ v2) (z_Gr_reachedBlocks_X12 l G E σ v2) t) : aw_W l M_Gr_reachedBlocks G B_Gr_reachedBlocks E 12 [(0, .ref 8), (1, .int v1), (2, .int v2), (3, .int v3)] [] xA σ 0 0 := by
  unfold m_Gr_reachedBlocks_B12 at h
  refine aw_iload_n (pc := 12) (q := 3) dX3_reachedBlocks_12 rfl ?_
  refine aw_aload_n (pc := 13) (q := 0) dX3_reachedBlocks_13 rfl ?_
  refine aw_getI (pc := 14) fd_X3_97.r xA_8 rfl dX3_reachedBlocks_14 ?_
  refine aw_icmp_ge (pc := 17) (tgt := 68) dX3_reachedBlocks_17 (by decide) (fun c2 => ?_) (fun c2 => ?_)
  · replace h := aw_ifp c2 h
    refine aw_sub [0, 1, 2] rfl ?_
    cases h
    exact hz
  · replace h := aw_ifn c2 h
    refine aw_iload_n (pc := 20) (q := 3) dX3_reachedBlocks_20 rfl ?_
    refine aw_bipush (pc := 21) (v := 76) dX3_reachedBlocks_21 (by decide) ?_
    refine aw_icmp_ge (pc := 23) (tgt := 68) dX3_reachedBlocks_23 (by decide) (fun c3 => ?_) (fun c3 => ?_)
    · replace h := aw_ifp c3 h
      refine aw_sub [0, 1, 2] rfl ?_
      cases h
      exact hz
    · replace h := aw_ifn c3 h
      refine aw_iload_n (pc := 26) (q := 1) dX3_reachedBlocks_26 rfl ?_
      refine aw_aload_n (pc := 27) (q := 0) dX3_reachedBlocks_27 rfl ?_
      refine aw_getC (pc := 28) fd_X3_100 xA_8 rfl dX3_reachedBlocks_28 ?_
      refine aw_iload_n (pc := 31) (q := 3) dX3_reachedBlocks_31 rfl ?_
      obtain ⟨g4, h⟩ := aw_gde h
      refine aw_iald (pc := 32) xA_16 g4 dX3_reachedBlocks_32 ?_
      refine aw_iushr (pc := 33) dX3_reachedBlocks_33 ?_
      refine aw_iconst (pc := 34) (v := 1) dX3_reachedBlocks_34 (by decide) ?_
      refine aw_iand (pc := 35) dX3_reachedBlocks_35 ?_
      refine aw_iconst (pc := 36) (v := 1) dX3_reachedBlocks_36 (by decide) ?_
      refine aw_icmp_ne (pc := 37) (tgt := 62) dX3_reachedBlocks_37 (by decide) (fun c5 => ?_) (fun c5 => ?_)
      · replace h := aw_ifn c5 h
        exact t_Gr_reachedBlocks_J62 h hz
      · replace h := aw_ifp c5 h
        refine aw_iload_n (pc := 40) (q := 1) dX3_reachedBlocks_40 rfl ?_
        refine aw_aload_n (pc := 41) (q := 0) dX3_reachedBlocks_41 rfl ?_
        refine aw_getC (pc := 42) fd_X3_108 xA_8 rfl dX3_reachedBlocks_42 ?_
        refine aw_iload_n (pc := 45) (q := 3) dX3_reachedBlocks_45 rfl ?_
        obtain ⟨g7, h⟩ := aw_gde h
        refine aw_iald (pc := 46) xA_20 g7 dX3_reachedBlocks_46 ?_
        obtain ⟨r8, e9, h⟩ := aw_bde h
        refine aw_cS1 (pc := 47) [.int ((σ.1 20 v3.toNatClampNeg))] (c_Gr_blockBit e9) yy_Gr_blockBit.1 wm_397 yy_Gr_blockBit.2 rfl ⟨Nat.le_of_ble_eq_true rfl, Nat.le_of_ble_eq_true rfl⟩ ⟨Nat.zero_le _, Nat.zero_le _⟩ (Nat.le_of_ble_eq_true rfl) dX3_reachedBlocks_47 ?_
        refine aw_aload_n (pc := 50) (q := 0) dX3_reachedBlocks_50 rfl ?_
        refine aw_getC (pc := 51) fd_X3_109 xA_8 rfl dX3_reachedBlocks_51 ?_
        refine aw_iload_n (pc := 54) (q := 3) dX3_reachedBlocks_54 rfl ?_
        obtain ⟨g10, h⟩ := aw_gde h
        refine aw_iald (pc := 55) xA_21 g10 dX3_reachedBlocks_55 ?_
        obtain ⟨r11, e12, h⟩ := aw_bde h
        refine aw_cS1 (pc := 56) [.int ((σ.1 21 v3.toNatClampNeg))] (c_Gr_blockBit e12) yy_Gr_blockBit.1 wm_397 yy_Gr_blockBit.2 rfl ⟨Nat.le_of_ble_eq_true rfl, Nat.le_of_ble_eq_true rfl⟩ ⟨Nat.zero_le _, Nat.zero_le _⟩ (Nat.le_of_ble_eq_true rfl) dX3_reachedBlocks_56 ?_
        refine aw_ior (pc := 59) dX3_reachedBlocks_59 ?_
        refine aw_ior (pc := 60) dX3_reachedBlocks_60 ?_
        refine aw_nmI (fun x13 e_x13 => ?_)
        replace h := aw_lte h x13 e_x13
        refine aw_istore_n (pc := 61) [(1, .int x13), (0, .ref 8), (2, .int v2), (3, .int v3)] dX3_reachedBlocks_61 (by decide) rfl ?_
        refine aw_sub [1, 0, 2, 3] rfl ?_
        exact t_Gr_reachedBlocks_J62 h hz
set_option maxRecDepth 100000 in
set_option maxHeartbeats 4000000 in
theorem t_Gr_reachedBlocks_B4 {l : Launch} {G : aw_G} {E : aw_E} {σ : aw_S} {v1 : Int32} {v2 : Int32} {t : (Int32) ⊕ (Int32 × Int32)} (h : m_Gr_reachedBlocks_B4 σ v1 v2 = some t) (hz : Sum.elim (z_Gr_reachedBlocks_Y4 l G E σ) (z_Gr_reachedBlocks_X4 l G E σ) t) : aw_W l M_Gr_reachedBlocks G B_Gr_reachedBlocks E 4 [(0, .ref 8), (1, .int v1), (2, .int v2)] [] xA σ 0 0 := by
  unfold m_Gr_reachedBlocks_B4 at h
  refine aw_iload_n (pc := 4) (q := 2) dX3_reachedBlocks_4 rfl ?_
  refine aw_bipush (pc := 5) (v := 16) dX3_reachedBlocks_5 (by decide) ?_
  refine aw_icmp_ge (pc := 7) (tgt := 74) dX3_reachedBlocks_7 (by decide) (fun c1 => ?_) (fun c1 => ?_)
  · replace h := aw_ifp c1 h
    refine aw_sub [1] rfl ?_
    cases h
    exact hz
  · replace h := aw_ifn c1 h
    refine aw_iconst (pc := 10) (v := 0) dX3_reachedBlocks_10 (by decide) ?_
    refine aw_istore_n (pc := 11) [(3, .int ((0 : Int32))), (0, .ref 8), (1, .int v1), (2, .int v2)] dX3_reachedBlocks_11 (by decide) rfl ?_
    obtain ⟨x14, hl15, h⟩ := aw_bde h
    have K16 : z_Gr_reachedBlocks_Y12 l G E σ v2 x14 := by
      show aw_W l M_Gr_reachedBlocks G B_Gr_reachedBlocks E 68 [(0, .ref 8), (1, .int x14), (2, .int v2)] [] xA σ 0 0
      obtain ⟨x17, e_x17⟩ : ∃ z, z = (v2 + (1 : Int32)) := ⟨_, rfl⟩
      replace h := aw_lte h x17 e_x17
      refine aw_iinc (pc := 68) (q := 2) (v := x17) [(2, .int x17), (0, .ref 8), (1, .int x14)] dX3_reachedBlocks_68 rfl e_x17.symm (by decide) rfl ?_
      refine aw_goto (pc := 71) (tgt := 4) dX3_reachedBlocks_71 (by decide) ?_
      refine aw_sub [1, 2, 0] rfl ?_
      cases h
      exact hz
    refine aw_sub [1, 2, 3, 0] rfl ?_
    show z_Gr_reachedBlocks_X12 l G E σ v2 ((v1, (0 : Int32)))
    exact aw_lp_X (Xp := z_Gr_reachedBlocks_X12 l G E σ v2) (Y := z_Gr_reachedBlocks_Y12 l G E σ v2) hl15 K16 (fun s t hf hz => t_Gr_reachedBlocks_B12 hf hz)
set_option maxRecDepth 100000 in
set_option maxHeartbeats 4000000 in
theorem t_Gr_reachedBlocks {l : Launch} {G : aw_G} {E : aw_E} {σ : aw_S} {t : Int32} (h : m_Gr_reachedBlocks σ = some t) (hE : E = (some (.int t), xA, σ)) : aw_W l M_Gr_reachedBlocks G B_Gr_reachedBlocks E 0 [(0, .ref 8)] [] xA σ 0 0 := by
  unfold m_Gr_reachedBlocks at h
  refine aw_iconst (pc := 0) (v := 1) dX3_reachedBlocks_0 (by decide) ?_
  refine aw_istore_n (pc := 1) [(1, .int ((1 : Int32))), (0, .ref 8)] dX3_reachedBlocks_1 (by decide) rfl ?_
  refine aw_iconst (pc := 2) (v := 0) dX3_reachedBlocks_2 (by decide) ?_
  refine aw_istore_n (pc := 3) [(2, .int ((0 : Int32))), (1, .int ((1 : Int32))), (0, .ref 8)] dX3_reachedBlocks_3 (by decide) rfl ?_
  obtain ⟨x18, hl19, h⟩ := aw_bde h
  have K20 : z_Gr_reachedBlocks_Y4 l G E σ x18 := by
    show aw_W l M_Gr_reachedBlocks G B_Gr_reachedBlocks E 74 [(1, .int x18)] [] xA σ 0 0
    refine aw_iload_n (pc := 74) (q := 0) dX3_reachedBlocks_74 rfl ?_
    cases h
    subst hE
    exact aw_iret (v := _) rfl aw_ni ⟨Nat.zero_le _, Nat.zero_le _⟩ dX3_reachedBlocks_75
  refine aw_sub [2, 1, 0] rfl ?_
  show z_Gr_reachedBlocks_X4 l G E σ (((1 : Int32), (0 : Int32)))
  exact aw_lp_X (Xp := z_Gr_reachedBlocks_X4 l G E σ) (Y := z_Gr_reachedBlocks_Y4 l G E σ) hl19 K20 (fun s t hf hz => t_Gr_reachedBlocks_B4 hf hz)
theorem c_Gr_reachedBlocks {l : Launch} {G : aw_G} {σ : aw_S} {t : Int32} (h : m_Gr_reachedBlocks σ = some t) : aw_Ct l yX3_reachedBlocks M_Gr_reachedBlocks G B_Gr_reachedBlocks [.ref 8] xA σ (some (.int t), xA, σ) := aw_Ct_of (by decide) rfl (fun h => by cases h) (Nat.le_of_ble_eq_true rfl) (t_Gr_reachedBlocks h rfl)
/-! java/util/Arrays.fill([II)V -/
def z_Ar_fillI_X5 (l : Launch) (G : aw_G) (E : aw_E) (v0 : Nat) (v1 : Int32) (v3 : Int32) (n0 : Nat) (s : Int32 × aw_S) : Prop := aw_W l M_Ar_fillI G B_Ar_fillI E 5 [(0, .ref v0), (1, .int v1), (2, .int s.1), (3, .int v3)] [] xA s.2 0 0
def z_Ar_fillI_Y5 (l : Launch) (G : aw_G) (E : aw_E) (v0 : Nat) (v1 : Int32) (v3 : Int32) (n0 : Nat) (x : (aw_S)) : Prop := aw_W l M_Ar_fillI G B_Ar_fillI E 20 [] [] xA x 0 0
set_option maxRecDepth 100000 in
set_option maxHeartbeats 4000000 in
theorem t_Ar_fillI_B5 {l : Launch} {G : aw_G} {E : aw_E} {σ : aw_S} {v0 : Nat} {v1 : Int32} {v3 : Int32} {n0 : Nat} {v2 : Int32} (h_v0 : xA[v0]? = some (.inr (0, n0, aw_no))) {t : (aw_S) ⊕ (Int32 × aw_S)} (h : m_Ar_fillI_B5 σ v0 v1 v3 n0 v2 = some t) (hz : Sum.elim (z_Ar_fillI_Y5 l G E v0 v1 v3 n0) (z_Ar_fillI_X5 l G E v0 v1 v3 n0) t) : aw_W l M_Ar_fillI G B_Ar_fillI E 5 [(0, .ref v0), (1, .int v1), (2, .int v2), (3, .int v3)] [] xA σ 0 0 := by
  unfold m_Ar_fillI_B5 at h
  refine aw_iload_n (pc := 5) (q := 2) dJ7_fill_53178_5 rfl ?_
  refine aw_iload_n (pc := 6) (q := 3) dJ7_fill_53178_6 rfl ?_
  refine aw_icmp_ge (pc := 7) (tgt := 20) dJ7_fill_53178_7 (by decide) (fun c2 => ?_) (fun c2 => ?_)
  · replace h := aw_ifp c2 h
    refine aw_sub [] rfl ?_
    cases h
    exact hz
  · replace h := aw_ifn c2 h
    refine aw_aload_n (pc := 10) (q := 0) dJ7_fill_53178_10 rfl ?_
    refine aw_iload_n (pc := 11) (q := 2) dJ7_fill_53178_11 rfl ?_
    refine aw_iload_n (pc := 12) (q := 1) dJ7_fill_53178_12 rfl ?_
    obtain ⟨g3, h⟩ := aw_gde h
    refine aw_iast (pc := 13) h_v0 g3 dJ7_fill_53178_13 ?_
    refine aw_nmS (fun s4 e_s4 => ?_)
    replace h := aw_lte h s4 e_s4
    obtain ⟨x5, e_x5⟩ : ∃ z, z = (v2 + (1 : Int32)) := ⟨_, rfl⟩
    replace h := aw_lte h x5 e_x5
    refine aw_iinc (pc := 14) (q := 2) (v := x5) [(2, .int x5), (0, .ref v0), (1, .int v1), (3, .int v3)] dJ7_fill_53178_14 rfl e_x5.symm (by decide) rfl ?_
    refine aw_goto (pc := 17) (tgt := 5) dJ7_fill_53178_17 (by decide) ?_
    refine aw_sub [1, 2, 0, 3] rfl ?_
    cases h
    exact hz
set_option maxRecDepth 100000 in
set_option maxHeartbeats 4000000 in
theorem t_Ar_fillI {l : Launch} {G : aw_G} {E : aw_E} {σ : aw_S} {p0 : Nat} {n0 : Nat} {p1 : Int32} (h_p0 : xA[p0]? = some (.inr (0, n0, aw_no))) {t : aw_S} (h : m_Ar_fillI σ p0 n0 p1 = some t) (hE : E = (none, xA, t)) : aw_W l M_Ar_fillI G B_Ar_fillI E 0 [(0, .ref p0), (1, .int p1)] [] xA σ 0 0 := by
  unfold m_Ar_fillI at h
  refine aw_iconst (pc := 0) (v := 0) dJ7_fill_53178_0 (by decide) ?_
  refine aw_istore_n (pc := 1) [(2, .int ((0 : Int32))), (0, .ref p0), (1, .int p1)] dJ7_fill_53178_1 (by decide) rfl ?_
  refine aw_aload_n (pc := 2) (q := 1) dJ7_fill_53178_2 rfl ?_
  refine aw_alen (pc := 3) (v := (Int32.ofNat n0)) h_p0 (by decide) rfl dJ7_fill_53178_3 ?_
  refine aw_nmI (fun x1 e_x1 => ?_)
  replace h := aw_lte h x1 e_x1
  refine aw_istore_n (pc := 4) [(3, .int x1), (2, .int ((0 : Int32))), (0, .ref p0), (1, .int p1)] dJ7_fill_53178_4 (by decide) rfl ?_
  obtain ⟨x6, hl7, h⟩ := aw_bde h
  have K8 : z_Ar_fillI_Y5 l G E p0 p1 x1 n0 x6 := by
    show aw_W l M_Ar_fillI G B_Ar_fillI E 20 [] [] xA x6 0 0
    cases h
    subst hE
    exact aw_vret rfl ⟨Nat.zero_le _, Nat.zero_le _⟩ dJ7_fill_53178_20
  refine aw_sub [2, 3, 1, 0] rfl ?_
  show z_Ar_fillI_X5 l G E p0 p1 x1 n0 (((0 : Int32), σ))
  exact aw_lp_X (Xp := z_Ar_fillI_X5 l G E p0 p1 x1 n0) (Y := z_Ar_fillI_Y5 l G E p0 p1 x1 n0) hl7 K8 (fun s t hf hz => t_Ar_fillI_B5 h_p0 hf hz)
theorem c_Ar_fillI {l : Launch} {G : aw_G} {σ : aw_S} {p0 : Nat} {n0 : Nat} {p1 : Int32} (h_p0 : xA[p0]? = some (.inr (0, n0, aw_no))) {t : aw_S} (h : m_Ar_fillI σ p0 n0 p1 = some t) : aw_Ct l yJ7_fill_53178 M_Ar_fillI G B_Ar_fillI [.ref p0, .int p1] xA σ (none, xA, t) := aw_Ct_of (by decide) rfl (fun h => by cases h) (Nat.le_of_ble_eq_true rfl) (t_Ar_fillI h_p0 h rfl)
/-! LateMover$Graph.fill(ILLateMover$Reader;I)V -/
set_option maxRecDepth 100000 in
set_option maxHeartbeats 4000000 in
theorem t_Gr_fill {l : Launch} {G : aw_G} {E : aw_E} {σ : aw_S} {p1 : Int32} {p3 : Int32} {t : aw_S} (h : m_Gr_fill σ p1 p3 = some t) (hE : E = (none, xA, t)) : aw_W l M_Gr_fill G B_Gr_fill E 0 [(0, .ref 24), (1, .int p1), (2, .ref 8), (3, .int p3)] [] xA σ 0 0 := by
  unfold m_Gr_fill at h
  refine aw_aload_n (pc := 0) (q := 0) dX3_fill_0 rfl ?_
  refine aw_getC (pc := 1) fd_X3_22.r xA_24 rfl dX3_fill_1 ?_
  refine aw_iload_n (pc := 4) (q := 1) dX3_fill_4 rfl ?_
  refine aw_aload_n (pc := 5) (q := 2) dX3_fill_5 rfl ?_
  refine aw_getC (pc := 6) fd_X3_100 xA_8 rfl dX3_fill_6 ?_
  refine aw_iload_n (pc := 9) (q := 3) dX3_fill_9 rfl ?_
  obtain ⟨g1, h⟩ := aw_gde h
  refine aw_iald (pc := 10) xA_16 g1 dX3_fill_10 ?_
  obtain ⟨g2, h⟩ := aw_gde h
  refine aw_iast (pc := 11) xA_30 g2 dX3_fill_11 ?_
  refine aw_nmS (fun s3 e_s3 => ?_)
  replace h := aw_lte h s3 e_s3
  refine aw_aload_n (pc := 12) (q := 0) dX3_fill_12 rfl ?_
  refine aw_getC (pc := 13) fd_X3_25.r xA_24 rfl dX3_fill_13 ?_
  refine aw_iload_n (pc := 16) (q := 1) dX3_fill_16 rfl ?_
  refine aw_aload_n (pc := 17) (q := 2) dX3_fill_17 rfl ?_
  refine aw_getC (pc := 18) fd_X3_105 xA_8 rfl dX3_fill_18 ?_
  refine aw_iload_n (pc := 21) (q := 3) dX3_fill_21 rfl ?_
  obtain ⟨g4, h⟩ := aw_gde h
  refine aw_iald (pc := 22) xA_17 g4 dX3_fill_22 ?_
  obtain ⟨g5, h⟩ := aw_gde h
  refine aw_iast (pc := 23) xA_31 g5 dX3_fill_23 ?_
  refine aw_nmS (fun s6 e_s6 => ?_)
  replace h := aw_lte h s6 e_s6
  refine aw_aload_n (pc := 24) (q := 0) dX3_fill_24 rfl ?_
  refine aw_getC (pc := 25) fd_X3_28.r xA_24 rfl dX3_fill_25 ?_
  refine aw_iload_n (pc := 28) (q := 1) dX3_fill_28 rfl ?_
  refine aw_aload_n (pc := 29) (q := 2) dX3_fill_29 rfl ?_
  refine aw_getC (pc := 30) fd_X3_106 xA_8 rfl dX3_fill_30 ?_
  refine aw_iload_n (pc := 33) (q := 3) dX3_fill_33 rfl ?_
  obtain ⟨g7, h⟩ := aw_gde h
  refine aw_iald (pc := 34) xA_18 g7 dX3_fill_34 ?_
  obtain ⟨g8, h⟩ := aw_gde h
  refine aw_iast (pc := 35) xA_32 g8 dX3_fill_35 ?_
  refine aw_nmS (fun s9 e_s9 => ?_)
  replace h := aw_lte h s9 e_s9
  refine aw_aload_n (pc := 36) (q := 0) dX3_fill_36 rfl ?_
  refine aw_getC (pc := 37) fd_X3_31.r xA_24 rfl dX3_fill_37 ?_
  refine aw_iload_n (pc := 40) (q := 1) dX3_fill_40 rfl ?_
  refine aw_aload_n (pc := 41) (q := 2) dX3_fill_41 rfl ?_
  refine aw_getC (pc := 42) fd_X3_107 xA_8 rfl dX3_fill_42 ?_
  refine aw_iload_n (pc := 45) (q := 3) dX3_fill_45 rfl ?_
  obtain ⟨g10, h⟩ := aw_gde h
  refine aw_iald (pc := 46) xA_19 g10 dX3_fill_46 ?_
  obtain ⟨g11, h⟩ := aw_gde h
  refine aw_iast (pc := 47) xA_33 g11 dX3_fill_47 ?_
  refine aw_nmS (fun s12 e_s12 => ?_)
  replace h := aw_lte h s12 e_s12
  refine aw_aload_n (pc := 48) (q := 0) dX3_fill_48 rfl ?_
  refine aw_getC (pc := 49) fd_X3_34.r xA_24 rfl dX3_fill_49 ?_
  refine aw_iload_n (pc := 52) (q := 1) dX3_fill_52 rfl ?_
  refine aw_aload_n (pc := 53) (q := 2) dX3_fill_53 rfl ?_
  refine aw_getC (pc := 54) fd_X3_108 xA_8 rfl dX3_fill_54 ?_
  refine aw_iload_n (pc := 57) (q := 3) dX3_fill_57 rfl ?_
  obtain ⟨g13, h⟩ := aw_gde h
  refine aw_iald (pc := 58) xA_20 g13 dX3_fill_58 ?_
  obtain ⟨g14, h⟩ := aw_gde h
  refine aw_iast (pc := 59) xA_34 g14 dX3_fill_59 ?_
  refine aw_nmS (fun s15 e_s15 => ?_)
  replace h := aw_lte h s15 e_s15
  refine aw_aload_n (pc := 60) (q := 0) dX3_fill_60 rfl ?_
  refine aw_getC (pc := 61) fd_X3_37.r xA_24 rfl dX3_fill_61 ?_
  refine aw_iload_n (pc := 64) (q := 1) dX3_fill_64 rfl ?_
  refine aw_aload_n (pc := 65) (q := 2) dX3_fill_65 rfl ?_
  refine aw_getC (pc := 66) fd_X3_109 xA_8 rfl dX3_fill_66 ?_
  refine aw_iload_n (pc := 69) (q := 3) dX3_fill_69 rfl ?_
  obtain ⟨g16, h⟩ := aw_gde h
  refine aw_iald (pc := 70) xA_21 g16 dX3_fill_70 ?_
  obtain ⟨g17, h⟩ := aw_gde h
  refine aw_iast (pc := 71) xA_35 g17 dX3_fill_71 ?_
  refine aw_nmS (fun s18 e_s18 => ?_)
  replace h := aw_lte h s18 e_s18
  cases h
  subst hE
  exact aw_vret rfl ⟨Nat.zero_le _, Nat.zero_le _⟩ dX3_fill_72
theorem c_Gr_fill {l : Launch} {G : aw_G} {σ : aw_S} {p1 : Int32} {p3 : Int32} {t : aw_S} (h : m_Gr_fill σ p1 p3 = some t) : aw_Ct l yX3_fill M_Gr_fill G B_Gr_fill [.ref 24, .int p1, .ref 8, .int p3] xA σ (none, xA, t) := aw_Ct_of (by decide) rfl (fun h => by cases h) (Nat.le_of_ble_eq_true rfl) (t_Gr_fill h rfl)
/-! LateMover$Graph.addReached(LLateMover$Reader;)V -/
def z_Gr_addReached_X15 (l : Launch) (G : aw_G) (E : aw_E) (v2 : Int32) (s : Int32 × aw_S) : Prop := aw_W l M_Gr_addReached G B_Gr_addReached E 15 [(0, .ref 24), (1, .ref 8), (2, .int v2), (3, .int s.1)] [] xA s.2 0 0
def z_Gr_addReached_Y15 (l : Launch) (G : aw_G) (E : aw_E) (v2 : Int32) (x : (aw_S)) : Prop := aw_W l M_Gr_addReached G B_Gr_addReached E 121 [] [] xA x 0 0
set_option maxRecDepth 100000 in
set_option maxHeartbeats 4000000 in
theorem t_Gr_addReached_J115 {l : Launch} {G : aw_G} {E : aw_E} {σ : aw_S} {v2 : Int32} {v3 : Int32} {t : (aw_S) ⊕ (Int32 × aw_S)} (h : m_Gr_addReached_J115 σ v2 v3 = some t) (hz : Sum.elim (z_Gr_addReached_Y15 l G E v2) (z_Gr_addReached_X15 l G E v2) t) : aw_W l M_Gr_addReached G B_Gr_addReached E 115 [(0, .ref 24), (1, .ref 8), (2, .int v2), (3, .int v3)] [] xA σ 0 0 := by
  unfold m_Gr_addReached_J115 at h
  obtain ⟨x11, e_x11⟩ : ∃ z, z = (v3 + (1 : Int32)) := ⟨_, rfl⟩
  replace h := aw_lte h x11 e_x11
  refine aw_iinc (pc := 115) (q := 3) (v := x11) [(3, .int x11), (0, .ref 24), (1, .ref 8), (2, .int v2)] dX3_addReached_115 rfl e_x11.symm (by decide) rfl ?_
  refine aw_goto (pc := 118) (tgt := 15) dX3_addReached_118 (by decide) ?_
  refine aw_sub [1, 2, 3, 0] rfl ?_
  cases h
  exact hz
set_option maxRecDepth 100000 in
set_option maxHeartbeats 4000000 in
theorem t_Gr_addReached_J114 {l : Launch} {G : aw_G} {E : aw_E} {σ : aw_S} {v2 : Int32} {v3 : Int32} {k1 : Int32} {k2 : Int32} {t : (aw_S) ⊕ (Int32 × aw_S)} (h : m_Gr_addReached_J114 σ v2 v3 k1 k2 = some t) (hz : Sum.elim (z_Gr_addReached_Y15 l G E v2) (z_Gr_addReached_X15 l G E v2) t) : aw_W l M_Gr_addReached G B_Gr_addReached E 114 [(0, .ref 24), (1, .ref 8), (2, .int v2), (3, .int v3)] [.int k2, .int k1, .ref 40] xA σ 0 0 := by
  unfold m_Gr_addReached_J114 at h
  obtain ⟨g25, h⟩ := aw_gde h
  refine aw_iast (pc := 114) xA_40 g25 dX3_addReached_114 ?_
  refine aw_nmS (fun s26 e_s26 => ?_)
  replace h := aw_lte h s26 e_s26
  exact t_Gr_addReached_J115 h hz
set_option maxRecDepth 100000 in
set_option maxHeartbeats 4000000 in
theorem t_Gr_addReached_B15 {l : Launch} {G : aw_G} {E : aw_E} {σ : aw_S} {v2 : Int32} {v3 : Int32} {t : (aw_S) ⊕ (Int32 × aw_S)} (h : m_Gr_addReached_B15 σ v2 v3 = some t) (hz : Sum.elim (z_Gr_addReached_Y15 l G E v2) (z_Gr_addReached_X15 l G E v2) t) : aw_W l M_Gr_addReached G B_Gr_addReached E 15 [(0, .ref 24), (1, .ref 8), (2, .int v2), (3, .int v3)] [] xA σ 0 0 := by
  unfold m_Gr_addReached_B15 at h
  refine aw_iload_n (pc := 15) (q := 3) dX3_addReached_15 rfl ?_
  refine aw_aload_n (pc := 16) (q := 1) dX3_addReached_16 rfl ?_
  refine aw_getI (pc := 17) fd_X3_97.r xA_8 rfl dX3_addReached_17 ?_
  refine aw_icmp_ge (pc := 20) (tgt := 121) dX3_addReached_20 (by decide) (fun c6 => ?_) (fun c6 => ?_)
  · replace h := aw_ifp c6 h
    refine aw_sub [] rfl ?_
    cases h
    exact hz
  · replace h := aw_ifn c6 h
    refine aw_iload_n (pc := 23) (q := 3) dX3_addReached_23 rfl ?_
    refine aw_bipush (pc := 24) (v := 76) dX3_addReached_24 (by decide) ?_
    refine aw_icmp_ge (pc := 26) (tgt := 121) dX3_addReached_26 (by decide) (fun c7 => ?_) (fun c7 => ?_)
    · replace h := aw_ifp c7 h
      refine aw_sub [] rfl ?_
      cases h
      exact hz
    · replace h := aw_ifn c7 h
      refine aw_aload_n (pc := 29) (q := 1) dX3_addReached_29 rfl ?_
      refine aw_getC (pc := 30) fd_X3_100 xA_8 rfl dX3_addReached_30 ?_
      refine aw_iload_n (pc := 33) (q := 3) dX3_addReached_33 rfl ?_
      obtain ⟨g8, h⟩ := aw_gde h
      refine aw_iald (pc := 34) xA_16 g8 dX3_addReached_34 ?_
      refine aw_nmI (fun x9 e_x9 => ?_)
      replace h := aw_lte h x9 e_x9
      refine aw_istore (pc := 35) [(4, .int x9), (0, .ref 24), (1, .ref 8), (2, .int v2), (3, .int v3)] dX3_addReached_35 (by decide) rfl ?_
      refine aw_iload (pc := 37) (q := 0) dX3_addReached_37 rfl ?_
      refine aw_if_lt (pc := 39) (tgt := 115) dX3_addReached_39 (by decide) (fun c10 => ?_) (fun c10 => ?_)
      · replace h := aw_ifp c10 h
        refine aw_sub [1, 2, 3, 4] rfl ?_
        exact t_Gr_addReached_J115 h hz
      · replace h := aw_ifn c10 h
        refine aw_iload (pc := 42) (q := 0) dX3_addReached_42 rfl ?_
        refine aw_bipush (pc := 44) (v := 16) dX3_addReached_44 (by decide) ?_
        refine aw_icmp_ge (pc := 46) (tgt := 115) dX3_addReached_46 (by decide) (fun c12 => ?_) (fun c12 => ?_)
        · replace h := aw_ifp c12 h
          refine aw_sub [1, 2, 3, 4] rfl ?_
          exact t_Gr_addReached_J115 h hz
        · replace h := aw_ifn c12 h
          refine aw_iload_n (pc := 49) (q := 3) dX3_addReached_49 rfl ?_
          refine aw_iload (pc := 50) (q := 0) dX3_addReached_50 rfl ?_
          refine aw_iushr (pc := 52) dX3_addReached_52 ?_
          refine aw_iconst (pc := 53) (v := 1) dX3_addReached_53 (by decide) ?_
          refine aw_iand (pc := 54) dX3_addReached_54 ?_
          refine aw_iconst (pc := 55) (v := 1) dX3_addReached_55 (by decide) ?_
          refine aw_icmp_ne (pc := 56) (tgt := 115) dX3_addReached_56 (by decide) (fun c13 => ?_) (fun c13 => ?_)
          · replace h := aw_ifn c13 h
            refine aw_sub [1, 2, 3, 4] rfl ?_
            exact t_Gr_addReached_J115 h hz
          · replace h := aw_ifp c13 h
            refine aw_aload_n (pc := 59) (q := 1) dX3_addReached_59 rfl ?_
            refine aw_aload_n (pc := 60) (q := 2) dX3_addReached_60 rfl ?_
            refine aw_getC (pc := 61) fd_X3_101 xA_8 rfl dX3_addReached_61 ?_
            refine aw_iload_n (pc := 64) (q := 4) dX3_addReached_64 rfl ?_
            obtain ⟨g14, h⟩ := aw_gde h
            refine aw_iald (pc := 65) xA_15 g14 dX3_addReached_65 ?_
            obtain ⟨r15, s17, e16, h⟩ := aw_bd2e h
            refine aw_cV1 (pc := 66) [.int ((σ.1 15 v3.toNatClampNeg))] (c_Gr_add e16) yy_Gr_add.1 wm_381 yy_Gr_add.2.1 yy_Gr_add.2.2 xA_24 ⟨_, _, rfl⟩ rfl ⟨Nat.le_of_ble_eq_true rfl, Nat.le_of_ble_eq_true rfl⟩ ⟨Nat.zero_le _, Nat.zero_le _⟩ (Nat.le_of_ble_eq_true rfl) dX3_addReached_66 ?_
            refine aw_istore (pc := 69) [(5, .int r15), (4, .int x9), (0, .ref 24), (1, .ref 8), (2, .int v2), (3, .int v3)] dX3_addReached_69 (by decide) rfl ?_
            refine aw_iload (pc := 71) (q := 0) dX3_addReached_71 rfl ?_
            refine aw_iconst (pc := 73) (v := -1) dX3_addReached_73 (by decide) ?_
            refine aw_icmp_eq (pc := 74) (tgt := 115) dX3_addReached_74 (by decide) (fun c18 => ?_) (fun c18 => ?_)
            · replace h := aw_ifp c18 h
              refine aw_sub [2, 3, 4, 5] rfl ?_
              exact t_Gr_addReached_J115 h hz
            · replace h := aw_ifn c18 h
              refine aw_aload_n (pc := 77) (q := 2) dX3_addReached_77 rfl ?_
              refine aw_iload (pc := 78) (q := 0) dX3_addReached_78 rfl ?_
              refine aw_aload_n (pc := 80) (q := 3) dX3_addReached_80 rfl ?_
              refine aw_iload_n (pc := 81) (q := 5) dX3_addReached_81 rfl ?_
              obtain ⟨s21, e20, h⟩ := aw_bde h
              refine aw_cV0 (pc := 82) [.int r15, .ref 8, .int v3] (c_Gr_fill e20) yy_Gr_fill.1 wm_404 yy_Gr_fill.2.1 yy_Gr_fill.2.2 xA_24 ⟨_, _, rfl⟩ rfl ⟨Nat.le_of_ble_eq_true rfl, Nat.le_of_ble_eq_true rfl⟩ ⟨Nat.zero_le _, Nat.zero_le _⟩ (Nat.le_of_ble_eq_true rfl) dX3_addReached_82 ?_
              refine aw_aload_n (pc := 85) (q := 2) dX3_addReached_85 rfl ?_
              refine aw_getC (pc := 86) fd_X3_52.r xA_24 rfl dX3_addReached_86 ?_
              refine aw_iload (pc := 89) (q := 1) dX3_addReached_89 rfl ?_
              refine aw_aload_n (pc := 91) (q := 2) dX3_addReached_91 rfl ?_
              refine aw_getC (pc := 92) fd_X3_52.r xA_24 rfl dX3_addReached_92 ?_
              refine aw_iload (pc := 95) (q := 1) dX3_addReached_95 rfl ?_
              obtain ⟨g22, h⟩ := aw_gde h
              refine aw_iald (pc := 97) xA_40 g22 dX3_addReached_97 ?_
              refine aw_iconst (pc := 98) (v := -1) dX3_addReached_98 (by decide) ?_
              refine aw_icmp_ne (pc := 99) (tgt := 107) dX3_addReached_99 (by decide) (fun c23 => ?_) (fun c23 => ?_)
              · replace h := aw_ifn c23 h
                refine aw_aload_n (pc := 107) (q := 2) dX3_addReached_107 rfl ?_
                refine aw_getC (pc := 108) fd_X3_52.r xA_24 rfl dX3_addReached_108 ?_
                refine aw_iload (pc := 111) (q := 1) dX3_addReached_111 rfl ?_
                obtain ⟨g24, h⟩ := aw_gde h
                refine aw_iald (pc := 113) xA_40 g24 dX3_addReached_113 ?_
                refine aw_sub [2, 3, 4, 5] rfl ?_
                exact t_Gr_addReached_J114 h hz
              · replace h := aw_ifp c23 h
                refine aw_iload (pc := 102) (q := 0) dX3_addReached_102 rfl ?_
                refine aw_goto (pc := 104) (tgt := 114) dX3_addReached_104 (by decide) ?_
                refine aw_sub [2, 3, 4, 5] rfl ?_
                exact t_Gr_addReached_J114 h hz
set_option maxRecDepth 100000 in
set_option maxHeartbeats 4000000 in
theorem t_Gr_addReached {l : Launch} {G : aw_G} {E : aw_E} {σ : aw_S} {t : aw_S} (h : m_Gr_addReached σ = some t) (hE : E = (none, xA, t)) : aw_W l M_Gr_addReached G B_Gr_addReached E 0 [(0, .ref 24), (1, .ref 8)] [] xA σ 0 0 := by
  unfold m_Gr_addReached at h
  refine aw_aload_n (pc := 0) (q := 1) dX3_addReached_0 rfl ?_
  obtain ⟨r1, e2, h⟩ := aw_bde h
  refine aw_cS1 (pc := 1) [.ref 8] (c_Gr_reachedBlocks e2) yy_Gr_reachedBlocks.1 wm_392 yy_Gr_reachedBlocks.2 rfl ⟨Nat.le_of_ble_eq_true rfl, Nat.le_of_ble_eq_true rfl⟩ ⟨Nat.zero_le _, Nat.zero_le _⟩ (Nat.le_of_ble_eq_true rfl) dX3_addReached_1 ?_
  refine aw_istore_n (pc := 4) [(2, .int r1), (0, .ref 24), (1, .ref 8)] dX3_addReached_4 (by decide) rfl ?_
  refine aw_aload_n (pc := 5) (q := 1) dX3_addReached_5 rfl ?_
  refine aw_getC (pc := 6) fd_X3_52.r xA_24 rfl dX3_addReached_6 ?_
  refine aw_iconst (pc := 9) (v := -1) dX3_addReached_9 (by decide) ?_
  obtain ⟨s5, e4, h⟩ := aw_bde h
  refine aw_cS0 (pc := 10) [.ref 40, .int ((-1 : Int32))] (c_Ar_fillI xA_40 e4) yy_Ar_fillI.1 wm_400 yy_Ar_fillI.2 rfl ⟨Nat.le_of_ble_eq_true rfl, Nat.le_of_ble_eq_true rfl⟩ ⟨Nat.zero_le _, Nat.zero_le _⟩ (Nat.le_of_ble_eq_true rfl) dX3_addReached_10 ?_
  refine aw_iconst (pc := 13) (v := 0) dX3_addReached_13 (by decide) ?_
  refine aw_istore_n (pc := 14) [(3, .int ((0 : Int32))), (2, .int r1), (0, .ref 24), (1, .ref 8)] dX3_addReached_14 (by decide) rfl ?_
  obtain ⟨x27, hl28, h⟩ := aw_bde h
  have K29 : z_Gr_addReached_Y15 l G E r1 x27 := by
    show aw_W l M_Gr_addReached G B_Gr_addReached E 121 [] [] xA x27 0 0
    cases h
    subst hE
    exact aw_vret rfl ⟨Nat.zero_le _, Nat.zero_le _⟩ dX3_addReached_121
  refine aw_sub [2, 3, 1, 0] rfl ?_
  show z_Gr_addReached_X15 l G E r1 (((0 : Int32), s5))
  exact aw_lp_X (Xp := z_Gr_addReached_X15 l G E r1) (Y := z_Gr_addReached_Y15 l G E r1) hl28 K29 (fun s t hf hz => t_Gr_addReached_B15 hf hz)
theorem c_Gr_addReached {l : Launch} {G : aw_G} {σ : aw_S} {t : aw_S} (h : m_Gr_addReached σ = some t) : aw_Ct l yX3_addReached M_Gr_addReached G B_Gr_addReached [.ref 24, .ref 8] xA σ (none, xA, t) := aw_Ct_of (by decide) rfl (fun h => by cases h) (Nat.le_of_ble_eq_true rfl) (t_Gr_addReached h rfl)
/-! LateMover$Graph.startOf(I)I -/
set_option maxRecDepth 100000 in
set_option maxHeartbeats 4000000 in
theorem t_Gr_startOf {l : Launch} {G : aw_G} {E : aw_E} {σ : aw_S} {p1 : Int32} {t : Int32} (h : m_Gr_startOf σ p1 = some t) (hE : E = (some (.int t), xA, σ)) : aw_W l M_Gr_startOf G B_Gr_startOf E 0 [(0, .ref 24), (1, .int p1)] [] xA σ 0 0 := by
  unfold m_Gr_startOf at h
  refine aw_iload_n (pc := 0) (q := 1) dX3_startOf_0 rfl ?_
  refine aw_if_lt (pc := 1) (tgt := 19) dX3_startOf_1 (by decide) (fun c1 => ?_) (fun c1 => ?_)
  · replace h := aw_ifp c1 h
    refine aw_iconst (pc := 19) (v := -1) dX3_startOf_19 (by decide) ?_
    cases h
    subst hE
    exact aw_iret (v := (-1 : Int32)) rfl aw_ni ⟨Nat.zero_le _, Nat.zero_le _⟩ dX3_startOf_20
  · replace h := aw_ifn c1 h
    refine aw_iload_n (pc := 4) (q := 1) dX3_startOf_4 rfl ?_
    refine aw_bipush (pc := 5) (v := 16) dX3_startOf_5 (by decide) ?_
    refine aw_icmp_ge (pc := 7) (tgt := 19) dX3_startOf_7 (by decide) (fun c2 => ?_) (fun c2 => ?_)
    · replace h := aw_ifp c2 h
      refine aw_iconst (pc := 19) (v := -1) dX3_startOf_19 (by decide) ?_
      cases h
      subst hE
      exact aw_iret (v := (-1 : Int32)) rfl aw_ni ⟨Nat.zero_le _, Nat.zero_le _⟩ dX3_startOf_20
    · replace h := aw_ifn c2 h
      refine aw_aload_n (pc := 10) (q := 0) dX3_startOf_10 rfl ?_
      refine aw_getC (pc := 11) fd_X3_52.r xA_24 rfl dX3_startOf_11 ?_
      refine aw_iload_n (pc := 14) (q := 1) dX3_startOf_14 rfl ?_
      obtain ⟨g3, h⟩ := aw_gde h
      refine aw_iald (pc := 15) xA_40 g3 dX3_startOf_15 ?_
      refine aw_goto (pc := 16) (tgt := 20) dX3_startOf_16 (by decide) ?_
      cases h
      subst hE
      exact aw_iret (v := (σ.1 40 p1.toNatClampNeg)) rfl aw_ni ⟨Nat.zero_le _, Nat.zero_le _⟩ dX3_startOf_20
theorem c_Gr_startOf {l : Launch} {G : aw_G} {σ : aw_S} {p1 : Int32} {t : Int32} (h : m_Gr_startOf σ p1 = some t) : aw_Ct l yX3_startOf M_Gr_startOf G B_Gr_startOf [.ref 24, .int p1] xA σ (some (.int t), xA, σ) := aw_Ct_of (by decide) rfl (fun h => by cases h) (Nat.le_of_ble_eq_true rfl) (t_Gr_startOf h rfl)
/-! LateMover$Graph.joinNodes()V -/
def z_Gr_joinNodes_X2 (l : Launch) (G : aw_G) (E : aw_E) (s : Int32 × aw_S) : Prop := aw_W l M_Gr_joinNodes G B_Gr_joinNodes E 2 [(0, .ref 24), (1, .int s.1)] [] xA s.2 0 0
def z_Gr_joinNodes_Y2 (l : Launch) (G : aw_G) (E : aw_E) (x : (aw_S)) : Prop := aw_W l M_Gr_joinNodes G B_Gr_joinNodes E 103 [] [] xA x 0 0
set_option maxRecDepth 100000 in
set_option maxHeartbeats 4000000 in
theorem t_Gr_joinNodes_J97 {l : Launch} {G : aw_G} {E : aw_E} {σ : aw_S} {v1 : Int32} {t : (aw_S) ⊕ (Int32 × aw_S)} (h : m_Gr_joinNodes_J97 σ v1 = some t) (hz : Sum.elim (z_Gr_joinNodes_Y2 l G E) (z_Gr_joinNodes_X2 l G E) t) : aw_W l M_Gr_joinNodes G B_Gr_joinNodes E 97 [(0, .ref 24), (1, .int v1)] [] xA σ 0 0 := by
  unfold m_Gr_joinNodes_J97 at h
  obtain ⟨x17, e_x17⟩ : ∃ z, z = (v1 + (1 : Int32)) := ⟨_, rfl⟩
  replace h := aw_lte h x17 e_x17
  refine aw_iinc (pc := 97) (q := 1) (v := x17) [(1, .int x17), (0, .ref 24)] dX3_joinNodes_97 rfl e_x17.symm (by decide) rfl ?_
  refine aw_goto (pc := 100) (tgt := 2) dX3_joinNodes_100 (by decide) ?_
  refine aw_sub [1, 0] rfl ?_
  cases h
  exact hz
set_option maxRecDepth 100000 in
set_option maxHeartbeats 4000000 in
theorem t_Gr_joinNodes_J96 {l : Launch} {G : aw_G} {E : aw_E} {σ : aw_S} {v1 : Int32} {k1 : Int32} {k2 : Int32} {t : (aw_S) ⊕ (Int32 × aw_S)} (h : m_Gr_joinNodes_J96 σ v1 k1 k2 = some t) (hz : Sum.elim (z_Gr_joinNodes_Y2 l G E) (z_Gr_joinNodes_X2 l G E) t) : aw_W l M_Gr_joinNodes G B_Gr_joinNodes E 96 [(0, .ref 24), (1, .int v1)] [.int k2, .int k1, .ref 37] xA σ 0 0 := by
  unfold m_Gr_joinNodes_J96 at h
  obtain ⟨g15, h⟩ := aw_gde h
  refine aw_iast (pc := 96) xA_37 g15 dX3_joinNodes_96 ?_
  refine aw_nmS (fun s16 e_s16 => ?_)
  replace h := aw_lte h s16 e_s16
  exact t_Gr_joinNodes_J97 h hz
set_option maxRecDepth 100000 in
set_option maxHeartbeats 4000000 in
theorem t_Gr_joinNodes_J42 {l : Launch} {G : aw_G} {E : aw_E} {σ : aw_S} {v1 : Int32} {k1 : Int32} {k2 : Int32} {t : (aw_S) ⊕ (Int32 × aw_S)} (h : m_Gr_joinNodes_J42 σ v1 k1 k2 = some t) (hz : Sum.elim (z_Gr_joinNodes_Y2 l G E) (z_Gr_joinNodes_X2 l G E) t) : aw_W l M_Gr_joinNodes G B_Gr_joinNodes E 42 [(0, .ref 24), (1, .int v1)] [.int k2, .int k1, .ref 36] xA σ 0 0 := by
  unfold m_Gr_joinNodes_J42 at h
  obtain ⟨g19, h⟩ := aw_gde h
  refine aw_iast (pc := 42) xA_36 g19 dX3_joinNodes_42 ?_
  refine aw_nmS (fun s20 e_s20 => ?_)
  replace h := aw_lte h s20 e_s20
  refine aw_goto (pc := 43) (tgt := 97) dX3_joinNodes_43 (by decide) ?_
  exact t_Gr_joinNodes_J97 h hz
set_option maxRecDepth 100000 in
set_option maxHeartbeats 4000000 in
theorem t_Gr_joinNodes_B2 {l : Launch} {G : aw_G} {E : aw_E} {σ : aw_S} {v1 : Int32} {t : (aw_S) ⊕ (Int32 × aw_S)} (h : m_Gr_joinNodes_B2 σ v1 = some t) (hz : Sum.elim (z_Gr_joinNodes_Y2 l G E) (z_Gr_joinNodes_X2 l G E) t) : aw_W l M_Gr_joinNodes G B_Gr_joinNodes E 2 [(0, .ref 24), (1, .int v1)] [] xA σ 0 0 := by
  unfold m_Gr_joinNodes_B2 at h
  refine aw_iload_n (pc := 2) (q := 1) dX3_joinNodes_2 rfl ?_
  refine aw_aload_n (pc := 3) (q := 0) dX3_joinNodes_3 rfl ?_
  refine aw_getI (pc := 4) fd_X3_67.r xA_24 rfl dX3_joinNodes_4 ?_
  refine aw_icmp_ge (pc := 7) (tgt := 103) dX3_joinNodes_7 (by decide) (fun c1 => ?_) (fun c1 => ?_)
  · replace h := aw_ifp c1 h
    refine aw_sub [] rfl ?_
    cases h
    exact hz
  · replace h := aw_ifn c1 h
    refine aw_aload_n (pc := 10) (q := 0) dX3_joinNodes_10 rfl ?_
    refine aw_getC (pc := 11) fd_X3_18.r xA_24 rfl dX3_joinNodes_11 ?_
    refine aw_iload_n (pc := 14) (q := 1) dX3_joinNodes_14 rfl ?_
    obtain ⟨g2, h⟩ := aw_gde h
    refine aw_iald (pc := 15) xA_29 g2 dX3_joinNodes_15 ?_
    refine aw_iconst (pc := 16) (v := 4) dX3_joinNodes_16 (by decide) ?_
    refine aw_icmp_ge (pc := 17) (tgt := 46) dX3_joinNodes_17 (by decide) (fun c3 => ?_) (fun c3 => ?_)
    · replace h := aw_ifp c3 h
      refine aw_aload_n (pc := 46) (q := 0) dX3_joinNodes_46 rfl ?_
      refine aw_getC (pc := 47) fd_X3_40.r xA_24 rfl dX3_joinNodes_47 ?_
      refine aw_iload_n (pc := 50) (q := 1) dX3_joinNodes_50 rfl ?_
      refine aw_aload_n (pc := 51) (q := 0) dX3_joinNodes_51 rfl ?_
      refine aw_aload_n (pc := 52) (q := 0) dX3_joinNodes_52 rfl ?_
      refine aw_getC (pc := 53) fd_X3_34.r xA_24 rfl dX3_joinNodes_53 ?_
      refine aw_iload_n (pc := 56) (q := 1) dX3_joinNodes_56 rfl ?_
      obtain ⟨g4, h⟩ := aw_gde h
      refine aw_iald (pc := 57) xA_34 g4 dX3_joinNodes_57 ?_
      obtain ⟨r5, e6, h⟩ := aw_bde h
      refine aw_cV1 (pc := 58) [.int ((σ.1 34 v1.toNatClampNeg))] (c_Gr_startOf e6) yy_Gr_startOf.1 wm_415 yy_Gr_startOf.2.1 yy_Gr_startOf.2.2 xA_24 ⟨_, _, rfl⟩ rfl ⟨Nat.le_of_ble_eq_true rfl, Nat.le_of_ble_eq_true rfl⟩ ⟨Nat.zero_le _, Nat.zero_le _⟩ (Nat.le_of_ble_eq_true rfl) dX3_joinNodes_58 ?_
      obtain ⟨g7, h⟩ := aw_gde h
      refine aw_iast (pc := 61) xA_36 g7 dX3_joinNodes_61 ?_
      refine aw_nmS (fun s8 e_s8 => ?_)
      replace h := aw_lte h s8 e_s8
      refine aw_aload_n (pc := 62) (q := 0) dX3_joinNodes_62 rfl ?_
      refine aw_getC (pc := 63) fd_X3_43.r xA_24 rfl dX3_joinNodes_63 ?_
      refine aw_iload_n (pc := 66) (q := 1) dX3_joinNodes_66 rfl ?_
      refine aw_aload_n (pc := 67) (q := 0) dX3_joinNodes_67 rfl ?_
      refine aw_getC (pc := 68) fd_X3_37.r xA_24 rfl dX3_joinNodes_68 ?_
      refine aw_iload_n (pc := 71) (q := 1) dX3_joinNodes_71 rfl ?_
      obtain ⟨g9, h⟩ := aw_gde h
      refine aw_iald (pc := 72) xA_35 g9 dX3_joinNodes_72 ?_
      refine aw_aload_n (pc := 73) (q := 0) dX3_joinNodes_73 rfl ?_
      refine aw_getC (pc := 74) fd_X3_34.r xA_24 rfl dX3_joinNodes_74 ?_
      refine aw_iload_n (pc := 77) (q := 1) dX3_joinNodes_77 rfl ?_
      obtain ⟨g10, h⟩ := aw_gde h
      refine aw_iald (pc := 78) xA_34 g10 dX3_joinNodes_78 ?_
      refine aw_icmp_ne (pc := 79) (tgt := 86) dX3_joinNodes_79 (by decide) (fun c11 => ?_) (fun c11 => ?_)
      · replace h := aw_ifn c11 h
        refine aw_aload_n (pc := 86) (q := 0) dX3_joinNodes_86 rfl ?_
        refine aw_aload_n (pc := 87) (q := 0) dX3_joinNodes_87 rfl ?_
        refine aw_getC (pc := 88) fd_X3_37.r xA_24 rfl dX3_joinNodes_88 ?_
        refine aw_iload_n (pc := 91) (q := 1) dX3_joinNodes_91 rfl ?_
        obtain ⟨g12, h⟩ := aw_gde h
        refine aw_iald (pc := 92) xA_35 g12 dX3_joinNodes_92 ?_
        obtain ⟨r13, e14, h⟩ := aw_bde h
        refine aw_cV1 (pc := 93) [.int ((s8.1 35 v1.toNatClampNeg))] (c_Gr_startOf e14) yy_Gr_startOf.1 wm_415 yy_Gr_startOf.2.1 yy_Gr_startOf.2.2 xA_24 ⟨_, _, rfl⟩ rfl ⟨Nat.le_of_ble_eq_true rfl, Nat.le_of_ble_eq_true rfl⟩ ⟨Nat.zero_le _, Nat.zero_le _⟩ (Nat.le_of_ble_eq_true rfl) dX3_joinNodes_93 ?_
        exact t_Gr_joinNodes_J96 h hz
      · replace h := aw_ifp c11 h
        refine aw_iconst (pc := 82) (v := -1) dX3_joinNodes_82 (by decide) ?_
        refine aw_goto (pc := 83) (tgt := 96) dX3_joinNodes_83 (by decide) ?_
        exact t_Gr_joinNodes_J96 h hz
    · replace h := aw_ifn c3 h
      refine aw_aload_n (pc := 20) (q := 0) dX3_joinNodes_20 rfl ?_
      refine aw_getC (pc := 21) fd_X3_40.r xA_24 rfl dX3_joinNodes_21 ?_
      refine aw_iload_n (pc := 24) (q := 1) dX3_joinNodes_24 rfl ?_
      refine aw_iload_n (pc := 25) (q := 1) dX3_joinNodes_25 rfl ?_
      refine aw_iconst (pc := 26) (v := 1) dX3_joinNodes_26 (by decide) ?_
      refine aw_iadd (pc := 27) dX3_joinNodes_27 ?_
      refine aw_aload_n (pc := 28) (q := 0) dX3_joinNodes_28 rfl ?_
      refine aw_getI (pc := 29) fd_X3_67.r xA_24 rfl dX3_joinNodes_29 ?_
      refine aw_icmp_ge (pc := 32) (tgt := 41) dX3_joinNodes_32 (by decide) (fun c18 => ?_) (fun c18 => ?_)
      · replace h := aw_ifp c18 h
        refine aw_iconst (pc := 41) (v := -1) dX3_joinNodes_41 (by decide) ?_
        exact t_Gr_joinNodes_J42 h hz
      · replace h := aw_ifn c18 h
        refine aw_iload_n (pc := 35) (q := 1) dX3_joinNodes_35 rfl ?_
        refine aw_iconst (pc := 36) (v := 1) dX3_joinNodes_36 (by decide) ?_
        refine aw_iadd (pc := 37) dX3_joinNodes_37 ?_
        refine aw_goto (pc := 38) (tgt := 42) dX3_joinNodes_38 (by decide) ?_
        exact t_Gr_joinNodes_J42 h hz
set_option maxRecDepth 100000 in
set_option maxHeartbeats 4000000 in
theorem t_Gr_joinNodes {l : Launch} {G : aw_G} {E : aw_E} {σ : aw_S} {t : aw_S} (h : m_Gr_joinNodes σ = some t) (hE : E = (none, xA, t)) : aw_W l M_Gr_joinNodes G B_Gr_joinNodes E 0 [(0, .ref 24)] [] xA σ 0 0 := by
  unfold m_Gr_joinNodes at h
  refine aw_iconst (pc := 0) (v := 0) dX3_joinNodes_0 (by decide) ?_
  refine aw_istore_n (pc := 1) [(1, .int ((0 : Int32))), (0, .ref 24)] dX3_joinNodes_1 (by decide) rfl ?_
  obtain ⟨x21, hl22, h⟩ := aw_bde h
  have K23 : z_Gr_joinNodes_Y2 l G E x21 := by
    show aw_W l M_Gr_joinNodes G B_Gr_joinNodes E 103 [] [] xA x21 0 0
    cases h
    subst hE
    exact aw_vret rfl ⟨Nat.zero_le _, Nat.zero_le _⟩ dX3_joinNodes_103
  refine aw_sub [1, 0] rfl ?_
  show z_Gr_joinNodes_X2 l G E (((0 : Int32), σ))
  exact aw_lp_X (Xp := z_Gr_joinNodes_X2 l G E) (Y := z_Gr_joinNodes_Y2 l G E) hl22 K23 (fun s t hf hz => t_Gr_joinNodes_B2 hf hz)
theorem c_Gr_joinNodes {l : Launch} {G : aw_G} {σ : aw_S} {t : aw_S} (h : m_Gr_joinNodes σ = some t) : aw_Ct l yX3_joinNodes M_Gr_joinNodes G B_Gr_joinNodes [.ref 24] xA σ (none, xA, t) := aw_Ct_of (by decide) rfl (fun h => by cases h) (Nat.le_of_ble_eq_true rfl) (t_Gr_joinNodes h rfl)
/-! LateMover$Graph.isNode(I)Z -/
set_option maxRecDepth 100000 in
set_option maxHeartbeats 4000000 in
theorem t_Gr_isNode {l : Launch} {G : aw_G} {E : aw_E} {σ : aw_S} {p1 : Int32} {t : Int32} (h : m_Gr_isNode σ p1 = some t) (hE : E = (some (.int t), xA, σ)) : aw_W l M_Gr_isNode G B_Gr_isNode E 0 [(0, .ref 24), (1, .int p1)] [] xA σ 0 0 := by
  unfold m_Gr_isNode at h
  refine aw_iload_n (pc := 0) (q := 1) dX3_isNode_0 rfl ?_
  refine aw_if_lt (pc := 1) (tgt := 23) dX3_isNode_1 (by decide) (fun c1 => ?_) (fun c1 => ?_)
  · replace h := aw_ifp c1 h
    refine aw_iconst (pc := 23) (v := 0) dX3_isNode_23 (by decide) ?_
    cases h
    subst hE
    exact aw_iret (v := (0 : Int32)) rfl aw_n0 ⟨Nat.zero_le _, Nat.zero_le _⟩ dX3_isNode_24
  · replace h := aw_ifn c1 h
    refine aw_iload_n (pc := 4) (q := 1) dX3_isNode_4 rfl ?_
    refine aw_aload_n (pc := 5) (q := 0) dX3_isNode_5 rfl ?_
    refine aw_getI (pc := 6) fd_X3_67.r xA_24 rfl dX3_isNode_6 ?_
    refine aw_icmp_ge (pc := 9) (tgt := 23) dX3_isNode_9 (by decide) (fun c2 => ?_) (fun c2 => ?_)
    · replace h := aw_ifp c2 h
      refine aw_iconst (pc := 23) (v := 0) dX3_isNode_23 (by decide) ?_
      cases h
      subst hE
      exact aw_iret (v := (0 : Int32)) rfl aw_n0 ⟨Nat.zero_le _, Nat.zero_le _⟩ dX3_isNode_24
    · replace h := aw_ifn c2 h
      refine aw_iload_n (pc := 12) (q := 1) dX3_isNode_12 rfl ?_
      refine aw_sipush (pc := 13) (v := 128) dX3_isNode_13 (by decide) ?_
      refine aw_icmp_ge (pc := 16) (tgt := 23) dX3_isNode_16 (by decide) (fun c3 => ?_) (fun c3 => ?_)
      · replace h := aw_ifp c3 h
        refine aw_iconst (pc := 23) (v := 0) dX3_isNode_23 (by decide) ?_
        cases h
        subst hE
        exact aw_iret (v := (0 : Int32)) rfl aw_n0 ⟨Nat.zero_le _, Nat.zero_le _⟩ dX3_isNode_24
      · replace h := aw_ifn c3 h
        refine aw_iconst (pc := 19) (v := 1) dX3_isNode_19 (by decide) ?_
        refine aw_goto (pc := 20) (tgt := 24) dX3_isNode_20 (by decide) ?_
        cases h
        subst hE
        exact aw_iret (v := (1 : Int32)) rfl aw_n1 ⟨Nat.zero_le _, Nat.zero_le _⟩ dX3_isNode_24
theorem c_Gr_isNode {l : Launch} {G : aw_G} {σ : aw_S} {p1 : Int32} {t : Int32} (h : m_Gr_isNode σ p1 = some t) : aw_Ct l yX3_isNode M_Gr_isNode G B_Gr_isNode [.ref 24, .int p1] xA σ (some (.int t), xA, σ) := aw_Ct_of (by decide) rfl (fun h => by cases h) (Nat.le_of_ble_eq_true rfl) (t_Gr_isNode h rfl)
/-! LateMover.oneIf(Z)I -/
set_option maxRecDepth 100000 in
set_option maxHeartbeats 4000000 in
theorem t_Mo_oneIf {l : Launch} {G : aw_G} {E : aw_E} {σ : aw_S} {p0 : Int32} {t : Int32} (h : m_Mo_oneIf σ p0 = some t) (hE : E = (some (.int t), xA, σ)) : aw_W l M_Mo_oneIf G B_Mo_oneIf E 0 [(0, .int p0)] [] xA σ 0 0 := by
  unfold m_Mo_oneIf at h
  refine aw_iload_n (pc := 0) (q := 0) dX11_oneIf_0 rfl ?_
  refine aw_if_eq (pc := 1) (tgt := 8) dX11_oneIf_1 (by decide) (fun c1 => ?_) (fun c1 => ?_)
  · replace h := aw_ifp c1 h
    refine aw_iconst (pc := 8) (v := 0) dX11_oneIf_8 (by decide) ?_
    cases h
    subst hE
    exact aw_iret (v := (0 : Int32)) rfl aw_ni ⟨Nat.zero_le _, Nat.zero_le _⟩ dX11_oneIf_9
  · replace h := aw_ifn c1 h
    refine aw_iconst (pc := 4) (v := 1) dX11_oneIf_4 (by decide) ?_
    refine aw_goto (pc := 5) (tgt := 9) dX11_oneIf_5 (by decide) ?_
    cases h
    subst hE
    exact aw_iret (v := (1 : Int32)) rfl aw_ni ⟨Nat.zero_le _, Nat.zero_le _⟩ dX11_oneIf_9
theorem c_Mo_oneIf {l : Launch} {G : aw_G} {σ : aw_S} {p0 : Int32} {t : Int32} (h : m_Mo_oneIf σ p0 = some t) : aw_Ct l yX11_oneIf M_Mo_oneIf G B_Mo_oneIf [.int p0] xA σ (some (.int t), xA, σ) := aw_Ct_of (by decide) rfl (fun h => by cases h) (Nat.le_of_ble_eq_true rfl) (t_Mo_oneIf h rfl)
/-! LateMover$Graph.edgesFrom(I)I -/
set_option maxRecDepth 100000 in
set_option maxHeartbeats 4000000 in
theorem t_Gr_edgesFrom_J41 {l : Launch} {G : aw_G} {E : aw_E} {σ : aw_S} {k0 : Int32} {k1 : Int32} {t : Int32} (h : m_Gr_edgesFrom_J41 σ k0 k1 = some t) (hE : E = (some (.int t), xA, σ)) : aw_W l M_Gr_edgesFrom G B_Gr_edgesFrom E 41 [] [.int k1, .int k0] xA σ 0 0 := by
  unfold m_Gr_edgesFrom_J41 at h
  obtain ⟨r10, e11, h⟩ := aw_bde h
  refine aw_cN1 (pc := 41) [.int k1] (c_Mo_oneIf e11) yy_Mo_oneIf.1 nm_X3_125 yy_Mo_oneIf.2 rfl ⟨Nat.le_of_ble_eq_true rfl, Nat.le_of_ble_eq_true rfl⟩ ⟨Nat.zero_le _, Nat.zero_le _⟩ (Nat.le_of_ble_eq_true rfl) dX3_edgesFrom_41 ?_
  refine aw_iadd (pc := 44) dX3_edgesFrom_44 ?_
  refine aw_goto (pc := 45) (tgt := 49) dX3_edgesFrom_45 (by decide) ?_
  cases h
  subst hE
  exact aw_iret (v := (k0 + r10)) rfl aw_ni ⟨Nat.zero_le _, Nat.zero_le _⟩ dX3_edgesFrom_49
set_option maxRecDepth 100000 in
set_option maxHeartbeats 4000000 in
theorem t_Gr_edgesFrom_J23 {l : Launch} {G : aw_G} {E : aw_E} {σ : aw_S} {v1 : Int32} {k0 : Int32} {t : Int32} (h : m_Gr_edgesFrom_J23 σ v1 k0 = some t) (hE : E = (some (.int t), xA, σ)) : aw_W l M_Gr_edgesFrom G B_Gr_edgesFrom E 23 [(0, .ref 24), (1, .int v1)] [.int k0] xA σ 0 0 := by
  unfold m_Gr_edgesFrom_J23 at h
  obtain ⟨r6, e7, h⟩ := aw_bde h
  refine aw_cN1 (pc := 23) [.int k0] (c_Mo_oneIf e7) yy_Mo_oneIf.1 nm_X3_125 yy_Mo_oneIf.2 rfl ⟨Nat.le_of_ble_eq_true rfl, Nat.le_of_ble_eq_true rfl⟩ ⟨Nat.zero_le _, Nat.zero_le _⟩ (Nat.le_of_ble_eq_true rfl) dX3_edgesFrom_23 ?_
  refine aw_aload_n (pc := 26) (q := 0) dX3_edgesFrom_26 rfl ?_
  refine aw_getC (pc := 27) fd_X3_43.r xA_24 rfl dX3_edgesFrom_27 ?_
  refine aw_iload_n (pc := 30) (q := 1) dX3_edgesFrom_30 rfl ?_
  obtain ⟨g8, h⟩ := aw_gde h
  refine aw_iald (pc := 31) xA_37 g8 dX3_edgesFrom_31 ?_
  refine aw_iconst (pc := 32) (v := -1) dX3_edgesFrom_32 (by decide) ?_
  refine aw_icmp_eq (pc := 33) (tgt := 40) dX3_edgesFrom_33 (by decide) (fun c9 => ?_) (fun c9 => ?_)
  · replace h := aw_ifp c9 h
    refine aw_iconst (pc := 40) (v := 0) dX3_edgesFrom_40 (by decide) ?_
    refine aw_sub [] rfl ?_
    exact t_Gr_edgesFrom_J41 h hE
  · replace h := aw_ifn c9 h
    refine aw_iconst (pc := 36) (v := 1) dX3_edgesFrom_36 (by decide) ?_
    refine aw_goto (pc := 37) (tgt := 41) dX3_edgesFrom_37 (by decide) ?_
    refine aw_sub [] rfl ?_
    exact t_Gr_edgesFrom_J41 h hE
set_option maxRecDepth 100000 in
set_option maxHeartbeats 4000000 in
theorem t_Gr_edgesFrom {l : Launch} {G : aw_G} {E : aw_E} {σ : aw_S} {p1 : Int32} {t : Int32} (h : m_Gr_edgesFrom σ p1 = some t) (hE : E = (some (.int t), xA, σ)) : aw_W l M_Gr_edgesFrom G B_Gr_edgesFrom E 0 [(0, .ref 24), (1, .int p1)] [] xA σ 0 0 := by
  unfold m_Gr_edgesFrom at h
  refine aw_aload_n (pc := 0) (q := 0) dX3_edgesFrom_0 rfl ?_
  refine aw_iload_n (pc := 1) (q := 1) dX3_edgesFrom_1 rfl ?_
  obtain ⟨r1, e2, h⟩ := aw_bde h
  refine aw_cV1 (pc := 2) [.int p1] (c_Gr_isNode e2) yy_Gr_isNode.1 wm_427 yy_Gr_isNode.2.1 yy_Gr_isNode.2.2 xA_24 ⟨_, _, rfl⟩ rfl ⟨Nat.le_of_ble_eq_true rfl, Nat.le_of_ble_eq_true rfl⟩ ⟨Nat.zero_le _, Nat.zero_le _⟩ (Nat.le_of_ble_eq_true rfl) dX3_edgesFrom_2 ?_
  refine aw_if_eq (pc := 5) (tgt := 48) dX3_edgesFrom_5 (by decide) (fun c3 => ?_) (fun c3 => ?_)
  · replace h := aw_ifp c3 h
    refine aw_iconst (pc := 48) (v := 0) dX3_edgesFrom_48 (by decide) ?_
    cases h
    subst hE
    exact aw_iret (v := (0 : Int32)) rfl aw_ni ⟨Nat.zero_le _, Nat.zero_le _⟩ dX3_edgesFrom_49
  · replace h := aw_ifn c3 h
    refine aw_aload_n (pc := 8) (q := 0) dX3_edgesFrom_8 rfl ?_
    refine aw_getC (pc := 9) fd_X3_40.r xA_24 rfl dX3_edgesFrom_9 ?_
    refine aw_iload_n (pc := 12) (q := 1) dX3_edgesFrom_12 rfl ?_
    obtain ⟨g4, h⟩ := aw_gde h
    refine aw_iald (pc := 13) xA_36 g4 dX3_edgesFrom_13 ?_
    refine aw_iconst (pc := 14) (v := -1) dX3_edgesFrom_14 (by decide) ?_
    refine aw_icmp_eq (pc := 15) (tgt := 22) dX3_edgesFrom_15 (by decide) (fun c5 => ?_) (fun c5 => ?_)
    · replace h := aw_ifp c5 h
      refine aw_iconst (pc := 22) (v := 0) dX3_edgesFrom_22 (by decide) ?_
      exact t_Gr_edgesFrom_J23 h hE
    · replace h := aw_ifn c5 h
      refine aw_iconst (pc := 18) (v := 1) dX3_edgesFrom_18 (by decide) ?_
      refine aw_goto (pc := 19) (tgt := 23) dX3_edgesFrom_19 (by decide) ?_
      exact t_Gr_edgesFrom_J23 h hE
theorem c_Gr_edgesFrom {l : Launch} {G : aw_G} {σ : aw_S} {p1 : Int32} {t : Int32} (h : m_Gr_edgesFrom σ p1 = some t) : aw_Ct l yX3_edgesFrom M_Gr_edgesFrom G B_Gr_edgesFrom [.ref 24, .int p1] xA σ (some (.int t), xA, σ) := aw_Ct_of (by decide) rfl (fun h => by cases h) (Nat.le_of_ble_eq_true rfl) (t_Gr_edgesFrom h rfl)
/-! LateMover$Graph.comingTo(I)I -/
def z_Gr_comingTo_X4 (l : Launch) (G : aw_G) (E : aw_E) (σ : aw_S) (v1 : Int32) (s : Int32 × Int32) : Prop := aw_W l M_Gr_comingTo G B_Gr_comingTo E 4 [(0, .ref 24), (1, .int v1), (2, .int s.1), (3, .int s.2)] [] xA σ 0 0
def z_Gr_comingTo_Y4 (l : Launch) (G : aw_G) (E : aw_E) (σ : aw_S) (v1 : Int32) (x : (Int32)) : Prop := aw_W l M_Gr_comingTo G B_Gr_comingTo E 49 [(2, .int x)] [] xA σ 0 0
set_option maxRecDepth 100000 in
set_option maxHeartbeats 4000000 in
theorem t_Gr_comingTo_J38 {l : Launch} {G : aw_G} {E : aw_E} {σ : aw_S} {v1 : Int32} {v3 : Int32} {k0 : Int32} {k1 : Int32} {t : (Int32) ⊕ (Int32 × Int32)} (h : m_Gr_comingTo_J38 σ v1 v3 k0 k1 = some t) (hz : Sum.elim (z_Gr_comingTo_Y4 l G E σ v1) (z_Gr_comingTo_X4 l G E σ v1) t) : aw_W l M_Gr_comingTo G B_Gr_comingTo E 38 [(0, .ref 24), (1, .int v1), (3, .int v3)] [.int k1, .int k0] xA σ 0 0 := by
  unfold m_Gr_comingTo_J38 at h
  obtain ⟨r4, e5, h⟩ := aw_bde h
  refine aw_cN1 (pc := 38) [.int k1] (c_Mo_oneIf e5) yy_Mo_oneIf.1 nm_X3_125 yy_Mo_oneIf.2 rfl ⟨Nat.le_of_ble_eq_true rfl, Nat.le_of_ble_eq_true rfl⟩ ⟨Nat.zero_le _, Nat.zero_le _⟩ (Nat.le_of_ble_eq_true rfl) dX3_comingTo_38 ?_
  refine aw_iadd (pc := 41) dX3_comingTo_41 ?_
  refine aw_nmI (fun x6 e_x6 => ?_)
  replace h := aw_lte h x6 e_x6
  refine aw_istore_n (pc := 42) [(2, .int x6), (0, .ref 24), (1, .int v1), (3, .int v3)] dX3_comingTo_42 (by decide) rfl ?_
  obtain ⟨x7, e_x7⟩ : ∃ z, z = (v3 + (1 : Int32)) := ⟨_, rfl⟩
  replace h := aw_lte h x7 e_x7
  refine aw_iinc (pc := 43) (q := 3) (v := x7) [(3, .int x7), (2, .int x6), (0, .ref 24), (1, .int v1)] dX3_comingTo_43 rfl e_x7.symm (by decide) rfl ?_
  refine aw_goto (pc := 46) (tgt := 4) dX3_comingTo_46 (by decide) ?_
  refine aw_sub [2, 3, 1, 0] rfl ?_
  cases h
  exact hz
set_option maxRecDepth 100000 in
set_option maxHeartbeats 4000000 in
theorem t_Gr_comingTo_B4 {l : Launch} {G : aw_G} {E : aw_E} {σ : aw_S} {v1 : Int32} {v2 : Int32} {v3 : Int32} {t : (Int32) ⊕ (Int32 × Int32)} (h : m_Gr_comingTo_B4 σ v1 v2 v3 = some t) (hz : Sum.elim (z_Gr_comingTo_Y4 l G E σ v1) (z_Gr_comingTo_X4 l G E σ v1) t) : aw_W l M_Gr_comingTo G B_Gr_comingTo E 4 [(0, .ref 24), (1, .int v1), (2, .int v2), (3, .int v3)] [] xA σ 0 0 := by
  unfold m_Gr_comingTo_B4 at h
  refine aw_iload_n (pc := 4) (q := 3) dX3_comingTo_4 rfl ?_
  refine aw_aload_n (pc := 5) (q := 0) dX3_comingTo_5 rfl ?_
  refine aw_getI (pc := 6) fd_X3_67.r xA_24 rfl dX3_comingTo_6 ?_
  refine aw_icmp_ge (pc := 9) (tgt := 49) dX3_comingTo_9 (by decide) (fun c1 => ?_) (fun c1 => ?_)
  · replace h := aw_ifp c1 h
    refine aw_sub [2] rfl ?_
    cases h
    exact hz
  · replace h := aw_ifn c1 h
    refine aw_iload_n (pc := 12) (q := 2) dX3_comingTo_12 rfl ?_
    refine aw_aload_n (pc := 13) (q := 0) dX3_comingTo_13 rfl ?_
    refine aw_getC (pc := 14) fd_X3_40.r xA_24 rfl dX3_comingTo_14 ?_
    refine aw_iload_n (pc := 17) (q := 3) dX3_comingTo_17 rfl ?_
    obtain ⟨g2, h⟩ := aw_gde h
    refine aw_iald (pc := 18) xA_36 g2 dX3_comingTo_18 ?_
    refine aw_iload_n (pc := 19) (q := 1) dX3_comingTo_19 rfl ?_
    refine aw_icmp_eq (pc := 20) (tgt := 33) dX3_comingTo_20 (by decide) (fun c3 => ?_) (fun c3 => ?_)
    · replace h := aw_ifp c3 h
      refine aw_iconst (pc := 33) (v := 1) dX3_comingTo_33 (by decide) ?_
      refine aw_goto (pc := 34) (tgt := 38) dX3_comingTo_34 (by decide) ?_
      refine aw_sub [0, 1, 3] rfl ?_
      exact t_Gr_comingTo_J38 h hz
    · replace h := aw_ifn c3 h
      refine aw_aload_n (pc := 23) (q := 0) dX3_comingTo_23 rfl ?_
      refine aw_getC (pc := 24) fd_X3_43.r xA_24 rfl dX3_comingTo_24 ?_
      refine aw_iload_n (pc := 27) (q := 3) dX3_comingTo_27 rfl ?_
      obtain ⟨g8, h⟩ := aw_gde h
      refine aw_iald (pc := 28) xA_37 g8 dX3_comingTo_28 ?_
      refine aw_iload_n (pc := 29) (q := 1) dX3_comingTo_29 rfl ?_
      refine aw_icmp_ne (pc := 30) (tgt := 37) dX3_comingTo_30 (by decide) (fun c9 => ?_) (fun c9 => ?_)
      · replace h := aw_ifn c9 h
        refine aw_iconst (pc := 37) (v := 0) dX3_comingTo_37 (by decide) ?_
        refine aw_sub [0, 1, 3] rfl ?_
        exact t_Gr_comingTo_J38 h hz
      · replace h := aw_ifp c9 h
        refine aw_iconst (pc := 33) (v := 1) dX3_comingTo_33 (by decide) ?_
        refine aw_goto (pc := 34) (tgt := 38) dX3_comingTo_34 (by decide) ?_
        refine aw_sub [0, 1, 3] rfl ?_
        exact t_Gr_comingTo_J38 h hz
set_option maxRecDepth 100000 in
set_option maxHeartbeats 4000000 in
theorem t_Gr_comingTo {l : Launch} {G : aw_G} {E : aw_E} {σ : aw_S} {p1 : Int32} {t : Int32} (h : m_Gr_comingTo σ p1 = some t) (hE : E = (some (.int t), xA, σ)) : aw_W l M_Gr_comingTo G B_Gr_comingTo E 0 [(0, .ref 24), (1, .int p1)] [] xA σ 0 0 := by
  unfold m_Gr_comingTo at h
  refine aw_iconst (pc := 0) (v := 0) dX3_comingTo_0 (by decide) ?_
  refine aw_istore_n (pc := 1) [(2, .int ((0 : Int32))), (0, .ref 24), (1, .int p1)] dX3_comingTo_1 (by decide) rfl ?_
  refine aw_iconst (pc := 2) (v := 0) dX3_comingTo_2 (by decide) ?_
  refine aw_istore_n (pc := 3) [(3, .int ((0 : Int32))), (2, .int ((0 : Int32))), (0, .ref 24), (1, .int p1)] dX3_comingTo_3 (by decide) rfl ?_
  obtain ⟨x10, hl11, h⟩ := aw_bde h
  have K12 : z_Gr_comingTo_Y4 l G E σ p1 x10 := by
    show aw_W l M_Gr_comingTo G B_Gr_comingTo E 49 [(2, .int x10)] [] xA σ 0 0
    refine aw_iload_n (pc := 49) (q := 0) dX3_comingTo_49 rfl ?_
    cases h
    subst hE
    exact aw_iret (v := _) rfl aw_ni ⟨Nat.zero_le _, Nat.zero_le _⟩ dX3_comingTo_50
  refine aw_sub [2, 3, 1, 0] rfl ?_
  show z_Gr_comingTo_X4 l G E σ p1 (((0 : Int32), (0 : Int32)))
  exact aw_lp_X (Xp := z_Gr_comingTo_X4 l G E σ p1) (Y := z_Gr_comingTo_Y4 l G E σ p1) hl11 K12 (fun s t hf hz => t_Gr_comingTo_B4 hf hz)
theorem c_Gr_comingTo {l : Launch} {G : aw_G} {σ : aw_S} {p1 : Int32} {t : Int32} (h : m_Gr_comingTo σ p1 = some t) : aw_Ct l yX3_comingTo M_Gr_comingTo G B_Gr_comingTo [.ref 24, .int p1] xA σ (some (.int t), xA, σ) := aw_Ct_of (by decide) rfl (fun h => by cases h) (Nat.le_of_ble_eq_true rfl) (t_Gr_comingTo h rfl)
/-! LateMover$Graph.splitIfOthersCome(I)I -/
set_option maxRecDepth 100000 in
set_option maxHeartbeats 4000000 in
theorem t_Gr_splitIfOthersCome {l : Launch} {G : aw_G} {E : aw_E} {σ : aw_S} {p1 : Int32} {t : (Int32 × aw_S)} (h : m_Gr_splitIfOthersCome σ p1 = some t) (hE : E = (some (.int t.1), xA, t.2)) : aw_W l M_Gr_splitIfOthersCome G B_Gr_splitIfOthersCome E 0 [(0, .ref 24), (1, .int p1)] [] xA σ 0 0 := by
  unfold m_Gr_splitIfOthersCome at h
  refine aw_aload_n (pc := 0) (q := 0) dX3_splitIfOthersCome_0 rfl ?_
  refine aw_iload_n (pc := 1) (q := 1) dX3_splitIfOthersCome_1 rfl ?_
  obtain ⟨r1, e2, h⟩ := aw_bde h
  refine aw_cV1 (pc := 2) [.int p1] (c_Gr_comingTo e2) yy_Gr_comingTo.1 wm_437 yy_Gr_comingTo.2.1 yy_Gr_comingTo.2.2 xA_24 ⟨_, _, rfl⟩ rfl ⟨Nat.le_of_ble_eq_true rfl, Nat.le_of_ble_eq_true rfl⟩ ⟨Nat.zero_le _, Nat.zero_le _⟩ (Nat.le_of_ble_eq_true rfl) dX3_splitIfOthersCome_2 ?_
  refine aw_iconst (pc := 5) (v := 2) dX3_splitIfOthersCome_5 (by decide) ?_
  refine aw_icmp_ge (pc := 6) (tgt := 11) dX3_splitIfOthersCome_6 (by decide) (fun c3 => ?_) (fun c3 => ?_)
  · replace h := aw_ifp c3 h
    refine aw_aload_n (pc := 11) (q := 0) dX3_splitIfOthersCome_11 rfl ?_
    refine aw_iconst (pc := 12) (v := 0) dX3_splitIfOthersCome_12 (by decide) ?_
    obtain ⟨r4, s6, e5, h⟩ := aw_bd2e h
    refine aw_cV1 (pc := 13) [.int ((0 : Int32))] (c_Gr_add e5) yy_Gr_add.1 wm_381 yy_Gr_add.2.1 yy_Gr_add.2.2 xA_24 ⟨_, _, rfl⟩ rfl ⟨Nat.le_of_ble_eq_true rfl, Nat.le_of_ble_eq_true rfl⟩ ⟨Nat.zero_le _, Nat.zero_le _⟩ (Nat.le_of_ble_eq_true rfl) dX3_splitIfOthersCome_13 ?_
    refine aw_istore_n (pc := 16) [(2, .int r4), (0, .ref 24), (1, .int p1)] dX3_splitIfOthersCome_16 (by decide) rfl ?_
    refine aw_iload_n (pc := 17) (q := 0) dX3_splitIfOthersCome_17 rfl ?_
    refine aw_iconst (pc := 18) (v := -1) dX3_splitIfOthersCome_18 (by decide) ?_
    refine aw_icmp_ne (pc := 19) (tgt := 24) dX3_splitIfOthersCome_19 (by decide) (fun c7 => ?_) (fun c7 => ?_)
    · replace h := aw_ifn c7 h
      refine aw_aload_n (pc := 24) (q := 1) dX3_splitIfOthersCome_24 rfl ?_
      refine aw_getC (pc := 25) fd_X3_40.r xA_24 rfl dX3_splitIfOthersCome_25 ?_
      refine aw_iload_n (pc := 28) (q := 0) dX3_splitIfOthersCome_28 rfl ?_
      refine aw_iload_n (pc := 29) (q := 2) dX3_splitIfOthersCome_29 rfl ?_
      obtain ⟨g8, h⟩ := aw_gde h
      refine aw_iast (pc := 30) xA_36 g8 dX3_splitIfOthersCome_30 ?_
      refine aw_nmS (fun s9 e_s9 => ?_)
      replace h := aw_lte h s9 e_s9
      refine aw_iload_n (pc := 31) (q := 0) dX3_splitIfOthersCome_31 rfl ?_
      cases h
      subst hE
      exact aw_iret (v := _) rfl aw_ni ⟨Nat.zero_le _, Nat.zero_le _⟩ dX3_splitIfOthersCome_32
    · replace h := aw_ifp c7 h
      refine aw_iload_n (pc := 22) (q := 2) dX3_splitIfOthersCome_22 rfl ?_
      cases h
      subst hE
      exact aw_iret (v := _) rfl aw_ni ⟨Nat.zero_le _, Nat.zero_le _⟩ dX3_splitIfOthersCome_23
  · replace h := aw_ifn c3 h
    refine aw_iload_n (pc := 9) (q := 1) dX3_splitIfOthersCome_9 rfl ?_
    cases h
    subst hE
    exact aw_iret (v := _) rfl aw_ni ⟨Nat.zero_le _, Nat.zero_le _⟩ dX3_splitIfOthersCome_10
theorem c_Gr_splitIfOthersCome {l : Launch} {G : aw_G} {σ : aw_S} {p1 : Int32} {t : (Int32 × aw_S)} (h : m_Gr_splitIfOthersCome σ p1 = some t) : aw_Ct l yX3_splitIfOthersCome M_Gr_splitIfOthersCome G B_Gr_splitIfOthersCome [.ref 24, .int p1] xA σ (some (.int t.1), xA, t.2) := aw_Ct_of (by decide) rfl (fun h => by cases h) (Nat.le_of_ble_eq_true rfl) (t_Gr_splitIfOthersCome h rfl)
/-! LateMover$Graph.splitEdges()V -/
def z_Gr_splitEdges_X7 (l : Launch) (G : aw_G) (E : aw_E) (v1 : Int32) (s : Int32 × aw_S) : Prop := aw_W l M_Gr_splitEdges G B_Gr_splitEdges E 7 [(0, .ref 24), (1, .int v1), (2, .int s.1)] [] xA s.2 0 0
def z_Gr_splitEdges_Y7 (l : Launch) (G : aw_G) (E : aw_E) (v1 : Int32) (x : (aw_S)) : Prop := aw_W l M_Gr_splitEdges G B_Gr_splitEdges E 59 [] [] xA x 0 0
set_option maxRecDepth 100000 in
set_option maxHeartbeats 4000000 in
theorem t_Gr_splitEdges_J53 {l : Launch} {G : aw_G} {E : aw_E} {σ : aw_S} {v1 : Int32} {v2 : Int32} {t : (aw_S) ⊕ (Int32 × aw_S)} (h : m_Gr_splitEdges_J53 σ v1 v2 = some t) (hz : Sum.elim (z_Gr_splitEdges_Y7 l G E v1) (z_Gr_splitEdges_X7 l G E v1) t) : aw_W l M_Gr_splitEdges G B_Gr_splitEdges E 53 [(0, .ref 24), (1, .int v1), (2, .int v2)] [] xA σ 0 0 := by
  unfold m_Gr_splitEdges_J53 at h
  obtain ⟨x6, e_x6⟩ : ∃ z, z = (v2 + (1 : Int32)) := ⟨_, rfl⟩
  replace h := aw_lte h x6 e_x6
  refine aw_iinc (pc := 53) (q := 2) (v := x6) [(2, .int x6), (0, .ref 24), (1, .int v1)] dX3_splitEdges_53 rfl e_x6.symm (by decide) rfl ?_
  refine aw_goto (pc := 56) (tgt := 7) dX3_splitEdges_56 (by decide) ?_
  refine aw_sub [1, 2, 0] rfl ?_
  cases h
  exact hz
set_option maxRecDepth 100000 in
set_option maxHeartbeats 4000000 in
theorem t_Gr_splitEdges_B7 {l : Launch} {G : aw_G} {E : aw_E} {σ : aw_S} {v1 : Int32} {v2 : Int32} {t : (aw_S) ⊕ (Int32 × aw_S)} (h : m_Gr_splitEdges_B7 σ v1 v2 = some t) (hz : Sum.elim (z_Gr_splitEdges_Y7 l G E v1) (z_Gr_splitEdges_X7 l G E v1) t) : aw_W l M_Gr_splitEdges G B_Gr_splitEdges E 7 [(0, .ref 24), (1, .int v1), (2, .int v2)] [] xA σ 0 0 := by
  unfold m_Gr_splitEdges_B7 at h
  refine aw_iload_n (pc := 7) (q := 2) dX3_splitEdges_7 rfl ?_
  refine aw_iload_n (pc := 8) (q := 1) dX3_splitEdges_8 rfl ?_
  refine aw_icmp_ge (pc := 9) (tgt := 59) dX3_splitEdges_9 (by decide) (fun c2 => ?_) (fun c2 => ?_)
  · replace h := aw_ifp c2 h
    refine aw_sub [] rfl ?_
    cases h
    exact hz
  · replace h := aw_ifn c2 h
    refine aw_aload_n (pc := 12) (q := 0) dX3_splitEdges_12 rfl ?_
    refine aw_iload_n (pc := 13) (q := 2) dX3_splitEdges_13 rfl ?_
    obtain ⟨r3, e4, h⟩ := aw_bde h
    refine aw_cV1 (pc := 14) [.int v2] (c_Gr_edgesFrom e4) yy_Gr_edgesFrom.1 wm_423 yy_Gr_edgesFrom.2.1 yy_Gr_edgesFrom.2.2 xA_24 ⟨_, _, rfl⟩ rfl ⟨Nat.le_of_ble_eq_true rfl, Nat.le_of_ble_eq_true rfl⟩ ⟨Nat.zero_le _, Nat.zero_le _⟩ (Nat.le_of_ble_eq_true rfl) dX3_splitEdges_14 ?_
    refine aw_iconst (pc := 17) (v := 2) dX3_splitEdges_17 (by decide) ?_
    refine aw_icmp_ne (pc := 18) (tgt := 53) dX3_splitEdges_18 (by decide) (fun c5 => ?_) (fun c5 => ?_)
    · replace h := aw_ifn c5 h
      exact t_Gr_splitEdges_J53 h hz
    · replace h := aw_ifp c5 h
      refine aw_aload_n (pc := 21) (q := 0) dX3_splitEdges_21 rfl ?_
      refine aw_getC (pc := 22) fd_X3_40.r xA_24 rfl dX3_splitEdges_22 ?_
      refine aw_iload_n (pc := 25) (q := 2) dX3_splitEdges_25 rfl ?_
      refine aw_aload_n (pc := 26) (q := 0) dX3_splitEdges_26 rfl ?_
      refine aw_aload_n (pc := 27) (q := 0) dX3_splitEdges_27 rfl ?_
      refine aw_getC (pc := 28) fd_X3_40.r xA_24 rfl dX3_splitEdges_28 ?_
      refine aw_iload_n (pc := 31) (q := 2) dX3_splitEdges_31 rfl ?_
      obtain ⟨g7, h⟩ := aw_gde h
      refine aw_iald (pc := 32) xA_36 g7 dX3_splitEdges_32 ?_
      obtain ⟨r8, s10, e9, h⟩ := aw_bd2e h
      refine aw_cV1 (pc := 33) [.int ((σ.1 36 v2.toNatClampNeg))] (c_Gr_splitIfOthersCome e9) yy_Gr_splitIfOthersCome.1 wm_433 yy_Gr_splitIfOthersCome.2.1 yy_Gr_splitIfOthersCome.2.2 xA_24 ⟨_, _, rfl⟩ rfl ⟨Nat.le_of_ble_eq_true rfl, Nat.le_of_ble_eq_true rfl⟩ ⟨Nat.zero_le _, Nat.zero_le _⟩ (Nat.le_of_ble_eq_true rfl) dX3_splitEdges_33 ?_
      obtain ⟨g11, h⟩ := aw_gde h
      refine aw_iast (pc := 36) xA_36 g11 dX3_splitEdges_36 ?_
      refine aw_nmS (fun s12 e_s12 => ?_)
      replace h := aw_lte h s12 e_s12
      refine aw_aload_n (pc := 37) (q := 0) dX3_splitEdges_37 rfl ?_
      refine aw_getC (pc := 38) fd_X3_43.r xA_24 rfl dX3_splitEdges_38 ?_
      refine aw_iload_n (pc := 41) (q := 2) dX3_splitEdges_41 rfl ?_
      refine aw_aload_n (pc := 42) (q := 0) dX3_splitEdges_42 rfl ?_
      refine aw_aload_n (pc := 43) (q := 0) dX3_splitEdges_43 rfl ?_
      refine aw_getC (pc := 44) fd_X3_43.r xA_24 rfl dX3_splitEdges_44 ?_
      refine aw_iload_n (pc := 47) (q := 2) dX3_splitEdges_47 rfl ?_
      obtain ⟨g13, h⟩ := aw_gde h
      refine aw_iald (pc := 48) xA_37 g13 dX3_splitEdges_48 ?_
      obtain ⟨r14, s16, e15, h⟩ := aw_bd2e h
      refine aw_cV1 (pc := 49) [.int ((s12.1 37 v2.toNatClampNeg))] (c_Gr_splitIfOthersCome e15) yy_Gr_splitIfOthersCome.1 wm_433 yy_Gr_splitIfOthersCome.2.1 yy_Gr_splitIfOthersCome.2.2 xA_24 ⟨_, _, rfl⟩ rfl ⟨Nat.le_of_ble_eq_true rfl, Nat.le_of_ble_eq_true rfl⟩ ⟨Nat.zero_le _, Nat.zero_le _⟩ (Nat.le_of_ble_eq_true rfl) dX3_splitEdges_49 ?_
      obtain ⟨g17, h⟩ := aw_gde h
      refine aw_iast (pc := 52) xA_37 g17 dX3_splitEdges_52 ?_
      refine aw_nmS (fun s18 e_s18 => ?_)
      replace h := aw_lte h s18 e_s18
      exact t_Gr_splitEdges_J53 h hz
set_option maxRecDepth 100000 in
set_option maxHeartbeats 4000000 in
theorem t_Gr_splitEdges {l : Launch} {G : aw_G} {E : aw_E} {σ : aw_S} {t : aw_S} (h : m_Gr_splitEdges σ = some t) (hE : E = (none, xA, t)) : aw_W l M_Gr_splitEdges G B_Gr_splitEdges E 0 [(0, .ref 24)] [] xA σ 0 0 := by
  unfold m_Gr_splitEdges at h
  refine aw_aload_n (pc := 0) (q := 0) dX3_splitEdges_0 rfl ?_
  refine aw_getI (pc := 1) fd_X3_67.r xA_24 rfl dX3_splitEdges_1 ?_
  refine aw_nmI (fun x1 e_x1 => ?_)
  replace h := aw_lte h x1 e_x1
  refine aw_istore_n (pc := 4) [(1, .int x1), (0, .ref 24)] dX3_splitEdges_4 (by decide) rfl ?_
  refine aw_iconst (pc := 5) (v := 0) dX3_splitEdges_5 (by decide) ?_
  refine aw_istore_n (pc := 6) [(2, .int ((0 : Int32))), (1, .int x1), (0, .ref 24)] dX3_splitEdges_6 (by decide) rfl ?_
  obtain ⟨x19, hl20, h⟩ := aw_bde h
  have K21 : z_Gr_splitEdges_Y7 l G E x1 x19 := by
    show aw_W l M_Gr_splitEdges G B_Gr_splitEdges E 59 [] [] xA x19 0 0
    cases h
    subst hE
    exact aw_vret rfl ⟨Nat.zero_le _, Nat.zero_le _⟩ dX3_splitEdges_59
  refine aw_sub [2, 1, 0] rfl ?_
  show z_Gr_splitEdges_X7 l G E x1 (((0 : Int32), σ))
  exact aw_lp_X (Xp := z_Gr_splitEdges_X7 l G E x1) (Y := z_Gr_splitEdges_Y7 l G E x1) hl20 K21 (fun s t hf hz => t_Gr_splitEdges_B7 hf hz)
theorem c_Gr_splitEdges {l : Launch} {G : aw_G} {σ : aw_S} {t : aw_S} (h : m_Gr_splitEdges σ = some t) : aw_Ct l yX3_splitEdges M_Gr_splitEdges G B_Gr_splitEdges [.ref 24] xA σ (none, xA, t) := aw_Ct_of (by decide) rfl (fun h => by cases h) (Nat.le_of_ble_eq_true rfl) (t_Gr_splitEdges h rfl)
/-! LateMover$Graph.listFrom()V -/
def z_Gr_listFrom_X4 (l : Launch) (G : aw_G) (E : aw_E) (s : Int32 × Int32 × aw_S) : Prop := aw_W l M_Gr_listFrom G B_Gr_listFrom E 4 [(0, .ref 24), (1, .int s.1), (2, .int s.2.1)] [] xA s.2.2 0 0
def z_Gr_listFrom_Y4 (l : Launch) (G : aw_G) (E : aw_E) (x : (Int32 × aw_S)) : Prop := aw_W l M_Gr_listFrom G B_Gr_listFrom E 78 [(0, .ref 24), (1, .int x.1)] [] xA x.2 0 0
def z_Gr_listFrom_X21 (l : Launch) (G : aw_G) (E : aw_E) (v2 : Int32) (s : Int32 × Int32 × aw_S) : Prop := aw_W l M_Gr_listFrom G B_Gr_listFrom E 21 [(0, .ref 24), (1, .int s.1), (2, .int v2), (3, .int s.2.1)] [] xA s.2.2 0 0
def z_Gr_listFrom_Y21 (l : Launch) (G : aw_G) (E : aw_E) (v2 : Int32) (x : (Int32 × aw_S)) : Prop := aw_W l M_Gr_listFrom G B_Gr_listFrom E 72 [(0, .ref 24), (1, .int x.1), (2, .int v2)] [] xA x.2 0 0
set_option maxRecDepth 100000 in
set_option maxHeartbeats 4000000 in
theorem t_Gr_listFrom_J66 {l : Launch} {G : aw_G} {E : aw_E} {σ : aw_S} {v1 : Int32} {v2 : Int32} {v3 : Int32} {t : (Int32 × aw_S) ⊕ (Int32 × Int32 × aw_S)} (h : m_Gr_listFrom_J66 σ v1 v2 v3 = some t) (hz : Sum.elim (z_Gr_listFrom_Y21 l G E v2) (z_Gr_listFrom_X21 l G E v2) t) : aw_W l M_Gr_listFrom G B_Gr_listFrom E 66 [(0, .ref 24), (1, .int v1), (2, .int v2), (3, .int v3)] [] xA σ 0 0 := by
  unfold m_Gr_listFrom_J66 at h
  obtain ⟨x11, e_x11⟩ : ∃ z, z = (v3 + (1 : Int32)) := ⟨_, rfl⟩
  replace h := aw_lte h x11 e_x11
  refine aw_iinc (pc := 66) (q := 3) (v := x11) [(3, .int x11), (0, .ref 24), (1, .int v1), (2, .int v2)] dX3_listFrom_66 rfl e_x11.symm (by decide) rfl ?_
  refine aw_goto (pc := 69) (tgt := 21) dX3_listFrom_69 (by decide) ?_
  refine aw_sub [1, 2, 3, 0] rfl ?_
  cases h
  exact hz
set_option maxRecDepth 100000 in
set_option maxHeartbeats 4000000 in
theorem t_Gr_listFrom_J56 {l : Launch} {G : aw_G} {E : aw_E} {σ : aw_S} {v1 : Int32} {v2 : Int32} {v3 : Int32} {t : (Int32 × aw_S) ⊕ (Int32 × Int32 × aw_S)} (h : m_Gr_listFrom_J56 σ v1 v2 v3 = some t) (hz : Sum.elim (z_Gr_listFrom_Y21 l G E v2) (z_Gr_listFrom_X21 l G E v2) t) : aw_W l M_Gr_listFrom G B_Gr_listFrom E 56 [(0, .ref 24), (1, .int v1), (2, .int v2), (3, .int v3)] [] xA σ 0 0 := by
  unfold m_Gr_listFrom_J56 at h
  refine aw_aload_n (pc := 56) (q := 0) dX3_listFrom_56 rfl ?_
  refine aw_getC (pc := 57) fd_X3_46.r xA_24 rfl dX3_listFrom_57 ?_
  refine aw_iload_n (pc := 60) (q := 1) dX3_listFrom_60 rfl ?_
  refine aw_iload_n (pc := 61) (q := 3) dX3_listFrom_61 rfl ?_
  obtain ⟨g8, h⟩ := aw_gde h
  refine aw_iast (pc := 62) xA_38 g8 dX3_listFrom_62 ?_
  refine aw_nmS (fun s9 e_s9 => ?_)
  replace h := aw_lte h s9 e_s9
  obtain ⟨x10, e_x10⟩ : ∃ z, z = (v1 + (1 : Int32)) := ⟨_, rfl⟩
  replace h := aw_lte h x10 e_x10
  refine aw_iinc (pc := 63) (q := 1) (v := x10) [(1, .int x10), (0, .ref 24), (2, .int v2), (3, .int v3)] dX3_listFrom_63 rfl e_x10.symm (by decide) rfl ?_
  refine aw_sub [1, 0, 2, 3] rfl ?_
  exact t_Gr_listFrom_J66 h hz
set_option maxRecDepth 100000 in
set_option maxHeartbeats 4000000 in
theorem t_Gr_listFrom_B21 {l : Launch} {G : aw_G} {E : aw_E} {σ : aw_S} {v2 : Int32} {v1 : Int32} {v3 : Int32} {t : (Int32 × aw_S) ⊕ (Int32 × Int32 × aw_S)} (h : m_Gr_listFrom_B21 σ v2 v1 v3 = some t) (hz : Sum.elim (z_Gr_listFrom_Y21 l G E v2) (z_Gr_listFrom_X21 l G E v2) t) : aw_W l M_Gr_listFrom G B_Gr_listFrom E 21 [(0, .ref 24), (1, .int v1), (2, .int v2), (3, .int v3)] [] xA σ 0 0 := by
  unfold m_Gr_listFrom_B21 at h
  refine aw_iload_n (pc := 21) (q := 3) dX3_listFrom_21 rfl ?_
  refine aw_aload_n (pc := 22) (q := 0) dX3_listFrom_22 rfl ?_
  refine aw_getI (pc := 23) fd_X3_67.r xA_24 rfl dX3_listFrom_23 ?_
  refine aw_icmp_ge (pc := 26) (tgt := 72) dX3_listFrom_26 (by decide) (fun c4 => ?_) (fun c4 => ?_)
  · replace h := aw_ifp c4 h
    refine aw_sub [0, 1, 2] rfl ?_
    cases h
    exact hz
  · replace h := aw_ifn c4 h
    refine aw_iload_n (pc := 29) (q := 1) dX3_listFrom_29 rfl ?_
    refine aw_sipush (pc := 30) (v := 256) dX3_listFrom_30 (by decide) ?_
    refine aw_icmp_ge (pc := 33) (tgt := 72) dX3_listFrom_33 (by decide) (fun c5 => ?_) (fun c5 => ?_)
    · replace h := aw_ifp c5 h
      refine aw_sub [0, 1, 2] rfl ?_
      cases h
      exact hz
    · replace h := aw_ifn c5 h
      refine aw_aload_n (pc := 36) (q := 0) dX3_listFrom_36 rfl ?_
      refine aw_getC (pc := 37) fd_X3_40.r xA_24 rfl dX3_listFrom_37 ?_
      refine aw_iload_n (pc := 40) (q := 3) dX3_listFrom_40 rfl ?_
      obtain ⟨g6, h⟩ := aw_gde h
      refine aw_iald (pc := 41) xA_36 g6 dX3_listFrom_41 ?_
      refine aw_iload_n (pc := 42) (q := 2) dX3_listFrom_42 rfl ?_
      refine aw_icmp_eq (pc := 43) (tgt := 56) dX3_listFrom_43 (by decide) (fun c7 => ?_) (fun c7 => ?_)
      · replace h := aw_ifp c7 h
        exact t_Gr_listFrom_J56 h hz
      · replace h := aw_ifn c7 h
        refine aw_aload_n (pc := 46) (q := 0) dX3_listFrom_46 rfl ?_
        refine aw_getC (pc := 47) fd_X3_43.r xA_24 rfl dX3_listFrom_47 ?_
        refine aw_iload_n (pc := 50) (q := 3) dX3_listFrom_50 rfl ?_
        obtain ⟨g12, h⟩ := aw_gde h
        refine aw_iald (pc := 51) xA_37 g12 dX3_listFrom_51 ?_
        refine aw_iload_n (pc := 52) (q := 2) dX3_listFrom_52 rfl ?_
        refine aw_icmp_ne (pc := 53) (tgt := 66) dX3_listFrom_53 (by decide) (fun c13 => ?_) (fun c13 => ?_)
        · replace h := aw_ifn c13 h
          exact t_Gr_listFrom_J66 h hz
        · replace h := aw_ifp c13 h
          exact t_Gr_listFrom_J56 h hz
set_option maxRecDepth 100000 in
set_option maxHeartbeats 4000000 in
theorem t_Gr_listFrom_B4 {l : Launch} {G : aw_G} {E : aw_E} {σ : aw_S} {v1 : Int32} {v2 : Int32} {t : (Int32 × aw_S) ⊕ (Int32 × Int32 × aw_S)} (h : m_Gr_listFrom_B4 σ v1 v2 = some t) (hz : Sum.elim (z_Gr_listFrom_Y4 l G E) (z_Gr_listFrom_X4 l G E) t) : aw_W l M_Gr_listFrom G B_Gr_listFrom E 4 [(0, .ref 24), (1, .int v1), (2, .int v2)] [] xA σ 0 0 := by
  unfold m_Gr_listFrom_B4 at h
  refine aw_iload_n (pc := 4) (q := 2) dX3_listFrom_4 rfl ?_
  refine aw_aload_n (pc := 5) (q := 0) dX3_listFrom_5 rfl ?_
  refine aw_getI (pc := 6) fd_X3_67.r xA_24 rfl dX3_listFrom_6 ?_
  refine aw_icmp_ge (pc := 9) (tgt := 78) dX3_listFrom_9 (by decide) (fun c1 => ?_) (fun c1 => ?_)
  · replace h := aw_ifp c1 h
    refine aw_sub [0, 1] rfl ?_
    cases h
    exact hz
  · replace h := aw_ifn c1 h
    refine aw_aload_n (pc := 12) (q := 0) dX3_listFrom_12 rfl ?_
    refine aw_getC (pc := 13) fd_X3_49.r xA_24 rfl dX3_listFrom_13 ?_
    refine aw_iload_n (pc := 16) (q := 2) dX3_listFrom_16 rfl ?_
    refine aw_iload_n (pc := 17) (q := 1) dX3_listFrom_17 rfl ?_
    obtain ⟨g2, h⟩ := aw_gde h
    refine aw_iast (pc := 18) xA_39 g2 dX3_listFrom_18 ?_
    refine aw_nmS (fun s3 e_s3 => ?_)
    replace h := aw_lte h s3 e_s3
    refine aw_iconst (pc := 19) (v := 0) dX3_listFrom_19 (by decide) ?_
    refine aw_istore_n (pc := 20) [(3, .int ((0 : Int32))), (0, .ref 24), (1, .int v1), (2, .int v2)] dX3_listFrom_20 (by decide) rfl ?_
    obtain ⟨x14, hl15, h⟩ := aw_bde h
    have K16 : z_Gr_listFrom_Y21 l G E v2 x14 := by
      show aw_W l M_Gr_listFrom G B_Gr_listFrom E 72 [(0, .ref 24), (1, .int x14.1), (2, .int v2)] [] xA x14.2 0 0
      obtain ⟨x17, e_x17⟩ : ∃ z, z = (v2 + (1 : Int32)) := ⟨_, rfl⟩
      replace h := aw_lte h x17 e_x17
      refine aw_iinc (pc := 72) (q := 2) (v := x17) [(2, .int x17), (0, .ref 24), (1, .int x14.1)] dX3_listFrom_72 rfl e_x17.symm (by decide) rfl ?_
      refine aw_goto (pc := 75) (tgt := 4) dX3_listFrom_75 (by decide) ?_
      refine aw_sub [1, 2, 0] rfl ?_
      cases h
      exact hz
    refine aw_sub [1, 2, 3, 0] rfl ?_
    show z_Gr_listFrom_X21 l G E v2 ((v1, (0 : Int32), s3))
    exact aw_lp_X (Xp := z_Gr_listFrom_X21 l G E v2) (Y := z_Gr_listFrom_Y21 l G E v2) hl15 K16 (fun s t hf hz => t_Gr_listFrom_B21 hf hz)
set_option maxRecDepth 100000 in
set_option maxHeartbeats 4000000 in
theorem t_Gr_listFrom {l : Launch} {G : aw_G} {E : aw_E} {σ : aw_S} {t : aw_S} (h : m_Gr_listFrom σ = some t) (hE : E = (none, xA, t)) : aw_W l M_Gr_listFrom G B_Gr_listFrom E 0 [(0, .ref 24)] [] xA σ 0 0 := by
  unfold m_Gr_listFrom at h
  refine aw_iconst (pc := 0) (v := 0) dX3_listFrom_0 (by decide) ?_
  refine aw_istore_n (pc := 1) [(1, .int ((0 : Int32))), (0, .ref 24)] dX3_listFrom_1 (by decide) rfl ?_
  refine aw_iconst (pc := 2) (v := 0) dX3_listFrom_2 (by decide) ?_
  refine aw_istore_n (pc := 3) [(2, .int ((0 : Int32))), (1, .int ((0 : Int32))), (0, .ref 24)] dX3_listFrom_3 (by decide) rfl ?_
  obtain ⟨x18, hl19, h⟩ := aw_bde h
  have K20 : z_Gr_listFrom_Y4 l G E x18 := by
    show aw_W l M_Gr_listFrom G B_Gr_listFrom E 78 [(0, .ref 24), (1, .int x18.1)] [] xA x18.2 0 0
    refine aw_aload_n (pc := 78) (q := 0) dX3_listFrom_78 rfl ?_
    refine aw_getC (pc := 79) fd_X3_49.r xA_24 rfl dX3_listFrom_79 ?_
    refine aw_aload_n (pc := 82) (q := 0) dX3_listFrom_82 rfl ?_
    refine aw_getI (pc := 83) fd_X3_67.r xA_24 rfl dX3_listFrom_83 ?_
    refine aw_iload_n (pc := 86) (q := 1) dX3_listFrom_86 rfl ?_
    obtain ⟨g21, h⟩ := aw_gde h
    refine aw_iast (pc := 87) xA_39 g21 dX3_listFrom_87 ?_
    refine aw_nmS (fun s22 e_s22 => ?_)
    replace h := aw_lte h s22 e_s22
    cases h
    subst hE
    exact aw_vret rfl ⟨Nat.zero_le _, Nat.zero_le _⟩ dX3_listFrom_88
  refine aw_sub [2, 1, 0] rfl ?_
  show z_Gr_listFrom_X4 l G E (((0 : Int32), (0 : Int32), σ))
  exact aw_lp_X (Xp := z_Gr_listFrom_X4 l G E) (Y := z_Gr_listFrom_Y4 l G E) hl19 K20 (fun s t hf hz => t_Gr_listFrom_B4 hf hz)
theorem c_Gr_listFrom {l : Launch} {G : aw_G} {σ : aw_S} {t : aw_S} (h : m_Gr_listFrom σ = some t) : aw_Ct l yX3_listFrom M_Gr_listFrom G B_Gr_listFrom [.ref 24] xA σ (none, xA, t) := aw_Ct_of (by decide) rfl (fun h => by cases h) (Nat.le_of_ble_eq_true rfl) (t_Gr_listFrom h rfl)
/-! LateMover$Graph.build(LLateMover$Reader;)V -/
set_option maxRecDepth 100000 in
set_option maxHeartbeats 4000000 in
theorem t_Gr_build {l : Launch} {G : aw_G} {E : aw_E} {σ : aw_S} {t : aw_S} (h : m_Gr_build σ = some t) (hE : E = (none, xA, t)) : aw_W l M_Gr_build G B_Gr_build E 0 [(0, .ref 24), (1, .ref 8)] [] xA σ 0 0 := by
  unfold m_Gr_build at h
  refine aw_aload_n (pc := 0) (q := 0) dX3_build_0 rfl ?_
  refine aw_getC (pc := 1) fd_X3_12.r xA_24 rfl dX3_build_1 ?_
  refine aw_aload_n (pc := 4) (q := 1) dX3_build_4 rfl ?_
  refine aw_getC (pc := 5) fd_X3_55 xA_8 rfl dX3_build_5 ?_
  obtain ⟨s3, e2, h⟩ := aw_bde h
  refine aw_cV0 (pc := 8) [.ref 11] (c_Ex_copyFrom isEx_25 isEx_11 e2) yy_Ex_copyFrom.1 wm_376 yy_Ex_copyFrom.2.1 yy_Ex_copyFrom.2.2 xA_25 ⟨_, _, rfl⟩ rfl ⟨Nat.le_of_ble_eq_true rfl, Nat.le_of_ble_eq_true rfl⟩ ⟨Nat.zero_le _, Nat.zero_le _⟩ (Nat.le_of_ble_eq_true rfl) dX3_build_8 ?_
  refine aw_aload_n (pc := 11) (q := 0) dX3_build_11 rfl ?_
  refine aw_aload_n (pc := 12) (q := 1) dX3_build_12 rfl ?_
  refine aw_getI (pc := 13) fd_X3_62.r xA_8 rfl dX3_build_13 ?_
  refine aw_putI (pc := 16) fd_X3_66 xA_24 rfl (fun _ => rfl) (fun _ => rfl) dX3_build_16 ?_
  refine aw_nmS (fun s4 e_s4 => ?_)
  replace h := aw_lte h s4 e_s4
  refine aw_aload_n (pc := 19) (q := 0) dX3_build_19 rfl ?_
  refine aw_iconst (pc := 20) (v := 0) dX3_build_20 (by decide) ?_
  refine aw_putI (pc := 21) fd_X3_67 xA_24 rfl (fun _ => rfl) (fun _ => rfl) dX3_build_21 ?_
  refine aw_nmS (fun s5 e_s5 => ?_)
  replace h := aw_lte h s5 e_s5
  refine aw_aload_n (pc := 24) (q := 0) dX3_build_24 rfl ?_
  refine aw_iconst (pc := 25) (v := 0) dX3_build_25 (by decide) ?_
  obtain ⟨r6, s8, e7, h⟩ := aw_bd2e h
  refine aw_cV1 (pc := 26) [.int ((0 : Int32))] (c_Gr_add e7) yy_Gr_add.1 wm_381 yy_Gr_add.2.1 yy_Gr_add.2.2 xA_24 ⟨_, _, rfl⟩ rfl ⟨Nat.le_of_ble_eq_true rfl, Nat.le_of_ble_eq_true rfl⟩ ⟨Nat.zero_le _, Nat.zero_le _⟩ (Nat.le_of_ble_eq_true rfl) dX3_build_26 ?_
  refine aw_pop (pc := 29) dX3_build_29 rfl ?_
  refine aw_aload_n (pc := 30) (q := 0) dX3_build_30 rfl ?_
  refine aw_aload_n (pc := 31) (q := 1) dX3_build_31 rfl ?_
  obtain ⟨s11, e10, h⟩ := aw_bde h
  refine aw_cV0 (pc := 32) [.ref 8] (c_Gr_addReached e10) yy_Gr_addReached.1 wm_385 yy_Gr_addReached.2.1 yy_Gr_addReached.2.2 xA_24 ⟨_, _, rfl⟩ rfl ⟨Nat.le_of_ble_eq_true rfl, Nat.le_of_ble_eq_true rfl⟩ ⟨Nat.zero_le _, Nat.zero_le _⟩ (Nat.le_of_ble_eq_true rfl) dX3_build_32 ?_
  refine aw_aload_n (pc := 35) (q := 0) dX3_build_35 rfl ?_
  obtain ⟨s14, e13, h⟩ := aw_bde h
  refine aw_cV0 (pc := 36) [] (c_Gr_joinNodes e13) yy_Gr_joinNodes.1 wm_411 yy_Gr_joinNodes.2.1 yy_Gr_joinNodes.2.2 xA_24 ⟨_, _, rfl⟩ rfl ⟨Nat.le_of_ble_eq_true rfl, Nat.le_of_ble_eq_true rfl⟩ ⟨Nat.zero_le _, Nat.zero_le _⟩ (Nat.le_of_ble_eq_true rfl) dX3_build_36 ?_
  refine aw_aload_n (pc := 39) (q := 0) dX3_build_39 rfl ?_
  obtain ⟨s17, e16, h⟩ := aw_bde h
  refine aw_cV0 (pc := 40) [] (c_Gr_splitEdges e16) yy_Gr_splitEdges.1 wm_419 yy_Gr_splitEdges.2.1 yy_Gr_splitEdges.2.2 xA_24 ⟨_, _, rfl⟩ rfl ⟨Nat.le_of_ble_eq_true rfl, Nat.le_of_ble_eq_true rfl⟩ ⟨Nat.zero_le _, Nat.zero_le _⟩ (Nat.le_of_ble_eq_true rfl) dX3_build_40 ?_
  refine aw_aload_n (pc := 43) (q := 0) dX3_build_43 rfl ?_
  obtain ⟨s20, e19, h⟩ := aw_bde h
  refine aw_cV0 (pc := 44) [] (c_Gr_listFrom e19) yy_Gr_listFrom.1 wm_441 yy_Gr_listFrom.2.1 yy_Gr_listFrom.2.2 xA_24 ⟨_, _, rfl⟩ rfl ⟨Nat.le_of_ble_eq_true rfl, Nat.le_of_ble_eq_true rfl⟩ ⟨Nat.zero_le _, Nat.zero_le _⟩ (Nat.le_of_ble_eq_true rfl) dX3_build_44 ?_
  cases h
  subst hE
  exact aw_vret rfl ⟨Nat.zero_le _, Nat.zero_le _⟩ dX3_build_47
theorem c_Gr_build {l : Launch} {G : aw_G} {σ : aw_S} {t : aw_S} (h : m_Gr_build σ = some t) : aw_Ct l yX3_build M_Gr_build G B_Gr_build [.ref 24, .ref 8] xA σ (none, xA, t) := aw_Ct_of (by decide) rfl (fun h => by cases h) (Nat.le_of_ble_eq_true rfl) (t_Gr_build h rfl)
/-! LateMover$Expressions.isOne(I)Z -/
set_option maxRecDepth 100000 in
set_option maxHeartbeats 4000000 in
theorem t_Ex_isOne {l : Launch} {G : aw_G} {E : aw_E} {σ : aw_S} {o : Nat} {p1 : Int32} (h_o : isEx o) {t : Int32} (h : m_Ex_isOne σ o p1 = some t) (hE : E = (some (.int t), xA, σ)) : aw_W l M_Ex_isOne G B_Ex_isOne E 0 [(0, .ref o), (1, .int p1)] [] xA σ 0 0 := by
  unfold m_Ex_isOne at h
  refine aw_iload_n (pc := 0) (q := 1) dX0_isOne_0 rfl ?_
  refine aw_if_lt (pc := 1) (tgt := 22) dX0_isOne_1 (by decide) (fun c1 => ?_) (fun c1 => ?_)
  · replace h := aw_ifp c1 h
    refine aw_iconst (pc := 22) (v := 0) dX0_isOne_22 (by decide) ?_
    cases h
    subst hE
    exact aw_iret (v := (0 : Int32)) rfl aw_n0 ⟨Nat.zero_le _, Nat.zero_le _⟩ dX0_isOne_23
  · replace h := aw_ifn c1 h
    refine aw_iload_n (pc := 4) (q := 1) dX0_isOne_4 rfl ?_
    refine aw_aload_n (pc := 5) (q := 0) dX0_isOne_5 rfl ?_
    refine aw_getI (pc := 6) fd_X0_21.r h_o.1 rfl dX0_isOne_6 ?_
    refine aw_icmp_ge (pc := 9) (tgt := 22) dX0_isOne_9 (by decide) (fun c2 => ?_) (fun c2 => ?_)
    · replace h := aw_ifp c2 h
      refine aw_iconst (pc := 22) (v := 0) dX0_isOne_22 (by decide) ?_
      cases h
      subst hE
      exact aw_iret (v := (0 : Int32)) rfl aw_n0 ⟨Nat.zero_le _, Nat.zero_le _⟩ dX0_isOne_23
    · replace h := aw_ifn c2 h
      refine aw_iload_n (pc := 12) (q := 1) dX0_isOne_12 rfl ?_
      refine aw_bipush (pc := 13) (v := 24) dX0_isOne_13 (by decide) ?_
      refine aw_icmp_ge (pc := 15) (tgt := 22) dX0_isOne_15 (by decide) (fun c3 => ?_) (fun c3 => ?_)
      · replace h := aw_ifp c3 h
        refine aw_iconst (pc := 22) (v := 0) dX0_isOne_22 (by decide) ?_
        cases h
        subst hE
        exact aw_iret (v := (0 : Int32)) rfl aw_n0 ⟨Nat.zero_le _, Nat.zero_le _⟩ dX0_isOne_23
      · replace h := aw_ifn c3 h
        refine aw_iconst (pc := 18) (v := 1) dX0_isOne_18 (by decide) ?_
        refine aw_goto (pc := 19) (tgt := 23) dX0_isOne_19 (by decide) ?_
        cases h
        subst hE
        exact aw_iret (v := (1 : Int32)) rfl aw_n1 ⟨Nat.zero_le _, Nat.zero_le _⟩ dX0_isOne_23
theorem c_Ex_isOne {l : Launch} {G : aw_G} {σ : aw_S} {o : Nat} {p1 : Int32} (h_o : isEx o) {t : Int32} (h : m_Ex_isOne σ o p1 = some t) : aw_Ct l yX0_isOne M_Ex_isOne G B_Ex_isOne [.ref o, .int p1] xA σ (some (.int t), xA, σ) := aw_Ct_of (by decide) rfl (fun h => by cases h) (Nat.le_of_ble_eq_true rfl) (t_Ex_isOne h_o h rfl)
/-! LateMover$Facts.usedAt(LLateMover$Graph;I)I -/
set_option maxRecDepth 100000 in
set_option maxHeartbeats 4000000 in
theorem t_Fa_usedAt {l : Launch} {G : aw_G} {E : aw_E} {σ : aw_S} {p1 : Int32} {t : Int32} (h : m_Fa_usedAt σ p1 = some t) (hE : E = (some (.int t), xA, σ)) : aw_W l M_Fa_usedAt G B_Fa_usedAt E 0 [(0, .ref 24), (1, .int p1)] [] xA σ 0 0 := by
  unfold m_Fa_usedAt at h
  refine aw_aload_n (pc := 0) (q := 0) dX1_usedAt_0 rfl ?_
  refine aw_getC (pc := 1) fd_X1_105 xA_24 rfl dX1_usedAt_1 ?_
  refine aw_iload_n (pc := 4) (q := 1) dX1_usedAt_4 rfl ?_
  obtain ⟨g1, h⟩ := aw_gde h
  refine aw_iald (pc := 5) xA_33 g1 dX1_usedAt_5 ?_
  refine aw_nmI (fun x2 e_x2 => ?_)
  replace h := aw_lte h x2 e_x2
  refine aw_istore_n (pc := 6) [(2, .int x2), (0, .ref 24), (1, .int p1)] dX1_usedAt_6 (by decide) rfl ?_
  refine aw_aload_n (pc := 7) (q := 1) dX1_usedAt_7 rfl ?_
  refine aw_getC (pc := 8) fd_X1_52 xA_24 rfl dX1_usedAt_8 ?_
  refine aw_iload_n (pc := 11) (q := 0) dX1_usedAt_11 rfl ?_
  obtain ⟨r3, e4, h⟩ := aw_bde h
  refine aw_cV1 (pc := 12) [.int x2] (c_Ex_isOne isEx_25 e4) yy_Ex_isOne.1 wm_457 yy_Ex_isOne.2.1 yy_Ex_isOne.2.2 xA_25 ⟨_, _, rfl⟩ rfl ⟨Nat.le_of_ble_eq_true rfl, Nat.le_of_ble_eq_true rfl⟩ ⟨Nat.zero_le _, Nat.zero_le _⟩ (Nat.le_of_ble_eq_true rfl) dX1_usedAt_12 ?_
  refine aw_if_eq (pc := 15) (tgt := 24) dX1_usedAt_15 (by decide) (fun c5 => ?_) (fun c5 => ?_)
  · replace h := aw_ifp c5 h
    refine aw_iconst (pc := 24) (v := 0) dX1_usedAt_24 (by decide) ?_
    cases h
    subst hE
    exact aw_iret (v := (0 : Int32)) rfl aw_ni ⟨Nat.zero_le _, Nat.zero_le _⟩ dX1_usedAt_25
  · replace h := aw_ifn c5 h
    refine aw_iconst (pc := 18) (v := 1) dX1_usedAt_18 (by decide) ?_
    refine aw_iload_n (pc := 19) (q := 0) dX1_usedAt_19 rfl ?_
    refine aw_ishl (pc := 20) dX1_usedAt_20 ?_
    refine aw_goto (pc := 21) (tgt := 25) dX1_usedAt_21 (by decide) ?_
    cases h
    subst hE
    exact aw_iret (v := ((1 : Int32) <<< (x2 &&& 31))) rfl aw_ni ⟨Nat.zero_le _, Nat.zero_le _⟩ dX1_usedAt_25
theorem c_Fa_usedAt {l : Launch} {G : aw_G} {σ : aw_S} {p1 : Int32} {t : Int32} (h : m_Fa_usedAt σ p1 = some t) : aw_Ct l yX1_usedAt M_Fa_usedAt G B_Fa_usedAt [.ref 24, .int p1] xA σ (some (.int t), xA, σ) := aw_Ct_of (by decide) rfl (fun h => by cases h) (Nat.le_of_ble_eq_true rfl) (t_Fa_usedAt h rfl)
/-! LateMover$Facts.letterChangedAt(LLateMover$Graph;I)I -/
set_option maxRecDepth 100000 in
set_option maxHeartbeats 4000000 in
theorem t_Fa_letterChangedAt_J20 {l : Launch} {G : aw_G} {E : aw_E} {σ : aw_S} {v1 : Int32} {t : Int32} (h : m_Fa_letterChangedAt_J20 σ v1 = some t) (hE : E = (some (.int t), xA, σ)) : aw_W l M_Fa_letterChangedAt G B_Fa_letterChangedAt E 20 [(0, .ref 24), (1, .int v1)] [] xA σ 0 0 := by
  unfold m_Fa_letterChangedAt_J20 at h
  refine aw_aload_n (pc := 20) (q := 0) dX1_letterChangedAt_20 rfl ?_
  refine aw_getC (pc := 21) fd_X1_132 xA_24 rfl dX1_letterChangedAt_21 ?_
  refine aw_iload_n (pc := 24) (q := 1) dX1_letterChangedAt_24 rfl ?_
  obtain ⟨g3, h⟩ := aw_gde h
  refine aw_iald (pc := 25) xA_31 g3 dX1_letterChangedAt_25 ?_
  refine aw_goto (pc := 26) (tgt := 30) dX1_letterChangedAt_26 (by decide) ?_
  cases h
  subst hE
  exact aw_iret (v := (σ.1 31 v1.toNatClampNeg)) rfl aw_ni ⟨Nat.zero_le _, Nat.zero_le _⟩ dX1_letterChangedAt_30
set_option maxRecDepth 100000 in
set_option maxHeartbeats 4000000 in
theorem t_Fa_letterChangedAt {l : Launch} {G : aw_G} {E : aw_E} {σ : aw_S} {p1 : Int32} {t : Int32} (h : m_Fa_letterChangedAt σ p1 = some t) (hE : E = (some (.int t), xA, σ)) : aw_W l M_Fa_letterChangedAt G B_Fa_letterChangedAt E 0 [(0, .ref 24), (1, .int p1)] [] xA σ 0 0 := by
  unfold m_Fa_letterChangedAt at h
  refine aw_aload_n (pc := 0) (q := 0) dX1_letterChangedAt_0 rfl ?_
  refine aw_getC (pc := 1) fd_X1_129 xA_24 rfl dX1_letterChangedAt_1 ?_
  refine aw_iload_n (pc := 4) (q := 1) dX1_letterChangedAt_4 rfl ?_
  obtain ⟨g1, h⟩ := aw_gde h
  refine aw_iald (pc := 5) xA_29 g1 dX1_letterChangedAt_5 ?_
  refine aw_iconst (pc := 6) (v := 1) dX1_letterChangedAt_6 (by decide) ?_
  refine aw_icmp_eq (pc := 7) (tgt := 20) dX1_letterChangedAt_7 (by decide) (fun c2 => ?_) (fun c2 => ?_)
  · replace h := aw_ifp c2 h
    exact t_Fa_letterChangedAt_J20 h hE
  · replace h := aw_ifn c2 h
    refine aw_aload_n (pc := 10) (q := 0) dX1_letterChangedAt_10 rfl ?_
    refine aw_getC (pc := 11) fd_X1_129 xA_24 rfl dX1_letterChangedAt_11 ?_
    refine aw_iload_n (pc := 14) (q := 1) dX1_letterChangedAt_14 rfl ?_
    obtain ⟨g4, h⟩ := aw_gde h
    refine aw_iald (pc := 15) xA_29 g4 dX1_letterChangedAt_15 ?_
    refine aw_iconst (pc := 16) (v := 2) dX1_letterChangedAt_16 (by decide) ?_
    refine aw_icmp_ne (pc := 17) (tgt := 29) dX1_letterChangedAt_17 (by decide) (fun c5 => ?_) (fun c5 => ?_)
    · replace h := aw_ifn c5 h
      refine aw_iconst (pc := 29) (v := -1) dX1_letterChangedAt_29 (by decide) ?_
      cases h
      subst hE
      exact aw_iret (v := (-1 : Int32)) rfl aw_ni ⟨Nat.zero_le _, Nat.zero_le _⟩ dX1_letterChangedAt_30
    · replace h := aw_ifp c5 h
      exact t_Fa_letterChangedAt_J20 h hE
theorem c_Fa_letterChangedAt {l : Launch} {G : aw_G} {σ : aw_S} {p1 : Int32} {t : Int32} (h : m_Fa_letterChangedAt σ p1 = some t) : aw_Ct l yX1_letterChangedAt M_Fa_letterChangedAt G B_Fa_letterChangedAt [.ref 24, .int p1] xA σ (some (.int t), xA, σ) := aw_Ct_of (by decide) rfl (fun h => by cases h) (Nat.le_of_ble_eq_true rfl) (t_Fa_letterChangedAt h rfl)
/-! LateMover$Expressions.letterBit(I)I -/
set_option maxRecDepth 100000 in
set_option maxHeartbeats 4000000 in
theorem t_Ex_letterBit {l : Launch} {G : aw_G} {E : aw_E} {σ : aw_S} {p0 : Int32} {t : Int32} (h : m_Ex_letterBit σ p0 = some t) (hE : E = (some (.int t), xA, σ)) : aw_W l M_Ex_letterBit G B_Ex_letterBit E 0 [(0, .int p0)] [] xA σ 0 0 := by
  unfold m_Ex_letterBit at h
  refine aw_iload_n (pc := 0) (q := 0) dX0_letterBit_0 rfl ?_
  refine aw_if_lt (pc := 1) (tgt := 16) dX0_letterBit_1 (by decide) (fun c1 => ?_) (fun c1 => ?_)
  · replace h := aw_ifp c1 h
    refine aw_iconst (pc := 16) (v := 0) dX0_letterBit_16 (by decide) ?_
    cases h
    subst hE
    exact aw_iret (v := (0 : Int32)) rfl aw_ni ⟨Nat.zero_le _, Nat.zero_le _⟩ dX0_letterBit_17
  · replace h := aw_ifn c1 h
    refine aw_iload_n (pc := 4) (q := 0) dX0_letterBit_4 rfl ?_
    refine aw_bipush (pc := 5) (v := 26) dX0_letterBit_5 (by decide) ?_
    refine aw_icmp_ge (pc := 7) (tgt := 16) dX0_letterBit_7 (by decide) (fun c2 => ?_) (fun c2 => ?_)
    · replace h := aw_ifp c2 h
      refine aw_iconst (pc := 16) (v := 0) dX0_letterBit_16 (by decide) ?_
      cases h
      subst hE
      exact aw_iret (v := (0 : Int32)) rfl aw_ni ⟨Nat.zero_le _, Nat.zero_le _⟩ dX0_letterBit_17
    · replace h := aw_ifn c2 h
      refine aw_iconst (pc := 10) (v := 1) dX0_letterBit_10 (by decide) ?_
      refine aw_iload_n (pc := 11) (q := 0) dX0_letterBit_11 rfl ?_
      refine aw_ishl (pc := 12) dX0_letterBit_12 ?_
      refine aw_goto (pc := 13) (tgt := 17) dX0_letterBit_13 (by decide) ?_
      cases h
      subst hE
      exact aw_iret (v := ((1 : Int32) <<< (p0 &&& 31))) rfl aw_ni ⟨Nat.zero_le _, Nat.zero_le _⟩ dX0_letterBit_17
theorem c_Ex_letterBit {l : Launch} {G : aw_G} {σ : aw_S} {p0 : Int32} {t : Int32} (h : m_Ex_letterBit σ p0 = some t) : aw_Ct l yX0_letterBit M_Ex_letterBit G B_Ex_letterBit [.int p0] xA σ (some (.int t), xA, σ) := aw_Ct_of (by decide) rfl (fun h => by cases h) (Nat.le_of_ble_eq_true rfl) (t_Ex_letterBit h rfl)
/-! LateMover$Expressions.lettersOf(I)I -/
set_option maxRecDepth 100000 in
set_option maxHeartbeats 4000000 in
theorem t_Ex_lettersOf {l : Launch} {G : aw_G} {E : aw_E} {σ : aw_S} {o : Nat} {p1 : Int32} (h_o : isEx o) {t : Int32} (h : m_Ex_lettersOf σ o p1 = some t) (hE : E = (some (.int t), xA, σ)) : aw_W l M_Ex_lettersOf G B_Ex_lettersOf E 0 [(0, .ref o), (1, .int p1)] [] xA σ 0 0 := by
  unfold m_Ex_lettersOf at h
  refine aw_aload_n (pc := 0) (q := 0) dX0_lettersOf_0 rfl ?_
  refine aw_iload_n (pc := 1) (q := 1) dX0_lettersOf_1 rfl ?_
  obtain ⟨r1, e2, h⟩ := aw_bde h
  refine aw_cV1 (pc := 2) [.int p1] (c_Ex_isOne h_o e2) yy_Ex_isOne.1 wm_476 yy_Ex_isOne.2.1 yy_Ex_isOne.2.2 h_o.1 ⟨_, _, rfl⟩ rfl ⟨Nat.le_of_ble_eq_true rfl, Nat.le_of_ble_eq_true rfl⟩ ⟨Nat.zero_le _, Nat.zero_le _⟩ (Nat.le_of_ble_eq_true rfl) dX0_lettersOf_2 ?_
  refine aw_if_eq (pc := 5) (tgt := 30) dX0_lettersOf_5 (by decide) (fun c3 => ?_) (fun c3 => ?_)
  · replace h := aw_ifp c3 h
    refine aw_iconst (pc := 30) (v := 0) dX0_lettersOf_30 (by decide) ?_
    cases h
    subst hE
    exact aw_iret (v := (0 : Int32)) rfl aw_ni ⟨Nat.zero_le _, Nat.zero_le _⟩ dX0_lettersOf_31
  · replace h := aw_ifn c3 h
    refine aw_aload_n (pc := 8) (q := 0) dX0_lettersOf_8 rfl ?_
    refine aw_getC (pc := 9) fd_X0_15.r h_o.1 rfl dX0_lettersOf_9 ?_
    refine aw_iload_n (pc := 12) (q := 1) dX0_lettersOf_12 rfl ?_
    obtain ⟨g4, h⟩ := aw_gde h
    refine aw_iald (pc := 13) h_o.2.2.1 g4 dX0_lettersOf_13 ?_
    obtain ⟨r5, e6, h⟩ := aw_bde h
    refine aw_cS1 (pc := 14) [.int ((σ.1 (o + 2) p1.toNatClampNeg))] (c_Ex_letterBit e6) yy_Ex_letterBit.1 wm_477 yy_Ex_letterBit.2 rfl ⟨Nat.le_of_ble_eq_true rfl, Nat.le_of_ble_eq_true rfl⟩ ⟨Nat.zero_le _, Nat.zero_le _⟩ (Nat.le_of_ble_eq_true rfl) dX0_lettersOf_14 ?_
    refine aw_aload_n (pc := 17) (q := 0) dX0_lettersOf_17 rfl ?_
    refine aw_getC (pc := 18) fd_X0_18.r h_o.1 rfl dX0_lettersOf_18 ?_
    refine aw_iload_n (pc := 21) (q := 1) dX0_lettersOf_21 rfl ?_
    obtain ⟨g7, h⟩ := aw_gde h
    refine aw_iald (pc := 22) h_o.2.2.2 g7 dX0_lettersOf_22 ?_
    obtain ⟨r8, e9, h⟩ := aw_bde h
    refine aw_cS1 (pc := 23) [.int ((σ.1 (o + 3) p1.toNatClampNeg))] (c_Ex_letterBit e9) yy_Ex_letterBit.1 wm_477 yy_Ex_letterBit.2 rfl ⟨Nat.le_of_ble_eq_true rfl, Nat.le_of_ble_eq_true rfl⟩ ⟨Nat.zero_le _, Nat.zero_le _⟩ (Nat.le_of_ble_eq_true rfl) dX0_lettersOf_23 ?_
    refine aw_ior (pc := 26) dX0_lettersOf_26 ?_
    refine aw_goto (pc := 27) (tgt := 31) dX0_lettersOf_27 (by decide) ?_
    cases h
    subst hE
    exact aw_iret (v := (r5 ||| r8)) rfl aw_ni ⟨Nat.zero_le _, Nat.zero_le _⟩ dX0_lettersOf_31
theorem c_Ex_lettersOf {l : Launch} {G : aw_G} {σ : aw_S} {o : Nat} {p1 : Int32} (h_o : isEx o) {t : Int32} (h : m_Ex_lettersOf σ o p1 = some t) : aw_Ct l yX0_lettersOf M_Ex_lettersOf G B_Ex_lettersOf [.ref o, .int p1] xA σ (some (.int t), xA, σ) := aw_Ct_of (by decide) rfl (fun h => by cases h) (Nat.le_of_ble_eq_true rfl) (t_Ex_lettersOf h_o h rfl)
/-! LateMover$Expressions.isRisky(I)Z -/
set_option maxRecDepth 100000 in
set_option maxHeartbeats 4000000 in
theorem t_Ex_isRisky_J32 {l : Launch} {G : aw_G} {E : aw_E} {σ : aw_S} {v0 : Nat} {v1 : Int32} (h_v0 : isEx v0) {t : Int32} (h : m_Ex_isRisky_J32 σ v0 v1 = some t) (hE : E = (some (.int t), xA, σ)) : aw_W l M_Ex_isRisky G B_Ex_isRisky E 32 [(0, .ref v0), (1, .int v1)] [] xA σ 0 0 := by
  unfold m_Ex_isRisky_J32 at h
  refine aw_aload_n (pc := 32) (q := 0) dX0_isRisky_32 rfl ?_
  refine aw_getC (pc := 33) fd_X0_18.r h_v0.1 rfl dX0_isRisky_33 ?_
  refine aw_iload_n (pc := 36) (q := 1) dX0_isRisky_36 rfl ?_
  obtain ⟨g6, h⟩ := aw_gde h
  refine aw_iald (pc := 37) h_v0.2.2.2 g6 dX0_isRisky_37 ?_
  refine aw_bipush (pc := 38) (v := 26) dX0_isRisky_38 (by decide) ?_
  refine aw_icmp_gt (pc := 40) (tgt := 47) dX0_isRisky_40 (by decide) (fun c7 => ?_) (fun c7 => ?_)
  · replace h := aw_ifp c7 h
    refine aw_iconst (pc := 47) (v := 0) dX0_isRisky_47 (by decide) ?_
    cases h
    subst hE
    exact aw_iret (v := (0 : Int32)) rfl aw_n0 ⟨Nat.zero_le _, Nat.zero_le _⟩ dX0_isRisky_48
  · replace h := aw_ifn c7 h
    refine aw_iconst (pc := 43) (v := 1) dX0_isRisky_43 (by decide) ?_
    refine aw_goto (pc := 44) (tgt := 48) dX0_isRisky_44 (by decide) ?_
    cases h
    subst hE
    exact aw_iret (v := (1 : Int32)) rfl aw_n1 ⟨Nat.zero_le _, Nat.zero_le _⟩ dX0_isRisky_48
set_option maxRecDepth 100000 in
set_option maxHeartbeats 4000000 in
theorem t_Ex_isRisky {l : Launch} {G : aw_G} {E : aw_E} {σ : aw_S} {o : Nat} {p1 : Int32} (h_o : isEx o) {t : Int32} (h : m_Ex_isRisky σ o p1 = some t) (hE : E = (some (.int t), xA, σ)) : aw_W l M_Ex_isRisky G B_Ex_isRisky E 0 [(0, .ref o), (1, .int p1)] [] xA σ 0 0 := by
  unfold m_Ex_isRisky at h
  refine aw_aload_n (pc := 0) (q := 0) dX0_isRisky_0 rfl ?_
  refine aw_iload_n (pc := 1) (q := 1) dX0_isRisky_1 rfl ?_
  obtain ⟨r1, e2, h⟩ := aw_bde h
  refine aw_cV1 (pc := 2) [.int p1] (c_Ex_isOne h_o e2) yy_Ex_isOne.1 wm_476 yy_Ex_isOne.2.1 yy_Ex_isOne.2.2 h_o.1 ⟨_, _, rfl⟩ rfl ⟨Nat.le_of_ble_eq_true rfl, Nat.le_of_ble_eq_true rfl⟩ ⟨Nat.zero_le _, Nat.zero_le _⟩ (Nat.le_of_ble_eq_true rfl) dX0_isRisky_2 ?_
  refine aw_if_eq (pc := 5) (tgt := 30) dX0_isRisky_5 (by decide) (fun c3 => ?_) (fun c3 => ?_)
  · replace h := aw_ifp c3 h
    refine aw_iconst (pc := 30) (v := 0) dX0_isRisky_30 (by decide) ?_
    cases h
    subst hE
    exact aw_iret (v := (0 : Int32)) rfl aw_n0 ⟨Nat.zero_le _, Nat.zero_le _⟩ dX0_isRisky_31
  · replace h := aw_ifn c3 h
    refine aw_aload_n (pc := 8) (q := 0) dX0_isRisky_8 rfl ?_
    refine aw_getC (pc := 9) fd_X0_9.r h_o.1 rfl dX0_isRisky_9 ?_
    refine aw_iload_n (pc := 12) (q := 1) dX0_isRisky_12 rfl ?_
    obtain ⟨g4, h⟩ := aw_gde h
    refine aw_iald (pc := 13) h_o.2.1 g4 dX0_isRisky_13 ?_
    refine aw_bipush (pc := 14) (v := 47) dX0_isRisky_14 (by decide) ?_
    refine aw_icmp_eq (pc := 16) (tgt := 32) dX0_isRisky_16 (by decide) (fun c5 => ?_) (fun c5 => ?_)
    · replace h := aw_ifp c5 h
      exact t_Ex_isRisky_J32 h_o h hE
    · replace h := aw_ifn c5 h
      refine aw_aload_n (pc := 19) (q := 0) dX0_isRisky_19 rfl ?_
      refine aw_getC (pc := 20) fd_X0_9.r h_o.1 rfl dX0_isRisky_20 ?_
      refine aw_iload_n (pc := 23) (q := 1) dX0_isRisky_23 rfl ?_
      obtain ⟨g8, h⟩ := aw_gde h
      refine aw_iald (pc := 24) h_o.2.1 g8 dX0_isRisky_24 ?_
      refine aw_bipush (pc := 25) (v := 37) dX0_isRisky_25 (by decide) ?_
      refine aw_icmp_eq (pc := 27) (tgt := 32) dX0_isRisky_27 (by decide) (fun c9 => ?_) (fun c9 => ?_)
      · replace h := aw_ifp c9 h
        exact t_Ex_isRisky_J32 h_o h hE
      · replace h := aw_ifn c9 h
        refine aw_iconst (pc := 30) (v := 0) dX0_isRisky_30 (by decide) ?_
        cases h
        subst hE
        exact aw_iret (v := (0 : Int32)) rfl aw_n0 ⟨Nat.zero_le _, Nat.zero_le _⟩ dX0_isRisky_31
theorem c_Ex_isRisky {l : Launch} {G : aw_G} {σ : aw_S} {o : Nat} {p1 : Int32} (h_o : isEx o) {t : Int32} (h : m_Ex_isRisky σ o p1 = some t) : aw_Ct l yX0_isRisky M_Ex_isRisky G B_Ex_isRisky [.ref o, .int p1] xA σ (some (.int t), xA, σ) := aw_Ct_of (by decide) rfl (fun h => by cases h) (Nat.le_of_ble_eq_true rfl) (t_Ex_isRisky h_o h rfl)
/-! LateMover$Facts.hinders(LLateMover$Graph;II)Z -/
set_option maxRecDepth 100000 in
set_option maxHeartbeats 4000000 in
theorem t_Fa_hinders {l : Launch} {G : aw_G} {E : aw_E} {σ : aw_S} {p1 : Int32} {p2 : Int32} {t : Int32} (h : m_Fa_hinders σ p1 p2 = some t) (hE : E = (some (.int t), xA, σ)) : aw_W l M_Fa_hinders G B_Fa_hinders E 0 [(0, .ref 24), (1, .int p1), (2, .int p2)] [] xA σ 0 0 := by
  unfold m_Fa_hinders at h
  refine aw_aload_n (pc := 0) (q := 0) dX1_hinders_0 rfl ?_
  refine aw_getC (pc := 1) fd_X1_105 xA_24 rfl dX1_hinders_1 ?_
  refine aw_iload_n (pc := 4) (q := 1) dX1_hinders_4 rfl ?_
  obtain ⟨g1, h⟩ := aw_gde h
  refine aw_iald (pc := 5) xA_33 g1 dX1_hinders_5 ?_
  refine aw_nmI (fun x2 e_x2 => ?_)
  replace h := aw_lte h x2 e_x2
  refine aw_istore_n (pc := 6) [(3, .int x2), (0, .ref 24), (1, .int p1), (2, .int p2)] dX1_hinders_6 (by decide) rfl ?_
  refine aw_aload_n (pc := 7) (q := 1) dX1_hinders_7 rfl ?_
  refine aw_getC (pc := 8) fd_X1_129 xA_24 rfl dX1_hinders_8 ?_
  refine aw_iload_n (pc := 11) (q := 2) dX1_hinders_11 rfl ?_
  obtain ⟨g3, h⟩ := aw_gde h
  refine aw_iald (pc := 12) xA_29 g3 dX1_hinders_12 ?_
  refine aw_iconst (pc := 13) (v := 3) dX1_hinders_13 (by decide) ?_
  refine aw_icmp_eq (pc := 14) (tgt := 33) dX1_hinders_14 (by decide) (fun c4 => ?_) (fun c4 => ?_)
  · replace h := aw_ifp c4 h
    refine aw_iconst (pc := 33) (v := 1) dX1_hinders_33 (by decide) ?_
    refine aw_goto (pc := 34) (tgt := 38) dX1_hinders_34 (by decide) ?_
    cases h
    subst hE
    exact aw_iret (v := (1 : Int32)) rfl aw_n1 ⟨Nat.zero_le _, Nat.zero_le _⟩ dX1_hinders_38
  · replace h := aw_ifn c4 h
    refine aw_iload_n (pc := 17) (q := 0) dX1_hinders_17 rfl ?_
    refine aw_iload_n (pc := 18) (q := 3) dX1_hinders_18 rfl ?_
    refine aw_icmp_eq (pc := 19) (tgt := 37) dX1_hinders_19 (by decide) (fun c5 => ?_) (fun c5 => ?_)
    · replace h := aw_ifp c5 h
      refine aw_iconst (pc := 37) (v := 0) dX1_hinders_37 (by decide) ?_
      cases h
      subst hE
      exact aw_iret (v := (0 : Int32)) rfl aw_n0 ⟨Nat.zero_le _, Nat.zero_le _⟩ dX1_hinders_38
    · replace h := aw_ifn c5 h
      refine aw_aload_n (pc := 22) (q := 1) dX1_hinders_22 rfl ?_
      refine aw_getC (pc := 23) fd_X1_52 xA_24 rfl dX1_hinders_23 ?_
      refine aw_iload_n (pc := 26) (q := 0) dX1_hinders_26 rfl ?_
      obtain ⟨r6, e7, h⟩ := aw_bde h
      refine aw_cV1 (pc := 27) [.int x2] (c_Ex_isRisky isEx_25 e7) yy_Ex_isRisky.1 wm_478 yy_Ex_isRisky.2.1 yy_Ex_isRisky.2.2 xA_25 ⟨_, _, rfl⟩ rfl ⟨Nat.le_of_ble_eq_true rfl, Nat.le_of_ble_eq_true rfl⟩ ⟨Nat.zero_le _, Nat.zero_le _⟩ (Nat.le_of_ble_eq_true rfl) dX1_hinders_27 ?_
      refine aw_if_eq (pc := 30) (tgt := 37) dX1_hinders_30 (by decide) (fun c8 => ?_) (fun c8 => ?_)
      · replace h := aw_ifp c8 h
        refine aw_iconst (pc := 37) (v := 0) dX1_hinders_37 (by decide) ?_
        cases h
        subst hE
        exact aw_iret (v := (0 : Int32)) rfl aw_n0 ⟨Nat.zero_le _, Nat.zero_le _⟩ dX1_hinders_38
      · replace h := aw_ifn c8 h
        refine aw_iconst (pc := 33) (v := 1) dX1_hinders_33 (by decide) ?_
        refine aw_goto (pc := 34) (tgt := 38) dX1_hinders_34 (by decide) ?_
        cases h
        subst hE
        exact aw_iret (v := (1 : Int32)) rfl aw_n1 ⟨Nat.zero_le _, Nat.zero_le _⟩ dX1_hinders_38
theorem c_Fa_hinders {l : Launch} {G : aw_G} {σ : aw_S} {p1 : Int32} {p2 : Int32} {t : Int32} (h : m_Fa_hinders σ p1 p2 = some t) : aw_Ct l yX1_hinders M_Fa_hinders G B_Fa_hinders [.ref 24, .int p1, .int p2] xA σ (some (.int t), xA, σ) := aw_Ct_of (by decide) rfl (fun h => by cases h) (Nat.le_of_ble_eq_true rfl) (t_Fa_hinders h rfl)
/-! LateMover$Facts.keptAt(LLateMover$Graph;I)I -/
def z_Fa_keptAt_X14 (l : Launch) (G : aw_G) (E : aw_E) (σ : aw_S) (v1 : Int32) (v2 : Int32) (s : Int32 × Int32) : Prop := aw_W l M_Fa_keptAt G B_Fa_keptAt E 14 [(0, .ref 24), (1, .int v1), (2, .int v2), (3, .int s.1), (4, .int s.2)] [] xA σ 0 0
def z_Fa_keptAt_Y14 (l : Launch) (G : aw_G) (E : aw_E) (σ : aw_S) (v1 : Int32) (v2 : Int32) (x : (Int32)) : Prop := aw_W l M_Fa_keptAt G B_Fa_keptAt E 87 [(3, .int x)] [] xA σ 0 0
set_option maxRecDepth 100000 in
set_option maxHeartbeats 4000000 in
theorem t_Fa_keptAt_J81 {l : Launch} {G : aw_G} {E : aw_E} {σ : aw_S} {v1 : Int32} {v2 : Int32} {v3 : Int32} {v4 : Int32} {t : (Int32) ⊕ (Int32 × Int32)} (h : m_Fa_keptAt_J81 σ v1 v2 v3 v4 = some t) (hz : Sum.elim (z_Fa_keptAt_Y14 l G E σ v1 v2) (z_Fa_keptAt_X14 l G E σ v1 v2) t) : aw_W l M_Fa_keptAt G B_Fa_keptAt E 81 [(0, .ref 24), (1, .int v1), (2, .int v2), (3, .int v3), (4, .int v4)] [] xA σ 0 0 := by
  unfold m_Fa_keptAt_J81 at h
  obtain ⟨x10, e_x10⟩ : ∃ z, z = (v4 + (1 : Int32)) := ⟨_, rfl⟩
  replace h := aw_lte h x10 e_x10
  refine aw_iinc (pc := 81) (q := 4) (v := x10) [(4, .int x10), (0, .ref 24), (1, .int v1), (2, .int v2), (3, .int v3)] dX1_keptAt_81 rfl e_x10.symm (by decide) rfl ?_
  refine aw_goto (pc := 84) (tgt := 14) dX1_keptAt_84 (by decide) ?_
  refine aw_sub [1, 2, 3, 4, 0] rfl ?_
  cases h
  exact hz
set_option maxRecDepth 100000 in
set_option maxHeartbeats 4000000 in
theorem t_Fa_keptAt_J74 {l : Launch} {G : aw_G} {E : aw_E} {σ : aw_S} {v1 : Int32} {v2 : Int32} {v3 : Int32} {v4 : Int32} {t : (Int32) ⊕ (Int32 × Int32)} (h : m_Fa_keptAt_J74 σ v1 v2 v3 v4 = some t) (hz : Sum.elim (z_Fa_keptAt_Y14 l G E σ v1 v2) (z_Fa_keptAt_X14 l G E σ v1 v2) t) : aw_W l M_Fa_keptAt G B_Fa_keptAt E 74 [(0, .ref 24), (1, .int v1), (2, .int v2), (3, .int v3), (4, .int v4)] [] xA σ 0 0 := by
  unfold m_Fa_keptAt_J74 at h
  refine aw_iload_n (pc := 74) (q := 3) dX1_keptAt_74 rfl ?_
  refine aw_iconst (pc := 75) (v := 1) dX1_keptAt_75 (by decide) ?_
  refine aw_iload (pc := 76) (q := 4) dX1_keptAt_76 rfl ?_
  refine aw_ishl (pc := 78) dX1_keptAt_78 ?_
  refine aw_ior (pc := 79) dX1_keptAt_79 ?_
  refine aw_nmI (fun x14 e_x14 => ?_)
  replace h := aw_lte h x14 e_x14
  refine aw_istore_n (pc := 80) [(3, .int x14), (0, .ref 24), (1, .int v1), (2, .int v2), (4, .int v4)] dX1_keptAt_80 (by decide) rfl ?_
  refine aw_sub [1, 2, 3, 0, 4] rfl ?_
  exact t_Fa_keptAt_J81 h hz
set_option maxRecDepth 100000 in
set_option maxHeartbeats 4000000 in
theorem t_Fa_keptAt_J45 {l : Launch} {G : aw_G} {E : aw_E} {σ : aw_S} {v1 : Int32} {v2 : Int32} {v3 : Int32} {v4 : Int32} {k0 : Int32} {t : (Int32) ⊕ (Int32 × Int32)} (h : m_Fa_keptAt_J45 σ v1 v2 v3 v4 k0 = some t) (hz : Sum.elim (z_Fa_keptAt_Y14 l G E σ v1 v2) (z_Fa_keptAt_X14 l G E σ v1 v2) t) : aw_W l M_Fa_keptAt G B_Fa_keptAt E 45 [(0, .ref 24), (1, .int v1), (2, .int v2), (3, .int v3), (4, .int v4)] [.int k0] xA σ 0 0 := by
  unfold m_Fa_keptAt_J45 at h
  refine aw_istore (pc := 45) [(5, .int k0), (0, .ref 24), (1, .int v1), (2, .int v2), (3, .int v3), (4, .int v4)] dX1_keptAt_45 (by decide) rfl ?_
  refine aw_iload (pc := 47) (q := 0) dX1_keptAt_47 rfl ?_
  refine aw_if_eq (pc := 49) (tgt := 81) dX1_keptAt_49 (by decide) (fun c9 => ?_) (fun c9 => ?_)
  · replace h := aw_ifp c9 h
    refine aw_sub [1, 2, 3, 4, 5] rfl ?_
    exact t_Fa_keptAt_J81 h hz
  · replace h := aw_ifn c9 h
    refine aw_aload_n (pc := 52) (q := 1) dX1_keptAt_52 rfl ?_
    refine aw_getC (pc := 53) fd_X1_52 xA_24 rfl dX1_keptAt_53 ?_
    refine aw_iload (pc := 56) (q := 5) dX1_keptAt_56 rfl ?_
    obtain ⟨r11, e12, h⟩ := aw_bde h
    refine aw_cV1 (pc := 58) [.int v4] (c_Ex_isRisky isEx_25 e12) yy_Ex_isRisky.1 wm_478 yy_Ex_isRisky.2.1 yy_Ex_isRisky.2.2 xA_25 ⟨_, _, rfl⟩ rfl ⟨Nat.le_of_ble_eq_true rfl, Nat.le_of_ble_eq_true rfl⟩ ⟨Nat.zero_le _, Nat.zero_le _⟩ (Nat.le_of_ble_eq_true rfl) dX1_keptAt_58 ?_
    refine aw_if_eq (pc := 61) (tgt := 74) dX1_keptAt_61 (by decide) (fun c13 => ?_) (fun c13 => ?_)
    · replace h := aw_ifp c13 h
      refine aw_sub [1, 2, 3, 4, 5] rfl ?_
      exact t_Fa_keptAt_J74 h hz
    · replace h := aw_ifn c13 h
      refine aw_aload_n (pc := 64) (q := 1) dX1_keptAt_64 rfl ?_
      refine aw_iload_n (pc := 65) (q := 2) dX1_keptAt_65 rfl ?_
      refine aw_iload (pc := 66) (q := 5) dX1_keptAt_66 rfl ?_
      obtain ⟨r15, e16, h⟩ := aw_bde h
      refine aw_cS1 (pc := 68) [.ref 24, .int v1, .int v4] (c_Fa_hinders e16) yy_Fa_hinders.1 wm_482 yy_Fa_hinders.2 rfl ⟨Nat.le_of_ble_eq_true rfl, Nat.le_of_ble_eq_true rfl⟩ ⟨Nat.zero_le _, Nat.zero_le _⟩ (Nat.le_of_ble_eq_true rfl) dX1_keptAt_68 ?_
      refine aw_if_ne (pc := 71) (tgt := 81) dX1_keptAt_71 (by decide) (fun c17 => ?_) (fun c17 => ?_)
      · replace h := aw_ifn c17 h
        refine aw_sub [1, 2, 3, 4, 5] rfl ?_
        exact t_Fa_keptAt_J81 h hz
      · replace h := aw_ifp c17 h
        refine aw_sub [1, 2, 3, 4, 5] rfl ?_
        exact t_Fa_keptAt_J74 h hz
set_option maxRecDepth 100000 in
set_option maxHeartbeats 4000000 in
theorem t_Fa_keptAt_B14 {l : Launch} {G : aw_G} {E : aw_E} {σ : aw_S} {v1 : Int32} {v2 : Int32} {v3 : Int32} {v4 : Int32} {t : (Int32) ⊕ (Int32 × Int32)} (h : m_Fa_keptAt_B14 σ v1 v2 v3 v4 = some t) (hz : Sum.elim (z_Fa_keptAt_Y14 l G E σ v1 v2) (z_Fa_keptAt_X14 l G E σ v1 v2) t) : aw_W l M_Fa_keptAt G B_Fa_keptAt E 14 [(0, .ref 24), (1, .int v1), (2, .int v2), (3, .int v3), (4, .int v4)] [] xA σ 0 0 := by
  unfold m_Fa_keptAt_B14 at h
  refine aw_iload (pc := 14) (q := 4) dX1_keptAt_14 rfl ?_
  refine aw_aload_n (pc := 16) (q := 0) dX1_keptAt_16 rfl ?_
  refine aw_getC (pc := 17) fd_X1_52 xA_24 rfl dX1_keptAt_17 ?_
  refine aw_getI (pc := 20) fd_X1_58.r xA_25 rfl dX1_keptAt_20 ?_
  refine aw_icmp_ge (pc := 23) (tgt := 87) dX1_keptAt_23 (by decide) (fun c5 => ?_) (fun c5 => ?_)
  · replace h := aw_ifp c5 h
    refine aw_sub [3] rfl ?_
    cases h
    exact hz
  · replace h := aw_ifn c5 h
    refine aw_aload_n (pc := 26) (q := 0) dX1_keptAt_26 rfl ?_
    refine aw_getC (pc := 27) fd_X1_52 xA_24 rfl dX1_keptAt_27 ?_
    refine aw_iload (pc := 30) (q := 4) dX1_keptAt_30 rfl ?_
    obtain ⟨r6, e7, h⟩ := aw_bde h
    refine aw_cV1 (pc := 32) [.int v4] (c_Ex_lettersOf isEx_25 e7) yy_Ex_lettersOf.1 wm_472 yy_Ex_lettersOf.2.1 yy_Ex_lettersOf.2.2 xA_25 ⟨_, _, rfl⟩ rfl ⟨Nat.le_of_ble_eq_true rfl, Nat.le_of_ble_eq_true rfl⟩ ⟨Nat.zero_le _, Nat.zero_le _⟩ (Nat.le_of_ble_eq_true rfl) dX1_keptAt_32 ?_
    refine aw_iload_n (pc := 35) (q := 2) dX1_keptAt_35 rfl ?_
    refine aw_iand (pc := 36) dX1_keptAt_36 ?_
    refine aw_if_ne (pc := 37) (tgt := 44) dX1_keptAt_37 (by decide) (fun c8 => ?_) (fun c8 => ?_)
    · replace h := aw_ifn c8 h
      refine aw_iconst (pc := 44) (v := 0) dX1_keptAt_44 (by decide) ?_
      exact t_Fa_keptAt_J45 h hz
    · replace h := aw_ifp c8 h
      refine aw_iconst (pc := 40) (v := 1) dX1_keptAt_40 (by decide) ?_
      refine aw_goto (pc := 41) (tgt := 45) dX1_keptAt_41 (by decide) ?_
      exact t_Fa_keptAt_J45 h hz
set_option maxRecDepth 100000 in
set_option maxHeartbeats 4000000 in
theorem t_Fa_keptAt {l : Launch} {G : aw_G} {E : aw_E} {σ : aw_S} {p1 : Int32} {t : Int32} (h : m_Fa_keptAt σ p1 = some t) (hE : E = (some (.int t), xA, σ)) : aw_W l M_Fa_keptAt G B_Fa_keptAt E 0 [(0, .ref 24), (1, .int p1)] [] xA σ 0 0 := by
  unfold m_Fa_keptAt at h
  refine aw_aload_n (pc := 0) (q := 0) dX1_keptAt_0 rfl ?_
  refine aw_iload_n (pc := 1) (q := 1) dX1_keptAt_1 rfl ?_
  obtain ⟨r1, e2, h⟩ := aw_bde h
  refine aw_cS1 (pc := 2) [.ref 24, .int p1] (c_Fa_letterChangedAt e2) yy_Fa_letterChangedAt.1 wm_464 yy_Fa_letterChangedAt.2 rfl ⟨Nat.le_of_ble_eq_true rfl, Nat.le_of_ble_eq_true rfl⟩ ⟨Nat.zero_le _, Nat.zero_le _⟩ (Nat.le_of_ble_eq_true rfl) dX1_keptAt_2 ?_
  obtain ⟨r3, e4, h⟩ := aw_bde h
  refine aw_cS1 (pc := 5) [.int r1] (c_Ex_letterBit e4) yy_Ex_letterBit.1 wm_469 yy_Ex_letterBit.2 rfl ⟨Nat.le_of_ble_eq_true rfl, Nat.le_of_ble_eq_true rfl⟩ ⟨Nat.zero_le _, Nat.zero_le _⟩ (Nat.le_of_ble_eq_true rfl) dX1_keptAt_5 ?_
  refine aw_istore_n (pc := 8) [(2, .int r3), (0, .ref 24), (1, .int p1)] dX1_keptAt_8 (by decide) rfl ?_
  refine aw_iconst (pc := 9) (v := 0) dX1_keptAt_9 (by decide) ?_
  refine aw_istore_n (pc := 10) [(3, .int ((0 : Int32))), (2, .int r3), (0, .ref 24), (1, .int p1)] dX1_keptAt_10 (by decide) rfl ?_
  refine aw_iconst (pc := 11) (v := 0) dX1_keptAt_11 (by decide) ?_
  refine aw_istore (pc := 12) [(4, .int ((0 : Int32))), (3, .int ((0 : Int32))), (2, .int r3), (0, .ref 24), (1, .int p1)] dX1_keptAt_12 (by decide) rfl ?_
  obtain ⟨x18, hl19, h⟩ := aw_bde h
  have K20 : z_Fa_keptAt_Y14 l G E σ p1 r3 x18 := by
    show aw_W l M_Fa_keptAt G B_Fa_keptAt E 87 [(3, .int x18)] [] xA σ 0 0
    refine aw_iload_n (pc := 87) (q := 0) dX1_keptAt_87 rfl ?_
    cases h
    subst hE
    exact aw_iret (v := _) rfl aw_ni ⟨Nat.zero_le _, Nat.zero_le _⟩ dX1_keptAt_88
  refine aw_sub [3, 4, 2, 1, 0] rfl ?_
  show z_Fa_keptAt_X14 l G E σ p1 r3 (((0 : Int32), (0 : Int32)))
  exact aw_lp_X (Xp := z_Fa_keptAt_X14 l G E σ p1 r3) (Y := z_Fa_keptAt_Y14 l G E σ p1 r3) hl19 K20 (fun s t hf hz => t_Fa_keptAt_B14 hf hz)
theorem c_Fa_keptAt {l : Launch} {G : aw_G} {σ : aw_S} {p1 : Int32} {t : Int32} (h : m_Fa_keptAt σ p1 = some t) : aw_Ct l yX1_keptAt M_Fa_keptAt G B_Fa_keptAt [.ref 24, .int p1] xA σ (some (.int t), xA, σ) := aw_Ct_of (by decide) rfl (fun h => by cases h) (Nat.le_of_ble_eq_true rfl) (t_Fa_keptAt h rfl)
/-! LateMover$Flow.tell(IIIII)V -/
set_option maxRecDepth 100000 in
set_option maxHeartbeats 4000000 in
theorem t_Fl_tell {l : Launch} {G : aw_G} {E : aw_E} {σ : aw_S} {p1 : Int32} {p2 : Int32} {p3 : Int32} {p4 : Int32} {p5 : Int32} {t : aw_S} (h : m_Fl_tell σ p1 p2 p3 p4 p5 = some t) (hE : E = (none, xA, t)) : aw_W l M_Fl_tell G B_Fl_tell E 0 [(0, .ref 42), (1, .int p1), (2, .int p2), (3, .int p3), (4, .int p4), (5, .int p5)] [] xA σ 0 0 := by
  unfold m_Fl_tell at h
  refine aw_iload_n (pc := 0) (q := 1) dX2_tell_0 rfl ?_
  refine aw_if_lt (pc := 1) (tgt := 41) dX2_tell_1 (by decide) (fun c1 => ?_) (fun c1 => ?_)
  · replace h := aw_ifp c1 h
    cases h
    subst hE
    exact aw_vret rfl ⟨Nat.zero_le _, Nat.zero_le _⟩ dX2_tell_41
  · replace h := aw_ifn c1 h
    refine aw_iload_n (pc := 4) (q := 1) dX2_tell_4 rfl ?_
    refine aw_sipush (pc := 5) (v := 128) dX2_tell_5 (by decide) ?_
    refine aw_icmp_ge (pc := 8) (tgt := 41) dX2_tell_8 (by decide) (fun c2 => ?_) (fun c2 => ?_)
    · replace h := aw_ifp c2 h
      cases h
      subst hE
      exact aw_vret rfl ⟨Nat.zero_le _, Nat.zero_le _⟩ dX2_tell_41
    · replace h := aw_ifn c2 h
      refine aw_aload_n (pc := 11) (q := 0) dX2_tell_11 rfl ?_
      refine aw_getC (pc := 12) fd_X2_9.r xA_42 rfl dX2_tell_12 ?_
      refine aw_iload_n (pc := 15) (q := 1) dX2_tell_15 rfl ?_
      refine aw_iload_n (pc := 16) (q := 2) dX2_tell_16 rfl ?_
      obtain ⟨g3, h⟩ := aw_gde h
      refine aw_iast (pc := 17) xA_43 g3 dX2_tell_17 ?_
      refine aw_nmS (fun s4 e_s4 => ?_)
      replace h := aw_lte h s4 e_s4
      refine aw_aload_n (pc := 18) (q := 0) dX2_tell_18 rfl ?_
      refine aw_getC (pc := 19) fd_X2_15.r xA_42 rfl dX2_tell_19 ?_
      refine aw_iload_n (pc := 22) (q := 1) dX2_tell_22 rfl ?_
      refine aw_iload_n (pc := 23) (q := 3) dX2_tell_23 rfl ?_
      obtain ⟨g5, h⟩ := aw_gde h
      refine aw_iast (pc := 24) xA_44 g5 dX2_tell_24 ?_
      refine aw_nmS (fun s6 e_s6 => ?_)
      replace h := aw_lte h s6 e_s6
      refine aw_aload_n (pc := 25) (q := 0) dX2_tell_25 rfl ?_
      refine aw_getC (pc := 26) fd_X2_18.r xA_42 rfl dX2_tell_26 ?_
      refine aw_iload_n (pc := 29) (q := 1) dX2_tell_29 rfl ?_
      refine aw_iload (pc := 30) (q := 4) dX2_tell_30 rfl ?_
      obtain ⟨g7, h⟩ := aw_gde h
      refine aw_iast (pc := 32) xA_45 g7 dX2_tell_32 ?_
      refine aw_nmS (fun s8 e_s8 => ?_)
      replace h := aw_lte h s8 e_s8
      refine aw_aload_n (pc := 33) (q := 0) dX2_tell_33 rfl ?_
      refine aw_getC (pc := 34) fd_X2_21.r xA_42 rfl dX2_tell_34 ?_
      refine aw_iload_n (pc := 37) (q := 1) dX2_tell_37 rfl ?_
      refine aw_iload (pc := 38) (q := 5) dX2_tell_38 rfl ?_
      obtain ⟨g9, h⟩ := aw_gde h
      refine aw_iast (pc := 40) xA_46 g9 dX2_tell_40 ?_
      refine aw_nmS (fun s10 e_s10 => ?_)
      replace h := aw_lte h s10 e_s10
      cases h
      subst hE
      exact aw_vret rfl ⟨Nat.zero_le _, Nat.zero_le _⟩ dX2_tell_41
theorem c_Fl_tell {l : Launch} {G : aw_G} {σ : aw_S} {p1 : Int32} {p2 : Int32} {p3 : Int32} {p4 : Int32} {p5 : Int32} {t : aw_S} (h : m_Fl_tell σ p1 p2 p3 p4 p5 = some t) : aw_Ct l yX2_tell M_Fl_tell G B_Fl_tell [.ref 42, .int p1, .int p2, .int p3, .int p4, .int p5] xA σ (none, xA, t) := aw_Ct_of (by decide) rfl (fun h => by cases h) (Nat.le_of_ble_eq_true rfl) (t_Fl_tell h rfl)
/-! LateMover$Graph.edgesTo(I)I -/
set_option maxRecDepth 100000 in
set_option maxHeartbeats 4000000 in
theorem t_Gr_edgesTo {l : Launch} {G : aw_G} {E : aw_E} {σ : aw_S} {p1 : Int32} {t : Int32} (h : m_Gr_edgesTo σ p1 = some t) (hE : E = (some (.int t), xA, σ)) : aw_W l M_Gr_edgesTo G B_Gr_edgesTo E 0 [(0, .ref 24), (1, .int p1)] [] xA σ 0 0 := by
  unfold m_Gr_edgesTo at h
  refine aw_aload_n (pc := 0) (q := 0) dX3_edgesTo_0 rfl ?_
  refine aw_iload_n (pc := 1) (q := 1) dX3_edgesTo_1 rfl ?_
  obtain ⟨r1, e2, h⟩ := aw_bde h
  refine aw_cV1 (pc := 2) [.int p1] (c_Gr_isNode e2) yy_Gr_isNode.1 wm_427 yy_Gr_isNode.2.1 yy_Gr_isNode.2.2 xA_24 ⟨_, _, rfl⟩ rfl ⟨Nat.le_of_ble_eq_true rfl, Nat.le_of_ble_eq_true rfl⟩ ⟨Nat.zero_le _, Nat.zero_le _⟩ (Nat.le_of_ble_eq_true rfl) dX3_edgesTo_2 ?_
  refine aw_if_eq (pc := 5) (tgt := 26) dX3_edgesTo_5 (by decide) (fun c3 => ?_) (fun c3 => ?_)
  · replace h := aw_ifp c3 h
    refine aw_iconst (pc := 26) (v := 0) dX3_edgesTo_26 (by decide) ?_
    cases h
    subst hE
    exact aw_iret (v := (0 : Int32)) rfl aw_ni ⟨Nat.zero_le _, Nat.zero_le _⟩ dX3_edgesTo_27
  · replace h := aw_ifn c3 h
    refine aw_aload_n (pc := 8) (q := 0) dX3_edgesTo_8 rfl ?_
    refine aw_getC (pc := 9) fd_X3_49.r xA_24 rfl dX3_edgesTo_9 ?_
    refine aw_iload_n (pc := 12) (q := 1) dX3_edgesTo_12 rfl ?_
    refine aw_iconst (pc := 13) (v := 1) dX3_edgesTo_13 (by decide) ?_
    refine aw_iadd (pc := 14) dX3_edgesTo_14 ?_
    obtain ⟨g4, h⟩ := aw_gde h
    refine aw_iald (pc := 15) xA_39 g4 dX3_edgesTo_15 ?_
    refine aw_aload_n (pc := 16) (q := 0) dX3_edgesTo_16 rfl ?_
    refine aw_getC (pc := 17) fd_X3_49.r xA_24 rfl dX3_edgesTo_17 ?_
    refine aw_iload_n (pc := 20) (q := 1) dX3_edgesTo_20 rfl ?_
    obtain ⟨g5, h⟩ := aw_gde h
    refine aw_iald (pc := 21) xA_39 g5 dX3_edgesTo_21 ?_
    refine aw_isub (pc := 22) dX3_edgesTo_22 ?_
    refine aw_goto (pc := 23) (tgt := 27) dX3_edgesTo_23 (by decide) ?_
    cases h
    subst hE
    exact aw_iret (v := ((σ.1 39 ((p1 + (1 : Int32))).toNatClampNeg) - (σ.1 39 p1.toNatClampNeg))) rfl aw_ni ⟨Nat.zero_le _, Nat.zero_le _⟩ dX3_edgesTo_27
theorem c_Gr_edgesTo {l : Launch} {G : aw_G} {σ : aw_S} {p1 : Int32} {t : Int32} (h : m_Gr_edgesTo σ p1 = some t) : aw_Ct l yX3_edgesTo M_Gr_edgesTo G B_Gr_edgesTo [.ref 24, .int p1] xA σ (some (.int t), xA, σ) := aw_Ct_of (by decide) rfl (fun h => by cases h) (Nat.le_of_ble_eq_true rfl) (t_Gr_edgesTo h rfl)
/-! LateMover$Graph.kthSource(II)I -/
set_option maxRecDepth 100000 in
set_option maxHeartbeats 4000000 in
theorem t_Gr_kthSource {l : Launch} {G : aw_G} {E : aw_E} {σ : aw_S} {p1 : Int32} {p2 : Int32} {t : Int32} (h : m_Gr_kthSource σ p1 p2 = some t) (hE : E = (some (.int t), xA, σ)) : aw_W l M_Gr_kthSource G B_Gr_kthSource E 0 [(0, .ref 24), (1, .int p1), (2, .int p2)] [] xA σ 0 0 := by
  unfold m_Gr_kthSource at h
  refine aw_aload_n (pc := 0) (q := 0) dX3_kthSource_0 rfl ?_
  refine aw_iload_n (pc := 1) (q := 1) dX3_kthSource_1 rfl ?_
  obtain ⟨r1, e2, h⟩ := aw_bde h
  refine aw_cV1 (pc := 2) [.int p1] (c_Gr_isNode e2) yy_Gr_isNode.1 wm_427 yy_Gr_isNode.2.1 yy_Gr_isNode.2.2 xA_24 ⟨_, _, rfl⟩ rfl ⟨Nat.le_of_ble_eq_true rfl, Nat.le_of_ble_eq_true rfl⟩ ⟨Nat.zero_le _, Nat.zero_le _⟩ (Nat.le_of_ble_eq_true rfl) dX3_kthSource_2 ?_
  refine aw_if_eq (pc := 5) (tgt := 31) dX3_kthSource_5 (by decide) (fun c3 => ?_) (fun c3 => ?_)
  · replace h := aw_ifp c3 h
    refine aw_iconst (pc := 31) (v := -1) dX3_kthSource_31 (by decide) ?_
    cases h
    subst hE
    exact aw_iret (v := (-1 : Int32)) rfl aw_ni ⟨Nat.zero_le _, Nat.zero_le _⟩ dX3_kthSource_32
  · replace h := aw_ifn c3 h
    refine aw_iload_n (pc := 8) (q := 2) dX3_kthSource_8 rfl ?_
    refine aw_if_lt (pc := 9) (tgt := 31) dX3_kthSource_9 (by decide) (fun c4 => ?_) (fun c4 => ?_)
    · replace h := aw_ifp c4 h
      refine aw_iconst (pc := 31) (v := -1) dX3_kthSource_31 (by decide) ?_
      cases h
      subst hE
      exact aw_iret (v := (-1 : Int32)) rfl aw_ni ⟨Nat.zero_le _, Nat.zero_le _⟩ dX3_kthSource_32
    · replace h := aw_ifn c4 h
      refine aw_iload_n (pc := 12) (q := 2) dX3_kthSource_12 rfl ?_
      refine aw_aload_n (pc := 13) (q := 0) dX3_kthSource_13 rfl ?_
      refine aw_getC (pc := 14) fd_X3_49.r xA_24 rfl dX3_kthSource_14 ?_
      refine aw_iload_n (pc := 17) (q := 1) dX3_kthSource_17 rfl ?_
      refine aw_iconst (pc := 18) (v := 1) dX3_kthSource_18 (by decide) ?_
      refine aw_iadd (pc := 19) dX3_kthSource_19 ?_
      obtain ⟨g5, h⟩ := aw_gde h
      refine aw_iald (pc := 20) xA_39 g5 dX3_kthSource_20 ?_
      refine aw_aload_n (pc := 21) (q := 0) dX3_kthSource_21 rfl ?_
      refine aw_getC (pc := 22) fd_X3_49.r xA_24 rfl dX3_kthSource_22 ?_
      refine aw_iload_n (pc := 25) (q := 1) dX3_kthSource_25 rfl ?_
      obtain ⟨g6, h⟩ := aw_gde h
      refine aw_iald (pc := 26) xA_39 g6 dX3_kthSource_26 ?_
      refine aw_isub (pc := 27) dX3_kthSource_27 ?_
      refine aw_icmp_lt (pc := 28) (tgt := 33) dX3_kthSource_28 (by decide) (fun c7 => ?_) (fun c7 => ?_)
      · replace h := aw_ifp c7 h
        refine aw_aload_n (pc := 33) (q := 0) dX3_kthSource_33 rfl ?_
        refine aw_getC (pc := 34) fd_X3_49.r xA_24 rfl dX3_kthSource_34 ?_
        refine aw_iload_n (pc := 37) (q := 1) dX3_kthSource_37 rfl ?_
        obtain ⟨g8, h⟩ := aw_gde h
        refine aw_iald (pc := 38) xA_39 g8 dX3_kthSource_38 ?_
        refine aw_iload_n (pc := 39) (q := 2) dX3_kthSource_39 rfl ?_
        refine aw_iadd (pc := 40) dX3_kthSource_40 ?_
        refine aw_nmI (fun x9 e_x9 => ?_)
        replace h := aw_lte h x9 e_x9
        refine aw_istore_n (pc := 41) [(3, .int x9), (0, .ref 24), (1, .int p1), (2, .int p2)] dX3_kthSource_41 (by decide) rfl ?_
        refine aw_iload_n (pc := 42) (q := 0) dX3_kthSource_42 rfl ?_
        refine aw_if_lt (pc := 43) (tgt := 62) dX3_kthSource_43 (by decide) (fun c10 => ?_) (fun c10 => ?_)
        · replace h := aw_ifp c10 h
          refine aw_iconst (pc := 62) (v := -1) dX3_kthSource_62 (by decide) ?_
          cases h
          subst hE
          exact aw_iret (v := (-1 : Int32)) rfl aw_ni ⟨Nat.zero_le _, Nat.zero_le _⟩ dX3_kthSource_63
        · replace h := aw_ifn c10 h
          refine aw_iload_n (pc := 46) (q := 0) dX3_kthSource_46 rfl ?_
          refine aw_sipush (pc := 47) (v := 256) dX3_kthSource_47 (by decide) ?_
          refine aw_icmp_ge (pc := 50) (tgt := 62) dX3_kthSource_50 (by decide) (fun c11 => ?_) (fun c11 => ?_)
          · replace h := aw_ifp c11 h
            refine aw_iconst (pc := 62) (v := -1) dX3_kthSource_62 (by decide) ?_
            cases h
            subst hE
            exact aw_iret (v := (-1 : Int32)) rfl aw_ni ⟨Nat.zero_le _, Nat.zero_le _⟩ dX3_kthSource_63
          · replace h := aw_ifn c11 h
            refine aw_aload_n (pc := 53) (q := 1) dX3_kthSource_53 rfl ?_
            refine aw_getC (pc := 54) fd_X3_46.r xA_24 rfl dX3_kthSource_54 ?_
            refine aw_iload_n (pc := 57) (q := 0) dX3_kthSource_57 rfl ?_
            obtain ⟨g12, h⟩ := aw_gde h
            refine aw_iald (pc := 58) xA_38 g12 dX3_kthSource_58 ?_
            refine aw_goto (pc := 59) (tgt := 63) dX3_kthSource_59 (by decide) ?_
            cases h
            subst hE
            exact aw_iret (v := (σ.1 38 x9.toNatClampNeg)) rfl aw_ni ⟨Nat.zero_le _, Nat.zero_le _⟩ dX3_kthSource_63
      · replace h := aw_ifn c7 h
        refine aw_iconst (pc := 31) (v := -1) dX3_kthSource_31 (by decide) ?_
        cases h
        subst hE
        exact aw_iret (v := (-1 : Int32)) rfl aw_ni ⟨Nat.zero_le _, Nat.zero_le _⟩ dX3_kthSource_32
theorem c_Gr_kthSource {l : Launch} {G : aw_G} {σ : aw_S} {p1 : Int32} {p2 : Int32} {t : Int32} (h : m_Gr_kthSource σ p1 p2 = some t) : aw_Ct l yX3_kthSource M_Gr_kthSource G B_Gr_kthSource [.ref 24, .int p1, .int p2] xA σ (some (.int t), xA, σ) := aw_Ct_of (by decide) rfl (fun h => by cases h) (Nat.le_of_ble_eq_true rfl) (t_Gr_kthSource h rfl)
/-! LateMover$Flow.side(LLateMover$Graph;[II)I -/
set_option maxRecDepth 100000 in
set_option maxHeartbeats 4000000 in
theorem t_Fl_side {l : Launch} {G : aw_G} {E : aw_E} {σ : aw_S} {p2 : Nat} {p3 : Int32} (h_p2 : xA[p2]? = some (.inr (0, 128, aw_no))) {t : Int32} (h : m_Fl_side σ p2 p3 = some t) (hE : E = (some (.int t), xA, σ)) : aw_W l M_Fl_side G B_Fl_side E 0 [(0, .ref 42), (1, .ref 24), (2, .ref p2), (3, .int p3)] [] xA σ 0 0 := by
  unfold m_Fl_side at h
  refine aw_aload_n (pc := 0) (q := 1) dX2_side_0 rfl ?_
  refine aw_iload_n (pc := 1) (q := 3) dX2_side_1 rfl ?_
  obtain ⟨r1, e2, h⟩ := aw_bde h
  refine aw_cV1 (pc := 2) [.int p3] (c_Gr_isNode e2) yy_Gr_isNode.1 wm_522 yy_Gr_isNode.2.1 yy_Gr_isNode.2.2 xA_24 ⟨_, _, rfl⟩ rfl ⟨Nat.le_of_ble_eq_true rfl, Nat.le_of_ble_eq_true rfl⟩ ⟨Nat.zero_le _, Nat.zero_le _⟩ (Nat.le_of_ble_eq_true rfl) dX2_side_2 ?_
  refine aw_if_eq (pc := 5) (tgt := 28) dX2_side_5 (by decide) (fun c3 => ?_) (fun c3 => ?_)
  · replace h := aw_ifp c3 h
    refine aw_iconst (pc := 28) (v := 0) dX2_side_28 (by decide) ?_
    cases h
    subst hE
    exact aw_iret (v := (0 : Int32)) rfl aw_ni ⟨Nat.zero_le _, Nat.zero_le _⟩ dX2_side_29
  · replace h := aw_ifn c3 h
    refine aw_aload_n (pc := 8) (q := 0) dX2_side_8 rfl ?_
    refine aw_getC (pc := 9) fd_X2_18.r xA_42 rfl dX2_side_9 ?_
    refine aw_iload_n (pc := 12) (q := 3) dX2_side_12 rfl ?_
    obtain ⟨g4, h⟩ := aw_gde h
    refine aw_iald (pc := 13) xA_45 g4 dX2_side_13 ?_
    refine aw_aload_n (pc := 14) (q := 0) dX2_side_14 rfl ?_
    refine aw_getC (pc := 15) fd_X2_21.r xA_42 rfl dX2_side_15 ?_
    refine aw_iload_n (pc := 18) (q := 3) dX2_side_18 rfl ?_
    obtain ⟨g5, h⟩ := aw_gde h
    refine aw_iald (pc := 19) xA_46 g5 dX2_side_19 ?_
    refine aw_aload_n (pc := 20) (q := 2) dX2_side_20 rfl ?_
    refine aw_iload_n (pc := 21) (q := 3) dX2_side_21 rfl ?_
    obtain ⟨g6, h⟩ := aw_gde h
    refine aw_iald (pc := 22) h_p2 g6 dX2_side_22 ?_
    refine aw_iand (pc := 23) dX2_side_23 ?_
    refine aw_ior (pc := 24) dX2_side_24 ?_
    refine aw_goto (pc := 25) (tgt := 29) dX2_side_25 (by decide) ?_
    cases h
    subst hE
    exact aw_iret (v := ((σ.1 45 p3.toNatClampNeg) ||| ((σ.1 46 p3.toNatClampNeg) &&& (σ.1 p2 p3.toNatClampNeg)))) rfl aw_ni ⟨Nat.zero_le _, Nat.zero_le _⟩ dX2_side_29
theorem c_Fl_side {l : Launch} {G : aw_G} {σ : aw_S} {p2 : Nat} {p3 : Int32} (h_p2 : xA[p2]? = some (.inr (0, 128, aw_no))) {t : Int32} (h : m_Fl_side σ p2 p3 = some t) : aw_Ct l yX2_side M_Fl_side G B_Fl_side [.ref 42, .ref 24, .ref p2, .int p3] xA σ (some (.int t), xA, σ) := aw_Ct_of (by decide) rfl (fun h => by cases h) (Nat.le_of_ble_eq_true rfl) (t_Fl_side h_p2 h rfl)
/-! LateMover$Graph.kthTarget(II)I -/
set_option maxRecDepth 100000 in
set_option maxHeartbeats 4000000 in
theorem t_Gr_kthTarget {l : Launch} {G : aw_G} {E : aw_E} {σ : aw_S} {p1 : Int32} {p2 : Int32} {t : Int32} (h : m_Gr_kthTarget σ p1 p2 = some t) (hE : E = (some (.int t), xA, σ)) : aw_W l M_Gr_kthTarget G B_Gr_kthTarget E 0 [(0, .ref 24), (1, .int p1), (2, .int p2)] [] xA σ 0 0 := by
  unfold m_Gr_kthTarget at h
  refine aw_aload_n (pc := 0) (q := 0) dX3_kthTarget_0 rfl ?_
  refine aw_iload_n (pc := 1) (q := 1) dX3_kthTarget_1 rfl ?_
  obtain ⟨r1, e2, h⟩ := aw_bde h
  refine aw_cV1 (pc := 2) [.int p1] (c_Gr_isNode e2) yy_Gr_isNode.1 wm_427 yy_Gr_isNode.2.1 yy_Gr_isNode.2.2 xA_24 ⟨_, _, rfl⟩ rfl ⟨Nat.le_of_ble_eq_true rfl, Nat.le_of_ble_eq_true rfl⟩ ⟨Nat.zero_le _, Nat.zero_le _⟩ (Nat.le_of_ble_eq_true rfl) dX3_kthTarget_2 ?_
  refine aw_if_ne (pc := 5) (tgt := 10) dX3_kthTarget_5 (by decide) (fun c3 => ?_) (fun c3 => ?_)
  · replace h := aw_ifn c3 h
    refine aw_iload_n (pc := 10) (q := 2) dX3_kthTarget_10 rfl ?_
    refine aw_if_ne (pc := 11) (tgt := 23) dX3_kthTarget_11 (by decide) (fun c4 => ?_) (fun c4 => ?_)
    · replace h := aw_ifn c4 h
      refine aw_aload_n (pc := 23) (q := 0) dX3_kthTarget_23 rfl ?_
      refine aw_getC (pc := 24) fd_X3_43.r xA_24 rfl dX3_kthTarget_24 ?_
      refine aw_iload_n (pc := 27) (q := 1) dX3_kthTarget_27 rfl ?_
      obtain ⟨g5, h⟩ := aw_gde h
      refine aw_iald (pc := 28) xA_37 g5 dX3_kthTarget_28 ?_
      cases h
      subst hE
      exact aw_iret (v := (σ.1 37 p1.toNatClampNeg)) rfl aw_ni ⟨Nat.zero_le _, Nat.zero_le _⟩ dX3_kthTarget_29
    · replace h := aw_ifp c4 h
      refine aw_aload_n (pc := 14) (q := 0) dX3_kthTarget_14 rfl ?_
      refine aw_getC (pc := 15) fd_X3_40.r xA_24 rfl dX3_kthTarget_15 ?_
      refine aw_iload_n (pc := 18) (q := 1) dX3_kthTarget_18 rfl ?_
      obtain ⟨g6, h⟩ := aw_gde h
      refine aw_iald (pc := 19) xA_36 g6 dX3_kthTarget_19 ?_
      refine aw_goto (pc := 20) (tgt := 29) dX3_kthTarget_20 (by decide) ?_
      cases h
      subst hE
      exact aw_iret (v := (σ.1 36 p1.toNatClampNeg)) rfl aw_ni ⟨Nat.zero_le _, Nat.zero_le _⟩ dX3_kthTarget_29
  · replace h := aw_ifp c3 h
    refine aw_iconst (pc := 8) (v := -1) dX3_kthTarget_8 (by decide) ?_
    cases h
    subst hE
    exact aw_iret (v := (-1 : Int32)) rfl aw_ni ⟨Nat.zero_le _, Nat.zero_le _⟩ dX3_kthTarget_9
theorem c_Gr_kthTarget {l : Launch} {G : aw_G} {σ : aw_S} {p1 : Int32} {p2 : Int32} {t : Int32} (h : m_Gr_kthTarget σ p1 p2 = some t) : aw_Ct l yX3_kthTarget M_Gr_kthTarget G B_Gr_kthTarget [.ref 24, .int p1, .int p2] xA σ (some (.int t), xA, σ) := aw_Ct_of (by decide) rfl (fun h => by cases h) (Nat.le_of_ble_eq_true rfl) (t_Gr_kthTarget h rfl)
/-! LateMover$Flow.inOne(LLateMover$Graph;[IIZ)I -/
def z_Fl_inOne_X26 (l : Launch) (G : aw_G) (E : aw_E) (σ : aw_S) (v2 : Nat) (v3 : Int32) (v4 : Int32) (v6 : Int32) (s : Int32 × Int32) : Prop := aw_W l M_Fl_inOne G B_Fl_inOne E 26 [(0, .ref 42), (1, .ref 24), (2, .ref v2), (3, .int v3), (4, .int v4), (5, .int s.1), (6, .int v6), (7, .int s.2)] [] xA σ 0 0
def z_Fl_inOne_Y26 (l : Launch) (G : aw_G) (E : aw_E) (σ : aw_S) (v2 : Nat) (v3 : Int32) (v4 : Int32) (v6 : Int32) (x : (Int32)) : Prop := aw_W l M_Fl_inOne G B_Fl_inOne E 72 [(5, .int x)] [] xA σ 0 0
set_option maxRecDepth 100000 in
set_option maxHeartbeats 4000000 in
theorem t_Fl_inOne_J60 {l : Launch} {G : aw_G} {E : aw_E} {σ : aw_S} {v2 : Nat} {v3 : Int32} {v4 : Int32} {v6 : Int32} {v7 : Int32} {k0 : Int32} {k3 : Nat} {k4 : Int32} (h_v2 : xA[v2]? = some (.inr (0, 128, aw_no))) (h_k3 : xA[k3]? = some (.inr (0, 128, aw_no))) {t : (Int32) ⊕ (Int32 × Int32)} (h : m_Fl_inOne_J60 σ v2 v3 v4 v6 v7 k0 k3 k4 = some t) (hz : Sum.elim (z_Fl_inOne_Y26 l G E σ v2 v3 v4 v6) (z_Fl_inOne_X26 l G E σ v2 v3 v4 v6) t) : aw_W l M_Fl_inOne G B_Fl_inOne E 60 [(0, .ref 42), (1, .ref 24), (2, .ref v2), (3, .int v3), (4, .int v4), (6, .int v6), (7, .int v7)] [.int k4, .ref k3, .ref 24, .ref 42, .int k0] xA σ 0 0 := by
  unfold m_Fl_inOne_J60 at h
  obtain ⟨r8, e9, h⟩ := aw_bde h
  refine aw_cV1 (pc := 60) [.ref 24, .ref k3, .int k4] (c_Fl_side h_k3 e9) yy_Fl_side.1 wm_518 yy_Fl_side.2.1 yy_Fl_side.2.2 xA_42 ⟨_, _, rfl⟩ rfl ⟨Nat.le_of_ble_eq_true rfl, Nat.le_of_ble_eq_true rfl⟩ ⟨Nat.zero_le _, Nat.zero_le _⟩ (Nat.le_of_ble_eq_true rfl) dX2_inOne_60 ?_
  refine aw_ior (pc := 63) dX2_inOne_63 ?_
  refine aw_nmI (fun x10 e_x10 => ?_)
  replace h := aw_lte h x10 e_x10
  refine aw_istore (pc := 64) [(5, .int x10), (0, .ref 42), (1, .ref 24), (2, .ref v2), (3, .int v3), (4, .int v4), (6, .int v6), (7, .int v7)] dX2_inOne_64 (by decide) rfl ?_
  obtain ⟨x11, e_x11⟩ : ∃ z, z = (v7 + (1 : Int32)) := ⟨_, rfl⟩
  replace h := aw_lte h x11 e_x11
  refine aw_iinc (pc := 66) (q := 7) (v := x11) [(7, .int x11), (5, .int x10), (0, .ref 42), (1, .ref 24), (2, .ref v2), (3, .int v3), (4, .int v4), (6, .int v6)] dX2_inOne_66 rfl e_x11.symm (by decide) rfl ?_
  refine aw_goto (pc := 69) (tgt := 26) dX2_inOne_69 (by decide) ?_
  refine aw_sub [2, 3, 4, 5, 6, 1, 7, 0] rfl ?_
  cases h
  exact hz
set_option maxRecDepth 100000 in
set_option maxHeartbeats 4000000 in
theorem t_Fl_inOne_B26 {l : Launch} {G : aw_G} {E : aw_E} {σ : aw_S} {v2 : Nat} {v3 : Int32} {v4 : Int32} {v6 : Int32} {v5 : Int32} {v7 : Int32} (h_v2 : xA[v2]? = some (.inr (0, 128, aw_no))) {t : (Int32) ⊕ (Int32 × Int32)} (h : m_Fl_inOne_B26 σ v2 v3 v4 v6 v5 v7 = some t) (hz : Sum.elim (z_Fl_inOne_Y26 l G E σ v2 v3 v4 v6) (z_Fl_inOne_X26 l G E σ v2 v3 v4 v6) t) : aw_W l M_Fl_inOne G B_Fl_inOne E 26 [(0, .ref 42), (1, .ref 24), (2, .ref v2), (3, .int v3), (4, .int v4), (5, .int v5), (6, .int v6), (7, .int v7)] [] xA σ 0 0 := by
  unfold m_Fl_inOne_B26 at h
  refine aw_iload (pc := 26) (q := 7) dX2_inOne_26 rfl ?_
  refine aw_iload (pc := 28) (q := 6) dX2_inOne_28 rfl ?_
  refine aw_icmp_ge (pc := 30) (tgt := 72) dX2_inOne_30 (by decide) (fun c4 => ?_) (fun c4 => ?_)
  · replace h := aw_ifp c4 h
    refine aw_sub [5] rfl ?_
    cases h
    exact hz
  · replace h := aw_ifn c4 h
    refine aw_iload (pc := 33) (q := 5) dX2_inOne_33 rfl ?_
    refine aw_aload_n (pc := 35) (q := 0) dX2_inOne_35 rfl ?_
    refine aw_aload_n (pc := 36) (q := 1) dX2_inOne_36 rfl ?_
    refine aw_aload_n (pc := 37) (q := 2) dX2_inOne_37 rfl ?_
    refine aw_iload (pc := 38) (q := 4) dX2_inOne_38 rfl ?_
    refine aw_if_eq (pc := 40) (tgt := 53) dX2_inOne_40 (by decide) (fun c5 => ?_) (fun c5 => ?_)
    · replace h := aw_ifp c5 h
      refine aw_aload_n (pc := 53) (q := 1) dX2_inOne_53 rfl ?_
      refine aw_iload_n (pc := 54) (q := 3) dX2_inOne_54 rfl ?_
      refine aw_iload (pc := 55) (q := 7) dX2_inOne_55 rfl ?_
      obtain ⟨r6, e7, h⟩ := aw_bde h
      refine aw_cV1 (pc := 57) [.int v3, .int v7] (c_Gr_kthSource e7) yy_Gr_kthSource.1 wm_514 yy_Gr_kthSource.2.1 yy_Gr_kthSource.2.2 xA_24 ⟨_, _, rfl⟩ rfl ⟨Nat.le_of_ble_eq_true rfl, Nat.le_of_ble_eq_true rfl⟩ ⟨Nat.zero_le _, Nat.zero_le _⟩ (Nat.le_of_ble_eq_true rfl) dX2_inOne_57 ?_
      refine aw_sub [0, 1, 2, 3, 4, 6, 7] rfl ?_
      exact t_Fl_inOne_J60 h_v2 h_v2 h hz
    · replace h := aw_ifn c5 h
      refine aw_aload_n (pc := 43) (q := 1) dX2_inOne_43 rfl ?_
      refine aw_iload_n (pc := 44) (q := 3) dX2_inOne_44 rfl ?_
      refine aw_iload (pc := 45) (q := 7) dX2_inOne_45 rfl ?_
      obtain ⟨r12, e13, h⟩ := aw_bde h
      refine aw_cV1 (pc := 47) [.int v3, .int v7] (c_Gr_kthTarget e13) yy_Gr_kthTarget.1 wm_510 yy_Gr_kthTarget.2.1 yy_Gr_kthTarget.2.2 xA_24 ⟨_, _, rfl⟩ rfl ⟨Nat.le_of_ble_eq_true rfl, Nat.le_of_ble_eq_true rfl⟩ ⟨Nat.zero_le _, Nat.zero_le _⟩ (Nat.le_of_ble_eq_true rfl) dX2_inOne_47 ?_
      refine aw_goto (pc := 50) (tgt := 60) dX2_inOne_50 (by decide) ?_
      refine aw_sub [0, 1, 2, 3, 4, 6, 7] rfl ?_
      exact t_Fl_inOne_J60 h_v2 h_v2 h hz
set_option maxRecDepth 100000 in
set_option maxHeartbeats 4000000 in
theorem t_Fl_inOne_J21 {l : Launch} {G : aw_G} {E : aw_E} {σ : aw_S} {v2 : Nat} {v3 : Int32} {v4 : Int32} {v5 : Int32} {k0 : Int32} (h_v2 : xA[v2]? = some (.inr (0, 128, aw_no))) {t : Int32} (h : m_Fl_inOne_J21 σ v2 v3 v4 v5 k0 = some t) (hE : E = (some (.int t), xA, σ)) : aw_W l M_Fl_inOne G B_Fl_inOne E 21 [(0, .ref 42), (1, .ref 24), (2, .ref v2), (3, .int v3), (4, .int v4), (5, .int v5)] [.int k0] xA σ 0 0 := by
  unfold m_Fl_inOne_J21 at h
  refine aw_istore (pc := 21) [(6, .int k0), (0, .ref 42), (1, .ref 24), (2, .ref v2), (3, .int v3), (4, .int v4), (5, .int v5)] dX2_inOne_21 (by decide) rfl ?_
  refine aw_iconst (pc := 23) (v := 0) dX2_inOne_23 (by decide) ?_
  refine aw_istore (pc := 24) [(7, .int ((0 : Int32))), (6, .int k0), (0, .ref 42), (1, .ref 24), (2, .ref v2), (3, .int v3), (4, .int v4), (5, .int v5)] dX2_inOne_24 (by decide) rfl ?_
  obtain ⟨x14, hl15, h⟩ := aw_bde h
  have K16 : z_Fl_inOne_Y26 l G E σ v2 v3 v4 k0 x14 := by
    show aw_W l M_Fl_inOne G B_Fl_inOne E 72 [(5, .int x14)] [] xA σ 0 0
    refine aw_iload (pc := 72) (q := 0) dX2_inOne_72 rfl ?_
    cases h
    subst hE
    exact aw_iret (v := _) rfl aw_ni ⟨Nat.zero_le _, Nat.zero_le _⟩ dX2_inOne_74
  refine aw_sub [2, 3, 4, 5, 6, 7, 1, 0] rfl ?_
  show z_Fl_inOne_X26 l G E σ v2 v3 v4 k0 ((v5, (0 : Int32)))
  exact aw_lp_X (Xp := z_Fl_inOne_X26 l G E σ v2 v3 v4 k0) (Y := z_Fl_inOne_Y26 l G E σ v2 v3 v4 k0) hl15 K16 (fun s t hf hz => t_Fl_inOne_B26 h_v2 hf hz)
set_option maxRecDepth 100000 in
set_option maxHeartbeats 4000000 in
theorem t_Fl_inOne {l : Launch} {G : aw_G} {E : aw_E} {σ : aw_S} {p2 : Nat} {p3 : Int32} {p4 : Int32} (h_p2 : xA[p2]? = some (.inr (0, 128, aw_no))) {t : Int32} (h : m_Fl_inOne σ p2 p3 p4 = some t) (hE : E = (some (.int t), xA, σ)) : aw_W l M_Fl_inOne G B_Fl_inOne E 0 [(0, .ref 42), (1, .ref 24), (2, .ref p2), (3, .int p3), (4, .int p4)] [] xA σ 0 0 := by
  unfold m_Fl_inOne at h
  refine aw_iconst (pc := 0) (v := 0) dX2_inOne_0 (by decide) ?_
  refine aw_istore (pc := 1) [(5, .int ((0 : Int32))), (0, .ref 42), (1, .ref 24), (2, .ref p2), (3, .int p3), (4, .int p4)] dX2_inOne_1 (by decide) rfl ?_
  refine aw_iload (pc := 3) (q := 5) dX2_inOne_3 rfl ?_
  refine aw_if_eq (pc := 5) (tgt := 16) dX2_inOne_5 (by decide) (fun c1 => ?_) (fun c1 => ?_)
  · replace h := aw_ifp c1 h
    refine aw_aload_n (pc := 16) (q := 2) dX2_inOne_16 rfl ?_
    refine aw_iload_n (pc := 17) (q := 4) dX2_inOne_17 rfl ?_
    obtain ⟨r2, e3, h⟩ := aw_bde h
    refine aw_cV1 (pc := 18) [.int p3] (c_Gr_edgesTo e3) yy_Gr_edgesTo.1 wm_506 yy_Gr_edgesTo.2.1 yy_Gr_edgesTo.2.2 xA_24 ⟨_, _, rfl⟩ rfl ⟨Nat.le_of_ble_eq_true rfl, Nat.le_of_ble_eq_true rfl⟩ ⟨Nat.zero_le _, Nat.zero_le _⟩ (Nat.le_of_ble_eq_true rfl) dX2_inOne_18 ?_
    refine aw_sub [1, 2, 3, 4, 5, 0] rfl ?_
    exact t_Fl_inOne_J21 h_p2 h hE
  · replace h := aw_ifn c1 h
    refine aw_aload_n (pc := 8) (q := 2) dX2_inOne_8 rfl ?_
    refine aw_iload_n (pc := 9) (q := 4) dX2_inOne_9 rfl ?_
    obtain ⟨r17, e18, h⟩ := aw_bde h
    refine aw_cV1 (pc := 10) [.int p3] (c_Gr_edgesFrom e18) yy_Gr_edgesFrom.1 wm_505 yy_Gr_edgesFrom.2.1 yy_Gr_edgesFrom.2.2 xA_24 ⟨_, _, rfl⟩ rfl ⟨Nat.le_of_ble_eq_true rfl, Nat.le_of_ble_eq_true rfl⟩ ⟨Nat.zero_le _, Nat.zero_le _⟩ (Nat.le_of_ble_eq_true rfl) dX2_inOne_10 ?_
    refine aw_goto (pc := 13) (tgt := 21) dX2_inOne_13 (by decide) ?_
    refine aw_sub [1, 2, 3, 4, 5, 0] rfl ?_
    exact t_Fl_inOne_J21 h_p2 h hE
theorem c_Fl_inOne {l : Launch} {G : aw_G} {σ : aw_S} {p2 : Nat} {p3 : Int32} {p4 : Int32} (h_p2 : xA[p2]? = some (.inr (0, 128, aw_no))) {t : Int32} (h : m_Fl_inOne σ p2 p3 p4 = some t) : aw_Ct l yX2_inOne M_Fl_inOne G B_Fl_inOne [.ref 42, .ref 24, .ref p2, .int p3, .int p4] xA σ (some (.int t), xA, σ) := aw_Ct_of (by decide) rfl (fun h => by cases h) (Nat.le_of_ble_eq_true rfl) (t_Fl_inOne h_p2 h rfl)
/-! LateMover$Flow.inAll(LLateMover$Graph;[IIZI)I -/
def z_Fl_inAll_X27 (l : Launch) (G : aw_G) (E : aw_E) (σ : aw_S) (v2 : Nat) (v3 : Int32) (v4 : Int32) (v7 : Int32) (s : Int32 × Int32) : Prop := aw_W l M_Fl_inAll G B_Fl_inAll E 27 [(0, .ref 42), (1, .ref 24), (2, .ref v2), (3, .int v3), (4, .int v4), (6, .int s.1), (7, .int v7), (8, .int s.2)] [] xA σ 0 0
def z_Fl_inAll_Y27 (l : Launch) (G : aw_G) (E : aw_E) (σ : aw_S) (v2 : Nat) (v3 : Int32) (v4 : Int32) (v7 : Int32) (x : (Int32)) : Prop := aw_W l M_Fl_inAll G B_Fl_inAll E 73 [(6, .int x)] [] xA σ 0 0
set_option maxRecDepth 100000 in
set_option maxHeartbeats 4000000 in
theorem t_Fl_inAll_J61 {l : Launch} {G : aw_G} {E : aw_E} {σ : aw_S} {v2 : Nat} {v3 : Int32} {v4 : Int32} {v7 : Int32} {v8 : Int32} {k0 : Int32} {k3 : Nat} {k4 : Int32} (h_v2 : xA[v2]? = some (.inr (0, 128, aw_no))) (h_k3 : xA[k3]? = some (.inr (0, 128, aw_no))) {t : (Int32) ⊕ (Int32 × Int32)} (h : m_Fl_inAll_J61 σ v2 v3 v4 v7 v8 k0 k3 k4 = some t) (hz : Sum.elim (z_Fl_inAll_Y27 l G E σ v2 v3 v4 v7) (z_Fl_inAll_X27 l G E σ v2 v3 v4 v7) t) : aw_W l M_Fl_inAll G B_Fl_inAll E 61 [(0, .ref 42), (1, .ref 24), (2, .ref v2), (3, .int v3), (4, .int v4), (7, .int v7), (8, .int v8)] [.int k4, .ref k3, .ref 24, .ref 42, .int k0] xA σ 0 0 := by
  unfold m_Fl_inAll_J61 at h
  obtain ⟨r8, e9, h⟩ := aw_bde h
  refine aw_cV1 (pc := 61) [.ref 24, .ref k3, .int k4] (c_Fl_side h_k3 e9) yy_Fl_side.1 wm_518 yy_Fl_side.2.1 yy_Fl_side.2.2 xA_42 ⟨_, _, rfl⟩ rfl ⟨Nat.le_of_ble_eq_true rfl, Nat.le_of_ble_eq_true rfl⟩ ⟨Nat.zero_le _, Nat.zero_le _⟩ (Nat.le_of_ble_eq_true rfl) dX2_inAll_61 ?_
  refine aw_iand (pc := 64) dX2_inAll_64 ?_
  refine aw_nmI (fun x10 e_x10 => ?_)
  replace h := aw_lte h x10 e_x10
  refine aw_istore (pc := 65) [(6, .int x10), (0, .ref 42), (1, .ref 24), (2, .ref v2), (3, .int v3), (4, .int v4), (7, .int v7), (8, .int v8)] dX2_inAll_65 (by decide) rfl ?_
  obtain ⟨x11, e_x11⟩ : ∃ z, z = (v8 + (1 : Int32)) := ⟨_, rfl⟩
  replace h := aw_lte h x11 e_x11
  refine aw_iinc (pc := 67) (q := 7) (v := x11) [(8, .int x11), (6, .int x10), (0, .ref 42), (1, .ref 24), (2, .ref v2), (3, .int v3), (4, .int v4), (7, .int v7)] dX2_inAll_67 rfl e_x11.symm (by decide) rfl ?_
  refine aw_goto (pc := 70) (tgt := 27) dX2_inAll_70 (by decide) ?_
  refine aw_sub [2, 3, 4, 5, 6, 1, 7, 0] rfl ?_
  cases h
  exact hz
set_option maxRecDepth 100000 in
set_option maxHeartbeats 4000000 in
theorem t_Fl_inAll_B27 {l : Launch} {G : aw_G} {E : aw_E} {σ : aw_S} {v2 : Nat} {v3 : Int32} {v4 : Int32} {v7 : Int32} {v6 : Int32} {v8 : Int32} (h_v2 : xA[v2]? = some (.inr (0, 128, aw_no))) {t : (Int32) ⊕ (Int32 × Int32)} (h : m_Fl_inAll_B27 σ v2 v3 v4 v7 v6 v8 = some t) (hz : Sum.elim (z_Fl_inAll_Y27 l G E σ v2 v3 v4 v7) (z_Fl_inAll_X27 l G E σ v2 v3 v4 v7) t) : aw_W l M_Fl_inAll G B_Fl_inAll E 27 [(0, .ref 42), (1, .ref 24), (2, .ref v2), (3, .int v3), (4, .int v4), (6, .int v6), (7, .int v7), (8, .int v8)] [] xA σ 0 0 := by
  unfold m_Fl_inAll_B27 at h
  refine aw_iload (pc := 27) (q := 7) dX2_inAll_27 rfl ?_
  refine aw_iload (pc := 29) (q := 6) dX2_inAll_29 rfl ?_
  refine aw_icmp_ge (pc := 31) (tgt := 73) dX2_inAll_31 (by decide) (fun c4 => ?_) (fun c4 => ?_)
  · replace h := aw_ifp c4 h
    refine aw_sub [5] rfl ?_
    cases h
    exact hz
  · replace h := aw_ifn c4 h
    refine aw_iload (pc := 34) (q := 5) dX2_inAll_34 rfl ?_
    refine aw_aload_n (pc := 36) (q := 0) dX2_inAll_36 rfl ?_
    refine aw_aload_n (pc := 37) (q := 1) dX2_inAll_37 rfl ?_
    refine aw_aload_n (pc := 38) (q := 2) dX2_inAll_38 rfl ?_
    refine aw_iload (pc := 39) (q := 4) dX2_inAll_39 rfl ?_
    refine aw_if_eq (pc := 41) (tgt := 54) dX2_inAll_41 (by decide) (fun c5 => ?_) (fun c5 => ?_)
    · replace h := aw_ifp c5 h
      refine aw_aload_n (pc := 54) (q := 1) dX2_inAll_54 rfl ?_
      refine aw_iload_n (pc := 55) (q := 3) dX2_inAll_55 rfl ?_
      refine aw_iload (pc := 56) (q := 7) dX2_inAll_56 rfl ?_
      obtain ⟨r6, e7, h⟩ := aw_bde h
      refine aw_cV1 (pc := 58) [.int v3, .int v8] (c_Gr_kthSource e7) yy_Gr_kthSource.1 wm_514 yy_Gr_kthSource.2.1 yy_Gr_kthSource.2.2 xA_24 ⟨_, _, rfl⟩ rfl ⟨Nat.le_of_ble_eq_true rfl, Nat.le_of_ble_eq_true rfl⟩ ⟨Nat.zero_le _, Nat.zero_le _⟩ (Nat.le_of_ble_eq_true rfl) dX2_inAll_58 ?_
      refine aw_sub [0, 1, 2, 3, 4, 6, 7] rfl ?_
      exact t_Fl_inAll_J61 h_v2 h_v2 h hz
    · replace h := aw_ifn c5 h
      refine aw_aload_n (pc := 44) (q := 1) dX2_inAll_44 rfl ?_
      refine aw_iload_n (pc := 45) (q := 3) dX2_inAll_45 rfl ?_
      refine aw_iload (pc := 46) (q := 7) dX2_inAll_46 rfl ?_
      obtain ⟨r12, e13, h⟩ := aw_bde h
      refine aw_cV1 (pc := 48) [.int v3, .int v8] (c_Gr_kthTarget e13) yy_Gr_kthTarget.1 wm_510 yy_Gr_kthTarget.2.1 yy_Gr_kthTarget.2.2 xA_24 ⟨_, _, rfl⟩ rfl ⟨Nat.le_of_ble_eq_true rfl, Nat.le_of_ble_eq_true rfl⟩ ⟨Nat.zero_le _, Nat.zero_le _⟩ (Nat.le_of_ble_eq_true rfl) dX2_inAll_48 ?_
      refine aw_goto (pc := 51) (tgt := 61) dX2_inAll_51 (by decide) ?_
      refine aw_sub [0, 1, 2, 3, 4, 6, 7] rfl ?_
      exact t_Fl_inAll_J61 h_v2 h_v2 h hz
set_option maxRecDepth 100000 in
set_option maxHeartbeats 4000000 in
theorem t_Fl_inAll_J22 {l : Launch} {G : aw_G} {E : aw_E} {σ : aw_S} {v2 : Nat} {v3 : Int32} {v4 : Int32} {v6 : Int32} {k0 : Int32} (h_v2 : xA[v2]? = some (.inr (0, 128, aw_no))) {t : Int32} (h : m_Fl_inAll_J22 σ v2 v3 v4 v6 k0 = some t) (hE : E = (some (.int t), xA, σ)) : aw_W l M_Fl_inAll G B_Fl_inAll E 22 [(0, .ref 42), (1, .ref 24), (2, .ref v2), (3, .int v3), (4, .int v4), (6, .int v6)] [.int k0] xA σ 0 0 := by
  unfold m_Fl_inAll_J22 at h
  refine aw_istore (pc := 22) [(7, .int k0), (0, .ref 42), (1, .ref 24), (2, .ref v2), (3, .int v3), (4, .int v4), (6, .int v6)] dX2_inAll_22 (by decide) rfl ?_
  refine aw_iconst (pc := 24) (v := 0) dX2_inAll_24 (by decide) ?_
  refine aw_istore (pc := 25) [(8, .int ((0 : Int32))), (7, .int k0), (0, .ref 42), (1, .ref 24), (2, .ref v2), (3, .int v3), (4, .int v4), (6, .int v6)] dX2_inAll_25 (by decide) rfl ?_
  obtain ⟨x14, hl15, h⟩ := aw_bde h
  have K16 : z_Fl_inAll_Y27 l G E σ v2 v3 v4 k0 x14 := by
    show aw_W l M_Fl_inAll G B_Fl_inAll E 73 [(6, .int x14)] [] xA σ 0 0
    refine aw_iload (pc := 73) (q := 0) dX2_inAll_73 rfl ?_
    cases h
    subst hE
    exact aw_iret (v := _) rfl aw_ni ⟨Nat.zero_le _, Nat.zero_le _⟩ dX2_inAll_75
  refine aw_sub [2, 3, 4, 5, 6, 7, 1, 0] rfl ?_
  show z_Fl_inAll_X27 l G E σ v2 v3 v4 k0 ((v6, (0 : Int32)))
  exact aw_lp_X (Xp := z_Fl_inAll_X27 l G E σ v2 v3 v4 k0) (Y := z_Fl_inAll_Y27 l G E σ v2 v3 v4 k0) hl15 K16 (fun s t hf hz => t_Fl_inAll_B27 h_v2 hf hz)
set_option maxRecDepth 100000 in
set_option maxHeartbeats 4000000 in
theorem t_Fl_inAll {l : Launch} {G : aw_G} {E : aw_E} {σ : aw_S} {p2 : Nat} {p3 : Int32} {p4 : Int32} {p5 : Int32} (h_p2 : xA[p2]? = some (.inr (0, 128, aw_no))) {t : Int32} (h : m_Fl_inAll σ p2 p3 p4 p5 = some t) (hE : E = (some (.int t), xA, σ)) : aw_W l M_Fl_inAll G B_Fl_inAll E 0 [(0, .ref 42), (1, .ref 24), (2, .ref p2), (3, .int p3), (4, .int p4), (5, .int p5)] [] xA σ 0 0 := by
  unfold m_Fl_inAll at h
  refine aw_iload (pc := 0) (q := 5) dX2_inAll_0 rfl ?_
  refine aw_istore (pc := 2) [(6, .int p5), (0, .ref 42), (1, .ref 24), (2, .ref p2), (3, .int p3), (4, .int p4), (5, .int p5)] dX2_inAll_2 (by decide) rfl ?_
  refine aw_iload (pc := 4) (q := 5) dX2_inAll_4 rfl ?_
  refine aw_if_eq (pc := 6) (tgt := 17) dX2_inAll_6 (by decide) (fun c1 => ?_) (fun c1 => ?_)
  · replace h := aw_ifp c1 h
    refine aw_aload_n (pc := 17) (q := 2) dX2_inAll_17 rfl ?_
    refine aw_iload_n (pc := 18) (q := 4) dX2_inAll_18 rfl ?_
    obtain ⟨r2, e3, h⟩ := aw_bde h
    refine aw_cV1 (pc := 19) [.int p3] (c_Gr_edgesTo e3) yy_Gr_edgesTo.1 wm_506 yy_Gr_edgesTo.2.1 yy_Gr_edgesTo.2.2 xA_24 ⟨_, _, rfl⟩ rfl ⟨Nat.le_of_ble_eq_true rfl, Nat.le_of_ble_eq_true rfl⟩ ⟨Nat.zero_le _, Nat.zero_le _⟩ (Nat.le_of_ble_eq_true rfl) dX2_inAll_19 ?_
    refine aw_sub [1, 2, 3, 4, 5, 0] rfl ?_
    exact t_Fl_inAll_J22 h_p2 h hE
  · replace h := aw_ifn c1 h
    refine aw_aload_n (pc := 9) (q := 2) dX2_inAll_9 rfl ?_
    refine aw_iload_n (pc := 10) (q := 4) dX2_inAll_10 rfl ?_
    obtain ⟨r17, e18, h⟩ := aw_bde h
    refine aw_cV1 (pc := 11) [.int p3] (c_Gr_edgesFrom e18) yy_Gr_edgesFrom.1 wm_505 yy_Gr_edgesFrom.2.1 yy_Gr_edgesFrom.2.2 xA_24 ⟨_, _, rfl⟩ rfl ⟨Nat.le_of_ble_eq_true rfl, Nat.le_of_ble_eq_true rfl⟩ ⟨Nat.zero_le _, Nat.zero_le _⟩ (Nat.le_of_ble_eq_true rfl) dX2_inAll_11 ?_
    refine aw_goto (pc := 14) (tgt := 22) dX2_inAll_14 (by decide) ?_
    refine aw_sub [1, 2, 3, 4, 5, 0] rfl ?_
    exact t_Fl_inAll_J22 h_p2 h hE
theorem c_Fl_inAll {l : Launch} {G : aw_G} {σ : aw_S} {p2 : Nat} {p3 : Int32} {p4 : Int32} {p5 : Int32} (h_p2 : xA[p2]? = some (.inr (0, 128, aw_no))) {t : Int32} (h : m_Fl_inAll σ p2 p3 p4 p5 = some t) : aw_Ct l yX2_inAll M_Fl_inAll G B_Fl_inAll [.ref 42, .ref 24, .ref p2, .int p3, .int p4, .int p5] xA σ (some (.int t), xA, σ) := aw_Ct_of (by decide) rfl (fun h => by cases h) (Nat.le_of_ble_eq_true rfl) (t_Fl_inAll h_p2 h rfl)
/-! LateMover$Flow.solve(LLateMover$Graph;[IIZZ)V -/
def z_Fl_solve_X20 (l : Launch) (G : aw_G) (E : aw_E) (v2 : Nat) (v3 : Int32) (v4 : Int32) (v5 : Int32) (s : Int32 × Int32 × aw_S) : Prop := aw_W l M_Fl_solve G B_Fl_solve E 20 [(0, .ref 42), (1, .ref 24), (2, .ref v2), (3, .int v3), (4, .int v4), (5, .int v5), (6, .int s.1), (7, .int s.2.1)] [] xA s.2.2 0 0
def z_Fl_solve_Y20 (l : Launch) (G : aw_G) (E : aw_E) (v2 : Nat) (v3 : Int32) (v4 : Int32) (v5 : Int32) (x : (aw_S)) : Prop := aw_W l M_Fl_solve G B_Fl_solve E 159 [] [] xA x 0 0
def z_Fl_solve_X39 (l : Launch) (G : aw_G) (E : aw_E) (v2 : Nat) (v3 : Int32) (v4 : Int32) (v5 : Int32) (v7 : Int32) (s : Int32 × Int32 × aw_S) : Prop := aw_W l M_Fl_solve G B_Fl_solve E 39 [(0, .ref 42), (1, .ref 24), (2, .ref v2), (3, .int v3), (4, .int v4), (5, .int v5), (6, .int s.1), (7, .int v7), (8, .int s.2.1)] [] xA s.2.2 0 0
def z_Fl_solve_Y39 (l : Launch) (G : aw_G) (E : aw_E) (v2 : Nat) (v3 : Int32) (v4 : Int32) (v5 : Int32) (v7 : Int32) (x : (Int32 × aw_S)) : Prop := aw_W l M_Fl_solve G B_Fl_solve E 153 [(0, .ref 42), (1, .ref 24), (2, .ref v2), (3, .int v3), (4, .int v4), (5, .int v5), (6, .int x.1), (7, .int v7)] [] xA x.2 0 0
set_option maxRecDepth 100000 in
set_option maxHeartbeats 4000000 in
theorem t_Fl_solve_J139 {l : Launch} {G : aw_G} {E : aw_E} {σ : aw_S} {v2 : Nat} {v3 : Int32} {v4 : Int32} {v5 : Int32} {v7 : Int32} {v8 : Int32} {v9 : Int32} {v11 : Int32} {k0 : Int32} (h_v2 : xA[v2]? = some (.inr (0, 128, aw_no))) {t : (Int32 × aw_S) ⊕ (Int32 × Int32 × aw_S)} (h : m_Fl_solve_J139 σ v2 v3 v4 v5 v7 v8 v9 v11 k0 = some t) (hz : Sum.elim (z_Fl_solve_Y39 l G E v2 v3 v4 v5 v7) (z_Fl_solve_X39 l G E v2 v3 v4 v5 v7) t) : aw_W l M_Fl_solve G B_Fl_solve E 139 [(0, .ref 42), (1, .ref 24), (2, .ref v2), (3, .int v3), (4, .int v4), (5, .int v5), (7, .int v7), (8, .int v8), (9, .int v9), (11, .int v11)] [.int k0] xA σ 0 0 := by
  unfold m_Fl_solve_J139 at h
  refine aw_istore (pc := 139) [(6, .int k0), (0, .ref 42), (1, .ref 24), (2, .ref v2), (3, .int v3), (4, .int v4), (5, .int v5), (7, .int v7), (8, .int v8), (9, .int v9), (11, .int v11)] dX2_solve_139 (by decide) rfl ?_
  refine aw_aload_n (pc := 141) (q := 3) dX2_solve_141 rfl ?_
  refine aw_iload (pc := 142) (q := 9) dX2_solve_142 rfl ?_
  refine aw_iload (pc := 144) (q := 10) dX2_solve_144 rfl ?_
  obtain ⟨g16, h⟩ := aw_gde h
  refine aw_iast (pc := 146) h_v2 g16 dX2_solve_146 ?_
  refine aw_nmS (fun s17 e_s17 => ?_)
  replace h := aw_lte h s17 e_s17
  obtain ⟨x18, e_x18⟩ : ∃ z, z = (v8 + (1 : Int32)) := ⟨_, rfl⟩
  replace h := aw_lte h x18 e_x18
  refine aw_iinc (pc := 147) (q := 8) (v := x18) [(8, .int x18), (6, .int k0), (0, .ref 42), (1, .ref 24), (2, .ref v2), (3, .int v3), (4, .int v4), (5, .int v5), (7, .int v7), (9, .int v9), (11, .int v11)] dX2_solve_147 rfl e_x18.symm (by decide) rfl ?_
  refine aw_goto (pc := 150) (tgt := 39) dX2_solve_150 (by decide) ?_
  refine aw_sub [2, 3, 4, 5, 6, 7, 1, 8, 0] rfl ?_
  cases h
  exact hz
set_option maxRecDepth 100000 in
set_option maxHeartbeats 4000000 in
theorem t_Fl_solve_J98 {l : Launch} {G : aw_G} {E : aw_E} {σ : aw_S} {v2 : Nat} {v3 : Int32} {v4 : Int32} {v5 : Int32} {v6 : Int32} {v7 : Int32} {v8 : Int32} {v9 : Int32} {k0 : Int32} (h_v2 : xA[v2]? = some (.inr (0, 128, aw_no))) {t : (Int32 × aw_S) ⊕ (Int32 × Int32 × aw_S)} (h : m_Fl_solve_J98 σ v2 v3 v4 v5 v6 v7 v8 v9 k0 = some t) (hz : Sum.elim (z_Fl_solve_Y39 l G E v2 v3 v4 v5 v7) (z_Fl_solve_X39 l G E v2 v3 v4 v5 v7) t) : aw_W l M_Fl_solve G B_Fl_solve E 98 [(0, .ref 42), (1, .ref 24), (2, .ref v2), (3, .int v3), (4, .int v4), (5, .int v5), (6, .int v6), (7, .int v7), (8, .int v8), (9, .int v9)] [.int k0] xA σ 0 0 := by
  unfold m_Fl_solve_J98 at h
  refine aw_istore (pc := 98) [(10, .int k0), (0, .ref 42), (1, .ref 24), (2, .ref v2), (3, .int v3), (4, .int v4), (5, .int v5), (6, .int v6), (7, .int v7), (8, .int v8), (9, .int v9)] dX2_solve_98 (by decide) rfl ?_
  refine aw_aload_n (pc := 100) (q := 1) dX2_solve_100 rfl ?_
  refine aw_getC (pc := 101) fd_X2_9.r xA_42 rfl dX2_solve_101 ?_
  refine aw_iload (pc := 104) (q := 10) dX2_solve_104 rfl ?_
  obtain ⟨g12, h⟩ := aw_gde h
  refine aw_iald (pc := 106) xA_43 g12 dX2_solve_106 ?_
  refine aw_aload_n (pc := 107) (q := 1) dX2_solve_107 rfl ?_
  refine aw_getC (pc := 108) fd_X2_15.r xA_42 rfl dX2_solve_108 ?_
  refine aw_iload (pc := 111) (q := 10) dX2_solve_111 rfl ?_
  obtain ⟨g13, h⟩ := aw_gde h
  refine aw_iald (pc := 113) xA_44 g13 dX2_solve_113 ?_
  refine aw_iload (pc := 114) (q := 0) dX2_solve_114 rfl ?_
  refine aw_iand (pc := 116) dX2_solve_116 ?_
  refine aw_ior (pc := 117) dX2_solve_117 ?_
  refine aw_nmI (fun x14 e_x14 => ?_)
  replace h := aw_lte h x14 e_x14
  refine aw_istore (pc := 118) [(11, .int x14), (10, .int k0), (0, .ref 42), (1, .ref 24), (2, .ref v2), (3, .int v3), (4, .int v4), (5, .int v5), (6, .int v6), (7, .int v7), (8, .int v8), (9, .int v9)] dX2_solve_118 (by decide) rfl ?_
  refine aw_iload (pc := 120) (q := 8) dX2_solve_120 rfl ?_
  refine aw_if_ne (pc := 122) (tgt := 134) dX2_solve_122 (by decide) (fun c15 => ?_) (fun c15 => ?_)
  · replace h := aw_ifn c15 h
    refine aw_iconst (pc := 134) (v := 1) dX2_solve_134 (by decide) ?_
    refine aw_goto (pc := 135) (tgt := 139) dX2_solve_135 (by decide) ?_
    refine aw_sub [2, 3, 4, 5, 6, 7, 9, 10, 11, 0] rfl ?_
    exact t_Fl_solve_J139 h_v2 h hz
  · replace h := aw_ifp c15 h
    refine aw_iload (pc := 125) (q := 0) dX2_solve_125 rfl ?_
    refine aw_aload_n (pc := 127) (q := 4) dX2_solve_127 rfl ?_
    refine aw_iload (pc := 128) (q := 11) dX2_solve_128 rfl ?_
    obtain ⟨g19, h⟩ := aw_gde h
    refine aw_iald (pc := 130) h_v2 g19 dX2_solve_130 ?_
    refine aw_icmp_eq (pc := 131) (tgt := 138) dX2_solve_131 (by decide) (fun c20 => ?_) (fun c20 => ?_)
    · replace h := aw_ifp c20 h
      refine aw_iconst (pc := 138) (v := 0) dX2_solve_138 (by decide) ?_
      refine aw_sub [2, 3, 4, 5, 6, 7, 9, 10, 11, 0] rfl ?_
      exact t_Fl_solve_J139 h_v2 h hz
    · replace h := aw_ifn c20 h
      refine aw_iconst (pc := 134) (v := 1) dX2_solve_134 (by decide) ?_
      refine aw_goto (pc := 135) (tgt := 139) dX2_solve_135 (by decide) ?_
      refine aw_sub [2, 3, 4, 5, 6, 7, 9, 10, 11, 0] rfl ?_
      exact t_Fl_solve_J139 h_v2 h hz
set_option maxRecDepth 100000 in
set_option maxHeartbeats 4000000 in
theorem t_Fl_solve_J67 {l : Launch} {G : aw_G} {E : aw_E} {σ : aw_S} {v2 : Nat} {v3 : Int32} {v4 : Int32} {v5 : Int32} {v6 : Int32} {v7 : Int32} {v8 : Int32} {k0 : Int32} (h_v2 : xA[v2]? = some (.inr (0, 128, aw_no))) {t : (Int32 × aw_S) ⊕ (Int32 × Int32 × aw_S)} (h : m_Fl_solve_J67 σ v2 v3 v4 v5 v6 v7 v8 k0 = some t) (hz : Sum.elim (z_Fl_solve_Y39 l G E v2 v3 v4 v5 v7) (z_Fl_solve_X39 l G E v2 v3 v4 v5 v7) t) : aw_W l M_Fl_solve G B_Fl_solve E 67 [(0, .ref 42), (1, .ref 24), (2, .ref v2), (3, .int v3), (4, .int v4), (5, .int v5), (6, .int v6), (7, .int v7), (8, .int v8)] [.int k0] xA σ 0 0 := by
  unfold m_Fl_solve_J67 at h
  refine aw_istore (pc := 67) [(9, .int k0), (0, .ref 42), (1, .ref 24), (2, .ref v2), (3, .int v3), (4, .int v4), (5, .int v5), (6, .int v6), (7, .int v7), (8, .int v8)] dX2_solve_67 (by decide) rfl ?_
  refine aw_iload (pc := 69) (q := 6) dX2_solve_69 rfl ?_
  refine aw_if_eq (pc := 71) (tgt := 88) dX2_solve_71 (by decide) (fun c9 => ?_) (fun c9 => ?_)
  · replace h := aw_ifp c9 h
    refine aw_aload_n (pc := 88) (q := 1) dX2_solve_88 rfl ?_
    refine aw_aload_n (pc := 89) (q := 2) dX2_solve_89 rfl ?_
    refine aw_aload_n (pc := 90) (q := 3) dX2_solve_90 rfl ?_
    refine aw_iload (pc := 91) (q := 0) dX2_solve_91 rfl ?_
    refine aw_iload (pc := 93) (q := 5) dX2_solve_93 rfl ?_
    obtain ⟨r10, e11, h⟩ := aw_bde h
    refine aw_cV1 (pc := 95) [.ref 24, .ref v2, .int k0, .int v4] (c_Fl_inOne h_v2 e11) yy_Fl_inOne.1 wm_523 yy_Fl_inOne.2.1 yy_Fl_inOne.2.2 xA_42 ⟨_, _, rfl⟩ rfl ⟨Nat.le_of_ble_eq_true rfl, Nat.le_of_ble_eq_true rfl⟩ ⟨Nat.zero_le _, Nat.zero_le _⟩ (Nat.le_of_ble_eq_true rfl) dX2_solve_95 ?_
    refine aw_sub [1, 2, 3, 4, 5, 6, 7, 8, 9, 0] rfl ?_
    exact t_Fl_solve_J98 h_v2 h hz
  · replace h := aw_ifn c9 h
    refine aw_aload_n (pc := 74) (q := 1) dX2_solve_74 rfl ?_
    refine aw_aload_n (pc := 75) (q := 2) dX2_solve_75 rfl ?_
    refine aw_aload_n (pc := 76) (q := 3) dX2_solve_76 rfl ?_
    refine aw_iload (pc := 77) (q := 0) dX2_solve_77 rfl ?_
    refine aw_iload (pc := 79) (q := 5) dX2_solve_79 rfl ?_
    refine aw_iload_n (pc := 81) (q := 4) dX2_solve_81 rfl ?_
    obtain ⟨r21, e22, h⟩ := aw_bde h
    refine aw_cV1 (pc := 82) [.ref 24, .ref v2, .int k0, .int v4, .int v3] (c_Fl_inAll h_v2 e22) yy_Fl_inAll.1 wm_501 yy_Fl_inAll.2.1 yy_Fl_inAll.2.2 xA_42 ⟨_, _, rfl⟩ rfl ⟨Nat.le_of_ble_eq_true rfl, Nat.le_of_ble_eq_true rfl⟩ ⟨Nat.zero_le _, Nat.zero_le _⟩ (Nat.le_of_ble_eq_true rfl) dX2_solve_82 ?_
    refine aw_goto (pc := 85) (tgt := 98) dX2_solve_85 (by decide) ?_
    refine aw_sub [1, 2, 3, 4, 5, 6, 7, 8, 9, 0] rfl ?_
    exact t_Fl_solve_J98 h_v2 h hz
set_option maxRecDepth 100000 in
set_option maxHeartbeats 4000000 in
theorem t_Fl_solve_B39 {l : Launch} {G : aw_G} {E : aw_E} {σ : aw_S} {v2 : Nat} {v3 : Int32} {v4 : Int32} {v5 : Int32} {v7 : Int32} {v6 : Int32} {v8 : Int32} (h_v2 : xA[v2]? = some (.inr (0, 128, aw_no))) {t : (Int32 × aw_S) ⊕ (Int32 × Int32 × aw_S)} (h : m_Fl_solve_B39 σ v2 v3 v4 v5 v7 v6 v8 = some t) (hz : Sum.elim (z_Fl_solve_Y39 l G E v2 v3 v4 v5 v7) (z_Fl_solve_X39 l G E v2 v3 v4 v5 v7) t) : aw_W l M_Fl_solve G B_Fl_solve E 39 [(0, .ref 42), (1, .ref 24), (2, .ref v2), (3, .int v3), (4, .int v4), (5, .int v5), (6, .int v6), (7, .int v7), (8, .int v8)] [] xA σ 0 0 := by
  unfold m_Fl_solve_B39 at h
  refine aw_iload (pc := 39) (q := 8) dX2_solve_39 rfl ?_
  refine aw_aload_n (pc := 41) (q := 1) dX2_solve_41 rfl ?_
  refine aw_getI (pc := 42) fd_X2_30.r xA_24 rfl dX2_solve_42 ?_
  refine aw_icmp_ge (pc := 45) (tgt := 153) dX2_solve_45 (by decide) (fun c7 => ?_) (fun c7 => ?_)
  · replace h := aw_ifp c7 h
    refine aw_sub [0, 1, 2, 3, 4, 5, 6, 7] rfl ?_
    cases h
    exact hz
  · replace h := aw_ifn c7 h
    refine aw_iload (pc := 48) (q := 4) dX2_solve_48 rfl ?_
    refine aw_if_eq (pc := 50) (tgt := 65) dX2_solve_50 (by decide) (fun c8 => ?_) (fun c8 => ?_)
    · replace h := aw_ifp c8 h
      refine aw_iload (pc := 65) (q := 8) dX2_solve_65 rfl ?_
      exact t_Fl_solve_J67 h_v2 h hz
    · replace h := aw_ifn c8 h
      refine aw_aload_n (pc := 53) (q := 1) dX2_solve_53 rfl ?_
      refine aw_getI (pc := 54) fd_X2_30.r xA_24 rfl dX2_solve_54 ?_
      refine aw_iconst (pc := 57) (v := 1) dX2_solve_57 (by decide) ?_
      refine aw_isub (pc := 58) dX2_solve_58 ?_
      refine aw_iload (pc := 59) (q := 8) dX2_solve_59 rfl ?_
      refine aw_isub (pc := 61) dX2_solve_61 ?_
      refine aw_goto (pc := 62) (tgt := 67) dX2_solve_62 (by decide) ?_
      exact t_Fl_solve_J67 h_v2 h hz
set_option maxRecDepth 100000 in
set_option maxHeartbeats 4000000 in
theorem t_Fl_solve_B20 {l : Launch} {G : aw_G} {E : aw_E} {σ : aw_S} {v2 : Nat} {v3 : Int32} {v4 : Int32} {v5 : Int32} {v6 : Int32} {v7 : Int32} (h_v2 : xA[v2]? = some (.inr (0, 128, aw_no))) {t : (aw_S) ⊕ (Int32 × Int32 × aw_S)} (h : m_Fl_solve_B20 σ v2 v3 v4 v5 v6 v7 = some t) (hz : Sum.elim (z_Fl_solve_Y20 l G E v2 v3 v4 v5) (z_Fl_solve_X20 l G E v2 v3 v4 v5) t) : aw_W l M_Fl_solve G B_Fl_solve E 20 [(0, .ref 42), (1, .ref 24), (2, .ref v2), (3, .int v3), (4, .int v4), (5, .int v5), (6, .int v6), (7, .int v7)] [] xA σ 0 0 := by
  unfold m_Fl_solve_B20 at h
  refine aw_iload (pc := 20) (q := 6) dX2_solve_20 rfl ?_
  refine aw_if_eq (pc := 22) (tgt := 159) dX2_solve_22 (by decide) (fun c5 => ?_) (fun c5 => ?_)
  · replace h := aw_ifp c5 h
    refine aw_sub [] rfl ?_
    cases h
    exact hz
  · replace h := aw_ifn c5 h
    refine aw_iload (pc := 25) (q := 7) dX2_solve_25 rfl ?_
    refine aw_sipush (pc := 27) (v := 1000) dX2_solve_27 (by decide) ?_
    refine aw_icmp_ge (pc := 30) (tgt := 159) dX2_solve_30 (by decide) (fun c6 => ?_) (fun c6 => ?_)
    · replace h := aw_ifp c6 h
      refine aw_sub [] rfl ?_
      cases h
      exact hz
    · replace h := aw_ifn c6 h
      refine aw_iconst (pc := 33) (v := 0) dX2_solve_33 (by decide) ?_
      refine aw_istore (pc := 34) [(6, .int ((0 : Int32))), (0, .ref 42), (1, .ref 24), (2, .ref v2), (3, .int v3), (4, .int v4), (5, .int v5), (7, .int v7)] dX2_solve_34 (by decide) rfl ?_
      refine aw_iconst (pc := 36) (v := 0) dX2_solve_36 (by decide) ?_
      refine aw_istore (pc := 37) [(8, .int ((0 : Int32))), (6, .int ((0 : Int32))), (0, .ref 42), (1, .ref 24), (2, .ref v2), (3, .int v3), (4, .int v4), (5, .int v5), (7, .int v7)] dX2_solve_37 (by decide) rfl ?_
      obtain ⟨x23, hl24, h⟩ := aw_bde h
      have K25 : z_Fl_solve_Y39 l G E v2 v3 v4 v5 v7 x23 := by
        show aw_W l M_Fl_solve G B_Fl_solve E 153 [(0, .ref 42), (1, .ref 24), (2, .ref v2), (3, .int v3), (4, .int v4), (5, .int v5), (6, .int x23.1), (7, .int v7)] [] xA x23.2 0 0
        obtain ⟨x26, e_x26⟩ : ∃ z, z = (v7 + (1 : Int32)) := ⟨_, rfl⟩
        replace h := aw_lte h x26 e_x26
        refine aw_iinc (pc := 153) (q := 7) (v := x26) [(7, .int x26), (0, .ref 42), (1, .ref 24), (2, .ref v2), (3, .int v3), (4, .int v4), (5, .int v5), (6, .int x23.1)] dX2_solve_153 rfl e_x26.symm (by decide) rfl ?_
        refine aw_goto (pc := 156) (tgt := 20) dX2_solve_156 (by decide) ?_
        refine aw_sub [1, 2, 3, 4, 5, 6, 7, 0] rfl ?_
        cases h
        exact hz
      refine aw_sub [2, 3, 4, 5, 6, 7, 1, 8, 0] rfl ?_
      show z_Fl_solve_X39 l G E v2 v3 v4 v5 v7 (((0 : Int32), (0 : Int32), σ))
      exact aw_lp_X (Xp := z_Fl_solve_X39 l G E v2 v3 v4 v5 v7) (Y := z_Fl_solve_Y39 l G E v2 v3 v4 v5 v7) hl24 K25 (fun s t hf hz => t_Fl_solve_B39 h_v2 hf hz)
set_option maxRecDepth 100000 in
set_option maxHeartbeats 4000000 in
theorem t_Fl_solve_J11 {l : Launch} {G : aw_G} {E : aw_E} {σ : aw_S} {v2 : Nat} {v3 : Int32} {v4 : Int32} {v5 : Int32} {k0 : Nat} {k1 : Int32} (h_v2 : xA[v2]? = some (.inr (0, 128, aw_no))) (h_k0 : xA[k0]? = some (.inr (0, 128, aw_no))) {t : aw_S} (h : m_Fl_solve_J11 σ v2 v3 v4 v5 k0 k1 = some t) (hE : E = (none, xA, t)) : aw_W l M_Fl_solve G B_Fl_solve E 11 [(0, .ref 42), (1, .ref 24), (2, .ref v2), (3, .int v3), (4, .int v4), (5, .int v5)] [.int k1, .ref k0] xA σ 0 0 := by
  unfold m_Fl_solve_J11 at h
  obtain ⟨s4, e3, h⟩ := aw_bde h
  refine aw_cS0 (pc := 11) [.ref k0, .int k1] (c_Ar_fillI h_k0 e3) yy_Ar_fillI.1 wm_500 yy_Ar_fillI.2 rfl ⟨Nat.le_of_ble_eq_true rfl, Nat.le_of_ble_eq_true rfl⟩ ⟨Nat.zero_le _, Nat.zero_le _⟩ (Nat.le_of_ble_eq_true rfl) dX2_solve_11 ?_
  refine aw_iconst (pc := 14) (v := 1) dX2_solve_14 (by decide) ?_
  refine aw_istore (pc := 15) [(6, .int ((1 : Int32))), (0, .ref 42), (1, .ref 24), (2, .ref v2), (3, .int v3), (4, .int v4), (5, .int v5)] dX2_solve_15 (by decide) rfl ?_
  refine aw_iconst (pc := 17) (v := 0) dX2_solve_17 (by decide) ?_
  refine aw_istore (pc := 18) [(7, .int ((0 : Int32))), (6, .int ((1 : Int32))), (0, .ref 42), (1, .ref 24), (2, .ref v2), (3, .int v3), (4, .int v4), (5, .int v5)] dX2_solve_18 (by decide) rfl ?_
  obtain ⟨x27, hl28, h⟩ := aw_bde h
  have K29 : z_Fl_solve_Y20 l G E v2 v3 v4 v5 x27 := by
    show aw_W l M_Fl_solve G B_Fl_solve E 159 [] [] xA x27 0 0
    cases h
    subst hE
    exact aw_vret rfl ⟨Nat.zero_le _, Nat.zero_le _⟩ dX2_solve_159
  refine aw_sub [2, 3, 4, 5, 6, 7, 1, 0] rfl ?_
  show z_Fl_solve_X20 l G E v2 v3 v4 v5 (((1 : Int32), (0 : Int32), s4))
  exact aw_lp_X (Xp := z_Fl_solve_X20 l G E v2 v3 v4 v5) (Y := z_Fl_solve_Y20 l G E v2 v3 v4 v5) hl28 K29 (fun s t hf hz => t_Fl_solve_B20 h_v2 hf hz)
set_option maxRecDepth 100000 in
set_option maxHeartbeats 4000000 in
theorem t_Fl_solve {l : Launch} {G : aw_G} {E : aw_E} {σ : aw_S} {p2 : Nat} {p3 : Int32} {p4 : Int32} {p5 : Int32} (h_p2 : xA[p2]? = some (.inr (0, 128, aw_no))) {t : aw_S} (h : m_Fl_solve σ p2 p3 p4 p5 = some t) (hE : E = (none, xA, t)) : aw_W l M_Fl_solve G B_Fl_solve E 0 [(0, .ref 42), (1, .ref 24), (2, .ref p2), (3, .int p3), (4, .int p4), (5, .int p5)] [] xA σ 0 0 := by
  unfold m_Fl_solve at h
  refine aw_aload_n (pc := 0) (q := 2) dX2_solve_0 rfl ?_
  refine aw_iload (pc := 1) (q := 5) dX2_solve_1 rfl ?_
  refine aw_if_eq (pc := 3) (tgt := 10) dX2_solve_3 (by decide) (fun c1 => ?_) (fun c1 => ?_)
  · replace h := aw_ifp c1 h
    refine aw_iconst (pc := 10) (v := 0) dX2_solve_10 (by decide) ?_
    exact t_Fl_solve_J11 h_p2 h_p2 h hE
  · replace h := aw_ifn c1 h
    refine aw_iload_n (pc := 6) (q := 3) dX2_solve_6 rfl ?_
    refine aw_goto (pc := 7) (tgt := 11) dX2_solve_7 (by decide) ?_
    exact t_Fl_solve_J11 h_p2 h_p2 h hE
theorem c_Fl_solve {l : Launch} {G : aw_G} {σ : aw_S} {p2 : Nat} {p3 : Int32} {p4 : Int32} {p5 : Int32} (h_p2 : xA[p2]? = some (.inr (0, 128, aw_no))) {t : aw_S} (h : m_Fl_solve σ p2 p3 p4 p5 = some t) : aw_Ct l yX2_solve M_Fl_solve G B_Fl_solve [.ref 42, .ref 24, .ref p2, .int p3, .int p4, .int p5] xA σ (none, xA, t) := aw_Ct_of (by decide) rfl (fun h => by cases h) (Nat.le_of_ble_eq_true rfl) (t_Fl_solve h_p2 h rfl)
/-! LateMover$Graph.nodesWith([II)I -/
def z_Gr_nodesWith_X5 (l : Launch) (G : aw_G) (E : aw_E) (σ : aw_S) (v1 : Nat) (v2 : Int32) (s : Int32 × Int32) : Prop := aw_W l M_Gr_nodesWith G B_Gr_nodesWith E 5 [(0, .ref 24), (1, .ref v1), (2, .int v2), (3, .int s.1), (4, .int s.2)] [] xA σ 0 0
def z_Gr_nodesWith_Y5 (l : Launch) (G : aw_G) (E : aw_E) (σ : aw_S) (v1 : Nat) (v2 : Int32) (x : (Int32)) : Prop := aw_W l M_Gr_nodesWith G B_Gr_nodesWith E 40 [(3, .int x)] [] xA σ 0 0
set_option maxRecDepth 100000 in
set_option maxHeartbeats 4000000 in
theorem t_Gr_nodesWith_J29 {l : Launch} {G : aw_G} {E : aw_E} {σ : aw_S} {v1 : Nat} {v2 : Int32} {v4 : Int32} {k0 : Int32} {k1 : Int32} (h_v1 : xA[v1]? = some (.inr (0, 128, aw_no))) {t : (Int32) ⊕ (Int32 × Int32)} (h : m_Gr_nodesWith_J29 σ v1 v2 v4 k0 k1 = some t) (hz : Sum.elim (z_Gr_nodesWith_Y5 l G E σ v1 v2) (z_Gr_nodesWith_X5 l G E σ v1 v2) t) : aw_W l M_Gr_nodesWith G B_Gr_nodesWith E 29 [(0, .ref 24), (1, .ref v1), (2, .int v2), (4, .int v4)] [.int k1, .int k0] xA σ 0 0 := by
  unfold m_Gr_nodesWith_J29 at h
  obtain ⟨r4, e5, h⟩ := aw_bde h
  refine aw_cN1 (pc := 29) [.int k1] (c_Mo_oneIf e5) yy_Mo_oneIf.1 nm_X3_125 yy_Mo_oneIf.2 rfl ⟨Nat.le_of_ble_eq_true rfl, Nat.le_of_ble_eq_true rfl⟩ ⟨Nat.zero_le _, Nat.zero_le _⟩ (Nat.le_of_ble_eq_true rfl) dX3_nodesWith_29 ?_
  refine aw_iadd (pc := 32) dX3_nodesWith_32 ?_
  refine aw_nmI (fun x6 e_x6 => ?_)
  replace h := aw_lte h x6 e_x6
  refine aw_istore_n (pc := 33) [(3, .int x6), (0, .ref 24), (1, .ref v1), (2, .int v2), (4, .int v4)] dX3_nodesWith_33 (by decide) rfl ?_
  obtain ⟨x7, e_x7⟩ : ∃ z, z = (v4 + (1 : Int32)) := ⟨_, rfl⟩
  replace h := aw_lte h x7 e_x7
  refine aw_iinc (pc := 34) (q := 4) (v := x7) [(4, .int x7), (3, .int x6), (0, .ref 24), (1, .ref v1), (2, .int v2)] dX3_nodesWith_34 rfl e_x7.symm (by decide) rfl ?_
  refine aw_goto (pc := 37) (tgt := 5) dX3_nodesWith_37 (by decide) ?_
  refine aw_sub [2, 3, 4, 1, 0] rfl ?_
  cases h
  exact hz
set_option maxRecDepth 100000 in
set_option maxHeartbeats 4000000 in
theorem t_Gr_nodesWith_B5 {l : Launch} {G : aw_G} {E : aw_E} {σ : aw_S} {v1 : Nat} {v2 : Int32} {v3 : Int32} {v4 : Int32} (h_v1 : xA[v1]? = some (.inr (0, 128, aw_no))) {t : (Int32) ⊕ (Int32 × Int32)} (h : m_Gr_nodesWith_B5 σ v1 v2 v3 v4 = some t) (hz : Sum.elim (z_Gr_nodesWith_Y5 l G E σ v1 v2) (z_Gr_nodesWith_X5 l G E σ v1 v2) t) : aw_W l M_Gr_nodesWith G B_Gr_nodesWith E 5 [(0, .ref 24), (1, .ref v1), (2, .int v2), (3, .int v3), (4, .int v4)] [] xA σ 0 0 := by
  unfold m_Gr_nodesWith_B5 at h
  refine aw_iload (pc := 5) (q := 4) dX3_nodesWith_5 rfl ?_
  refine aw_aload_n (pc := 7) (q := 0) dX3_nodesWith_7 rfl ?_
  refine aw_getI (pc := 8) fd_X3_67.r xA_24 rfl dX3_nodesWith_8 ?_
  refine aw_icmp_ge (pc := 11) (tgt := 40) dX3_nodesWith_11 (by decide) (fun c1 => ?_) (fun c1 => ?_)
  · replace h := aw_ifp c1 h
    refine aw_sub [3] rfl ?_
    cases h
    exact hz
  · replace h := aw_ifn c1 h
    refine aw_iload_n (pc := 14) (q := 3) dX3_nodesWith_14 rfl ?_
    refine aw_aload_n (pc := 15) (q := 1) dX3_nodesWith_15 rfl ?_
    refine aw_iload (pc := 16) (q := 4) dX3_nodesWith_16 rfl ?_
    obtain ⟨g2, h⟩ := aw_gde h
    refine aw_iald (pc := 18) h_v1 g2 dX3_nodesWith_18 ?_
    refine aw_iload_n (pc := 19) (q := 2) dX3_nodesWith_19 rfl ?_
    refine aw_iand (pc := 20) dX3_nodesWith_20 ?_
    refine aw_if_eq (pc := 21) (tgt := 28) dX3_nodesWith_21 (by decide) (fun c3 => ?_) (fun c3 => ?_)
    · replace h := aw_ifp c3 h
      refine aw_iconst (pc := 28) (v := 0) dX3_nodesWith_28 (by decide) ?_
      refine aw_sub [0, 1, 2, 4] rfl ?_
      exact t_Gr_nodesWith_J29 h_v1 h hz
    · replace h := aw_ifn c3 h
      refine aw_iconst (pc := 24) (v := 1) dX3_nodesWith_24 (by decide) ?_
      refine aw_goto (pc := 25) (tgt := 29) dX3_nodesWith_25 (by decide) ?_
      refine aw_sub [0, 1, 2, 4] rfl ?_
      exact t_Gr_nodesWith_J29 h_v1 h hz
set_option maxRecDepth 100000 in
set_option maxHeartbeats 4000000 in
theorem t_Gr_nodesWith {l : Launch} {G : aw_G} {E : aw_E} {σ : aw_S} {p1 : Nat} {p2 : Int32} (h_p1 : xA[p1]? = some (.inr (0, 128, aw_no))) {t : Int32} (h : m_Gr_nodesWith σ p1 p2 = some t) (hE : E = (some (.int t), xA, σ)) : aw_W l M_Gr_nodesWith G B_Gr_nodesWith E 0 [(0, .ref 24), (1, .ref p1), (2, .int p2)] [] xA σ 0 0 := by
  unfold m_Gr_nodesWith at h
  refine aw_iconst (pc := 0) (v := 0) dX3_nodesWith_0 (by decide) ?_
  refine aw_istore_n (pc := 1) [(3, .int ((0 : Int32))), (0, .ref 24), (1, .ref p1), (2, .int p2)] dX3_nodesWith_1 (by decide) rfl ?_
  refine aw_iconst (pc := 2) (v := 0) dX3_nodesWith_2 (by decide) ?_
  refine aw_istore (pc := 3) [(4, .int ((0 : Int32))), (3, .int ((0 : Int32))), (0, .ref 24), (1, .ref p1), (2, .int p2)] dX3_nodesWith_3 (by decide) rfl ?_
  obtain ⟨x8, hl9, h⟩ := aw_bde h
  have K10 : z_Gr_nodesWith_Y5 l G E σ p1 p2 x8 := by
    show aw_W l M_Gr_nodesWith G B_Gr_nodesWith E 40 [(3, .int x8)] [] xA σ 0 0
    refine aw_iload_n (pc := 40) (q := 0) dX3_nodesWith_40 rfl ?_
    cases h
    subst hE
    exact aw_iret (v := _) rfl aw_ni ⟨Nat.zero_le _, Nat.zero_le _⟩ dX3_nodesWith_41
  refine aw_sub [2, 3, 4, 1, 0] rfl ?_
  show z_Gr_nodesWith_X5 l G E σ p1 p2 (((0 : Int32), (0 : Int32)))
  exact aw_lp_X (Xp := z_Gr_nodesWith_X5 l G E σ p1 p2) (Y := z_Gr_nodesWith_Y5 l G E σ p1 p2) hl9 K10 (fun s t hf hz => t_Gr_nodesWith_B5 h_p1 hf hz)
theorem c_Gr_nodesWith {l : Launch} {G : aw_G} {σ : aw_S} {p1 : Nat} {p2 : Int32} (h_p1 : xA[p1]? = some (.inr (0, 128, aw_no))) {t : Int32} (h : m_Gr_nodesWith σ p1 p2 = some t) : aw_Ct l yX3_nodesWith M_Gr_nodesWith G B_Gr_nodesWith [.ref 24, .ref p1, .int p2] xA σ (some (.int t), xA, σ) := aw_Ct_of (by decide) rfl (fun h => by cases h) (Nat.le_of_ble_eq_true rfl) (t_Gr_nodesWith h_p1 h rfl)

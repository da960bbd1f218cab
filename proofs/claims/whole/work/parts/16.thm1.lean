/-! LateMover$Text.size()I -/
set_option maxRecDepth 100000 in
set_option maxHeartbeats 4000000 in
theorem t_Te_size {l : Launch} {G : aw_G} {E : aw_E} {σ : aw_S} {o : Nat} (h_o : isTe o) {t : Int32} (h : m_Te_size σ o = some t) (hE : E = (some (.int t), xA, σ)) : aw_W l M_Te_size G B_Te_size E 0 [(0, .ref o)] [] xA σ 0 0 := by
  unfold m_Te_size at h
  refine aw_aload_n (pc := 0) (q := 0) dX9_size_0 rfl ?_
  refine aw_getI (pc := 1) fd_X9_15.r h_o.1 rfl dX9_size_1 ?_
  cases h
  subst hE
  exact aw_iret (v := (σ.1 o 1)) rfl aw_ni ⟨Nat.zero_le _, Nat.zero_le _⟩ dX9_size_4
theorem c_Te_size {l : Launch} {G : aw_G} {σ : aw_S} {o : Nat} (h_o : isTe o) {t : Int32} (h : m_Te_size σ o = some t) : aw_Ct l yX9_size M_Te_size G B_Te_size [.ref o] xA σ (some (.int t), xA, σ) := aw_Ct_of (by decide) rfl (fun h => by cases h) (Nat.le_of_ble_eq_true rfl) (t_Te_size h_o h rfl)
/-! LateMover$Text.put(I)V -/
set_option maxRecDepth 100000 in
set_option maxHeartbeats 4000000 in
theorem t_Te_put {l : Launch} {G : aw_G} {E : aw_E} {σ : aw_S} {o : Nat} {p1 : Int32} (h_o : isTe o) {t : aw_S} (h : m_Te_put σ o p1 = some t) (hE : E = (none, xA, t)) : aw_W l M_Te_put G B_Te_put E 0 [(0, .ref o), (1, .int p1)] [] xA σ 0 0 := by
  unfold m_Te_put at h
  refine aw_aload_n (pc := 0) (q := 0) dX9_put_0 rfl ?_
  refine aw_getI (pc := 1) fd_X9_15.r h_o.1 rfl dX9_put_1 ?_
  refine aw_if_lt (pc := 4) (tgt := 38) dX9_put_4 (by decide) (fun c1 => ?_) (fun c1 => ?_)
  · replace h := aw_ifp c1 h
    cases h
    subst hE
    exact aw_vret rfl ⟨Nat.zero_le _, Nat.zero_le _⟩ dX9_put_38
  · replace h := aw_ifn c1 h
    refine aw_aload_n (pc := 7) (q := 0) dX9_put_7 rfl ?_
    refine aw_getI (pc := 8) fd_X9_15.r h_o.1 rfl dX9_put_8 ?_
    refine aw_sipush (pc := 11) (v := 800) dX9_put_11 (by decide) ?_
    refine aw_icmp_ge (pc := 14) (tgt := 38) dX9_put_14 (by decide) (fun c2 => ?_) (fun c2 => ?_)
    · replace h := aw_ifp c2 h
      cases h
      subst hE
      exact aw_vret rfl ⟨Nat.zero_le _, Nat.zero_le _⟩ dX9_put_38
    · replace h := aw_ifn c2 h
      refine aw_aload_n (pc := 17) (q := 0) dX9_put_17 rfl ?_
      refine aw_getC (pc := 18) fd_X9_9.r h_o.1 rfl dX9_put_18 ?_
      refine aw_aload_n (pc := 21) (q := 0) dX9_put_21 rfl ?_
      refine aw_getI (pc := 22) fd_X9_15.r h_o.1 rfl dX9_put_22 ?_
      refine aw_iload_n (pc := 25) (q := 1) dX9_put_25 rfl ?_
      refine aw_i2b (pc := 26) dX9_put_26 ?_
      obtain ⟨g3, h⟩ := aw_gde h
      refine aw_bast (pc := 27) h_o.2 g3 dX9_put_27 ?_
      refine aw_nmS (fun s4 e_s4 => ?_)
      replace h := aw_lte h s4 e_s4
      refine aw_aload_n (pc := 28) (q := 0) dX9_put_28 rfl ?_
      refine aw_dup (pc := 29) dX9_put_29 rfl ?_
      refine aw_getI (pc := 30) fd_X9_15.r h_o.1 rfl dX9_put_30 ?_
      refine aw_iconst (pc := 33) (v := 1) dX9_put_33 (by decide) ?_
      refine aw_iadd (pc := 34) dX9_put_34 ?_
      refine aw_putI (pc := 35) fd_X9_15 h_o.1 rfl (fun _ => rfl) (fun _ => rfl) dX9_put_35 ?_
      refine aw_nmS (fun s5 e_s5 => ?_)
      replace h := aw_lte h s5 e_s5
      cases h
      subst hE
      exact aw_vret rfl ⟨Nat.zero_le _, Nat.zero_le _⟩ dX9_put_38
theorem c_Te_put {l : Launch} {G : aw_G} {σ : aw_S} {o : Nat} {p1 : Int32} (h_o : isTe o) {t : aw_S} (h : m_Te_put σ o p1 = some t) : aw_Ct l yX9_put M_Te_put G B_Te_put [.ref o, .int p1] xA σ (none, xA, t) := aw_Ct_of (by decide) rfl (fun h => by cases h) (Nat.le_of_ble_eq_true rfl) (t_Te_put h_o h rfl)
/-! LateMover$Text.putFour(I)V -/
set_option maxRecDepth 100000 in
set_option maxHeartbeats 4000000 in
theorem t_Te_putFour {l : Launch} {G : aw_G} {E : aw_E} {σ : aw_S} {o : Nat} {p1 : Int32} (h_o : isTe o) {t : aw_S} (h : m_Te_putFour σ o p1 = some t) (hE : E = (none, xA, t)) : aw_W l M_Te_putFour G B_Te_putFour E 0 [(0, .ref o), (1, .int p1)] [] xA σ 0 0 := by
  unfold m_Te_putFour at h
  refine aw_aload_n (pc := 0) (q := 0) dX9_putFour_0 rfl ?_
  refine aw_iload_n (pc := 1) (q := 1) dX9_putFour_1 rfl ?_
  refine aw_bipush (pc := 2) (v := 24) dX9_putFour_2 (by decide) ?_
  refine aw_iushr (pc := 4) dX9_putFour_4 ?_
  obtain ⟨s3, e2, h⟩ := aw_bde h
  refine aw_cV0 (pc := 5) [.int ((aw_ushr p1 ((24 : Int32))))] (c_Te_put h_o e2) yy_Te_put.1 wm_230 yy_Te_put.2.1 yy_Te_put.2.2 h_o.1 ⟨_, _, rfl⟩ rfl ⟨Nat.le_of_ble_eq_true rfl, Nat.le_of_ble_eq_true rfl⟩ ⟨Nat.zero_le _, Nat.zero_le _⟩ (Nat.le_of_ble_eq_true rfl) dX9_putFour_5 ?_
  refine aw_aload_n (pc := 8) (q := 0) dX9_putFour_8 rfl ?_
  refine aw_iload_n (pc := 9) (q := 1) dX9_putFour_9 rfl ?_
  refine aw_bipush (pc := 10) (v := 16) dX9_putFour_10 (by decide) ?_
  refine aw_iushr (pc := 12) dX9_putFour_12 ?_
  obtain ⟨s6, e5, h⟩ := aw_bde h
  refine aw_cV0 (pc := 13) [.int ((aw_ushr p1 ((16 : Int32))))] (c_Te_put h_o e5) yy_Te_put.1 wm_230 yy_Te_put.2.1 yy_Te_put.2.2 h_o.1 ⟨_, _, rfl⟩ rfl ⟨Nat.le_of_ble_eq_true rfl, Nat.le_of_ble_eq_true rfl⟩ ⟨Nat.zero_le _, Nat.zero_le _⟩ (Nat.le_of_ble_eq_true rfl) dX9_putFour_13 ?_
  refine aw_aload_n (pc := 16) (q := 0) dX9_putFour_16 rfl ?_
  refine aw_iload_n (pc := 17) (q := 1) dX9_putFour_17 rfl ?_
  refine aw_bipush (pc := 18) (v := 8) dX9_putFour_18 (by decide) ?_
  refine aw_iushr (pc := 20) dX9_putFour_20 ?_
  obtain ⟨s9, e8, h⟩ := aw_bde h
  refine aw_cV0 (pc := 21) [.int ((aw_ushr p1 ((8 : Int32))))] (c_Te_put h_o e8) yy_Te_put.1 wm_230 yy_Te_put.2.1 yy_Te_put.2.2 h_o.1 ⟨_, _, rfl⟩ rfl ⟨Nat.le_of_ble_eq_true rfl, Nat.le_of_ble_eq_true rfl⟩ ⟨Nat.zero_le _, Nat.zero_le _⟩ (Nat.le_of_ble_eq_true rfl) dX9_putFour_21 ?_
  refine aw_aload_n (pc := 24) (q := 0) dX9_putFour_24 rfl ?_
  refine aw_iload_n (pc := 25) (q := 1) dX9_putFour_25 rfl ?_
  obtain ⟨s12, e11, h⟩ := aw_bde h
  refine aw_cV0 (pc := 26) [.int p1] (c_Te_put h_o e11) yy_Te_put.1 wm_230 yy_Te_put.2.1 yy_Te_put.2.2 h_o.1 ⟨_, _, rfl⟩ rfl ⟨Nat.le_of_ble_eq_true rfl, Nat.le_of_ble_eq_true rfl⟩ ⟨Nat.zero_le _, Nat.zero_le _⟩ (Nat.le_of_ble_eq_true rfl) dX9_putFour_26 ?_
  cases h
  subst hE
  exact aw_vret rfl ⟨Nat.zero_le _, Nat.zero_le _⟩ dX9_putFour_29
theorem c_Te_putFour {l : Launch} {G : aw_G} {σ : aw_S} {o : Nat} {p1 : Int32} (h_o : isTe o) {t : aw_S} (h : m_Te_putFour σ o p1 = some t) : aw_Ct l yX9_putFour M_Te_putFour G B_Te_putFour [.ref o, .int p1] xA σ (none, xA, t) := aw_Ct_of (by decide) rfl (fun h => by cases h) (Nat.le_of_ble_eq_true rfl) (t_Te_putFour h_o h rfl)
/-! LateMover.feed(IIIII)I -/
set_option maxRecDepth 100000 in
set_option maxHeartbeats 4000000 in
theorem t_Mo_feed {l : Launch} {G : aw_G} {E : aw_E} {σ : aw_S} {p1 : Int32} {p2 : Int32} {p3 : Int32} {p4 : Int32} {p5 : Int32} {t : (Int32 × aw_S)} (h : m_Mo_feed σ p1 p2 p3 p4 p5 = some t) (hE : E = (some (.int t.1), xA, t.2)) : aw_W l M_Mo_feed G B_Mo_feed E 0 [(0, .ref 0), (1, .int p1), (2, .int p2), (3, .int p3), (4, .int p4), (5, .int p5)] [] xA σ 0 0 := by
  unfold m_Mo_feed at h
  refine aw_aload_n (pc := 0) (q := 0) dX11_feed_0 rfl ?_
  refine aw_getC (pc := 1) fd_X11_12.r xA_0 rfl dX11_feed_1 ?_
  obtain ⟨r1, e2, h⟩ := aw_bde h
  refine aw_cV1 (pc := 4) [] (c_Te_size isTe_1 e2) yy_Te_size.1 wm_221 yy_Te_size.2.1 yy_Te_size.2.2 xA_1 ⟨_, _, rfl⟩ rfl ⟨Nat.le_of_ble_eq_true rfl, Nat.le_of_ble_eq_true rfl⟩ ⟨Nat.zero_le _, Nat.zero_le _⟩ (Nat.le_of_ble_eq_true rfl) dX11_feed_4 ?_
  refine aw_bipush (pc := 7) (v := 20) dX11_feed_7 (by decide) ?_
  refine aw_iadd (pc := 9) dX11_feed_9 ?_
  refine aw_sipush (pc := 10) (v := 800) dX11_feed_10 (by decide) ?_
  refine aw_icmp_le (pc := 13) (tgt := 18) dX11_feed_13 (by decide) (fun c3 => ?_) (fun c3 => ?_)
  · replace h := aw_ifp c3 h
    refine aw_aload_n (pc := 18) (q := 0) dX11_feed_18 rfl ?_
    refine aw_getC (pc := 19) fd_X11_12.r xA_0 rfl dX11_feed_19 ?_
    refine aw_iload_n (pc := 22) (q := 1) dX11_feed_22 rfl ?_
    obtain ⟨s6, e5, h⟩ := aw_bde h
    refine aw_cV0 (pc := 23) [.int p1] (c_Te_putFour isTe_1 e5) yy_Te_putFour.1 wm_226 yy_Te_putFour.2.1 yy_Te_putFour.2.2 xA_1 ⟨_, _, rfl⟩ rfl ⟨Nat.le_of_ble_eq_true rfl, Nat.le_of_ble_eq_true rfl⟩ ⟨Nat.zero_le _, Nat.zero_le _⟩ (Nat.le_of_ble_eq_true rfl) dX11_feed_23 ?_
    refine aw_aload_n (pc := 26) (q := 0) dX11_feed_26 rfl ?_
    refine aw_getC (pc := 27) fd_X11_12.r xA_0 rfl dX11_feed_27 ?_
    refine aw_iload_n (pc := 30) (q := 2) dX11_feed_30 rfl ?_
    obtain ⟨s9, e8, h⟩ := aw_bde h
    refine aw_cV0 (pc := 31) [.int p2] (c_Te_putFour isTe_1 e8) yy_Te_putFour.1 wm_226 yy_Te_putFour.2.1 yy_Te_putFour.2.2 xA_1 ⟨_, _, rfl⟩ rfl ⟨Nat.le_of_ble_eq_true rfl, Nat.le_of_ble_eq_true rfl⟩ ⟨Nat.zero_le _, Nat.zero_le _⟩ (Nat.le_of_ble_eq_true rfl) dX11_feed_31 ?_
    refine aw_aload_n (pc := 34) (q := 0) dX11_feed_34 rfl ?_
    refine aw_getC (pc := 35) fd_X11_12.r xA_0 rfl dX11_feed_35 ?_
    refine aw_iload_n (pc := 38) (q := 3) dX11_feed_38 rfl ?_
    obtain ⟨s12, e11, h⟩ := aw_bde h
    refine aw_cV0 (pc := 39) [.int p3] (c_Te_putFour isTe_1 e11) yy_Te_putFour.1 wm_226 yy_Te_putFour.2.1 yy_Te_putFour.2.2 xA_1 ⟨_, _, rfl⟩ rfl ⟨Nat.le_of_ble_eq_true rfl, Nat.le_of_ble_eq_true rfl⟩ ⟨Nat.zero_le _, Nat.zero_le _⟩ (Nat.le_of_ble_eq_true rfl) dX11_feed_39 ?_
    refine aw_aload_n (pc := 42) (q := 0) dX11_feed_42 rfl ?_
    refine aw_getC (pc := 43) fd_X11_12.r xA_0 rfl dX11_feed_43 ?_
    refine aw_iload (pc := 46) (q := 4) dX11_feed_46 rfl ?_
    obtain ⟨s15, e14, h⟩ := aw_bde h
    refine aw_cV0 (pc := 48) [.int p4] (c_Te_putFour isTe_1 e14) yy_Te_putFour.1 wm_226 yy_Te_putFour.2.1 yy_Te_putFour.2.2 xA_1 ⟨_, _, rfl⟩ rfl ⟨Nat.le_of_ble_eq_true rfl, Nat.le_of_ble_eq_true rfl⟩ ⟨Nat.zero_le _, Nat.zero_le _⟩ (Nat.le_of_ble_eq_true rfl) dX11_feed_48 ?_
    refine aw_aload_n (pc := 51) (q := 0) dX11_feed_51 rfl ?_
    refine aw_getC (pc := 52) fd_X11_12.r xA_0 rfl dX11_feed_52 ?_
    refine aw_iload (pc := 55) (q := 5) dX11_feed_55 rfl ?_
    obtain ⟨s18, e17, h⟩ := aw_bde h
    refine aw_cV0 (pc := 57) [.int p5] (c_Te_putFour isTe_1 e17) yy_Te_putFour.1 wm_226 yy_Te_putFour.2.1 yy_Te_putFour.2.2 xA_1 ⟨_, _, rfl⟩ rfl ⟨Nat.le_of_ble_eq_true rfl, Nat.le_of_ble_eq_true rfl⟩ ⟨Nat.zero_le _, Nat.zero_le _⟩ (Nat.le_of_ble_eq_true rfl) dX11_feed_57 ?_
    refine aw_aload_n (pc := 60) (q := 0) dX11_feed_60 rfl ?_
    refine aw_getC (pc := 61) fd_X11_12.r xA_0 rfl dX11_feed_61 ?_
    obtain ⟨r19, e20, h⟩ := aw_bde h
    refine aw_cV1 (pc := 64) [] (c_Te_size isTe_1 e20) yy_Te_size.1 wm_221 yy_Te_size.2.1 yy_Te_size.2.2 xA_1 ⟨_, _, rfl⟩ rfl ⟨Nat.le_of_ble_eq_true rfl, Nat.le_of_ble_eq_true rfl⟩ ⟨Nat.zero_le _, Nat.zero_le _⟩ (Nat.le_of_ble_eq_true rfl) dX11_feed_64 ?_
    cases h
    subst hE
    exact aw_iret (v := r19) rfl aw_ni ⟨Nat.zero_le _, Nat.zero_le _⟩ dX11_feed_67
  · replace h := aw_ifn c3 h
    refine aw_iconst (pc := 16) (v := -1) dX11_feed_16 (by decide) ?_
    cases h
    subst hE
    exact aw_iret (v := (-1 : Int32)) rfl aw_ni ⟨Nat.zero_le _, Nat.zero_le _⟩ dX11_feed_17
theorem c_Mo_feed {l : Launch} {G : aw_G} {σ : aw_S} {p1 : Int32} {p2 : Int32} {p3 : Int32} {p4 : Int32} {p5 : Int32} {t : (Int32 × aw_S)} (h : m_Mo_feed σ p1 p2 p3 p4 p5 = some t) : aw_Ct l yX11_feed M_Mo_feed G B_Mo_feed [.ref 0, .int p1, .int p2, .int p3, .int p4, .int p5] xA σ (some (.int t.1), xA, t.2) := aw_Ct_of (by decide) rfl (fun h => by cases h) (Nat.le_of_ble_eq_true rfl) (t_Mo_feed h rfl)
/-! LateMover$Text.cut(I)V -/
set_option maxRecDepth 100000 in
set_option maxHeartbeats 4000000 in
theorem t_Te_cut {l : Launch} {G : aw_G} {E : aw_E} {σ : aw_S} {o : Nat} {p1 : Int32} (h_o : isTe o) {t : aw_S} (h : m_Te_cut σ o p1 = some t) (hE : E = (none, xA, t)) : aw_W l M_Te_cut G B_Te_cut E 0 [(0, .ref o), (1, .int p1)] [] xA σ 0 0 := by
  unfold m_Te_cut at h
  refine aw_iload_n (pc := 0) (q := 1) dX9_cut_0 rfl ?_
  refine aw_if_lt (pc := 1) (tgt := 17) dX9_cut_1 (by decide) (fun c1 => ?_) (fun c1 => ?_)
  · replace h := aw_ifp c1 h
    cases h
    subst hE
    exact aw_vret rfl ⟨Nat.zero_le _, Nat.zero_le _⟩ dX9_cut_17
  · replace h := aw_ifn c1 h
    refine aw_iload_n (pc := 4) (q := 1) dX9_cut_4 rfl ?_
    refine aw_aload_n (pc := 5) (q := 0) dX9_cut_5 rfl ?_
    refine aw_getI (pc := 6) fd_X9_15.r h_o.1 rfl dX9_cut_6 ?_
    refine aw_icmp_gt (pc := 9) (tgt := 17) dX9_cut_9 (by decide) (fun c2 => ?_) (fun c2 => ?_)
    · replace h := aw_ifp c2 h
      cases h
      subst hE
      exact aw_vret rfl ⟨Nat.zero_le _, Nat.zero_le _⟩ dX9_cut_17
    · replace h := aw_ifn c2 h
      refine aw_aload_n (pc := 12) (q := 0) dX9_cut_12 rfl ?_
      refine aw_iload_n (pc := 13) (q := 1) dX9_cut_13 rfl ?_
      refine aw_putI (pc := 14) fd_X9_15 h_o.1 rfl (fun _ => rfl) (fun _ => rfl) dX9_cut_14 ?_
      refine aw_nmS (fun s3 e_s3 => ?_)
      replace h := aw_lte h s3 e_s3
      cases h
      subst hE
      exact aw_vret rfl ⟨Nat.zero_le _, Nat.zero_le _⟩ dX9_cut_17
theorem c_Te_cut {l : Launch} {G : aw_G} {σ : aw_S} {o : Nat} {p1 : Int32} (h_o : isTe o) {t : aw_S} (h : m_Te_cut σ o p1 = some t) : aw_Ct l yX9_cut M_Te_cut G B_Te_cut [.ref o, .int p1] xA σ (none, xA, t) := aw_Ct_of (by decide) rfl (fun h => by cases h) (Nat.le_of_ble_eq_true rfl) (t_Te_cut h_o h rfl)
/-! LateMover.end(I)I -/
set_option maxRecDepth 100000 in
set_option maxHeartbeats 4000000 in
theorem t_Mo_end {l : Launch} {G : aw_G} {E : aw_E} {σ : aw_S} {p1 : Int32} {t : (Int32 × aw_S)} (h : m_Mo_end σ p1 = some t) (hE : E = (some (.int t.1), xA, t.2)) : aw_W l M_Mo_end G B_Mo_end E 0 [(0, .ref 0), (1, .int p1)] [] xA σ 0 0 := by
  unfold m_Mo_end at h
  refine aw_iload_n (pc := 0) (q := 1) dX11_end_0 rfl ?_
  refine aw_if_lt (pc := 1) (tgt := 15) dX11_end_1 (by decide) (fun c1 => ?_) (fun c1 => ?_)
  · replace h := aw_ifp c1 h
    refine aw_iconst (pc := 15) (v := -1) dX11_end_15 (by decide) ?_
    cases h
    subst hE
    exact aw_iret (v := (-1 : Int32)) rfl aw_ni ⟨Nat.zero_le _, Nat.zero_le _⟩ dX11_end_16
  · replace h := aw_ifn c1 h
    refine aw_iload_n (pc := 4) (q := 1) dX11_end_4 rfl ?_
    refine aw_aload_n (pc := 5) (q := 0) dX11_end_5 rfl ?_
    refine aw_getC (pc := 6) fd_X11_12.r xA_0 rfl dX11_end_6 ?_
    obtain ⟨r2, e3, h⟩ := aw_bde h
    refine aw_cV1 (pc := 9) [] (c_Te_size isTe_1 e3) yy_Te_size.1 wm_221 yy_Te_size.2.1 yy_Te_size.2.2 xA_1 ⟨_, _, rfl⟩ rfl ⟨Nat.le_of_ble_eq_true rfl, Nat.le_of_ble_eq_true rfl⟩ ⟨Nat.zero_le _, Nat.zero_le _⟩ (Nat.le_of_ble_eq_true rfl) dX11_end_9 ?_
    refine aw_icmp_le (pc := 12) (tgt := 17) dX11_end_12 (by decide) (fun c4 => ?_) (fun c4 => ?_)
    · replace h := aw_ifp c4 h
      refine aw_aload_n (pc := 17) (q := 0) dX11_end_17 rfl ?_
      refine aw_getC (pc := 18) fd_X11_12.r xA_0 rfl dX11_end_18 ?_
      refine aw_iload_n (pc := 21) (q := 1) dX11_end_21 rfl ?_
      obtain ⟨s7, e6, h⟩ := aw_bde h
      refine aw_cV0 (pc := 22) [.int p1] (c_Te_cut isTe_1 e6) yy_Te_cut.1 wm_247 yy_Te_cut.2.1 yy_Te_cut.2.2 xA_1 ⟨_, _, rfl⟩ rfl ⟨Nat.le_of_ble_eq_true rfl, Nat.le_of_ble_eq_true rfl⟩ ⟨Nat.zero_le _, Nat.zero_le _⟩ (Nat.le_of_ble_eq_true rfl) dX11_end_22 ?_
      refine aw_iload_n (pc := 25) (q := 1) dX11_end_25 rfl ?_
      cases h
      subst hE
      exact aw_iret (v := p1) rfl aw_ni ⟨Nat.zero_le _, Nat.zero_le _⟩ dX11_end_26
    · replace h := aw_ifn c4 h
      refine aw_iconst (pc := 15) (v := -1) dX11_end_15 (by decide) ?_
      cases h
      subst hE
      exact aw_iret (v := (-1 : Int32)) rfl aw_ni ⟨Nat.zero_le _, Nat.zero_le _⟩ dX11_end_16
theorem c_Mo_end {l : Launch} {G : aw_G} {σ : aw_S} {p1 : Int32} {t : (Int32 × aw_S)} (h : m_Mo_end σ p1 = some t) : aw_Ct l yX11_end M_Mo_end G B_Mo_end [.ref 0, .int p1] xA σ (some (.int t.1), xA, t.2) := aw_Ct_of (by decide) rfl (fun h => by cases h) (Nat.le_of_ble_eq_true rfl) (t_Mo_end h rfl)
/-! LateMover$Text.copyFrom(LLateMover$Text;)V -/
set_option maxRecDepth 100000 in
set_option maxHeartbeats 4000000 in
theorem t_Te_copyFrom {l : Launch} {G : aw_G} {E : aw_E} {σ : aw_S} {o : Nat} {p1 : Nat} (h_o : isTe o) (h_p1 : isTe p1) {t : aw_S} (h : m_Te_copyFrom σ o p1 = some t) (hE : E = (none, xA, t)) : aw_W l M_Te_copyFrom G B_Te_copyFrom E 0 [(0, .ref o), (1, .ref p1)] [] xA σ 0 0 := by
  unfold m_Te_copyFrom at h
  refine aw_aload_n (pc := 0) (q := 1) dX9_copyFrom_0 rfl ?_
  refine aw_getC (pc := 1) fd_X9_9.r h_p1.1 rfl dX9_copyFrom_1 ?_
  refine aw_iconst (pc := 4) (v := 0) dX9_copyFrom_4 (by decide) ?_
  refine aw_aload_n (pc := 5) (q := 0) dX9_copyFrom_5 rfl ?_
  refine aw_getC (pc := 6) fd_X9_9.r h_o.1 rfl dX9_copyFrom_6 ?_
  refine aw_iconst (pc := 9) (v := 0) dX9_copyFrom_9 (by decide) ?_
  refine aw_sipush (pc := 10) (v := 800) dX9_copyFrom_10 (by decide) ?_
  obtain ⟨g2, h⟩ := aw_gde h
  refine aw_copyB (pc := 13) (N := 800) wm_277 h_p1.2 h_o.2 (by decide) (Nat.le_of_ble_eq_true rfl) (Nat.le_of_ble_eq_true rfl) g2 ⟨Nat.le_of_ble_eq_true rfl, Nat.le_of_ble_eq_true rfl⟩ (Nat.le_of_ble_eq_true rfl) dX9_copyFrom_13 ?_
  refine aw_nmS (fun s1 e_s1 => ?_)
  replace h := aw_lte h s1 e_s1
  refine aw_aload_n (pc := 16) (q := 0) dX9_copyFrom_16 rfl ?_
  refine aw_aload_n (pc := 17) (q := 1) dX9_copyFrom_17 rfl ?_
  refine aw_getI (pc := 18) fd_X9_15.r h_p1.1 rfl dX9_copyFrom_18 ?_
  refine aw_putI (pc := 21) fd_X9_15 h_o.1 rfl (fun _ => rfl) (fun _ => rfl) dX9_copyFrom_21 ?_
  refine aw_nmS (fun s3 e_s3 => ?_)
  replace h := aw_lte h s3 e_s3
  cases h
  subst hE
  exact aw_vret rfl ⟨Nat.zero_le _, Nat.zero_le _⟩ dX9_copyFrom_24
theorem c_Te_copyFrom {l : Launch} {G : aw_G} {σ : aw_S} {o : Nat} {p1 : Nat} (h_o : isTe o) (h_p1 : isTe p1) {t : aw_S} (h : m_Te_copyFrom σ o p1 = some t) : aw_Ct l yX9_copyFrom M_Te_copyFrom G B_Te_copyFrom [.ref o, .ref p1] xA σ (none, xA, t) := aw_Ct_of (by decide) rfl (fun h => by cases h) (Nat.le_of_ble_eq_true rfl) (t_Te_copyFrom h_o h_p1 h rfl)
/-! LateMover$Text.at(I)I -/
set_option maxRecDepth 100000 in
set_option maxHeartbeats 4000000 in
theorem t_Te_at {l : Launch} {G : aw_G} {E : aw_E} {σ : aw_S} {o : Nat} {p1 : Int32} (h_o : isTe o) {t : Int32} (h : m_Te_at σ o p1 = some t) (hE : E = (some (.int t), xA, σ)) : aw_W l M_Te_at G B_Te_at E 0 [(0, .ref o), (1, .int p1)] [] xA σ 0 0 := by
  unfold m_Te_at at h
  refine aw_iload_n (pc := 0) (q := 1) dX9_at_0 rfl ?_
  refine aw_if_lt (pc := 1) (tgt := 32) dX9_at_1 (by decide) (fun c1 => ?_) (fun c1 => ?_)
  · replace h := aw_ifp c1 h
    refine aw_iconst (pc := 32) (v := -1) dX9_at_32 (by decide) ?_
    cases h
    subst hE
    exact aw_iret (v := (-1 : Int32)) rfl aw_ni ⟨Nat.zero_le _, Nat.zero_le _⟩ dX9_at_33
  · replace h := aw_ifn c1 h
    refine aw_iload_n (pc := 4) (q := 1) dX9_at_4 rfl ?_
    refine aw_aload_n (pc := 5) (q := 0) dX9_at_5 rfl ?_
    refine aw_getI (pc := 6) fd_X9_15.r h_o.1 rfl dX9_at_6 ?_
    refine aw_icmp_ge (pc := 9) (tgt := 32) dX9_at_9 (by decide) (fun c2 => ?_) (fun c2 => ?_)
    · replace h := aw_ifp c2 h
      refine aw_iconst (pc := 32) (v := -1) dX9_at_32 (by decide) ?_
      cases h
      subst hE
      exact aw_iret (v := (-1 : Int32)) rfl aw_ni ⟨Nat.zero_le _, Nat.zero_le _⟩ dX9_at_33
    · replace h := aw_ifn c2 h
      refine aw_iload_n (pc := 12) (q := 1) dX9_at_12 rfl ?_
      refine aw_sipush (pc := 13) (v := 800) dX9_at_13 (by decide) ?_
      refine aw_icmp_ge (pc := 16) (tgt := 32) dX9_at_16 (by decide) (fun c3 => ?_) (fun c3 => ?_)
      · replace h := aw_ifp c3 h
        refine aw_iconst (pc := 32) (v := -1) dX9_at_32 (by decide) ?_
        cases h
        subst hE
        exact aw_iret (v := (-1 : Int32)) rfl aw_ni ⟨Nat.zero_le _, Nat.zero_le _⟩ dX9_at_33
      · replace h := aw_ifn c3 h
        refine aw_aload_n (pc := 19) (q := 0) dX9_at_19 rfl ?_
        refine aw_getC (pc := 20) fd_X9_9.r h_o.1 rfl dX9_at_20 ?_
        refine aw_iload_n (pc := 23) (q := 1) dX9_at_23 rfl ?_
        obtain ⟨g4, h⟩ := aw_gde h
        refine aw_bald (pc := 24) h_o.2 g4 dX9_at_24 ?_
        refine aw_sipush (pc := 25) (v := 255) dX9_at_25 (by decide) ?_
        refine aw_iand (pc := 28) dX9_at_28 ?_
        refine aw_goto (pc := 29) (tgt := 33) dX9_at_29 (by decide) ?_
        cases h
        subst hE
        exact aw_iret (v := ((σ.1 (o + 1) p1.toNatClampNeg) &&& (255 : Int32))) rfl aw_ni ⟨Nat.zero_le _, Nat.zero_le _⟩ dX9_at_33
theorem c_Te_at {l : Launch} {G : aw_G} {σ : aw_S} {o : Nat} {p1 : Int32} (h_o : isTe o) {t : Int32} (h : m_Te_at σ o p1 = some t) : aw_Ct l yX9_at M_Te_at G B_Te_at [.ref o, .int p1] xA σ (some (.int t), xA, σ) := aw_Ct_of (by decide) rfl (fun h => by cases h) (Nat.le_of_ble_eq_true rfl) (t_Te_at h_o h rfl)
/-! LateMover$Reader.isLetter(I)Z -/
set_option maxRecDepth 100000 in
set_option maxHeartbeats 4000000 in
theorem t_Re_isLetter {l : Launch} {G : aw_G} {E : aw_E} {σ : aw_S} {p0 : Int32} {t : Int32} (h : m_Re_isLetter σ p0 = some t) (hE : E = (some (.int t), xA, σ)) : aw_W l M_Re_isLetter G B_Re_isLetter E 0 [(0, .int p0)] [] xA σ 0 0 := by
  unfold m_Re_isLetter at h
  refine aw_iload_n (pc := 0) (q := 0) dX7_isLetter_0 rfl ?_
  refine aw_bipush (pc := 1) (v := 97) dX7_isLetter_1 (by decide) ?_
  refine aw_icmp_lt (pc := 3) (tgt := 16) dX7_isLetter_3 (by decide) (fun c1 => ?_) (fun c1 => ?_)
  · replace h := aw_ifp c1 h
    refine aw_iconst (pc := 16) (v := 0) dX7_isLetter_16 (by decide) ?_
    cases h
    subst hE
    exact aw_iret (v := (0 : Int32)) rfl aw_n0 ⟨Nat.zero_le _, Nat.zero_le _⟩ dX7_isLetter_17
  · replace h := aw_ifn c1 h
    refine aw_iload_n (pc := 6) (q := 0) dX7_isLetter_6 rfl ?_
    refine aw_bipush (pc := 7) (v := 122) dX7_isLetter_7 (by decide) ?_
    refine aw_icmp_gt (pc := 9) (tgt := 16) dX7_isLetter_9 (by decide) (fun c2 => ?_) (fun c2 => ?_)
    · replace h := aw_ifp c2 h
      refine aw_iconst (pc := 16) (v := 0) dX7_isLetter_16 (by decide) ?_
      cases h
      subst hE
      exact aw_iret (v := (0 : Int32)) rfl aw_n0 ⟨Nat.zero_le _, Nat.zero_le _⟩ dX7_isLetter_17
    · replace h := aw_ifn c2 h
      refine aw_iconst (pc := 12) (v := 1) dX7_isLetter_12 (by decide) ?_
      refine aw_goto (pc := 13) (tgt := 17) dX7_isLetter_13 (by decide) ?_
      cases h
      subst hE
      exact aw_iret (v := (1 : Int32)) rfl aw_n1 ⟨Nat.zero_le _, Nat.zero_le _⟩ dX7_isLetter_17
theorem c_Re_isLetter {l : Launch} {G : aw_G} {σ : aw_S} {p0 : Int32} {t : Int32} (h : m_Re_isLetter σ p0 = some t) : aw_Ct l yX7_isLetter M_Re_isLetter G B_Re_isLetter [.int p0] xA σ (some (.int t), xA, σ) := aw_Ct_of (by decide) rfl (fun h => by cases h) (Nat.le_of_ble_eq_true rfl) (t_Re_isLetter h rfl)
/-! LateMover$Reader.startsStatement()Z -/
set_option maxRecDepth 100000 in
set_option maxHeartbeats 4000000 in
theorem t_Re_startsStatement {l : Launch} {G : aw_G} {E : aw_E} {σ : aw_S} {t : Int32} (h : m_Re_startsStatement σ = some t) (hE : E = (some (.int t), xA, σ)) : aw_W l M_Re_startsStatement G B_Re_startsStatement E 0 [(0, .ref 8)] [] xA σ 0 0 := by
  unfold m_Re_startsStatement at h
  refine aw_aload_n (pc := 0) (q := 0) dX7_startsStatement_0 rfl ?_
  refine aw_getC (pc := 1) fd_X7_12.r xA_8 rfl dX7_startsStatement_1 ?_
  refine aw_aload_n (pc := 4) (q := 0) dX7_startsStatement_4 rfl ?_
  refine aw_getI (pc := 5) fd_X7_70.r xA_8 rfl dX7_startsStatement_5 ?_
  obtain ⟨r1, e2, h⟩ := aw_bde h
  refine aw_cV1 (pc := 8) [.int ((σ.1 8 14))] (c_Te_at isTe_9 e2) yy_Te_at.1 wm_294 yy_Te_at.2.1 yy_Te_at.2.2 xA_9 ⟨_, _, rfl⟩ rfl ⟨Nat.le_of_ble_eq_true rfl, Nat.le_of_ble_eq_true rfl⟩ ⟨Nat.zero_le _, Nat.zero_le _⟩ (Nat.le_of_ble_eq_true rfl) dX7_startsStatement_8 ?_
  obtain ⟨r3, e4, h⟩ := aw_bde h
  refine aw_cS1 (pc := 11) [.int r1] (c_Re_isLetter e4) yy_Re_isLetter.1 wm_298 yy_Re_isLetter.2 rfl ⟨Nat.le_of_ble_eq_true rfl, Nat.le_of_ble_eq_true rfl⟩ ⟨Nat.zero_le _, Nat.zero_le _⟩ (Nat.le_of_ble_eq_true rfl) dX7_startsStatement_11 ?_
  refine aw_if_ne (pc := 14) (tgt := 33) dX7_startsStatement_14 (by decide) (fun c5 => ?_) (fun c5 => ?_)
  · replace h := aw_ifn c5 h
    refine aw_iconst (pc := 33) (v := 1) dX7_startsStatement_33 (by decide) ?_
    refine aw_goto (pc := 34) (tgt := 38) dX7_startsStatement_34 (by decide) ?_
    cases h
    subst hE
    exact aw_iret (v := (1 : Int32)) rfl aw_n1 ⟨Nat.zero_le _, Nat.zero_le _⟩ dX7_startsStatement_38
  · replace h := aw_ifp c5 h
    refine aw_aload_n (pc := 17) (q := 0) dX7_startsStatement_17 rfl ?_
    refine aw_getC (pc := 18) fd_X7_12.r xA_8 rfl dX7_startsStatement_18 ?_
    refine aw_aload_n (pc := 21) (q := 0) dX7_startsStatement_21 rfl ?_
    refine aw_getI (pc := 22) fd_X7_70.r xA_8 rfl dX7_startsStatement_22 ?_
    obtain ⟨r6, e7, h⟩ := aw_bde h
    refine aw_cV1 (pc := 25) [.int ((σ.1 8 14))] (c_Te_at isTe_9 e7) yy_Te_at.1 wm_294 yy_Te_at.2.1 yy_Te_at.2.2 xA_9 ⟨_, _, rfl⟩ rfl ⟨Nat.le_of_ble_eq_true rfl, Nat.le_of_ble_eq_true rfl⟩ ⟨Nat.zero_le _, Nat.zero_le _⟩ (Nat.le_of_ble_eq_true rfl) dX7_startsStatement_25 ?_
    refine aw_bipush (pc := 28) (v := 33) dX7_startsStatement_28 (by decide) ?_
    refine aw_icmp_ne (pc := 30) (tgt := 37) dX7_startsStatement_30 (by decide) (fun c8 => ?_) (fun c8 => ?_)
    · replace h := aw_ifn c8 h
      refine aw_iconst (pc := 37) (v := 0) dX7_startsStatement_37 (by decide) ?_
      cases h
      subst hE
      exact aw_iret (v := (0 : Int32)) rfl aw_n0 ⟨Nat.zero_le _, Nat.zero_le _⟩ dX7_startsStatement_38
    · replace h := aw_ifp c8 h
      refine aw_iconst (pc := 33) (v := 1) dX7_startsStatement_33 (by decide) ?_
      refine aw_goto (pc := 34) (tgt := 38) dX7_startsStatement_34 (by decide) ?_
      cases h
      subst hE
      exact aw_iret (v := (1 : Int32)) rfl aw_n1 ⟨Nat.zero_le _, Nat.zero_le _⟩ dX7_startsStatement_38
theorem c_Re_startsStatement {l : Launch} {G : aw_G} {σ : aw_S} {t : Int32} (h : m_Re_startsStatement σ = some t) : aw_Ct l yX7_startsStatement M_Re_startsStatement G B_Re_startsStatement [.ref 8] xA σ (some (.int t), xA, σ) := aw_Ct_of (by decide) rfl (fun h => by cases h) (Nat.le_of_ble_eq_true rfl) (t_Re_startsStatement h rfl)
/-! LateMover$Reader.refuse(I)Z -/
set_option maxRecDepth 100000 in
set_option maxHeartbeats 4000000 in
theorem t_Re_refuse {l : Launch} {G : aw_G} {E : aw_E} {σ : aw_S} {p1 : Int32} {t : (Int32 × aw_S)} (h : m_Re_refuse σ p1 = some t) (hE : E = (some (.int t.1), xA, t.2)) : aw_W l M_Re_refuse G B_Re_refuse E 0 [(0, .ref 8), (1, .int p1)] [] xA σ 0 0 := by
  unfold m_Re_refuse at h
  refine aw_aload_n (pc := 0) (q := 0) dX7_refuse_0 rfl ?_
  refine aw_iload_n (pc := 1) (q := 1) dX7_refuse_1 rfl ?_
  refine aw_putI (pc := 2) fd_X7_77 xA_8 rfl (fun _ => rfl) (fun _ => rfl) dX7_refuse_2 ?_
  refine aw_nmS (fun s1 e_s1 => ?_)
  replace h := aw_lte h s1 e_s1
  refine aw_iconst (pc := 5) (v := 0) dX7_refuse_5 (by decide) ?_
  cases h
  subst hE
  exact aw_iret (v := (0 : Int32)) rfl aw_n0 ⟨Nat.zero_le _, Nat.zero_le _⟩ dX7_refuse_6
theorem c_Re_refuse {l : Launch} {G : aw_G} {σ : aw_S} {p1 : Int32} {t : (Int32 × aw_S)} (h : m_Re_refuse σ p1 = some t) : aw_Ct l yX7_refuse M_Re_refuse G B_Re_refuse [.ref 8, .int p1] xA σ (some (.int t.1), xA, t.2) := aw_Ct_of (by decide) rfl (fun h => by cases h) (Nat.le_of_ble_eq_true rfl) (t_Re_refuse h rfl)
/-! LateMover$Reader.take(I)Z -/
set_option maxRecDepth 100000 in
set_option maxHeartbeats 4000000 in
theorem t_Re_take {l : Launch} {G : aw_G} {E : aw_E} {σ : aw_S} {p1 : Int32} {t : (Int32 × aw_S)} (h : m_Re_take σ p1 = some t) (hE : E = (some (.int t.1), xA, t.2)) : aw_W l M_Re_take G B_Re_take E 0 [(0, .ref 8), (1, .int p1)] [] xA σ 0 0 := by
  unfold m_Re_take at h
  refine aw_aload_n (pc := 0) (q := 0) dX7_take_0 rfl ?_
  refine aw_getC (pc := 1) fd_X7_12.r xA_8 rfl dX7_take_1 ?_
  refine aw_aload_n (pc := 4) (q := 0) dX7_take_4 rfl ?_
  refine aw_getI (pc := 5) fd_X7_70.r xA_8 rfl dX7_take_5 ?_
  obtain ⟨r1, e2, h⟩ := aw_bde h
  refine aw_cV1 (pc := 8) [.int ((σ.1 8 14))] (c_Te_at isTe_9 e2) yy_Te_at.1 wm_294 yy_Te_at.2.1 yy_Te_at.2.2 xA_9 ⟨_, _, rfl⟩ rfl ⟨Nat.le_of_ble_eq_true rfl, Nat.le_of_ble_eq_true rfl⟩ ⟨Nat.zero_le _, Nat.zero_le _⟩ (Nat.le_of_ble_eq_true rfl) dX7_take_8 ?_
  refine aw_iload_n (pc := 11) (q := 1) dX7_take_11 rfl ?_
  refine aw_icmp_eq (pc := 12) (tgt := 24) dX7_take_12 (by decide) (fun c3 => ?_) (fun c3 => ?_)
  · replace h := aw_ifp c3 h
    refine aw_aload_n (pc := 24) (q := 0) dX7_take_24 rfl ?_
    refine aw_dup (pc := 25) dX7_take_25 rfl ?_
    refine aw_getI (pc := 26) fd_X7_70.r xA_8 rfl dX7_take_26 ?_
    refine aw_iconst (pc := 29) (v := 1) dX7_take_29 (by decide) ?_
    refine aw_iadd (pc := 30) dX7_take_30 ?_
    refine aw_putI (pc := 31) fd_X7_70 xA_8 rfl (fun _ => rfl) (fun _ => rfl) dX7_take_31 ?_
    refine aw_nmS (fun s4 e_s4 => ?_)
    replace h := aw_lte h s4 e_s4
    refine aw_iconst (pc := 34) (v := 1) dX7_take_34 (by decide) ?_
    cases h
    subst hE
    exact aw_iret (v := (1 : Int32)) rfl aw_n1 ⟨Nat.zero_le _, Nat.zero_le _⟩ dX7_take_35
  · replace h := aw_ifn c3 h
    refine aw_aload_n (pc := 15) (q := 0) dX7_take_15 rfl ?_
    refine aw_aload_n (pc := 16) (q := 0) dX7_take_16 rfl ?_
    refine aw_getI (pc := 17) fd_X7_70.r xA_8 rfl dX7_take_17 ?_
    obtain ⟨r5, s7, e6, h⟩ := aw_bd2e h
    refine aw_cV1 (pc := 20) [.int ((σ.1 8 14))] (c_Re_refuse e6) yy_Re_refuse.1 wm_286 yy_Re_refuse.2.1 yy_Re_refuse.2.2 xA_8 ⟨_, _, rfl⟩ rfl ⟨Nat.le_of_ble_eq_true rfl, Nat.le_of_ble_eq_true rfl⟩ ⟨Nat.zero_le _, Nat.zero_le _⟩ (Nat.le_of_ble_eq_true rfl) dX7_take_20 ?_
    obtain ⟨g8, h⟩ := aw_gde h
    cases h
    subst hE
    exact aw_iret (v := r5) rfl (aw_nz g8) ⟨Nat.zero_le _, Nat.zero_le _⟩ dX7_take_23
theorem c_Re_take {l : Launch} {G : aw_G} {σ : aw_S} {p1 : Int32} {t : (Int32 × aw_S)} (h : m_Re_take σ p1 = some t) : aw_Ct l yX7_take M_Re_take G B_Re_take [.ref 8, .int p1] xA σ (some (.int t.1), xA, t.2) := aw_Ct_of (by decide) rfl (fun h => by cases h) (Nat.le_of_ble_eq_true rfl) (t_Re_take h rfl)
/-! LateMover$Reader.isDigit(I)Z -/
set_option maxRecDepth 100000 in
set_option maxHeartbeats 4000000 in
theorem t_Re_isDigit {l : Launch} {G : aw_G} {E : aw_E} {σ : aw_S} {p0 : Int32} {t : Int32} (h : m_Re_isDigit σ p0 = some t) (hE : E = (some (.int t), xA, σ)) : aw_W l M_Re_isDigit G B_Re_isDigit E 0 [(0, .int p0)] [] xA σ 0 0 := by
  unfold m_Re_isDigit at h
  refine aw_iload_n (pc := 0) (q := 0) dX7_isDigit_0 rfl ?_
  refine aw_bipush (pc := 1) (v := 48) dX7_isDigit_1 (by decide) ?_
  refine aw_icmp_lt (pc := 3) (tgt := 16) dX7_isDigit_3 (by decide) (fun c1 => ?_) (fun c1 => ?_)
  · replace h := aw_ifp c1 h
    refine aw_iconst (pc := 16) (v := 0) dX7_isDigit_16 (by decide) ?_
    cases h
    subst hE
    exact aw_iret (v := (0 : Int32)) rfl aw_n0 ⟨Nat.zero_le _, Nat.zero_le _⟩ dX7_isDigit_17
  · replace h := aw_ifn c1 h
    refine aw_iload_n (pc := 6) (q := 0) dX7_isDigit_6 rfl ?_
    refine aw_bipush (pc := 7) (v := 57) dX7_isDigit_7 (by decide) ?_
    refine aw_icmp_gt (pc := 9) (tgt := 16) dX7_isDigit_9 (by decide) (fun c2 => ?_) (fun c2 => ?_)
    · replace h := aw_ifp c2 h
      refine aw_iconst (pc := 16) (v := 0) dX7_isDigit_16 (by decide) ?_
      cases h
      subst hE
      exact aw_iret (v := (0 : Int32)) rfl aw_n0 ⟨Nat.zero_le _, Nat.zero_le _⟩ dX7_isDigit_17
    · replace h := aw_ifn c2 h
      refine aw_iconst (pc := 12) (v := 1) dX7_isDigit_12 (by decide) ?_
      refine aw_goto (pc := 13) (tgt := 17) dX7_isDigit_13 (by decide) ?_
      cases h
      subst hE
      exact aw_iret (v := (1 : Int32)) rfl aw_n1 ⟨Nat.zero_le _, Nat.zero_le _⟩ dX7_isDigit_17
theorem c_Re_isDigit {l : Launch} {G : aw_G} {σ : aw_S} {p0 : Int32} {t : Int32} (h : m_Re_isDigit σ p0 = some t) : aw_Ct l yX7_isDigit M_Re_isDigit G B_Re_isDigit [.int p0] xA σ (some (.int t), xA, σ) := aw_Ct_of (by decide) rfl (fun h => by cases h) (Nat.le_of_ble_eq_true rfl) (t_Re_isDigit h rfl)
/-! LateMover$Reader.readNumber(I)I -/
def z_Re_readNumber_X4 (l : Launch) (G : aw_G) (E : aw_E) (v1 : Int32) (s : Int32 × Int32 × aw_S) : Prop := aw_W l M_Re_readNumber G B_Re_readNumber E 4 [(0, .ref 8), (1, .int v1), (2, .int s.1), (3, .int s.2.1)] [] xA s.2.2 0 0
def z_Re_readNumber_Y4 (l : Launch) (G : aw_G) (E : aw_E) (v1 : Int32) (x : (Int32 × Int32 × aw_S)) : Prop := aw_W l M_Re_readNumber G B_Re_readNumber E 62 [(0, .ref 8), (2, .int x.1), (3, .int x.2.1)] [] xA x.2.2 0 0
set_option maxRecDepth 100000 in
set_option maxHeartbeats 4000000 in
theorem t_Re_readNumber_B4 {l : Launch} {G : aw_G} {E : aw_E} {σ : aw_S} {v1 : Int32} {v2 : Int32} {v3 : Int32} {t : (Int32 × Int32 × aw_S) ⊕ (Int32 × Int32 × aw_S)} (h : m_Re_readNumber_B4 σ v1 v2 v3 = some t) (hz : Sum.elim (z_Re_readNumber_Y4 l G E v1) (z_Re_readNumber_X4 l G E v1) t) : aw_W l M_Re_readNumber G B_Re_readNumber E 4 [(0, .ref 8), (1, .int v1), (2, .int v2), (3, .int v3)] [] xA σ 0 0 := by
  unfold m_Re_readNumber_B4 at h
  refine aw_iload_n (pc := 4) (q := 3) dX7_readNumber_4 rfl ?_
  refine aw_iload_n (pc := 5) (q := 1) dX7_readNumber_5 rfl ?_
  refine aw_icmp_ge (pc := 6) (tgt := 62) dX7_readNumber_6 (by decide) (fun c1 => ?_) (fun c1 => ?_)
  · replace h := aw_ifp c1 h
    refine aw_sub [0, 2, 3] rfl ?_
    cases h
    exact hz
  · replace h := aw_ifn c1 h
    refine aw_aload_n (pc := 9) (q := 0) dX7_readNumber_9 rfl ?_
    refine aw_getC (pc := 10) fd_X7_12.r xA_8 rfl dX7_readNumber_10 ?_
    refine aw_aload_n (pc := 13) (q := 0) dX7_readNumber_13 rfl ?_
    refine aw_getI (pc := 14) fd_X7_70.r xA_8 rfl dX7_readNumber_14 ?_
    obtain ⟨r2, e3, h⟩ := aw_bde h
    refine aw_cV1 (pc := 17) [.int ((σ.1 8 14))] (c_Te_at isTe_9 e3) yy_Te_at.1 wm_294 yy_Te_at.2.1 yy_Te_at.2.2 xA_9 ⟨_, _, rfl⟩ rfl ⟨Nat.le_of_ble_eq_true rfl, Nat.le_of_ble_eq_true rfl⟩ ⟨Nat.zero_le _, Nat.zero_le _⟩ (Nat.le_of_ble_eq_true rfl) dX7_readNumber_17 ?_
    obtain ⟨r4, e5, h⟩ := aw_bde h
    refine aw_cS1 (pc := 20) [.int r2] (c_Re_isDigit e5) yy_Re_isDigit.1 wm_313 yy_Re_isDigit.2 rfl ⟨Nat.le_of_ble_eq_true rfl, Nat.le_of_ble_eq_true rfl⟩ ⟨Nat.zero_le _, Nat.zero_le _⟩ (Nat.le_of_ble_eq_true rfl) dX7_readNumber_20 ?_
    refine aw_if_eq (pc := 23) (tgt := 62) dX7_readNumber_23 (by decide) (fun c6 => ?_) (fun c6 => ?_)
    · replace h := aw_ifp c6 h
      refine aw_sub [0, 2, 3] rfl ?_
      cases h
      exact hz
    · replace h := aw_ifn c6 h
      refine aw_iload_n (pc := 26) (q := 2) dX7_readNumber_26 rfl ?_
      refine aw_bipush (pc := 27) (v := 10) dX7_readNumber_27 (by decide) ?_
      refine aw_imul (pc := 29) dX7_readNumber_29 ?_
      refine aw_aload_n (pc := 30) (q := 0) dX7_readNumber_30 rfl ?_
      refine aw_getC (pc := 31) fd_X7_12.r xA_8 rfl dX7_readNumber_31 ?_
      refine aw_aload_n (pc := 34) (q := 0) dX7_readNumber_34 rfl ?_
      refine aw_getI (pc := 35) fd_X7_70.r xA_8 rfl dX7_readNumber_35 ?_
      obtain ⟨r7, e8, h⟩ := aw_bde h
      refine aw_cV1 (pc := 38) [.int ((σ.1 8 14))] (c_Te_at isTe_9 e8) yy_Te_at.1 wm_294 yy_Te_at.2.1 yy_Te_at.2.2 xA_9 ⟨_, _, rfl⟩ rfl ⟨Nat.le_of_ble_eq_true rfl, Nat.le_of_ble_eq_true rfl⟩ ⟨Nat.zero_le _, Nat.zero_le _⟩ (Nat.le_of_ble_eq_true rfl) dX7_readNumber_38 ?_
      refine aw_iadd (pc := 41) dX7_readNumber_41 ?_
      refine aw_bipush (pc := 42) (v := 48) dX7_readNumber_42 (by decide) ?_
      refine aw_isub (pc := 44) dX7_readNumber_44 ?_
      refine aw_nmI (fun x9 e_x9 => ?_)
      replace h := aw_lte h x9 e_x9
      refine aw_istore_n (pc := 45) [(2, .int x9), (0, .ref 8), (1, .int v1), (3, .int v3)] dX7_readNumber_45 (by decide) rfl ?_
      obtain ⟨x10, e_x10⟩ : ∃ z, z = (v3 + (1 : Int32)) := ⟨_, rfl⟩
      replace h := aw_lte h x10 e_x10
      refine aw_iinc (pc := 46) (q := 3) (v := x10) [(3, .int x10), (2, .int x9), (0, .ref 8), (1, .int v1)] dX7_readNumber_46 rfl e_x10.symm (by decide) rfl ?_
      refine aw_aload_n (pc := 49) (q := 2) dX7_readNumber_49 rfl ?_
      refine aw_dup (pc := 50) dX7_readNumber_50 rfl ?_
      refine aw_getI (pc := 51) fd_X7_70.r xA_8 rfl dX7_readNumber_51 ?_
      refine aw_iconst (pc := 54) (v := 1) dX7_readNumber_54 (by decide) ?_
      refine aw_iadd (pc := 55) dX7_readNumber_55 ?_
      refine aw_putI (pc := 56) fd_X7_70 xA_8 rfl (fun _ => rfl) (fun _ => rfl) dX7_readNumber_56 ?_
      refine aw_nmS (fun s11 e_s11 => ?_)
      replace h := aw_lte h s11 e_s11
      refine aw_goto (pc := 59) (tgt := 4) dX7_readNumber_59 (by decide) ?_
      refine aw_sub [2, 3, 1, 0] rfl ?_
      cases h
      exact hz
set_option maxRecDepth 100000 in
set_option maxHeartbeats 4000000 in
theorem t_Re_readNumber {l : Launch} {G : aw_G} {E : aw_E} {σ : aw_S} {p1 : Int32} {t : (Int32 × aw_S)} (h : m_Re_readNumber σ p1 = some t) (hE : E = (some (.int t.1), xA, t.2)) : aw_W l M_Re_readNumber G B_Re_readNumber E 0 [(0, .ref 8), (1, .int p1)] [] xA σ 0 0 := by
  unfold m_Re_readNumber at h
  refine aw_iconst (pc := 0) (v := 0) dX7_readNumber_0 (by decide) ?_
  refine aw_istore_n (pc := 1) [(2, .int ((0 : Int32))), (0, .ref 8), (1, .int p1)] dX7_readNumber_1 (by decide) rfl ?_
  refine aw_iconst (pc := 2) (v := 0) dX7_readNumber_2 (by decide) ?_
  refine aw_istore_n (pc := 3) [(3, .int ((0 : Int32))), (2, .int ((0 : Int32))), (0, .ref 8), (1, .int p1)] dX7_readNumber_3 (by decide) rfl ?_
  obtain ⟨x12, hl13, h⟩ := aw_bde h
  have K14 : z_Re_readNumber_Y4 l G E p1 x12 := by
    show aw_W l M_Re_readNumber G B_Re_readNumber E 62 [(0, .ref 8), (2, .int x12.1), (3, .int x12.2.1)] [] xA x12.2.2 0 0
    refine aw_iload_n (pc := 62) (q := 2) dX7_readNumber_62 rfl ?_
    refine aw_if_ne (pc := 63) (tgt := 77) dX7_readNumber_63 (by decide) (fun c15 => ?_) (fun c15 => ?_)
    · replace h := aw_ifn c15 h
      refine aw_iload_n (pc := 77) (q := 1) dX7_readNumber_77 rfl ?_
      cases h
      subst hE
      exact aw_iret (v := x12.1) rfl aw_ni ⟨Nat.zero_le _, Nat.zero_le _⟩ dX7_readNumber_78
    · replace h := aw_ifp c15 h
      refine aw_aload_n (pc := 66) (q := 0) dX7_readNumber_66 rfl ?_
      refine aw_aload_n (pc := 67) (q := 0) dX7_readNumber_67 rfl ?_
      refine aw_getI (pc := 68) fd_X7_70.r xA_8 rfl dX7_readNumber_68 ?_
      obtain ⟨r16, s18, e17, h⟩ := aw_bd2e h
      refine aw_cV1 (pc := 71) [.int ((x12.2.2.1 8 14))] (c_Re_refuse e17) yy_Re_refuse.1 wm_286 yy_Re_refuse.2.1 yy_Re_refuse.2.2 xA_8 ⟨_, _, rfl⟩ rfl ⟨Nat.le_of_ble_eq_true rfl, Nat.le_of_ble_eq_true rfl⟩ ⟨Nat.zero_le _, Nat.zero_le _⟩ (Nat.le_of_ble_eq_true rfl) dX7_readNumber_71 ?_
      refine aw_pop (pc := 74) dX7_readNumber_74 rfl ?_
      refine aw_iconst (pc := 75) (v := -1) dX7_readNumber_75 (by decide) ?_
      cases h
      subst hE
      exact aw_iret (v := (-1 : Int32)) rfl aw_ni ⟨Nat.zero_le _, Nat.zero_le _⟩ dX7_readNumber_76
  refine aw_sub [2, 3, 1, 0] rfl ?_
  exact aw_lp_X (Xp := z_Re_readNumber_X4 l G E p1) (Y := z_Re_readNumber_Y4 l G E p1) hl13 K14 (fun s t hf hz => t_Re_readNumber_B4 hf hz)
theorem c_Re_readNumber {l : Launch} {G : aw_G} {σ : aw_S} {p1 : Int32} {t : (Int32 × aw_S)} (h : m_Re_readNumber σ p1 = some t) : aw_Ct l yX7_readNumber M_Re_readNumber G B_Re_readNumber [.ref 8, .int p1] xA σ (some (.int t.1), xA, t.2) := aw_Ct_of (by decide) rfl (fun h => by cases h) (Nat.le_of_ble_eq_true rfl) (t_Re_readNumber h rfl)
/-! LateMover$Reader.readOperand()I -/
set_option maxRecDepth 100000 in
set_option maxHeartbeats 4000000 in
theorem t_Re_readOperand {l : Launch} {G : aw_G} {E : aw_E} {σ : aw_S} {t : (Int32 × aw_S)} (h : m_Re_readOperand σ = some t) (hE : E = (some (.int t.1), xA, t.2)) : aw_W l M_Re_readOperand G B_Re_readOperand E 0 [(0, .ref 8)] [] xA σ 0 0 := by
  unfold m_Re_readOperand at h
  refine aw_aload_n (pc := 0) (q := 0) dX7_readOperand_0 rfl ?_
  refine aw_getC (pc := 1) fd_X7_12.r xA_8 rfl dX7_readOperand_1 ?_
  refine aw_aload_n (pc := 4) (q := 0) dX7_readOperand_4 rfl ?_
  refine aw_getI (pc := 5) fd_X7_70.r xA_8 rfl dX7_readOperand_5 ?_
  obtain ⟨r1, e2, h⟩ := aw_bde h
  refine aw_cV1 (pc := 8) [.int ((σ.1 8 14))] (c_Te_at isTe_9 e2) yy_Te_at.1 wm_294 yy_Te_at.2.1 yy_Te_at.2.2 xA_9 ⟨_, _, rfl⟩ rfl ⟨Nat.le_of_ble_eq_true rfl, Nat.le_of_ble_eq_true rfl⟩ ⟨Nat.zero_le _, Nat.zero_le _⟩ (Nat.le_of_ble_eq_true rfl) dX7_readOperand_8 ?_
  refine aw_istore_n (pc := 11) [(1, .int r1), (0, .ref 8)] dX7_readOperand_11 (by decide) rfl ?_
  refine aw_iload_n (pc := 12) (q := 0) dX7_readOperand_12 rfl ?_
  obtain ⟨r3, e4, h⟩ := aw_bde h
  refine aw_cS1 (pc := 13) [.int r1] (c_Re_isLetter e4) yy_Re_isLetter.1 wm_298 yy_Re_isLetter.2 rfl ⟨Nat.le_of_ble_eq_true rfl, Nat.le_of_ble_eq_true rfl⟩ ⟨Nat.zero_le _, Nat.zero_le _⟩ (Nat.le_of_ble_eq_true rfl) dX7_readOperand_13 ?_
  refine aw_if_eq (pc := 16) (tgt := 34) dX7_readOperand_16 (by decide) (fun c5 => ?_) (fun c5 => ?_)
  · replace h := aw_ifp c5 h
    refine aw_aload_n (pc := 34) (q := 1) dX7_readOperand_34 rfl ?_
    refine aw_iconst (pc := 35) (v := 3) dX7_readOperand_35 (by decide) ?_
    obtain ⟨r6, s8, e7, h⟩ := aw_bd2e h
    refine aw_cV1 (pc := 36) [.int ((3 : Int32))] (c_Re_readNumber e7) yy_Re_readNumber.1 wm_309 yy_Re_readNumber.2.1 yy_Re_readNumber.2.2 xA_8 ⟨_, _, rfl⟩ rfl ⟨Nat.le_of_ble_eq_true rfl, Nat.le_of_ble_eq_true rfl⟩ ⟨Nat.zero_le _, Nat.zero_le _⟩ (Nat.le_of_ble_eq_true rfl) dX7_readOperand_36 ?_
    refine aw_istore_n (pc := 39) [(2, .int r6), (1, .int r1), (0, .ref 8)] dX7_readOperand_39 (by decide) rfl ?_
    refine aw_iload_n (pc := 40) (q := 0) dX7_readOperand_40 rfl ?_
    refine aw_iconst (pc := 41) (v := -1) dX7_readOperand_41 (by decide) ?_
    refine aw_icmp_ne (pc := 42) (tgt := 49) dX7_readOperand_42 (by decide) (fun c9 => ?_) (fun c9 => ?_)
    · replace h := aw_ifn c9 h
      refine aw_iload_n (pc := 49) (q := 0) dX7_readOperand_49 rfl ?_
      refine aw_bipush (pc := 50) (v := 26) dX7_readOperand_50 (by decide) ?_
      refine aw_iadd (pc := 52) dX7_readOperand_52 ?_
      cases h
      subst hE
      exact aw_iret (v := (r6 + (26 : Int32))) rfl aw_ni ⟨Nat.zero_le _, Nat.zero_le _⟩ dX7_readOperand_53
    · replace h := aw_ifp c9 h
      refine aw_iconst (pc := 45) (v := -1) dX7_readOperand_45 (by decide) ?_
      refine aw_goto (pc := 46) (tgt := 53) dX7_readOperand_46 (by decide) ?_
      cases h
      subst hE
      exact aw_iret (v := (-1 : Int32)) rfl aw_ni ⟨Nat.zero_le _, Nat.zero_le _⟩ dX7_readOperand_53
  · replace h := aw_ifn c5 h
    refine aw_aload_n (pc := 19) (q := 1) dX7_readOperand_19 rfl ?_
    refine aw_dup (pc := 20) dX7_readOperand_20 rfl ?_
    refine aw_getI (pc := 21) fd_X7_70.r xA_8 rfl dX7_readOperand_21 ?_
    refine aw_iconst (pc := 24) (v := 1) dX7_readOperand_24 (by decide) ?_
    refine aw_iadd (pc := 25) dX7_readOperand_25 ?_
    refine aw_putI (pc := 26) fd_X7_70 xA_8 rfl (fun _ => rfl) (fun _ => rfl) dX7_readOperand_26 ?_
    refine aw_nmS (fun s10 e_s10 => ?_)
    replace h := aw_lte h s10 e_s10
    refine aw_iload_n (pc := 29) (q := 0) dX7_readOperand_29 rfl ?_
    refine aw_bipush (pc := 30) (v := 97) dX7_readOperand_30 (by decide) ?_
    refine aw_isub (pc := 32) dX7_readOperand_32 ?_
    cases h
    subst hE
    exact aw_iret (v := (r1 - (97 : Int32))) rfl aw_ni ⟨Nat.zero_le _, Nat.zero_le _⟩ dX7_readOperand_33
theorem c_Re_readOperand {l : Launch} {G : aw_G} {σ : aw_S} {t : (Int32 × aw_S)} (h : m_Re_readOperand σ = some t) : aw_Ct l yX7_readOperand M_Re_readOperand G B_Re_readOperand [.ref 8] xA σ (some (.int t.1), xA, t.2) := aw_Ct_of (by decide) rfl (fun h => by cases h) (Nat.le_of_ble_eq_true rfl) (t_Re_readOperand h rfl)

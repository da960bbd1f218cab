/-! LateMover$Reader.isLetter(I)Z -/
set_option maxRecDepth 100000 in
set_option maxHeartbeats 4000000 in
theorem t_Re_isLetter {l : Launch} {G : aw_G} {E : aw_E} {σ : aw_S} {p0 : Int32} {t : Int32} (h : m_Re_isLetter σ p0 = some t) (hE : E = (some (.int t), xA, σ)) : aw_W l M_Re_isLetter G B_Re_isLetter E 0 [(0, .int p0)] [] xA σ 0 0 := by
  unfold m_Re_isLetter at h
  refine aw_iload_n (pc := 0) (q := 0) dX7_isLetter_0 rfl ?_
  refine aw_bipush (pc := 1) (v := 97) dX7_isLetter_1 (by decide) ?_
  refine aw_icmp_lt (pc := 3) (tgt := 16) dX7_isLetter_3 (by decide) (fun c1 => ?_) (fun c1 => ?_)
  · replace h := aw_ifp c1 h
    refine aw_iconst (pc := 16) (v := 0) dX7_isLetter_16 (by decide) ?_
    cases h
    subst hE
    exact aw_iret rfl rfl ⟨Nat.zero_le _, Nat.zero_le _⟩ dX7_isLetter_17
  · replace h := aw_ifn c1 h
    refine aw_iload_n (pc := 6) (q := 0) dX7_isLetter_6 rfl ?_
    refine aw_bipush (pc := 7) (v := 122) dX7_isLetter_7 (by decide) ?_
    refine aw_icmp_gt (pc := 9) (tgt := 16) dX7_isLetter_9 (by decide) (fun c2 => ?_) (fun c2 => ?_)
    · replace h := aw_ifp c2 h
      refine aw_iconst (pc := 16) (v := 0) dX7_isLetter_16 (by decide) ?_
      cases h
      subst hE
      exact aw_iret rfl rfl ⟨Nat.zero_le _, Nat.zero_le _⟩ dX7_isLetter_17
    · replace h := aw_ifn c2 h
      refine aw_iconst (pc := 12) (v := 1) dX7_isLetter_12 (by decide) ?_
      refine aw_goto (pc := 13) (tgt := 17) dX7_isLetter_13 (by decide) ?_
      cases h
      subst hE
      exact aw_iret rfl rfl ⟨Nat.zero_le _, Nat.zero_le _⟩ dX7_isLetter_17
theorem c_Re_isLetter {l : Launch} {G : aw_G} {σ : aw_S} {p0 : Int32} {t : Int32} (h : m_Re_isLetter σ p0 = some t) : aw_Ct l yX7_isLetter M_Re_isLetter G B_Re_isLetter [.int p0] xA σ (some (.int t), xA, σ) := aw_Ct_of (by decide) rfl (fun h => by cases h) (Nat.le_of_ble_eq_true rfl) (t_Re_isLetter h rfl)
/-! LateMover$Reader.startsStatement()Z -/
set_option maxRecDepth 100000 in
set_option maxHeartbeats 4000000 in
theorem t_Re_startsStatement {l : Launch} {G : aw_G} {E : aw_E} {σ : aw_S} {t : Int32} (h : m_Re_startsStatement σ = some t) (hE : E = (some (.int t), xA, σ)) : aw_W l M_Re_startsStatement G B_Re_startsStatement E 0 [(0, .ref 8)] [] xA σ 0 0 := by
  unfold m_Re_startsStatement at h
  refine aw_aload_n (pc := 0) (q := 0) dX7_startsStatement_0 rfl ?_
  refine aw_getC (pc := 1) fd_X7_12.r xA_8 rfl dX7_startsStatement_1 ?_
  refine aw_aload_n (pc := 4) (q := 0) dX7_startsStatement_4 rfl ?_
  refine aw_getI (pc := 5) fd_X7_70.r xA_8 rfl dX7_startsStatement_5 ?_
  obtain ⟨r1, e2, h⟩ := aw_bde h
  refine aw_cV1 (pc := 8) [.int ((σ.1 8 14))] (c_Te_at isTe_9 e2) yy_Te_at.1 wm_294 yy_Te_at.2.1 yy_Te_at.2.2 xA_9 ⟨_, _, rfl⟩ rfl ⟨Nat.le_of_ble_eq_true rfl, Nat.le_of_ble_eq_true rfl⟩ ⟨Nat.zero_le _, Nat.zero_le _⟩ (Nat.le_of_ble_eq_true rfl) dX7_startsStatement_8 ?_
  obtain ⟨r3, e4, h⟩ := aw_bde h
  refine aw_cS1 (pc := 11) [.int r1] (c_Re_isLetter e4) yy_Re_isLetter.1 wm_298 yy_Re_isLetter.2 rfl ⟨Nat.le_of_ble_eq_true rfl, Nat.le_of_ble_eq_true rfl⟩ ⟨Nat.zero_le _, Nat.zero_le _⟩ (Nat.le_of_ble_eq_true rfl) dX7_startsStatement_11 ?_
  refine aw_if_ne (pc := 14) (tgt := 33) dX7_startsStatement_14 (by decide) (fun c5 => ?_) (fun c5 => ?_)
  · replace h := aw_ifn c5 h
    refine aw_iconst (pc := 33) (v := 1) dX7_startsStatement_33 (by decide) ?_
    refine aw_goto (pc := 34) (tgt := 38) dX7_startsStatement_34 (by decide) ?_
    cases h
    subst hE
    exact aw_iret rfl rfl ⟨Nat.zero_le _, Nat.zero_le _⟩ dX7_startsStatement_38
  · replace h := aw_ifp c5 h
    refine aw_aload_n (pc := 17) (q := 0) dX7_startsStatement_17 rfl ?_
    refine aw_getC (pc := 18) fd_X7_12.r xA_8 rfl dX7_startsStatement_18 ?_
    refine aw_aload_n (pc := 21) (q := 0) dX7_startsStatement_21 rfl ?_
    refine aw_getI (pc := 22) fd_X7_70.r xA_8 rfl dX7_startsStatement_22 ?_
    obtain ⟨r6, e7, h⟩ := aw_bde h
    refine aw_cV1 (pc := 25) [.int ((σ.1 8 14))] (c_Te_at isTe_9 e7) yy_Te_at.1 wm_294 yy_Te_at.2.1 yy_Te_at.2.2 xA_9 ⟨_, _, rfl⟩ rfl ⟨Nat.le_of_ble_eq_true rfl, Nat.le_of_ble_eq_true rfl⟩ ⟨Nat.zero_le _, Nat.zero_le _⟩ (Nat.le_of_ble_eq_true rfl) dX7_startsStatement_25 ?_
    refine aw_bipush (pc := 28) (v := 33) dX7_startsStatement_28 (by decide) ?_
    refine aw_icmp_ne (pc := 30) (tgt := 37) dX7_startsStatement_30 (by decide) (fun c8 => ?_) (fun c8 => ?_)
    · replace h := aw_ifn c8 h
      refine aw_iconst (pc := 37) (v := 0) dX7_startsStatement_37 (by decide) ?_
      cases h
      subst hE
      exact aw_iret rfl rfl ⟨Nat.zero_le _, Nat.zero_le _⟩ dX7_startsStatement_38
    · replace h := aw_ifp c8 h
      refine aw_iconst (pc := 33) (v := 1) dX7_startsStatement_33 (by decide) ?_
      refine aw_goto (pc := 34) (tgt := 38) dX7_startsStatement_34 (by decide) ?_
      cases h
      subst hE
      exact aw_iret rfl rfl ⟨Nat.zero_le _, Nat.zero_le _⟩ dX7_startsStatement_38
theorem c_Re_startsStatement {l : Launch} {G : aw_G} {σ : aw_S} {t : Int32} (h : m_Re_startsStatement σ = some t) : aw_Ct l yX7_startsStatement M_Re_startsStatement G B_Re_startsStatement [.ref 8] xA σ (some (.int t), xA, σ) := aw_Ct_of (by decide) rfl (fun h => by cases h) (Nat.le_of_ble_eq_true rfl) (t_Re_startsStatement h rfl)
/-! LateMover$Reader.refuse(I)Z -/
set_option maxRecDepth 100000 in
set_option maxHeartbeats 4000000 in
theorem t_Re_refuse {l : Launch} {G : aw_G} {E : aw_E} {σ : aw_S} {p1 : Int32} {t : (Int32 × aw_S)} (h : m_Re_refuse σ p1 = some t) (hE : E = (some (.int t.1), xA, t.2)) : aw_W l M_Re_refuse G B_Re_refuse E 0 [(0, .ref 8), (1, .int p1)] [] xA σ 0 0 := by
  unfold m_Re_refuse at h
  refine aw_aload_n (pc := 0) (q := 0) dX7_refuse_0 rfl ?_
  refine aw_iload_n (pc := 1) (q := 1) dX7_refuse_1 rfl ?_
  refine aw_putI (pc := 2) fd_X7_77 xA_8 rfl (fun _ => rfl) (fun _ => rfl) dX7_refuse_2 ?_
  refine aw_nmS (fun s1 e_s1 => ?_)
  replace h := aw_lte h s1 e_s1
  refine aw_iconst (pc := 5) (v := 0) dX7_refuse_5 (by decide) ?_
  cases h
  subst hE
  exact aw_iret rfl rfl ⟨Nat.zero_le _, Nat.zero_le _⟩ dX7_refuse_6
theorem c_Re_refuse {l : Launch} {G : aw_G} {σ : aw_S} {p1 : Int32} {t : (Int32 × aw_S)} (h : m_Re_refuse σ p1 = some t) : aw_Ct l yX7_refuse M_Re_refuse G B_Re_refuse [.ref 8, .int p1] xA σ (some (.int t.1), xA, t.2) := aw_Ct_of (by decide) rfl (fun h => by cases h) (Nat.le_of_ble_eq_true rfl) (t_Re_refuse h rfl)
/-! LateMover$Reader.take(I)Z -/
set_option maxRecDepth 100000 in
set_option maxHeartbeats 4000000 in
theorem t_Re_take {l : Launch} {G : aw_G} {E : aw_E} {σ : aw_S} {p1 : Int32} {t : (Int32 × aw_S)} (h : m_Re_take σ p1 = some t) (hE : E = (some (.int t.1), xA, t.2)) : aw_W l M_Re_take G B_Re_take E 0 [(0, .ref 8), (1, .int p1)] [] xA σ 0 0 := by
  unfold m_Re_take at h
  refine aw_aload_n (pc := 0) (q := 0) dX7_take_0 rfl ?_
  refine aw_getC (pc := 1) fd_X7_12.r xA_8 rfl dX7_take_1 ?_
  refine aw_aload_n (pc := 4) (q := 0) dX7_take_4 rfl ?_
  refine aw_getI (pc := 5) fd_X7_70.r xA_8 rfl dX7_take_5 ?_
  obtain ⟨r1, e2, h⟩ := aw_bde h
  refine aw_cV1 (pc := 8) [.int ((σ.1 8 14))] (c_Te_at isTe_9 e2) yy_Te_at.1 wm_294 yy_Te_at.2.1 yy_Te_at.2.2 xA_9 ⟨_, _, rfl⟩ rfl ⟨Nat.le_of_ble_eq_true rfl, Nat.le_of_ble_eq_true rfl⟩ ⟨Nat.zero_le _, Nat.zero_le _⟩ (Nat.le_of_ble_eq_true rfl) dX7_take_8 ?_
  refine aw_iload_n (pc := 11) (q := 1) dX7_take_11 rfl ?_
  refine aw_icmp_eq (pc := 12) (tgt := 24) dX7_take_12 (by decide) (fun c3 => ?_) (fun c3 => ?_)
  · replace h := aw_ifp c3 h
    refine aw_aload_n (pc := 24) (q := 0) dX7_take_24 rfl ?_
    refine aw_dup (pc := 25) dX7_take_25 rfl ?_
    refine aw_getI (pc := 26) fd_X7_70.r xA_8 rfl dX7_take_26 ?_
    refine aw_iconst (pc := 29) (v := 1) dX7_take_29 (by decide) ?_
    refine aw_iadd (pc := 30) dX7_take_30 ?_
    refine aw_putI (pc := 31) fd_X7_70 xA_8 rfl (fun _ => rfl) (fun _ => rfl) dX7_take_31 ?_
    refine aw_nmS (fun s4 e_s4 => ?_)
    replace h := aw_lte h s4 e_s4
    refine aw_iconst (pc := 34) (v := 1) dX7_take_34 (by decide) ?_
    cases h
    subst hE
    exact aw_iret rfl rfl ⟨Nat.zero_le _, Nat.zero_le _⟩ dX7_take_35
  · replace h := aw_ifn c3 h
    refine aw_aload_n (pc := 15) (q := 0) dX7_take_15 rfl ?_
    refine aw_aload_n (pc := 16) (q := 0) dX7_take_16 rfl ?_
    refine aw_getI (pc := 17) fd_X7_70.r xA_8 rfl dX7_take_17 ?_
    obtain ⟨r5, s7, e6, h⟩ := aw_bd2e h
    refine aw_cV1 (pc := 20) [.int ((σ.1 8 14))] (c_Re_refuse e6) yy_Re_refuse.1 wm_286 yy_Re_refuse.2.1 yy_Re_refuse.2.2 xA_8 ⟨_, _, rfl⟩ rfl ⟨Nat.le_of_ble_eq_true rfl, Nat.le_of_ble_eq_true rfl⟩ ⟨Nat.zero_le _, Nat.zero_le _⟩ (Nat.le_of_ble_eq_true rfl) dX7_take_20 ?_
    obtain ⟨g8, h⟩ := aw_gde h
    cases h
    subst hE
    exact aw_iret rfl (aw_nz g8) ⟨Nat.zero_le _, Nat.zero_le _⟩ dX7_take_23
theorem c_Re_take {l : Launch} {G : aw_G} {σ : aw_S} {p1 : Int32} {t : (Int32 × aw_S)} (h : m_Re_take σ p1 = some t) : aw_Ct l yX7_take M_Re_take G B_Re_take [.ref 8, .int p1] xA σ (some (.int t.1), xA, t.2) := aw_Ct_of (by decide) rfl (fun h => by cases h) (Nat.le_of_ble_eq_true rfl) (t_Re_take h rfl)
/-! LateMover$Reader.isDigit(I)Z -/
set_option maxRecDepth 100000 in
set_option maxHeartbeats 4000000 in
theorem t_Re_isDigit {l : Launch} {G : aw_G} {E : aw_E} {σ : aw_S} {p0 : Int32} {t : Int32} (h : m_Re_isDigit σ p0 = some t) (hE : E = (some (.int t), xA, σ)) : aw_W l M_Re_isDigit G B_Re_isDigit E 0 [(0, .int p0)] [] xA σ 0 0 := by
  unfold m_Re_isDigit at h
  refine aw_iload_n (pc := 0) (q := 0) dX7_isDigit_0 rfl ?_
  refine aw_bipush (pc := 1) (v := 48) dX7_isDigit_1 (by decide) ?_
  refine aw_icmp_lt (pc := 3) (tgt := 16) dX7_isDigit_3 (by decide) (fun c1 => ?_) (fun c1 => ?_)
  · replace h := aw_ifp c1 h
    refine aw_iconst (pc := 16) (v := 0) dX7_isDigit_16 (by decide) ?_
    cases h
    subst hE
    exact aw_iret rfl rfl ⟨Nat.zero_le _, Nat.zero_le _⟩ dX7_isDigit_17
  · replace h := aw_ifn c1 h
    refine aw_iload_n (pc := 6) (q := 0) dX7_isDigit_6 rfl ?_
    refine aw_bipush (pc := 7) (v := 57) dX7_isDigit_7 (by decide) ?_
    refine aw_icmp_gt (pc := 9) (tgt := 16) dX7_isDigit_9 (by decide) (fun c2 => ?_) (fun c2 => ?_)
    · replace h := aw_ifp c2 h
      refine aw_iconst (pc := 16) (v := 0) dX7_isDigit_16 (by decide) ?_
      cases h
      subst hE
      exact aw_iret rfl rfl ⟨Nat.zero_le _, Nat.zero_le _⟩ dX7_isDigit_17
    · replace h := aw_ifn c2 h
      refine aw_iconst (pc := 12) (v := 1) dX7_isDigit_12 (by decide) ?_
      refine aw_goto (pc := 13) (tgt := 17) dX7_isDigit_13 (by decide) ?_
      cases h
      subst hE
      exact aw_iret rfl rfl ⟨Nat.zero_le _, Nat.zero_le _⟩ dX7_isDigit_17
theorem c_Re_isDigit {l : Launch} {G : aw_G} {σ : aw_S} {p0 : Int32} {t : Int32} (h : m_Re_isDigit σ p0 = some t) : aw_Ct l yX7_isDigit M_Re_isDigit G B_Re_isDigit [.int p0] xA σ (some (.int t), xA, σ) := aw_Ct_of (by decide) rfl (fun h => by cases h) (Nat.le_of_ble_eq_true rfl) (t_Re_isDigit h rfl)
/-! LateMover$Reader.readNumber(I)I -/
def z_Re_readNumber_X4 (l : Launch) (G : aw_G) (E : aw_E) (v1 : Int32) (s : Int32 × Int32 × aw_S) : Prop := aw_W l M_Re_readNumber G B_Re_readNumber E 4 [(0, .ref 8), (1, .int v1), (2, .int s.1), (3, .int s.2.1)] [] xA s.2.2 0 0
def z_Re_readNumber_Y4 (l : Launch) (G : aw_G) (E : aw_E) (v1 : Int32) (x : (Int32 × Int32 × aw_S)) : Prop := aw_W l M_Re_readNumber G B_Re_readNumber E 62 [(0, .ref 8), (2, .int x.1), (3, .int x.2.1)] [] xA x.2.2 0 0
set_option maxRecDepth 100000 in
set_option maxHeartbeats 4000000 in
theorem t_Re_readNumber_B4 {l : Launch} {G : aw_G} {E : aw_E} {σ : aw_S} {v1 : Int32} {v2 : Int32} {v3 : Int32} {t : (Int32 × Int32 × aw_S) ⊕ (Int32 × Int32 × aw_S)} (h : m_Re_readNumber_B4 σ v1 v2 v3 = some t) (hz : Sum.elim (z_Re_readNumber_Y4 l G E v1) (z_Re_readNumber_X4 l G E v1) t) : aw_W l M_Re_readNumber G B_Re_readNumber E 4 [(0, .ref 8), (1, .int v1), (2, .int v2), (3, .int v3)] [] xA σ 0 0 := by
  unfold m_Re_readNumber_B4 at h
  refine aw_iload_n (pc := 4) (q := 3) dX7_readNumber_4 rfl ?_
  refine aw_iload_n (pc := 5) (q := 1) dX7_readNumber_5 rfl ?_
  refine aw_icmp_ge (pc := 6) (tgt := 62) dX7_readNumber_6 (by decide) (fun c1 => ?_) (fun c1 => ?_)
  · replace h := aw_ifp c1 h
    refine aw_sub [0, 2, 3] rfl ?_
    cases h
    exact hz
  · replace h := aw_ifn c1 h
    refine aw_aload_n (pc := 9) (q := 0) dX7_readNumber_9 rfl ?_
    refine aw_getC (pc := 10) fd_X7_12.r xA_8 rfl dX7_readNumber_10 ?_
    refine aw_aload_n (pc := 13) (q := 0) dX7_readNumber_13 rfl ?_
    refine aw_getI (pc := 14) fd_X7_70.r xA_8 rfl dX7_readNumber_14 ?_
    obtain ⟨r2, e3, h⟩ := aw_bde h
    refine aw_cV1 (pc := 17) [.int ((σ.1 8 14))] (c_Te_at isTe_9 e3) yy_Te_at.1 wm_294 yy_Te_at.2.1 yy_Te_at.2.2 xA_9 ⟨_, _, rfl⟩ rfl ⟨Nat.le_of_ble_eq_true rfl, Nat.le_of_ble_eq_true rfl⟩ ⟨Nat.zero_le _, Nat.zero_le _⟩ (Nat.le_of_ble_eq_true rfl) dX7_readNumber_17 ?_
    obtain ⟨r4, e5, h⟩ := aw_bde h
    refine aw_cS1 (pc := 20) [.int r2] (c_Re_isDigit e5) yy_Re_isDigit.1 wm_313 yy_Re_isDigit.2 rfl ⟨Nat.le_of_ble_eq_true rfl, Nat.le_of_ble_eq_true rfl⟩ ⟨Nat.zero_le _, Nat.zero_le _⟩ (Nat.le_of_ble_eq_true rfl) dX7_readNumber_20 ?_
    refine aw_if_eq (pc := 23) (tgt := 62) dX7_readNumber_23 (by decide) (fun c6 => ?_) (fun c6 => ?_)
    · replace h := aw_ifp c6 h
      refine aw_sub [0, 2, 3] rfl ?_
      cases h
      exact hz
    · replace h := aw_ifn c6 h
      refine aw_iload_n (pc := 26) (q := 2) dX7_readNumber_26 rfl ?_
      refine aw_bipush (pc := 27) (v := 10) dX7_readNumber_27 (by decide) ?_
      refine aw_imul (pc := 29) dX7_readNumber_29 ?_
      refine aw_aload_n (pc := 30) (q := 0) dX7_readNumber_30 rfl ?_
      refine aw_getC (pc := 31) fd_X7_12.r xA_8 rfl dX7_readNumber_31 ?_
      refine aw_aload_n (pc := 34) (q := 0) dX7_readNumber_34 rfl ?_
      refine aw_getI (pc := 35) fd_X7_70.r xA_8 rfl dX7_readNumber_35 ?_
      obtain ⟨r7, e8, h⟩ := aw_bde h
      refine aw_cV1 (pc := 38) [.int ((σ.1 8 14))] (c_Te_at isTe_9 e8) yy_Te_at.1 wm_294 yy_Te_at.2.1 yy_Te_at.2.2 xA_9 ⟨_, _, rfl⟩ rfl ⟨Nat.le_of_ble_eq_true rfl, Nat.le_of_ble_eq_true rfl⟩ ⟨Nat.zero_le _, Nat.zero_le _⟩ (Nat.le_of_ble_eq_true rfl) dX7_readNumber_38 ?_
      refine aw_iadd (pc := 41) dX7_readNumber_41 ?_
      refine aw_bipush (pc := 42) (v := 48) dX7_readNumber_42 (by decide) ?_
      refine aw_isub (pc := 44) dX7_readNumber_44 ?_
      refine aw_nmI (fun x9 e_x9 => ?_)
      replace h := aw_lte h x9 e_x9
      refine aw_istore_n (pc := 45) [(2, .int x9), (0, .ref 8), (1, .int v1), (3, .int v3)] dX7_readNumber_45 (by decide) rfl ?_
      obtain ⟨x10, e_x10⟩ : ∃ z, z = (v3 + (1 : Int32)) := ⟨_, rfl⟩
      replace h := aw_lte h x10 e_x10
      refine aw_iinc (pc := 46) (q := 3) (v := x10) [(3, .int x10), (2, .int x9), (0, .ref 8), (1, .int v1)] dX7_readNumber_46 rfl e_x10.symm (by decide) rfl ?_
      refine aw_aload_n (pc := 49) (q := 2) dX7_readNumber_49 rfl ?_
      refine aw_dup (pc := 50) dX7_readNumber_50 rfl ?_
      refine aw_getI (pc := 51) fd_X7_70.r xA_8 rfl dX7_readNumber_51 ?_
      refine aw_iconst (pc := 54) (v := 1) dX7_readNumber_54 (by decide) ?_
      refine aw_iadd (pc := 55) dX7_readNumber_55 ?_
      refine aw_putI (pc := 56) fd_X7_70 xA_8 rfl (fun _ => rfl) (fun _ => rfl) dX7_readNumber_56 ?_
      refine aw_nmS (fun s11 e_s11 => ?_)
      replace h := aw_lte h s11 e_s11
      refine aw_goto (pc := 59) (tgt := 4) dX7_readNumber_59 (by decide) ?_
      refine aw_sub [2, 3, 1, 0] rfl ?_
      cases h
      exact hz
set_option maxRecDepth 100000 in
set_option maxHeartbeats 4000000 in
theorem t_Re_readNumber {l : Launch} {G : aw_G} {E : aw_E} {σ : aw_S} {p1 : Int32} {t : (Int32 × aw_S)} (h : m_Re_readNumber σ p1 = some t) (hE : E = (some (.int t.1), xA, t.2)) : aw_W l M_Re_readNumber G B_Re_readNumber E 0 [(0, .ref 8), (1, .int p1)] [] xA σ 0 0 := by
  unfold m_Re_readNumber at h
  refine aw_iconst (pc := 0) (v := 0) dX7_readNumber_0 (by decide) ?_
  refine aw_istore_n (pc := 1) [(2, .int ((0 : Int32))), (0, .ref 8), (1, .int p1)] dX7_readNumber_1 (by decide) rfl ?_
  refine aw_iconst (pc := 2) (v := 0) dX7_readNumber_2 (by decide) ?_
  refine aw_istore_n (pc := 3) [(3, .int ((0 : Int32))), (2, .int ((0 : Int32))), (0, .ref 8), (1, .int p1)] dX7_readNumber_3 (by decide) rfl ?_
  obtain ⟨x12, hl13, h⟩ := aw_bde h
  have K14 : z_Re_readNumber_Y4 l G E p1 x12 := by
    show aw_W l M_Re_readNumber G B_Re_readNumber E 62 [(0, .ref 8), (2, .int x12.1), (3, .int x12.2.1)] [] xA x12.2.2 0 0
    refine aw_iload_n (pc := 62) (q := 2) dX7_readNumber_62 rfl ?_
    refine aw_if_ne (pc := 63) (tgt := 77) dX7_readNumber_63 (by decide) (fun c15 => ?_) (fun c15 => ?_)
    · replace h := aw_ifn c15 h
      refine aw_iload_n (pc := 77) (q := 1) dX7_readNumber_77 rfl ?_
      cases h
      subst hE
      exact aw_iret rfl rfl ⟨Nat.zero_le _, Nat.zero_le _⟩ dX7_readNumber_78
    · replace h := aw_ifp c15 h
      refine aw_aload_n (pc := 66) (q := 0) dX7_readNumber_66 rfl ?_
      refine aw_aload_n (pc := 67) (q := 0) dX7_readNumber_67 rfl ?_
      refine aw_getI (pc := 68) fd_X7_70.r xA_8 rfl dX7_readNumber_68 ?_
      obtain ⟨r16, s18, e17, h⟩ := aw_bd2e h
      refine aw_cV1 (pc := 71) [.int ((x12.2.2.1 8 14))] (c_Re_refuse e17) yy_Re_refuse.1 wm_286 yy_Re_refuse.2.1 yy_Re_refuse.2.2 xA_8 ⟨_, _, rfl⟩ rfl ⟨Nat.le_of_ble_eq_true rfl, Nat.le_of_ble_eq_true rfl⟩ ⟨Nat.zero_le _, Nat.zero_le _⟩ (Nat.le_of_ble_eq_true rfl) dX7_readNumber_71 ?_
      refine aw_pop (pc := 74) dX7_readNumber_74 rfl ?_
      refine aw_iconst (pc := 75) (v := -1) dX7_readNumber_75 (by decide) ?_
      cases h
      subst hE
      exact aw_iret rfl rfl ⟨Nat.zero_le _, Nat.zero_le _⟩ dX7_readNumber_76
  refine aw_sub [2, 3, 1, 0] rfl ?_
  exact aw_lp_X (Xp := z_Re_readNumber_X4 l G E p1) (Y := z_Re_readNumber_Y4 l G E p1) hl13 K14 (fun s t hf hz => t_Re_readNumber_B4 hf hz)
theorem c_Re_readNumber {l : Launch} {G : aw_G} {σ : aw_S} {p1 : Int32} {t : (Int32 × aw_S)} (h : m_Re_readNumber σ p1 = some t) : aw_Ct l yX7_readNumber M_Re_readNumber G B_Re_readNumber [.ref 8, .int p1] xA σ (some (.int t.1), xA, t.2) := aw_Ct_of (by decide) rfl (fun h => by cases h) (Nat.le_of_ble_eq_true rfl) (t_Re_readNumber h rfl)
/-! LateMover$Reader.readOperand()I -/
set_option maxRecDepth 100000 in
set_option maxHeartbeats 4000000 in
theorem t_Re_readOperand {l : Launch} {G : aw_G} {E : aw_E} {σ : aw_S} {t : (Int32 × aw_S)} (h : m_Re_readOperand σ = some t) (hE : E = (some (.int t.1), xA, t.2)) : aw_W l M_Re_readOperand G B_Re_readOperand E 0 [(0, .ref 8)] [] xA σ 0 0 := by
  unfold m_Re_readOperand at h
  refine aw_aload_n (pc := 0) (q := 0) dX7_readOperand_0 rfl ?_
  refine aw_getC (pc := 1) fd_X7_12.r xA_8 rfl dX7_readOperand_1 ?_
  refine aw_aload_n (pc := 4) (q := 0) dX7_readOperand_4 rfl ?_
  refine aw_getI (pc := 5) fd_X7_70.r xA_8 rfl dX7_readOperand_5 ?_
  obtain ⟨r1, e2, h⟩ := aw_bde h
  refine aw_cV1 (pc := 8) [.int ((σ.1 8 14))] (c_Te_at isTe_9 e2) yy_Te_at.1 wm_294 yy_Te_at.2.1 yy_Te_at.2.2 xA_9 ⟨_, _, rfl⟩ rfl ⟨Nat.le_of_ble_eq_true rfl, Nat.le_of_ble_eq_true rfl⟩ ⟨Nat.zero_le _, Nat.zero_le _⟩ (Nat.le_of_ble_eq_true rfl) dX7_readOperand_8 ?_
  refine aw_istore_n (pc := 11) [(1, .int r1), (0, .ref 8)] dX7_readOperand_11 (by decide) rfl ?_
  refine aw_iload_n (pc := 12) (q := 0) dX7_readOperand_12 rfl ?_
  obtain ⟨r3, e4, h⟩ := aw_bde h
  refine aw_cS1 (pc := 13) [.int r1] (c_Re_isLetter e4) yy_Re_isLetter.1 wm_298 yy_Re_isLetter.2 rfl ⟨Nat.le_of_ble_eq_true rfl, Nat.le_of_ble_eq_true rfl⟩ ⟨Nat.zero_le _, Nat.zero_le _⟩ (Nat.le_of_ble_eq_true rfl) dX7_readOperand_13 ?_
  refine aw_if_eq (pc := 16) (tgt := 34) dX7_readOperand_16 (by decide) (fun c5 => ?_) (fun c5 => ?_)
  · replace h := aw_ifp c5 h
    refine aw_aload_n (pc := 34) (q := 1) dX7_readOperand_34 rfl ?_
    refine aw_iconst (pc := 35) (v := 3) dX7_readOperand_35 (by decide) ?_
    obtain ⟨r6, s8, e7, h⟩ := aw_bd2e h
    refine aw_cV1 (pc := 36) [.int ((3 : Int32))] (c_Re_readNumber e7) yy_Re_readNumber.1 wm_309 yy_Re_readNumber.2.1 yy_Re_readNumber.2.2 xA_8 ⟨_, _, rfl⟩ rfl ⟨Nat.le_of_ble_eq_true rfl, Nat.le_of_ble_eq_true rfl⟩ ⟨Nat.zero_le _, Nat.zero_le _⟩ (Nat.le_of_ble_eq_true rfl) dX7_readOperand_36 ?_
    refine aw_istore_n (pc := 39) [(2, .int r6), (1, .int r1), (0, .ref 8)] dX7_readOperand_39 (by decide) rfl ?_
    refine aw_iload_n (pc := 40) (q := 0) dX7_readOperand_40 rfl ?_
    refine aw_iconst (pc := 41) (v := -1) dX7_readOperand_41 (by decide) ?_
    refine aw_icmp_ne (pc := 42) (tgt := 49) dX7_readOperand_42 (by decide) (fun c9 => ?_) (fun c9 => ?_)
    · replace h := aw_ifn c9 h
      refine aw_iload_n (pc := 49) (q := 0) dX7_readOperand_49 rfl ?_
      refine aw_bipush (pc := 50) (v := 26) dX7_readOperand_50 (by decide) ?_
      refine aw_iadd (pc := 52) dX7_readOperand_52 ?_
      cases h
      subst hE
      exact aw_iret rfl rfl ⟨Nat.zero_le _, Nat.zero_le _⟩ dX7_readOperand_53
    · replace h := aw_ifp c9 h
      refine aw_iconst (pc := 45) (v := -1) dX7_readOperand_45 (by decide) ?_
      refine aw_goto (pc := 46) (tgt := 53) dX7_readOperand_46 (by decide) ?_
      cases h
      subst hE
      exact aw_iret rfl rfl ⟨Nat.zero_le _, Nat.zero_le _⟩ dX7_readOperand_53
  · replace h := aw_ifn c5 h
    refine aw_aload_n (pc := 19) (q := 1) dX7_readOperand_19 rfl ?_
    refine aw_dup (pc := 20) dX7_readOperand_20 rfl ?_
    refine aw_getI (pc := 21) fd_X7_70.r xA_8 rfl dX7_readOperand_21 ?_
    refine aw_iconst (pc := 24) (v := 1) dX7_readOperand_24 (by decide) ?_
    refine aw_iadd (pc := 25) dX7_readOperand_25 ?_
    refine aw_putI (pc := 26) fd_X7_70 xA_8 rfl (fun _ => rfl) (fun _ => rfl) dX7_readOperand_26 ?_
    refine aw_nmS (fun s10 e_s10 => ?_)
    replace h := aw_lte h s10 e_s10
    refine aw_iload_n (pc := 29) (q := 0) dX7_readOperand_29 rfl ?_
    refine aw_bipush (pc := 30) (v := 97) dX7_readOperand_30 (by decide) ?_
    refine aw_isub (pc := 32) dX7_readOperand_32 ?_
    cases h
    subst hE
    exact aw_iret rfl rfl ⟨Nat.zero_le _, Nat.zero_le _⟩ dX7_readOperand_33
theorem c_Re_readOperand {l : Launch} {G : aw_G} {σ : aw_S} {t : (Int32 × aw_S)} (h : m_Re_readOperand σ = some t) : aw_Ct l yX7_readOperand M_Re_readOperand G B_Re_readOperand [.ref 8] xA σ (some (.int t.1), xA, t.2) := aw_Ct_of (by decide) rfl (fun h => by cases h) (Nat.le_of_ble_eq_true rfl) (t_Re_readOperand h rfl)

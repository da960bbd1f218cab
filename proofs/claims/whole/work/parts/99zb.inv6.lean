/-! ===== THE CALLS: keep, back ===== -/
set_option maxHeartbeats 2000000 in
theorem pz_parse0 (t : Nat → Nat) : pz_to 0 t (.inl 0) := by
  refine ⟨Nat.le_refl _, fun σ c hc h hf => pz_begA hc h hf (fun s f1 f2 f3 f4 _ _ _ _ _ => ?_), fun σ h => pz_begB h (fun s R => ?_)⟩
  · refine ao_ifp nI_0 ?_
    unfold m_Re_faultOf_J52 m_Re_faultOf_J109
    refine ao_let ?_
    have e15 : (aw_sI s 8 15 0).1 8 15 = nI 0 := ao_sI_s _ _ _ _
    refine ao_bd (ao_imp (Q := fun u => u = aw_sI s 8 15 0) (ao_lpu1 (n := 1) (by omega) (fun m hm => ?_)) ?_)
    · obtain ⟨m, rfl⟩ : ∃ k, m = k + 1 := ⟨m - 1, by omega⟩
      refine ao_lpS ?_
      show ao_ok (m_Re_faultOf_B57 (aw_sI s 8 15 0) 0) _
      unfold m_Re_faultOf_B57
      refine ao_ifn (by decide) (ao_ifn ?_ (ao_inl rfl))
      rw [e15]; decide
    · rintro u rfl
      refine ao_ifn (by rw [e15]; decide) (ao_some ⟨f1, fun k hk => by rw [← f2 k hk]; exact ao_sI_o (by omega), (ao_sI_o_at (by omega)).trans f3, fun i hi => (ao_sI_o_at (by omega)).trans (f4 i hi), e15⟩)
  · refine ao_ifp nI_0 ?_
    unfold m_Rf_fails
    exact ao_bd2 (ao_let (ao_some (ao_gd (Or.inl rfl) (ao_some ⟨⟨R.1.1.1, fun k h1 h2 h3 => by rw [← R.1.1.2.1 k h1 h2 h3]; exact ao_sI_o h1, fun j h1 h2 h3 => by rw [← R.1.1.2.2.1 j h1 h2 h3]; exact ao_sI_i h2, fun j hj => by rw [← R.1.1.2.2.2 j hj]; exact ao_sI_o_at (by omega)⟩, rfl, ao_sI_s _ _ _ _⟩))))
set_option maxHeartbeats 2000000 in
theorem i_keep {a b : aw_S} (h : iv_I a b) (x : Int32) : iv_ok (m_Mo_keep a x) (m_Rf_keep b x) := by
  have same : ao_2 (some ((0 : Int32), a)) (some ((0 : Int32), b)) (fun p q => p.1 = q.1 ∧ iv_I p.2 q.2) := ao_2s ⟨rfl, h⟩
  have h' := h
  obtain ⟨core, ⟨tf, L, hL, t1, t2, t3⟩, ⟨kk, hk, w1, w2, w3⟩, e, told, ran⟩ := h
  unfold m_Mo_keep m_Rf_keep
  by_cases q : ∃ i, i < 3 ∧ x = nI i
  · obtain ⟨i, hi, rfl⟩ := q
    rw [if_neg (nI_pos (by omega)), if_neg (show ¬ (3 : Int32) ≤ nI i from nI_ge (b := 3) hi (by omega)), aw_bd_s (iq_isIn1 b (N := 3) (by decide) hi (by omega)), if_neg ao_n10]
    have ek : aw_kept i = some (136 + 2 * i) := if_pos hi
    obtain ⟨⟨ff4, ff1, ff2, ff3⟩, kp, pr, zz, rr⟩ := core
    rcases pr with z | ⟨Ψ, ⟨row, L0, t0, T, TA, TO⟩, G, K⟩
    · have p1 : m_Mo_isProgram a = some 0 := by unfold m_Mo_isProgram; rw [z.1.1, if_pos (by decide)]
      rw [aw_bd_s p1, if_pos rfl, if_pos z.2.2.1]
      exact same
    · have p1 : m_Mo_isProgram a = some 1 := by
        unfold m_Mo_isProgram
        have := G.1.2.1
        have := G.1.1.1
        rw [G.2.1.1.1.2.1, if_neg (nI_nle (by omega) (by omega))]
      have p2 : b.1 0 15 = 1 := G.2.2.2.2.2.2.2.2.2.2
      obtain ⟨u7, E7, l7, f7, d7, o7⟩ := iv_copyRow (σ := b) (p := 0) (q := 1 + i) (by omega) (by omega) (by omega)
      have E7 : m_Rf_copyRow b 0 (1 + nI i) = some u7 := by rw [show (1 : Int32) = nI 1 from rfl, nI_add]; exact E7
      rw [aw_bd_s p1, if_neg ao_n10, p2, if_neg ao_n10, ao_gdn hi (by omega), nI_clamp (by omega), aw_bd_s ek, aw_bd_s E7, ao_gdn hi (by omega), ao_ltr, ao_nar (Or.inr rfl)]
      have cp : m_Te_copyFrom a (136 + 2 * i) 3 = some (aw_sI (aw_cp a 4 (136 + 2 * i + 1) 800) (136 + 2 * i) 1 (a.1 3 1)) := by
        unfold m_Te_copyFrom
        rw [aw_gd_t (show ∀ i, i < 800 → fits .byte (.int (a.1 (3 + 1) i)) = true from ff4), ao_ltr, ao_ltr]
        have : (aw_cp a (3 + 1) (136 + 2 * i + 1) 800).1 3 1 = a.1 3 1 := by rw [ao_cp1, if_neg (by omega)]
        rw [this]
      rw [aw_bd_s cp]
      generalize hs : aw_sI (aw_cp a 4 (136 + 2 * i + 1) 800) (136 + 2 * i) 1 (a.1 3 1) = s
      have ls : s.2 = a.2 := by rw [← hs]; rfl
      have os : ∀ c, c ≠ 136 + 2 * i → c ≠ 136 + 2 * i + 1 → s.1 c = a.1 c := fun c h1 h2 => by
        rw [← hs, ao_sI_o h1]
        exact funext fun j => by rw [ao_cp1, if_neg (fun z => h2 z.1)]
      have k1 : s.1 (136 + 2 * i) 1 = a.1 3 1 := by rw [← hs, ao_sI_s]
      have k2 : ∀ j, j < 800 → s.1 (136 + 2 * i + 1) j = a.1 4 j := fun j hj => by
        rw [← hs, ao_sI_o (by omega), ao_cp1, if_pos ⟨rfl, hj⟩]
      clear hs
      generalize hu : aw_sI u7 33 i 1 = u
      have ou : ∀ c, c ≠ 1 → c ≠ 33 → u.1 c = b.1 c := fun c h1 h2 => by rw [← hu, ao_sI_o h2]; exact f7 c h1
      have u1 : u.1 1 = u7.1 1 := by rw [← hu, ao_sI_o (by omega)]
      have u33 : u.1 33 i = 1 := by rw [← hu, ao_sI_s]
      have u33' : ∀ j, j ≠ i → u.1 33 j = b.1 33 j := fun j hj => by rw [← hu, ao_sI_i hj, f7 33 (by omega)]
      clear hu
      have B1 : ∀ j, j < 340 * (1 + i) ∨ 340 * (1 + i) + 340 ≤ j → u.1 1 j = b.1 1 j := fun j hj => by rw [u1]; exact o7 j hj
      have hX := G.1.2.2.2.2.2.2.1
      have P : iv_prog s u := Or.inr ⟨Ψ, ⟨iv_row TO.1 row (fun j hj => by rw [Nat.zero_add]; exact B1 j (by omega)), L0, t0, T, iv_TA TA (os 3 (by omega) (by omega)) (os 4 (by omega) (by omega)), TO⟩, ⟨G.1, iv_AA G.2.1 (fun c h1 h2 => os c (by omega) (by omega)) (by rw [ls]) (by rw [ls]), iv_BA G.1 G.2.2 ⟨fun j hj => B1 j (by omega), fun c hc => ou c (by omega) (by omega), by rw [ou 0 (by omega) (by omega)], by rw [ou 0 (by omega) (by omega)], by rw [ou 0 (by omega) (by omega)], by rw [ou 0 (by omega) (by omega)]⟩⟩, fun h12 x hx q j hj => by
        rw [os 105 (by omega) (by omega)] at q
        rw [os _ (by omega) (by omega)]
        exact K h12 x hx q j hj⟩
      have KP : ∀ j, j < 3 → iv_kept s u j := by
        intro j hj
        by_cases w : j = i
        · subst w
          exact Or.inr ⟨u33, Ψ, iv_row TO.1 row (fun k hk => by rw [u1, d7 k hk, Nat.mul_zero]), L0, t0, T, ⟨k1.trans TA.1, fun k hk => by rw [k2 k (by have := T.1; omega)]; exact TA.2 k hk⟩, TO⟩
        · rcases kp j hj with ⟨g1, g2⟩ | ⟨g1, Ψ', r', L', t', T', TA', TO'⟩
          · exact Or.inl ⟨by rw [u33' j w]; exact g1, by rw [os _ (by omega) (by omega)]; exact g2⟩
          · exact Or.inr ⟨by rw [u33' j w]; exact g1, Ψ', iv_row TO'.1 r' (fun k hk => B1 _ (by omega)), L', t', T', iv_TA TA' (os _ (by omega) (by omega)) (os _ (by omega) (by omega)), TO'⟩
      have FT : ∀ c, c = 137 ∨ c = 139 ∨ c = 141 → iv_ft a c → iv_ft s c := fun c hc hf j hj => by
        by_cases w : c = 136 + 2 * i + 1
        · rw [w, k2 j hj]; exact ff4 j hj
        · rw [os c (by omega) w]; exact hf j hj
      refine ao_2s ⟨rfl, ⟨⟨fun j hj => ?_, FT 137 (by omega) ff1, FT 139 (by omega) ff2, FT 141 (by omega) ff3⟩, KP, P, fun n hn => ?_, iv_wr rr ls⟩, ⟨fun j hj => ?_, L, hL, ?_, ?_, fun j hj => ?_⟩, ⟨kk, hk, ?_, ?_, fun j hj => ?_⟩, ?_, fun v hv => ?_, ?_⟩
      · show fits .byte (.int (s.1 4 j)) = true
        rw [os 4 (by omega) (by omega)]; exact ff4 j hj
      · show s.1 64 n = 0 ∧ s.1 65 n = 0
        rw [os 64 (by omega) (by omega), os 65 (by omega) (by omega)]; exact zz n hn
      · show fits .byte (.int (s.1 2 j)) = true
        rw [os 2 (by omega) (by omega)]; exact tf j hj
      · show s.1 1 1 = _
        rw [os 1 (by omega) (by omega)]; exact t1
      · show u.1 0 2 = _
        rw [ou 0 (by omega) (by omega)]; exact t2
      · show s.1 2 j = u.1 2 j
        rw [os 2 (by omega) (by omega), ou 2 (by omega) (by omega)]; exact t3 j hj
      · show s.1 5 1 = _
        rw [os 5 (by omega) (by omega)]; exact w1
      · show u.1 0 48 = _
        rw [ou 0 (by omega) (by omega)]; exact w2
      · show ∃ c, c < 128 ∧ s.1 6 j = _ ∧ u.1 34 j = _
        rw [os 6 (by omega) (by omega), ou 34 (by omega) (by omega)]; exact w3 j hj
      · show s.1 0 17 = u.1 0 4
        rw [os 0 (by omega) (by omega), ou 0 (by omega) (by omega)]; exact e
      · show s.1 81 v = u.1 15 v
        rw [os 81 (by omega) (by omega), ou 15 (by omega) (by omega)]; exact told v hv
      · show iv_ran s u
        unfold iv_ran
        rw [os 0 (by omega) (by omega), os 82 (by omega) (by omega), os 83 (by omega) (by omega), os 84 (by omega) (by omega), os 85 (by omega) (by omega), ou 0 (by omega) (by omega), ou 20 (by omega) (by omega), ou 21 (by omega) (by omega), ou 22 (by omega) (by omega)]
        exact ran
  · rw [aw_bd_s (iq_isIn0 b (N := 3) (by decide) q (by omega)), if_pos rfl]
    by_cases y0 : x < 0
    · rw [if_pos y0]; exact same
    · obtain ⟨j, hj, rfl⟩ := nI_of y0
      rw [if_neg y0, if_pos (show (3 : Int32) ≤ nI j from nI_le (a := 3) (Nat.le_of_not_lt fun z => q ⟨j, z, rfl⟩) hj)]
      exact same
set_option maxHeartbeats 2000000 in
theorem i_back {a b : aw_S} (h : iv_I a b) (x : Int32) : iv_ok (m_Mo_back a x) (m_Rf_back b x) := by
  have same : ao_2 (some ((0 : Int32), a)) (some ((0 : Int32), b)) (fun p q => p.1 = q.1 ∧ iv_I p.2 q.2) := ao_2s ⟨rfl, h⟩
  have h' := h
  obtain ⟨core, ⟨tf, L, hL, t1, t2, t3⟩, ⟨kk, hk, w1, w2, w3⟩, e, told, ran⟩ := h
  unfold m_Mo_back m_Rf_back
  by_cases q : ∃ i, i < 3 ∧ x = nI i
  · obtain ⟨i, hi, rfl⟩ := q
    have ek : aw_kept i = some (136 + 2 * i) := if_pos hi
    have hc : 136 + 2 * i = 1 ∨ 136 + 2 * i = 136 ∨ 136 + 2 * i = 138 ∨ 136 + 2 * i = 140 := by omega
    have fk : ∀ j, j < 800 → fits .byte (.int (a.1 (136 + 2 * i + 1) j)) = true := by
      rcases (show i = 0 ∨ i = 1 ∨ i = 2 by omega) with rfl | rfl | rfl
      · exact core.1.2.1
      · exact core.1.2.2.1
      · exact core.1.2.2.2
    rw [if_neg (nI_pos (by omega)), if_pos (show nI i < (3 : Int32) from nI_lt (b := 3) hi (by omega)), ao_gdn hi (by omega), nI_clamp (by omega), aw_bd_s ek, aw_bd_s (iq_isIn1 b (N := 3) (by decide) hi (by omega)), if_neg ao_n10, ao_gdn hi (by omega)]
    rcases core.2.1 i hi with ⟨g1, g2⟩ | ⟨g1, Ψ, row, L0, t0, T, TA, TO⟩
    · rw [if_pos g1]
      obtain ⟨⟨r1, s8⟩, E1, l1, f1, n9, c10, RA⟩ := (pz_parse0 (fun _ => 0)).2.1 a (136 + 2 * i) hc ⟨g2, fun j hj => absurd hj (Nat.not_lt_zero _)⟩ fk
      have l1 : s8.2 = a.2 := l1
      have f1 : ∀ k, k < 8 ∨ 23 < k → s8.1 k = a.1 k := f1
      have RA : r1 = nI 0 := RA
      rw [aw_bd2_s E1, RA, if_neg (by decide)]
      exact ao_2s ⟨rfl, iv_q h' ⟨fun c hc => f1 c (by omega), by rw [l1], by rw [l1], iv_wr core.2.2.2.2 l1, fun Γ K => iv_oK K (fun c p q => f1 c (by omega)) (fun c p => f1 c (by omega))⟩ iv_qb_rf⟩
    · rw [if_neg (show ¬ b.1 33 i = 0 by rw [g1]; exact ao_n10)]
      obtain ⟨⟨r1, s8⟩, E1, l1, f1, n9, c10, RA⟩ := TO.2.1 a (136 + 2 * i) hc TA fk
      have l1 : s8.2 = a.2 := l1
      have f1 : ∀ k, k < 8 ∨ 23 < k → s8.1 k = a.1 k := f1
      have n9 : s8.1 9 1 = nI L0 := n9
      have c10 : ∀ j, j < 800 → s8.1 10 j = a.1 (136 + 2 * i + 1) j := c10
      obtain ⟨RA, rd⟩ := RA
      have RA : r1 = -1 := RA
      have rd : ap_rd s8 Ψ := rd
      rw [aw_bd2_s E1, if_pos RA]
      obtain ⟨u8, E8, l8, f8, d8, o8⟩ := iv_copyRow (σ := b) (p := 1 + i) (q := 0) (by omega) (by omega) (by omega)
      have E8 : m_Rf_copyRow b (1 + nI i) 0 = some u8 := by rw [show (1 : Int32) = nI 1 from rfl, nI_add]; exact E8
      rw [aw_bd_s E8]
      have row8 : ap_row u8 0 Ψ := iv_row TO.1 row (fun j hj => by
        have := d8 j hj
        rw [show 340 * 0 + j = 0 + j by omega] at this
        exact this)
      refine ao_2b (ao_2i (iv_set (L := L0) (t := t0) core l1 (fun k h1 h2 => f1 k h2) rd n9 (fun j hj => by rw [c10 j hj]; exact fk j hj) (fun j hj => by rw [c10 j (by have := T.1; omega)]; exact TA.2 j hj) T TO row8 (f8 33 (by omega)) (fun j h1 h2 => o8 j (by omega))) ?_)
      rintro s' u' ⟨sf, fy, e18, e34, en, core'⟩
      have S : ∀ c, c ≠ 0 → c ≠ 3 → c ≠ 4 → c ≠ 105 → (c < 24 ∨ 62 < c) → (c < 69 ∨ 80 < c) → s'.1 c = s8.1 c := sf.2.2.1
      have S0 : ∀ j, j ≠ 18 → s'.1 0 j = s8.1 0 j := sf.2.2.2.1
      have U : ∀ c, c ∉ [0, 4, 5, 6, 7, 8, 9, 10, 11, 12, 13, 36, 37, 38, 39] → u'.1 c = u8.1 c := fy.2.1
      have U0 : ∀ j, j ∉ [14, 15, 16, 34, 54] → u'.1 0 j = u8.1 0 j := fy.2.2
      refine ao_2s ⟨rfl, core', ⟨fun j hj => ?_, L, hL, ?_, ?_, fun j hj => ?_⟩, ⟨kk, hk, ?_, ?_, fun j hj => ?_⟩, ?_, fun v hv => ?_, Or.inl ⟨e18, e34⟩⟩
      · show fits .byte (.int (s'.1 2 j)) = true
        rw [S 2 (by omega) (by omega) (by omega) (by omega) (by omega) (by omega), f1 2 (by omega)]; exact tf j hj
      · show s'.1 1 1 = _
        rw [S 1 (by omega) (by omega) (by omega) (by omega) (by omega) (by omega), f1 1 (by omega)]; exact t1
      · show u'.1 0 2 = _
        rw [U0 2 (by decide), f8 0 (by omega)]; exact t2
      · show s'.1 2 j = u'.1 2 j
        rw [S 2 (by omega) (by omega) (by omega) (by omega) (by omega) (by omega), f1 2 (by omega), U 2 (by decide), f8 2 (by omega)]; exact t3 j hj
      · show s'.1 5 1 = _
        rw [S 5 (by omega) (by omega) (by omega) (by omega) (by omega) (by omega), f1 5 (by omega)]; exact w1
      · show u'.1 0 48 = _
        rw [U0 48 (by decide), f8 0 (by omega)]; exact w2
      · show ∃ c, c < 128 ∧ s'.1 6 j = _ ∧ u'.1 34 j = _
        rw [S 6 (by omega) (by omega) (by omega) (by omega) (by omega) (by omega), f1 6 (by omega), U 34 (by decide), f8 34 (by omega)]; exact w3 j hj
      · show s'.1 0 17 = u'.1 0 4
        rw [S0 17 (by omega), f1 0 (by omega), U0 4 (by decide), f8 0 (by omega)]; exact e
      · show s'.1 81 v = u'.1 15 v
        rw [S 81 (by omega) (by omega) (by omega) (by omega) (by omega) (by omega), f1 81 (by omega), U 15 (by decide), f8 15 (by omega)]; exact told v hv
  · rw [aw_bd_s (iq_isIn0 b (N := 3) (by decide) q (by omega)), if_pos rfl]
    by_cases y0 : x < 0
    · rw [if_pos y0]; exact same
    · obtain ⟨j, hj, rfl⟩ := nI_of y0
      rw [if_neg y0, if_neg (show ¬ nI j < (3 : Int32) from nI_nlt (b := 3) (Nat.le_of_not_lt fun z => q ⟨j, z, rfl⟩) hj)]
      exact same

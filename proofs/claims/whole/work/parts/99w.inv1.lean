/-! ===== THE CALLS: what only asks; letter, end, shared, again, others, ways, write ===== -/
theorem iv_255 : ∀ c, c < 128 → nI c &&& (255 : Int32) = nI c := by decide +kernel
theorem i_fault {a b : aw_S} (h : iv_I a b) : iq_e (m_Mo_fault a) (m_Rf_fault b) := iq_q h.2.2.2.1
theorem i_octet {a b : aw_S} (h : iv_I a b) (x : Int32) : iq_e (m_Mo_octet a x) (m_Rf_octet b x) := by
  obtain ⟨_, _, ⟨k, hk, w1, w2, w3⟩, _⟩ := h
  unfold m_Mo_octet m_Te_at m_Rf_octet
  rw [w1, w2]
  by_cases q : ∃ i, i < k ∧ x = nI i
  · obtain ⟨i, hi, rfl⟩ := q
    obtain ⟨c, hc, g1, g2⟩ := w3 i hi
    rw [if_neg (nI_pos (by omega)), if_neg (nI_ge hi (by omega)), if_neg (show ¬ (800 : Int32) ≤ nI i from nI_ge (b := 800) (by omega) (by omega)), ao_gdn (by omega) (by omega), nI_clamp (by omega), aw_bd_s (iq_isIn1 b rfl hi (by omega)), if_neg ao_n10, ao_gdn (by omega) (by omega)]
    refine iq_of (r := nI c) ?_ (by rw [g2])
    rw [show a.1 (5 + 1) i = nI c from g1, iv_255 c hc]
    rfl
  · rw [aw_bd_s (iq_isIn0 b rfl q (by omega)), if_pos rfl]
    refine iq_of (r := -1) ?_ rfl
    by_cases y0 : x < 0
    · rw [if_pos y0]; rfl
    · obtain ⟨j, hj, rfl⟩ := nI_of y0
      rw [if_neg y0, if_pos (nI_le (Nat.le_of_not_lt fun z => q ⟨j, z, rfl⟩) hj)]
      rfl
theorem i_output {a b : aw_S} (h : iv_I a b) (x : Int32) : iq_e (m_Mo_output a x) (m_Rf_output b x) := by
  unfold m_Mo_output m_Rf_output
  rcases h.2.2.2.2.2 with ⟨e1, e2⟩ | ⟨e1, e2, _, _, w, hw, w1, w2, w3⟩
  · rw [e1, e2, if_pos rfl, if_pos rfl]
    exact iq_r
  · rw [e1, e2, if_neg ao_n10, if_neg ao_n10, w1, w2]
    have le : m_Rf_least b (nI w) 40 = some (nI (min w 40)) := by
      unfold m_Rf_least
      by_cases q : 40 ≤ w
      · rw [if_pos (show (40 : Int32) ≤ nI w from nI_le (a := 40) q (by omega)), show min w 40 = 40 by omega]; rfl
      · rw [if_neg (show ¬ (40 : Int32) ≤ nI w from nI_ge (b := 40) (by omega) (by omega)), show min w 40 = w by omega]
    rw [aw_bd_s le]
    by_cases q : ∃ i, i < min w 40 ∧ x = nI i
    · obtain ⟨i, hi, rfl⟩ := q
      rw [aw_bd_s (iq_isIn1 b rfl hi (by omega)), if_neg ao_n10, if_neg (nI_pos (by omega)), if_neg (show ¬ (40 : Int32) ≤ nI i from nI_ge (b := 40) (by omega) (by omega)), if_neg (nI_ge (by omega) (by omega)), ao_gdn (by omega) (by omega), ao_gdn (by omega) (by omega), nI_clamp (by omega)]
      exact iq_q (w3 i (by omega) (by omega))
    · rw [aw_bd_s (iq_isIn0 b rfl q (by omega)), if_pos rfl]
      refine iq_of (r := 0) ?_ rfl
      by_cases y0 : x < 0
      · rw [if_pos y0]
      · obtain ⟨j, hj, rfl⟩ := nI_of y0
        rw [if_neg y0]
        by_cases y1 : 40 ≤ j
        · rw [if_pos (show (40 : Int32) ≤ nI j from nI_le (a := 40) y1 hj)]
        · rw [if_neg (show ¬ (40 : Int32) ≤ nI j from nI_ge (b := 40) (by omega) (by omega)), if_pos (nI_le (Nat.le_of_not_lt fun z => q ⟨j, by omega, rfl⟩) hj)]
theorem i_behind {a b : aw_S} (h : iv_I a b) (x : Int32) : iq_e (m_Mo_behind a x) (m_Rf_behind b x) := by
  unfold m_Mo_behind m_Rf_behind
  rcases h.2.2.2.2.2 with ⟨e1, e2⟩ | ⟨e1, e2, l, _⟩
  · rw [e1, e2, if_pos rfl, if_pos rfl]
    exact iq_r
  · rw [e1, e2, if_neg ao_n10, if_neg ao_n10]
    by_cases q : ∃ i, i < 26 ∧ x = nI i
    · obtain ⟨i, hi, rfl⟩ := q
      rw [aw_bd_s (iq_isIn1 b (N := 26) (by decide) hi (by omega)), if_neg ao_n10, if_neg (nI_pos (by omega)), if_neg (show ¬ (26 : Int32) ≤ nI i from nI_ge (b := 26) (by omega) (by omega)), ao_gdn (by omega) (by omega), ao_gdn (by omega) (by omega), nI_clamp (by omega)]
      exact iq_q (l i hi)
    · rw [aw_bd_s (iq_isIn0 b (N := 26) (by decide) q (by omega)), if_pos rfl]
      refine iq_of (r := 0) ?_ rfl
      by_cases y0 : x < 0
      · rw [if_pos y0]
      · obtain ⟨j, hj, rfl⟩ := nI_of y0
        rw [if_neg y0, if_pos (show (26 : Int32) ≤ nI j from nI_le (a := 26) (Nat.le_of_not_lt fun z => q ⟨j, z, rfl⟩) hj)]
theorem i_computed {a b : aw_S} (h : iv_I a b) (x : Int32) : iq_e (m_Mo_computed a x) (m_Rf_computed b x) := by
  unfold m_Mo_computed m_Rf_computed
  rcases h.2.2.2.2.2 with ⟨e1, e2⟩ | ⟨e1, e2, _, l, _⟩
  · rw [e1, e2, if_pos rfl, if_pos rfl]
    exact iq_r
  · rw [e1, e2, if_neg ao_n10, if_neg ao_n10]
    rcases iq_xp (iv_P h) x with ⟨Γ, e, G, he, rfl, g1, g2⟩ | ⟨g1, g2⟩
    · have hX := G.1.2.2.2.2.2.2.1
      rw [aw_bd_s g1, if_neg ao_n10, aw_bd_s g2, if_neg ao_n10, ao_gdn (by omega) (by omega), ao_gdn (by omega) (by omega), nI_clamp (by omega)]
      exact iq_q (l e (by omega))
    · rw [aw_bd_s g1, if_pos rfl, aw_bd_s g2, if_pos rfl]
      exact iq_r
theorem iv_wr {a a' : aw_S} (h : wa_rr a) (e : a'.2 = a.2) : wa_rr a' := by
  unfold wa_rr wa_r at h ⊢
  rw [e]; exact h
theorem iv_oK {a a' : aw_S} {Γ : ag_T} (h : ot_K a Γ) (e : ∀ c, 105 ≤ c → c ≤ 135 → a'.1 c = a.1 c) (e' : ∀ c, 136 ≤ c → a'.1 c = a.1 c) : ot_K a' Γ := fun h12 x hx q j hj => by
  have E : ∀ c, 105 ≤ c → a'.1 c = a.1 c := fun c hc => by
    by_cases w : c ≤ 135
    · exact e c hc w
    · exact e' c (by omega)
  rw [E 105 (by omega)] at q
  rw [E _ (by omega)]; exact h h12 x hx q j hj
theorem i_letter {a b : aw_S} (h : iv_I a b) (x y : Int32) : iv_ok (m_Mo_letter a x y) (m_Rf_letter b x y) := by
  unfold m_Mo_letter m_Rf_letter
  by_cases q : ∃ i, i < 26 ∧ x = nI i
  · obtain ⟨i, hi, rfl⟩ := q
    obtain ⟨c, ⟨tf, L, hL, t1, t2, t3⟩, ⟨k, hk, w1, w2, w3⟩, e, told, ran⟩ := h
    rw [aw_bd_s (iq_isIn1 b (N := 26) (by decide) hi (by omega)), if_neg ao_n10, if_neg (nI_pos (by omega)), if_pos (show nI i < (26 : Int32) from nI_lt (b := 26) hi (by omega))]
    simp (disch := omega) only [ao_gdn, nI_clamp, ao_ltr]
    have o : ∀ c, c ≠ 81 → (aw_sI a 81 i y).1 c = a.1 c := fun c hc => ao_sI_o hc
    have p : ∀ c, c ≠ 15 → (aw_sI b 15 i y).1 c = b.1 c := fun c hc => ao_sI_o hc
    refine ao_2s ⟨told i hi, iv_core_fr c ⟨fun c hc => o c (by omega), rfl, rfl, iv_wr c.2.2.2.2 rfl, fun Γ K => iv_oK K (fun c h1 h2 => o c (by omega)) (fun c h1 => o c (by omega))⟩ ⟨fun j hj => by rw [p 1 (by omega)], fun c hc => p c (by omega), by rw [p 0 (by omega)], by rw [p 0 (by omega)], by rw [p 0 (by omega)], by rw [p 0 (by omega)]⟩ (fun j _ _ => by rw [p 1 (by omega)]) (p 33 (by omega)), ⟨fun i hi => ?_, L, hL, ?_, ?_, fun i hi => ?_⟩, ⟨k, hk, ?_, ?_, fun i hi => ?_⟩, ?_, fun v hv => ?_, ?_⟩
    · show fits .byte (.int ((aw_sI a 81 _ y).1 2 i)) = true
      rw [o 2 (by omega)]; exact tf i hi
    · show (aw_sI a 81 i y).1 1 1 = _
      rw [o 1 (by omega)]; exact t1
    · show (aw_sI b 15 i y).1 0 2 = _
      rw [p 0 (by omega)]; exact t2
    · show (aw_sI a 81 _ y).1 2 i = (aw_sI b 15 _ y).1 2 i
      rw [o 2 (by omega), p 2 (by omega)]; exact t3 i hi
    · show (aw_sI a 81 i y).1 5 1 = _
      rw [o 5 (by omega)]; exact w1
    · show (aw_sI b 15 i y).1 0 48 = _
      rw [p 0 (by omega)]; exact w2
    · show ∃ c, c < 128 ∧ (aw_sI a 81 _ y).1 6 i = _ ∧ (aw_sI b 15 _ y).1 34 i = _
      rw [o 6 (by omega), p 34 (by omega)]; exact w3 i hi
    · show (aw_sI a 81 i y).1 0 17 = (aw_sI b 15 i y).1 0 4
      rw [o 0 (by omega), p 0 (by omega)]; exact e
    · show (aw_sI a 81 i y).1 81 v = (aw_sI b 15 i y).1 15 v
      by_cases u : v = i
      · rw [u, ao_sI_s, ao_sI_s]
      · rw [ao_sI_i u, ao_sI_i u]; exact told v hv
    · show iv_ran (aw_sI a 81 i y) (aw_sI b 15 i y)
      unfold iv_ran
      rw [o 0 (by omega), o 82 (by omega), o 83 (by omega), o 84 (by omega), o 85 (by omega), p 0 (by omega), p 20 (by omega), p 21 (by omega), p 22 (by omega)]
      exact ran
  · rw [aw_bd_s (iq_isIn0 b (N := 26) (by decide) q (by omega)), if_pos rfl]
    have : (if x < 0 then some (((0 : Int32), a)) else if x < (26 : Int32) then aw_gd (vp_in x 26) (aw_lt ((a.1 81 x.toNatClampNeg)) (fun x4 => aw_gd (vp_in x 26) (aw_lt (aw_sI a 81 x.toNatClampNeg y) (fun s6 => some ((x4, s6)))))) else some (((0 : Int32), a))) = some ((0 : Int32), a) := by
      by_cases y0 : x < 0
      · rw [if_pos y0]
      · obtain ⟨j, hj, rfl⟩ := nI_of y0
        rw [if_neg y0, if_neg (show ¬ nI j < (26 : Int32) from nI_nlt (b := 26) (Nat.le_of_not_lt fun z => q ⟨j, z, rfl⟩) hj)]
    rw [this]
    exact ao_2s ⟨rfl, h⟩
theorem i_end {a b : aw_S} (h : iv_I a b) (x : Int32) : iv_ok (m_Mo_end a x) (m_Rf_end b x) := by
  have h' := h
  obtain ⟨c, ⟨tf, L, hL, t1, t2, t3⟩, ⟨k, hk, w1, w2, w3⟩, e, told, ran⟩ := h
  unfold m_Mo_end m_Rf_end m_Te_size
  have sz : (some (a.1 1 1) : Option Int32) = some (nI L) := by rw [t1]
  rw [aw_bd_s sz, t2]
  by_cases q : ∃ i, i < L + 1 ∧ x = nI i
  · obtain ⟨i, hi, rfl⟩ := q
    have cut : m_Te_cut a 1 (nI i) = some (aw_sI a 1 1 (nI i)) := by
      unfold m_Te_cut
      rw [if_neg (nI_pos (by omega)), t1, if_neg (nI_nlt (by omega) (by omega)), ao_ltr]
    rw [aw_bd_s (iq_isIn1 b (N := L + 1) (nI_pred L).symm hi (by omega)), if_neg ao_n10, if_neg (nI_pos (by omega)), if_pos (nI_le (by omega) (by omega)), aw_bd_s cut, ao_ltr]
    have o : ∀ c, c ≠ 1 → (aw_sI a 1 1 (nI i)).1 c = a.1 c := fun c hc => ao_sI_o hc
    have p : ∀ c, c ≠ 0 → (aw_sI b 0 2 (nI i)).1 c = b.1 c := fun c hc => ao_sI_o hc
    have p0 : ∀ j, j ≠ 2 → (aw_sI b 0 2 (nI i)).1 0 j = b.1 0 j := fun j hj => ao_sI_i hj
    refine ao_2s ⟨rfl, iv_core_fr c ⟨fun c hc => o c (by omega), rfl, rfl, iv_wr c.2.2.2.2 rfl, fun Γ K => iv_oK K (fun c h1 h2 => o c (by omega)) (fun c h1 => o c (by omega))⟩ ⟨fun j hj => by rw [p 1 (by omega)], fun c hc => p c (by omega), p0 14 (by omega), p0 15 (by omega), p0 16 (by omega), p0 54 (by omega)⟩ (fun j _ _ => by rw [p 1 (by omega)]) (p 33 (by omega)), ⟨fun i hi => ?_, i, by omega, ao_sI_s _ _ _ _, ao_sI_s _ _ _ _, fun j hj => ?_⟩, ⟨k, hk, ?_, ?_, fun i hi => ?_⟩, ?_, fun v hv => ?_, ?_⟩
    · show fits .byte (.int ((aw_sI a 1 1 _).1 2 i)) = true
      rw [o 2 (by omega)]; exact tf i hi
    · show (aw_sI a 1 1 _).1 2 j = (aw_sI b 0 2 _).1 2 j
      rw [o 2 (by omega), p 2 (by omega)]; exact t3 j (by omega)
    · show (aw_sI a 1 1 (nI i)).1 5 1 = _
      rw [o 5 (by omega)]; exact w1
    · show (aw_sI b 0 2 (nI i)).1 0 48 = _
      rw [p0 48 (by omega)]; exact w2
    · show ∃ c, c < 128 ∧ (aw_sI a 1 1 _).1 6 i = _ ∧ (aw_sI b 0 2 _).1 34 i = _
      rw [o 6 (by omega), p 34 (by omega)]; exact w3 i hi
    · show (aw_sI a 1 1 (nI i)).1 0 17 = (aw_sI b 0 2 (nI i)).1 0 4
      rw [o 0 (by omega), p0 4 (by omega)]; exact e
    · show (aw_sI a 1 1 (nI i)).1 81 v = (aw_sI b 0 2 (nI i)).1 15 v
      rw [o 81 (by omega), p 15 (by omega)]; exact told v hv
    · show iv_ran (aw_sI a 1 1 (nI i)) (aw_sI b 0 2 (nI i))
      unfold iv_ran
      rw [o 0 (by omega), o 82 (by omega), o 83 (by omega), o 84 (by omega), o 85 (by omega), p0 34 (by omega), p0 33 (by omega), p 20 (by omega), p 21 (by omega), p 22 (by omega)]
      exact ran
  · rw [aw_bd_s (iq_isIn0 b (N := L + 1) (nI_pred L).symm q (by omega)), if_pos rfl]
    have : (if x < 0 then some (((-1 : Int32), a)) else if x ≤ nI L then aw_bd (m_Te_cut a 1 x) (fun s7 => some ((x, s7))) else some (((-1 : Int32), a))) = some ((-1 : Int32), a) := by
      by_cases y0 : x < 0
      · rw [if_pos y0]
      · obtain ⟨j, hj, rfl⟩ := nI_of y0
        rw [if_neg y0, if_neg (nI_ge (Nat.lt_of_not_le fun z => q ⟨j, by omega, rfl⟩) hj)]
    show ao_2 (if x < 0 then some (((-1 : Int32), a)) else if x ≤ nI L then aw_bd (m_Te_cut a 1 x) (fun s7 => some ((x, s7))) else some (((-1 : Int32), a))) _ _
    rw [this]
    exact ao_2s ⟨rfl, h'⟩
theorem i_shared {a b : aw_S} (h : iv_I a b) (x y : Int32) : ∃ r b', m_Mo_shared a x y = some r ∧ m_Rf_shared b x y = some (r, b') ∧ iv_I a b' := by
  obtain ⟨r, s, e1, e2, o⟩ := q_shared (iv_P h) x y
  exact ⟨r, s, e1, e2, iv_one h o (Or.inl rfl)⟩
theorem i_again {a b : aw_S} (h : iv_I a b) (x y : Int32) : ∃ r b', m_Mo_again a x y = some r ∧ m_Rf_again b x y = some (r, b') ∧ iv_I a b' := by
  obtain ⟨r, s, e1, e2, o⟩ := q_again (iv_P h) x y
  exact ⟨r, s, e1, e2, iv_one h o (Or.inr rfl)⟩
theorem i_others {a b : aw_S} (h : iv_I a b) (x y : Int32) : iv_ok (m_Mo_others a x y) (m_Rf_others b x y) := by
  have hp : iq_0 a b ∨ ∃ Γ, iq_G a b Γ ∧ ot_K a Γ := by
    rcases h.1.2.2.1 with z | ⟨Ψ, _, G, K⟩
    · exact Or.inl z
    · exact Or.inr ⟨_, G, K⟩
  refine ao_2i (q_others hp x y) ?_
  rintro ⟨r, s⟩ ⟨r', t⟩ ⟨e, ⟨f1, f2, f3⟩, ⟨z1, z2⟩, K'⟩
  have f2 : ∀ c, c < 105 ∨ 135 < c → s.1 c = a.1 c := f2
  have z2 : ∀ c, c ≠ 24 → c ≠ 25 → c ≠ 26 → t.1 c = b.1 c := z2
  have f1 : s.2 = a.2 := f1
  refine ⟨e, ?_⟩
  -- the cache speaks of the graph that is held
  obtain ⟨c, tape, wrote, w, told, ran⟩ := h
  have hb : iv_qb b t := ⟨fun k hk => z2 k (by omega) (by omega) (by omega), fun j _ => congrFun (z2 0 (by omega) (by omega) (by omega)) j⟩
  obtain ⟨tf, L, hL, t1, t2, t3⟩ := tape
  obtain ⟨k, hk, w1, w2, w3⟩ := wrote
  have P : iv_prog s t := by
    rcases c.2.2.1 with z | ⟨Ψ, ⟨r0, L0, t0, T, TA, TO⟩, G, K⟩
    · refine Or.inl ⟨⟨?_, ?_, ?_, ?_, ?_⟩, ?_, ?_, ?_, ?_, ?_⟩
      · rw [f2 24 (by omega)]; exact z.1.1
      · rw [f2 24 (by omega)]; exact z.1.2.1
      · rw [f2 25 (by omega)]; exact z.1.2.2.1
      · rw [f2 41 (by omega)]; exact z.1.2.2.2.1
      · rw [f2 58 (by omega)]; exact z.1.2.2.2.2
      · rw [hb.2 14 (by omega)]; exact z.2.1
      · rw [hb.2 15 (by omega)]; exact z.2.2.1
      · rw [hb.2 16 (by omega)]; exact z.2.2.2.1
      · rw [hb.2 54 (by omega)]; exact z.2.2.2.2.1
      · rw [hb.1 1 (by omega)]; exact z.2.2.2.2.2
    · have AA : ag_AA s (ap_gr Ψ) := iv_AA G.2.1 (fun c p q => f2 c (by omega)) (by rw [f1]) (by rw [f1])
      exact Or.inr ⟨Ψ, ⟨iv_row TO.1 r0 (fun j hj => by rw [Nat.zero_add, hb.1 1 (by omega)]), L0, t0, T, iv_TA TA (f2 3 (by omega)) (f2 4 (by omega)), TO⟩, ⟨G.1, AA, iv_BA G.1 G.2.2 (iv_qb0 hb)⟩, K' _ G K⟩
  refine ⟨⟨⟨fun i hi => ?_, fun i hi => ?_, fun i hi => ?_, fun i hi => ?_⟩, fun i hi => iv_kept_fr hi (c.2.1 i hi) (fun c hc => f2 c (by omega)) (fun j _ _ => congrFun (hb.1 1 (by omega)) j) (hb.1 33 (by omega)), P, fun n hn => ?_, iv_wr c.2.2.2.2 f1⟩, ⟨fun i hi => ?_, L, hL, ?_, ?_, fun i hi => ?_⟩, ⟨k, hk, ?_, ?_, fun i hi => ?_⟩, ?_, fun v hv => ?_, ?_⟩
  · show fits .byte (.int (s.1 4 i)) = true
    rw [f2 4 (by omega)]; exact c.1.1 i hi
  · show fits .byte (.int (s.1 137 i)) = true
    rw [f2 137 (by omega)]; exact c.1.2.1 i hi
  · show fits .byte (.int (s.1 139 i)) = true
    rw [f2 139 (by omega)]; exact c.1.2.2.1 i hi
  · show fits .byte (.int (s.1 141 i)) = true
    rw [f2 141 (by omega)]; exact c.1.2.2.2 i hi
  · show s.1 64 n = 0 ∧ s.1 65 n = 0
    rw [f2 64 (by omega), f2 65 (by omega)]; exact c.2.2.2.1 n hn
  · show fits .byte (.int (s.1 2 i)) = true
    rw [f2 2 (by omega)]; exact tf i hi
  · show s.1 1 1 = _
    rw [f2 1 (by omega)]; exact t1
  · show t.1 0 2 = _
    rw [hb.2 2 (by omega)]; exact t2
  · show s.1 2 i = t.1 2 i
    rw [f2 2 (by omega), hb.1 2 (by omega)]; exact t3 i hi
  · show s.1 5 1 = _
    rw [f2 5 (by omega)]; exact w1
  · show t.1 0 48 = _
    rw [hb.2 48 (by omega)]; exact w2
  · show ∃ c, c < 128 ∧ s.1 6 i = _ ∧ t.1 34 i = _
    rw [f2 6 (by omega), hb.1 34 (by omega)]; exact w3 i hi
  · show s.1 0 17 = t.1 0 4
    rw [f2 0 (by omega), hb.2 4 (by omega)]; exact w
  · show s.1 81 v = t.1 15 v
    rw [f2 81 (by omega), hb.1 15 (by omega)]; exact told v hv
  · show iv_ran s t
    unfold iv_ran
    rw [f2 0 (by omega), f2 82 (by omega), f2 83 (by omega), f2 84 (by omega), f2 85 (by omega), hb.2 34 (by omega), hb.2 33 (by omega), hb.1 20 (by omega), hb.1 21 (by omega), hb.1 22 (by omega)]
    exact ran
theorem i_ways {a b : aw_S} (h : iv_I a b) (x y z : Int32) : ∃ r a' b', m_Mo_ways a x y z = some (r, a') ∧ m_Rf_ways b x y z = some (r, b') ∧ iv_I a' b' := by
  obtain ⟨r, a', b', e1, e2, f, rr, g⟩ := q_ways (iv_P h) h.1.2.2.2.1 h.1.2.2.2.2 x y z
  exact ⟨r, a', b', e1, e2, iv_q h ⟨fun c hc => f.1 c (by omega), f.2.1 59 (by omega), f.2.1 60 (by omega), rr, fun Γ K => iv_oK K (fun c p q => f.1 c (by omega)) (fun c p => f.1 c (by omega))⟩ ⟨fun c hc => g.2.2 c (by omega), fun j _ => congrFun (g.2.2 0 (by omega)) j⟩⟩
theorem i_write {a b : aw_S} (h : iv_I a b) (x y : Int32) : iv_ok (m_Mo_write a x y) (m_Rf_write b x y) := by
  have hw : ∃ k, k < 1000 ∧ a.1 5 1 = nI k := by
    obtain ⟨_, _, ⟨k, hk, w1, _⟩, _⟩ := h
    exact ⟨k, by omega, w1⟩
  refine ao_2i (q_write (iv_P h) h.1.2.2.2.1 hw x y) ?_
  rintro ⟨r, s⟩ ⟨r', t⟩ ⟨e, d⟩
  refine ⟨e, ?_⟩
  rcases d with ⟨d1, d2⟩ | ⟨k, hk, ⟨f1, f2, f3⟩, ⟨g1, g2, g3⟩, w1, w2, w3⟩
  · have d1 : s = a := d1
    have d2 : t = b := d2
    rw [d1, d2]; exact h
  · obtain ⟨c, ⟨tf, L, hL, t1, t2, t3⟩, _, w, told, ran⟩ := h
    have f1 : s.2 = a.2 := f1
    have f2 : ∀ c, c ≠ 5 → c ≠ 6 → s.1 c = a.1 c := f2
    have g2 : ∀ c, c ≠ 0 → c ≠ 34 → t.1 c = b.1 c := g2
    have g3 : ∀ j, j ≠ 48 → t.1 0 j = b.1 0 j := g3
    refine ⟨iv_core_fr c ⟨fun c hc => f2 c (by omega) (by omega), by rw [f1], by rw [f1], iv_wr c.2.2.2.2 f1, fun Γ K => iv_oK K (fun c p q => f2 c (by omega) (by omega)) (fun c p => f2 c (by omega) (by omega))⟩ ⟨fun j _ => congrFun (g2 1 (by omega) (by omega)) j, fun c hc => g2 c (by omega) (by omega), g3 14 (by omega), g3 15 (by omega), g3 16 (by omega), g3 54 (by omega)⟩ (fun j _ _ => congrFun (g2 1 (by omega) (by omega)) j) (g2 33 (by omega) (by omega)), ⟨fun i hi => ?_, L, hL, ?_, ?_, fun i hi => ?_⟩, ⟨k, hk, w1, w2, w3⟩, ?_, fun v hv => ?_, ?_⟩
    · show fits .byte (.int (s.1 2 i)) = true
      rw [f2 2 (by omega) (by omega)]; exact tf i hi
    · show s.1 1 1 = _
      rw [f2 1 (by omega) (by omega)]; exact t1
    · show t.1 0 2 = _
      rw [g3 2 (by omega)]; exact t2
    · show s.1 2 i = t.1 2 i
      rw [f2 2 (by omega) (by omega), g2 2 (by omega) (by omega)]; exact t3 i hi
    · show s.1 0 17 = t.1 0 4
      rw [f2 0 (by omega) (by omega), g3 4 (by omega)]; exact w
    · show s.1 81 v = t.1 15 v
      rw [f2 81 (by omega) (by omega), g2 15 (by omega) (by omega)]; exact told v hv
    · show iv_ran s t
      unfold iv_ran
      rw [f2 0 (by omega) (by omega), f2 82 (by omega) (by omega), f2 83 (by omega) (by omega), f2 84 (by omega) (by omega), f2 85 (by omega) (by omega), g3 34 (by omega), g3 33 (by omega), g2 20 (by omega) (by omega), g2 21 (by omega) (by omega), g2 22 (by omega) (by omega)]
      exact ran

/-! ===== THE CALLS: program, keep, back ===== -/
theorem iv_copyRow {σ : aw_S} {p q : Nat} (hp : p < 5) (hq : q < 5) (hpq : p ≠ q) : ao_ok (m_Rf_copyRow σ (nI p) (nI q)) (fun s => s.2 = σ.2 ∧ (∀ c, c ≠ 1 → s.1 c = σ.1 c) ∧ (∀ j, j < 340 → s.1 1 (340 * q + j) = σ.1 1 (340 * p + j)) ∧ ∀ j, j < 340 * q ∨ 340 * q + 340 ≤ j → s.1 1 j = σ.1 1 j) := by
  unfold m_Rf_copyRow
  refine ao_bd (ao_imp (ao_for (Q := fun s => s.2 = σ.2 ∧ (∀ c, c ≠ 1 → s.1 c = σ.1 c) ∧ (∀ j, j < 340 → s.1 1 (340 * q + j) = σ.1 1 (340 * p + j)) ∧ ∀ j, j < 340 * q ∨ 340 * q + 340 ≤ j → s.1 1 j = σ.1 1 j) 340 (fun k (t : Int32 × aw_S) => t.1 = nI k ∧ t.2.2 = σ.2 ∧ (∀ c, c ≠ 1 → t.2.1 c = σ.1 c) ∧ (∀ j, j < k → t.2.1 1 (340 * q + j) = σ.1 1 (340 * p + j)) ∧ ∀ j, j < 340 * q ∨ 340 * q + 340 ≤ j → t.2.1 1 j = σ.1 1 j) (a := 0) ⟨rfl, rfl, fun _ _ => rfl, fun j hj => absurd hj (Nat.not_lt_zero _), fun _ _ => rfl⟩ (Nat.zero_le _) (by omega) ?_ ?_) (fun s h => ao_some h))
  · rintro k ⟨v, s⟩ hk ⟨e1, l, f, d, o⟩
    have e1 : v = nI k := e1
    subst e1
    have f : ∀ c, c ≠ 1 → s.1 c = σ.1 c := f
    have d : ∀ j, j < k → s.1 1 (340 * q + j) = σ.1 1 (340 * p + j) := d
    have o : ∀ j, j < 340 * q ∨ 340 * q + 340 ≤ j → s.1 1 j = σ.1 1 j := o
    show ao_ok (m_Rf_copyRow_B2 s (nI p) (nI q) (nI k)) _
    have m1 : (340 : Int32) * nI p + nI k = nI (340 * p + k) := by rw [show (340 : Int32) = nI 340 from rfl, pk_mul, nI_add]
    have m2 : (340 : Int32) * nI q + nI k = nI (340 * q + k) := by rw [show (340 : Int32) = nI 340 from rfl, pk_mul, nI_add]
    unfold m_Rf_copyRow_B2
    rw [if_neg (show ¬ (340 : Int32) ≤ nI k from nI_ge (b := 340) hk (by omega)), m1, m2, ao_gdn (by omega) (by omega), ao_gdn (by omega) (by omega), nI_clamp (by omega), nI_clamp (by omega), ao_ltr, ao_ltr, nI_1]
    have src : s.1 1 (340 * p + k) = σ.1 1 (340 * p + k) := o _ (by omega)
    rw [src]
    refine ao_inr ⟨rfl, l, fun c hc => (ao_sI_o hc).trans (f c hc), fun j hj => ?_, fun j hj => ?_⟩
    · show (aw_sI s 1 (340 * q + k) _).1 1 (340 * q + j) = _
      by_cases w : j = k
      · rw [w, ao_sI_s]
      · rw [ao_sI_i (by omega)]; exact d j (by omega)
    · show (aw_sI s 1 (340 * q + k) _).1 1 j = _
      rw [ao_sI_i (by omega)]; exact o j hj
  · rintro ⟨v, s⟩ ⟨e1, l, f, d, o⟩
    have e1 : v = nI 340 := e1
    subst e1
    show ao_ok (m_Rf_copyRow_B2 s (nI p) (nI q) (nI 340)) _
    unfold m_Rf_copyRow_B2
    rw [if_pos (by decide)]
    exact ao_inl ⟨l, f, d, o⟩
theorem iv_rd {σ σ' : aw_S} {Ψ : ap_T} (h : ap_rd σ Ψ) (e : ∀ k, 8 ≤ k → k < 24 → σ'.1 k = σ.1 k) : ap_rd σ' Ψ := by
  unfold ap_rd ap_rl at h ⊢
  rw [e 8 (by omega) (by omega), e 11 (by omega) (by omega), e 12 (by omega) (by omega), e 13 (by omega) (by omega), e 14 (by omega) (by omega), e 15 (by omega) (by omega), e 16 (by omega) (by omega), e 17 (by omega) (by omega), e 18 (by omega) (by omega), e 19 (by omega) (by omega), e 20 (by omega) (by omega), e 21 (by omega) (by omega)]
  exact h
/-- both settle on the program that was read -/
theorem iv_set {a b s u : aw_S} {Ψ : ap_T} {L : Nat} {t : Nat → Nat} (core : iv_core a b) (hs2 : s.2 = a.2) (hs : ∀ k, 1 < k → (k < 8 ∨ 23 < k) → s.1 k = a.1 k) (rd : ap_rd s Ψ) (s9 : s.1 9 1 = nI L) (s10 : ∀ i, i < 800 → fits .byte (.int (s.1 10 i)) = true) (TT : ∀ i, i < L → s.1 10 i &&& 255 = nI (t i)) (T : pz_T L t) (TO : pz_to L t (.inr Ψ)) (row : ap_row u 0 Ψ) (u33 : u.1 33 = b.1 33) (urow : ∀ j, 340 ≤ j → j < 1360 → u.1 1 j = b.1 1 j) : ao_2 (m_Mo_settle s) (m_Rf_lay u) (fun s' u' => ap_sf s s' ∧ ag_fy u u' ∧ s'.1 0 18 = 0 ∧ u'.1 0 34 = 0 ∧ s'.1 24 13 = u'.1 0 14 ∧ iv_core s' u') := by
  obtain ⟨⟨f1, f2, f3, f4⟩, k, p, z, r⟩ := core
  refine ao_2of (ap_settle TO.1 rd s10) (ap_lay TO.1 row) ?_
  rintro s' u' ⟨sf, AA, e18, e6, e3, e4⟩ ⟨fy, BA, e34⟩
  have hw := ap_gr_wf TO.1
  have S : ∀ c, c ≠ 0 → c ≠ 3 → c ≠ 4 → c ≠ 105 → (c < 24 ∨ 62 < c) → (c < 69 ∨ 80 < c) → s'.1 c = s.1 c := sf.2.2.1
  have U : ∀ c, c = 1 ∨ c = 33 → u'.1 c = u.1 c := fun c hc => fy.2.1 c (by rcases hc with rfl | rfl <;> decide)
  have hh : ∀ c, 136 ≤ c → s'.1 c = a.1 c := fun c hc => (S c (by omega) (by omega) (by omega) (by omega) (by omega) (by omega)).trans (hs c (by omega) (by omega))
  refine ⟨sf, fy, e18, e34, by rw [AA.1.1.2.1, BA.1.1.2.1], ⟨fun i hi => ?_, fun i hi => ?_, fun i hi => ?_, fun i hi => ?_⟩, fun i hi => iv_kept_fr hi (k i hi) hh (fun j h1 h2 => by rw [U 1 (Or.inl rfl)]; exact urow j h1 h2) ((U 33 (Or.inr rfl)).trans u33), Or.inr ⟨Ψ, ⟨ap_row_fr row (U 1 (Or.inl rfl)), L, t, T, ⟨e3.trans s9, fun i hi => by rw [show 3 + 1 = 4 from rfl, e4 i (by have := T.1; omega)]; exact TT i hi⟩, TO⟩, ⟨hw, AA, BA⟩, fun _ e _ q => ?_⟩, fun n hn => ?_, ?_⟩
  · rw [e4 i hi]; exact s10 i hi
  · rw [hh 137 (by omega)]; exact f2 i hi
  · rw [hh 139 (by omega)]; exact f3 i hi
  · rw [hh 141 (by omega)]; exact f4 i hi
  · rw [e6] at q; exact absurd q ao_t_0
  · rw [S 64 (by omega) (by omega) (by omega) (by omega) (by omega) (by omega), S 65 (by omega) (by omega) (by omega) (by omega) (by omega) (by omega), hs 64 (by omega) (by omega), hs 65 (by omega) (by omega)]
    exact z n hn
  · unfold wa_rr wa_r at r ⊢
    rw [sf.1, hs2]; exact r
theorem iv_byte (x : Int32) : ∃ n, n < 256 ∧ x &&& 255 = nI n := by
  obtain ⟨m, _, rfl⟩ := ap_of x
  refine ⟨m &&& 255, ?_, nx_andI m 255⟩
  have : m &&& 255 ≤ 255 := Nat.and_le_right
  omega
set_option maxHeartbeats 2000000 in
theorem i_program {a b : aw_S} (h : iv_I a b) : iv_ok (m_Mo_program a) (m_Rf_program b) := by
  obtain ⟨core, ⟨tf, L, hL, t1, t2, t3⟩, ⟨kk, hk, w1, w2, w3⟩, e, told, ran⟩ := h
  obtain ⟨t, ht⟩ : ∃ t : Nat → Nat, ∀ i, t i < 256 ∧ a.1 2 i &&& 255 = nI (t i) := ⟨fun i => Classical.choose (iv_byte (a.1 2 i)), fun i => Classical.choose_spec (iv_byte (a.1 2 i))⟩
  have T : pz_T L t := ⟨hL, fun i _ => (ht i).1⟩
  have TA : pz_TA a 1 L t := ⟨t1, fun i _ => (ht i).2⟩
  have TB : pz_TB b L t := ⟨t2, fun i hi => by rw [← t3 i hi]; exact (ht i).2⟩
  obtain ⟨o, TO⟩ := pz_parse T
  obtain ⟨⟨r1, s3⟩, E1, l1, f1, n9, c10, RA⟩ := TO.2.1 a 1 (Or.inl rfl) TA tf
  obtain ⟨⟨r2, u3⟩, E2, y2, RB⟩ := TO.2.2 b TB
  have l1 : s3.2 = a.2 := l1
  have f1 : ∀ k, k < 8 ∨ 23 < k → s3.1 k = a.1 k := f1
  have n9 : s3.1 9 1 = nI L := n9
  have c10 : ∀ i, i < 800 → s3.1 10 i = a.1 2 i := c10
  have y2 : pz_yB b u3 := y2
  unfold m_Mo_program m_Rf_program
  rw [aw_bd2_s E1, aw_bd2_s E2, ao_ltr, ao_ltr]
  generalize hs4 : aw_sI s3 0 17 r1 = s4
  have k17 : s4.1 0 17 = r1 := by rw [← hs4, ao_sI_s]
  have o4 : ∀ c, c ≠ 0 → s4.1 c = s3.1 c := fun c hc => by rw [← hs4, ao_sI_o hc]
  have j4 : ∀ j, j ≠ 17 → s4.1 0 j = s3.1 0 j := fun j hj => by rw [← hs4, ao_sI_i hj]
  have r4 : s4.2 = a.2 := by rw [← hs4]; exact l1
  clear hs4
  have cut : m_Te_cut s4 1 0 = some (aw_sI s4 1 1 0) := by
    unfold m_Te_cut
    rw [if_neg (by decide), o4 1 (by omega), f1 1 (by omega), t1, if_neg (nI_pos (by omega)), ao_ltr]
  rw [aw_bd_s cut]
  generalize hs7 : aw_sI s4 1 1 0 = s7
  have k1 : s7.1 1 1 = 0 := by rw [← hs7, ao_sI_s]
  have o7 : ∀ c, c ≠ 1 → s7.1 c = s4.1 c := fun c hc => by rw [← hs7, ao_sI_o hc]
  have r7 : s7.2 = a.2 := by rw [← hs7]; exact r4
  clear hs7
  have A7 : ∀ c, c ≠ 0 → c ≠ 1 → (c < 8 ∨ 23 < c) → s7.1 c = a.1 c := fun c h0 h1 hc => (o7 c h1).trans ((o4 c h0).trans (f1 c hc))
  have A0 : ∀ j, j ≠ 17 → s7.1 0 j = a.1 0 j := fun j hj => (congrFun (o7 0 (by omega)) j).trans ((j4 j hj).trans (congrFun (f1 0 (by omega)) j))
  have k17' : s7.1 0 17 = r1 := (congrFun (o7 0 (by omega)) 17).trans k17
  generalize hu4 : aw_sI u3 0 2 0 = u4
  have ku : u4.1 0 2 = 0 := by rw [← hu4, ao_sI_s]
  have ou : ∀ c, c ≠ 0 → u4.1 c = u3.1 c := fun c hc => by rw [← hu4, ao_sI_o hc]
  have ju : ∀ j, j ≠ 2 → u4.1 0 j = u3.1 0 j := fun j hj => by rw [← hu4, ao_sI_i hj]
  clear hu4
  have B4 : ∀ c, c ≠ 0 → c ≠ 1 → c ≠ 3 → u4.1 c = b.1 c := fun c h0 h1 h3 => (ou c h0).trans (y2.2.1 c h0 h1 h3)
  have B0 : ∀ j, j ≠ 2 → j ≠ 3 → j ≠ 4 → j ≠ 5 → u4.1 0 j = b.1 0 j := fun j h1 h2 h3 h4 => (ju j h1).trans (y2.2.2.1 j h2 h3 h4)
  have B1 : ∀ j, j < 1360 → u4.1 1 j = b.1 1 j := fun j hj => (congrFun (ou 1 (by omega)) j).trans (y2.2.2.2 j hj)
  have tp : ∀ s' u' : aw_S, s'.1 2 = a.1 2 → s'.1 1 1 = 0 → u'.1 0 2 = 0 → iv_tape s' u' := fun s' u' h1 h2 h3 => ⟨fun i hi => by rw [h1]; exact tf i hi, 0, by omega, h2, h3, fun i hi => absurd hi (Nat.not_lt_zero _)⟩
  rw [k17']
  cases o with
  | inl q =>
    have RA : r1 = nI q := RA
    have RB : r2 = 0 ∧ u3.1 0 4 = nI q := RB
    have hq : q ≤ L := TO.1
    rw [RA, if_neg (ao_m1 (by omega)), RB.1, if_pos rfl]
    refine ao_2s ⟨rfl, iv_core_fr core ⟨fun c hc => A7 c (by omega) (by omega) (by omega), by rw [r7], by rw [r7], iv_wr core.2.2.2.2 r7, fun Γ K => iv_oK K (fun c p q => A7 c (by omega) (by omega) (by omega)) (fun c p => A7 c (by omega) (by omega) (by omega))⟩ ⟨fun j hj => B1 j (by omega), fun c hc => B4 c (by omega) (by omega) (by omega), B0 14 (by omega) (by omega) (by omega) (by omega), B0 15 (by omega) (by omega) (by omega) (by omega), B0 16 (by omega) (by omega) (by omega) (by omega), B0 54 (by omega) (by omega) (by omega) (by omega)⟩ (fun j _ h2 => B1 j h2) (B4 33 (by omega) (by omega) (by omega)), tp _ _ (A7 2 (by omega) (by omega) (by omega)) k1 ku, ⟨kk, hk, ?_, ?_, fun i hi => ?_⟩, ?_, fun v hv => ?_, ?_⟩
    · show s7.1 5 1 = _
      rw [A7 5 (by omega) (by omega) (by omega)]; exact w1
    · show u4.1 0 48 = _
      rw [B0 48 (by omega) (by omega) (by omega) (by omega)]; exact w2
    · show ∃ c, c < 128 ∧ s7.1 6 i = _ ∧ u4.1 34 i = _
      rw [A7 6 (by omega) (by omega) (by omega), B4 34 (by omega) (by omega) (by omega)]; exact w3 i hi
    · show s7.1 0 17 = u4.1 0 4
      rw [k17', RA, ju 4 (by omega), RB.2]
    · show s7.1 81 v = u4.1 15 v
      rw [A7 81 (by omega) (by omega) (by omega), B4 15 (by omega) (by omega) (by omega)]; exact told v hv
    · show iv_ran s7 u4
      unfold iv_ran
      rw [A0 18 (by omega), A7 82 (by omega) (by omega) (by omega), A7 83 (by omega) (by omega) (by omega), A7 84 (by omega) (by omega) (by omega), A7 85 (by omega) (by omega) (by omega), B0 34 (by omega) (by omega) (by omega) (by omega), B0 33 (by omega) (by omega) (by omega) (by omega), B4 20 (by omega) (by omega) (by omega), B4 21 (by omega) (by omega) (by omega), B4 22 (by omega) (by omega) (by omega)]
      exact ran
  | inr Ψ =>
    obtain ⟨RA, rd⟩ := RA
    obtain ⟨RB1, RB2, row⟩ := RB
    have RA : r1 = -1 := RA
    have rd : ap_rd s3 Ψ := rd
    have RB1 : r2 = 1 := RB1
    have RB2 : u3.1 0 4 = -1 := RB2
    have row : ap_row u3 1360 Ψ := row
    rw [if_pos RA, RB1, if_neg ao_n10]
    have s10 : ∀ i, s7.1 10 i = s3.1 10 i := fun i => (congrFun (o7 10 (by omega)) i).trans (congrFun (o4 10 (by omega)) i)
    obtain ⟨u8, E8, l8, f8, d8, o8⟩ := iv_copyRow (σ := u4) (p := 4) (q := 0) (by omega) (by omega) (by omega)
    have E8 : m_Rf_copyRow u4 4 0 = some u8 := E8
    rw [aw_bd_s E8]
    have row8 : ap_row u8 0 Ψ := iv_row TO.1 row (fun j hj => by
      have := d8 j hj
      rw [show 340 * 0 + j = 0 + j by omega, show 340 * 4 + j = 1360 + j by omega] at this
      rw [this, ou 1 (by omega)])
    refine ao_2b (ao_2i (iv_set (L := L) (t := t) core r7 (fun k h1 h2 => A7 k (by omega) (by omega) h2) (iv_rd rd (fun k h1 h2 => (o7 k (by omega)).trans (o4 k (by omega)))) (by rw [o7 9 (by omega), o4 9 (by omega)]; exact n9) (fun i hi => by rw [s10, c10 i hi]; exact tf i hi) (fun i hi => by rw [s10, c10 i (by omega)]; exact (ht i).2) T TO row8 ((f8 33 (by omega)).trans (B4 33 (by omega) (by omega) (by omega))) (fun j h1 h2 => (o8 j (by omega)).trans (B1 j h2))) ?_)
    rintro s' u' ⟨sf, fy, e18, e34, en, core'⟩
    have S : ∀ c, c ≠ 0 → c ≠ 3 → c ≠ 4 → c ≠ 105 → (c < 24 ∨ 62 < c) → (c < 69 ∨ 80 < c) → s'.1 c = s7.1 c := sf.2.2.1
    have S0 : ∀ j, j ≠ 18 → s'.1 0 j = s7.1 0 j := sf.2.2.2.1
    have U : ∀ c, c ∉ [0, 4, 5, 6, 7, 8, 9, 10, 11, 12, 13, 36, 37, 38, 39] → u'.1 c = u8.1 c := fy.2.1
    have U0 : ∀ j, j ∉ [14, 15, 16, 34, 54] → u'.1 0 j = u8.1 0 j := fy.2.2
    refine ao_2s ⟨en, core', tp _ _ ((S 2 (by omega) (by omega) (by omega) (by omega) (by omega) (by omega)).trans (A7 2 (by omega) (by omega) (by omega))) ?_ ?_, ⟨kk, hk, ?_, ?_, fun i hi => ?_⟩, ?_, fun v hv => ?_, Or.inl ⟨e18, e34⟩⟩
    · show s'.1 1 1 = 0
      rw [S 1 (by omega) (by omega) (by omega) (by omega) (by omega) (by omega)]; exact k1
    · show u'.1 0 2 = 0
      rw [U0 2 (by decide), f8 0 (by omega)]; exact ku
    · show s'.1 5 1 = _
      rw [S 5 (by omega) (by omega) (by omega) (by omega) (by omega) (by omega), A7 5 (by omega) (by omega) (by omega)]; exact w1
    · show u'.1 0 48 = _
      rw [U0 48 (by decide), f8 0 (by omega), B0 48 (by omega) (by omega) (by omega) (by omega)]; exact w2
    · show ∃ c, c < 128 ∧ s'.1 6 i = _ ∧ u'.1 34 i = _
      rw [S 6 (by omega) (by omega) (by omega) (by omega) (by omega) (by omega), A7 6 (by omega) (by omega) (by omega), U 34 (by decide), f8 34 (by omega), B4 34 (by omega) (by omega) (by omega)]; exact w3 i hi
    · show s'.1 0 17 = u'.1 0 4
      rw [S0 17 (by omega), k17', RA, U0 4 (by decide), f8 0 (by omega), ju 4 (by omega), RB2]
    · show s'.1 81 v = u'.1 15 v
      rw [S 81 (by omega) (by omega) (by omega) (by omega) (by omega) (by omega), A7 81 (by omega) (by omega) (by omega), U 15 (by decide), f8 15 (by omega), B4 15 (by omega) (by omega) (by omega)]; exact told v hv

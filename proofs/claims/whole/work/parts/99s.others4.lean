/-! ===== OTHERS: few, in the reference; all of it, both ===== -/
theorem ot_overBy {b s : aw_S} {Γ : ag_T} (G : ag_wf Γ) (B : ag_BA b Γ) (hz : ot_z b s) {e : Nat} (he : e < ag_X Γ) (x : Int32) (hN : ag_N Γ ≤ 12) {m : Nat} (hm : m < ag_N Γ) : m_Rf_overBy s (nI e) x (nI m) = some (ot_g Γ e x m) := by
  obtain ⟨p1, p2, p3⟩ := iq_plB (how := true) (w := 0) G B (by omega) he hm
  have p1' : m_Rf_at s 0 0 (nI e) (nI m) = some (nI (ao_c (3 * ag_hi true + 0) e + m)) := p1
  have hP : ag_P Γ e true 0 m ↔ ag_F Γ e 4 m := by
    show ao_PU (ag_N Γ) (ag_nx Γ) (ag_US Γ e) (ag_KE Γ e) true m ↔ _
    unfold ao_PU
    rw [if_pos rfl]
    exact Iff.rfl
  have J : ∀ k0, m_Rf_overBy_J13 s (nI e) (nI m) k0 = some (k0 - ao_b (ag_F Γ e 4 m)) := by
    intro k0
    unfold m_Rf_overBy_J13 m_Rf_overBy_J33
    rw [aw_bd_s p1', ao_gdn p2 (by omega), nI_clamp (by omega), hz.2 13 (by omega) (by omega) (by omega), p3, ao_b_c hP]
    by_cases q : ag_F Γ e 4 m
    · rw [ao_b1 q, if_neg ao_n10]
    · rw [ao_b0 q, if_pos rfl]
  unfold m_Rf_overBy ot_g
  rw [aw_bd_s (ot_has s x (by omega)), J, J]
  by_cases q : ao_t x m
  · rw [ao_b1 q, if_neg ao_n10]
  · rw [ao_b0 q, if_pos rfl]
set_option maxHeartbeats 2000000 in
/-- one edge of a round -/
theorem ot_edgeB {b s : aw_S} {Γ : ag_T} (G : ag_wf Γ) (B : ag_BA b Γ) (hz : ot_z b s) {e : Nat} (he : e < ag_X Γ) (hN : ag_N Γ ≤ 12) (x r : Int32) {y : (Nat → Int32) × Int32} {k : Nat} (hk : k < 2 * ag_N Γ) (hf : ∀ i, i < ag_N Γ → s.1 26 i = y.1 i) : ∃ s', m_Rf_isFew_B61 s (nI e) x r y.2 (nI k) = some (.inr ((fw_e (ot_g Γ e x) (ag_nx Γ) y k).2, nI (k + 1), s')) ∧ ot_z b s' ∧ ∀ i, i < ag_N Γ → s'.1 26 i = (fw_e (ot_g Γ e x) (ag_nx Γ) y k).1 i := by
  have hT := ot_z_TB hz B.1.1
  have hp : k / 2 < ag_N Γ := by omega
  have hj : ∀ t' v', m_Rf_isFew_J160 t' (nI e) x v' r (nI k) = some (.inr (v', nI (k + 1), t')) := fun t' v' => by rw [← nI_1 k]; rfl
  have done : fw_e (ot_g Γ e x) (ag_nx Γ) y k = y → ∃ s', m_Rf_isFew_J160 s (nI e) x y.2 r (nI k) = some (.inr ((fw_e (ot_g Γ e x) (ag_nx Γ) y k).2, nI (k + 1), s')) ∧ ot_z b s' ∧ ∀ i, i < ag_N Γ → s'.1 26 i = (fw_e (ot_g Γ e x) (ag_nx Γ) y k).1 i := fun h => by
    rw [h]; exact ⟨s, hj _ _, hz, hf⟩
  unfold m_Rf_isFew_B61
  rw [hT.2.1, ao_mul2, if_neg (nI_ge hk (by omega)), ao_half (by omega), ao_gdn (by omega) (by omega), nI_clamp (by omega), ao_ltr]
  rcases ao_edge hT hk with ⟨e1, e2⟩ | ⟨m, e1, hm, e2, e3⟩
  · rw [if_pos e2]
    refine done ?_
    by_cases q : y.1 (k / 2) = -1000
    · exact fw_e_far q
    · rw [fw_e_near q, e1]
      show ((y.1, if (0 : Int32) = 0 then y.2 else 1) : (Nat → Int32) × Int32) = y
      rw [if_pos rfl]
  · rw [if_neg e3, e2, ao_gdn (by omega) (by omega), nI_clamp (by omega), hf _ hp]
    by_cases q : y.1 (k / 2) = -1000
    · rw [if_pos q]
      exact done (fw_e_far q)
    · rw [if_neg q, aw_bd_s (ot_overBy G B hz he x hN hm)]
      simp (disch := omega) only [ao_gdn, nI_clamp, ao_ltr]
      rw [hf m hm]
      have E : fw_e (ot_g Γ e x) (ag_nx Γ) y k = ((if y.1 m < y.1 (k / 2) + ot_g Γ e x m then (fw_u y.1 m (y.1 (k / 2) + ot_g Γ e x m), 1) else (y.1, 0) : (Nat → Int32) × Int32).1, if (if y.1 m < y.1 (k / 2) + ot_g Γ e x m then (fw_u y.1 m (y.1 (k / 2) + ot_g Γ e x m), 1) else (y.1, 0) : (Nat → Int32) × Int32).2 = 0 then y.2 else 1) := by
        rw [fw_e_near q, e1]
        rfl
      by_cases w : y.1 m < y.1 (k / 2) + ot_g Γ e x m
      · rw [if_pos w] at E
        rw [if_pos w, aw_bd_s (ot_overBy G B hz he x hN hm), hj, E]
        refine ⟨_, rfl, ot_z_I hz (Or.inr (Or.inr rfl)), fun i hi => ?_⟩
        show (aw_sI s 26 m _).1 26 i = fw_u y.1 m _ i
        by_cases u : i = m
        · rw [u, ao_sI_s, fw_u_s]
        · rw [ao_sI_i u, fw_u_o _ _ u]; exact hf i hi
      · rw [if_neg w] at E
        rw [if_neg w]
        refine done ?_
        rw [E]
        show ((y.1, if (0 : Int32) = 0 then y.2 else 1) : (Nat → Int32) × Int32) = y
        rw [if_pos rfl]
set_option maxHeartbeats 2000000 in
theorem ot_fewB {b σ : aw_S} {Γ : ag_T} {e : Nat} (G : ag_wf Γ) (B : ag_BA b Γ) (hz : ot_z b σ) (he : e < ag_X Γ) (hN : ag_N Γ ≤ 12) (x : Int32) : ao_ok (m_Rf_isFew σ (nI e) x) (fun r => r.1 = ao_b (ot_FW Γ e x) ∧ ot_z b r.2) := by
  have h0 := G.2.1
  have cN : ∀ {s : aw_S}, ot_z b s → s.1 0 14 = nI (ag_N Γ) := fun {s} hs => (ot_z_TB hs B.1.1).2.1
  unfold m_Rf_isFew
  refine ao_bd (ao_imp (ao_for (Q := fun t => ot_z b t ∧ ∀ n, n < ag_N Γ → t.1 26 n = -1000) (ag_N Γ) (fun k (t : Int32 × aw_S) => t.1 = nI k ∧ ot_z b t.2 ∧ ∀ n, n < k → t.2.1 26 n = -1000) (a := 0) ⟨rfl, hz, fun n hn => absurd hn (Nat.not_lt_zero _)⟩ (Nat.zero_le _) (by omega) ?_ ?_) ?_)
  · rintro k ⟨v, s⟩ hk ⟨e1, y, d⟩
    have e1 : v = nI k := e1
    subst e1
    have y : ot_z b s := y
    have d : ∀ n, n < k → s.1 26 n = -1000 := d
    show ao_ok (m_Rf_isFew_B2 s (nI e) x (nI k)) _
    unfold m_Rf_isFew_B2
    rw [cN y, if_neg (nI_ge hk (by omega)), ao_gdn (by omega) (by omega), nI_clamp (by omega), ao_ltr, ao_ltr, nI_1]
    refine ao_inr ⟨rfl, ot_z_I y (Or.inr (Or.inr rfl)), fun n hn => ?_⟩
    show (aw_sI s 26 k _).1 26 n = _
    by_cases w : n = k
    · rw [w, ao_sI_s]
    · rw [ao_sI_i w]; exact d n (by omega)
  · rintro ⟨v, s⟩ ⟨e1, y, d⟩
    have e1 : v = nI (ag_N Γ) := e1
    subst e1
    show ao_ok (m_Rf_isFew_B2 s (nI e) x (nI (ag_N Γ))) _
    unfold m_Rf_isFew_B2
    rw [cN y, if_pos (nI_le (Nat.le_refl _) (by omega))]
    exact ao_inl ⟨y, d⟩
  · rintro s1 ⟨y1, d1⟩
    have ga : m_Rf_overBy s1 (nI e) x 0 = some (ot_g Γ e x 0) := ot_overBy G B y1 he x hN h0
    have gd0 : ∀ {α : Type} (z : Option α), aw_gd (vp_in (0 : Int32) 12) z = z := fun z => ao_gdn (n := 0) (by omega) (by omega)
    have cl : (0 : Int32).toNatClampNeg = 0 := rfl
    rw [aw_bd_s ga, gd0, ao_ltr, cl]
    refine ao_bd (ao_imp (ao_for (Q := fun z => z.1 = (ot_X Γ e x (ag_N Γ + 1)).2 ∧ ot_z b z.2 ∧ ∀ i, i < ag_N Γ → z.2.1 26 i = (ot_X Γ e x (ag_N Γ + 1)).1 i) (ag_N Γ + 1) (fun k (t : Int32 × Int32 × aw_S) => t.2.1 = nI k ∧ t.1 = (ot_X Γ e x k).2 ∧ ot_z b t.2.2 ∧ ∀ i, i < ag_N Γ → t.2.2.1 26 i = (ot_X Γ e x k).1 i) (a := 0) ⟨rfl, rfl, ot_z_I y1 (Or.inr (Or.inr rfl)), fun i hi => ?_⟩ (Nat.zero_le _) (by omega) ?_ ?_) ?_)
    · show (aw_sI s1 26 0 (ot_g Γ e x 0)).1 26 i = (fw_o (ot_g Γ e x) (ag_nx Γ) (ag_N Γ) 0).1 i
      rw [fw_o_0]
      show (aw_sI s1 26 0 (ot_g Γ e x 0)).1 26 i = fw_u (fun _ => (-1000 : Int32)) 0 (ot_g Γ e x 0) i
      by_cases w : i = 0
      · rw [w, ao_sI_s, fw_u_s]
      · rw [ao_sI_i w, fw_u_o _ _ w]; exact d1 i hi
    · rintro r ⟨v, n, s⟩ hr ⟨e1, e2, y, f⟩
      have e1 : n = nI r := e1
      have e2 : v = (ot_X Γ e x r).2 := e2
      subst e1
      have y : ot_z b s := y
      have f : ∀ i, i < ag_N Γ → s.1 26 i = (ot_X Γ e x r).1 i := f
      show ao_ok (m_Rf_isFew_B43 s (nI e) x v (nI r)) _
      unfold m_Rf_isFew_B43
      rw [cN y, if_neg (nI_nlt (by omega) (by omega))]
      by_cases v0 : (ot_X Γ e x r).2 = 0
      · rw [if_pos (e2.trans v0)]
        have st := fw_o_st (g := ot_g Γ e x) (nx := ag_nx Γ) (N := ag_N Γ) v0 (ag_N Γ + 1 - r)
        rw [show r + (ag_N Γ + 1 - r) = ag_N Γ + 1 by omega] at st
        have st : ot_X Γ e x (ag_N Γ + 1) = ot_X Γ e x r := st
        refine ao_inl ⟨?_, y, ?_⟩
        · show v = _; rw [st]; exact e2
        · rw [st]; exact f
      · rw [if_neg (fun z => v0 (e2.symm.trans z))]
        have nxt : ot_X Γ e x (r + 1) = fw_k (ot_g Γ e x) (ag_nx Γ) ((ot_X Γ e x r).1, 0) (2 * ag_N Γ) := if_neg v0
        refine ao_bd (ao_imp (ao_for (Q := fun z => z.1 = (ot_X Γ e x (r + 1)).2 ∧ ot_z b z.2 ∧ ∀ i, i < ag_N Γ → z.2.1 26 i = (ot_X Γ e x (r + 1)).1 i) (2 * ag_N Γ) (fun k (t : Int32 × Int32 × aw_S) => t.2.1 = nI k ∧ t.1 = (fw_k (ot_g Γ e x) (ag_nx Γ) ((ot_X Γ e x r).1, 0) k).2 ∧ ot_z b t.2.2 ∧ ∀ i, i < ag_N Γ → t.2.2.1 26 i = (fw_k (ot_g Γ e x) (ag_nx Γ) ((ot_X Γ e x r).1, 0) k).1 i) (a := 0) ⟨rfl, rfl, y, f⟩ (Nat.zero_le _) (by omega) ?_ ?_) ?_)
        · rintro k ⟨v', n', s'⟩ hk ⟨g1, g2, y', f'⟩
          have g1 : n' = nI k := g1
          have g2 : v' = (fw_k (ot_g Γ e x) (ag_nx Γ) ((ot_X Γ e x r).1, 0) k).2 := g2
          subst g1 g2
          obtain ⟨s'', E, Y, F⟩ := ot_edgeB G B y' he hN x (nI r) (y := fw_k (ot_g Γ e x) (ag_nx Γ) ((ot_X Γ e x r).1, 0) k) hk f'
          show ao_ok (m_Rf_isFew_B61 s' (nI e) x (nI r) _ (nI k)) _
          rw [E]
          exact ao_inr ⟨rfl, rfl, Y, F⟩
        · rintro ⟨v', n', s'⟩ ⟨g1, g2, y', f'⟩
          have g1 : n' = nI (2 * ag_N Γ) := g1
          subst g1
          show ao_ok (m_Rf_isFew_B61 s' (nI e) x (nI r) v' (nI (2 * ag_N Γ))) _
          unfold m_Rf_isFew_B61
          rw [cN y', ao_mul2, if_pos (nI_le (Nat.le_refl _) (by omega))]
          refine ao_inl ⟨?_, y', ?_⟩
          · rw [nxt]; exact g2
          · rw [nxt]; exact f'
        · rintro ⟨v', s'⟩ ⟨g2, y', f'⟩
          rw [ao_ltr, nI_1]
          exact ao_inr ⟨rfl, g2, y', f'⟩
    · rintro ⟨v, n, s⟩ ⟨e1, e2, y, f⟩
      have e1 : n = nI (ag_N Γ + 1) := e1
      subst e1
      show ao_ok (m_Rf_isFew_B43 s (nI e) x v (nI (ag_N Γ + 1))) _
      unfold m_Rf_isFew_B43
      rw [cN y, if_pos (nI_lt (by omega) (by omega))]
      exact ao_inl ⟨e2, y, f⟩
    · rintro ⟨v, s⟩ ⟨e2, y, f⟩
      have e2 : v = (ot_X Γ e x (ag_N Γ + 1)).2 := e2
      have y : ot_z b s := y
      have f : ∀ i, i < ag_N Γ → s.1 26 i = (ot_X Γ e x (ag_N Γ + 1)).1 i := f
      show ao_ok (if v = 0 then _ else _) _
      by_cases v0 : v = 0
      · rw [if_pos v0]
        refine ao_bd (ao_imp (ao_for (Q := Sum.elim (fun (y11 : Int32 × aw_S) => y11.1 = 0 ∧ ot_z b y11.2 ∧ ¬ ∀ n, n < ag_N Γ → ag_nx Γ (2 * n) = none → (ot_X Γ e x (ag_N Γ + 1)).1 n ≤ 0) (fun (_ : Unit) => ∀ n, n < ag_N Γ → ag_nx Γ (2 * n) = none → (ot_X Γ e x (ag_N Γ + 1)).1 n ≤ 0)) (ag_N Γ) (fun k (z : Int32) => z = nI k ∧ ∀ n, n < k → ag_nx Γ (2 * n) = none → (ot_X Γ e x (ag_N Γ + 1)).1 n ≤ 0) (a := 0) ⟨rfl, fun n hn => absurd hn (Nat.not_lt_zero _)⟩ (Nat.zero_le _) (by omega) ?_ ?_) ?_)
        · rintro k z hk ⟨rfl, d⟩
          show ao_ok (m_Rf_isFew_B181 s (nI k)) _
          unfold m_Rf_isFew_B181 m_Rf_isFew_J211
          rw [cN y, if_neg (nI_ge hk (by omega)), aw_bd_s (ao_isLast (ot_z_TB y B.1.1) hk), ao_ltr, nI_1]
          by_cases q : ag_nx Γ (2 * k) = none
          · rw [ao_b1 q, if_neg ao_n10, ao_gdn (by omega) (by omega), nI_clamp (by omega), f k hk]
            by_cases q2 : (ot_X Γ e x (ag_N Γ + 1)).1 k ≤ 0
            · rw [if_pos q2]
              exact ao_inr ⟨rfl, fun n hn w => by by_cases u : n = k; rw [u]; exact q2; exact d n (by omega) w⟩
            · rw [if_neg q2]
              exact ao_inl ⟨rfl, y, fun z => q2 (z k hk q)⟩
          · rw [ao_b0 q, if_pos rfl]
            exact ao_inr ⟨rfl, fun n hn w => by by_cases u : n = k; rw [u] at w; exact absurd w q; exact d n (by omega) w⟩
        · rintro z ⟨rfl, d⟩
          show ao_ok (m_Rf_isFew_B181 s (nI (ag_N Γ))) _
          unfold m_Rf_isFew_B181
          rw [cN y, if_pos (nI_le (Nat.le_refl _) (by omega))]
          exact ao_inl d
        · rintro (⟨v', s'⟩ | u) h
          · obtain ⟨g1, y', q⟩ := h
            exact ao_some ⟨(show v' = 0 from g1).trans (ao_b0 (fun w => q w.2)).symm, y'⟩
          · have h : ∀ n, n < ag_N Γ → ag_nx Γ (2 * n) = none → (ot_X Γ e x (ag_N Γ + 1)).1 n ≤ 0 := h
            exact ao_some ⟨(ao_b1 ⟨e2.symm.trans v0, h⟩).symm, y⟩
      · rw [if_neg v0]
        exact ao_some ⟨(ao_b0 (fun w => v0 (e2.trans w.1))).symm, y⟩

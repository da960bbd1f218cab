/-! ===== QUERIES: what placements hold, in both ===== -/
theorem iq_PA {a : aw_S} {Γ : ag_T} (A : ag_AA a Γ) (how : Bool) : ag_PA a Γ how := by cases how; exact A.2.2.2.2; exact A.2.2.2.1
theorem iq_bc (σ : aw_S) {x : Int32} {X : Nat} {P : Nat → Prop} (hX : X ≤ 32) (h : ∀ e, e < 32 → (ao_t x e ↔ e < X ∧ P e)) : m_In_bitCount σ x = some (nI (ao_n P X)) := by
  rw [ap_bitCount, ao_n_c h, iq_n_lim hX]
theorem iq_cp {b : aw_S} {Γ : ag_T} (G : ag_wf Γ) (B : ag_BA b Γ) (how : Bool) {w e : Nat} (hw : w < 3) (he : e < ag_X Γ) {s : aw_S} (e14 : s.1 0 14 = b.1 0 14) (e13 : s.1 13 = b.1 13) : m_Rf_countPlaced s (iq_hI how) (nI w) (nI e) = some (nI (ao_n (ag_P Γ e how w) (ag_N Γ))) := by
  have hN := G.1.1
  unfold m_Rf_countPlaced
  refine aw_bd_s (iq_lpf (fun k => nI (ao_n (ag_P Γ e how w) k)) (N := ag_N Γ) (by omega) (fun k hk => ?_) ?_ rfl)
  · obtain ⟨p1, p2, p3⟩ := iq_plB (how := how) G B hw he hk
    have p1' : m_Rf_at s (iq_hI how) (nI w) (nI e) (nI k) = some (nI (ao_c (3 * ag_hi how + w) e + k)) := p1
    show m_Rf_countPlaced_B6 s (iq_hI how) (nI w) (nI e) (nI (ao_n (ag_P Γ e how w) k)) (nI k) = _
    unfold m_Rf_countPlaced_B6 m_Rf_countPlaced_J38
    rw [e14, B.1.1.2.1, if_neg (nI_ge hk (by omega)), aw_bd_s p1', ao_gdn p2 (by omega), nI_clamp (by omega), e13, p3]
    by_cases q : ag_P Γ e how w k
    · rw [ao_b1 q, if_neg ao_n10, ao_ltr, ao_ltr, nI_1, nI_1, ao_n_s1 q]
    · rw [ao_b0 q, if_pos rfl, ao_ltr, ao_ltr, Int32.add_zero, nI_1, ao_n_s0 q]
  · show m_Rf_countPlaced_B6 s (iq_hI how) (nI w) (nI e) _ (nI (ag_N Γ)) = _
    unfold m_Rf_countPlaced_B6
    rw [e14, B.1.1.2.1, if_pos (nI_le (Nat.le_refl _) (by omega))]
theorem iq_dc {b : aw_S} {Γ : ag_T} (G : ag_wf Γ) (B : ag_BA b Γ) (how : Bool) {e f : Nat} (he : e < ag_X Γ) (hf : f < ag_X Γ) {s : aw_S} (e14 : s.1 0 14 = b.1 0 14) (e13 : s.1 13 = b.1 13) : m_Rf_doClash s (iq_hI how) (nI e) (nI f) = some (ao_b (ag_CL Γ how e f)) := by
  have hN := G.1.1
  have key : ao_ok (m_Rf_doClash s (iq_hI how) (nI e) (nI f)) (fun r => r = ao_b (ag_CL Γ how e f)) := by
    unfold m_Rf_doClash
    refine ao_bd (ao_for (Q := fun x => ao_ok (Sum.elim (fun y14 => some y14) (fun y15 => some ((0 : Int32))) x) (fun r => r = ao_b (ag_CL Γ how e f))) (ag_N Γ) (fun k (v : Int32) => v = nI k ∧ ∀ n, n < k → ¬ (ag_P Γ e how 2 n ∧ ag_P Γ f how 2 n)) (a := 0) ⟨rfl, fun n hn => absurd hn (Nat.not_lt_zero _)⟩ (Nat.zero_le _) (by omega) ?_ ?_)
    · rintro k v hk ⟨e1, hi⟩
      subst e1
      obtain ⟨p1, p2, p3⟩ := iq_plB (how := how) (w := 2) G B (by omega) he hk
      obtain ⟨r1, r2, r3⟩ := iq_plB (how := how) (w := 2) G B (by omega) hf hk
      have p1' : m_Rf_at s (iq_hI how) 2 (nI e) (nI k) = some (nI (ao_c (3 * ag_hi how + 2) e + k)) := p1
      have r1' : m_Rf_at s (iq_hI how) 2 (nI f) (nI k) = some (nI (ao_c (3 * ag_hi how + 2) f + k)) := r1
      show ao_ok (m_Rf_doClash_B3 s (iq_hI how) (nI e) (nI f) (nI k)) _
      unfold m_Rf_doClash_B3 m_Rf_doClash_J46
      rw [e14, B.1.1.2.1, if_neg (nI_ge hk (by omega)), aw_bd_s p1', ao_gdn p2 (by omega), nI_clamp (by omega), aw_bd_s r1', ao_gdn r2 (by omega), nI_clamp (by omega), e13, p3, r3]
      have next : ¬ (ag_P Γ e how 2 k ∧ ag_P Γ f how 2 k) → ao_ok (aw_lt (nI k + 1) (fun x6 => (some (.inr x6) : Option ((Int32 ⊕ Unit) ⊕ Int32)))) (Sum.elim (fun x => ao_ok (Sum.elim (fun y14 => some y14) (fun y15 => some ((0 : Int32))) x) (fun r => r = ao_b (ag_CL Γ how e f))) (fun s' => s' = nI (k + 1) ∧ ∀ n, n < k + 1 → ¬ (ag_P Γ e how 2 n ∧ ag_P Γ f how 2 n))) := by
        intro q
        refine ao_let (ao_inr ⟨nI_1 k, fun n hn => ?_⟩)
        by_cases w : n = k
        · rw [w]; exact q
        · exact hi n (by omega)
      by_cases q1 : ag_P Γ e how 2 k
      · rw [ao_b1 q1, if_neg ao_n10]
        by_cases q2 : ag_P Γ f how 2 k
        · rw [ao_b1 q2, if_neg ao_n10]
          exact ao_inl (ao_some (ao_b1 ⟨k, hk, q1, q2⟩).symm)
        · rw [ao_b0 q2, if_pos rfl]
          exact next (fun z => q2 z.2)
      · rw [ao_b0 q1, if_pos rfl]
        exact next (fun z => q1 z.1)
    · rintro v ⟨e1, hi⟩
      subst e1
      show ao_ok (m_Rf_doClash_B3 s (iq_hI how) (nI e) (nI f) (nI (ag_N Γ))) _
      unfold m_Rf_doClash_B3
      rw [e14, B.1.1.2.1, if_pos (nI_le (Nat.le_refl _) (by omega))]
      exact ao_inl (ao_some (ao_b0 (fun ⟨n, hn, h1, h2⟩ => hi n hn ⟨h1, h2⟩)).symm)
  obtain ⟨r, e1, e2⟩ := key
  rw [e1, e2]
theorem iq_cl {b : aw_S} {Γ : ag_T} (G : ag_wf Γ) (B : ag_BA b Γ) (how : Bool) {e : Nat} (he : e < ag_X Γ) : m_Rf_clashes b (iq_hI how) (nI e) = some (nI (ao_n (fun f => f ≠ e ∧ ag_CL Γ how e f) (ag_X Γ))) := by
  have hX := G.2.2.2.2.2.2.1
  unfold m_Rf_clashes
  refine aw_bd_s (iq_lpf (fun k => nI (ao_n (fun f => f ≠ e ∧ ag_CL Γ how e f) k)) (N := ag_X Γ) (by omega) (fun k hk => ?_) ?_ rfl)
  · show m_Rf_clashes_B5 b (iq_hI how) (nI e) (nI (ao_n (fun f => f ≠ e ∧ ag_CL Γ how e f) k)) (nI k) = _
    unfold m_Rf_clashes_B5 m_Rf_clashes_J37 m_Rf_clashes_J38
    rw [show (2 : Int32) = nI 2 from rfl, aw_bd_s (ag_get (by omega)), B.1.2.2.2.2.2.2.1, if_neg (nI_ge hk (by omega))]
    by_cases q : k = e
    · rw [if_pos (congrArg nI q), ao_ltr, ao_ltr, Int32.add_zero, nI_1, ao_n_s0 (X := fun f => f ≠ e ∧ ag_CL Γ how e f) (fun z => z.1 q)]
    · rw [if_neg (fun z => q ((nI_eq (by omega) (by omega)).mp z)), aw_bd_s (iq_dc G B how he hk rfl rfl)]
      by_cases w : ag_CL Γ how e k
      · rw [ao_b1 w, if_neg ao_n10, ao_ltr, ao_ltr, nI_1, nI_1, ao_n_s1 (X := fun f => f ≠ e ∧ ag_CL Γ how e f) ⟨q, w⟩]
      · rw [ao_b0 w, if_pos rfl, ao_ltr, ao_ltr, Int32.add_zero, nI_1, ao_n_s0 (X := fun f => f ≠ e ∧ ag_CL Γ how e f) (fun z => w z.2)]
  · show m_Rf_clashes_B5 b (iq_hI how) (nI e) _ (nI (ag_X Γ)) = _
    unfold m_Rf_clashes_B5
    rw [show (2 : Int32) = nI 2 from rfl, aw_bd_s (ag_get (by omega)), B.1.2.2.2.2.2.2.1, if_pos (nI_le (Nat.le_refl _) (by omega))]
/-! ===== most ===== -/
def iq_mx (g : Nat → Nat) : Nat → Nat
  | 0 => 0
  | n + 1 => max (iq_mx g n) (g n)
theorem iq_mx_le {g : Nat → Nat} {M : Nat} (h : ∀ k, g k ≤ M) (n : Nat) : iq_mx g n ≤ M := by
  induction n with
  | zero => exact Nat.zero_le _
  | succ n ih => exact Nat.max_le.mpr ⟨ih, h n⟩
theorem q_most {a b : aw_S} (h : iq_P a b) (x : Int32) : iq_e (m_Mo_most a x) (m_Rf_most b x) := by
  unfold m_Mo_most m_Rf_most
  rcases iq_so h with ⟨h1, h2⟩ | ⟨Γ, G, s, h1, h2⟩
  · exact iq_bl (iq_isMoved0 (Or.inl h1)) (iq_lp rfl (iq_rp h2 iq_r))
  · have hN := G.1.1.1
    have hX := G.1.2.2.2.2.2.2.1
    have A := G.2.1.1
    have B := G.2.2.1
    refine iq_rn (by rw [h2]; decide) ?_
    rcases iq_how x with ⟨how, rfl⟩ | ⟨u0, u1⟩
    · have hc : ∀ n, ao_n (fun e => ag_P Γ e how 2 n) (ag_X Γ) ≤ 24 := fun n => Nat.le_trans (ao_n_le _ _) hX
      have hm := iq_mx_le hc
      refine iq_bl (iq_isMoved1 h1 how) (iq_ln ao_n10 (iq_bl (iq_by a how) (iq_br (iq_isHow1 b how) (iq_rn ao_n10 ?_))))
      refine iq_bl (iq_lpf (fun k => nI (iq_mx (fun n => ao_n (fun e => ag_P Γ e how 2 n) (ag_X Γ)) k)) (N := ag_N Γ) (by omega) (fun k hk => ?_) ?_ rfl) (iq_br (iq_lpf (fun k => nI (iq_mx (fun n => ao_n (fun e => ag_P Γ e how 2 n) (ag_X Γ)) k)) (N := ag_N Γ) (by omega) (fun k hk => ?_) ?_ rfl) iq_r)
      · have hmk := hm k
        have hck := hc k
        show m_Mo_most_B21 a (ag_po how) (nI (iq_mx (fun n => ao_n (fun e => ag_P Γ e how 2 n) (ag_X Γ)) k)) (nI k) = _
        unfold m_Mo_most_B21
        rw [A.1.2.1, if_neg (nI_ge hk (by omega)), ao_gdn (by omega) (by omega), nI_clamp (by omega), aw_bd_s (iq_bc (P := fun e => ag_P Γ e how 2 k) a (by omega) ((iq_PA G.2.1 how).1 2 (by omega) k hk)), ag_mx_I (by omega) (by omega), ao_ltr, ao_ltr, nI_1]
        rfl
      · show m_Mo_most_B21 a (ag_po how) _ (nI (ag_N Γ)) = _
        unfold m_Mo_most_B21
        rw [A.1.2.1, if_pos (nI_le (Nat.le_refl _) (by omega))]
      · have hmk := hm k
        have hck := hc k
        show m_Rf_most_B20 b (iq_hI how) (nI (iq_mx (fun n => ao_n (fun e => ag_P Γ e how 2 n) (ag_X Γ)) k)) (nI k) = _
        unfold m_Rf_most_B20
        have inner : aw_lp (fun s => m_Rf_most_B34 b (iq_hI how) (nI (iq_mx (fun n => ao_n (fun e => ag_P Γ e how 2 n) (ag_X Γ)) k)) (nI k) s.1 s.2) aw_fu ((0 : Int32), (0 : Int32)) = some (nI (ao_n (fun e => ag_P Γ e how 2 k) (ag_X Γ))) := by
          refine iq_lpf (fun j => nI (ao_n (fun e => ag_P Γ e how 2 k) j)) (N := ag_X Γ) (by omega) (fun j hj => ?_) ?_ rfl
          · obtain ⟨p1, p2, p3⟩ := iq_plB (how := how) (w := 2) G.1 G.2.2 (by omega) hj hk
            have p1' : m_Rf_at b (iq_hI how) 2 (nI j) (nI k) = some (nI (ao_c (3 * ag_hi how + 2) j + k)) := p1
            show m_Rf_most_B34 b (iq_hI how) _ (nI k) (nI (ao_n (fun e => ag_P Γ e how 2 k) j)) (nI j) = _
            unfold m_Rf_most_B34 m_Rf_most_J67
            rw [aw_bd_s (show m_Rf_get b 2 = some (nI (ag_X Γ)) by rw [show (2 : Int32) = nI 2 from rfl, ag_get (by omega), B.2.2.2.2.2.2.1]), if_neg (nI_ge hj (by omega)), aw_bd_s p1', ao_gdn p2 (by omega), nI_clamp (by omega), p3]
            by_cases q : ag_P Γ j how 2 k
            · rw [ao_b1 q, if_neg ao_n10, ao_ltr, ao_ltr, nI_1, nI_1, ao_n_s1 (X := fun e => ag_P Γ e how 2 k) q]
            · rw [ao_b0 q, if_pos rfl, ao_ltr, ao_ltr, Int32.add_zero, nI_1, ao_n_s0 (X := fun e => ag_P Γ e how 2 k) q]
          · show m_Rf_most_B34 b (iq_hI how) _ (nI k) _ (nI (ag_X Γ)) = _
            unfold m_Rf_most_B34
            rw [show (2 : Int32) = nI 2 from rfl, aw_bd_s (ag_get (by omega)), B.2.2.2.2.2.2.1, if_pos (nI_le (Nat.le_refl _) (by omega))]
        rw [B.1.2.1, if_neg (nI_ge hk (by omega)), aw_bd_s inner]
        unfold m_Rf_most_J88
        by_cases q : ao_n (fun e => ag_P Γ e how 2 k) (ag_X Γ) ≤ iq_mx (fun n => ao_n (fun e => ag_P Γ e how 2 n) (ag_X Γ)) k
        · rw [if_pos (nI_le q (by omega)), ao_ltr, nI_1]
          show _ = some (Sum.inr (nI (max _ _), _))
          rw [Nat.max_eq_left q]
        · rw [if_neg (nI_ge (by omega) (by omega)), ao_ltr, nI_1]
          show _ = some (Sum.inr (nI (max _ _), _))
          rw [Nat.max_eq_right (show iq_mx (fun n => ao_n (fun e => ag_P Γ e how 2 n) (ag_X Γ)) k ≤ ao_n (fun e => ag_P Γ e how 2 k) (ag_X Γ) by omega)]
      · show m_Rf_most_B20 b (iq_hI how) _ (nI (ag_N Γ)) = _
        unfold m_Rf_most_B20
        rw [B.1.2.1, if_pos (nI_le (Nat.le_refl _) (by omega))]
    · exact iq_bl (iq_isMoved0 (Or.inr ⟨u0, u1⟩)) (iq_lp rfl (iq_br (iq_isHow0 b u0 u1) (iq_rp rfl iq_r)))
/-! ===== placement ===== -/
theorem iq_bitsIn {a : aw_S} {Γ : ag_T} (G : ag_wf Γ) (A : ag_A a Γ) {c : Nat} {P : Nat → Nat → Prop} (h : ag_bt a c Γ P) : m_Gr_bitsIn a c = some (nI (iq_s (fun n => ao_n (fun e => P e n) (ag_X Γ)) (ag_N Γ))) := by
  have hN := G.1.1
  have hX := G.2.2.2.2.2.2.1
  unfold m_Gr_bitsIn
  refine aw_bd_s (iq_lpf (fun k => nI (iq_s (fun n => ao_n (fun e => P e n) (ag_X Γ)) k)) (N := ag_N Γ) (by omega) (fun k hk => ?_) ?_ rfl)
  · show m_Gr_bitsIn_B4 a c (nI (iq_s (fun n => ao_n (fun e => P e n) (ag_X Γ)) k)) (nI k) = _
    unfold m_Gr_bitsIn_B4
    rw [A.1.2.1, if_neg (nI_ge hk (by omega)), ao_gdn (by omega) (by omega), nI_clamp (by omega), aw_bd_s (iq_bc (P := fun e => P e k) a (by omega) (h k hk)), ao_ltr, ao_ltr, nI_add, nI_1]
    rfl
  · show m_Gr_bitsIn_B4 a c _ (nI (ag_N Γ)) = _
    unfold m_Gr_bitsIn_B4
    rw [A.1.2.1, if_pos (nI_le (Nat.le_refl _) (by omega))]
theorem iq_sw (P : Nat → Nat → Prop) (N X : Nat) : iq_s (fun n => ao_n (fun e => P e n) X) N = iq_s (fun e => ao_n (P e) N) X := by
  rw [iq_s_c (g' := fun n => iq_s (fun e => @ite _ (P e n) (Classical.propDecidable _) 1 0) X) (fun n _ => (iq_s_n _ _).symm), iq_s_sw]
  exact iq_s_c (fun e _ => iq_s_n _ _)
theorem iq_pairs {a : aw_S} {Γ : ag_T} (G : ag_wf Γ) (A : ag_AA a Γ) (how : Bool) : m_Pl_clashingPairs a (ag_po how) (nI (ag_X Γ)) = some (nI (iq_s (fun e => ao_n (fun f => f ≠ e ∧ ag_CL Γ how e f) (ag_X Γ)) (ag_X Γ)) / 2) := by
  have hX := G.2.2.2.2.2.2.1
  unfold m_Pl_clashingPairs
  refine aw_bd_s (iq_lpf (fun k => nI (iq_s (fun e => ao_n (fun f => f ≠ e ∧ ag_CL Γ how e f) (ag_X Γ)) k)) (N := ag_X Γ) (by omega) (fun k hk => ?_) ?_ rfl)
  · show m_Pl_clashingPairs_B4 a (ag_po how) (nI (ag_X Γ)) (nI (iq_s (fun e => ao_n (fun f => f ≠ e ∧ ag_CL Γ how e f) (ag_X Γ)) k)) (nI k) = _
    unfold m_Pl_clashingPairs_B4
    rw [if_neg (nI_ge hk (by omega)), if_neg (show ¬ (24 : Int32) ≤ nI k from nI_ge (b := 24) (by omega) (by omega)), ao_gdn (by omega) (by omega), nI_clamp (by omega), aw_bd_s (iq_bc (P := fun f => f ≠ k ∧ ag_CL Γ how k f) a (by omega) ((iq_PA A how).2.1 k hk)), ao_ltr, ao_ltr, nI_add, nI_1]
    rfl
  · show m_Pl_clashingPairs_B4 a (ag_po how) (nI (ag_X Γ)) _ (nI (ag_X Γ)) = _
    unfold m_Pl_clashingPairs_B4
    rw [if_pos (nI_le (Nat.le_refl _) (by omega))]
theorem q_placement {a b : aw_S} (h : iq_P a b) (x y z : Int32) : iq_e (m_Mo_placement a x y z) (m_Rf_placement b x y z) := by
  unfold m_Mo_placement m_Rf_placement
  rcases iq_so h with ⟨h1, h2⟩ | ⟨Γ, G, s, h1, h2⟩
  · exact iq_bl (iq_isMoved0 (Or.inl h1)) (iq_lp rfl (iq_rp h2 iq_r))
  · have hN := G.1.1.1
    have hX := G.1.2.2.2.2.2.2.1
    have A := G.2.1.1
    have B := G.2.2.1
    refine iq_rn (by rw [h2]; decide) ?_
    rcases iq_how y with ⟨how, rfl⟩ | ⟨u0, u1⟩
    · refine iq_bl (iq_isMoved1 h1 how) (iq_ln ao_n10 ?_)
      have PA := iq_PA G.2.1 how
      have J : (x = -1 ∨ ∃ e, e < ag_X Γ ∧ x = nI e) → iq_e (m_Mo_placement_J29 a x (iq_hI how) z) (m_Rf_placement_J20 b x (iq_hI how) z) := by
        intro hx
        unfold m_Mo_placement_J29 m_Rf_placement_J20
        refine iq_bl (iq_by a how) (iq_br (iq_isHow1 b how) (iq_rn ao_n10 ?_))
        by_cases q : ∃ w, w < 4 ∧ z = nI w
        · obtain ⟨w, hw, rfl⟩ := q
          refine iq_br (iq_isIn1 b (N := 4) (by decide) hw (by omega)) (iq_rn ao_n10 ?_)
          have get2 : m_Rf_get b 2 = some (nI (ag_X Γ)) := by rw [show (2 : Int32) = nI 2 from rfl, ag_get (by omega), B.2.2.2.2.2.2.1]
          by_cases w3 : w < 3
          · have lt3 : ¬ (3 : Int32) ≤ nI w := nI_ge (b := 3) w3 (by omega)
            have ch : (if nI w = (0 : Int32) then aw_bd (m_Mo_countIn a (ag_po how + 1) x) (fun r8 => some r8) else if nI w = (1 : Int32) then aw_bd (m_Mo_countIn a (ag_po how + 2) x) (fun r11 => some r11) else if nI w = (2 : Int32) then aw_bd (m_Mo_countIn a (ag_po how + 3) x) (fun r14 => some r14) else if nI w = (3 : Int32) then if x = (-1 : Int32) then aw_bd (m_Pl_clashingPairs a (ag_po how) ((a.1 25 3))) (fun r21 => some r21) else aw_gd (vp_in x 24) (aw_bd (m_In_bitCount a ((a.1 (ag_po how + 4) x.toNatClampNeg))) (fun r19 => some r19)) else some ((-1 : Int32))) = aw_bd (m_Mo_countIn a (ag_po how + 1 + w) x) (fun r8 => some r8) := by
              rcases (show w = 0 ∨ w = 1 ∨ w = 2 by omega) with rfl | rfl | rfl
              · rw [if_pos (by decide)]
              · rw [if_neg (by decide), if_pos (by decide)]
              · rw [if_neg (by decide), if_neg (by decide), if_pos (by decide)]
            rw [ch]
            unfold m_Mo_countIn
            rcases hx with rfl | ⟨e, he, rfl⟩
            · rw [if_pos rfl, if_pos rfl]
              refine iq_bl (aw_bd_s (iq_bitsIn G.1 A (PA.1 w w3))) ?_
              refine iq_br (iq_lpf (fun k => nI (iq_s (fun e => ao_n (ag_P Γ e how w) (ag_N Γ)) k)) (N := ag_X Γ) (by omega) (fun k hk => ?_) ?_ rfl) ?_
              · show m_Rf_placement_B71 b (iq_hI how) (nI w) (nI (iq_s (fun e => ao_n (ag_P Γ e how w) (ag_N Γ)) k)) (nI k) = _
                unfold m_Rf_placement_B71 m_Rf_placement_J106
                rw [aw_bd_s get2, if_neg (nI_ge hk (by omega)), if_neg lt3, aw_bd_s (iq_cp G.1 G.2.2 how w3 hk rfl rfl), ao_ltr, ao_ltr, nI_add, nI_1]
                rfl
              · show m_Rf_placement_B71 b (iq_hI how) (nI w) _ (nI (ag_X Γ)) = _
                unfold m_Rf_placement_B71
                rw [aw_bd_s get2, if_pos (nI_le (Nat.le_refl _) (by omega))]
              · rw [if_neg lt3]
                exact iq_q (congrArg nI (iq_sw (fun e n => ag_P Γ e how w n) _ _))
            · rw [if_neg (ao_m1 (by omega)), if_neg (ao_m1 (by omega)), if_neg lt3]
              exact iq_bl (aw_bd_s (iq_nw G.1 A (PA.1 w w3) he)) (iq_br (iq_cp G.1 G.2.2 how w3 he rfl rfl) iq_r)
          · have w3 : w = 3 := by omega
            subst w3
            refine iq_ln (by decide) (iq_ln (by decide) (iq_ln (by decide) (iq_lp (by decide) ?_)))
            have ge3 : (3 : Int32) ≤ nI 3 := by decide
            rcases hx with rfl | ⟨e, he, rfl⟩
            · rw [if_pos rfl, if_pos rfl, A.2.2.2.1]
              refine iq_bl (iq_pairs G.1 G.2.1 how) ?_
              refine iq_br (iq_lpf (fun k => nI (iq_s (fun e => ao_n (fun f => f ≠ e ∧ ag_CL Γ how e f) (ag_X Γ)) k)) (N := ag_X Γ) (by omega) (fun k hk => ?_) ?_ rfl) ?_
              · show m_Rf_placement_B71 b (iq_hI how) (nI 3) (nI (iq_s (fun e => ao_n (fun f => f ≠ e ∧ ag_CL Γ how e f) (ag_X Γ)) k)) (nI k) = _
                unfold m_Rf_placement_B71 m_Rf_placement_J106
                rw [aw_bd_s get2, if_neg (nI_ge hk (by omega)), if_pos ge3, aw_bd_s (iq_cl G.1 G.2.2 how hk), ao_ltr, ao_ltr, nI_add, nI_1]
                rfl
              · show m_Rf_placement_B71 b (iq_hI how) (nI 3) _ (nI (ag_X Γ)) = _
                unfold m_Rf_placement_B71
                rw [aw_bd_s get2, if_pos (nI_le (Nat.le_refl _) (by omega))]
              · rw [if_pos ge3]
                exact iq_r
            · rw [if_neg (ao_m1 (by omega)), if_neg (ao_m1 (by omega)), if_pos ge3, ao_gdn (by omega) (by omega), nI_clamp (by omega)]
              exact iq_bl (iq_bc (P := fun f => f ≠ e ∧ ag_CL Γ how e f) a (by omega) (PA.2.1 e he)) (iq_br (iq_cl G.1 G.2.2 how he) iq_r)
        · refine iq_br (iq_isIn0 b (N := 4) (by decide) q (by omega)) (iq_rp rfl ?_)
          have ne : ∀ w, w < 4 → ¬ z = nI w := fun w hw e => q ⟨w, hw, e⟩
          exact iq_ln (ne 0 (by omega)) (iq_ln (ne 1 (by omega)) (iq_ln (ne 2 (by omega)) (iq_ln (ne 3 (by omega)) iq_r)))
      by_cases q : x = -1
      · exact iq_lp q (iq_rp q (J (Or.inl q)))
      · refine iq_ln q (iq_rn q ?_)
        have e3 := A.2.2.2.1
        have e4 := B.2.2.2.2.2.2.1
        by_cases w : ∃ e, e < ag_X Γ ∧ x = nI e
        · obtain ⟨e, he, rfl⟩ := w
          exact iq_bl (ag_isOne e3 hX he) (iq_br (iq_exp1 e4 he hX) (iq_ln ao_n10 (iq_rn ao_n10 (J (Or.inr ⟨e, he, rfl⟩)))))
        · exact iq_bl (ag_isOne0 e3 hX w) (iq_br (iq_exp0 e4 w hX) (iq_lp rfl (iq_rp rfl iq_r)))
    · refine iq_bl (iq_isMoved0 (Or.inr ⟨u0, u1⟩)) (iq_lp rfl ?_)
      have J : iq_e (some (-1)) (m_Rf_placement_J20 b x y z) := by
        unfold m_Rf_placement_J20
        exact iq_br (iq_isHow0 b u0 u1) (iq_rp rfl iq_r)
      by_cases q : x = -1
      · exact iq_rp q J
      · refine iq_rn q ?_
        have e4 := B.2.2.2.2.2.2.1
        by_cases w : ∃ e, e < ag_X Γ ∧ x = nI e
        · obtain ⟨e, he, rfl⟩ := w
          exact iq_br (iq_exp1 e4 he hX) (iq_rn ao_n10 J)
        · exact iq_br (iq_exp0 e4 w hX) (iq_rp rfl iq_r)

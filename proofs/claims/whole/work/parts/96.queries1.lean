/-! ===== QUERIES: node ===== -/
theorem iq_len (N : Nat) (nx : Nat → Option Nat) (n : Nat) (hd : ∀ p, p < N → nx (2 * p + 1) ≠ none → nx (2 * p) ≠ nx (2 * p + 1)) : (ao_pl N nx n).length = ao_n (fun k => nx k = some n) (2 * N) := by
  induction N with
  | zero => rfl
  | succ N ih =>
    have ih := ih (fun p hp => hd p (by omega))
    unfold ao_pl at ih ⊢
    rw [List.range_succ, List.filter_append, List.length_append, ih, show 2 * (N + 1) = 2 * N + 1 + 1 by omega]
    have hN := hd N (by omega)
    by_cases q1 : nx (2 * N) = some n
    · have q2 : ¬ nx (2 * N + 1) = some n := fun z => hN (by rw [z]; simp) (by rw [q1, z])
      rw [ao_n_s0 q2, ao_n_s1 q1]
      simp [q1]
    · by_cases q2 : nx (2 * N + 1) = some n
      · rw [ao_n_s1 q2, ao_n_s0 q1]
        simp [q2]
      · rw [ao_n_s0 q2, ao_n_s0 q1]
        simp [q1, q2]
theorem iq_sll {N : Nat} {nx : Nat → Option Nat} (hT : ao_tp N nx) {n : Nat} (hn : n < N) : (ao_sl nx n).length = ao_n (fun j => nx (2 * n + j) ≠ none) 2 := by
  unfold ao_sl
  have hz := hT.2.2 n hn
  show _ = 0 + _ + _
  cases e1 : nx (2 * n) with
  | none =>
    rw [hz e1, if_neg (show ¬ nx (2 * n + 0) ≠ none from fun y => y e1), if_neg (fun y => y (hz e1))]
    rfl
  | some t =>
    rw [if_pos (show nx (2 * n + 0) ≠ none from by rw [show 2 * n + 0 = 2 * n from rfl, e1]; simp)]
    cases e2 : nx (2 * n + 1) with
    | none => rw [if_neg (fun y => y e2)]; rfl
    | some u => rw [if_pos (show nx (2 * n + 1) ≠ none by rw [e2]; simp)]; rfl
theorem iq_letterOf {σ : aw_S} {Γ : ag_T} (hw : ag_wf Γ) (h : ag_B σ Γ) {n : Nat} (hn : n < ag_N Γ) : m_Rf_letterOf σ (nI n) = some (ao_o (ag_le Γ n)) := by
  have hN := hw.1.1
  have hk := hw.2.2.2.2.2.1 n hn
  have hk7 := ag_kd_lt hk
  unfold m_Rf_letterOf
  rw [ao_gdn (by omega) (by omega), ao_gdn (by omega) (by omega), nI_clamp (by omega), (h.2.1 n hn).1, (h.2.1 n hn).2]
  by_cases q : ag_kd Γ n = 5
  · rw [if_pos (show nI (ag_kd Γ n) = (5 : Int32) by rw [q]; rfl)]
    rcases hk with z | z | z | z | z | z | z
    · omega
    · omega
    · omega
    · omega
    · omega
    · obtain ⟨b, hb, eb⟩ := z.2.1
      have := h.2.2.2.2.1 n b hn q eb
      rw [eb, show (220 : Int32) = nI 220 from rfl, show ao_o (some b) = nI b from rfl, nI_add, aw_bd_s (ag_get (by omega)), this]
    · omega
  · rw [if_neg (show ¬ nI (ag_kd Γ n) = (5 : Int32) from fun z => q ((ag_kI hk7 (b := 5) (by omega)).mp z)), aw_bd_s (ag_changed hw h hn)]
    have : ag_ch Γ n = ag_le Γ n := by
      unfold ag_ch
      by_cases z : ag_kd Γ n = 1 ∨ ag_kd Γ n = 2
      · rw [if_pos z]
      · rw [if_neg z]
        rcases hk with y | y | y | y | y | y | y
        · exact y.2.2.1.symm
        · omega
        · omega
        · exact y.2.2.1.symm
        · exact y.2.2.1.symm
        · omega
        · exact y.2.2.1.symm
    rw [this]
theorem q_node {a b : aw_S} (h : iq_P a b) (x y : Int32) : iq_e (m_Mo_node a x y) (m_Rf_node b x y) := by
  unfold m_Mo_node m_Rf_node
  rcases iq_nd h x with ⟨Γ, n, G, hn, rfl, e1, e2⟩ | ⟨e1, e2⟩
  · refine iq_bl e1 (iq_br e2 (iq_ln ao_n10 (iq_rn ao_n10 ?_)))
    have hN := G.1.1.1
    have A := G.2.1.1
    have B := G.2.2.1
    obtain ⟨a1, a2, a3, a4, a5⟩ := A.2.1 n hn
    obtain ⟨b1, b2⟩ := B.2.1 n hn
    simp (disch := omega) only [ao_mul2, nI_1, nI_clamp, ao_gdn]
    rw [a1, a2, a3, a5, b1, b2, (A.1.2.2.1 n hn).1, (A.1.2.2.1 n hn).2, B.1.2.2 (2 * n) (by omega), B.1.2.2 (2 * n + 1) (by omega), G.2.2.2.2.2.2.2.2.1 n hn]
    refine iq_if (fun _ => iq_r) (fun _ => iq_if (fun _ => iq_r) (fun _ => iq_if (fun _ => iq_br (ag_expressionOf G.1 B hn) iq_r) (fun _ => iq_if (fun _ => iq_br (iq_letterOf G.1 B hn) iq_r) (fun _ => iq_if (fun _ => iq_bl (ao_leads A.1 hn) ?_) (fun _ => iq_if (fun _ => iq_bl (ao_comes A.1 hn) (iq_q (congrArg nI (iq_len _ _ _ G.1.2.2.2.1)))) (fun _ => iq_if (fun _ => iq_r) (fun _ => iq_if (fun _ => iq_r) (fun _ => iq_r))))))))
    unfold m_Rf_node_J103 m_Rf_node_J122
    simp (disch := omega) only [ao_mul2, nI_1, nI_clamp, ao_gdn]
    rw [B.1.2.2 (2 * n + 1) (by omega)]
    have hz := A.1.1.2.2 n hn
    have ht := A.1.1.2.1
    unfold ao_sl
    cases e3 : ag_nx Γ (2 * n) with
    | none =>
      rw [hz e3]
      refine iq_rp rfl (iq_rp rfl ?_)
      exact iq_r
    | some t =>
      have h3 := ht _ (by omega) t e3
      refine iq_rn (ao_m1 (by omega)) ?_
      cases e4 : ag_nx Γ (2 * n + 1) with
      | none => exact iq_rp rfl iq_r
      | some u =>
        have h4 := ht _ (by omega) u e4
        exact iq_rn (ao_m1 (by omega)) iq_r
  · exact iq_bl e1 (iq_br e2 (iq_lp rfl (iq_rp rfl iq_r)))
/-! ===== live, over, depth, heads ===== -/
theorem q_live {a b : aw_S} (h : iq_P a b) (x : Int32) : iq_e (m_Mo_live a x) (m_Rf_live b x) := by
  unfold m_Mo_live m_Rf_live
  rcases iq_nd h x with ⟨Γ, n, G, hn, rfl, e1, e2⟩ | ⟨e1, e2⟩
  · refine iq_bl e1 (iq_br e2 (iq_ln ao_n10 (iq_rn ao_n10 ?_)))
    have hN := G.1.1.1
    simp (disch := omega) only [nI_clamp, ao_gdn]
    refine iq_q (ao_t_ext (fun v hv => ?_))
    exact (G.2.1.2.1.2.2.1 n hn v hv).trans (G.2.2.2.2.1 n hn v hv).symm
  · exact iq_bl e1 (iq_br e2 (iq_lp rfl (iq_rp rfl iq_r)))
theorem iq_oneIf (σ : aw_S) (p : Prop) : m_Mo_oneIf σ (ao_b p) = some (ao_b p) := by
  unfold m_Mo_oneIf
  by_cases q : p
  · rw [ao_b1 q, if_neg ao_n10]
  · rw [ao_b0 q, if_pos rfl]
theorem iq_if01 (p : Prop) : (if ao_b p = 0 then some (0 : Int32) else some (1 : Int32)) = some (ao_b p) := by
  by_cases q : p
  · rw [ao_b1 q, if_neg ao_n10]
  · rw [ao_b0 q, if_pos rfl]
theorem q_over {a b : aw_S} (h : iq_P a b) (x y : Int32) : iq_e (m_Mo_over a x y) (m_Rf_over b x y) := by
  unfold m_Mo_over m_Rf_over
  rcases iq_nd h x with ⟨Γ, n, G, hn, rfl, e1, e2⟩ | ⟨e1, e2⟩
  · refine iq_bl e1 (iq_br e2 (iq_ln ao_n10 (iq_rn ao_n10 ?_)))
    have hN := G.1.1.1
    have A := G.2.1.1
    have B := G.2.2.1
    by_cases q : ∃ m, m < ag_N Γ ∧ y = nI m
    · obtain ⟨m, hm, rfl⟩ := q
      refine iq_bl (ao_isNode A.1.2.1 hN hm) (iq_br (iq_node1 B.1.2.1 hm hN) (iq_ln ao_n10 (iq_rn ao_n10 ?_)))
      refine iq_bl (ag_isOverA hN G.2.1.2.2.1.1 (by omega) hm) (iq_br (ag_isOverB hN G.2.2.2.2.2.1 hn hm) ?_)
      rw [iq_if01]
      exact iq_bl (iq_oneIf _ _) iq_r
    · exact iq_bl (ao_isNode0 A.1.2.1 hN q) (iq_br (iq_node0 B.1.2.1 q hN) (iq_lp rfl (iq_rp rfl iq_r)))
  · exact iq_bl e1 (iq_br e2 (iq_lp rfl (iq_rp rfl iq_r)))
theorem q_depth {a b : aw_S} (h : iq_P a b) (x : Int32) : iq_e (m_Mo_depth a x) (m_Rf_depth b x) := by
  unfold m_Mo_depth m_Rf_depth
  rcases iq_nd h x with ⟨Γ, n, G, hn, rfl, e1, e2⟩ | ⟨e1, e2⟩
  · refine iq_bl e1 (iq_br e2 (iq_ln ao_n10 (iq_rn ao_n10 ?_)))
    have hN := G.1.1.1
    simp (disch := omega) only [nI_clamp, ao_gdn]
    exact iq_q ((G.2.1.2.2.1.2.1 n hn).trans (G.2.2.2.2.2.2.1 n hn).symm)
  · exact iq_bl e1 (iq_br e2 (iq_lp rfl (iq_rp rfl iq_r)))
theorem q_heads {a b : aw_S} (h : iq_P a b) : iq_e (m_Mo_heads a) (m_Rf_heads b) := by
  unfold m_Mo_heads m_Rf_heads
  rcases h with h | ⟨Γ, G⟩
  · exact iq_q (h.1.2.2.2.2.trans h.2.2.2.2.1.symm)
  · exact iq_q (G.2.1.2.2.1.2.2.trans G.2.2.2.2.2.2.2.1.symm)
/-! ===== fact, placed ===== -/
theorem iq_soB {b : aw_S} {Γ : ag_T} (G : ag_wf Γ) (B : ag_BA b Γ) {w e n : Nat} (hw : w < 8) (he : e < ag_X Γ) (hn : n < ag_N Γ) : m_Rf_so b (nI w) (nI e) (nI n) = some (ao_b (ag_F Γ e w n)) := by
  have hN := G.1.1
  have hX := G.2.2.2.2.2.2.1
  have := (B.2.1 e he).1 w hw n hn
  rw [ao_so hw (by omega) (by omega) (by rw [this]; exact ao_01_b _), this]
theorem iq_ao_b {x : Int32} {e X : Nat} {p : Prop} (h : ao_t x e ↔ e < X ∧ p) (he : e < X) : ao_b (ao_t x e) = ao_b p := ao_b_c (h.trans ⟨fun z => z.2, fun z => ⟨he, z⟩⟩)
theorem iq_factA (a : aw_S) {w e n X : Nat} (hw : w < 8) (he : e < X) (hX : X ≤ 24) : (if nI w = (0 : Int32) then aw_bd (m_Mo_bitOf a (a.1 47 n) (nI e)) (fun r9 => some r9) else if nI w = (1 : Int32) then aw_bd (m_Mo_bitOf a (a.1 48 n) (nI e)) (fun r13 => some r13) else if nI w = (2 : Int32) then aw_bd (m_Mo_bitOf a (a.1 49 n) (nI e)) (fun r17 => some r17) else if nI w = (3 : Int32) then aw_bd (m_Mo_bitOf a (a.1 50 n) (nI e)) (fun r21 => some r21) else if nI w = (4 : Int32) then aw_bd (m_Mo_bitOf a (a.1 51 n) (nI e)) (fun r25 => some r25) else if nI w = (5 : Int32) then aw_bd (m_Mo_bitOf a (a.1 52 n) (nI e)) (fun r29 => some r29) else if nI w = (6 : Int32) then aw_bd (m_Mo_bitOf a (a.1 53 n) (nI e)) (fun r33 => some r33) else if nI w = (7 : Int32) then aw_bd (m_Mo_bitOf a (a.1 54 n) (nI e)) (fun r37 => some r37) else some ((-1 : Int32))) = some (ao_b (ao_t (a.1 (47 + w) n) e)) := by
  have D : ∀ c, m_Mo_bitOf a (a.1 c n) (nI e) = some (ao_b (ao_t (a.1 c n) e)) := fun c => ag_bitOf a _ (by omega)
  rw [aw_bd_s (D 47), aw_bd_s (D 48), aw_bd_s (D 49), aw_bd_s (D 50), aw_bd_s (D 51), aw_bd_s (D 52), aw_bd_s (D 53), aw_bd_s (D 54)]
  rcases (show w = 0 ∨ w = 1 ∨ w = 2 ∨ w = 3 ∨ w = 4 ∨ w = 5 ∨ w = 6 ∨ w = 7 by omega) with rfl | rfl | rfl | rfl | rfl | rfl | rfl | rfl
  · rw [if_pos (by decide)]
  · rw [if_neg (by decide), if_pos (by decide)]
  · rw [if_neg (by decide), if_neg (by decide), if_pos (by decide)]
  · rw [if_neg (by decide), if_neg (by decide), if_neg (by decide), if_pos (by decide)]
  · rw [if_neg (by decide), if_neg (by decide), if_neg (by decide), if_neg (by decide), if_pos (by decide)]
  · rw [if_neg (by decide), if_neg (by decide), if_neg (by decide), if_neg (by decide), if_neg (by decide), if_pos (by decide)]
  · rw [if_neg (by decide), if_neg (by decide), if_neg (by decide), if_neg (by decide), if_neg (by decide), if_neg (by decide), if_pos (by decide)]
  · rw [if_neg (by decide), if_neg (by decide), if_neg (by decide), if_neg (by decide), if_neg (by decide), if_neg (by decide), if_neg (by decide), if_pos (by decide)]
theorem iq_placedA (a : aw_S) {o w e n X : Nat} (hw : w < 3) (he : e < X) (hX : X ≤ 24) : (if nI w = (0 : Int32) then aw_bd (m_Mo_bitOf a (a.1 (o + 1) n) (nI e)) (fun r9 => some r9) else if nI w = (1 : Int32) then aw_bd (m_Mo_bitOf a (a.1 (o + 2) n) (nI e)) (fun r13 => some r13) else if nI w = (2 : Int32) then aw_bd (m_Mo_bitOf a (a.1 (o + 3) n) (nI e)) (fun r17 => some r17) else some ((-1 : Int32))) = some (ao_b (ao_t (a.1 (o + 1 + w) n) e)) := by
  have D : ∀ c, m_Mo_bitOf a (a.1 c n) (nI e) = some (ao_b (ao_t (a.1 c n) e)) := fun c => ag_bitOf a _ (by omega)
  rw [aw_bd_s (D (o + 1)), aw_bd_s (D (o + 2)), aw_bd_s (D (o + 3))]
  rcases (show w = 0 ∨ w = 1 ∨ w = 2 by omega) with rfl | rfl | rfl
  · rw [if_pos (by decide)]
  · rw [if_neg (by decide), if_pos (by decide)]
  · rw [if_neg (by decide), if_neg (by decide), if_pos (by decide)]
theorem q_fact {a b : aw_S} (h : iq_P a b) (x y z : Int32) : iq_e (m_Mo_fact a x y z) (m_Rf_fact b x y z) := by
  unfold m_Mo_fact m_Rf_fact
  rcases iq_soOne h x with ⟨Γ, e, G, s, he, rfl, e1, e2, e3⟩ | ⟨e1, e2⟩
  · refine iq_bl e1 (iq_ln ao_n10 (iq_rn (by rw [e2]; decide) (iq_br e3 (iq_rn ao_n10 ?_))))
    have hN := G.1.1.1
    have hX := G.1.2.2.2.2.2.2.1
    have A := G.2.1.1
    have B := G.2.2.1
    by_cases q : ∃ m, m < ag_N Γ ∧ y = nI m
    · obtain ⟨n, hn, rfl⟩ := q
      refine iq_bl (ao_isNode A.1.2.1 hN hn) (iq_br (iq_node1 B.1.2.1 hn hN) (iq_ln ao_n10 (iq_rn ao_n10 ?_)))
      by_cases q : ∃ w, w < 8 ∧ z = nI w
      · obtain ⟨w, hw, rfl⟩ := q
        refine iq_br (iq_isIn1 b (N := 8) (by decide) hw (by omega)) (iq_rn ao_n10 (iq_br (iq_soB G.1 G.2.2 hw he hn) ?_))
        rw [iq_if01]
        simp (disch := omega) only [nI_clamp, ao_gdn]
        rw [iq_factA a hw he (by omega)]
        exact iq_q (iq_ao_b (G.2.1.2.1.1 w hw n hn e (by omega)) he)
      · refine iq_br (iq_isIn0 b (N := 8) (by decide) q (by omega)) (iq_rp rfl ?_)
        have ne : ∀ w, w < 8 → ¬ z = nI w := fun w hw e => q ⟨w, hw, e⟩
        refine iq_ln (ne 0 (by omega)) (iq_ln (ne 1 (by omega)) (iq_ln (ne 2 (by omega)) (iq_ln (ne 3 (by omega)) (iq_ln (ne 4 (by omega)) (iq_ln (ne 5 (by omega)) (iq_ln (ne 6 (by omega)) (iq_ln (ne 7 (by omega)) iq_r)))))))
    · exact iq_bl (ao_isNode0 A.1.2.1 hN q) (iq_br (iq_node0 B.1.2.1 q hN) (iq_lp rfl (iq_rp rfl iq_r)))
  · refine iq_bl e1 (iq_lp rfl ?_)
    rcases e2 with e2 | ⟨e2, e3⟩
    · exact iq_rp e2 iq_r
    · exact iq_rn (by rw [e2]; decide) (iq_br e3 (iq_rp rfl iq_r))
theorem iq_plB {b : aw_S} {Γ : ag_T} (G : ag_wf Γ) (B : ag_BA b Γ) {how : Bool} {w e n : Nat} (hw : w < 3) (he : e < ag_X Γ) (hn : n < ag_N Γ) : m_Rf_at b (iq_hI how) (nI w) (nI e) (nI n) = some (nI (ao_c (3 * ag_hi how + w) e + n)) ∧ ao_c (3 * ag_hi how + w) e + n < 16128 ∧ b.1 13 (ao_c (3 * ag_hi how + w) e + n) = ao_b (ag_P Γ e how w n) := by
  have hN := G.1.1
  have hX := G.2.2.2.2.2.2.1
  refine ⟨by rw [iq_hI_n]; exact ao_at, ?_, (B.2.1 e he).2 how w hw n hn⟩
  unfold ao_c
  cases how
  · show 112 * (24 * (3 * 1 + w) + e) + n < 16128
    omega
  · show 112 * (24 * (3 * 0 + w) + e) + n < 16128
    omega
theorem q_placed {a b : aw_S} (h : iq_P a b) (x y u z : Int32) : iq_e (m_Mo_placed a x y u z) (m_Rf_placed b x y u z) := by
  unfold m_Mo_placed m_Rf_placed
  rcases iq_soOne h x with ⟨Γ, e, G, s, he, rfl, e1, e2, e3⟩ | ⟨e1, e2⟩
  · refine iq_bl e1 (iq_ln ao_n10 (iq_rn (by rw [e2]; decide) (iq_br e3 (iq_rn ao_n10 ?_))))
    have hN := G.1.1.1
    have hX := G.1.2.2.2.2.2.2.1
    have A := G.2.1.1
    have B := G.2.2.1
    have a12 : a.1 41 12 = 1 := by have := G.2.1.2.1.2.2.2; rw [this, ao_b1 s]
    by_cases q : ∃ m, m < ag_N Γ ∧ y = nI m
    · obtain ⟨n, hn, rfl⟩ := q
      refine iq_bl (ao_isNode A.1.2.1 hN hn) (iq_br (iq_node1 B.1.2.1 hn hN) (iq_ln ao_n10 (iq_rn ao_n10 ?_)))
      rcases iq_how u with ⟨how, rfl⟩ | ⟨u0, u1⟩
      · refine iq_bl (iq_isMoved1 a12 how) (iq_ln ao_n10 (iq_bl (iq_by a how) (iq_br (iq_isHow1 b how) (iq_rn ao_n10 ?_))))
        by_cases q : ∃ w, w < 3 ∧ z = nI w
        · obtain ⟨w, hw, rfl⟩ := q
          obtain ⟨p1, p2, p3⟩ := iq_plB (how := how) G.1 G.2.2 hw he hn
          refine iq_br (iq_isIn1 b (N := 3) (by decide) hw (by omega)) (iq_rn ao_n10 (iq_br p1 ?_))
          simp (disch := omega) only [nI_clamp, ao_gdn]
          rw [p3, iq_if01]
          have PA : ag_PA a Γ how := by cases how; exact G.2.1.2.2.2.2; exact G.2.1.2.2.2.1
          rw [iq_placedA a hw he (by omega)]
          exact iq_q (iq_ao_b (PA.1 w hw n hn e (by omega)) he)
        · refine iq_br (iq_isIn0 b (N := 3) (by decide) q (by omega)) (iq_rp rfl ?_)
          have ne : ∀ w, w < 3 → ¬ z = nI w := fun w hw e => q ⟨w, hw, e⟩
          exact iq_ln (ne 0 (by omega)) (iq_ln (ne 1 (by omega)) (iq_ln (ne 2 (by omega)) iq_r))
      · exact iq_bl (iq_isMoved0 (Or.inr ⟨u0, u1⟩)) (iq_lp rfl (iq_br (iq_isHow0 b u0 u1) (iq_rp rfl iq_r)))
    · exact iq_bl (ao_isNode0 A.1.2.1 hN q) (iq_br (iq_node0 B.1.2.1 q hN) (iq_lp rfl (iq_rp rfl iq_r)))
  · refine iq_bl e1 (iq_lp rfl ?_)
    rcases e2 with e2 | ⟨e2, e3⟩
    · exact iq_rp e2 iq_r
    · exact iq_rn (by rw [e2]; decide) (iq_br e3 (iq_rp rfl iq_r))
/-! ===== expression, risky ===== -/
theorem iq_nw {a : aw_S} {Γ : ag_T} (G : ag_wf Γ) (A : ag_A a Γ) {c e : Nat} {P : Nat → Nat → Prop} (h : ag_bt a c Γ P) (he : e < ag_X Γ) : m_Gr_nodesWith a c ((1 : Int32) <<< (nI e &&& 31)) = some (nI (ao_n (P e) (ag_N Γ))) := by
  have hX := G.2.2.2.2.2.2.1
  rw [ag_nodesWith G.1.1 A.1.2.1]
  refine congrArg (fun z => some (nI z)) (ao_n_c (fun n hn => ?_))
  have := h n hn e (by omega)
  constructor
  · intro z
    refine Classical.byContradiction fun y => z (ao_t_nz.mpr fun i hi w => ?_)
    rw [ao_t_and, ao_t_one (by omega) hi] at w
    obtain ⟨w1, w2⟩ := w
    subst w2
    exact y (this.mp w1).2
  · intro z y
    have w := ao_t_nz.mp y e (by omega)
    rw [ao_t_and, ao_t_one (by omega) (by omega)] at w
    exact w ⟨this.mpr ⟨he, z⟩, rfl⟩
theorem iq_n_not (P : Nat → Prop) (n : Nat) : ao_n (fun k => ¬ P k) n + ao_n P n = n := by
  induction n with
  | zero => rfl
  | succ n ih =>
    by_cases q : P n
    · rw [ao_n_s1 q, ao_n_s0 (fun z => z q)]; omega
    · rw [ao_n_s0 q, ao_n_s1 (X := fun k => ¬ P k) q]; omega
theorem q_expression {a b : aw_S} (h : iq_P a b) (x y : Int32) : iq_e (m_Mo_expression a x y) (m_Rf_expression b x y) := by
  unfold m_Mo_expression m_Rf_expression
  rcases iq_xp h x with ⟨Γ, e, G, he, rfl, e1, e2⟩ | ⟨e1, e2⟩
  · refine iq_bl e1 (iq_br e2 (iq_ln ao_n10 (iq_rn ao_n10 ?_)))
    have hN := G.1.1.1
    have hX := G.1.2.2.2.2.2.2.1
    have A := G.2.1.1
    have B := G.2.2.1
    obtain ⟨a1, a2, a3⟩ := A.2.2.2.2.1 e he
    obtain ⟨b1, b2, b3⟩ := B.2.2.2.2.2.2.2.1 e he
    simp (disch := omega) only [nI_clamp, ao_gdn]
    refine iq_if (fun _ => ?_) (fun _ => iq_if (fun z => ?_) (fun _ => iq_if (fun z => ?_) (fun _ => iq_if (fun _ => ?_) (fun _ => iq_if (fun z => ?_) (fun _ => iq_if (fun z => ?_) (fun _ => iq_r))))))
    · rw [show (268 : Int32) = nI 268 from rfl, nI_add]
      exact iq_br (ag_get (by omega)) (iq_q (a1.trans b1.symm))
    · subst z
      unfold m_Rf_expression_J62
      rw [show (292 : Int32) = nI 292 from rfl, ao_mul2, nI_add, nI_1, show (1 : Int32) = nI 1 from rfl, pk_sub (by omega), show 292 + 2 * e + 1 - 1 = 292 + 2 * e by omega]
      exact iq_br (ag_get (by omega)) (iq_q (a2.trans b2.symm))
    · subst z
      unfold m_Rf_expression_J62
      rw [show (292 : Int32) = nI 292 from rfl, ao_mul2, nI_add, show (2 : Int32) = nI 2 from rfl, nI_add, show (1 : Int32) = nI 1 from rfl, pk_sub (by omega), show 292 + 2 * e + 2 - 1 = 293 + 2 * e by omega]
      exact iq_br (ag_get (by omega)) (iq_q (a3.trans b3.symm))
    · refine iq_bl (ag_riskyA G.1 A he) (iq_bl (iq_oneIf _ _) (iq_br (ag_isRisky G.1 B he) ?_))
      rw [iq_if01]
      exact iq_r
    · subst z
      refine iq_bl (iq_nw G.1 A (G.2.1.2.1.1 0 (by omega)) he) ?_
      unfold m_Rf_expression_J92
      refine iq_br (iq_lpf (fun k => nI (ao_n (ag_F Γ e 0) k)) (N := ag_N Γ) (by omega) (fun k hk => ?_) ?_ rfl) iq_r
      · show m_Rf_expression_B95 b (nI e) 4 (nI (ao_n (ag_F Γ e 0) k)) (nI k) = _
        unfold m_Rf_expression_B95 m_Rf_expression_J125 m_Rf_expression_J133
        rw [B.1.2.1, if_neg (nI_ge hk (by omega)), show (4 : Int32) - 4 = nI 0 from by decide, aw_bd_s (iq_soB G.1 G.2.2 (by omega) he hk), if_pos rfl, ao_ltr, ao_ltr, ao_ltr, ao_ltr, nI_1]
        by_cases q : ag_F Γ e 0 k
        · rw [ao_b1 q, if_pos rfl, nI_1, ao_n_s1 q]
        · rw [ao_b0 q, if_neg (by decide), Int32.add_zero, nI_1, ao_n_s0 q]
      · show m_Rf_expression_B95 b (nI e) 4 (nI (ao_n (ag_F Γ e 0) (ag_N Γ))) (nI (ag_N Γ)) = _
        unfold m_Rf_expression_B95
        rw [B.1.2.1, if_pos (nI_le (Nat.le_refl _) (by omega))]
    · subst z
      refine iq_bl (iq_nw G.1 A (G.2.1.2.1.1 1 (by omega)) he) ?_
      unfold m_Rf_expression_J92
      refine iq_br (iq_lpf (fun k => nI (ao_n (fun n => ¬ ag_F Γ e 1 n) k)) (N := ag_N Γ) (by omega) (fun k hk => ?_) ?_ rfl) ?_
      · show m_Rf_expression_B95 b (nI e) 5 (nI (ao_n (fun n => ¬ ag_F Γ e 1 n) k)) (nI k) = _
        unfold m_Rf_expression_B95 m_Rf_expression_J125 m_Rf_expression_J133
        rw [B.1.2.1, if_neg (nI_ge hk (by omega)), show (5 : Int32) - 4 = nI 1 from by decide, aw_bd_s (iq_soB G.1 G.2.2 (by omega) he hk), if_neg (by decide), ao_ltr, ao_ltr, ao_ltr, ao_ltr]
        by_cases q : ag_F Γ e 1 k
        · rw [ao_b1 q, if_neg ao_n10, Int32.add_zero, nI_1, ao_n_s0 (X := fun n => ¬ ag_F Γ e 1 n) (fun z => z q)]
        · rw [ao_b0 q, if_pos rfl, nI_1, nI_1, ao_n_s1 (X := fun n => ¬ ag_F Γ e 1 n) q]
      · show m_Rf_expression_B95 b (nI e) 5 (nI (ao_n (fun n => ¬ ag_F Γ e 1 n) (ag_N Γ))) (nI (ag_N Γ)) = _
        unfold m_Rf_expression_B95
        rw [B.1.2.1, if_pos (nI_le (Nat.le_refl _) (by omega))]
      · have := iq_n_not (ag_F Γ e 1) (ag_N Γ)
        rw [A.1.2.1, pk_sub (by have := ao_n_le (ag_F Γ e 1) (ag_N Γ); exact this)]
        exact iq_q (congrArg nI (by show ag_N Γ - ao_n (ag_F Γ e 1) (ag_N Γ) = _; omega))
  · exact iq_bl e1 (iq_br e2 (iq_lp rfl (iq_rp rfl iq_r)))

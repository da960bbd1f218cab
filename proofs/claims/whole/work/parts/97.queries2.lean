/-! ===== QUERIES: risky, is ===== -/
theorem q_risky {a b : aw_S} (h : iq_P a b) : iq_e (m_Mo_risky a) (m_Rf_risky b) := by
  unfold m_Mo_risky m_Rf_risky
  rcases h with h | ⟨Γ, G⟩
  · refine iq_bl (iq_lpf (fun _ => 0) (N := 0) (by omega) (fun k hk => absurd hk (Nat.not_lt_zero _)) ?_ rfl) (iq_br (iq_lpf (fun _ => 0) (N := 0) (by omega) (fun k hk => absurd hk (Nat.not_lt_zero _)) ?_ rfl) iq_r)
    · show m_Mo_risky_B4 a 0 (nI 0) = _
      unfold m_Mo_risky_B4
      rw [h.1.2.2.1, if_pos (by decide)]
    · show m_Rf_risky_B4 b 0 (nI 0) = _
      unfold m_Rf_risky_B4
      rw [show (2 : Int32) = nI 2 from rfl, aw_bd_s (ag_get (by omega)), h.2.2.2.2.2, if_pos (by decide)]
  · have hX := G.1.2.2.2.2.2.2.1
    have A := G.2.1.1
    have B := G.2.2.1
    refine iq_bl (iq_lpf (fun k => nI (ao_n (ag_RI Γ) k)) (N := ag_X Γ) (by omega) (fun k hk => ?_) ?_ rfl) (iq_br (iq_lpf (fun k => nI (ao_n (ag_RI Γ) k)) (N := ag_X Γ) (by omega) (fun k hk => ?_) ?_ rfl) iq_r)
    · show m_Mo_risky_B4 a (nI (ao_n (ag_RI Γ) k)) (nI k) = _
      unfold m_Mo_risky_B4
      rw [A.2.2.2.1, if_neg (nI_ge hk (by omega)), aw_bd_s (ag_riskyA G.1 A hk), aw_bd_s (iq_oneIf _ _), ao_ltr, ao_ltr, iq_n_s, nI_1]
    · show m_Mo_risky_B4 a (nI (ao_n (ag_RI Γ) (ag_X Γ))) (nI (ag_X Γ)) = _
      unfold m_Mo_risky_B4
      rw [A.2.2.2.1, if_pos (nI_le (Nat.le_refl _) (by omega))]
    · show m_Rf_risky_B4 b (nI (ao_n (ag_RI Γ) k)) (nI k) = _
      unfold m_Rf_risky_B4 m_Rf_risky_J27
      rw [show (2 : Int32) = nI 2 from rfl, aw_bd_s (ag_get (by omega)), B.2.2.2.2.2.2.1, if_neg (nI_ge hk (by omega)), aw_bd_s (ag_isRisky G.1 B hk)]
      by_cases q : ag_RI Γ k
      · rw [ao_b1 q, if_neg ao_n10, ao_ltr, ao_ltr, nI_1, nI_1, ao_n_s1 q]
      · rw [ao_b0 q, if_pos rfl, ao_ltr, ao_ltr, Int32.add_zero, nI_1, ao_n_s0 q]
    · show m_Rf_risky_B4 b (nI (ao_n (ag_RI Γ) (ag_X Γ))) (nI (ag_X Γ)) = _
      unfold m_Rf_risky_B4
      rw [show (2 : Int32) = nI 2 from rfl, aw_bd_s (ag_get (by omega)), B.2.2.2.2.2.2.1, if_pos (nI_le (Nat.le_refl _) (by omega))]
/-- edges, counted by places and by nodes -/
theorem iq_dbl (Q : Nat → Prop) (N : Nat) : iq_s (fun n => ao_n (fun j => Q (2 * n + j)) 2) N = ao_n Q (2 * N) := by
  induction N with
  | zero => rfl
  | succ N ih =>
    show iq_s _ N + ao_n (fun j => Q (2 * N + j)) 2 = ao_n Q (2 * N + 1 + 1)
    rw [ih]
    show _ + (0 + @ite _ (Q (2 * N)) (Classical.propDecidable _) 1 0 + @ite _ (Q (2 * N + 1)) (Classical.propDecidable _) 1 0) = ao_n Q (2 * N) + @ite _ (Q (2 * N)) (Classical.propDecidable _) 1 0 + @ite _ (Q (2 * N + 1)) (Classical.propDecidable _) 1 0
    omega
theorem iq_n_one {t N : Nat} : ao_n (fun n => n = t) N = if t < N then 1 else 0 := by
  induction N with
  | zero => rfl
  | succ N ih =>
    by_cases q : N = t
    · rw [ao_n_s1 (X := fun n => n = t) q, ih, if_neg (by omega), if_pos (by omega)]
    · rw [ao_n_s0 (X := fun n => n = t) q, ih]
      by_cases w : t < N
      · rw [if_pos w, if_pos (by omega)]
      · rw [if_neg w, if_neg (by omega)]
theorem iq_opt {x : Option Nat} {N : Nat} (hx : ∀ t, x = some t → t < N) : ao_n (fun n => x = some n) N = @ite _ (x ≠ none) (Classical.propDecidable _) 1 0 := by
  cases x with
  | none =>
    rw [if_neg (fun y => y rfl)]
    rw [ao_n_c (Y := fun n => n = N) (fun k hk => ⟨fun z => (by cases z), fun z => absurd z (by omega)⟩), iq_n_one, if_neg (by omega)]
  | some t =>
    rw [if_pos (by simp), ao_n_c (Y := fun n => n = t) (fun k hk => ⟨fun z => (Option.some.inj z).symm, fun z => by rw [z]⟩), iq_n_one, if_pos (hx t rfl)]
theorem iq_edges {N : Nat} {nx : Nat → Option Nat} (hT : ao_tp N nx) : iq_s (fun n => (ao_sl nx n).length) N = iq_s (fun n => ao_n (fun k => nx k = some n) (2 * N)) N := by
  rw [iq_s_c (g' := fun n => ao_n (fun j => nx (2 * n + j) ≠ none) 2) (fun n hn => iq_sll hT hn), iq_dbl (fun k => nx k ≠ none)]
  rw [iq_s_c (g' := fun n => iq_s (fun k => @ite _ (nx k = some n) (Classical.propDecidable _) 1 0) (2 * N)) (fun n hn => (iq_s_n _ _).symm), iq_s_sw]
  rw [iq_s_c (g' := fun k => @ite _ (nx k ≠ none) (Classical.propDecidable _) 1 0) (fun k hk => ?_), iq_s_n]
  rw [iq_s_n]
  exact iq_opt (fun t e => hT.2.1 k hk t e)
theorem iq_countA {a : aw_S} {Γ : ag_T} (G : ag_wf Γ) (A : ag_A a Γ) {k : Nat} (hk : k < 7) : m_Gr_countOf a (nI k) = some (nI (ao_n (fun n => ag_kd Γ n = k) (ag_N Γ))) := by
  have hN := G.1.1
  unfold m_Gr_countOf
  refine aw_bd_s (iq_lpf (fun j => nI (ao_n (fun n => ag_kd Γ n = k) j)) (N := ag_N Γ) (by omega) (fun j hj => ?_) ?_ rfl)
  · show m_Gr_countOf_B4 a (nI k) (nI (ao_n (fun n => ag_kd Γ n = k) j)) (nI j) = _
    unfold m_Gr_countOf_B4 m_Gr_countOf_J28 m_Mo_oneIf
    have hk7 := ag_kd_lt (G.2.2.2.2.2.1 j hj)
    rw [A.1.2.1, if_neg (nI_ge hj (by omega)), ao_gdn (by omega) (by omega), nI_clamp (by omega), (A.2.1 j hj).1]
    by_cases q : ag_kd Γ j = k
    · rw [if_pos (congrArg nI q), if_neg ao_n10, aw_bd_s rfl, ao_ltr, ao_ltr, nI_1, nI_1, ao_n_s1 (X := fun n => ag_kd Γ n = k) q]
    · rw [if_neg (fun z => q ((ag_kI hk7 hk).mp z)), if_pos rfl, aw_bd_s rfl, ao_ltr, ao_ltr, Int32.add_zero, nI_1, ao_n_s0 (X := fun n => ag_kd Γ n = k) q]
  · show m_Gr_countOf_B4 a (nI k) (nI (ao_n (fun n => ag_kd Γ n = k) (ag_N Γ))) (nI (ag_N Γ)) = _
    unfold m_Gr_countOf_B4
    rw [A.1.2.1, if_pos (nI_le (Nat.le_refl _) (by omega))]
theorem iq_countB {b : aw_S} {Γ : ag_T} (G : ag_wf Γ) (B : ag_B b Γ) : m_Rf_countNodes b 0 = some (nI (ao_n (fun n => ag_kd Γ n = 0) (ag_N Γ))) ∧ m_Rf_countNodes b (-1) = some (nI (ao_n (fun n => ag_kd Γ n = 6) (ag_N Γ))) := by
  have hN := G.1.1
  have hJ : ∀ (x : Int32) (P : Nat → Prop) j, (P j → m_Rf_countNodes_J49 b x (nI j) (nI (ao_n P j)) 1 = some (.inr (nI (ao_n P (j + 1)), nI (j + 1)))) ∧ (¬ P j → m_Rf_countNodes_J49 b x (nI j) (nI (ao_n P j)) 0 = some (.inr (nI (ao_n P (j + 1)), nI (j + 1)))) := by
    intro x P j
    unfold m_Rf_countNodes_J49
    exact ⟨fun q => by rw [ao_ltr, ao_ltr, nI_1, nI_1, ao_n_s1 q], fun q => by rw [ao_ltr, ao_ltr, Int32.add_zero, nI_1, ao_n_s0 q]⟩
  refine ⟨?_, ?_⟩
  · unfold m_Rf_countNodes
    refine aw_bd_s (iq_lpf (fun j => nI (ao_n (fun n => ag_kd Γ n = 0) j)) (N := ag_N Γ) (by omega) (fun j hj => ?_) ?_ rfl)
    · show m_Rf_countNodes_B4 b 0 (nI (ao_n (fun n => ag_kd Γ n = 0) j)) (nI j) = _
      unfold m_Rf_countNodes_B4
      have hk7 := ag_kd_lt (G.2.2.2.2.2.1 j hj)
      rw [B.1.2.1, if_neg (nI_ge hj (by omega)), if_neg (by decide), ao_gdn (by omega) (by omega), nI_clamp (by omega), (B.2.1 j hj).1]
      by_cases q : ag_kd Γ j = 0
      · rw [if_pos (by rw [q]; rfl)]; exact (hJ 0 (fun n => ag_kd Γ n = 0) j).1 q
      · rw [if_neg (show ¬ nI (ag_kd Γ j) = (0 : Int32) from fun z => q ((ag_kI hk7 (b := 0) (by omega)).mp z))]; exact (hJ 0 (fun n => ag_kd Γ n = 0) j).2 q
    · show m_Rf_countNodes_B4 b 0 _ (nI (ag_N Γ)) = _
      unfold m_Rf_countNodes_B4
      rw [B.1.2.1, if_pos (nI_le (Nat.le_refl _) (by omega))]
  · unfold m_Rf_countNodes
    refine aw_bd_s (iq_lpf (fun j => nI (ao_n (fun n => ag_kd Γ n = 6) j)) (N := ag_N Γ) (by omega) (fun j hj => ?_) ?_ rfl)
    · show m_Rf_countNodes_B4 b (-1) (nI (ao_n (fun n => ag_kd Γ n = 6) j)) (nI j) = _
      unfold m_Rf_countNodes_B4
      rw [B.1.2.1, if_neg (nI_ge hj (by omega)), if_pos rfl, aw_bd_s (ao_isLast B.1 hj)]
      have hk : ag_nx Γ (2 * j) = none ↔ ag_kd Γ j = 6 := by
        rcases G.2.2.2.2.2.1 j hj with z | z | z | z | z | z | z
        · exact ⟨fun y => absurd y z.2.2.2.2.2.1, fun y => by omega⟩
        · exact ⟨fun y => absurd y z.2.2.2.2.2.1, fun y => by omega⟩
        · exact ⟨fun y => absurd y z.2.2.2.2.2.1, fun y => by omega⟩
        · exact ⟨fun y => absurd y z.2.2.2.2.2.1, fun y => by omega⟩
        · exact ⟨fun y => absurd y z.2.2.2.2.2.1, fun y => by omega⟩
        · exact ⟨fun y => absurd y z.2.2.2.2.2.1, fun y => by omega⟩
        · exact ⟨fun _ => z.1, fun _ => z.2.2.2.2.2.1⟩
      by_cases q : ag_kd Γ j = 6
      · rw [ao_b1 (hk.mpr q), if_neg ao_n10]; exact (hJ (-1) (fun n => ag_kd Γ n = 6) j).1 q
      · rw [ao_b0 (fun z => q (hk.mp z)), if_pos rfl]; exact (hJ (-1) (fun n => ag_kd Γ n = 6) j).2 q
    · show m_Rf_countNodes_B4 b (-1) _ (nI (ag_N Γ)) = _
      unfold m_Rf_countNodes_B4
      rw [B.1.2.1, if_pos (nI_le (Nat.le_refl _) (by omega))]
theorem iq_edgesA {a : aw_S} {Γ : ag_T} (G : ag_wf Γ) (A : ag_A a Γ) : m_Gr_edges a = some (nI (iq_s (fun n => (ao_sl (ag_nx Γ) n).length) (ag_N Γ))) := by
  have hN := G.1.1
  unfold m_Gr_edges
  refine aw_bd_s (iq_lpf (fun j => nI (iq_s (fun n => (ao_sl (ag_nx Γ) n).length) j)) (N := ag_N Γ) (by omega) (fun j hj => ?_) ?_ rfl)
  · show m_Gr_edges_B4 a (nI (iq_s (fun n => (ao_sl (ag_nx Γ) n).length) j)) (nI j) = _
    unfold m_Gr_edges_B4
    rw [A.1.2.1, if_neg (nI_ge hj (by omega)), aw_bd_s (ao_leads A.1 hj), ao_ltr, ao_ltr, nI_add, nI_1]
    rfl
  · show m_Gr_edges_B4 a _ (nI (ag_N Γ)) = _
    unfold m_Gr_edges_B4
    rw [A.1.2.1, if_pos (nI_le (Nat.le_refl _) (by omega))]
theorem iq_edgesB {b : aw_S} {Γ : ag_T} (G : ag_wf Γ) (B : ag_BA b Γ) : m_Rf_edges b = some (nI (iq_s (fun n => ao_n (fun k => ag_nx Γ k = some n) (2 * ag_N Γ)) (ag_N Γ))) := by
  have hN := G.1.1
  unfold m_Rf_edges
  refine aw_bd_s (iq_lpf (fun j => nI (iq_s (fun n => ao_n (fun k => ag_nx Γ k = some n) (2 * ag_N Γ)) j)) (N := ag_N Γ) (by omega) (fun j hj => ?_) ?_ rfl)
  · show m_Rf_edges_B4 b (nI (iq_s (fun n => ao_n (fun k => ag_nx Γ k = some n) (2 * ag_N Γ)) j)) (nI j) = _
    unfold m_Rf_edges_B4
    rw [B.1.1.2.1, if_neg (nI_ge hj (by omega)), ao_gdn (by omega) (by omega), nI_clamp (by omega), B.2.2.2.2.2.2.1 j hj, ao_ltr, ao_ltr, nI_add, nI_1]
    rfl
  · show m_Rf_edges_B4 b _ (nI (ag_N Γ)) = _
    unfold m_Rf_edges_B4
    rw [B.1.1.2.1, if_pos (nI_le (Nat.le_refl _) (by omega))]
theorem iq_0countA {a : aw_S} (h : a.1 24 13 = 0) (k : Int32) : m_Gr_countOf a k = some 0 ∧ m_Gr_edges a = some 0 := by
  unfold m_Gr_countOf m_Gr_edges
  refine ⟨aw_bd_s (iq_lpf (fun _ => 0) (N := 0) (by omega) (fun k hk => absurd hk (Nat.not_lt_zero _)) ?_ rfl), aw_bd_s (iq_lpf (fun _ => 0) (N := 0) (by omega) (fun k hk => absurd hk (Nat.not_lt_zero _)) ?_ rfl)⟩
  · show m_Gr_countOf_B4 a k 0 (nI 0) = _
    unfold m_Gr_countOf_B4
    rw [h, if_pos (by decide)]
  · show m_Gr_edges_B4 a 0 (nI 0) = _
    unfold m_Gr_edges_B4
    rw [h, if_pos (by decide)]
theorem iq_0countB {b : aw_S} (h : b.1 0 14 = 0) (k : Int32) : m_Rf_countNodes b k = some 0 ∧ m_Rf_edges b = some 0 := by
  unfold m_Rf_countNodes m_Rf_edges
  refine ⟨aw_bd_s (iq_lpf (fun _ => 0) (N := 0) (by omega) (fun k hk => absurd hk (Nat.not_lt_zero _)) ?_ rfl), aw_bd_s (iq_lpf (fun _ => 0) (N := 0) (by omega) (fun k hk => absurd hk (Nat.not_lt_zero _)) ?_ rfl)⟩
  · show m_Rf_countNodes_B4 b k 0 (nI 0) = _
    unfold m_Rf_countNodes_B4
    rw [h, if_pos (by decide)]
  · show m_Rf_edges_B4 b 0 (nI 0) = _
    unfold m_Rf_edges_B4
    rw [h, if_pos (by decide)]
theorem q_is {a b : aw_S} (h : iq_P a b) (ht : a.1 1 1 = b.1 0 2) (x : Int32) : iq_e (m_Mo_is a x) (m_Rf_is b x) := by
  unfold m_Mo_is m_Rf_is m_Te_size
  refine iq_if (fun _ => ?_) (fun _ => iq_if (fun _ => ?_) (fun _ => iq_if (fun _ => ?_) (fun _ => iq_if (fun _ => ?_) (fun _ => iq_if (fun _ => ?_) (fun _ => iq_if (fun _ => ?_) (fun _ => iq_if (fun _ => ?_) (fun _ => iq_if (fun _ => iq_bl rfl (iq_q ht)) (fun _ => iq_r))))))))
  · rcases h with h | ⟨Γ, G⟩
    · rw [h.2.2.1]
      exact iq_rp rfl (iq_q h.1.2.1)
    · rw [G.2.2.2.2.2.2.2.2.2.2]
      exact iq_rn ao_n10 (iq_br (show m_Rf_get b 0 = some (nI (ag_nb Γ)) by rw [show (0 : Int32) = nI 0 from rfl, ag_get (by omega), G.2.2.1.2.2.2.2.2.2.2.2]) (iq_q G.2.1.1.2.2.2.2.2))
  · obtain ⟨N, X, hN, hX, e1, e2, e3, e4, _⟩ := iq_N h
    exact iq_q (e1.trans e2.symm)
  · obtain ⟨N, X, hN, hX, e1, e2, e3, e4, _⟩ := iq_N h
    exact iq_br (show m_Rf_get b 2 = some (nI X) by rw [show (2 : Int32) = nI 2 from rfl, ag_get (by omega), e4]) (iq_q e3)
  · rcases h with h | ⟨Γ, G⟩
    · exact iq_bl (iq_0countA h.1.1 0).2 (iq_br (iq_0countB h.2.1 0).2 iq_r)
    · exact iq_bl (iq_edgesA G.1 G.2.1.1) (iq_br (iq_edgesB G.1 G.2.2) (iq_q (congrArg nI (iq_edges G.1.1))))
  · rcases h with h | ⟨Γ, G⟩
    · exact iq_bl (iq_0countA h.1.1 0).1 (iq_br (iq_0countB h.2.1 0).1 iq_r)
    · exact iq_bl (iq_countA (k := 0) G.1 G.2.1.1 (by omega)) (iq_br (iq_countB G.1 G.2.2.1).1 iq_r)
  · rcases h with h | ⟨Γ, G⟩
    · rw [h.1.2.2.2.1, h.2.2.1]
      exact iq_bl (show m_Mo_oneIf a 0 = some 0 by unfold m_Mo_oneIf; rw [if_pos rfl]) (iq_rp rfl iq_r)
    · rw [G.2.2.2.2.2.2.2.2.2.2, G.2.1.2.1.2.2.2, G.2.2.2.2.2.2.2.2.2.1]
      refine iq_bl (iq_oneIf _ _) (iq_rn ao_n10 ?_)
      rw [iq_if01]
      exact iq_r
  · rcases h with h | ⟨Γ, G⟩
    · exact iq_bl (iq_0countA h.1.1 6).1 (iq_br (iq_0countB h.2.1 (-1)).1 iq_r)
    · exact iq_bl (iq_countA (k := 6) G.1 G.2.1.1 (by omega)) (iq_br (iq_countB G.1 G.2.2.1).2 iq_r)

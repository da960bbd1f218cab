/-! ===== the class: settle, whole ===== -/
/-- what settle may move -/
def ap_sf (σ s : aw_S) : Prop := s.2.2 = σ.2.2 ∧ (∀ k, k ≠ 59 → k ≠ 60 → s.2.1 k = σ.2.1 k) ∧ (∀ k, k ≠ 0 → k ≠ 3 → k ≠ 4 → k ≠ 105 → (k < 24 ∨ 62 < k) → (k < 69 ∨ 80 < k) → s.1 k = σ.1 k) ∧ (∀ j, j ≠ 18 → s.1 0 j = σ.1 0 j) ∧ ∀ j, j ≠ 6 → s.1 105 j = σ.1 105 j
/-- all that the class holds of a graph -/
def ag_AA (s : aw_S) (Γ : ag_T) : Prop := ag_A s Γ ∧ ag_FA s Γ ∧ ag_LA s Γ ∧ ag_PA s Γ true ∧ ag_PA s Γ false
set_option maxHeartbeats 4000000 in
theorem ap_settle {σ : aw_S} {Ψ : ap_T} (hw : ap_wf Ψ) (h : ap_rd σ Ψ) (hb : ∀ i, i < 800 → fits .byte (.int (σ.1 10 i)) = true) : ao_ok (m_Mo_settle σ) (fun s => ap_sf σ s ∧ ag_AA s (ap_gr Ψ) ∧ s.1 0 18 = 0 ∧ s.1 105 6 = 0 ∧ s.1 3 1 = σ.1 9 1 ∧ ∀ i, i < 800 → s.1 4 i = σ.1 10 i) := by
  have hg := ap_gr_wf hw
  have hN := hg.1.1
  unfold m_Mo_settle m_Te_copyFrom
  refine ao_bd (ao_gd hb (ao_let (ao_let (ao_some ?_))))
  generalize hs : aw_sI (aw_cp σ (9 + 1) (3 + 1) 800) 3 1 ((aw_cp σ (9 + 1) (3 + 1) 800).1 9 1) = s1
  have l1 : s1.2 = σ.2 := by rw [← hs]; rfl
  have f1 : ∀ k, k ≠ 3 → k ≠ 4 → s1.1 k = σ.1 k := fun k h1 h2 => by
    rw [← hs, ao_sI_o h1]
    funext j
    rw [ao_cp1, if_neg (by omega)]
  have d1 : s1.1 3 1 = σ.1 9 1 := by
    rw [← hs, ao_sI_s, ao_cp1, if_neg (by omega)]
  have t1 : ∀ i, i < 800 → s1.1 4 i = σ.1 10 i := fun i hi => by
    rw [← hs, ao_sI_o (by omega), ao_cp1, if_pos ⟨rfl, hi⟩]
  clear hs
  have R1 : ap_rd s1 Ψ := by
    unfold ap_rd ap_rl at h ⊢
    rw [f1 8 (by omega) (by omega), f1 11 (by omega) (by omega), f1 12 (by omega) (by omega), f1 13 (by omega) (by omega), f1 14 (by omega) (by omega), f1 15 (by omega) (by omega), f1 16 (by omega) (by omega), f1 17 (by omega) (by omega), f1 18 (by omega) (by omega), f1 19 (by omega) (by omega), f1 20 (by omega) (by omega), f1 21 (by omega) (by omega)]
    exact h
  refine ao_bd (ao_imp (ap_build hw R1) ?_)
  rintro s2 ⟨⟨l2, f2, _, _⟩, A2⟩
  refine ao_bd (ao_imp (ag_FaBuild hg A2) ?_)
  rintro s3 ⟨l3, f3, A3, F3⟩
  refine ao_bd (ao_imp (ag_LoBuild hg A3) ?_)
  rintro s4 ⟨l4, m4, f4, L4⟩
  have A4 : ag_A s4 (ap_gr Ψ) := ag_A_fr A3 (fun k h1 h2 => f4 k (by omega))
  have F4 : ag_FA s4 (ap_gr Ψ) := ag_FA_fr F3 (fun k h1 h2 => f4 k (by omega)) (congrFun (f4 41 (by omega)) 12)
  refine ao_bd (ao_imp (ap_tellAll (by omega) A4.1.2.1) ?_)
  intro s5 I5
  have T5 := fun how => ap_told F4 I5 how
  have l5 : s5.2 = s4.2 := I5.1
  have f5 : ∀ k, k ≠ 70 → k ≠ 71 → k ≠ 76 → k ≠ 77 → s5.1 k = s4.1 k := I5.2.1
  have A5 : ag_A s5 (ap_gr Ψ) := ag_A_fr A4 (fun k h1 h2 => f5 k (by omega) (by omega) (by omega) (by omega))
  have F5 : ag_FA s5 (ap_gr Ψ) := ag_FA_fr F4 (fun k h1 h2 => f5 k (by omega) (by omega) (by omega) (by omega)) (congrFun (f5 41 (by omega) (by omega) (by omega) (by omega)) 12)
  have L5 : ag_LA s5 (ap_gr Ψ) := ag_LA_fr L4 (by rw [l5]) (by rw [l5]) (f5 62 (by omega) (by omega) (by omega) (by omega)) (congrFun (f5 58 (by omega) (by omega) (by omega) (by omega)) 4)
  refine ao_bd (ao_imp (ag_plBuild hg A5 true (T5 true).1 (T5 true).2) ?_)
  rintro s6 ⟨l6, f6, P6⟩
  have f6 : ∀ k, k ≠ 43 ∧ k ≠ 44 ∧ k ≠ 45 ∧ k ≠ 46 → (k < 69 ∨ 74 < k) → s6.1 k = s5.1 k := f6
  have A6 : ag_A s6 (ap_gr Ψ) := ag_A_fr A5 (fun k h1 h2 => f6 k (by omega) (by omega))
  have F6 : ag_FA s6 (ap_gr Ψ) := ag_FA_fr F5 (fun k h1 h2 => f6 k (by omega) (by omega)) (congrFun (f6 41 (by omega) (by omega)) 12)
  have L6 : ag_LA s6 (ap_gr Ψ) := ag_LA_fr L5 (by rw [l6]) (by rw [l6]) (f6 62 (by omega) (by omega)) (congrFun (f6 58 (by omega) (by omega)) 4)
  refine ao_bd (ao_imp (ag_plBuild hg A6 false (ag_bt_c (T5 false).1 (f6 76 (by omega) (by omega))) (ag_bt_c (T5 false).2 (f6 77 (by omega) (by omega)))) ?_)
  rintro s7 ⟨l7, f7, P7⟩
  have f7 : ∀ k, k ≠ 43 ∧ k ≠ 44 ∧ k ≠ 45 ∧ k ≠ 46 → (k < 75 ∨ 80 < k) → s7.1 k = s6.1 k := f7
  have A7 : ag_A s7 (ap_gr Ψ) := ag_A_fr A6 (fun k h1 h2 => f7 k (by omega) (by omega))
  have F7 : ag_FA s7 (ap_gr Ψ) := ag_FA_fr F6 (fun k h1 h2 => f7 k (by omega) (by omega)) (congrFun (f7 41 (by omega) (by omega)) 12)
  have L7 : ag_LA s7 (ap_gr Ψ) := ag_LA_fr L6 (by rw [l7]) (by rw [l7]) (f7 62 (by omega) (by omega)) (congrFun (f7 58 (by omega) (by omega)) 4)
  have Q7 : ag_PA s7 (ap_gr Ψ) true := ag_PA_fr P6 (fun k hk => f7 _ (by show 69 + k ≠ 43 ∧ 69 + k ≠ 44 ∧ 69 + k ≠ 45 ∧ 69 + k ≠ 46; omega) (by show 69 + k < 75 ∨ _; omega))
  have f17 : ∀ k, k ≠ 3 → k ≠ 4 → (k < 24 ∨ 62 < k) → (k < 69 ∨ 80 < k) → s7.1 k = σ.1 k := fun k h1 h2 h3 h4 =>
    (f7 k (by omega) (by omega)).trans ((f6 k (by omega) (by omega)).trans ((f5 k (by omega) (by omega) (by omega) (by omega)).trans ((f4 k (by omega)).trans ((f3 k (by omega)).trans ((f2 k (by omega)).trans (f1 k h1 h2))))))
  have g17 : ∀ k, k = 3 ∨ k = 4 → s7.1 k = s1.1 k := fun k h1 =>
    (f7 k (by omega) (by omega)).trans ((f6 k (by omega) (by omega)).trans ((f5 k (by omega) (by omega) (by omega) (by omega)).trans ((f4 k (by omega)).trans ((f3 k (by omega)).trans (f2 k (by omega))))))
  have l17 : s7.2.2 = σ.2.2 := by rw [l7, l6, l5, l4, l3, l2, l1]
  have m17 : ∀ k, k ≠ 59 → k ≠ 60 → s7.2.1 k = σ.2.1 k := fun k h1 h2 => by rw [l7, l6, l5, m4 k h1 h2, l3, l2, l1]
  unfold m_Ot_forget
  refine ao_bd (ao_let (ao_some (ao_let (ao_some ?_))))
  have fz : ∀ k, k ≠ 0 → k ≠ 105 → (aw_sI (aw_sI s7 105 6 0) 0 18 0).1 k = s7.1 k := fun k h1 h2 => by rw [ao_sI_o h1, ao_sI_o h2]
  refine ⟨⟨l17, m17, fun k h1 h2 h3 h4 h5 h6 => (fz k h1 h4).trans (f17 k h2 h3 h5 h6), fun j hj => ?_, fun j hj => ?_⟩, ⟨ag_A_fr A7 (fun k h1 h2 => fz k (by omega) (by omega)), ag_FA_fr F7 (fun k h1 h2 => fz k (by omega) (by omega)) (congrFun (fz 41 (by omega) (by omega)) 12), ag_LA_fr L7 rfl rfl (fz 62 (by omega) (by omega)) (congrFun (fz 58 (by omega) (by omega)) 4), ag_PA_fr Q7 (fun k hk => fz _ (by show 69 + k ≠ 0; omega) (by show 69 + k ≠ 105; omega)), ag_PA_fr P7 (fun k hk => fz _ (by show 75 + k ≠ 0; omega) (by show 75 + k ≠ 105; omega))⟩, ao_sI_s _ _ _ _, ?_, ?_, fun i hi => ?_⟩
  · rw [ao_sI_i hj, ao_sI_o (by omega)]; exact congrFun (f17 0 (by omega) (by omega) (by omega) (by omega)) j
  · rw [ao_sI_o (by omega), ao_sI_i hj]; exact congrFun (f17 105 (by omega) (by omega) (by omega) (by omega)) j
  · rw [ao_sI_o (by omega), ao_sI_s]
  · exact (congrFun (fz 3 (by omega) (by omega)) 1).trans ((congrFun (g17 3 (Or.inl rfl)) 1).trans d1)
  · exact (congrFun (fz 4 (by omega) (by omega)) i).trans ((congrFun (g17 4 (Or.inr rfl)) i).trans (t1 i hi))

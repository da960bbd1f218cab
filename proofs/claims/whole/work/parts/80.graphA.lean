/-! ===== the class: its graph stands ===== -/
/-- what the building of the graph may move -/
def ap_gb (σ s : aw_S) : Prop := s.2 = σ.2 ∧ (∀ k, k < 24 ∨ 40 < k → s.1 k = σ.1 k) ∧ (∀ j, j ≠ 13 → j ≠ 14 → s.1 24 j = σ.1 24 j) ∧ ∀ j, j ≠ 3 → s.1 25 j = σ.1 25 j
set_option maxHeartbeats 4000000 in
theorem ap_build {σ : aw_S} {Ψ : ap_T} (hw : ap_wf Ψ) (h : ap_rd σ Ψ) : ao_ok (m_Gr_build σ) (fun s => ap_gb σ s ∧ ag_A s (ap_gr Ψ)) := by
  have h77 := ap_N0_le hw
  have hg := ap_gr_wf hw
  have hB0 := hw.1
  have hX := hw.2.2.2.2.2.2.2.2.1
  have hlt : ∀ m, m < ap_N0 Ψ → ap_N0 Ψ ≤ 77 := fun _ _ => h77
  unfold m_Gr_build m_Ex_copyFrom
  refine ao_bd (ao_let (ao_let (ao_let (ao_let (ao_some (ao_let (ao_let ?_)))))))
  generalize hs : aw_sI (aw_sI (aw_sI (aw_cp (aw_cp (aw_cp σ (11 + 1) (25 + 1) 24) (11 + 2) (25 + 2) 24) (11 + 3) (25 + 3) 24) 25 3 ((aw_cp (aw_cp (aw_cp σ (11 + 1) (25 + 1) 24) (11 + 2) (25 + 2) 24) (11 + 3) (25 + 3) 24).1 11 3)) 24 14 _) 24 13 0 = s1
  have c26 : ∀ e, e < 24 → s1.1 26 e = σ.1 12 e := fun e he => by rw [← hs]; simp [ao_sI, ao_cp1, he]
  have c27 : ∀ e, e < 24 → s1.1 27 e = σ.1 13 e := fun e he => by rw [← hs]; simp [ao_sI, ao_cp1, he]
  have c28 : ∀ e, e < 24 → s1.1 28 e = σ.1 14 e := fun e he => by rw [← hs]; simp [ao_sI, ao_cp1, he]
  have c25 : s1.1 25 3 = σ.1 11 3 := by rw [← hs]; simp [ao_sI, ao_cp1]
  have c14 : s1.1 24 14 = σ.1 8 12 := by rw [← hs]; simp [ao_sI, ao_cp1]
  have c13 : s1.1 24 13 = nI 0 := by rw [← hs]; exact ao_sI_s _ _ _ _
  have g1 : ap_gb σ s1 := by
    rw [← hs]
    refine ⟨rfl, fun k hk => ?_, fun j h1 h2 => ?_, fun j h1 => ?_⟩
    · funext j
      rw [ao_sI, if_neg (by omega), ao_sI, if_neg (by omega), ao_sI, if_neg (by omega), ao_cp1, if_neg (by omega), ao_cp1, if_neg (by omega), ao_cp1, if_neg (by omega)]
    · rw [ao_sI, if_neg (by omega), ao_sI, if_neg (by omega), ao_sI, if_neg (by omega), ao_cp1, if_neg (by omega), ao_cp1, if_neg (by omega), ao_cp1, if_neg (by omega)]
    · rw [ao_sI, if_neg (by omega), ao_sI, if_neg (by omega), ao_sI, if_neg (by omega), ao_cp1, if_neg (by omega), ao_cp1, if_neg (by omega), ao_cp1, if_neg (by omega)]
  clear hs
  have R1 : ap_rd s1 Ψ := ap_rd_fr h (fun k hk => g1.2.1 k (Or.inl hk))
  refine ao_bd2 (ao_imp (ap_add (n := 0) (by omega) c13) ?_)
  rintro ⟨x, s2⟩ ⟨_, g2, n2, o2, k2, z2, r2⟩
  have g2 : ap_ga s1 s2 := g2
  have hl0 : ap_li Ψ 0 = none := ap_li_none (Or.inl rfl)
  have d2 : ap_na s2 Ψ 0 := by
    unfold ap_na
    rw [hl0]
    exact ⟨k2, z2 30 (by omega) (by omega), z2 31 (by omega) (by omega), z2 32 (by omega) (by omega), z2 33 (by omega) (by omega), z2 34 (by omega) (by omega), z2 35 (by omega) (by omega)⟩
  refine ao_bd (ao_imp (ap_addReached hw R1 g2 n2 d2 (z2 37 (by omega) (by omega))) ?_)
  rintro s3 ⟨g3, n3, d3, t3⟩
  refine ao_bd (ao_imp (ap_join hw n3 d3 t3) ?_)
  rintro s4 ⟨l4, f4, e4, _⟩
  have g4 : ap_ga s1 s4 := ap_ga_tr g3 ⟨l4, fun k hk => f4 k (by omega) (by omega), fun j _ => congrFun (f4 24 (by omega) (by omega)) j⟩
  have S4 : ap_SA s1 s4 Ψ 0 := ⟨g4, (congrFun (f4 24 (by omega) (by omega)) 13).trans n3, fun m hm => ap_na_fr (d3 m hm).1 (fun c h1 h2 => congrFun (f4 c (by omega) (by omega)) m), fun m hm => e4 m hm⟩
  refine ao_bd (ao_imp (ap_splitA hw S4) ?_)
  rintro s5 ⟨g5, n5, d5, e5⟩
  refine ao_bd (ao_imp (ap_list (N := ag_N (ap_gr Ψ)) (nx := ag_nx (ap_gr Ψ)) hg.1 n5 e5) ?_)
  rintro s6 ⟨l6, f6, T6⟩
  have g6 : ap_ga s1 s6 := ap_ga_tr g5 ⟨l6, fun k hk => f6 k (by omega) (by omega), fun j _ => congrFun (f6 24 (by omega) (by omega)) j⟩
  refine ao_some ⟨⟨g6.1.trans g1.1, fun k hk => (g6.2.1 k (by omega)).trans (g1.2.1 k hk), fun j h1 h2 => (g6.2.2 j h1).trans (g1.2.2.1 j h1 h2), fun j h1 => (congrFun (g6.2.1 25 (by omega)) j).trans (g1.2.2.2 j h1)⟩, T6, fun n hn => ?_, fun n hn _ => ?_, ?_, fun e he => ?_, ?_⟩
  · have D := d5 n hn
    exact ⟨(congrFun (f6 29 (by omega) (by omega)) n).trans D.1, (congrFun (f6 30 (by omega) (by omega)) n).trans D.2.1, (congrFun (f6 31 (by omega) (by omega)) n).trans D.2.2.1, (congrFun (f6 32 (by omega) (by omega)) n).trans D.2.2.2.1, (congrFun (f6 33 (by omega) (by omega)) n).trans D.2.2.2.2.1⟩
  · have D := d5 n hn
    exact ⟨(congrFun (f6 34 (by omega) (by omega)) n).trans D.2.2.2.2.2.1, fun _ => (congrFun (f6 35 (by omega) (by omega)) n).trans D.2.2.2.2.2.2⟩
  · exact (congrFun (g6.2.1 25 (by omega)) 3).trans (c25.trans h.2.2.1)
  · have he : e < ap_X Ψ := he
    have H := h.2.2.2.2.2 e he
    exact ⟨(congrFun (g6.2.1 26 (by omega)) e).trans ((c26 e (by omega)).trans H.1), (congrFun (g6.2.1 27 (by omega)) e).trans ((c27 e (by omega)).trans H.2.1), (congrFun (g6.2.1 28 (by omega)) e).trans ((c28 e (by omega)).trans H.2.2)⟩
  · exact (g6.2.2 14 (by omega)).trans (c14.trans h.2.1)

/-! ===== the class: all edges split ===== -/
theorem ap_leads {s : aw_S} {N n : Nat} (h13 : s.1 24 13 = nI N) (hN : N ≤ 112) (hn : n < N) (h : s.1 37 n ≠ -1 → s.1 36 n ≠ -1) : ao_ok (m_Gr_edgesFrom s (nI n)) (fun r => r = 2 ↔ s.1 37 n ≠ -1) := by
  have J : ∀ k0 : Int32, (k0 = 0 ∧ s.1 37 n = -1) ∨ k0 = 1 → ao_ok (m_Gr_edgesFrom_J23 s (nI n) k0) (fun r => r = 2 ↔ s.1 37 n ≠ -1) := by
    intro k0 hk
    unfold m_Gr_edgesFrom_J23 m_Mo_oneIf
    rw [nI_clamp (show n < 2 ^ 31 by omega)]
    rcases hk with ⟨rfl, q2⟩ | rfl
    · refine ao_bd (ao_ifp rfl (ao_some (ao_gd (vp_in_nI (by omega) (by omega)) (ao_ifp q2 ?_))))
      unfold m_Gr_edgesFrom_J41 m_Mo_oneIf
      refine ao_bd (ao_ifp rfl (ao_some (ao_some ⟨fun z => absurd z (by decide), fun z => absurd q2 z⟩)))
    · refine ao_bd (ao_ifn (by decide) (ao_some (ao_gd (vp_in_nI (by omega) (by omega)) ?_)))
      by_cases q2 : s.1 37 n = -1
      · refine ao_ifp q2 ?_
        unfold m_Gr_edgesFrom_J41 m_Mo_oneIf
        refine ao_bd (ao_ifp rfl (ao_some (ao_some ⟨fun z => absurd z (by decide), fun z => absurd q2 z⟩)))
      · refine ao_ifn q2 ?_
        unfold m_Gr_edgesFrom_J41 m_Mo_oneIf
        refine ao_bd (ao_ifn (by decide) (ao_some (ao_some ⟨fun _ => q2, fun _ => by decide⟩)))
  unfold m_Gr_edgesFrom
  refine ao_bde (ao_isNode h13 hN hn) (ao_ifn (by decide) ?_)
  rw [ao_gdn (by omega) (by omega), nI_clamp (show n < 2 ^ 31 by omega)]
  by_cases q1 : s.1 36 n = -1
  · exact ao_ifp q1 (J 0 (Or.inl ⟨rfl, Classical.byContradiction (fun z => h z q1)⟩))
  · exact ao_ifn q1 (J 1 (Or.inr rfl))
set_option maxHeartbeats 4000000 in
theorem ap_splitA {σ s0 : aw_S} {Ψ : ap_T} (hw : ap_wf Ψ) (h0 : ap_SA σ s0 Ψ 0) : ao_ok (m_Gr_splitEdges s0) (fun s => ap_SA σ s Ψ (2 * ap_N0 Ψ)) := by
  have h77 := ap_N0_le hw
  unfold m_Gr_splitEdges
  rw [show s0.1 24 13 = nI (ap_N0 Ψ) from h0.2.1]
  refine ao_let (ao_bd (ao_imp (ao_for (Q := fun s => ap_SA σ s Ψ (2 * ap_N0 Ψ)) (ap_N0 Ψ) (fun n (s : Int32 × aw_S) => s.1 = nI n ∧ ap_SA σ s.2 Ψ (2 * n)) (a := 0) ⟨rfl, h0⟩ (Nat.zero_le _) (by omega) ?_ ?_) (fun s hs => ao_some hs)))
  · rintro n ⟨x, s⟩ hn ⟨e1, hI⟩
    have e1 : x = nI n := e1
    subst e1
    have hI : ap_SA σ s Ψ (2 * n) := hI
    have hle := ap_sp_le hw (show 2 * n ≤ 2 * ap_N0 Ψ by omega)
    obtain ⟨a1, a2, a3, a4, a5, a6⟩ := ap_sp_i (N0 := ap_N0 Ψ) (nx0 := ap_x0 Ψ) (fun k t hk e => ap_x0_lt hw hk e) (2 * n) (by omega)
    have r36 : s.1 36 n = ao_o (ap_x0 Ψ (2 * n)) := by rw [(hI.2.2.2 n (by omega)).1, a3 (2 * n) (by omega) (by omega)]
    have r37 : s.1 37 n = ao_o (ap_x0 Ψ (2 * n + 1)) := by rw [(hI.2.2.2 n (by omega)).2, a3 (2 * n + 1) (by omega) (by omega)]
    have m36 : s.1 36 n = -1 ↔ ap_x0 Ψ (2 * n) = none := by
      rw [r36]; exact ao_o_m1 (fun t z => by have := ap_x0_lt hw (show 2 * n < 2 * ap_N0 Ψ by omega) z; omega)
    have m37 : s.1 37 n = -1 ↔ ap_x0 Ψ (2 * n + 1) = none := by
      rw [r37]; exact ao_o_m1 (fun t z => by have := ap_x0_lt hw (show 2 * n + 1 < 2 * ap_N0 Ψ by omega) z; omega)
    show ao_ok (m_Gr_splitEdges_B7 s (nI (ap_N0 Ψ)) (nI n)) _
    unfold m_Gr_splitEdges_B7
    rw [if_neg (nI_ge hn (by omega)), nI_clamp (show n < 2 ^ 31 by omega)]
    refine ao_bd (ao_imp (ap_leads hI.2.1 (by omega) (by omega) (fun z1 z2 => ap_x0_both hw hn (fun z => z1 (m37.mpr z)) (m36.mp z2))) ?_)
    intro r hr
    by_cases hx : ap_x0 Ψ (2 * n + 1) = none
    · refine ao_ifn (fun z => (hr.mp z) (m37.mpr hx)) ?_
      have e0 : ap_sp (ap_N0 Ψ) (ap_x0 Ψ) (2 * n + 1) = ap_sp (ap_N0 Ψ) (ap_x0 Ψ) (2 * n) := ap_sp_s0 (fun t _ hc' => hc'.1 (by rw [show 2 * n / 2 = n by omega]; exact hx))
      have e1 : ap_sp (ap_N0 Ψ) (ap_x0 Ψ) (2 * n + 1 + 1) = ap_sp (ap_N0 Ψ) (ap_x0 Ψ) (2 * n + 1) := ap_sp_s0 (fun t z _ => by rw [hx] at z; cases z)
      refine ao_let (ao_inr ⟨nI_1 n, ?_⟩)
      have hI' := hI
      unfold ap_SA at hI' ⊢
      rw [show 2 * (n + 1) = 2 * n + 1 + 1 by omega, e1, e0]
      exact hI'
    · refine ao_ifp (hr.mpr (fun z => hx (m37.mp z))) ?_
      obtain ⟨t, _, ec, hok⟩ := ap_splitA1 hw (c := 36) (k := 2 * n) hn (Or.inl ⟨rfl, rfl⟩) hx hI
      rw [ao_gdn (by omega) (by omega), ec]
      refine ao_bd2 (ao_imp hok ?_)
      rintro ⟨v, s2⟩ h1
      have h1 : ap_SA σ (aw_sI s2 36 n v) Ψ (2 * n + 1) := h1
      refine ao_gd (vp_in_nI (by omega) (by omega)) (ao_let ?_)
      generalize hs3 : aw_sI s2 36 n v = s3 at h1
      obtain ⟨t', _, ec', hok'⟩ := ap_splitA1 hw (c := 37) (k := 2 * n + 1) hn (Or.inr ⟨rfl, rfl⟩) hx h1
      refine ao_gd (vp_in_nI (by omega) (by omega)) ?_
      rw [ec']
      refine ao_bd2 (ao_imp hok' ?_)
      rintro ⟨v', s4⟩ h2
      have h2 : ap_SA σ (aw_sI s4 37 n v') Ψ (2 * n + 1 + 1) := h2
      refine ao_gd (vp_in_nI (by omega) (by omega)) (ao_let (ao_let (ao_inr ⟨nI_1 n, ?_⟩)))
      show ap_SA σ (aw_sI s4 37 n v') Ψ (2 * (n + 1))
      rw [show 2 * (n + 1) = 2 * n + 1 + 1 by omega]
      exact h2
  · rintro ⟨x, s⟩ ⟨e1, hI⟩
    have e1 : x = nI (ap_N0 Ψ) := e1
    subst e1
    show ao_ok (m_Gr_splitEdges_B7 s (nI (ap_N0 Ψ)) (nI (ap_N0 Ψ))) _
    unfold m_Gr_splitEdges_B7
    rw [if_pos (nI_le (Nat.le_refl _) (by omega))]
    exact ao_inl hI

/-! ===== the class: one splitting ===== -/
theorem ap_x0_ne {Ψ : ap_T} (hw : ap_wf Ψ) {n t : Nat} (hn : n < ap_N0 Ψ) (h0 : ap_x0 Ψ (2 * n) = some t) (h1 : ap_x0 Ψ (2 * n + 1) = some t) : False := by
  by_cases hn0 : n = 0
  · rw [hn0] at h1
    have := (ap_x0_0 Ψ).2.symm.trans h1
    cases this
  · rcases ap_li_ex hw (n := n) (by omega) hn with ⟨b, s, _, _, _, _, _, hl⟩ | ⟨b, hb, hr, _, hl⟩
    · have := (ap_x0_s (by omega) hl).2.symm.trans h1
      cases this
    · obtain ⟨x1, x2⟩ := ap_x0_e (show 0 < n by omega) hl
      rw [x1] at h0
      rw [x2] at h1
      by_cases q : ap_e2 Ψ b = ap_e1 Ψ b
      · rw [if_pos q] at h1; cases h1
      · rw [if_neg q] at h1
        cases q1 : ap_e1 Ψ b with
        | none => rw [q1] at h0; cases h0
        | some t1 =>
          cases q2 : ap_e2 Ψ b with
          | none => rw [q2] at h1; cases h1
          | some t2 =>
            rw [q1] at h0
            rw [q2] at h1
            have r1 := ap_RB_s hb (ap_tB hw hb (Or.inl q1)) hr (Or.inl q1)
            have r2 := ap_RB_s hb (ap_tB hw hb (Or.inr q2)) hr (Or.inr q2)
            have e := ap_bg_inj r1 r2 ((Option.some.inj h0).trans (Option.some.inj h1).symm)
            exact q (by rw [q1, q2, e])
def ap_SA (σ s : aw_S) (Ψ : ap_T) (k : Nat) : Prop := ap_ga σ s ∧ s.1 24 13 = nI (ap_sp (ap_N0 Ψ) (ap_x0 Ψ) k).1 ∧ (∀ m, m < (ap_sp (ap_N0 Ψ) (ap_x0 Ψ) k).1 → ap_na s Ψ m) ∧ ∀ m, m < (ap_sp (ap_N0 Ψ) (ap_x0 Ψ) k).1 → s.1 36 m = ao_o ((ap_sp (ap_N0 Ψ) (ap_x0 Ψ) k).2 (2 * m)) ∧ s.1 37 m = ao_o ((ap_sp (ap_N0 Ψ) (ap_x0 Ψ) k).2 (2 * m + 1))
set_option maxHeartbeats 4000000 in
theorem ap_come {σ s : aw_S} {Ψ : ap_T} (hw : ap_wf Ψ) {k t : Nat} (hk : k ≤ 2 * ap_N0 Ψ) (hI : ap_SA σ s Ψ k) (ht : t < ap_N0 Ψ) : m_Gr_comingTo s (nI t) = some (nI (ao_n (fun j => ap_x0 Ψ j = some t) (2 * ap_N0 Ψ))) := by
  obtain ⟨_, h13, _, hx⟩ := hI
  have h77 := ap_N0_le hw
  have hle := ap_sp_le hw hk
  have hc := ap_sp_count (N0 := ap_N0 Ψ) (nx0 := ap_x0 Ψ) (fun k t hk e => ap_x0_lt hw hk e) ht k hk
  obtain ⟨a1, a2, a3, a4, a5, a6⟩ := ap_sp_i (N0 := ap_N0 Ψ) (nx0 := ap_x0 Ψ) (fun k t hk e => ap_x0_lt hw hk e) k hk
  generalize (ap_sp (ap_N0 Ψ) (ap_x0 Ψ) k).1 = N at h13 hx hle hc a1 a2 a4 a5
  generalize (ap_sp (ap_N0 Ψ) (ap_x0 Ψ) k).2 = nx at hx hc a3 a4 a5 a6
  have old : ∀ j, j < 2 * ap_N0 Ψ → nx j = ap_x0 Ψ j ∨ ∃ m, ap_N0 Ψ ≤ m ∧ m < N ∧ nx j = some m := by
    intro j hj
    by_cases q : k ≤ j
    · exact Or.inl (a3 j q hj)
    · rcases a4 j (by omega) hj with z | ⟨m, t', z1, z2, z3, _⟩
      · exact Or.inl z
      · exact Or.inr ⟨m, z1, z2, z3⟩
  have hb : ∀ j u, j < 2 * N → nx j = some u → u < 112 := by
    intro j u hj hu
    by_cases q : j < 2 * ap_N0 Ψ
    · rcases old j q with z | ⟨m, z1, z2, z3⟩
      · have := ap_x0_lt hw q (z.symm.trans hu); omega
      · rw [z3] at hu; cases hu; omega
    · obtain ⟨⟨t', y1, y2, y3⟩, y4⟩ := a5 (j / 2) (by omega) (by omega)
      rcases (show j = 2 * (j / 2) ∨ j = 2 * (j / 2) + 1 by omega) with e | e
      · rw [← e, hu] at y3; cases y3; omega
      · rw [← e, hu] at y4; cases y4
  rw [ap_comingTo (by omega) h13 hx hb (by omega), ap_n_ed N (fun m hm h1 h2 => ?_), hc]
  by_cases q : m < ap_N0 Ψ
  · rcases old (2 * m) (by omega) with z | ⟨m', z1, z2, z3⟩
    · rcases old (2 * m + 1) (by omega) with y | ⟨m', y1, y2, y3⟩
      · exact ap_x0_ne hw q (z.symm.trans h1) (y.symm.trans h2)
      · rw [y3] at h2; cases h2; omega
    · rw [z3] at h1; cases h1; omega
  · have := (a5 m (by omega) hm).2.symm.trans h2
    cases this

/-! ===== the class: what the placements are told ===== -/
theorem ap_told {σ s : aw_S} {Γ : ag_T} (hF : ag_FA σ Γ) (h : ap_TI σ (ag_N Γ) s) (how : Bool) : ag_bt s (ag_po how + 1) Γ (fun e => ag_P Γ e how 0) ∧ ag_bt s (ag_po how + 2) Γ (fun e => ag_P Γ e how 1) := by
  have F : ∀ w, w < 8 → ∀ n, n < ag_N Γ → ∀ e, e < 32 → (ao_t (σ.1 (47 + w) n) e ↔ e < ag_X Γ ∧ ag_F Γ e w n) := hF.1
  cases how with
  | true =>
    refine ⟨fun n hn e he => ?_, fun n hn e he => ?_⟩
    · have P : ag_P Γ e true 0 n ↔ ag_F Γ e 4 n := by
        show ao_PU _ _ _ _ true n ↔ _
        unfold ao_PU
        rw [if_pos rfl]
        exact Iff.rfl
      show ao_t (s.1 70 n) e ↔ e < ag_X Γ ∧ ag_P Γ e true 0 n
      rw [(h.2.2 n hn).1, P]
      exact F 4 (by omega) n hn e he
    · have P : ag_P Γ e true 1 n ↔ ag_F Γ e 0 n := by
        show ao_RE _ _ _ _ true n ↔ _
        unfold ao_RE
        exact ⟨fun z => z.1, fun z => ⟨z, Or.inl rfl⟩⟩
      show ao_t (s.1 71 n) e ↔ e < ag_X Γ ∧ ag_P Γ e true 1 n
      rw [(h.2.2 n hn).2.1, P]
      exact F 0 (by omega) n hn e he
  | false =>
    refine ⟨fun n hn e he => ?_, fun n hn e he => ?_⟩
    · have P : ag_P Γ e false 0 n ↔ ag_F Γ e 6 n ∧ ¬ ag_F Γ e 7 n := by
        show ao_PU _ _ _ _ false n ↔ _
        unfold ao_PU
        rw [if_neg (by decide)]
        exact Iff.rfl
      have F6 := F 6 (by omega) n hn e he
      have F7 := F 7 (by omega) n hn e he
      show ao_t (s.1 76 n) e ↔ e < ag_X Γ ∧ ag_P Γ e false 0 n
      rw [(h.2.2 n hn).2.2.1, P, ao_t_and, ao_t_not he]
      exact ⟨fun z => ⟨(F6.mp z.1).1, (F6.mp z.1).2, fun y => z.2 (F7.mpr ⟨(F6.mp z.1).1, y⟩)⟩, fun z => ⟨F6.mpr ⟨z.1, z.2.1⟩, fun y => z.2.2 (F7.mp y).2⟩⟩
    · have P : ag_P Γ e false 1 n ↔ ag_F Γ e 0 n ∧ ¬ (ag_F Γ e 6 n ∧ ag_F Γ e 7 n) := by
        show ao_RE _ _ _ _ false n ↔ _
        unfold ao_RE
        exact ⟨fun z => ⟨z.1, z.2.elim (fun y => absurd y (by decide)) id⟩, fun z => ⟨z.1, Or.inr z.2⟩⟩
      have F0 := F 0 (by omega) n hn e he
      have F6 := F 6 (by omega) n hn e he
      have F7 := F 7 (by omega) n hn e he
      show ao_t (s.1 77 n) e ↔ e < ag_X Γ ∧ ag_P Γ e false 1 n
      rw [(h.2.2 n hn).2.2.2, P, ao_t_and, ao_t_not he, ao_t_and]
      exact ⟨fun z => ⟨(F0.mp z.1).1, (F0.mp z.1).2, fun y => z.2 ⟨F6.mpr ⟨(F0.mp z.1).1, y.1⟩, F7.mpr ⟨(F0.mp z.1).1, y.2⟩⟩⟩, fun z => ⟨F0.mpr ⟨z.1, z.2.1⟩, fun y => z.2.2 ⟨(F6.mp y.1).2, (F7.mp y.2).2⟩⟩⟩

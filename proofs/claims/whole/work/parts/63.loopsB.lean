/-! ===== the reference: over, heads, depths ===== -/
def ag_two (c d : Nat) (σ s : aw_S) : Prop := s.2 = σ.2 ∧ ∀ k, k ≠ c → k ≠ d → s.1 k = σ.1 k
theorem ag_two_tr {c d : Nat} {σ s t : aw_S} (h : ag_two c d σ s) (h' : ag_two c d s t) : ag_two c d σ t := ⟨h'.1.trans h.1, fun k hk hk' => (h'.2 k hk hk').trans (h.2 k hk hk')⟩
theorem ag_two_1 {c d : Nat} {σ s : aw_S} (h : ag_one c σ s) : ag_two c d σ s := ⟨h.1, fun k hk _ => h.2 k hk⟩
theorem ag_two_2 {c d : Nat} {σ s : aw_S} (h : ag_one d σ s) : ag_two c d σ s := ⟨h.1, fun k _ hk => h.2 k hk⟩
theorem ag_two_TB {c d : Nat} {σ s : aw_S} {N : Nat} {nx : Nat → Option Nat} (h : ag_two c d σ s) (hc : 8 ≤ c) (hd : 8 ≤ d) (hB : ao_TB σ N nx) : ao_TB s N nx := ao_TB_fr hB (congrFun (h.2 0 (by omega) (by omega)) 14) (h.2 7 (by omega) (by omega))
theorem ag_two_B {c d : Nat} {σ s : aw_S} {Γ : ag_T} (h : ag_two c d σ s) (hc : 8 ≤ c) (hd : 8 ≤ d) (hB : ag_B σ Γ) : ag_B s Γ := ag_B_fr hB (congrFun (h.2 0 (by omega) (by omega)) 14) (h.2 1 (by omega) (by omega)) (h.2 4 (by omega) (by omega)) (h.2 5 (by omega) (by omega)) (h.2 6 (by omega) (by omega)) (h.2 7 (by omega) (by omega))
/-- seen for v: from the first one without v -/
def ao_fS (N : Nat) (nx : Nat → Option Nat) (v : Nat) (S : Nat → Prop) (m : Nat) : Prop := m ≠ v ∧ ((m = 0 ∧ v ≠ 0) ∨ ∃ p, p < N ∧ ao_ed nx p m ∧ S p)
theorem ao_S_OV {N : Nat} {nx : Nat → Option Nat} {v : Nat} {X : Nat → Prop} (h : ao_lf N (ao_fS N nx v) X) : ∀ m, m < N → (¬ X m ↔ ao_OV N nx v m) := by
  refine ao_gf_G (ao_lf_n h) (fun Y n hn => ?_)
  unfold ao_fS ao_fOV
  by_cases q : n = v
  · exact ⟨fun _ => Or.inl q, fun _ z => z.1 q⟩
  · refine ⟨fun z => Or.inr ⟨fun z0 => z ⟨q, Or.inl ⟨z0, fun y => q (z0.trans y.symm)⟩⟩, fun p hp hed => Classical.byContradiction fun y => z ⟨q, Or.inr ⟨p, hp, hed, y⟩⟩⟩, fun z y => ?_⟩
    rcases z with z | ⟨z1, z2⟩
    · exact q z
    · rcases y.2 with ⟨y, _⟩ | ⟨p, hp, hed, y⟩
      · exact z1 y
      · exact y (z2 p hp hed)
set_option maxHeartbeats 4000000 in
theorem ag_seenOver {σ : aw_S} {N : Nat} {nx : Nat → Option Nat} (hT : ao_TB σ N nx) {v : Nat} (hv : v < N) {k : aw_S → Option ((aw_S) ⊕ (Int32 × aw_S))} {Q : (aw_S) ⊕ (Int32 × aw_S) → Prop}
    (hk : ∀ s, ag_one 38 σ s → (∀ n, n < N → ao_01 (s.1 38 n)) → (∀ m, m < N → (¬ ag_x1 s 38 m ↔ ao_OV N nx v m)) → ao_ok (k s) Q) :
    ao_ok (aw_bd (aw_lp (fun s => m_Rf_layOver_B12 s.2 (nI v) s.1) aw_fu ((0 : Int32), σ)) (fun x8 => aw_bd (aw_lp (fun s => m_Rf_layOver_B47 s.2 (nI v) s.1) aw_fu ((1 : Int32), x8)) k)) Q := by
  have hN := hT.1.1
  refine ao_bd (ao_imp (ao_for (Q := fun s => ag_one 38 σ s ∧ ∀ n, n < N → s.1 38 n = ao_b (n = 0 ∧ v ≠ 0)) N (fun k s => s.1 = nI k ∧ ag_one 38 σ s.2 ∧ ∀ n, n < k → s.2.1 38 n = ao_b (n = 0 ∧ v ≠ 0)) (a := 0) ⟨rfl, ag_one_rf, fun n hn => absurd hn (Nat.not_lt_zero _)⟩ (Nat.zero_le _) (by omega) ?_ ?_) ?_)
  · rintro i ⟨x, s⟩ hi ⟨e1, hf, hv'⟩
    have e1 : x = nI i := e1
    subst e1
    show ao_ok (m_Rf_layOver_B12 s (nI v) (nI i)) _
    unfold m_Rf_layOver_B12
    rw [(ag_one_TB hf (by omega) hT).2.1, if_neg (nI_ge hi (by omega))]
    have hJ : ∀ y, y = ao_b (i = 0 ∧ v ≠ 0) → ao_ok (m_Rf_layOver_J38 s (nI v) (nI i) (nI i) y) (Sum.elim (fun s => ag_one 38 σ s ∧ ∀ n, n < N → s.1 38 n = ao_b (n = 0 ∧ v ≠ 0)) (fun s => s.1 = nI (i + 1) ∧ ag_one 38 σ s.2 ∧ ∀ n, n < i + 1 → s.2.1 38 n = ao_b (n = 0 ∧ v ≠ 0))) := by
      intro y hy
      unfold m_Rf_layOver_J38
      rw [ao_gdn (by omega) (by omega), nI_clamp (by omega), ao_nar (by rw [hy]; exact ao_01_b _)]
      refine ao_let (ao_let (ao_inr ⟨nI_1 i, ag_one_tr hf ag_one_s, fun n hn => ?_⟩))
      show (aw_sI s 38 i y).1 38 n = _
      by_cases hnk : n = i
      · subst hnk; rw [ao_sI_s, hy]
      · rw [ao_sI_i hnk]; exact hv' n (by omega)
    refine ao_if (fun q => ?_) (fun q => hJ 0 (ao_b0 (fun z => q (by rw [z.1]; rfl))).symm)
    have hi0 : i = 0 := (nI_eq (by omega) (by omega)).mp (q.trans nI_0.symm)
    refine ao_if (fun q2 => hJ 0 (ao_b0 (fun z => z.2 ((nI_eq (by omega) (by omega)).mp (q2.trans nI_0.symm)))).symm) (fun q2 => hJ 1 (ao_b1 ⟨hi0, fun z => q2 (by rw [z]; rfl)⟩).symm)
  · rintro ⟨x, s⟩ ⟨e1, hf, hv'⟩
    have e1 : x = nI N := e1
    subst e1
    show ao_ok (m_Rf_layOver_B12 s (nI v) (nI N)) _
    unfold m_Rf_layOver_B12
    rw [(ag_one_TB hf (by omega) hT).2.1, if_pos (nI_le (Nat.le_refl _) (by omega))]
    exact ao_inl ⟨hf, hv'⟩
  · rintro s ⟨hf, hv'⟩
    refine ao_bd (ao_imp (ao_chaos (fo := fun s => m_Rf_layOver_B47 s.2 (nI v) s.1) (fi := fun s => m_Rf_layOver_B55 s.2.2 (nI v) s.1 s.2.1) (2 * N) nI
      (fun t => ag_one 38 σ t ∧ (∀ n, n < N → ao_01 (t.1 38 n)) ∧ (v ≠ 0 → ag_x1 t 38 0) ∧ ∀ Y : Nat → Prop, (∀ n, n < N → ao_fS N nx v Y n → Y n) → ∀ n, n < N → ag_x1 t 38 n → Y n)
      (fun t => ao_n (fun n => ¬ ag_x1 t 38 n) N) (fun t k => ∃ m, nx k = some m ∧ m ≠ v ∧ ag_x1 t 38 (k / 2) ∧ ¬ ag_x1 t 38 m) (by omega) ?_ ?_ ?_ ?_ ⟨hf, fun n hn => by rw [hv' n hn]; exact ao_01_b _, fun z => (hv' 0 (by omega)).trans (ao_b1 ⟨rfl, z⟩), fun Y hY n hn q => ?_⟩ (by have := ao_n_le (fun n => ¬ ag_x1 s 38 n) N; omega)) ?_)
    · intro t; rfl
    · rintro t _; rfl
    · rintro t w ⟨hf, _⟩
      show m_Rf_layOver_B55 t (nI v) w (nI (2 * N)) = _
      unfold m_Rf_layOver_B55
      rw [(ag_one_TB hf (by omega) hT).2.1, ao_mul2, if_pos (nI_le (Nat.le_refl _) (by omega))]
    · rintro t w k hk' ⟨hf, h01, hB, hU⟩ hw'
      show (_ ∧ m_Rf_layOver_B55 t (nI v) w (nI k) = _) ∨ (∃ s', m_Rf_layOver_B55 t (nI v) w (nI k) = _ ∧ _)
      have hTt := ag_one_TB hf (by omega) hT
      have hp : k / 2 < N := by omega
      have hj : ∀ t' v', m_Rf_layOver_J127 t' (nI v) v' (nI k) = some (.inr (v', nI (k + 1), t')) := fun t' v' => by rw [← nI_1 k]; rfl
      unfold m_Rf_layOver_B55
      rw [hTt.2.1, ao_mul2, if_neg (nI_ge hk' (by omega)), ao_gdn (by omega) (by omega), ao_gdn (by omega) (by omega), nI_clamp (by omega)]
      rcases ao_edge hTt hk' with ⟨e1, e2⟩ | ⟨m, e1, hm, e2, e3⟩
      · rw [if_pos e2]
        exact Or.inl ⟨fun ⟨m, q, _⟩ => (by rw [e1] at q; cases q), hj t w⟩
      · rw [if_neg e3, e2]
        by_cases q0 : m = v
        · rw [if_pos (show nI m = nI v by rw [q0])]
          exact Or.inl ⟨fun ⟨m', q, q', _⟩ => (by rw [e1] at q; cases q; exact q' q0), hj t w⟩
        · rw [if_neg (fun z => q0 ((nI_eq (by omega) (by omega)).mp z)), ao_half (by omega), ao_gdn (by omega) (by omega), nI_clamp (by omega)]
          by_cases q1 : ag_x1 t 38 (k / 2)
          · rw [if_neg (fun z => (ao_01_0 (h01 _ hp)).mp z q1), ao_gdn (by omega) (by omega), ao_gdn (by omega) (by omega), nI_clamp (by omega)]
            by_cases q2 : ag_x1 t 38 m
            · rw [if_neg (fun z => (ao_01_0 (h01 _ hm)).mp z q2)]
              exact Or.inl ⟨fun ⟨m', q, _, _, q'⟩ => (by rw [e1] at q; cases q; exact q' q2), hj t w⟩
            · rw [if_pos ((ao_01_0 (h01 _ hm)).mpr q2), ao_gdn (by omega) (by omega), ao_gdn (by omega) (by omega), ao_ltr, ao_nar (Or.inr rfl)]
              have hx := ag_x1_s (s := t) (c := 38) (m := m) (v := 1) rfl
              refine Or.inr ⟨_, hj _ _, ⟨ag_one_tr hf ag_one_s, fun n hn => ?_, fun z => (hx 0).mpr (Or.inl (hB z)), fun Y hY n hn q => ?_⟩, ?_⟩
              · by_cases hnk : n = m
                · subst hnk; rw [ao_sI_s]; exact Or.inr rfl
                · rw [ao_sI_i hnk]; exact h01 n hn
              · rcases (hx n).mp q with q | q
                · exact hU Y hY n hn q
                · subst q
                  exact hY _ hn ⟨q0, Or.inr ⟨k / 2, hp, ao_ed_half e1, hU Y hY _ hp q1⟩⟩
              · exact ao_n_lt (i := m) (fun n hn q q' => q ((hx n).mpr (Or.inl q'))) hm q2 (fun q => q ((hx _).mpr (Or.inr rfl)))
          · rw [if_pos ((ao_01_0 (h01 _ hp)).mpr q1)]
            exact Or.inl ⟨fun ⟨m', _, _, q, _⟩ => q1 q, hj t w⟩
    · obtain ⟨z1, z2⟩ := ao_b_eq1.mp ((hv' n hn).symm.trans q)
      exact hY n hn ⟨fun y => z2 (y.symm.trans z1), Or.inl ⟨z1, z2⟩⟩
    · rintro t ⟨⟨hf, h01, hB, hU⟩, hC⟩
      refine hk t hf h01 (ao_S_OV ⟨fun n hn hx => ?_, hU⟩)
      rcases hx with ⟨hx1, ⟨hx2, hx3⟩ | ⟨p, hp, hed, hx⟩⟩
      · rw [hx2]; exact hB hx3
      · obtain ⟨j, hj, hj1, hj2⟩ := ao_ed_ex hp hed
        exact Classical.byContradiction fun q => hC j hj ⟨n, hj1, hx1, by rw [hj2]; exact hx, q⟩
/-- the rows say what is over what -/
def ag_OB (s : aw_S) (Γ : ag_T) : Prop := ∀ v n, v < ag_N Γ → n < ag_N Γ → s.1 37 (112 * v + n) = ao_b (ao_OV (ag_N Γ) (ag_nx Γ) v n)
set_option maxHeartbeats 4000000 in
theorem ag_layOver {σ : aw_S} {Γ : ag_T} (hT : ao_TB σ (ag_N Γ) (ag_nx Γ)) : ao_ok (m_Rf_layOver σ) (fun s => ag_two 37 38 σ s ∧ ag_OB s Γ) := by
  have hN := hT.1.1
  unfold m_Rf_layOver
  refine ao_bd (ao_for (Q := fun (s : aw_S) => ao_ok (some s) (fun s => ag_two 37 38 σ s ∧ ag_OB s Γ)) (ag_N Γ) (fun k (s : Int32 × aw_S) => s.1 = nI k ∧ ag_two 37 38 σ s.2 ∧ ∀ v n, v < k → n < ag_N Γ → s.2.1 37 (112 * v + n) = ao_b (ao_OV (ag_N Γ) (ag_nx Γ) v n)) (a := 0) ⟨rfl, ⟨rfl, fun _ _ _ => rfl⟩, fun v n hv => absurd hv (Nat.not_lt_zero _)⟩ (Nat.zero_le _) (by omega) ?_ ?_)
  · rintro v ⟨x, s⟩ hv ⟨e1, hf, ho⟩
    have e1 : x = nI v := e1
    subst e1
    have hf : ag_two 37 38 σ s := hf
    have ho : ∀ u n, u < v → n < ag_N Γ → s.1 37 (112 * u + n) = ao_b (ao_OV (ag_N Γ) (ag_nx Γ) u n) := ho
    have hTs := ag_two_TB hf (by omega) (by omega) hT
    show ao_ok (m_Rf_layOver_B2 s (nI v)) _
    unfold m_Rf_layOver_B2
    rw [hTs.2.1, if_neg (nI_ge hv (by omega))]
    refine ag_seenOver hTs hv (fun t ht h01 hov => ?_)
    have hft := ag_two_tr hf (ag_two_2 (c := 37) ht)
    refine ao_bd (ao_imp (ao_for (Q := fun (u : aw_S) => ag_two 37 38 σ u ∧ (∀ j, (∀ n, n < ag_N Γ → j ≠ 112 * v + n) → u.1 37 j = s.1 37 j) ∧ ∀ n, n < ag_N Γ → u.1 37 (112 * v + n) = ao_b (ao_OV (ag_N Γ) (ag_nx Γ) v n)) (ag_N Γ) (fun k (u : Int32 × aw_S) => u.1 = nI k ∧ ag_two 37 38 σ u.2 ∧ u.2.1 38 = t.1 38 ∧ (∀ j, (∀ n, n < ag_N Γ → j ≠ 112 * v + n) → u.2.1 37 j = s.1 37 j) ∧ ∀ n, n < k → u.2.1 37 (112 * v + n) = ao_b (ao_OV (ag_N Γ) (ag_nx Γ) v n)) (a := 0) ⟨rfl, hft, rfl, fun j _ => congrFun (ht.2 37 (by omega)) j, fun n hn => absurd hn (Nat.not_lt_zero _)⟩ (Nat.zero_le _) (by omega) ?_ ?_) ?_)
    · rintro k ⟨x, u⟩ hk ⟨e1, hu, h38, hj, hn'⟩
      have e1 : x = nI k := e1
      subst e1
      have hu : ag_two 37 38 σ u := hu
      have h38 : u.1 38 = t.1 38 := h38
      show ao_ok (m_Rf_layOver_B138 u (nI v) (nI k)) _
      unfold m_Rf_layOver_B138
      rw [(ag_two_TB hu (by omega) (by omega) hT).2.1, if_neg (nI_ge hk (by omega)), ao_gdn (by omega) (by omega), nI_clamp (by omega), h38, show (112 : Int32) = nI 112 from rfl, pk_mul, nI_add]
      have hJ : ∀ y, y = ao_b (ao_OV (ag_N Γ) (ag_nx Γ) v k) → ao_ok (m_Rf_layOver_J170 u (nI v) (nI k) (nI (112 * v + k)) y) (Sum.elim (fun (u : aw_S) => ag_two 37 38 σ u ∧ (∀ j, (∀ n, n < ag_N Γ → j ≠ 112 * v + n) → u.1 37 j = s.1 37 j) ∧ ∀ n, n < ag_N Γ → u.1 37 (112 * v + n) = ao_b (ao_OV (ag_N Γ) (ag_nx Γ) v n)) (fun (u : Int32 × aw_S) => u.1 = nI (k + 1) ∧ ag_two 37 38 σ u.2 ∧ u.2.1 38 = t.1 38 ∧ (∀ j, (∀ n, n < ag_N Γ → j ≠ 112 * v + n) → u.2.1 37 j = s.1 37 j) ∧ ∀ n, n < k + 1 → u.2.1 37 (112 * v + n) = ao_b (ao_OV (ag_N Γ) (ag_nx Γ) v n))) := by
        intro y hy
        unfold m_Rf_layOver_J170
        rw [ao_gdn (by omega) (by omega), nI_clamp (by omega), ao_nar (by rw [hy]; exact ao_01_b _)]
        refine ao_let (ao_let (ao_inr ⟨nI_1 k, ag_two_tr hu (ag_two_1 ag_one_s), (ao_sI_o (by decide)).trans h38, fun j hj' => (ao_sI_i (hj' k hk)).trans (hj j hj'), fun n hn => ?_⟩))
        show (aw_sI u 37 (112 * v + k) y).1 37 (112 * v + n) = _
        by_cases hnk : n = k
        · subst hnk; rw [ao_sI_s, hy]
        · rw [ao_sI_i (by omega)]; exact hn' n (by omega)
      refine ao_if (fun q => hJ 1 (ao_b1 ((hov k hk).mp ((ao_01_0 (h01 k hk)).mp q))).symm) (fun q => hJ 0 (ao_b0 (fun z => q ((ao_01_0 (h01 k hk)).mpr ((hov k hk).mpr z)))).symm)
    · rintro ⟨x, u⟩ ⟨e1, hu, h38, hj, hn'⟩
      have e1 : x = nI (ag_N Γ) := e1
      subst e1
      show ao_ok (m_Rf_layOver_B138 u (nI v) (nI (ag_N Γ))) _
      unfold m_Rf_layOver_B138
      rw [(ag_two_TB hu (by omega) (by omega) hT).2.1, if_pos (nI_le (Nat.le_refl _) (by omega))]
      exact ao_inl ⟨hu, hj, hn'⟩
    · rintro u ⟨hu, hj, hn'⟩
      refine ao_let (ao_inr ⟨nI_1 v, hu, fun v' n hv' hn => ?_⟩)
      show u.1 37 (112 * v' + n) = _
      by_cases q : v' = v
      · subst q; exact hn' n hn
      · rw [hj _ (fun m hm z => by omega)]
        exact ho v' n (by omega) hn
  · rintro ⟨x, s⟩ ⟨e1, hf, ho⟩
    have e1 : x = nI (ag_N Γ) := e1
    subst e1
    show ao_ok (m_Rf_layOver_B2 s (nI (ag_N Γ))) _
    unfold m_Rf_layOver_B2
    rw [(ag_two_TB hf (by omega) (by omega) hT).2.1, if_pos (nI_le (Nat.le_refl _) (by omega))]
    exact ao_inl (ao_some ⟨hf, fun v n hv hn => ho v n hv hn⟩)
theorem ag_isOverB {s : aw_S} {Γ : ag_T} (hN : ag_N Γ ≤ 112) (h : ag_OB s Γ) {v n : Nat} (hv : v < ag_N Γ) (hn : n < ag_N Γ) : m_Rf_isOver s (nI v) (nI n) = some (ao_b (ao_OV (ag_N Γ) (ag_nx Γ) v n)) := by
  unfold m_Rf_isOver
  rw [show (112 : Int32) = nI 112 from rfl, pk_mul, nI_add, ao_gdn (by omega) (by omega), nI_clamp (by omega), h v n hv hn]
  exact aw_gd_t (ao_b_01 _)
set_option maxHeartbeats 4000000 in
theorem ag_isHeadB {s : aw_S} {Γ : ag_T} (hT : ao_TB s (ag_N Γ) (ag_nx Γ)) (h : ag_OB s Γ) {v : Nat} (hv : v < ag_N Γ) : m_Rf_isHead s (nI v) = some (ao_b (ao_HD (ag_N Γ) (ag_nx Γ) v)) := by
  have hN := hT.1.1
  have : ao_ok (m_Rf_isHead s (nI v)) (fun r => r = ao_b (ao_HD (ag_N Γ) (ag_nx Γ) v)) := by
    unfold m_Rf_isHead
    refine ao_bd (ao_for (Q := fun x => ao_ok (Sum.elim (fun y16 => some y16) (fun y17 => some ((0 : Int32))) x) (fun r => r = ao_b (ao_HD (ag_N Γ) (ag_nx Γ) v))) (2 * ag_N Γ) (fun k t => t = nI k ∧ ∀ i, i < k → ag_nx Γ i = some v → ¬ ao_OV (ag_N Γ) (ag_nx Γ) v (i / 2)) (a := 0) ⟨rfl, fun i hi => absurd hi (Nat.not_lt_zero _)⟩ (Nat.zero_le _) (by omega) ?_ ?_)
    · rintro k t hk ⟨e2, hi⟩
      subst e2
      show ao_ok (m_Rf_isHead_B2 s (nI v) (nI k)) _
      unfold m_Rf_isHead_B2
      rw [hT.2.1, ao_mul2, if_neg (nI_ge hk (by omega)), ao_gdn (by omega) (by omega), nI_clamp (by omega), hT.2.2 k hk, ao_half (by omega)]
      have hno : (ag_nx Γ k = some v → ¬ ao_OV (ag_N Γ) (ag_nx Γ) v (k / 2)) → ao_ok (m_Rf_isHead_J35 s (nI v) (nI k)) (Sum.elim (fun x => ao_ok (Sum.elim (fun y16 => some y16) (fun y17 => some ((0 : Int32))) x) (fun r => r = ao_b (ao_HD (ag_N Γ) (ag_nx Γ) v))) (fun t => t = nI (k + 1) ∧ ∀ i, i < k + 1 → ag_nx Γ i = some v → ¬ ao_OV (ag_N Γ) (ag_nx Γ) v (i / 2))) := by
        intro hq
        refine ao_let (ao_inr ⟨nI_1 k, fun i hi' => ?_⟩)
        by_cases hik : i = k
        · subst hik; exact hq
        · exact hi i (by omega)
      by_cases q : ag_nx Γ k = some v
      · refine ao_ifp (by rw [q]; rfl) (ao_bde (ag_isOverB hN h hv (by omega)) ?_)
        by_cases q2 : ao_OV (ag_N Γ) (ag_nx Γ) v (k / 2)
        · exact ao_ifn (by rw [ao_b1 q2]; decide) (ao_inl (ao_some (ao_b1 ⟨k / 2, by omega, ao_ed_half q, q2⟩).symm))
        · exact ao_ifp (ao_b0 q2) (hno (fun _ => q2))
      · refine ao_ifn (fun z => q ?_) (hno (fun z => absurd z q))
        exact (ao_o_inj (t := ag_nx Γ k) (u := some v) (fun j hj => by have := hT.1.2.1 k hk j hj; omega) (fun j hj => by cases hj; omega)).mp z
    · rintro t ⟨e2, hi⟩
      subst e2
      show ao_ok (m_Rf_isHead_B2 s (nI v) (nI (2 * ag_N Γ))) _
      unfold m_Rf_isHead_B2
      rw [hT.2.1, ao_mul2, if_pos (nI_le (Nat.le_refl _) (by omega))]
      refine ao_inl (ao_some (ao_b0 (fun ⟨p, hp, hed, q⟩ => ?_)).symm)
      obtain ⟨k, hk, hk1, hk2⟩ := ao_ed_ex hp hed
      exact hi k hk hk1 (by rw [hk2]; exact q)
  obtain ⟨r, e, rfl⟩ := this
  exact e
set_option maxHeartbeats 4000000 in
theorem ag_layComing {σ : aw_S} {Γ : ag_T} (hT : ao_TB σ (ag_N Γ) (ag_nx Γ)) (hO : ag_OB σ Γ) {v : Nat} (hv : v < ag_N Γ) : ao_ok (m_Rf_layComing σ (nI v)) (fun s => ag_one 38 σ s ∧ (∀ n, n < ag_N Γ → ao_01 (s.1 38 n)) ∧ ∀ n, n < ag_N Γ → (ag_x1 s 38 n ↔ ao_IN (ag_N Γ) (ag_nx Γ) v n)) := by
  have hN := hT.1.1
  have O_ : ∀ s, ag_one 38 σ s → ag_OB s Γ := fun s hs u n hu hn => by rw [hs.2 37 (by omega)]; exact hO u n hu hn
  unfold m_Rf_layComing
  refine ao_bd (ao_imp (ao_for (Q := fun s => ag_one 38 σ s ∧ ∀ n, n < ag_N Γ → s.1 38 n = ao_b (n = v)) (ag_N Γ) (fun k s => s.1 = nI k ∧ ag_one 38 σ s.2 ∧ ∀ n, n < k → s.2.1 38 n = ao_b (n = v)) (a := 0) ⟨rfl, ag_one_rf, fun n hn => absurd hn (Nat.not_lt_zero _)⟩ (Nat.zero_le _) (by omega) ?_ ?_) ?_)
  · rintro i ⟨x, s⟩ hi ⟨e1, hf, hv'⟩
    have e1 : x = nI i := e1
    subst e1
    show ao_ok (m_Rf_layComing_B2 s (nI v) (nI i)) _
    unfold m_Rf_layComing_B2
    rw [(ag_one_TB hf (by omega) hT).2.1, if_neg (nI_ge hi (by omega))]
    have hJ : ∀ y, y = ao_b (i = v) → ao_ok (m_Rf_layComing_J25 s (nI v) (nI i) (nI i) y) (Sum.elim (fun s => ag_one 38 σ s ∧ ∀ n, n < ag_N Γ → s.1 38 n = ao_b (n = v)) (fun s => s.1 = nI (i + 1) ∧ ag_one 38 σ s.2 ∧ ∀ n, n < i + 1 → s.2.1 38 n = ao_b (n = v))) := by
      intro y hy
      unfold m_Rf_layComing_J25
      rw [ao_gdn (by omega) (by omega), nI_clamp (by omega), ao_nar (by rw [hy]; exact ao_01_b _)]
      refine ao_let (ao_let (ao_inr ⟨nI_1 i, ag_one_tr hf ag_one_s, fun n hn => ?_⟩))
      show (aw_sI s 38 i y).1 38 n = _
      by_cases hnk : n = i
      · subst hnk; rw [ao_sI_s, hy]
      · rw [ao_sI_i hnk]; exact hv' n (by omega)
    exact ao_if (fun q => hJ 1 (ao_b1 ((nI_eq (by omega) (by omega)).mp q)).symm) (fun q => hJ 0 (ao_b0 (fun z => q (by rw [z]))).symm)
  · rintro ⟨x, s⟩ ⟨e1, hf, hv'⟩
    have e1 : x = nI (ag_N Γ) := e1
    subst e1
    show ao_ok (m_Rf_layComing_B2 s (nI v) (nI (ag_N Γ))) _
    unfold m_Rf_layComing_B2
    rw [(ag_one_TB hf (by omega) hT).2.1, if_pos (nI_le (Nat.le_refl _) (by omega))]
    exact ao_inl ⟨hf, hv'⟩
  · rintro s ⟨hf, hv'⟩
    refine ao_bd (ao_imp (ao_chaos (fo := fun s => m_Rf_layComing_B34 s.2 (nI v) s.1) (fi := fun s => m_Rf_layComing_B42 s.2.2 (nI v) s.1 s.2.1) (2 * ag_N Γ) nI
      (fun t => ag_one 38 σ t ∧ (∀ n, n < ag_N Γ → ao_01 (t.1 38 n)) ∧ ag_x1 t 38 v ∧ ∀ Y : Nat → Prop, (∀ n, n < ag_N Γ → ao_fIN (ag_N Γ) (ag_nx Γ) v Y n → Y n) → ∀ n, n < ag_N Γ → ag_x1 t 38 n → Y n)
      (fun t => ao_n (fun n => ¬ ag_x1 t 38 n) (ag_N Γ)) (fun t k => ∃ m, ag_nx Γ k = some m ∧ ag_x1 t 38 m ∧ ¬ ag_x1 t 38 (k / 2) ∧ ao_OV (ag_N Γ) (ag_nx Γ) v (k / 2)) (by omega) ?_ ?_ ?_ ?_ ⟨hf, fun n hn => by rw [hv' n hn]; exact ao_01_b _, (hv' v hv).trans (ao_b1 rfl), fun Y hY n hn q => hY n hn (Or.inl (ao_b_eq1.mp ((hv' n hn).symm.trans q)))⟩ (by have := ao_n_le (fun n => ¬ ag_x1 s 38 n) (ag_N Γ); omega)) ?_)
    · intro t; rfl
    · rintro t _; rfl
    · rintro t w ⟨hf, _⟩
      show m_Rf_layComing_B42 t (nI v) w (nI (2 * ag_N Γ)) = _
      unfold m_Rf_layComing_B42
      rw [(ag_one_TB hf (by omega) hT).2.1, ao_mul2, if_pos (nI_le (Nat.le_refl _) (by omega))]
    · rintro t w k hk' ⟨hf, h01, hB, hU⟩ hw'
      show (_ ∧ m_Rf_layComing_B42 t (nI v) w (nI k) = _) ∨ (∃ s', m_Rf_layComing_B42 t (nI v) w (nI k) = _ ∧ _)
      have hTt := ag_one_TB hf (by omega) hT
      have hp : k / 2 < ag_N Γ := by omega
      have hj : ∀ t' v', m_Rf_layComing_J112 t' (nI v) v' (nI k) = some (.inr (v', nI (k + 1), t')) := fun t' v' => by rw [← nI_1 k]; rfl
      unfold m_Rf_layComing_B42
      rw [hTt.2.1, ao_mul2, if_neg (nI_ge hk' (by omega)), ao_gdn (by omega) (by omega), nI_clamp (by omega)]
      rcases ao_edge hTt hk' with ⟨e1, e2⟩ | ⟨m, e1, hm, e2, e3⟩
      · rw [if_pos e2]
        exact Or.inl ⟨fun ⟨m, q, _⟩ => (by rw [e1] at q; cases q), hj t w⟩
      · rw [if_neg e3, e2, ao_gdn (by omega) (by omega), ao_gdn (by omega) (by omega), nI_clamp (by omega), ao_half (by omega), ao_gdn (by omega) (by omega), nI_clamp (by omega)]
        by_cases q1 : ag_x1 t 38 m
        · rw [if_neg (fun z => (ao_01_0 (h01 _ hm)).mp z q1)]
          by_cases q2 : ag_x1 t 38 (k / 2)
          · rw [if_neg (fun z => (ao_01_0 (h01 _ hp)).mp z q2)]
            exact Or.inl ⟨fun ⟨m', _, _, q, _⟩ => q q2, hj t w⟩
          · rw [if_pos ((ao_01_0 (h01 _ hp)).mpr q2), aw_bd_s (ag_isOverB hN (O_ t hf) hv hp)]
            by_cases q3 : ao_OV (ag_N Γ) (ag_nx Γ) v (k / 2)
            · rw [if_neg (by rw [ao_b1 q3]; decide), ao_gdn (by omega) (by omega), ao_ltr, ao_nar (Or.inr rfl)]
              have hx := ag_x1_s (s := t) (c := 38) (m := k / 2) (v := 1) rfl
              refine Or.inr ⟨_, hj _ _, ⟨ag_one_tr hf ag_one_s, fun n hn => ?_, (hx v).mpr (Or.inl hB), fun Y hY n hn q => ?_⟩, ?_⟩
              · by_cases hnk : n = k / 2
                · subst hnk; rw [ao_sI_s]; exact Or.inr rfl
                · rw [ao_sI_i hnk]; exact h01 n hn
              · rcases (hx n).mp q with q | q
                · exact hU Y hY n hn q
                · subst q
                  exact hY _ hn (Or.inr ⟨q3, m, ao_ed_half e1, hU Y hY m hm q1⟩)
              · exact ao_n_lt (i := k / 2) (fun n hn q q' => q ((hx n).mpr (Or.inl q'))) hp q2 (fun q => q ((hx _).mpr (Or.inr rfl)))
            · rw [if_pos (ao_b0 q3)]
              exact Or.inl ⟨fun ⟨m', _, _, _, q⟩ => q3 q, hj t w⟩
        · rw [if_pos ((ao_01_0 (h01 _ hm)).mpr q1)]
          exact Or.inl ⟨fun ⟨m', q, q', _⟩ => (by rw [e1] at q; cases q; exact q1 q'), hj t w⟩
    · rintro t ⟨⟨hf, h01, hB, hU⟩, hC⟩
      refine ao_some ⟨hf, h01, ao_lf_L ⟨fun n hn hx => ?_, hU⟩ (fun _ _ _ => Iff.rfl)⟩
      rcases hx with hx | ⟨hx1, m, hed, hx⟩
      · rw [hx]; exact hB
      · obtain ⟨j, hj, hj1, hj2⟩ := ao_ed_ex hn hed
        exact Classical.byContradiction fun q => hC j hj ⟨m, hj1, hx, by rw [hj2]; exact q, by rw [hj2]; exact hx1⟩

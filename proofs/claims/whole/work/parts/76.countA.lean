/-! ===== the class: how many nodes lead to a node ===== -/
theorem ap_comingTo {s : aw_S} {N : Nat} {nx : Nat → Option Nat} (hN : N ≤ 112) (h13 : s.1 24 13 = nI N) (hx : ∀ m, m < N → s.1 36 m = ao_o (nx (2 * m)) ∧ s.1 37 m = ao_o (nx (2 * m + 1))) (hb : ∀ k t, k < 2 * N → nx k = some t → t < 112) {t : Nat} (ht : t < 112) : m_Gr_comingTo s (nI t) = some (nI (ao_n (fun m => ao_ed nx m t) N)) := by
  have main : ao_ok (m_Gr_comingTo s (nI t)) (fun r => r = nI (ao_n (fun m => ao_ed nx m t) N)) := by
    unfold m_Gr_comingTo
    refine ao_bd (ao_imp (ao_for (Q := fun r => r = nI (ao_n (fun m => ao_ed nx m t) N)) N (fun k (q : Int32 × Int32) => q.1 = nI (ao_n (fun m => ao_ed nx m t) k) ∧ q.2 = nI k) (a := 0) ⟨rfl, rfl⟩ (Nat.zero_le _) (by omega) ?_ ?_) (fun r hr => ao_some hr))
    · rintro k ⟨x, y⟩ hk ⟨e1, e2⟩
      have e1 : x = nI (ao_n (fun m => ao_ed nx m t) k) := e1
      have e2 : y = nI k := e2
      subst e1
      subst e2
      have q36 : ao_o (nx (2 * k)) = nI t ↔ nx (2 * k) = some t := ao_o_inj (u := some t) (fun u hu => by have := hb (2 * k) u (by omega) hu; omega) (fun u hu => by cases hu; omega)
      have q37 : ao_o (nx (2 * k + 1)) = nI t ↔ nx (2 * k + 1) = some t := ao_o_inj (u := some t) (fun u hu => by have := hb (2 * k + 1) u (by omega) hu; omega) (fun u hu => by cases hu; omega)
      show ao_ok (m_Gr_comingTo_B4 s (nI t) (nI (ao_n (fun m => ao_ed nx m t) k)) (nI k)) _
      unfold m_Gr_comingTo_B4
      rw [h13, if_neg (nI_ge hk (by omega)), ao_gdn (by omega) (by omega), nI_clamp (show k < 2 ^ 31 by omega), (hx k hk).1]
      have one : ao_ed nx k t → ao_ok (m_Gr_comingTo_J38 s (nI t) (nI k) (nI (ao_n (fun m => ao_ed nx m t) k)) (1 : Int32)) (Sum.elim (fun r => r = nI (ao_n (fun m => ao_ed nx m t) N)) (fun (q : Int32 × Int32) => q.1 = nI (ao_n (fun m => ao_ed nx m t) (k + 1)) ∧ q.2 = nI (k + 1))) := by
        intro q
        unfold m_Gr_comingTo_J38 m_Mo_oneIf
        refine ao_bd (ao_ifn (by decide) (ao_some ?_))
        refine ao_let (ao_let (ao_inr ⟨?_, nI_1 k⟩))
        rw [ao_n_s1 (X := fun m => ao_ed nx m t) q]
        exact nI_1 _
      by_cases c1 : nx (2 * k) = some t
      · exact ao_ifp (q36.mpr c1) (one (Or.inl c1))
      · refine ao_ifn (fun z => c1 (q36.mp z)) ?_
        rw [ao_gdn (by omega) (by omega), (hx k hk).2]
        by_cases c2 : nx (2 * k + 1) = some t
        · exact ao_ifp (q37.mpr c2) (one (Or.inr c2))
        · refine ao_ifn (fun z => c2 (q37.mp z)) ?_
          unfold m_Gr_comingTo_J38 m_Mo_oneIf
          refine ao_bd (ao_ifp rfl (ao_some ?_))
          refine ao_let (ao_let (ao_inr ⟨?_, nI_1 k⟩))
          rw [ao_n_s0 (X := fun m => ao_ed nx m t) (fun z => z.elim c1 c2)]
          exact Int32.add_zero _
    · rintro ⟨x, y⟩ ⟨e1, e2⟩
      have e2 : y = nI N := e2
      subst e2
      show ao_ok (m_Gr_comingTo_B4 s (nI t) x (nI N)) _
      unfold m_Gr_comingTo_B4
      rw [h13, if_pos (nI_le (Nat.le_refl _) (by omega))]
      exact ao_inl e1
  obtain ⟨r, h1, h2⟩ := main
  rw [h1, h2]
/-- nodes and edges -/
theorem ap_n_ed {nx : Nat → Option Nat} {t : Nat} (N : Nat) (h : ∀ m, m < N → nx (2 * m) = some t → nx (2 * m + 1) = some t → False) : ao_n (fun m => ao_ed nx m t) N = ao_n (fun j => nx j = some t) (2 * N) := by
  induction N with
  | zero => rfl
  | succ N ih =>
    have ih := ih (fun m hm => h m (by omega))
    rw [show 2 * (N + 1) = 2 * N + 1 + 1 by omega]
    by_cases q : nx (2 * N) = some t
    · have q' : ¬ nx (2 * N + 1) = some t := fun z => h N (by omega) q z
      rw [ao_n_s1 (X := fun m => ao_ed nx m t) (Or.inl q), ao_n_s0 (X := fun j => nx j = some t) q', ao_n_s1 (X := fun j => nx j = some t) q, ih]
    · by_cases q' : nx (2 * N + 1) = some t
      · rw [ao_n_s1 (X := fun m => ao_ed nx m t) (Or.inr q'), ao_n_s1 (X := fun j => nx j = some t) q', ao_n_s0 (X := fun j => nx j = some t) q, ih]
      · rw [ao_n_s0 (X := fun m => ao_ed nx m t) (fun z => z.elim q q'), ao_n_s0 (X := fun j => nx j = some t) q', ao_n_s0 (X := fun j => nx j = some t) q, ih]
/-- one taken away -/
theorem ap_n_less {X Y : Nat → Prop} {k : Nat} (hX : X k) (hY : ¬ Y k) (h : ∀ j, j ≠ k → (X j ↔ Y j)) : ∀ m, k < m → ao_n Y m + 1 = ao_n X m := by
  intro m
  induction m with
  | zero => intro z; omega
  | succ m ih =>
    intro hk
    by_cases q : k = m
    · have e : ao_n Y m = ao_n X m := ao_n_c (fun j hj => (h j (by omega)).symm)
      rw [← q] at e ⊢
      rw [ao_n_s1 hX, ao_n_s0 hY, e]
    · have := ih (by omega)
      by_cases qx : X m
      · rw [ao_n_s1 qx, ao_n_s1 ((h m (fun z => q z.symm)).mp qx)]; omega
      · rw [ao_n_s0 qx, ao_n_s0 (fun z => qx ((h m (fun z => q z.symm)).mpr z))]; exact this
/-- however far the splitting has gone, as many edges come to a node as ahead of it -/
theorem ap_sp_count {N0 : Nat} {nx0 : Nat → Option Nat} (ht : ∀ k t, k < 2 * N0 → nx0 k = some t → 0 < t ∧ t < N0) {t : Nat} (htl : t < N0) : ∀ k, k ≤ 2 * N0 → ao_n (fun j => (ap_sp N0 nx0 k).2 j = some t) (2 * (ap_sp N0 nx0 k).1) = ao_n (fun j => nx0 j = some t) (2 * N0) := by
  intro k
  induction k with
  | zero => intro _; rfl
  | succ k ih =>
    intro hk
    have ih := ih (by omega)
    have hI := ap_sp_i ht k (by omega)
    by_cases q : ∃ u, nx0 k = some u ∧ nx0 (2 * (k / 2) + 1) ≠ none ∧ ap_ct N0 nx0 u
    · obtain ⟨u, hu, hc⟩ := q
      rw [ap_sp_s1 hu hc]
      have e0 : (ap_sp N0 nx0 k).2 k = some u := (hI.2.2.1 k (Nat.le_refl _) (by omega)).trans hu
      have hle : N0 ≤ (ap_sp N0 nx0 k).1 := hI.1
      generalize (ap_sp N0 nx0 k).1 = N at ih hle ⊢
      generalize (ap_sp N0 nx0 k).2 = nx at ih e0 ⊢
      rw [← ih]
      show ao_n (fun j => (if j = k then some N else if j = 2 * N then some u else if j = 2 * N + 1 then none else nx j) = some t) (2 * (N + 1)) = _
      rw [show 2 * (N + 1) = 2 * N + 1 + 1 by omega]
      rw [ao_n_s0 (X := fun j => (if j = k then some N else if j = 2 * N then some u else if j = 2 * N + 1 then none else nx j) = some t) (n := 2 * N + 1) (by
        show ¬ (if 2 * N + 1 = k then some N else if 2 * N + 1 = 2 * N then some u else if 2 * N + 1 = 2 * N + 1 then none else nx (2 * N + 1)) = some t
        rw [if_neg (by omega), if_neg (by omega), if_pos rfl]
        exact fun z => by cases z)]
      by_cases qu : u = t
      · rw [ao_n_s1 (X := fun j => (if j = k then some N else if j = 2 * N then some u else if j = 2 * N + 1 then none else nx j) = some t) (n := 2 * N) (by
          show (if 2 * N = k then some N else if 2 * N = 2 * N then some u else if 2 * N = 2 * N + 1 then none else nx (2 * N)) = some t
          rw [if_neg (by omega), if_pos rfl, qu])]
        have e1 : ao_n (fun j => (if j = k then some N else if j = 2 * N then some u else if j = 2 * N + 1 then none else nx j) = some t) (2 * N) = ao_n (fun j => j ≠ k ∧ nx j = some t) (2 * N) := ao_n_c (fun j hj => by
          by_cases qj : j = k
          · rw [if_pos qj]
            exact ⟨fun z => absurd (Option.some.inj z) (by omega), fun z => absurd qj z.1⟩
          · rw [if_neg qj, if_neg (by omega), if_neg (by omega)]
            exact ⟨fun z => ⟨qj, z⟩, fun z => z.2⟩)
        rw [e1]
        exact ap_n_less (X := fun j => nx j = some t) (Y := fun j => j ≠ k ∧ nx j = some t) (k := k) (e0.trans (by rw [qu])) (fun z => z.1 rfl) (fun j hj => ⟨fun z => ⟨hj, z⟩, fun z => z.2⟩) (2 * N) (by omega)
      · rw [ao_n_s0 (X := fun j => (if j = k then some N else if j = 2 * N then some u else if j = 2 * N + 1 then none else nx j) = some t) (n := 2 * N) (by
          show ¬ (if 2 * N = k then some N else if 2 * N = 2 * N then some u else if 2 * N = 2 * N + 1 then none else nx (2 * N)) = some t
          rw [if_neg (by omega), if_pos rfl]
          exact fun z => qu (Option.some.inj z))]
        exact ao_n_c (fun j hj => by
          by_cases qj : j = k
          · rw [if_pos qj, qj, e0]
            exact ⟨fun z => absurd (Option.some.inj z) (by omega), fun z => absurd (Option.some.inj z) qu⟩
          · rw [if_neg qj, if_neg (by omega), if_neg (by omega)])
    · rw [ap_sp_s0 (fun u hu hc => q ⟨u, hu, hc⟩)]
      exact ih

/-! ===== the splitting: what it leaves sound ===== -/
theorem ap_x0_skip {Ψ : ap_T} {n : Nat} (h : ap_N0 Ψ ≤ n) (h0 : 0 < n) : ap_x0 Ψ (2 * n) = none ∧ ap_x0 Ψ (2 * n + 1) = none := by
  have e : n ≠ 0 := by omega
  refine ⟨?_, ?_⟩
  · unfold ap_x0
    rw [show 2 * n / 2 = n by omega, if_neg e, ap_li_none (Or.inr h)]
  · unfold ap_x0
    rw [show (2 * n + 1) / 2 = n by omega, if_neg e, ap_li_none (Or.inr h)]
theorem ap_n_none {X : Nat → Prop} {a m : Nat} (h : ∀ k, a ≤ k → k < a + m → ¬ X k) : ao_n X (a + m) = ao_n X a := by
  induction m with
  | zero => rfl
  | succ m ih =>
    rw [show a + (m + 1) = (a + m) + 1 by omega, ao_n_s0 (h (a + m) (by omega) (by omega))]
    exact ih (fun k h1 h2 => h k h1 (by omega))
/-- nodes with two edges: one a block at most -/
theorem ap_ask_le {Ψ : ap_T} (hw : ap_wf Ψ) {b : Nat} (hb : b ≤ ap_B Ψ) : ao_n (fun n => ap_x0 Ψ (2 * n + 1) ≠ none) (ap_bg Ψ b) ≤ b := by
  induction b with
  | zero =>
    show ao_n _ 1 ≤ 0
    rw [ao_n_s0 (X := fun n => ap_x0 Ψ (2 * n + 1) ≠ none) (fun z => z (ap_x0_0 Ψ).2)]
    exact Nat.le_refl _
  | succ b ih =>
    have ih := ih (by omega)
    by_cases q : ap_RB Ψ b
    · have e : ap_bg Ψ (b + 1) = (ap_bg Ψ b + ap_len Ψ b) + 1 := by rw [ap_bg_s1 q]; unfold ap_len; omega
      have h1 : ao_n (fun n => ap_x0 Ψ (2 * n + 1) ≠ none) (ap_bg Ψ b + ap_len Ψ b) = ao_n (fun n => ap_x0 Ψ (2 * n + 1) ≠ none) (ap_bg Ψ b) := by
        refine ap_n_none (fun k h1 h2 z => z ?_)
        have hpos := ap_bg_pos (Ψ := Ψ) (b := b)
        have hl := ap_li_s hw (b := b) (s := ap_fr Ψ b + (k - ap_bg Ψ b)) (by omega) q (by omega) (by unfold ap_len at h2; omega)
        rw [show ap_bg Ψ b + (ap_fr Ψ b + (k - ap_bg Ψ b) - ap_fr Ψ b) = k by omega] at hl
        exact (ap_x0_s (by omega) hl).2
      rw [e]
      have h2 : ao_n (fun n => ap_x0 Ψ (2 * n + 1) ≠ none) (ap_bg Ψ b + ap_len Ψ b + 1) ≤ ao_n (fun n => ap_x0 Ψ (2 * n + 1) ≠ none) (ap_bg Ψ b + ap_len Ψ b) + 1 := by
        by_cases z : ap_x0 Ψ (2 * (ap_bg Ψ b + ap_len Ψ b) + 1) ≠ none
        · rw [ao_n_s1 (X := fun n => ap_x0 Ψ (2 * n + 1) ≠ none) z]; omega
        · rw [ao_n_s0 (X := fun n => ap_x0 Ψ (2 * n + 1) ≠ none) z]; omega
      omega
    · rw [ap_bg_s0 q]; omega
theorem ap_two_le {X : Nat → Prop} (N : Nat) : ao_n (fun j => X (j / 2)) (2 * N) ≤ 2 * ao_n X N := by
  induction N with
  | zero => exact Nat.le_refl _
  | succ N ih =>
    rw [show 2 * (N + 1) = (2 * N + 1) + 1 by omega]
    by_cases q : X N
    · rw [ao_n_s1 (X := fun j => X (j / 2)) (show X ((2 * N + 1) / 2) by rw [show (2 * N + 1) / 2 = N by omega]; exact q), ao_n_s1 (X := fun j => X (j / 2)) (show X (2 * N / 2) by rw [show 2 * N / 2 = N by omega]; exact q), ao_n_s1 q]
      omega
    · rw [ao_n_s0 (X := fun j => X (j / 2)) (show ¬ X ((2 * N + 1) / 2) by rw [show (2 * N + 1) / 2 = N by omega]; exact q), ao_n_s0 (X := fun j => X (j / 2)) (show ¬ X (2 * N / 2) by rw [show 2 * N / 2 = N by omega]; exact q), ao_n_s0 q]
      exact ih
/-- what holds of the edges at each place of the splitting -/
def ap_si (N0 : Nat) (nx0 : Nat → Option Nat) (k N : Nat) (nx : Nat → Option Nat) : Prop :=
  N0 ≤ N ∧ N ≤ N0 + ao_n (fun j => nx0 (2 * (j / 2) + 1) ≠ none) k ∧ (∀ j, k ≤ j → j < 2 * N0 → nx j = nx0 j) ∧
  (∀ j, j < k → j < 2 * N0 → nx j = nx0 j ∨ ∃ m t, N0 ≤ m ∧ m < N ∧ nx j = some m ∧ nx0 j = some t ∧ nx (2 * m) = some t ∧ nx0 (2 * (j / 2) + 1) ≠ none ∧ ap_ct N0 nx0 t) ∧
  (∀ m, N0 ≤ m → m < N → (∃ t, 0 < t ∧ t < N0 ∧ nx (2 * m) = some t) ∧ nx (2 * m + 1) = none) ∧
  (∀ i j m, i < j → j < 2 * N0 → nx i = some m → nx j = some m → m < N0)
theorem ap_sp_s0 {N0 : Nat} {nx0 : Nat → Option Nat} {k : Nat} (h : ∀ t, nx0 k = some t → ¬ (nx0 (2 * (k / 2) + 1) ≠ none ∧ ap_ct N0 nx0 t)) : ap_sp N0 nx0 (k + 1) = ap_sp N0 nx0 k := by
  show (match nx0 k with | none => _ | some t => _) = _
  cases q : nx0 k with
  | none => rfl
  | some t => exact if_neg (h t q)
theorem ap_sp_s1 {N0 : Nat} {nx0 : Nat → Option Nat} {k t : Nat} (h : nx0 k = some t) (hc : nx0 (2 * (k / 2) + 1) ≠ none ∧ ap_ct N0 nx0 t) : ap_sp N0 nx0 (k + 1) = ((ap_sp N0 nx0 k).1 + 1, fun j => if j = k then some (ap_sp N0 nx0 k).1 else if j = 2 * (ap_sp N0 nx0 k).1 then some t else if j = 2 * (ap_sp N0 nx0 k).1 + 1 then none else (ap_sp N0 nx0 k).2 j) := by
  show (match nx0 k with | none => _ | some t => _) = _
  rw [h]
  exact if_pos hc
theorem ap_sp_i {N0 : Nat} {nx0 : Nat → Option Nat} (ht : ∀ k t, k < 2 * N0 → nx0 k = some t → 0 < t ∧ t < N0) : ∀ k, k ≤ 2 * N0 → ap_si N0 nx0 k (ap_sp N0 nx0 k).1 (ap_sp N0 nx0 k).2 := by
  intro k
  induction k with
  | zero =>
    intro _
    refine ⟨Nat.le_refl _, Nat.le_add_right _ _, fun _ _ _ => rfl, fun j hj => absurd hj (Nat.not_lt_zero _), fun m h1 h2 => absurd h2 (by show ¬ m < N0; omega), fun i j m hij hj h1 h2 => (ht j m hj h2).2⟩
  | succ k ih =>
    intro hk
    obtain ⟨a1, a2, a3, a4, a5, a6⟩ := ih (by omega)
    by_cases q : ∃ t, nx0 k = some t ∧ (nx0 (2 * (k / 2) + 1) ≠ none ∧ ap_ct N0 nx0 t)
    · obtain ⟨t, e, hc⟩ := q
      rw [ap_sp_s1 e hc]
      generalize ap_sp N0 nx0 k = P at a1 a2 a3 a4 a5 a6 ⊢
      obtain ⟨N, nx⟩ := P
      have a1 : N0 ≤ N := a1
      have a2 : N ≤ N0 + ao_n (fun j => nx0 (2 * (j / 2) + 1) ≠ none) k := a2
      have a3 : ∀ j, k ≤ j → j < 2 * N0 → nx j = nx0 j := a3
      have a4 : ∀ j, j < k → j < 2 * N0 → nx j = nx0 j ∨ ∃ m t, N0 ≤ m ∧ m < N ∧ nx j = some m ∧ nx0 j = some t ∧ nx (2 * m) = some t ∧ nx0 (2 * (j / 2) + 1) ≠ none ∧ ap_ct N0 nx0 t := a4
      have a5 : ∀ m, N0 ≤ m → m < N → (∃ t, 0 < t ∧ t < N0 ∧ nx (2 * m) = some t) ∧ nx (2 * m + 1) = none := a5
      have a6 : ∀ i j m, i < j → j < 2 * N0 → nx i = some m → nx j = some m → m < N0 := a6
      obtain ⟨nx', hnx'⟩ : ∃ nx' : Nat → Option Nat, nx' = fun j => if j = k then some N else if j = 2 * N then some t else if j = 2 * N + 1 then none else nx j := ⟨_, rfl⟩
      have n1 : nx' k = some N := by rw [hnx']; exact if_pos rfl
      have n2 : nx' (2 * N) = some t := by rw [hnx']; show (if _ then _ else _) = _; rw [if_neg (by omega), if_pos rfl]
      have n3 : nx' (2 * N + 1) = none := by rw [hnx']; show (if _ then _ else _) = _; rw [if_neg (by omega), if_neg (by omega), if_pos rfl]
      have n4 : ∀ j, j ≠ k → j < 2 * N → nx' j = nx j := fun j h1 h2 => by rw [hnx']; show (if _ then _ else _) = _; rw [if_neg h1, if_neg (by omega), if_neg (by omega)]
      show ap_si N0 nx0 (k + 1) (N + 1) (fun j => if j = k then some N else if j = 2 * N then some t else if j = 2 * N + 1 then none else nx j)
      rw [← hnx']
      have bnd : ∀ j m, j < 2 * N0 → nx j = some m → m < N := by
        intro j m hj hm
        by_cases hjk : k ≤ j
        · rw [a3 j hjk hj] at hm
          have := (ht j m hj hm).2
          omega
        · rcases a4 j (by omega) hj with z | ⟨m', t', z1, z2, z3, _⟩
          · rw [z] at hm
            have := (ht j m hj hm).2
            omega
          · rw [z3] at hm; cases hm; exact z2
      refine ⟨by omega, ?_, fun j h1 h2 => ?_, fun j h1 h2 => ?_, fun m h1 h2 => ?_, fun i j m hij hj h1 h2 => ?_⟩
      · rw [ao_n_s1 (X := fun j => nx0 (2 * (j / 2) + 1) ≠ none) hc.1]; omega
      · rw [n4 j (by omega) (by omega)]; exact a3 j (by omega) h2
      · by_cases hjk : j = k
        · subst hjk
          exact Or.inr ⟨N, t, a1, by omega, n1, e, n2, hc.1, hc.2⟩
        · rw [n4 j hjk (by omega)]
          rcases a4 j (by omega) h2 with z | ⟨m, t', z1, z2, z3, z4, z5, z6⟩
          · exact Or.inl z
          · exact Or.inr ⟨m, t', z1, by omega, z3, z4, (n4 (2 * m) (by omega) (by omega)).trans z5, z6⟩
      · by_cases hm : m = N
        · subst hm
          obtain ⟨t1, t2⟩ := ht k t (by omega) e
          exact ⟨⟨t, t1, t2, n2⟩, n3⟩
        · obtain ⟨⟨t', y1, y2, y3⟩, y4⟩ := a5 m h1 (by omega)
          exact ⟨⟨t', y1, y2, (n4 (2 * m) (by omega) (by omega)).trans y3⟩, (n4 (2 * m + 1) (by omega) (by omega)).trans y4⟩
      · by_cases hik : i = k
        · subst hik
          rw [n1] at h1
          cases h1
          rw [n4 j (by omega) (by omega)] at h2
          exact absurd (bnd j _ hj h2) (Nat.lt_irrefl _)
        · rw [n4 i hik (by omega)] at h1
          by_cases hjk : j = k
          · subst hjk
            rw [n1] at h2
            cases h2
            exact absurd (bnd i _ (by omega) h1) (Nat.lt_irrefl _)
          · rw [n4 j hjk (by omega)] at h2
            exact a6 i j m hij hj h1 h2
    · rw [ap_sp_s0 (fun t e hc => q ⟨t, e, hc⟩)]
      refine ⟨a1, ?_, fun j h1 h2 => a3 j (by omega) h2, fun j h1 h2 => ?_, a5, a6⟩
      · refine Nat.le_trans a2 ?_
        show _ ≤ N0 + (ao_n _ k + _)
        omega
      · by_cases hjk : j = k
        · subst hjk; exact Or.inl (a3 j (Nat.le_refl _) h2)
        · exact a4 j (by omega) h2
/-- the graph of a sound program is sound -/
theorem ap_sp_N {Ψ : ap_T} (hw : ap_wf Ψ) : ap_N0 Ψ ≤ (ap_sp (ap_N0 Ψ) (ap_x0 Ψ) (2 * ap_N0 Ψ)).1 ∧ (ap_sp (ap_N0 Ψ) (ap_x0 Ψ) (2 * ap_N0 Ψ)).1 ≤ 109 := by
  obtain ⟨a1, a2, _⟩ := ap_sp_i (N0 := ap_N0 Ψ) (nx0 := ap_x0 Ψ) (fun k t hk e => ap_x0_lt hw hk e) (2 * ap_N0 Ψ) (Nat.le_refl _)
  have h1 := ap_ask_le hw (Nat.le_refl (ap_B Ψ))
  have h2 := ap_two_le (X := fun n => ap_x0 Ψ (2 * n + 1) ≠ none) (ap_N0 Ψ)
  have h3 := ap_N0_le hw
  have h4 := hw.2.1
  unfold ap_N0 at h2 h3 a1 a2 ⊢
  exact ⟨a1, by omega⟩
theorem ap_gr_N {Ψ : ap_T} : ag_N (ap_gr Ψ) = (ap_sp (ap_N0 Ψ) (ap_x0 Ψ) (2 * ap_N0 Ψ)).1 := rfl
theorem ap_gr_nx {Ψ : ap_T} : ag_nx (ap_gr Ψ) = (ap_sp (ap_N0 Ψ) (ap_x0 Ψ) (2 * ap_N0 Ψ)).2 := rfl
theorem ap_si_nn {N0 N k : Nat} {nx0 nx : Nat → Option Nat} (h : ap_si N0 nx0 k N nx) {j : Nat} (hj : j < 2 * N0) : nx j = none ↔ nx0 j = none := by
  obtain ⟨a1, a2, a3, a4, a5, a6⟩ := h
  by_cases hjk : k ≤ j
  · rw [a3 j hjk hj]
  · rcases a4 j (by omega) hj with z | ⟨m, t, z1, z2, z3, z4, _⟩
    · rw [z]
    · rw [z3, z4]; simp
set_option maxHeartbeats 4000000 in
theorem ap_gr_wf {Ψ : ap_T} (hw : ap_wf Ψ) : ag_wf (ap_gr Ψ) := by
  obtain ⟨hN0, hN⟩ := ap_sp_N hw
  have hi := ap_sp_i (N0 := ap_N0 Ψ) (nx0 := ap_x0 Ψ) (fun k t hk e => ap_x0_lt hw hk e) (2 * ap_N0 Ψ) (Nat.le_refl _)
  have h77 := ap_N0_le hw
  have hpos : 0 < ap_N0 Ψ := ap_bg_pos
  unfold ag_wf
  rw [ap_gr_N, ap_gr_nx]
  generalize hP : ap_sp (ap_N0 Ψ) (ap_x0 Ψ) (2 * ap_N0 Ψ) = P at hN0 hN hi ⊢
  obtain ⟨N, nx⟩ := P
  have hi : ap_si (ap_N0 Ψ) (ap_x0 Ψ) (2 * ap_N0 Ψ) N nx := hi
  have hN0 : ap_N0 Ψ ≤ N := hN0
  have hN : N ≤ 109 := hN
  have hnx : ag_nx (ap_gr Ψ) = nx := by rw [ap_gr_nx, hP]
  obtain ⟨a1, a2, a3, a4, a5, a6⟩ := id hi
  have bnd : ∀ k t, k < 2 * N → nx k = some t → 0 < t ∧ t < N := by
    intro k t hk e
    by_cases q : k < 2 * ap_N0 Ψ
    · rcases a4 k q q with z | ⟨m, t', z1, z2, z3, z4, _⟩
      · rw [z] at e
        have := ap_x0_lt hw q e
        omega
      · rw [z3] at e; cases e; omega
    · obtain ⟨⟨t', y1, y2, y3⟩, y4⟩ := a5 (k / 2) (by omega) (by omega)
      rcases (show k = 2 * (k / 2) ∨ k = 2 * (k / 2) + 1 by omega) with z | z
      · rw [z, y3] at e; cases e; omega
      · rw [z, y4] at e; cases e
  have nodeE : ∀ n, 0 < n → n < ap_N0 Ψ → ∀ b, ap_li Ψ n = some (b, none) → (nx (2 * n) = none ↔ ap_e1 Ψ b = none) ∧ (nx (2 * n + 1) = none ↔ ap_x0 Ψ (2 * n + 1) = none) := by
    intro n h0 hn b hl
    refine ⟨(ap_si_nn hi (by omega)).trans ?_, ap_si_nn hi (by omega)⟩
    rw [(ap_x0_e h0 hl).1, Option.map_eq_none_iff]
  show ao_tp N nx ∧ 0 < N ∧ (∀ k, k < 2 * N → nx k ≠ some 0) ∧ (∀ n, n < N → nx (2 * n + 1) ≠ none → nx (2 * n) ≠ nx (2 * n + 1)) ∧ ag_kd (ap_gr Ψ) 0 = 0 ∧ (∀ n, n < N → ag_nk (ap_gr Ψ) n) ∧ _
  refine ⟨⟨by omega, fun k hk t e => (bnd k t hk e).2, fun n hn e => ?_⟩, by omega, fun k hk e => absurd (bnd k 0 hk e).1 (Nat.lt_irrefl _), fun n hn h1 h2 => ?_, ?_, fun n hn => ?_, hw.2.2.2.2.2.2.2.2.1, hw.2.2.2.2.2.2.2.2.2, hw.2.1, hw.1⟩
  · by_cases q : n < ap_N0 Ψ
    · rw [ap_si_nn hi (by omega)] at e ⊢
      by_cases h0 : n = 0
      · subst h0; exact (ap_x0_0 Ψ).2
      · rcases ap_li_ex hw (n := n) (by omega) q with ⟨b, s, _, _, _, _, _, hl⟩ | ⟨b, hb, _, _, hl⟩
        · exact (ap_x0_s (by omega) hl).2
        · obtain ⟨x1, x2⟩ := ap_x0_e (show 0 < n by omega) hl
          rw [x1, Option.map_eq_none_iff] at e
          rw [x2]
          rcases hw.2.2.2.2.2.2.2.1 b hb with z | z | z
          · rw [z.2.2.2, e, if_pos rfl]
          · obtain ⟨t, _, et⟩ := z.2.2.1; rw [et] at e; cases e
          · rw [z.2.2.2, e, if_pos rfl]
    · exact (a5 n (by omega) hn).2
  · have hn0 : n < ap_N0 Ψ := by
      refine Nat.lt_of_not_le fun z => h1 (a5 n z hn).2
    cases e1 : nx (2 * n + 1) with
    | none => exact h1 e1
    | some m =>
      rw [e1] at h2
      have hm := a6 (2 * n) (2 * n + 1) m (by omega) (by omega) h2 e1
      -- both unsplit
      have u1 : ap_x0 Ψ (2 * n) = some m := by
        rcases a4 (2 * n) (by omega) (by omega) with z | ⟨m', t, z1, z2, z3, _⟩
        · rw [← z]; exact h2
        · rw [z3] at h2; cases h2; omega
      have u2 : ap_x0 Ψ (2 * n + 1) = some m := by
        rcases a4 (2 * n + 1) (by omega) (by omega) with z | ⟨m', t, z1, z2, z3, _⟩
        · rw [← z]; exact e1
        · rw [z3] at e1; cases e1; omega
      by_cases h0 : n = 0
      · subst h0; rw [(ap_x0_0 Ψ).2] at u2; cases u2
      · rcases ap_li_ex hw (n := n) (by omega) hn0 with ⟨b, s, _, _, _, _, _, hl⟩ | ⟨b, hb, hr, _, hl⟩
        · rw [(ap_x0_s (by omega) hl).2] at u2; cases u2
        · obtain ⟨x1, x2⟩ := ap_x0_e (show 0 < n by omega) hl
          rw [x1] at u1
          rw [x2] at u2
          by_cases q : ap_e2 Ψ b = ap_e1 Ψ b
          · rw [if_pos q] at u2; cases u2
          · rw [if_neg q] at u2
            rcases hw.2.2.2.2.2.2.2.1 b hb with z | z | z
            · rw [z.2.2.2] at u2; cases u2
            · obtain ⟨t1, ht1, et1⟩ := z.2.2.1
              obtain ⟨t2, ht2, et2⟩ := z.2.2.2
              rw [et1] at u1
              rw [et2] at u2
              have r1 := ap_RB_s hb ht1 hr (Or.inl et1)
              have r2 := ap_RB_s hb ht2 hr (Or.inr et2)
              have := ap_bg_inj r1 r2 ((Option.some.inj u1).trans (Option.some.inj u2).symm)
              exact q (by rw [et1, et2, this])
            · rw [z.2.2.2] at u2; cases u2
  · show ap_nk Ψ (ap_li Ψ 0) = 0
    rw [ap_li_none (Or.inl rfl)]; rfl
  · unfold ag_nk
    rw [hnx]
    have skip : ap_li Ψ n = none → nx (2 * n) ≠ none → nx (2 * n + 1) = none → ag_kd (ap_gr Ψ) n = 0 ∧ ag_bl (ap_gr Ψ) n = none ∧ ag_le (ap_gr Ψ) n = none ∧ ag_op (ap_gr Ψ) n = none ∧ ag_ex (ap_gr Ψ) n = none ∧ nx (2 * n) ≠ none ∧ nx (2 * n + 1) = none := by
      intro hl z1 z2
      refine ⟨?_, ?_, ?_, ?_, ?_, z1, z2⟩
      · show ap_nk Ψ (ap_li Ψ n) = 0; rw [hl]; rfl
      · show (ap_li Ψ n).map _ = none; rw [hl]; rfl
      · show ap_nl Ψ (ap_li Ψ n) = none; rw [hl]; rfl
      · show ap_nop Ψ (ap_li Ψ n) = none; rw [hl]; rfl
      · show ap_nex Ψ (ap_li Ψ n) = none; rw [hl]; rfl
    by_cases h0 : n = 0
    · subst h0
      refine Or.inl (skip (ap_li_none (Or.inl rfl)) (fun z => ?_) ?_)
      · rw [ap_si_nn hi (by omega)] at z; rw [(ap_x0_0 Ψ).1] at z; cases z
      · rw [ap_si_nn hi (by omega)]; exact (ap_x0_0 Ψ).2
    by_cases q : n < ap_N0 Ψ
    · rcases ap_li_ex hw (n := n) (by omega) q with ⟨b, s, hb, hr, hs1, hs2, _, hl⟩ | ⟨b, hb, hr, _, hl⟩
      · have hsS := ap_s_lt hw hb hs2
        obtain ⟨x1, x2⟩ := ap_x0_s (show 0 < n by omega) hl
        have y1 : nx (2 * n) ≠ none := fun z => by rw [ap_si_nn hi (by omega), x1] at z; cases z
        have y2 : nx (2 * n + 1) = none := by rw [ap_si_nn hi (by omega)]; exact x2
        have ek : ag_kd (ap_gr Ψ) n = ap_sk Ψ s := by show ap_nk Ψ (ap_li Ψ n) = _; rw [hl]; rfl
        have eb : ag_bl (ap_gr Ψ) n = some b := by show (ap_li Ψ n).map _ = _; rw [hl]; rfl
        have el : ag_le (ap_gr Ψ) n = ap_sl Ψ s := by show ap_nl Ψ (ap_li Ψ n) = _; rw [hl]; rfl
        have eo : ag_op (ap_gr Ψ) n = if ap_sk Ψ s = 2 then none else some (ap_sr Ψ s) := by show ap_nop Ψ (ap_li Ψ n) = _; rw [hl]; rfl
        have ee : ag_ex (ap_gr Ψ) n = if ap_sk Ψ s = 2 then some (ap_sr Ψ s) else none := by show ap_nex Ψ (ap_li Ψ n) = _; rw [hl]; rfl
        have hb16 : b < 16 := by have := hw.2.1; omega
        rcases hw.2.2.2.2.2.2.1 s hsS with z | z | z
        · refine Or.inr (Or.inl ⟨ek.trans z.1, ⟨b, hb16, eb⟩, by rw [el]; exact z.2.1, ⟨ap_sr Ψ s, z.2.2, by rw [eo, if_neg (by omega)]⟩, by rw [ee, if_neg (by omega)], y1, y2⟩)
        · refine Or.inr (Or.inr (Or.inl ⟨ek.trans z.1, ⟨b, hb16, eb⟩, by rw [el]; exact z.2.1, by rw [eo, if_pos z.1], ⟨ap_sr Ψ s, z.2.2, by rw [ee, if_pos z.1]⟩, y1, y2⟩))
        · refine Or.inr (Or.inr (Or.inr (Or.inl ⟨ek.trans z.1, ⟨b, hb16, eb⟩, by rw [el]; exact z.2.1, ⟨ap_sr Ψ s, z.2.2, by rw [eo, if_neg (by omega)]⟩, by rw [ee, if_neg (by omega)], y1, y2⟩)))
      · obtain ⟨y1, y2⟩ := nodeE n (by omega) q b hl
        have x2 := (ap_x0_e (show 0 < n by omega) hl).2
        have ek : ag_kd (ap_gr Ψ) n = ap_ek Ψ b := by show ap_nk Ψ (ap_li Ψ n) = _; rw [hl]; rfl
        have eb : ag_bl (ap_gr Ψ) n = some b := by show (ap_li Ψ n).map _ = _; rw [hl]; rfl
        have el : ag_le (ap_gr Ψ) n = ap_ev Ψ b := by show ap_nl Ψ (ap_li Ψ n) = _; rw [hl]; rfl
        have eo : ag_op (ap_gr Ψ) n = none := by show ap_nop Ψ (ap_li Ψ n) = _; rw [hl]; rfl
        have ee : ag_ex (ap_gr Ψ) n = none := by show ap_nex Ψ (ap_li Ψ n) = _; rw [hl]; rfl
        have e1 : ag_t1 (ap_gr Ψ) n = ap_e1 Ψ b := by show ap_n1 Ψ (ap_li Ψ n) = _; rw [hl]; rfl
        have e2 : ag_t2 (ap_gr Ψ) n = ap_e2 Ψ b := by show ap_n2 Ψ (ap_li Ψ n) = _; rw [hl]; rfl
        have hB16 := hw.2.1
        have hb16 : b < 16 := by omega
        rcases hw.2.2.2.2.2.2.2.1 b hb with z | z | z
        · obtain ⟨t, ht, et⟩ := z.2.2.1
          refine Or.inr (Or.inr (Or.inr (Or.inr (Or.inl ⟨ek.trans z.1, ⟨b, hb16, eb⟩, el.trans z.2.1, eo, ee, fun w => ?_, y2.mpr ?_, t, by omega, e1.trans et⟩))))
          · rw [y1, et] at w; cases w
          · rw [x2, z.2.2.2, if_neg (by rw [et]; simp)]; rfl
        · obtain ⟨t, ht, et⟩ := z.2.2.1
          obtain ⟨u, hu, eu⟩ := z.2.2.2
          refine Or.inr (Or.inr (Or.inr (Or.inr (Or.inr (Or.inl ⟨ek.trans z.1, ⟨b, hb16, eb⟩, by rw [el]; exact z.2.1, eo, ee, fun w => ?_, ⟨t, by omega, e1.trans et⟩, u, by omega, e2.trans eu⟩)))))
          rw [y1, et] at w; cases w
        · refine Or.inr (Or.inr (Or.inr (Or.inr (Or.inr (Or.inr ⟨ek.trans z.1, ⟨b, hb16, eb⟩, el.trans z.2.1, eo, ee, y1.mpr z.2.2.1, y2.mpr ?_⟩)))))
          rw [x2, z.2.2.2, z.2.2.1, if_pos rfl]
    · obtain ⟨⟨t, _, _, y3⟩, y4⟩ := a5 n (by omega) hn
      exact Or.inl (skip (ap_li_none (Or.inr (by omega))) (fun z => by rw [y3] at z; cases z) y4)

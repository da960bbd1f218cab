/-! ===== THE GRAPH: its edges, in the class's rows ===== -/
/-- where edges lead from n -/
def ao_sl (nx : Nat → Option Nat) (n : Nat) : List Nat := (nx (2 * n)).toList ++ (nx (2 * n + 1)).toList
def ao_ed (nx : Nat → Option Nat) (p n : Nat) : Prop := nx (2 * p) = some n ∨ nx (2 * p + 1) = some n
/-- where they come from -/
def ao_pl (N : Nat) (nx : Nat → Option Nat) (n : Nat) : List Nat := (List.range N).filter (fun p => decide (nx (2 * p) = some n ∨ nx (2 * p + 1) = some n))
theorem ao_sl_mem {nx : Nat → Option Nat} {n m : Nat} : m ∈ ao_sl nx n ↔ ao_ed nx n m := by
  unfold ao_sl ao_ed
  rw [List.mem_append, Option.mem_toList, Option.mem_toList]
theorem ao_pl_mem {N : Nat} {nx : Nat → Option Nat} {n m : Nat} : m ∈ ao_pl N nx n ↔ m < N ∧ ao_ed nx m n := by
  unfold ao_pl ao_ed
  rw [List.mem_filter, List.mem_range, decide_eq_true_iff]
/-- sound edges -/
def ao_tp (N : Nat) (nx : Nat → Option Nat) : Prop := N ≤ 112 ∧ (∀ k, k < 2 * N → ∀ t, nx k = some t → t < N) ∧ ∀ n, n < N → nx (2 * n) = none → nx (2 * n + 1) = none
def ao_TA (σ : aw_S) (N : Nat) (nx : Nat → Option Nat) : Prop := ao_tp N nx ∧ σ.1 24 13 = nI N ∧ (∀ n, n < N → σ.1 36 n = ao_o (nx (2 * n)) ∧ σ.1 37 n = ao_o (nx (2 * n + 1))) ∧ ∃ fs : Nat → Nat, (∀ n, n ≤ N → σ.1 39 n = nI (fs n) ∧ fs n ≤ 256) ∧ (∀ n, n < N → fs (n + 1) = fs n + (ao_pl N nx n).length) ∧ ∀ n k x, n < N → (ao_pl N nx n)[k]? = some x → σ.1 38 (fs n + k) = nI x
theorem ao_ed_lt {N : Nat} {nx : Nat → Option Nat} (h : ao_tp N nx) {p n : Nat} (hp : p < N) (he : ao_ed nx p n) : n < N := by
  rcases he with e | e
  · exact h.2.1 _ (by omega) _ e
  · exact h.2.1 _ (by omega) _ e
theorem ao_isNode {σ : aw_S} {N n : Nat} (hN : σ.1 24 13 = nI N) (h2 : N ≤ 112) (h : n < N) : m_Gr_isNode σ (nI n) = some 1 := by
  unfold m_Gr_isNode
  rw [if_neg (nI_pos (by omega)), hN, if_neg (nI_ge h (by omega)), if_neg (show ¬ (128 : Int32) ≤ nI n from nI_ge (b := 128) (by omega) (by omega))]
theorem ao_isNode0 {σ : aw_S} {N : Nat} {x : Int32} (hN : σ.1 24 13 = nI N) (h2 : N ≤ 112) (h : ¬ ∃ n, n < N ∧ x = nI n) : m_Gr_isNode σ x = some 0 := by
  unfold m_Gr_isNode
  by_cases h0 : x < 0
  · rw [if_pos h0]
  · obtain ⟨j, hj, rfl⟩ := nI_of h0
    rw [if_neg h0, hN, if_pos (nI_le (by
      refine Nat.le_of_not_lt (fun hlt => h ⟨j, hlt, rfl⟩)) hj)]
theorem ao_nodeE (σ : aw_S) {N : Nat} (x : Int32) (hN : σ.1 24 13 = nI N) (h2 : N ≤ 112) : (∃ n, n < N ∧ x = nI n ∧ m_Gr_isNode σ x = some 1) ∨ ((¬ ∃ n, n < N ∧ x = nI n) ∧ m_Gr_isNode σ x = some 0) := by
  by_cases h : ∃ n, n < N ∧ x = nI n
  · obtain ⟨n, hn, rfl⟩ := h
    exact Or.inl ⟨n, hn, rfl, ao_isNode hN h2 hn⟩
  · exact Or.inr ⟨h, ao_isNode0 hN h2 h⟩
theorem ao_one_1 (σ : aw_S) : m_Mo_oneIf σ 1 = some 1 := rfl
theorem ao_one_0 (σ : aw_S) : m_Mo_oneIf σ 0 = some 0 := rfl
theorem ao_leads {σ : aw_S} {N : Nat} {nx : Nat → Option Nat} (h : ao_TA σ N nx) {n : Nat} (hn : n < N) : m_Gr_edgesFrom σ (nI n) = some (nI (ao_sl nx n).length) := by
  obtain ⟨⟨hN, ht, hz⟩, h1, h2, -⟩ := h
  unfold m_Gr_edgesFrom
  rw [aw_bd_s (ao_isNode h1 hN hn), if_neg (by decide), ao_gdn (by omega) (by omega), nI_clamp (by omega), (h2 n hn).1]
  have hz := hz n hn
  have hb : ∀ k t, k < 2 * N → nx k = some t → t < 2 ^ 31 := fun k t hk e => Nat.lt_trans (ht k hk t e) (by omega)
  unfold ao_sl
  cases e1 : nx (2 * n) with
  | none =>
    rw [if_pos (show ao_o none = -1 from rfl)]
    unfold m_Gr_edgesFrom_J23
    rw [aw_bd_s (ao_one_0 σ), ao_gdn (by omega) (by omega), nI_clamp (by omega), (h2 n hn).2, hz e1, if_pos (show ao_o none = -1 from rfl)]
    rfl
  | some t =>
    rw [if_neg (show ¬ ao_o (some t) = -1 from ao_m1 (hb _ _ (by omega) e1))]
    unfold m_Gr_edgesFrom_J23
    rw [aw_bd_s (ao_one_1 σ), ao_gdn (by omega) (by omega), nI_clamp (by omega), (h2 n hn).2]
    cases e2 : nx (2 * n + 1) with
    | none => rw [if_pos (show ao_o none = -1 from rfl)]; rfl
    | some u => rw [if_neg (show ¬ ao_o (some u) = -1 from ao_m1 (hb _ _ (by omega) e2))]; rfl
theorem ao_next {σ : aw_S} {N : Nat} {nx : Nat → Option Nat} (h : ao_TA σ N nx) {n k x : Nat} (hn : n < N) (hk : (ao_sl nx n)[k]? = some x) : m_Gr_kthTarget σ (nI n) (nI k) = some (nI x) := by
  obtain ⟨⟨hN, ht, hz⟩, h1, h2, -⟩ := h
  unfold m_Gr_kthTarget
  rw [aw_bd_s (ao_isNode h1 hN hn), if_neg (by decide), ao_gdn (by omega) (by omega), ao_gdn (by omega) (by omega), nI_clamp (by omega), (h2 n hn).1, (h2 n hn).2]
  have hz := hz n hn
  unfold ao_sl at hk
  cases e1 : nx (2 * n) with
  | none => rw [e1, hz e1] at hk; cases hk
  | some t =>
    rw [e1] at hk
    match k, hk with
    | 0, hk => cases hk; rw [if_pos (by decide)]; rfl
    | 1, hk =>
      rw [if_neg (by decide)]
      cases e2 : nx (2 * n + 1) with
      | none => rw [e2] at hk; cases hk
      | some u => rw [e2] at hk; cases hk; rfl
    | k + 2, hk =>
      cases e2 : nx (2 * n + 1) with
      | none => rw [e2] at hk; cases hk
      | some u => rw [e2] at hk; cases hk
theorem ao_comes {σ : aw_S} {N : Nat} {nx : Nat → Option Nat} (h : ao_TA σ N nx) {n : Nat} (hn : n < N) : m_Gr_edgesTo σ (nI n) = some (nI (ao_pl N nx n).length) := by
  obtain ⟨⟨hN, ht, hz⟩, h1, h2, fs, h3, h4, h5⟩ := h
  unfold m_Gr_edgesTo
  rw [aw_bd_s (ao_isNode h1 hN hn), if_neg (by decide), nI_1, ao_gdn (by omega) (by omega), ao_gdn (by omega) (by omega), nI_clamp (by omega), nI_clamp (by omega), (h3 n (by omega)).1, (h3 (n + 1) (by omega)).1, h4 n hn, pk_sub (by omega), Nat.add_sub_cancel_left]
theorem ao_ltr0 {α β : Type} (e : α) (k : α → β) : aw_lt e k = k e := rfl
theorem ao_before {σ : aw_S} {N : Nat} {nx : Nat → Option Nat} (h : ao_TA σ N nx) {n k x : Nat} (hn : n < N) (hk : (ao_pl N nx n)[k]? = some x) : m_Gr_kthSource σ (nI n) (nI k) = some (nI x) := by
  have hc := ao_comes h hn
  obtain ⟨⟨hN, ht, hz⟩, h1, h2, fs, h3, h4, h5⟩ := h
  have hkl := (List.getElem?_eq_some_iff.mp hk).1
  have h6 := (h3 (n + 1) (by omega)).2
  have h7 := h4 n hn
  unfold m_Gr_kthSource
  rw [aw_bd_s (ao_isNode h1 hN hn), if_neg (by decide), if_neg (nI_pos (by omega)), nI_1, ao_gdn (by omega) (by omega), ao_gdn (by omega) (by omega), ao_gdn (by omega) (by omega), nI_clamp (by omega), nI_clamp (by omega), (h3 n (by omega)).1, (h3 (n + 1) (by omega)).1, h7, pk_sub (by omega), Nat.add_sub_cancel_left, if_pos (nI_lt hkl (by omega)), ao_ltr0, nI_add, if_neg (nI_pos (by omega)), if_neg (show ¬ (256 : Int32) ≤ nI (fs n + k) from nI_ge (b := 256) (by omega) (by omega)), ao_gdn (by omega) (by omega), nI_clamp (by omega), h5 n k x hn hk]
/-- the rows that the edges stand on have not moved -/
theorem ao_TA_fr {σ σ' : aw_S} {N : Nat} {nx : Nat → Option Nat} (h : ao_TA σ N nx) (e0 : σ'.1 24 13 = σ.1 24 13) (e1 : σ'.1 36 = σ.1 36) (e2 : σ'.1 37 = σ.1 37) (e3 : σ'.1 38 = σ.1 38) (e4 : σ'.1 39 = σ.1 39) : ao_TA σ' N nx := by
  unfold ao_TA
  rw [e0, e1, e2, e3, e4]
  exact h
theorem ao_TA_ch {K : List Nat} {J : List (Nat × Nat)} {σ σ' : aw_S} {N : Nat} {nx : Nat → Option Nat} (h : ao_TA σ N nx) (hc : ao_ch K J σ σ') (hK : ∀ k ∈ [24, 36, 37, 38, 39], k ∉ K) (hJ : ∀ q ∈ J, q.1 ∉ [24, 36, 37, 38, 39]) : ao_TA σ' N nx :=
  ao_TA_fr h (hc 24 13 (hK 24 (by decide)) (fun hm => hJ _ hm (by decide))) (ao_ch_row hc 36 (hK 36 (by decide)) (fun q hq e => hJ q hq (by rw [e]; decide))) (ao_ch_row hc 37 (hK 37 (by decide)) (fun q hq e => hJ q hq (by rw [e]; decide))) (ao_ch_row hc 38 (hK 38 (by decide)) (fun q hq e => hJ q hq (by rw [e]; decide))) (ao_ch_row hc 39 (hK 39 (by decide)) (fun q hq e => hJ q hq (by rw [e]; decide)))

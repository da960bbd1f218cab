/-! ===== THE PROGRAM AS A GRAPH: edges; of each node kind, block, letter, operand, expression, targets; the expressions; how many blocks ===== -/
abbrev ag_T : Type := (Nat × (Nat → Option Nat)) × ((Nat → Nat) × (Nat → Option Nat) × (Nat → Option Nat) × (Nat → Option Nat) × (Nat → Option Nat) × (Nat → Option Nat) × (Nat → Option Nat)) × (Nat × (Nat → Nat) × (Nat → Nat) × (Nat → Nat)) × Nat
def ag_N (Γ : ag_T) : Nat := Γ.1.1
def ag_nx (Γ : ag_T) : Nat → Option Nat := Γ.1.2
def ag_kd (Γ : ag_T) : Nat → Nat := Γ.2.1.1
def ag_bl (Γ : ag_T) : Nat → Option Nat := Γ.2.1.2.1
def ag_le (Γ : ag_T) : Nat → Option Nat := Γ.2.1.2.2.1
def ag_op (Γ : ag_T) : Nat → Option Nat := Γ.2.1.2.2.2.1
def ag_ex (Γ : ag_T) : Nat → Option Nat := Γ.2.1.2.2.2.2.1
def ag_t1 (Γ : ag_T) : Nat → Option Nat := Γ.2.1.2.2.2.2.2.1
def ag_t2 (Γ : ag_T) : Nat → Option Nat := Γ.2.1.2.2.2.2.2.2
def ag_X (Γ : ag_T) : Nat := Γ.2.2.1.1
def ag_sg (Γ : ag_T) : Nat → Nat := Γ.2.2.1.2.1
def ag_lf (Γ : ag_T) : Nat → Nat := Γ.2.2.1.2.2.1
def ag_rt (Γ : ag_T) : Nat → Nat := Γ.2.2.1.2.2.2
def ag_nb (Γ : ag_T) : Nat := Γ.2.2.2
/-- the letter that a node changes -/
def ag_ch (Γ : ag_T) (n : Nat) : Option Nat := if ag_kd Γ n = 1 ∨ ag_kd Γ n = 2 then ag_le Γ n else none
def ag_sgs : List Nat := [43, 45, 42, 47, 37, 38, 60]
/-- how a node of each kind is made -/
def ag_nk (Γ : ag_T) (n : Nat) : Prop :=
  (ag_kd Γ n = 0 ∧ ag_bl Γ n = none ∧ ag_le Γ n = none ∧ ag_op Γ n = none ∧ ag_ex Γ n = none ∧ ag_nx Γ (2 * n) ≠ none ∧ ag_nx Γ (2 * n + 1) = none) ∨
  (ag_kd Γ n = 1 ∧ (∃ b, b < 16 ∧ ag_bl Γ n = some b) ∧ (∃ v, v < 26 ∧ ag_le Γ n = some v) ∧ (∃ a, a < 1026 ∧ ag_op Γ n = some a) ∧ ag_ex Γ n = none ∧ ag_nx Γ (2 * n) ≠ none ∧ ag_nx Γ (2 * n + 1) = none) ∨
  (ag_kd Γ n = 2 ∧ (∃ b, b < 16 ∧ ag_bl Γ n = some b) ∧ (∃ v, v < 26 ∧ ag_le Γ n = some v) ∧ ag_op Γ n = none ∧ (∃ e, e < ag_X Γ ∧ ag_ex Γ n = some e) ∧ ag_nx Γ (2 * n) ≠ none ∧ ag_nx Γ (2 * n + 1) = none) ∨
  (ag_kd Γ n = 3 ∧ (∃ b, b < 16 ∧ ag_bl Γ n = some b) ∧ ag_le Γ n = none ∧ (∃ a, a < 1026 ∧ ag_op Γ n = some a) ∧ ag_ex Γ n = none ∧ ag_nx Γ (2 * n) ≠ none ∧ ag_nx Γ (2 * n + 1) = none) ∨
  (ag_kd Γ n = 4 ∧ (∃ b, b < 16 ∧ ag_bl Γ n = some b) ∧ ag_le Γ n = none ∧ ag_op Γ n = none ∧ ag_ex Γ n = none ∧ ag_nx Γ (2 * n) ≠ none ∧ ag_nx Γ (2 * n + 1) = none ∧ ∃ t, t < 16 ∧ ag_t1 Γ n = some t) ∨
  (ag_kd Γ n = 5 ∧ (∃ b, b < 16 ∧ ag_bl Γ n = some b) ∧ (∃ v, v < 26 ∧ ag_le Γ n = some v) ∧ ag_op Γ n = none ∧ ag_ex Γ n = none ∧ ag_nx Γ (2 * n) ≠ none ∧ (∃ t, t < 16 ∧ ag_t1 Γ n = some t) ∧ ∃ t, t < 16 ∧ ag_t2 Γ n = some t) ∨
  (ag_kd Γ n = 6 ∧ (∃ b, b < 16 ∧ ag_bl Γ n = some b) ∧ ag_le Γ n = none ∧ ag_op Γ n = none ∧ ag_ex Γ n = none ∧ ag_nx Γ (2 * n) = none ∧ ag_nx Γ (2 * n + 1) = none)
def ag_wf (Γ : ag_T) : Prop :=
  ao_tp (ag_N Γ) (ag_nx Γ) ∧ 0 < ag_N Γ ∧ (∀ k, k < 2 * ag_N Γ → ag_nx Γ k ≠ some 0) ∧ (∀ n, n < ag_N Γ → ag_nx Γ (2 * n + 1) ≠ none → ag_nx Γ (2 * n) ≠ ag_nx Γ (2 * n + 1)) ∧ ag_kd Γ 0 = 0 ∧ (∀ n, n < ag_N Γ → ag_nk Γ n) ∧ ag_X Γ ≤ 24 ∧ (∀ e, e < ag_X Γ → ag_sg Γ e ∈ ag_sgs ∧ ag_lf Γ e < 1026 ∧ ag_rt Γ e < 1026) ∧ ag_nb Γ ≤ 16 ∧ 0 < ag_nb Γ
/-- an expression that can fault -/
def ag_RI (Γ : ag_T) (e : Nat) : Prop := (ag_sg Γ e = 47 ∨ ag_sg Γ e = 37) ∧ ag_rt Γ e < 27
def ag_US (Γ : ag_T) (e n : Nat) : Prop := ag_ex Γ n = some e
def ag_KE (Γ : ag_T) (e n : Nat) : Prop := (∀ v, ag_ch Γ n = some v → ag_lf Γ e ≠ v ∧ ag_rt Γ e ≠ v) ∧ (ag_RI Γ e → ag_kd Γ n ≠ 3 ∧ ∀ f, ag_ex Γ n = some f → f = e ∨ ¬ ag_RI Γ f)
/-- the facts of an expression, by number -/
def ag_F (Γ : ag_T) (e : Nat) : Nat → Nat → Prop
  | 0 => ag_US Γ e
  | 1 => ag_KE Γ e
  | 2 => ao_NE (ag_N Γ) (ag_nx Γ) (ag_US Γ e) (ag_KE Γ e)
  | 3 => ao_AH (ag_N Γ) (ag_nx Γ) (ag_US Γ e) (ag_KE Γ e)
  | 4 => ao_EA (ag_N Γ) (ag_nx Γ) (ag_US Γ e) (ag_KE Γ e)
  | 5 => ao_DE (ag_N Γ) (ag_nx Γ) (ag_US Γ e) (ag_KE Γ e)
  | 6 => ao_LA (ag_N Γ) (ag_nx Γ) (ag_US Γ e) (ag_KE Γ e)
  | _ => ao_AL (ag_N Γ) (ag_nx Γ) (ag_US Γ e) (ag_KE Γ e)
/-- of a placement (true: the busy one): put in, replaced, alive -/
def ag_P (Γ : ag_T) (e : Nat) (how : Bool) : Nat → Nat → Prop
  | 0 => ao_PU (ag_N Γ) (ag_nx Γ) (ag_US Γ e) (ag_KE Γ e) how
  | 1 => ao_RE (ag_N Γ) (ag_nx Γ) (ag_US Γ e) (ag_KE Γ e) how
  | _ => ao_LI (ag_N Γ) (ag_nx Γ) (ag_US Γ e) (ag_KE Γ e) how
/-! ===== the graph in the reference ===== -/
def ag_B (σ : aw_S) (Γ : ag_T) : Prop :=
  ao_TB σ (ag_N Γ) (ag_nx Γ) ∧ (∀ n, n < ag_N Γ → σ.1 4 n = nI (ag_kd Γ n) ∧ σ.1 5 n = ao_o (ag_bl Γ n)) ∧
  (∀ n, n < ag_N Γ → ag_kd Γ n = 1 ∨ ag_kd Γ n = 2 ∨ ag_kd Γ n = 3 → ∃ s, s < 60 ∧ σ.1 6 n = nI s ∧ σ.1 1 (64 + s) = ao_o (ag_le Γ n) ∧ (ag_kd Γ n ≠ 2 → σ.1 1 (124 + s) = ao_o (ag_op Γ n)) ∧ (ag_kd Γ n = 2 → σ.1 1 (124 + s) = ao_o (ag_ex Γ n))) ∧
  (∀ n, n < ag_N Γ → ¬ (ag_kd Γ n = 1 ∨ ag_kd Γ n = 2 ∨ ag_kd Γ n = 3) → σ.1 6 n = -1) ∧
  (∀ n b, n < ag_N Γ → ag_kd Γ n = 5 → ag_bl Γ n = some b → σ.1 1 (220 + b) = ao_o (ag_le Γ n)) ∧
  (∀ n b, n < ag_N Γ → (ag_kd Γ n = 4 ∨ ag_kd Γ n = 5) → ag_bl Γ n = some b → σ.1 1 (236 + 2 * b) = ao_o (ag_t1 Γ n) ∧ (ag_kd Γ n = 5 → σ.1 1 (237 + 2 * b) = ao_o (ag_t2 Γ n))) ∧
  σ.1 1 2 = nI (ag_X Γ) ∧ (∀ e, e < ag_X Γ → σ.1 1 (268 + e) = nI (ag_sg Γ e) ∧ σ.1 1 (292 + 2 * e) = nI (ag_lf Γ e) ∧ σ.1 1 (293 + 2 * e) = nI (ag_rt Γ e)) ∧ σ.1 1 0 = nI (ag_nb Γ)
theorem ag_B_fr {σ σ' : aw_S} {Γ : ag_T} (h : ag_B σ Γ) (e0 : σ'.1 0 14 = σ.1 0 14) (e1 : σ'.1 1 = σ.1 1) (e4 : σ'.1 4 = σ.1 4) (e5 : σ'.1 5 = σ.1 5) (e6 : σ'.1 6 = σ.1 6) (e7 : σ'.1 7 = σ.1 7) : ag_B σ' Γ := by
  unfold ag_B at h ⊢
  rw [e1, e4, e5, e6]
  exact ⟨ao_TB_fr h.1 e0 e7, h.2⟩
theorem ag_get {σ : aw_S} {k : Nat} (h : k < 1700) : m_Rf_get σ (nI k) = some (σ.1 1 k) := by
  unfold m_Rf_get
  rw [ao_gdn h (by omega), nI_clamp (by omega)]
theorem ag_kd_lt {Γ : ag_T} {n : Nat} (h : ag_nk Γ n) : ag_kd Γ n < 7 := by
  rcases h with h | h | h | h | h | h | h <;> have := h.1 <;> omega
/-- kinds by number, in Int32 -/
theorem ag_kI {a b : Nat} (ha : a < 7) (hb : b < 7) : nI a = nI b ↔ a = b := nI_eq (by omega) (by omega)
theorem ag_expressionOf {σ : aw_S} {Γ : ag_T} (hw : ag_wf Γ) (h : ag_B σ Γ) {n : Nat} (hn : n < ag_N Γ) : m_Rf_expressionOf σ (nI n) = some (ao_o (ag_ex Γ n)) := by
  have hN := hw.1.1
  have hk := hw.2.2.2.2.2.1 n hn
  have hk7 := ag_kd_lt hk
  unfold m_Rf_expressionOf
  rw [ao_gdn (by omega) (by omega), ao_gdn (by omega) (by omega), nI_clamp (by omega), (h.2.1 n hn).1]
  by_cases q : ag_kd Γ n = 2
  · obtain ⟨s, hs, e6, e64, _, e124⟩ := h.2.2.1 n hn (Or.inr (Or.inl q))
    rw [if_pos (show nI (ag_kd Γ n) = (2 : Int32) by rw [q]; rfl), e6, show (124 : Int32) = nI 124 from rfl, nI_add, aw_bd_s (ag_get (by omega)), e124 q]
  · rw [if_neg (show ¬ nI (ag_kd Γ n) = (2 : Int32) from fun z => q ((ag_kI hk7 (b := 2) (by omega)).mp z))]
    have : ag_ex Γ n = none := by
      rcases hk with z | z | z | z | z | z | z
      · exact z.2.2.2.2.1
      · exact z.2.2.2.2.1
      · exact absurd z.1 q
      · exact z.2.2.2.2.1
      · exact z.2.2.2.2.1
      · exact z.2.2.2.2.1
      · exact z.2.2.2.2.1
    rw [this]; rfl
theorem ag_changed {σ : aw_S} {Γ : ag_T} (hw : ag_wf Γ) (h : ag_B σ Γ) {n : Nat} (hn : n < ag_N Γ) : m_Rf_changed σ (nI n) = some (ao_o (ag_ch Γ n)) := by
  have hN := hw.1.1
  have hk := hw.2.2.2.2.2.1 n hn
  have hk7 := ag_kd_lt hk
  have hJ : ag_kd Γ n = 1 ∨ ag_kd Γ n = 2 → m_Rf_changed_J20 σ (nI n) = some (ao_o (ag_le Γ n)) := by
    intro q
    obtain ⟨s, hs, e6, e64, _, e124⟩ := h.2.2.1 n hn (by omega)
    unfold m_Rf_changed_J20
    rw [ao_gdn (by omega) (by omega), nI_clamp (by omega), e6, show (64 : Int32) = nI 64 from rfl, nI_add, aw_bd_s (ag_get (by omega)), e64]
  unfold m_Rf_changed ag_ch
  rw [ao_gdn (by omega) (by omega), ao_gdn (by omega) (by omega), nI_clamp (by omega), (h.2.1 n hn).1]
  by_cases q1 : ag_kd Γ n = 1
  · rw [if_pos (show nI (ag_kd Γ n) = (1 : Int32) by rw [q1]; rfl), hJ (Or.inl q1), if_pos (Or.inl q1)]
  · rw [if_neg (show ¬ nI (ag_kd Γ n) = (1 : Int32) from fun z => q1 ((ag_kI hk7 (b := 1) (by omega)).mp z))]
    by_cases q2 : ag_kd Γ n = 2
    · rw [if_pos (show nI (ag_kd Γ n) = (2 : Int32) by rw [q2]; rfl), hJ (Or.inr q2), if_pos (Or.inr q2)]
    · rw [if_neg (show ¬ nI (ag_kd Γ n) = (2 : Int32) from fun z => q2 ((ag_kI hk7 (b := 2) (by omega)).mp z)), if_neg (by omega)]
      rfl
theorem ag_isRisky {σ : aw_S} {Γ : ag_T} (hw : ag_wf Γ) (h : ag_B σ Γ) {e : Nat} (he : e < ag_X Γ) : m_Rf_isRisky σ (nI e) = some (ao_b (ag_RI Γ e)) := by
  have hX := hw.2.2.2.2.2.2.1
  obtain ⟨hs, hl, hr⟩ := hw.2.2.2.2.2.2.2.1 e he
  have hsl : ag_sg Γ e < 256 := by
    unfold ag_sgs at hs
    simp only [List.mem_cons, List.not_mem_nil, or_false] at hs
    omega
  obtain ⟨e1, e2, e3⟩ := h.2.2.2.2.2.2.2.1 e he
  have hJ : ∀ p : Prop, p → (ag_sg Γ e = 47 ∨ ag_sg Γ e = 37) → m_Rf_isRisky_J28 σ (nI e) = some (ao_b (ag_RI Γ e)) := by
    intro _ _ q
    unfold m_Rf_isRisky_J28
    rw [ao_mul2, show (292 : Int32) = nI 292 from rfl, nI_add, nI_1, aw_bd_s (ag_get (by omega)), show 292 + 2 * e + 1 = 293 + 2 * e by omega, e3]
    by_cases z : ag_rt Γ e < 27
    · rw [if_neg (show ¬ (27 : Int32) ≤ nI (ag_rt Γ e) from nI_ge (b := 27) z (by omega)), ao_b1 ⟨q, z⟩]
    · rw [if_pos (show (27 : Int32) ≤ nI (ag_rt Γ e) from nI_le (a := 27) (by omega) (by omega)), ao_b0 (fun y => z y.2)]
  unfold m_Rf_isRisky
  rw [show (268 : Int32) = nI 268 from rfl, nI_add, aw_bd_s (ag_get (by omega)), aw_bd_s (ag_get (by omega)), e1]
  by_cases q1 : ag_sg Γ e = 47
  · rw [if_pos (show nI (ag_sg Γ e) = (47 : Int32) by rw [q1]; rfl)]
    exact hJ True trivial (Or.inl q1)
  · rw [if_neg (show ¬ nI (ag_sg Γ e) = (47 : Int32) from fun z => q1 ((nI_eq (by omega) (b := 47) (by omega)).mp z))]
    by_cases q2 : ag_sg Γ e = 37
    · rw [if_pos (show nI (ag_sg Γ e) = (37 : Int32) by rw [q2]; rfl)]
      exact hJ True trivial (Or.inr q2)
    · rw [if_neg (show ¬ nI (ag_sg Γ e) = (37 : Int32) from fun z => q2 ((nI_eq (by omega) (b := 37) (by omega)).mp z)), ao_b0 (fun y => y.1.elim q1 q2)]
theorem ag_ex_lt {Γ : ag_T} (hw : ag_wf Γ) {n e : Nat} (hn : n < ag_N Γ) (h : ag_ex Γ n = some e) : e < ag_X Γ := by
  have hk := hw.2.2.2.2.2.1 n hn
  rcases hk with z | z | z | z | z | z | z
  · rw [z.2.2.2.2.1] at h; cases h
  · rw [z.2.2.2.2.1] at h; cases h
  · obtain ⟨e', he', q⟩ := z.2.2.2.2.1
    rw [q] at h; cases h; exact he'
  · rw [z.2.2.2.2.1] at h; cases h
  · rw [z.2.2.2.2.1] at h; cases h
  · rw [z.2.2.2.2.1] at h; cases h
  · rw [z.2.2.2.2.1] at h; cases h
theorem ag_le_lt {Γ : ag_T} (hw : ag_wf Γ) {n v : Nat} (hn : n < ag_N Γ) (h : ag_le Γ n = some v) : v < 26 := by
  have hk := hw.2.2.2.2.2.1 n hn
  rcases hk with z | z | z | z | z | z | z
  · rw [z.2.2.1] at h; cases h
  · obtain ⟨e', he', q⟩ := z.2.2.1
    rw [q] at h; cases h; exact he'
  · obtain ⟨e', he', q⟩ := z.2.2.1
    rw [q] at h; cases h; exact he'
  · rw [z.2.2.1] at h; cases h
  · rw [z.2.2.1] at h; cases h
  · obtain ⟨e', he', q⟩ := z.2.2.1
    rw [q] at h; cases h; exact he'
  · rw [z.2.2.1] at h; cases h
theorem ag_ch_lt {Γ : ag_T} (hw : ag_wf Γ) {n v : Nat} (hn : n < ag_N Γ) (h : ag_ch Γ n = some v) : v < 26 := by
  unfold ag_ch at h
  by_cases q : ag_kd Γ n = 1 ∨ ag_kd Γ n = 2
  · rw [if_pos q] at h; exact ag_le_lt hw hn h
  · rw [if_neg q] at h; cases h
theorem ag_doesUse {σ : aw_S} {Γ : ag_T} (hw : ag_wf Γ) (h : ag_B σ Γ) {e n : Nat} (he : e < 24) (hn : n < ag_N Γ) : m_Rf_doesUse σ (nI e) (nI n) = some (ao_b (ag_US Γ e n)) := by
  have hX := hw.2.2.2.2.2.2.1
  unfold m_Rf_doesUse ag_US
  rw [aw_bd_s (ag_expressionOf hw h hn)]
  cases q : ag_ex Γ n with
  | none => rw [if_neg (show ¬ ao_o none = nI e from fun z => ao_m1 (by omega) z.symm), ao_b0 (by simp)]
  | some f =>
    have := ag_ex_lt hw hn q
    by_cases z : f = e
    · subst z; rw [if_pos (show ao_o (some f) = nI f from rfl), ao_b1 rfl]
    · rw [if_neg (show ¬ ao_o (some f) = nI e from fun y => z ((nI_eq (by omega) (by omega)).mp y)), ao_b0 (fun y => z (Option.some.inj y))]
theorem ag_doesKeep {σ : aw_S} {Γ : ag_T} (hw : ag_wf Γ) (h : ag_B σ Γ) {e n : Nat} (he : e < ag_X Γ) (hn : n < ag_N Γ) : m_Rf_doesKeep σ (nI e) (nI n) = some (ao_b (ag_KE Γ e n)) := by
  have hX := hw.2.2.2.2.2.2.1
  have hN := hw.1.1
  have hk := hw.2.2.2.2.2.1 n hn
  have hk7 := ag_kd_lt hk
  obtain ⟨hs, hl, hr⟩ := hw.2.2.2.2.2.2.2.1 e he
  obtain ⟨e1, e2, e3⟩ := h.2.2.2.2.2.2.2.1 e he
  have hJ : (∀ v, ag_ch Γ n = some v → ag_lf Γ e ≠ v ∧ ag_rt Γ e ≠ v) → m_Rf_doesKeep_J45 σ (nI e) (nI n) = some (ao_b (ag_KE Γ e n)) := by
    intro hc
    unfold m_Rf_doesKeep_J45
    rw [aw_bd_s (ag_isRisky hw h he)]
    by_cases q1 : ag_RI Γ e
    · rw [if_neg (by rw [ao_b1 q1]; decide), aw_bd_s (ag_expressionOf hw h hn), ao_gdn (by omega) (by omega), nI_clamp (by omega), (h.2.1 n hn).1]
      by_cases q2 : ag_kd Γ n = 3
      · rw [if_pos (show nI (ag_kd Γ n) = (3 : Int32) by rw [q2]; rfl), ao_b0 (fun z => (z.2 q1).1 q2)]
      · rw [if_neg (show ¬ nI (ag_kd Γ n) = (3 : Int32) from fun z => q2 ((ag_kI hk7 (b := 3) (by omega)).mp z))]
        cases q : ag_ex Γ n with
        | none => rw [if_pos (show ao_o none = -1 from rfl), ao_b1 ⟨hc, fun _ => ⟨q2, fun f z => by rw [q] at z; cases z⟩⟩]
        | some f =>
          have hf := ag_ex_lt hw hn q
          rw [if_neg (show ¬ ao_o (some f) = -1 from ao_m1 (by omega))]
          by_cases q3 : f = e
          · rw [if_pos (show ao_o (some f) = nI e by rw [q3]; rfl), ao_b1 ⟨hc, fun _ => ⟨q2, fun f' z => by rw [q] at z; cases z; exact Or.inl q3⟩⟩]
          · rw [if_neg (show ¬ ao_o (some f) = nI e from fun y => q3 ((nI_eq (by omega) (by omega)).mp y))]
            show aw_bd (m_Rf_isRisky σ (nI f)) _ = _
            rw [aw_bd_s (ag_isRisky hw h hf)]
            by_cases q4 : ag_RI Γ f
            · rw [if_neg (by rw [ao_b1 q4]; decide), ao_b0 (fun z => ((z.2 q1).2 f q).elim q3 (fun y => y q4))]
            · rw [if_pos (ao_b0 q4), ao_b1 ⟨hc, fun _ => ⟨q2, fun f' z => by rw [q] at z; cases z; exact Or.inr q4⟩⟩]
    · rw [if_pos (ao_b0 q1), ao_b1 ⟨hc, fun z => absurd z q1⟩]
  unfold m_Rf_doesKeep
  rw [aw_bd_s (ag_changed hw h hn)]
  cases q : ag_ch Γ n with
  | none => rw [if_pos (show ao_o none = -1 from rfl)]; exact hJ (fun v z => by rw [q] at z; cases z)
  | some v =>
    have hv := ag_ch_lt hw hn q
    rw [if_neg (show ¬ ao_o (some v) = -1 from ao_m1 (by omega)), ao_mul2, show (292 : Int32) = nI 292 from rfl, nI_add, aw_bd_s (ag_get (by omega)), nI_1, aw_bd_s (ag_get (by omega)), show 292 + 2 * e + 1 = 293 + 2 * e by omega, e2, e3]
    by_cases q1 : ag_lf Γ e = v
    · rw [if_pos (show nI (ag_lf Γ e) = ao_o (some v) by rw [q1]; rfl), ao_b0 (fun z => (z.1 v q).1 q1)]
    · rw [if_neg (show ¬ nI (ag_lf Γ e) = ao_o (some v) from fun y => q1 ((nI_eq (by omega) (by omega)).mp y))]
      by_cases q2 : ag_rt Γ e = v
      · rw [if_pos (show nI (ag_rt Γ e) = ao_o (some v) by rw [q2]; rfl), ao_b0 (fun z => (z.1 v q).2 q2)]
      · rw [if_neg (show ¬ nI (ag_rt Γ e) = ao_o (some v) from fun y => q2 ((nI_eq (by omega) (by omega)).mp y))]
        exact hJ (fun v' z => by rw [q] at z; cases z; exact ⟨q1, q2⟩)

/-! ===== QUERIES: both answer alike ===== -/
def iq_e (a b : Option Int32) : Prop := ∃ r, a = some r ∧ b = some r
theorem iq_r {r : Int32} : iq_e (some r) (some r) := ⟨r, rfl, rfl⟩
theorem iq_q {r s : Int32} (h : r = s) : iq_e (some r) (some s) := ⟨r, rfl, by rw [h]⟩
theorem iq_of {a b : Option Int32} {r : Int32} (ha : a = some r) (hb : b = some r) : iq_e a b := ⟨r, ha, hb⟩
theorem iq_bl {α : Type} {m : Option α} {k : α → Option Int32} {b : Option Int32} {v : α} (e : m = some v) (h : iq_e (k v) b) : iq_e (aw_bd m k) b := by rw [aw_bd_s e]; exact h
theorem iq_br {α : Type} {m : Option α} {k : α → Option Int32} {a : Option Int32} {v : α} (e : m = some v) (h : iq_e a (k v)) : iq_e a (aw_bd m k) := by rw [aw_bd_s e]; exact h
theorem iq_gl {P : Prop} {a b : Option Int32} (hp : P) (h : iq_e a b) : iq_e (aw_gd P a) b := by rw [aw_gd_t hp]; exact h
theorem iq_gr {P : Prop} {a b : Option Int32} (hp : P) (h : iq_e a b) : iq_e a (aw_gd P b) := by rw [aw_gd_t hp]; exact h
theorem iq_if {c : Prop} {i j : Decidable c} {a a' b b' : Option Int32} (h1 : c → iq_e a b) (h2 : ¬ c → iq_e a' b') : iq_e (@ite _ c i a a') (@ite _ c j b b') := by
  by_cases h : c
  · rw [if_pos h, if_pos h]; exact h1 h
  · rw [if_neg h, if_neg h]; exact h2 h
theorem iq_lp {c : Prop} {i : Decidable c} {a a' b : Option Int32} (hc : c) (h : iq_e a b) : iq_e (@ite _ c i a a') b := by rw [if_pos hc]; exact h
theorem iq_ln {c : Prop} {i : Decidable c} {a a' b : Option Int32} (hc : ¬ c) (h : iq_e a' b) : iq_e (@ite _ c i a a') b := by rw [if_neg hc]; exact h
theorem iq_rp {c : Prop} {i : Decidable c} {a b b' : Option Int32} (hc : c) (h : iq_e a b) : iq_e a (@ite _ c i b b') := by rw [if_pos hc]; exact h
theorem iq_rn {c : Prop} {i : Decidable c} {a b b' : Option Int32} (hc : ¬ c) (h : iq_e a b') : iq_e a (@ite _ c i b b') := by rw [if_neg hc]; exact h
/-- a loop that goes up to N -/
theorem iq_lpf {f : Int32 × Int32 → Option (Int32 ⊕ (Int32 × Int32))} (A : Nat → Int32) {N : Nat} (hN : N < 4294967295) (hs : ∀ k, k < N → f (A k, nI k) = some (.inr (A (k + 1), nI (k + 1)))) (he : f (A N, nI N) = some (.inl (A N))) {x0 : Int32} (h0 : x0 = A 0) : aw_lp f aw_fu (x0, 0) = some (A N) := by
  have key : ao_ok (aw_lp f aw_fu (x0, 0)) (fun r => r = A N) := by
    refine ao_for N (fun k (s : Int32 × Int32) => s = (A k, nI k)) (a := 0) (by rw [h0]; rfl) (Nat.zero_le _) hN (fun k s hk e => ?_) (fun s e => ?_)
    · subst e; rw [hs k hk]; exact ao_inr rfl
    · subst e; rw [he]; exact ao_inl rfl
  obtain ⟨r, e, h⟩ := key
  rw [e, h]
/-- how many, by a number that is 1 or 0 -/
theorem iq_n_s (X : Nat → Prop) (k : Nat) : nI (ao_n X k) + ao_b (X k) = nI (ao_n X (k + 1)) := by
  rw [ao_b_n, nI_add]
  rfl
/-- the sum of the first n -/
def iq_s (g : Nat → Nat) : Nat → Nat
  | 0 => 0
  | n + 1 => iq_s g n + g n
theorem iq_s_c {g g' : Nat → Nat} {n : Nat} (h : ∀ k, k < n → g k = g' k) : iq_s g n = iq_s g' n := by
  induction n with
  | zero => rfl
  | succ n ih =>
    show iq_s g n + g n = iq_s g' n + g' n
    rw [ih (fun k hk => h k (by omega)), h n (by omega)]
theorem iq_s_n (X : Nat → Prop) (n : Nat) : iq_s (fun k => @ite _ (X k) (Classical.propDecidable _) 1 0) n = ao_n X n := by
  induction n with
  | zero => rfl
  | succ n ih => show iq_s _ n + _ = ao_n X n + _; rw [ih]
theorem iq_s_add (g h : Nat → Nat) (n : Nat) : iq_s (fun k => g k + h k) n = iq_s g n + iq_s h n := by
  induction n with
  | zero => rfl
  | succ n ih => show iq_s _ n + (g n + h n) = (iq_s g n + g n) + (iq_s h n + h n); rw [ih]; omega
theorem iq_s_0 (n : Nat) : iq_s (fun _ => 0) n = 0 := by
  induction n with
  | zero => rfl
  | succ n ih => show iq_s _ n + 0 = 0; rw [ih]
/-- two sums change places -/
theorem iq_s_sw (g : Nat → Nat → Nat) (m n : Nat) : iq_s (fun i => iq_s (fun j => g i j) n) m = iq_s (fun j => iq_s (fun i => g i j) m) n := by
  induction m with
  | zero => exact (iq_s_0 n).symm
  | succ m ih =>
    show iq_s _ m + iq_s (fun j => g m j) n = iq_s (fun j => iq_s (fun i => g i j) m + g m j) n
    rw [ih, iq_s_add]
/-- what is so below X alone -/
theorem iq_n_lim {P : Nat → Prop} {X M : Nat} (h : X ≤ M) : ao_n (fun f => f < X ∧ P f) M = ao_n P X := by
  induction M with
  | zero => rw [show X = 0 by omega]; rfl
  | succ M ih =>
    by_cases q : X = M + 1
    · rw [q]; exact ao_n_c (fun k hk => ⟨fun z => z.2, fun z => ⟨hk, z⟩⟩)
    · rw [ao_n_s0 (fun z => by omega)]
      exact ih (by omega)
/-! ===== an index, or none ===== -/
theorem iq_isIn1 (σ : aw_S) {n N : Nat} {K : Int32} (hK : K = nI N - 1) (h : n < N) (hN : N < 2 ^ 31) : m_Rf_isIn σ (nI n) 0 K = some 1 := by
  obtain ⟨M, rfl⟩ : ∃ M, N = M + 1 := ⟨N - 1, by omega⟩
  unfold m_Rf_isIn
  rw [hK, nI_pred, if_neg (nI_pos (by omega)), if_neg (nI_nlt (by omega) (by omega))]
theorem iq_isIn0 (σ : aw_S) {x : Int32} {N : Nat} {K : Int32} (hK : K = nI N - 1) (h : ¬ ∃ n, n < N ∧ x = nI n) (hN : N < 2 ^ 31) : m_Rf_isIn σ x 0 K = some 0 := by
  unfold m_Rf_isIn
  by_cases h0 : x < 0
  · rw [if_pos h0]
  · obtain ⟨j, hj, rfl⟩ := nI_of h0
    have hjN : N ≤ j := Nat.le_of_not_lt fun y => h ⟨j, y, rfl⟩
    rw [if_neg h0, hK]
    cases N with
    | zero =>
      rw [if_pos]
      show (-1 : Int32) < nI j
      rw [Int32.lt_iff_toInt_lt, nI_toInt hj]
      show (-1 : Int) < _
      omega
    | succ M => rw [nI_pred, if_pos (nI_lt (by omega) hj)]
theorem iq_node1 {σ : aw_S} {n N : Nat} (e : σ.1 0 14 = nI N) (h : n < N) (hN : N ≤ 112) : m_Rf_isNode σ (nI n) = some 1 := by
  unfold m_Rf_isNode
  rw [e, aw_bd_s (iq_isIn1 σ rfl h (by omega))]
  exact aw_gd_t (Or.inr rfl)
theorem iq_node0 {σ : aw_S} {x : Int32} {N : Nat} (e : σ.1 0 14 = nI N) (h : ¬ ∃ n, n < N ∧ x = nI n) (hN : N ≤ 112) : m_Rf_isNode σ x = some 0 := by
  unfold m_Rf_isNode
  rw [e, aw_bd_s (iq_isIn0 σ rfl h (by omega))]
  exact aw_gd_t (Or.inl rfl)
theorem iq_exp1 {σ : aw_S} {e X : Nat} (h2 : σ.1 1 2 = nI X) (h : e < X) (hX : X ≤ 24) : m_Rf_isExpression σ (nI e) = some 1 := by
  unfold m_Rf_isExpression
  rw [show (2 : Int32) = nI 2 from rfl, aw_bd_s (ag_get (by omega)), h2, aw_bd_s (iq_isIn1 σ rfl h (by omega))]
  exact aw_gd_t (Or.inr rfl)
theorem iq_exp0 {σ : aw_S} {x : Int32} {X : Nat} (h2 : σ.1 1 2 = nI X) (h : ¬ ∃ e, e < X ∧ x = nI e) (hX : X ≤ 24) : m_Rf_isExpression σ x = some 0 := by
  unfold m_Rf_isExpression
  rw [show (2 : Int32) = nI 2 from rfl, aw_bd_s (ag_get (by omega)), h2, aw_bd_s (iq_isIn0 σ rfl h (by omega))]
  exact aw_gd_t (Or.inl rfl)
/-- busily, lazily, as a number -/
def iq_hI (how : Bool) : Int32 := if how then 0 else 1
theorem iq_how (x : Int32) : (∃ how, x = iq_hI how) ∨ (¬ x = 0 ∧ ¬ x = 1) := by
  by_cases h0 : x = 0
  · exact Or.inl ⟨true, h0⟩
  · by_cases h1 : x = 1
    · exact Or.inl ⟨false, h1⟩
    · exact Or.inr ⟨h0, h1⟩
theorem iq_hI_n (how : Bool) : iq_hI how = nI (ag_hi how) := by cases how <;> rfl
theorem iq_isHow1 (σ : aw_S) (how : Bool) : m_Rf_isHow σ (iq_hI how) = some 1 := by
  unfold m_Rf_isHow
  rw [iq_hI_n, aw_bd_s (iq_isIn1 σ (N := 2) (by decide) (by cases how <;> decide) (by omega))]
  exact aw_gd_t (Or.inr rfl)
theorem iq_isHow0 (σ : aw_S) {x : Int32} (h0 : ¬ x = 0) (h1 : ¬ x = 1) : m_Rf_isHow σ x = some 0 := by
  unfold m_Rf_isHow
  rw [aw_bd_s (iq_isIn0 σ (N := 2) (by decide) (fun ⟨n, hn, e⟩ => by
    rcases (show n = 0 ∨ n = 1 by omega) with rfl | rfl
    · exact h0 e
    · exact h1 e) (by omega))]
  exact aw_gd_t (Or.inl rfl)
/-! ===== there is no program; there is one ===== -/
def iq_0 (a b : aw_S) : Prop := (a.1 24 13 = 0 ∧ a.1 24 14 = 0 ∧ a.1 25 3 = 0 ∧ a.1 41 12 = 0 ∧ a.1 58 4 = 0) ∧ b.1 0 14 = 0 ∧ b.1 0 15 = 0 ∧ b.1 0 16 = 0 ∧ b.1 0 54 = 0 ∧ b.1 1 2 = 0
def iq_G (a b : aw_S) (Γ : ag_T) : Prop := ag_wf Γ ∧ ag_AA a Γ ∧ ag_BA b Γ
def iq_P (a b : aw_S) : Prop := iq_0 a b ∨ ∃ Γ, iq_G a b Γ
theorem iq_none0 {x : Int32} : ¬ ∃ n, n < 0 ∧ x = nI n := fun ⟨n, h, _⟩ => absurd h (Nat.not_lt_zero _)
/-- A's index of nodes and expressions, by the same number -/
theorem iq_N {a b : aw_S} (h : iq_P a b) : ∃ N X, N ≤ 112 ∧ X ≤ 24 ∧ a.1 24 13 = nI N ∧ b.1 0 14 = nI N ∧ a.1 25 3 = nI X ∧ b.1 1 2 = nI X ∧ (N = 0 → iq_0 a b) ∧ (X ≠ 0 → ∃ Γ, iq_G a b Γ) ∧ (N ≠ 0 → ∃ Γ, iq_G a b Γ ∧ ag_N Γ = N ∧ ag_X Γ = X) := by
  rcases h with h | ⟨Γ, h⟩
  · exact ⟨0, 0, by omega, by omega, h.1.1, h.2.1, h.1.2.2.1, h.2.2.2.2.2, fun _ => h, fun z => absurd rfl z, fun z => absurd rfl z⟩
  · have hN := h.1.1.1
    have hX := h.1.2.2.2.2.2.2.1
    have h0 := h.1.2.1
    exact ⟨ag_N Γ, ag_X Γ, hN, hX, h.2.1.1.1.2.1, h.2.2.1.1.2.1, h.2.1.1.2.2.2.1, h.2.2.1.2.2.2.2.2.2.1, fun z => by omega, fun _ => ⟨Γ, h⟩, fun _ => ⟨Γ, h, rfl, rfl⟩⟩
theorem iq_nd {a b : aw_S} (h : iq_P a b) (x : Int32) : (∃ Γ n, iq_G a b Γ ∧ n < ag_N Γ ∧ x = nI n ∧ m_Gr_isNode a x = some 1 ∧ m_Rf_isNode b x = some 1) ∨ (m_Gr_isNode a x = some 0 ∧ m_Rf_isNode b x = some 0) := by
  obtain ⟨N, X, hN, hX, e1, e2, e3, e4, k0, k1, k2⟩ := iq_N h
  by_cases q : ∃ n, n < N ∧ x = nI n
  · obtain ⟨n, hn, rfl⟩ := q
    obtain ⟨Γ, G, rfl, rfl⟩ := k2 (by omega)
    exact Or.inl ⟨Γ, n, G, hn, rfl, ao_isNode e1 hN hn, iq_node1 e2 hn hN⟩
  · exact Or.inr ⟨ao_isNode0 e1 hN q, iq_node0 e2 q hN⟩
theorem iq_xp {a b : aw_S} (h : iq_P a b) (x : Int32) : (∃ Γ e, iq_G a b Γ ∧ e < ag_X Γ ∧ x = nI e ∧ m_Ex_isOne a 25 x = some 1 ∧ m_Rf_isExpression b x = some 1) ∨ (m_Ex_isOne a 25 x = some 0 ∧ m_Rf_isExpression b x = some 0) := by
  rcases h with h | ⟨Γ, h⟩
  · exact Or.inr ⟨ag_isOne0 (X := 0) h.1.2.2.1 (by omega) iq_none0, iq_exp0 (X := 0) h.2.2.2.2.2 iq_none0 (by omega)⟩
  · have hX := h.1.2.2.2.2.2.2.1
    have e3 := h.2.1.1.2.2.2.1
    have e4 := h.2.2.1.2.2.2.2.2.2.1
    by_cases q : ∃ n, n < ag_X Γ ∧ x = nI n
    · obtain ⟨n, hn, rfl⟩ := q
      exact Or.inl ⟨Γ, n, h, hn, rfl, ag_isOne e3 hX hn, iq_exp1 e4 hn hX⟩
    · exact Or.inr ⟨ag_isOne0 e3 hX q, iq_exp0 e4 q hX⟩
/-- sound, in both -/
theorem iq_so {a b : aw_S} (h : iq_P a b) : (a.1 41 12 = 0 ∧ b.1 0 16 = 0) ∨ (∃ Γ, iq_G a b Γ ∧ ag_sound Γ ∧ a.1 41 12 = 1 ∧ b.1 0 16 = 1) := by
  rcases h with h | ⟨Γ, h⟩
  · exact Or.inl ⟨h.1.2.2.2.1, h.2.2.2.1⟩
  · have e1 : a.1 41 12 = ao_b (ag_sound Γ) := h.2.1.2.1.2.2.2
    have e2 : b.1 0 16 = ao_b (ag_sound Γ) := h.2.2.2.2.2.2.2.2.2.1
    by_cases q : ag_sound Γ
    · exact Or.inr ⟨Γ, h, q, by rw [e1, ao_b1 q], by rw [e2, ao_b1 q]⟩
    · exact Or.inl ⟨by rw [e1, ao_b0 q], by rw [e2, ao_b0 q]⟩
theorem iq_pr {a b : aw_S} (h : iq_P a b) : (m_Mo_isProgram a = some 0 ∧ b.1 0 15 = 0 ∧ iq_0 a b) ∨ (∃ Γ, iq_G a b Γ ∧ m_Mo_isProgram a = some 1 ∧ b.1 0 15 = 1) := by
  unfold m_Mo_isProgram
  rcases h with h | ⟨Γ, h⟩
  · exact Or.inl ⟨by rw [h.1.1, if_pos (by decide)], h.2.2.1, h⟩
  · have hN := h.1.1.1
    have h0 := h.1.2.1
    exact Or.inr ⟨Γ, h, by rw [h.2.1.1.1.2.1, if_neg (nI_nle h0 (by omega))], h.2.2.2.2.2.2.2.2.2.2⟩
theorem iq_isMoved1 {a : aw_S} (h : a.1 41 12 = 1) (how : Bool) : m_Mo_isMoved a (iq_hI how) = some 1 := by
  unfold m_Mo_isMoved
  rw [h, if_neg ao_n10]
  cases how
  · rw [show iq_hI false = 1 from rfl, if_neg ao_n10, if_pos rfl]
  · rw [show iq_hI true = 0 from rfl, if_pos rfl]
theorem iq_isMoved0 {a : aw_S} {x : Int32} (h : a.1 41 12 = 0 ∨ (¬ x = 0 ∧ ¬ x = 1)) : m_Mo_isMoved a x = some 0 := by
  unfold m_Mo_isMoved
  rcases h with h | ⟨h0, h1⟩
  · rw [h, if_pos rfl]
  · by_cases q : a.1 41 12 = 0
    · rw [if_pos q]
    · rw [if_neg q, if_neg h0, if_neg h1]
theorem iq_by (a : aw_S) (how : Bool) : m_Mo_placementBy a (iq_hI how) = some (ag_po how) := by
  unfold m_Mo_placementBy
  cases how
  · rw [show iq_hI false = 1 from rfl, if_neg ao_n10, if_pos rfl]; rfl
  · rw [show iq_hI true = 0 from rfl, if_pos rfl]; rfl
theorem iq_soOne {a b : aw_S} (h : iq_P a b) (x : Int32) : (∃ Γ e, iq_G a b Γ ∧ ag_sound Γ ∧ e < ag_X Γ ∧ x = nI e ∧ m_Mo_isSoundOne a x = some 1 ∧ b.1 0 16 = 1 ∧ m_Rf_isExpression b x = some 1) ∨ (m_Mo_isSoundOne a x = some 0 ∧ (b.1 0 16 = 0 ∨ (b.1 0 16 = 1 ∧ m_Rf_isExpression b x = some 0))) := by
  unfold m_Mo_isSoundOne
  rcases iq_so h with ⟨h1, h2⟩ | ⟨Γ, G, s, h1, h2⟩
  · exact Or.inr ⟨by rw [h1, if_pos rfl], Or.inl h2⟩
  · rw [h1, if_neg ao_n10]
    have hX := G.1.2.2.2.2.2.2.1
    have e3 := G.2.1.1.2.2.2.1
    have e4 := G.2.2.1.2.2.2.2.2.2.1
    by_cases q : ∃ n, n < ag_X Γ ∧ x = nI n
    · obtain ⟨e, he, rfl⟩ := q
      exact Or.inl ⟨Γ, e, G, s, he, rfl, by rw [aw_bd_s (ag_isOne e3 hX he), if_neg ao_n10], h2, iq_exp1 e4 he hX⟩
    · exact Or.inr ⟨by rw [aw_bd_s (ag_isOne0 e3 hX q), if_pos rfl], Or.inr ⟨h2, iq_exp0 e4 q hX⟩⟩

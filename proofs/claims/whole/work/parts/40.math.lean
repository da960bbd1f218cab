/-! ===== WHAT THE FACTS ARE: of one expression, by where it is computed (US) and what keeps it (KE) ===== -/
def ao_G (N : Nat) (F : (Nat → Prop) → Nat → Prop) : Nat → Prop := fun n => ∃ Y : Nat → Prop, (∀ m, m < N → Y m → F Y m) ∧ Y n
def ao_L (N : Nat) (F : (Nat → Prop) → Nat → Prop) : Nat → Prop := fun n => ∀ Y : Nat → Prop, (∀ m, m < N → F Y m → Y m) → Y n
theorem ao_gf_G {N : Nat} {F F' : (Nat → Prop) → Nat → Prop} {X : Nat → Prop} (h : ao_gf N F X) (he : ∀ Y n, n < N → (F Y n ↔ F' Y n)) : ∀ n, n < N → (X n ↔ ao_G N F' n) := fun n hn =>
  ⟨fun hx => ⟨X, fun m hm hm2 => (he X m hm).mp (h.1 m hm hm2), hx⟩, fun ⟨Y, hY, hy⟩ => h.2 Y (fun m hm hm2 => (he Y m hm).mpr (hY m hm hm2)) n hn hy⟩
theorem ao_lf_L {N : Nat} {F F' : (Nat → Prop) → Nat → Prop} {X : Nat → Prop} (h : ao_lf N F X) (he : ∀ Y n, n < N → (F Y n ↔ F' Y n)) : ∀ n, n < N → (X n ↔ ao_L N F' n) := fun n hn =>
  ⟨fun hx Y hY => h.2 Y (fun m hm hm2 => hY m hm ((he Y m hm).mp hm2)) n hn hx, fun hx => hx X (fun m hm hm2 => h.1 m hm ((he X m hm).mpr hm2))⟩
section
variable (N : Nat) (nx : Nat → Option Nat) (US KE : Nat → Prop)
def ao_fNE (Y : Nat → Prop) (n : Nat) : Prop := US n ∨ (KE n ∧ nx (2 * n) ≠ none ∧ ∀ t, ao_ed nx n t → Y t)
def ao_NE : Nat → Prop := ao_G N (ao_fNE nx US KE)
def ao_fAH (Y : Nat → Prop) (n : Nat) : Prop := n ≠ 0 ∧ ∀ p, p < N → ao_ed nx p n → KE p ∧ (US p ∨ Y p)
def ao_AH : Nat → Prop := ao_G N (ao_fAH N nx US KE)
def ao_EA (n : Nat) : Prop := ao_NE N nx US KE n ∧ (n = 0 ∨ ∃ p, p < N ∧ ao_ed nx p n ∧ (¬ KE p ∨ ¬ ao_NE N nx US KE p ∧ ¬ ao_AH N nx US KE p))
def ao_fDE (Y : Nat → Prop) (n : Nat) : Prop := ao_EA N nx US KE n ∨ (n ≠ 0 ∧ ∀ p, p < N → ao_ed nx p n → Y p ∧ ¬ US p)
def ao_DE : Nat → Prop := ao_G N (ao_fDE N nx US KE)
def ao_LA (n : Nat) : Prop := ao_DE N nx US KE n ∧ (US n ∨ ∃ t, ao_ed nx n t ∧ ¬ ao_DE N nx US KE t)
def ao_fAL (Y : Nat → Prop) (n : Nat) : Prop := ∀ t, ao_ed nx n t → ao_LA N nx US KE t ∨ (¬ US t ∧ Y t)
def ao_AL : Nat → Prop := ao_G N (ao_fAL N nx US KE)
/-- put in: busily (true), lazily -/
def ao_PU (how : Bool) (n : Nat) : Prop := if how then ao_EA N nx US KE n else ao_LA N nx US KE n ∧ ¬ ao_AL N nx US KE n
def ao_RE (how : Bool) (n : Nat) : Prop := US n ∧ (how = true ∨ ¬ (ao_LA N nx US KE n ∧ ao_AL N nx US KE n))
def ao_fLI (how : Bool) (Y : Nat → Prop) (n : Nat) : Prop := ao_RE N nx US KE how n ∨ ∃ t, ao_ed nx n t ∧ ¬ ao_PU N nx US KE how t ∧ Y t
def ao_LI (how : Bool) : Nat → Prop := ao_L N (ao_fLI N nx US KE how)
def ao_fMB (Y : Nat → Prop) (n : Nat) : Prop := ∃ p, p < N ∧ ao_ed nx p n ∧ KE p ∧ (US p ∨ Y p)
def ao_MB : Nat → Prop := ao_L N (ao_fMB N nx US KE)
/-- from here a last one can be come to -/
def ao_fLD (Y : Nat → Prop) (n : Nat) : Prop := nx (2 * n) = none ∨ ∃ t, ao_ed nx n t ∧ Y t
def ao_LD : Nat → Prop := ao_L N (ao_fLD nx)
/-- a letter that is read (US) or changed (KE: not changed) -/
def ao_fLV (Y : Nat → Prop) (n : Nat) : Prop := US n ∨ (KE n ∧ ∃ t, ao_ed nx n t ∧ Y t)
def ao_LV : Nat → Prop := ao_L N (ao_fLV nx US KE)
end
/-! ===== the reference: its edges, its rows of truth ===== -/
def ao_TB (σ : aw_S) (N : Nat) (nx : Nat → Option Nat) : Prop := ao_tp N nx ∧ σ.1 0 14 = nI N ∧ ∀ k, k < 2 * N → σ.1 7 k = ao_o (nx k)
theorem ao_TB_fr {σ σ' : aw_S} {N : Nat} {nx : Nat → Option Nat} (h : ao_TB σ N nx) (e0 : σ'.1 0 14 = σ.1 0 14) (e1 : σ'.1 7 = σ.1 7) : ao_TB σ' N nx := by
  unfold ao_TB
  rw [e0, e1]
  exact h
theorem ao_TB_ch {K : List Nat} {J : List (Nat × Nat)} {σ σ' : aw_S} {N : Nat} {nx : Nat → Option Nat} (h : ao_TB σ N nx) (hc : ao_ch K J σ σ') (hK : ∀ k ∈ [0, 7], k ∉ K) (hJ : ∀ q ∈ J, q ≠ (0, 14) ∧ q.1 ≠ 7) : ao_TB σ' N nx :=
  ao_TB_fr h (hc 0 14 (hK 0 (by decide)) (fun hm => (hJ _ hm).1 rfl)) (ao_ch_row hc 7 (hK 7 (by decide)) (fun q hq => (hJ q hq).2))
theorem ao_mul2 (n : Nat) : (2 : Int32) * nI n = nI (2 * n) := pk_mul 2 n
theorem ao_half {k : Nat} (h : k < 2 ^ 31) : nI k / (2 : Int32) = nI (k / 2) := pk_div (d := 2) h (by omega) (by omega)
theorem ao_o_eq {t : Option Nat} {x : Int32} (h : x = ao_o t) (hb : ∀ k, t = some k → k < 2 ^ 31) : (x = -1 ↔ t = none) := by rw [h]; exact ao_o_m1 hb
theorem ao_isLast {σ : aw_S} {N : Nat} {nx : Nat → Option Nat} (h : ao_TB σ N nx) {n : Nat} (hn : n < N) : m_Rf_isLast σ (nI n) = some (ao_b (nx (2 * n) = none)) := by
  obtain ⟨⟨hN, ht, hz⟩, h1, h2⟩ := h
  unfold m_Rf_isLast
  rw [ao_mul2, ao_gdn (by omega) (by omega), nI_clamp (by omega), h2 _ (by omega)]
  cases e : nx (2 * n) with
  | none => rw [if_pos (show ao_o none = -1 from rfl), ao_b1 rfl]
  | some t => rw [if_neg (show ¬ ao_o (some t) = -1 from ao_m1 (Nat.lt_trans (ht _ (by omega) _ e) (by omega))), ao_b0 (by simp)]
/-- the rows of facts: what, of which expression -/
def ao_c (w e : Nat) : Nat := 112 * (24 * w + e)
def ao_01 (x : Int32) : Prop := x = 0 ∨ x = 1
theorem ao_01_b (p : Prop) : ao_01 (ao_b p) := ao_b_01 p
theorem ao_01_e {x : Int32} (h : ao_01 x) : x = ao_b (x = 1) := by
  rcases h with h | h
  · rw [h, ao_b0 (by decide)]
  · rw [h, ao_b1 rfl]
theorem ao_01_0 {x : Int32} (h : ao_01 x) : x = 0 ↔ ¬ x = 1 := by
  rcases h with h | h
  · rw [h]; exact ⟨fun _ => by decide, fun _ => rfl⟩
  · rw [h]; exact ⟨fun e => absurd e (by decide), fun e => absurd rfl e⟩
theorem ao_nar {x : Int32} (h : ao_01 x) : vp_nar .boolean x = x := by rcases h with rfl | rfl <;> decide
theorem ao_cell {σ : aw_S} {w e n : Nat} : m_Rf_cell σ (nI w) (nI e) (nI n) = some (nI (ao_c w e + n)) := by
  unfold m_Rf_cell ao_c
  rw [show (24 : Int32) = nI 24 from rfl, show (112 : Int32) = nI 112 from rfl, pk_mul, nI_add, pk_mul, nI_add]
theorem ao_c_lt {w e n : Nat} (hw : w < 8) (he : e < 24) (hn : n < 112) : ao_c w e + n < 21504 := by unfold ao_c; omega
theorem ao_so {σ : aw_S} {w e n : Nat} (hw : w < 8) (he : e < 24) (hn : n < 112) (h : ao_01 (σ.1 12 (ao_c w e + n))) : m_Rf_so σ (nI w) (nI e) (nI n) = some (σ.1 12 (ao_c w e + n)) := by
  have := ao_c_lt hw he hn
  unfold m_Rf_so
  rw [aw_bd_s ao_cell, ao_gdn this (by omega), nI_clamp (by omega)]
  exact aw_gd_t h
theorem ao_set {σ : aw_S} {w e n : Nat} {v : Int32} (hw : w < 8) (he : e < 24) (hn : n < 112) (h : ao_01 v) : m_Rf_set σ (nI w) (nI e) (nI n) v = some (aw_sI σ 12 (ao_c w e + n) v) := by
  have := ao_c_lt hw he hn
  unfold m_Rf_set
  rw [aw_bd_s ao_cell, ao_gdn this (by omega), nI_clamp (by omega), ao_nar h]
  rfl
theorem ao_c_ne {w e w' e' n n' : Nat} (hn : n < 112) (hn' : n' < 112) (he : e < 24) (he' : e' < 24) (h : ao_c w e + n = ao_c w' e' + n') : w = w' ∧ e = e' ∧ n = n' := by unfold ao_c at h; omega
/-! ===== one pass after another, until nothing more comes ===== -/
theorem ao_chaos {fo : Int32 × aw_S → Option (aw_S ⊕ (Int32 × aw_S))} {fi : Int32 × Int32 × aw_S → Option ((Int32 × aw_S) ⊕ (Int32 × Int32 × aw_S))} (n : Nat) (ix : Nat → Int32) (I : aw_S → Prop) (μ : aw_S → Nat) (C : aw_S → Nat → Prop)
    (hn : n < 4294967295)
    (hfo0 : ∀ s, fo (0, s) = some (.inl s)) (hfo : ∀ s, I s → fo (1, s) = aw_bd (aw_lp fi aw_fu (0, ix 0, s)) (fun x => some (.inr (x.1, x.2))))
    (hexit : ∀ s v, I s → fi (v, ix n, s) = some (.inl (v, s)))
    (hstep : ∀ s v k, k < n → I s → (v = 0 ∨ v = 1) → (¬ C s k ∧ fi (v, ix k, s) = some (.inr (v, ix (k + 1), s))) ∨ (∃ s', fi (v, ix k, s) = some (.inr (1, ix (k + 1), s')) ∧ I s' ∧ μ s' < μ s))
    {s : aw_S} (h0 : I s) (hm : μ s < 4294967295) : ao_ok (aw_lp fo aw_fu (1, s)) (fun s' => I s' ∧ ∀ k, k < n → ¬ C s' k) := by
  refine ao_lpu (fun t => I t.2 ∧ (t.1 = 1 ∨ t.1 = 0 ∧ ∀ k, k < n → ¬ C t.2 k)) (fun t => μ t.2 + @ite _ (t.1 = 0) (Classical.propDecidable _) 0 1) ⟨h0, Or.inl rfl⟩ (by show μ s + _ < _; rw [if_neg (show ¬ (1 : Int32) = 0 by decide)]; omega) ?_
  rintro ⟨v, s⟩ ⟨hI, hv⟩
  have hv : v = 1 ∨ v = 0 ∧ ∀ k, k < n → ¬ C s k := hv
  rcases hv with rfl | ⟨rfl, hC⟩
  · rw [hfo s hI]
    refine ao_bd (ao_imp (ao_for (Q := fun x => I x.2 ∧ ((x.1 = 0 ∧ x.2 = s ∧ ∀ j, j < n → ¬ C s j) ∨ (x.1 = 1 ∧ μ x.2 < μ s))) n (fun k t => t.2.1 = ix k ∧ I t.2.2 ∧ ((t.1 = 0 ∧ t.2.2 = s ∧ ∀ j, j < k → ¬ C s j) ∨ (t.1 = 1 ∧ μ t.2.2 < μ s))) (a := 0) ⟨rfl, hI, Or.inl ⟨rfl, rfl, fun j hj => absurd hj (Nat.not_lt_zero _)⟩⟩ (Nat.zero_le _) hn ?_ ?_) ?_)
    · rintro k ⟨w, x, t⟩ hk ⟨e, ht, hd⟩
      have e : x = ix k := e
      subst e
      rcases hstep t w k hk ht (hd.elim (fun q => Or.inl q.1) (fun q => Or.inr q.1)) with ⟨hc, e⟩ | ⟨s', e, hI', hl⟩
      · rw [e]
        refine ao_inr ⟨rfl, ht, ?_⟩
        rcases hd with ⟨h1, h2, h3⟩ | hd
        · refine Or.inl ⟨h1, h2, fun j hj => ?_⟩
          by_cases hjk : j = k
          · subst hjk
            have h2 : t = s := h2
            rw [← h2]; exact hc
          · exact h3 j (by omega)
        · exact Or.inr hd
      · rw [e]
        refine ao_inr ⟨rfl, hI', Or.inr ⟨rfl, ?_⟩⟩
        rcases hd with ⟨_, h2, _⟩ | ⟨_, hd⟩
        · have h2 : t = s := h2
          rw [← h2]; exact hl
        · exact Nat.lt_trans hl hd
    · rintro ⟨w, x, t⟩ ⟨e, ht, hd⟩
      have e : x = ix n := e
      subst e
      rw [hexit t w ht]
      exact ao_inl ⟨ht, hd⟩
    · rintro ⟨w, t⟩ ⟨ht, hd⟩
      refine ao_inr ⟨⟨ht, ?_⟩, ?_⟩
      · rcases hd with ⟨h1, h2, h3⟩ | ⟨h1, _⟩
        · have h2 : t = s := h2
          exact Or.inr ⟨h1, by rw [h2]; exact h3⟩
        · exact Or.inl h1
      · show μ t + @ite _ (w = 0) (Classical.propDecidable _) 0 1 < μ s + @ite _ ((1 : Int32) = 0) (Classical.propDecidable _) 0 1
        rw [if_neg (show ¬ (1 : Int32) = 0 by decide)]
        rcases hd with ⟨h1, h2, h3⟩ | ⟨h1, h2⟩
        · have h1 : w = 0 := h1
          have h2 : t = s := h2
          rw [if_pos h1, h2]; omega
        · have h1 : w = 1 := h1
          have h2 : μ t < μ s := h2
          rw [if_neg (by rw [h1]; decide)]; omega
  · rw [hfo0]
    exact ao_inl ⟨hI, hC⟩

/-! ===== the graph in the class ===== -/
def ag_A (σ : aw_S) (Γ : ag_T) : Prop :=
  ao_TA σ (ag_N Γ) (ag_nx Γ) ∧ (∀ n, n < ag_N Γ → σ.1 29 n = nI (ag_kd Γ n) ∧ σ.1 30 n = ao_o (ag_bl Γ n) ∧ σ.1 31 n = ao_o (ag_le Γ n) ∧ σ.1 32 n = ao_o (ag_op Γ n) ∧ σ.1 33 n = ao_o (ag_ex Γ n)) ∧
  (∀ n, n < ag_N Γ → (ag_kd Γ n = 4 ∨ ag_kd Γ n = 5) → σ.1 34 n = ao_o (ag_t1 Γ n) ∧ (ag_kd Γ n = 5 → σ.1 35 n = ao_o (ag_t2 Γ n))) ∧
  σ.1 25 3 = nI (ag_X Γ) ∧ (∀ e, e < ag_X Γ → σ.1 26 e = nI (ag_sg Γ e) ∧ σ.1 27 e = nI (ag_lf Γ e) ∧ σ.1 28 e = nI (ag_rt Γ e)) ∧ σ.1 24 14 = nI (ag_nb Γ)
/-- the rows that the graph stands on: 24 to 40 -/
theorem ag_A_fr {σ σ' : aw_S} {Γ : ag_T} (h : ag_A σ Γ) (e : ∀ k, 24 ≤ k → k ≤ 40 → σ'.1 k = σ.1 k) : ag_A σ' Γ := by
  unfold ag_A at h ⊢
  rw [e 29 (by omega) (by omega), e 30 (by omega) (by omega), e 31 (by omega) (by omega), e 32 (by omega) (by omega), e 33 (by omega) (by omega), e 34 (by omega) (by omega), e 35 (by omega) (by omega), e 25 (by omega) (by omega), e 26 (by omega) (by omega), e 27 (by omega) (by omega), e 28 (by omega) (by omega), e 24 (by omega) (by omega)]
  exact ⟨ao_TA_fr h.1 (congrFun (e 24 (by omega) (by omega)) 13) (e 36 (by omega) (by omega)) (e 37 (by omega) (by omega)) (e 38 (by omega) (by omega)) (e 39 (by omega) (by omega)), h.2⟩
theorem ag_A_ch {K : List Nat} {J : List (Nat × Nat)} {σ σ' : aw_S} {Γ : ag_T} (h : ag_A σ Γ) (hc : ao_ch K J σ σ') (hK : ∀ k ∈ K, k < 24 ∨ 40 < k) (hJ : ∀ q ∈ J, q.1 < 24 ∨ 40 < q.1) : ag_A σ' Γ :=
  ag_A_fr h (fun k h1 h2 => ao_ch_row hc k (fun hm => by have := hK k hm; omega) (fun q hq e => by have := hJ q hq; omega))
theorem ag_isOne {σ : aw_S} {o X : Nat} (hX : σ.1 o 3 = nI X) (h24 : X ≤ 24) {e : Nat} (he : e < X) : m_Ex_isOne σ o (nI e) = some 1 := by
  unfold m_Ex_isOne
  rw [if_neg (nI_pos (by omega)), hX, if_neg (nI_ge he (by omega)), if_neg (show ¬ (24 : Int32) ≤ nI e from nI_ge (b := 24) (by omega) (by omega))]
theorem ag_isOne0 {σ : aw_S} {o X : Nat} {x : Int32} (hX : σ.1 o 3 = nI X) (h24 : X ≤ 24) (h : ¬ ∃ e, e < X ∧ x = nI e) : m_Ex_isOne σ o x = some 0 := by
  unfold m_Ex_isOne
  by_cases h0 : x < 0
  · rw [if_pos h0]
  · obtain ⟨j, hj, rfl⟩ := nI_of h0
    rw [if_neg h0, hX, if_pos (nI_le (Nat.le_of_not_lt (fun hlt => h ⟨j, hlt, rfl⟩)) hj)]
theorem ag_oneE (σ : aw_S) {o X : Nat} (x : Int32) (hX : σ.1 o 3 = nI X) (h24 : X ≤ 24) : (∃ e, e < X ∧ x = nI e ∧ m_Ex_isOne σ o x = some 1) ∨ ((¬ ∃ e, e < X ∧ x = nI e) ∧ m_Ex_isOne σ o x = some 0) := by
  by_cases h : ∃ e, e < X ∧ x = nI e
  · obtain ⟨e, he, rfl⟩ := h
    exact Or.inl ⟨e, he, rfl, ag_isOne hX h24 he⟩
  · exact Or.inr ⟨h, ag_isOne0 hX h24 h⟩
theorem ag_m1_no {X : Nat} (h : X < 2 ^ 31) : ¬ ∃ e, e < X ∧ (-1 : Int32) = nI e := fun ⟨e, he, q⟩ => ao_m1 (by omega) q.symm
theorem ag_sgl {s : Nat} (hs : s ∈ ag_sgs) : s < 256 := by
  unfold ag_sgs at hs
  simp only [List.mem_cons, List.not_mem_nil, or_false] at hs
  omega
theorem ag_riskyA {σ : aw_S} {Γ : ag_T} (hw : ag_wf Γ) (h : ag_A σ Γ) {e : Nat} (he : e < ag_X Γ) : m_Ex_isRisky σ 25 (nI e) = some (ao_b (ag_RI Γ e)) := by
  have hX := hw.2.2.2.2.2.2.1
  obtain ⟨hs, hl, hr⟩ := hw.2.2.2.2.2.2.2.1 e he
  have hsl := ag_sgl hs
  obtain ⟨e1, e2, e3⟩ := h.2.2.2.2.1 e he
  have hJ : (ag_sg Γ e = 47 ∨ ag_sg Γ e = 37) → m_Ex_isRisky_J32 σ 25 (nI e) = some (ao_b (ag_RI Γ e)) := by
    intro q
    unfold m_Ex_isRisky_J32
    rw [ao_gdn (by omega) (by omega), nI_clamp (by omega), e3]
    by_cases z : ag_rt Γ e < 27
    · rw [if_neg (show ¬ (26 : Int32) < nI (ag_rt Γ e) from nI_nlt (a := 26) (by omega) (by omega)), ao_b1 ⟨q, z⟩]
    · rw [if_pos (show (26 : Int32) < nI (ag_rt Γ e) from nI_lt (a := 26) (by omega) (by omega)), ao_b0 (fun y => z y.2)]
  unfold m_Ex_isRisky
  rw [aw_bd_s (ag_isOne h.2.2.2.1 hX he), if_neg (by decide), ao_gdn (by omega) (by omega), ao_gdn (by omega) (by omega), nI_clamp (by omega), e1]
  by_cases q1 : ag_sg Γ e = 47
  · rw [if_pos (show nI (ag_sg Γ e) = (47 : Int32) by rw [q1]; rfl)]
    exact hJ (Or.inl q1)
  · rw [if_neg (show ¬ nI (ag_sg Γ e) = (47 : Int32) from fun z => q1 ((nI_eq (by omega) (b := 47) (by omega)).mp z))]
    by_cases q2 : ag_sg Γ e = 37
    · rw [if_pos (show nI (ag_sg Γ e) = (37 : Int32) by rw [q2]; rfl)]
      exact hJ (Or.inr q2)
    · rw [if_neg (show ¬ nI (ag_sg Γ e) = (37 : Int32) from fun z => q2 ((nI_eq (by omega) (b := 37) (by omega)).mp z)), ao_b0 (fun y => y.1.elim q1 q2)]
theorem ag_riskyA0 {σ : aw_S} {Γ : ag_T} (hw : ag_wf Γ) (h : ag_A σ Γ) : m_Ex_isRisky σ 25 (-1) = some 0 := by
  unfold m_Ex_isRisky
  rw [aw_bd_s (ag_isOne0 h.2.2.2.1 hw.2.2.2.2.2.2.1 (ag_m1_no (by have := hw.2.2.2.2.2.2.1; omega))), if_pos rfl]
theorem ag_letterBit {σ : aw_S} (a : Nat) (ha : a < 2 ^ 31) : ∃ r, m_Ex_letterBit σ (nI a) = some r ∧ ∀ v, v < 32 → (ao_t r v ↔ v < 26 ∧ a = v) := by
  unfold m_Ex_letterBit
  rw [if_neg (nI_pos ha)]
  by_cases h : a < 26
  · rw [if_neg (show ¬ (26 : Int32) ≤ nI a from nI_ge (b := 26) h (by omega))]
    refine ⟨_, rfl, fun v hv => ?_⟩
    rw [ao_t_one (by omega) hv]
    omega
  · rw [if_pos (show (26 : Int32) ≤ nI a from nI_le (a := 26) (by omega) ha)]
    refine ⟨_, rfl, fun v hv => ⟨fun q => absurd q ao_t_0, fun q => by omega⟩⟩
theorem ag_letterBit0 {σ : aw_S} : m_Ex_letterBit σ (-1) = some 0 := by
  unfold m_Ex_letterBit
  rw [if_pos (by decide)]
theorem ag_letterBitO {σ : aw_S} (a : Option Nat) (ha : ∀ v, a = some v → v < 2 ^ 31) : ∃ r, m_Ex_letterBit σ (ao_o a) = some r ∧ ∀ v, v < 32 → (ao_t r v ↔ v < 26 ∧ a = some v) := by
  cases a with
  | none => exact ⟨0, ag_letterBit0, fun v _ => ⟨fun q => absurd q ao_t_0, fun q => by cases q.2⟩⟩
  | some x =>
    obtain ⟨r, e, hr⟩ := ag_letterBit (σ := σ) x (ha x rfl)
    exact ⟨r, e, fun v hv => (hr v hv).trans (and_congr_right fun _ => ⟨fun q => by rw [q], fun q => Option.some.inj q⟩)⟩
theorem ag_lettersOf {σ : aw_S} {Γ : ag_T} (hw : ag_wf Γ) (h : ag_A σ Γ) {e : Nat} (he : e < ag_X Γ) : ∃ r, m_Ex_lettersOf σ 25 (nI e) = some r ∧ ∀ v, v < 32 → (ao_t r v ↔ v < 26 ∧ (ag_lf Γ e = v ∨ ag_rt Γ e = v)) := by
  have hX := hw.2.2.2.2.2.2.1
  obtain ⟨hs, hl, hr⟩ := hw.2.2.2.2.2.2.2.1 e he
  obtain ⟨e1, e2, e3⟩ := h.2.2.2.2.1 e he
  obtain ⟨r1, p1, q1⟩ := ag_letterBit (σ := σ) (ag_lf Γ e) (by omega)
  obtain ⟨r2, p2, q2⟩ := ag_letterBit (σ := σ) (ag_rt Γ e) (by omega)
  refine ⟨r1 ||| r2, ?_, fun v hv => ?_⟩
  · unfold m_Ex_lettersOf
    rw [aw_bd_s (ag_isOne h.2.2.2.1 hX he), if_neg (by decide), ao_gdn (by omega) (by omega), nI_clamp (by omega)]
    show aw_bd (m_Ex_letterBit σ (σ.1 27 e)) _ = _
    rw [e2, aw_bd_s p1, ao_gdn (by omega) (by omega)]
    show aw_bd (m_Ex_letterBit σ (σ.1 28 e)) _ = _
    rw [e3, aw_bd_s p2]
  · rw [ao_t_or, q1 v hv, q2 v hv, ← and_or_left]
theorem ag_usedAt {σ : aw_S} {Γ : ag_T} (hw : ag_wf Γ) (h : ag_A σ Γ) {n : Nat} (hn : n < ag_N Γ) : ∃ r, m_Fa_usedAt σ (nI n) = some r ∧ ∀ e, e < 32 → (ao_t r e ↔ e < ag_X Γ ∧ ag_US Γ e n) := by
  have hN := hw.1.1
  have hX := hw.2.2.2.2.2.2.1
  unfold m_Fa_usedAt ag_US
  rw [ao_gdn (by omega) (by omega), nI_clamp (by omega), ao_ltr, (h.2.1 n hn).2.2.2.2]
  cases q : ag_ex Γ n with
  | none =>
    rw [show ao_o none = -1 from rfl, aw_bd_s (ag_isOne0 h.2.2.2.1 hX (ag_m1_no (by omega))), if_pos rfl]
    exact ⟨_, rfl, fun e he => ⟨fun z => absurd z ao_t_0, fun z => by cases z.2⟩⟩
  | some f =>
    have hf := ag_ex_lt hw hn q
    rw [show ao_o (some f) = nI f from rfl, aw_bd_s (ag_isOne h.2.2.2.1 hX hf), if_neg (by decide)]
    refine ⟨_, rfl, fun e he => ?_⟩
    rw [ao_t_one (by omega) he]
    exact ⟨fun z => by subst z; exact ⟨hf, rfl⟩, fun z => (Option.some.inj z.2).symm⟩
theorem ag_changedAt {σ : aw_S} {Γ : ag_T} (hw : ag_wf Γ) (h : ag_A σ Γ) {n : Nat} (hn : n < ag_N Γ) : m_Fa_letterChangedAt σ (nI n) = some (ao_o (ag_ch Γ n)) := by
  have hN := hw.1.1
  have hk7 := ag_kd_lt (hw.2.2.2.2.2.1 n hn)
  have hJ : m_Fa_letterChangedAt_J20 σ (nI n) = some (ao_o (ag_le Γ n)) := by
    unfold m_Fa_letterChangedAt_J20
    rw [ao_gdn (by omega) (by omega), nI_clamp (by omega), (h.2.1 n hn).2.2.1]
  unfold m_Fa_letterChangedAt ag_ch
  rw [ao_gdn (by omega) (by omega), ao_gdn (by omega) (by omega), nI_clamp (by omega), (h.2.1 n hn).1]
  by_cases q1 : ag_kd Γ n = 1
  · rw [if_pos (show nI (ag_kd Γ n) = (1 : Int32) by rw [q1]; rfl), hJ, if_pos (Or.inl q1)]
  · rw [if_neg (show ¬ nI (ag_kd Γ n) = (1 : Int32) from fun z => q1 ((ag_kI hk7 (b := 1) (by omega)).mp z))]
    by_cases q2 : ag_kd Γ n = 2
    · rw [if_pos (show nI (ag_kd Γ n) = (2 : Int32) by rw [q2]; rfl), hJ, if_pos (Or.inr q2)]
    · rw [if_neg (show ¬ nI (ag_kd Γ n) = (2 : Int32) from fun z => q2 ((ag_kI hk7 (b := 2) (by omega)).mp z)), if_neg (by omega)]
      rfl
theorem ag_hinders {σ : aw_S} {Γ : ag_T} (hw : ag_wf Γ) (h : ag_A σ Γ) {e n : Nat} (he : e < ag_X Γ) (hn : n < ag_N Γ) : m_Fa_hinders σ (nI n) (nI e) = some (ao_b (¬ (ag_kd Γ n ≠ 3 ∧ ∀ f, ag_ex Γ n = some f → f = e ∨ ¬ ag_RI Γ f))) := by
  have hN := hw.1.1
  have hX := hw.2.2.2.2.2.2.1
  have hk7 := ag_kd_lt (hw.2.2.2.2.2.1 n hn)
  unfold m_Fa_hinders
  rw [ao_gdn (by omega) (by omega), nI_clamp (by omega), ao_ltr, ao_gdn (by omega) (by omega), (h.2.1 n hn).1, (h.2.1 n hn).2.2.2.2]
  by_cases q2 : ag_kd Γ n = 3
  · rw [if_pos (show nI (ag_kd Γ n) = (3 : Int32) by rw [q2]; rfl), ao_b1 (fun z => z.1 q2)]
  · rw [if_neg (show ¬ nI (ag_kd Γ n) = (3 : Int32) from fun z => q2 ((ag_kI hk7 (b := 3) (by omega)).mp z))]
    cases q : ag_ex Γ n with
    | none =>
      rw [show ao_o none = -1 from rfl, if_neg (fun z => ao_m1 (by omega) z.symm), aw_bd_s (ag_riskyA0 hw h), if_pos rfl, ao_b0 (fun z => z ⟨q2, fun f y => by cases y⟩)]
    | some f =>
      have hf := ag_ex_lt hw hn q
      rw [show ao_o (some f) = nI f from rfl]
      by_cases q3 : f = e
      · rw [if_pos (by rw [q3]), ao_b0 (fun z => z ⟨q2, fun f' y => by cases y; exact Or.inl q3⟩)]
      · rw [if_neg (fun y => q3 ((nI_eq (by omega) (by omega)).mp y)), aw_bd_s (ag_riskyA hw h hf)]
        by_cases q4 : ag_RI Γ f
        · rw [if_neg (by rw [ao_b1 q4]; decide), ao_b1 (fun z => (z.2 f rfl).elim q3 (fun y => y q4))]
        · rw [if_pos (ao_b0 q4), ao_b0 (fun z => z ⟨q2, fun f' y => by cases y; exact Or.inr q4⟩)]
set_option maxHeartbeats 4000000 in
theorem ag_keptAt {σ : aw_S} {Γ : ag_T} (hw : ag_wf Γ) (h : ag_A σ Γ) {n : Nat} (hn : n < ag_N Γ) : ao_ok (m_Fa_keptAt σ (nI n)) (fun r => ∀ e, e < 32 → (ao_t r e ↔ e < ag_X Γ ∧ ag_KE Γ e n)) := by
  have hN := hw.1.1
  have hX := hw.2.2.2.2.2.2.1
  obtain ⟨cb, ecb, hcb⟩ := ag_letterBitO (σ := σ) (ag_ch Γ n) (fun v hv => by have := ag_ch_lt hw hn hv; omega)
  unfold m_Fa_keptAt
  refine ao_bde (ag_changedAt hw h hn) (ao_bde ecb (ao_bd (ao_for (Q := fun r => ao_ok (some r) (fun r => ∀ e, e < 32 → (ao_t r e ↔ e < ag_X Γ ∧ ag_KE Γ e n))) (ag_X Γ) (fun k s => s.2 = nI k ∧ ∀ e, e < 32 → (ao_t s.1 e ↔ e < k ∧ ag_KE Γ e n)) (a := 0) ⟨rfl, fun e he => ⟨fun q => absurd q ao_t_0, fun q => absurd q.1 (Nat.not_lt_zero _)⟩⟩ (Nat.zero_le _) (by omega) ?_ ?_)))
  · rintro k ⟨v3, v4⟩ hk ⟨e1, hi⟩
    have e1 : v4 = nI k := e1
    subst e1
    have hi : ∀ e, e < 32 → (ao_t v3 e ↔ e < k ∧ ag_KE Γ e n) := hi
    show ao_ok (m_Fa_keptAt_B14 σ (nI n) cb v3 (nI k)) _
    obtain ⟨lo, elo, hlo⟩ := ag_lettersOf hw h hk
    unfold m_Fa_keptAt_B14
    rw [h.2.2.2.1, if_neg (nI_ge hk (by omega))]
    have hno : ¬ ag_KE Γ k n → ao_ok (m_Fa_keptAt_J81 σ (nI n) cb v3 (nI k)) (Sum.elim (fun r => ao_ok (some r) (fun r => ∀ e, e < 32 → (ao_t r e ↔ e < ag_X Γ ∧ ag_KE Γ e n))) (fun s => s.2 = nI (k + 1) ∧ ∀ e, e < 32 → (ao_t s.1 e ↔ e < k + 1 ∧ ag_KE Γ e n))) := by
      intro hq
      refine ao_let (ao_inr ⟨nI_1 k, fun e he => (hi e he).trans ⟨fun q => ⟨by omega, q.2⟩, fun q => ⟨?_, q.2⟩⟩⟩)
      by_cases hek : e = k
      · subst hek; exact absurd q.2 hq
      · omega
    have hye : ag_KE Γ k n → ao_ok (m_Fa_keptAt_J74 σ (nI n) cb v3 (nI k)) (Sum.elim (fun r => ao_ok (some r) (fun r => ∀ e, e < 32 → (ao_t r e ↔ e < ag_X Γ ∧ ag_KE Γ e n))) (fun s => s.2 = nI (k + 1) ∧ ∀ e, e < 32 → (ao_t s.1 e ↔ e < k + 1 ∧ ag_KE Γ e n))) := by
      intro hq
      refine ao_let (ao_let (ao_inr ⟨nI_1 k, fun e he => ?_⟩))
      show ao_t (v3 ||| _) e ↔ _
      rw [ao_t_or, ao_t_one (by omega) he, hi e he]
      refine ⟨fun q => q.elim (fun q => ⟨by omega, q.2⟩) (fun q => by subst q; exact ⟨by omega, hq⟩), fun q => ?_⟩
      by_cases hek : e = k
      · exact Or.inr hek
      · exact Or.inl ⟨by omega, q.2⟩
    have hsame : (lo &&& cb) = 0 ↔ ∀ v, ag_ch Γ n = some v → ag_lf Γ k ≠ v ∧ ag_rt Γ k ≠ v := by
      rw [ao_t_nz]
      refine ⟨fun q v hv => ?_, fun q v hv z => ?_⟩
      · have hv26 := ag_ch_lt hw hn hv
        have := q v (by omega)
        rw [ao_t_and, hlo v (by omega), hcb v (by omega)] at this
        exact ⟨fun z => this ⟨⟨hv26, Or.inl z⟩, hv26, hv⟩, fun z => this ⟨⟨hv26, Or.inr z⟩, hv26, hv⟩⟩
      · rw [ao_t_and, hlo v hv, hcb v hv] at z
        obtain ⟨⟨_, z1⟩, _, z2⟩ := z
        exact z1.elim (q v z2).1 (q v z2).2
    refine ao_bde elo ?_
    refine ao_if (fun q => ?_) (fun q => ?_)
    · have q := hsame.mp q
      unfold m_Fa_keptAt_J45
      refine ao_ifn (by decide) (ao_bde (ag_riskyA hw h hk) ?_)
      by_cases q1 : ag_RI Γ k
      · refine ao_ifn (by rw [ao_b1 q1]; decide) (ao_bde (ag_hinders hw h hk hn) ?_)
        by_cases q2 : (ag_kd Γ n ≠ 3 ∧ ∀ f, ag_ex Γ n = some f → f = k ∨ ¬ ag_RI Γ f)
        · exact ao_ifp (ao_b0 (fun z => z q2)) (hye ⟨q, fun _ => q2⟩)
        · exact ao_ifn (by rw [ao_b1 q2]; decide) (hno (fun z => q2 (z.2 q1)))
      · exact ao_ifp (ao_b0 q1) (hye ⟨q, fun z => absurd z q1⟩)
    · unfold m_Fa_keptAt_J45
      exact ao_ifp rfl (hno (fun z => q (hsame.mpr z.1)))
  · rintro ⟨v3, v4⟩ ⟨e1, hi⟩
    have e1 : v4 = nI (ag_X Γ) := e1
    subst e1
    show ao_ok (m_Fa_keptAt_B14 σ (nI n) cb v3 (nI (ag_X Γ))) _
    unfold m_Fa_keptAt_B14
    rw [h.2.2.2.1, if_pos (nI_le (Nat.le_refl _) (by omega))]
    exact ao_inl (ao_some hi)
/-! ===== what is told to Flow ===== -/
theorem ag_tell {σ : aw_S} {n : Nat} (hn : n < 128) (o l g p : Int32) : m_Fl_tell σ (nI n) o l g p = some (aw_sI (aw_sI (aw_sI (aw_sI σ 43 n o) 44 n l) 45 n g) 46 n p) := by
  unfold m_Fl_tell
  rw [if_neg (nI_pos (by omega)), if_neg (show ¬ (128 : Int32) ≤ nI n from nI_ge (b := 128) hn (by omega)), ao_gdn hn (by omega), nI_clamp (by omega), ao_ltr, ao_gdn hn (by omega), ao_ltr, ao_gdn hn (by omega), ao_ltr, ao_gdn hn (by omega), ao_ltr]
def ag_told (s : aw_S) (N : Nat) (o l g p : Nat → Int32) : Prop := ∀ n, n < N → s.1 43 n = o n ∧ s.1 44 n = l n ∧ s.1 45 n = g n ∧ s.1 46 n = p n
theorem ag_tells {σ : aw_S} {N : Nat} (hN : N ≤ 112) (hNN : σ.1 24 13 = nI N) {f : Int32 × aw_S → Option (aw_S ⊕ (Int32 × aw_S))} (o l g p : Nat → Int32)
    (hst : ∀ s k, k < N → ao_ch [43, 44, 45, 46] [] σ s → f (nI k, s) = aw_bd (m_Fl_tell s (nI k) (o k) (l k) (g k) (p k)) (fun t => some (.inr (nI k + 1, t))))
    (hex : ∀ s, ao_ch [43, 44, 45, 46] [] σ s → f (nI N, s) = some (.inl s)) :
    ao_ok (aw_lp f aw_fu ((0 : Int32), σ)) (fun s => ao_ch [43, 44, 45, 46] [] σ s ∧ s.2 = σ.2 ∧ ag_told s N o l g p) := by
  refine ao_for N (fun k s => s.1 = nI k ∧ ao_ch [43, 44, 45, 46] [] σ s.2 ∧ s.2.2 = σ.2 ∧ ag_told s.2 k o l g p) (a := 0) ⟨rfl, ao_ch_rf, rfl, fun n hn => absurd hn (Nat.not_lt_zero _)⟩ (Nat.zero_le _) (by omega) ?_ ?_
  · rintro k ⟨v, s⟩ hk ⟨e1, hc, h2, ht⟩
    have e1 : v = nI k := e1
    subst e1
    rw [hst s k hk hc]
    refine ao_bde (ag_tell (by omega) _ _ _ _) (ao_inr ⟨nI_1 k, ao_ch_tr hc (ao_ch_tr (ao_ch_tr (ao_ch_tr (ao_ch_I (Or.inl (by decide))) (ao_ch_I (Or.inl (by decide)))) (ao_ch_I (Or.inl (by decide)))) (ao_ch_I (Or.inl (by decide)))), h2, fun n hn => ?_⟩)
    show (aw_sI (aw_sI (aw_sI (aw_sI s 43 k (o k)) 44 k (l k)) 45 k (g k)) 46 k (p k)).1 43 n = _ ∧ _
    rw [ao_sI_o (by decide), ao_sI_o (by decide), ao_sI_o (by decide)]
    have e44 : (aw_sI (aw_sI (aw_sI (aw_sI s 43 k (o k)) 44 k (l k)) 45 k (g k)) 46 k (p k)).1 44 = (aw_sI (aw_sI s 43 k (o k)) 44 k (l k)).1 44 := by rw [ao_sI_o (by decide), ao_sI_o (by decide)]
    have e45 : (aw_sI (aw_sI (aw_sI (aw_sI s 43 k (o k)) 44 k (l k)) 45 k (g k)) 46 k (p k)).1 45 = (aw_sI (aw_sI (aw_sI s 43 k (o k)) 44 k (l k)) 45 k (g k)).1 45 := by rw [ao_sI_o (by decide)]
    show _ ∧ (aw_sI (aw_sI (aw_sI (aw_sI s 43 k (o k)) 44 k (l k)) 45 k (g k)) 46 k (p k)).1 44 n = _ ∧ (aw_sI (aw_sI (aw_sI (aw_sI s 43 k (o k)) 44 k (l k)) 45 k (g k)) 46 k (p k)).1 45 n = _ ∧ (aw_sI (aw_sI (aw_sI (aw_sI s 43 k (o k)) 44 k (l k)) 45 k (g k)) 46 k (p k)).1 46 n = _
    rw [e44, e45]
    by_cases hnk : n = k
    · subst hnk
      rw [ao_sI_s, ao_sI_s, ao_sI_s, ao_sI_s]
      exact ⟨rfl, rfl, rfl, rfl⟩
    · have q := ht n (by omega)
      simp only [ao_sI_i hnk]
      exact q
  · rintro ⟨v, s⟩ ⟨e1, hc, h2, ht⟩
    have e1 : v = nI N := e1
    subst e1
    rw [hex s hc]
    exact ao_inl ⟨hc, h2, ht⟩

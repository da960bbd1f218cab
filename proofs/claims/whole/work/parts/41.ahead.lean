/-! ===== the reference: needed, alone ===== -/
/-- the row of one fact of one expression, 112 places, may have moved; nothing else -/
def ao_fw (w e : Nat) (σ σ' : aw_S) : Prop := (∀ k, k ≠ 12 → σ'.1 k = σ.1 k) ∧ (∀ j, (∀ n, n < 112 → j ≠ ao_c w e + n) → σ'.1 12 j = σ.1 12 j) ∧ σ'.2 = σ.2
theorem ao_fw_rf {w e : Nat} {σ : aw_S} : ao_fw w e σ σ := ⟨fun _ _ => rfl, fun _ _ => rfl, rfl⟩
theorem ao_fw_tr {w e : Nat} {σ σ1 σ2 : aw_S} (h : ao_fw w e σ σ1) (h' : ao_fw w e σ1 σ2) : ao_fw w e σ σ2 := ⟨fun k hk => (h'.1 k hk).trans (h.1 k hk), fun j hj => (h'.2.1 j hj).trans (h.2.1 j hj), h'.2.2.trans h.2.2⟩
theorem ao_fw_s {w e n : Nat} {σ : aw_S} {v : Int32} (hn : n < 112) : ao_fw w e σ (aw_sI σ 12 (ao_c w e + n) v) := ⟨fun _ hk => ao_sI_o hk, fun j hj => ao_sI_i (hj n hn), rfl⟩
theorem ao_fw_TB {w e N : Nat} {nx : Nat → Option Nat} {σ σ' : aw_S} (h : ao_fw w e σ σ') (hT : ao_TB σ N nx) : ao_TB σ' N nx := ao_TB_fr hT (congrFun (h.1 0 (by decide)) 14) (h.1 7 (by decide))
theorem ao_fw_o {w e w' e' n : Nat} {σ σ' : aw_S} (h : ao_fw w e σ σ') (he : e < 24) (he' : e' < 24) (hn : n < 112) (hne : w' ≠ w ∨ e' ≠ e) : σ'.1 12 (ao_c w' e' + n) = σ.1 12 (ao_c w' e' + n) := h.2.1 _ (fun m hm q => by
  obtain ⟨h1, h2, _⟩ := ao_c_ne hn hm he' he q
  rcases hne with hne | hne
  · exact hne h1
  · exact hne h2)
/-- the row says X -/
def ao_row (σ : aw_S) (N w e : Nat) (X : Nat → Prop) : Prop := ∀ n, n < N → σ.1 12 (ao_c w e + n) = ao_b (X n)
/-- what the row says -/
def ao_x (σ : aw_S) (w e : Nat) : Nat → Prop := fun n => σ.1 12 (ao_c w e + n) = 1
theorem ao_row_x {σ : aw_S} {N w e : Nat} {X : Nat → Prop} (h : ao_row σ N w e X) {n : Nat} (hn : n < N) : ao_x σ w e n ↔ X n := by unfold ao_x; rw [h n hn, ao_b_eq1]
theorem ao_row_of {σ : aw_S} {N w e : Nat} {X : Nat → Prop} (h : ∀ n, n < N → ao_01 (σ.1 12 (ao_c w e + n))) (h' : ∀ n, n < N → (ao_x σ w e n ↔ X n)) : ao_row σ N w e X := fun n hn => (ao_01_e (h n hn)).trans (ao_b_c (h' n hn))
theorem ao_row_01 {σ : aw_S} {N w e : Nat} {X : Nat → Prop} (h : ao_row σ N w e X) : ∀ n, n < N → ao_01 (σ.1 12 (ao_c w e + n)) := fun n hn => by rw [h n hn]; exact ao_01_b _
theorem ao_row_fw {σ σ' : aw_S} {N w e w' e' : Nat} {X : Nat → Prop} (h : ao_row σ N w e X) (hf : ao_fw w' e' σ σ') (hN : N ≤ 112) (he : e < 24) (he' : e' < 24) (hne : w ≠ w' ∨ e ≠ e') : ao_row σ' N w e X := fun n hn => (ao_fw_o hf he' he (by omega) hne).trans (h n hn)
theorem ao_row_c {σ : aw_S} {N w e : Nat} {X Y : Nat → Prop} (h : ao_row σ N w e X) (hxy : ∀ n, n < N → (X n ↔ Y n)) : ao_row σ N w e Y := fun n hn => (h n hn).trans (ao_b_c (hxy n hn))
theorem ao_so_r {σ : aw_S} {N w e n : Nat} {X : Nat → Prop} (h : ao_row σ N w e X) (hN : N ≤ 112) (hw : w < 8) (he : e < 24) (hn : n < N) : m_Rf_so σ (nI w) (nI e) (nI n) = some (ao_b (X n)) := by
  rw [ao_so hw he (by omega) (ao_row_01 h n hn), h n hn]
theorem ao_so_x {σ : aw_S} {N w e n : Nat} (h : ∀ n, n < N → ao_01 (σ.1 12 (ao_c w e + n))) (hN : N ≤ 112) (hw : w < 8) (he : e < 24) (hn : n < N) : m_Rf_so σ (nI w) (nI e) (nI n) = some (ao_b (ao_x σ w e n)) := by
  rw [ao_so hw he (by omega) (h n hn)]
  exact congrArg some (ao_01_e (h n hn))
/-- how an edge is looked at -/
theorem ao_edge {σ : aw_S} {N : Nat} {nx : Nat → Option Nat} (h : ao_TB σ N nx) {k : Nat} (hk : k < 2 * N) : (nx k = none ∧ σ.1 7 k = -1) ∨ ∃ t, nx k = some t ∧ t < N ∧ σ.1 7 k = nI t ∧ ¬ σ.1 7 k = -1 := by
  have h2 := h.2.2 k hk
  cases e : nx k with
  | none => exact Or.inl ⟨rfl, by rw [h2, e]; rfl⟩
  | some t =>
    have := h.1.2.1 k hk t e
    have hN := h.1.1
    exact Or.inr ⟨t, rfl, this, by rw [h2, e]; rfl, by rw [h2, e]; exact ao_m1 (by omega)⟩
theorem ao_ed_k {nx : Nat → Option Nat} {n t : Nat} : ao_ed nx n t ↔ ∃ i, i < 2 ∧ nx (2 * n + i) = some t := by
  unfold ao_ed
  refine ⟨fun h => h.elim (fun q => ⟨0, by omega, q⟩) (fun q => ⟨1, by omega, q⟩), fun ⟨i, hi, q⟩ => ?_⟩
  rcases (show i = 0 ∨ i = 1 by omega) with rfl | rfl
  · exact Or.inl q
  · exact Or.inr q
theorem ao_ed_half {nx : Nat → Option Nat} {k t : Nat} (h : nx k = some t) : ao_ed nx (k / 2) t := by
  rcases (show k = 2 * (k / 2) ∨ k = 2 * (k / 2) + 1 by omega) with e | e
  · exact Or.inl (e ▸ h)
  · exact Or.inr (e ▸ h)
theorem ao_ed_ex {nx : Nat → Option Nat} {N p t : Nat} (hp : p < N) (h : ao_ed nx p t) : ∃ k, k < 2 * N ∧ nx k = some t ∧ k / 2 = p := by
  rcases h with h | h
  · exact ⟨2 * p, by omega, h, by omega⟩
  · exact ⟨2 * p + 1, by omega, h, by omega⟩
set_option maxHeartbeats 4000000 in
/-- the loop over the two edges of a node -/
theorem ao_stays {σ : aw_S} {N : Nat} {nx : Nat → Option Nat} (h : ao_TB σ N nx) {w e n : Nat} (hn : n < N) (P : Nat → Prop)
    (hP : ∀ k t, k < 2 * N → nx k = some t → (if nI w = (2 : Int32) then aw_bd (m_Rf_so σ ((2 : Int32)) (nI e) (nI t)) (fun r19 => m_Rf_staysAhead_J102 σ (nI w) (nI e) (nI n) (nI k) r19) else aw_bd (m_Rf_so σ ((6 : Int32)) (nI e) (nI t)) (fun r9 => if r9 = 0 then aw_bd (m_Rf_so σ ((0 : Int32)) (nI e) (nI t)) (fun r13 => if r13 = 0 then aw_bd (m_Rf_so σ ((7 : Int32)) (nI e) (nI t)) (fun r16 => if r16 = 0 then m_Rf_staysAhead_J101 σ (nI w) (nI e) (nI n) (nI k) else m_Rf_staysAhead_J102 σ (nI w) (nI e) (nI n) (nI k) ((1 : Int32))) else m_Rf_staysAhead_J101 σ (nI w) (nI e) (nI n) (nI k)) else m_Rf_staysAhead_J102 σ (nI w) (nI e) (nI n) (nI k) ((1 : Int32)))) = some (.inr (ao_b (P t), nI k + 1))) :
    ao_ok (aw_lp (fun s => m_Rf_staysAhead_B8 σ (nI w) (nI e) (nI n) s.1 s.2) aw_fu ((1 : Int32), nI (2 * n))) (fun r => r = ao_b (∀ t, ao_ed nx n t → P t)) := by
  have hN := h.1.1
  refine ao_for 2 (fun j s => s.2 = nI (2 * n + j) ∧ s.1 = ao_b (∀ i, i < j → ∀ t, nx (2 * n + i) = some t → P t)) (a := 0) ⟨rfl, (ao_b1 (fun i hi => absurd hi (Nat.not_lt_zero _))).symm⟩ (Nat.zero_le _) (by omega) ?_ ?_
  · rintro j ⟨v4, v5⟩ hj ⟨e2, e1⟩
    have e2 : v5 = nI (2 * n + j) := e2
    have e1 : v4 = ao_b (∀ i, i < j → ∀ t, nx (2 * n + i) = some t → P t) := e1
    subst e2 e1
    show ao_ok (m_Rf_staysAhead_B8 σ (nI w) (nI e) (nI n) _ (nI (2 * n + j))) _
    unfold m_Rf_staysAhead_B8
    rw [ao_mul2, show (2 : Int32) = nI 2 from rfl, nI_add, if_neg (nI_ge (by omega) (by omega)), ao_gdn (by omega) (by omega), ao_gdn (by omega) (by omega), nI_clamp (by omega)]
    refine ao_if (fun h0 => ao_inl ?_) (fun h0 => ?_)
    · rw [h0]
      rw [ao_b_eq0] at h0
      exact (ao_b0 (fun q => h0 (fun i hi t ht => q t (ao_ed_k.mpr ⟨i, by omega, ht⟩)))).symm
    · have hq : ∀ i, i < j → ∀ t, nx (2 * n + i) = some t → P t := Classical.byContradiction (fun q => h0 (ao_b0 q))
      rcases ao_edge h (k := 2 * n + j) (by omega) with ⟨e1, e2⟩ | ⟨t, e1, ht, e2, e3⟩
      · rw [if_pos e2]
        refine ao_inr ⟨nI_1 _, ?_⟩
        refine ao_b_c ⟨fun _ i hi t ht => ?_, fun q i hi => q i (by omega)⟩
        by_cases hij : i = j
        · subst hij; rw [e1] at ht; cases ht
        · exact hq i (by omega) t ht
      · rw [if_neg e3, e2]
        refine ao_let (ao_of (hP _ t (by omega) e1) ⟨nI_1 _, ?_⟩)
        refine ao_b_c ⟨fun q i hi t' ht' => ?_, fun q => q j (by omega) t e1⟩
        by_cases hij : i = j
        · subst hij; rw [e1] at ht'; cases ht'; exact q
        · exact hq i (by omega) t' ht'
  · rintro ⟨v4, v5⟩ ⟨e2, e1⟩
    have e2 : v5 = nI (2 * n + 2) := e2
    have e1 : v4 = ao_b (∀ i, i < 2 → ∀ t, nx (2 * n + i) = some t → P t) := e1
    subst e2 e1
    show ao_ok (m_Rf_staysAhead_B8 σ (nI w) (nI e) (nI n) _ (nI (2 * n + 2))) _
    unfold m_Rf_staysAhead_B8
    rw [ao_mul2, show (2 : Int32) = nI 2 from rfl, nI_add, if_pos (nI_le (Nat.le_refl _) (by omega))]
    exact ao_inl (ao_b_c ⟨fun q t ht => by obtain ⟨i, hi, q'⟩ := ao_ed_k.mp ht; exact q i hi t q', fun q i hi t ht => q t (ao_ed_k.mpr ⟨i, hi, ht⟩)⟩)
theorem ao_stays2 {σ : aw_S} {N : Nat} {nx : Nat → Option Nat} (h : ao_TB σ N nx) {e n : Nat} (he : e < 24) (hn : n < N) {US KE : Nat → Prop} (h0 : ao_row σ N 0 e US) (h1 : ao_row σ N 1 e KE) (h2 : ∀ n, n < N → ao_01 (σ.1 12 (ao_c 2 e + n))) : m_Rf_staysAhead σ (nI 2) (nI e) (nI n) = some (ao_b (ao_fNE nx US KE (ao_x σ 2 e) n)) := by
  have hN := h.1.1
  unfold m_Rf_staysAhead
  obtain ⟨r, er, hr⟩ := ao_stays h (w := 2) (e := e) hn (ao_x σ 2 e) (fun k t hk ht => by
    rw [if_pos (show nI 2 = (2 : Int32) from rfl), show (2 : Int32) = nI 2 from rfl, aw_bd_s (ao_so_x h2 hN (by omega) he (h.1.2.1 k hk t ht))]; rfl)
  show aw_bd _ _ = _
  rw [ao_mul2, aw_bd_s er, if_pos (show nI 2 = (2 : Int32) from rfl), show (0 : Int32) = nI 0 from rfl, show (1 : Int32) = nI 1 from rfl, aw_bd_s (ao_so_r h0 hN (by omega) he hn), aw_bd_s (ao_so_r h1 hN (by omega) he hn), aw_bd_s (ao_isLast h hn), hr]
  rw [show nI 0 = (0 : Int32) from rfl, show nI 1 = (1 : Int32) from rfl]
  unfold ao_fNE
  by_cases q0 : US n
  · rw [if_neg (by rw [ao_b1 q0]; decide), ao_b1 (Or.inl q0)]
  · rw [if_pos (ao_b0 q0)]
    by_cases q1 : KE n
    · rw [if_neg (by rw [ao_b1 q1]; decide)]
      by_cases q2 : nx (2 * n) = none
      · rw [if_neg (by rw [ao_b1 q2]; decide), ao_b0 (by rintro (q | ⟨_, q, _⟩); exact q0 q; exact q q2)]
      · rw [if_pos (ao_b0 q2)]
        by_cases q3 : ∀ t, ao_ed nx n t → ao_x σ 2 e t
        · rw [if_neg (by rw [ao_b1 q3]; decide), ao_b1 (Or.inr ⟨q1, q2, q3⟩)]
        · rw [if_pos (ao_b0 q3), ao_b0 (by rintro (q | ⟨_, _, q⟩); exact q0 q; exact q3 q)]
    · rw [if_pos (ao_b0 q1), ao_b0 (by rintro (q | ⟨q, _⟩); exact q0 q; exact q1 q)]
theorem ao_stays7 {σ : aw_S} {N : Nat} {nx : Nat → Option Nat} (h : ao_TB σ N nx) {e n : Nat} (he : e < 24) (hn : n < N) {US LA : Nat → Prop} (h0 : ao_row σ N 0 e US) (h6 : ao_row σ N 6 e LA) (h7 : ∀ n, n < N → ao_01 (σ.1 12 (ao_c 7 e + n))) : m_Rf_staysAhead σ (nI 7) (nI e) (nI n) = some (ao_b (∀ t, ao_ed nx n t → LA t ∨ (¬ US t ∧ ao_x σ 7 e t))) := by
  have hN := h.1.1
  unfold m_Rf_staysAhead
  obtain ⟨r, er, hr⟩ := ao_stays h (w := 7) (e := e) hn (fun t => LA t ∨ (¬ US t ∧ ao_x σ 7 e t)) (fun k t hk ht => by
    have htN := h.1.2.1 k hk t ht
    rw [if_neg (by decide), show (6 : Int32) = nI 6 from rfl, show (7 : Int32) = nI 7 from rfl, show (0 : Int32) = nI 0 from rfl, aw_bd_s (ao_so_r h6 hN (by omega) he htN), aw_bd_s (ao_so_r h0 hN (by omega) he htN), aw_bd_s (ao_so_x h7 hN (by omega) he htN)]
    rw [show nI 0 = (0 : Int32) from rfl]
    by_cases q6 : LA t
    · rw [if_neg (by rw [ao_b1 q6]; decide), ao_b1 (Or.inl q6)]; rfl
    · rw [if_pos (ao_b0 q6)]
      by_cases q0 : US t
      · rw [if_neg (by rw [ao_b1 q0]; decide), ao_b0 (by rintro (q | ⟨q, _⟩); exact q6 q; exact q q0)]; rfl
      · rw [if_pos (ao_b0 q0)]
        by_cases q7 : ao_x σ 7 e t
        · rw [if_neg (by rw [ao_b1 q7]; decide), ao_b1 (Or.inr ⟨q0, q7⟩)]; rfl
        · rw [if_pos (ao_b0 q7), ao_b0 (by rintro (q | ⟨_, q⟩); exact q6 q; exact q7 q)]; rfl)
  show aw_bd _ _ = _
  rw [ao_mul2, aw_bd_s er, if_neg (by decide), hr, aw_gd_t (ao_b_01 _)]
/-- downwards -/
def ao_dn (N k : Nat) : Int32 := if k < N then nI (N - 1 - k) else -1
theorem ao_dn_s {N k : Nat} (h : k < N) : nI (N - 1 - k) + (-1) = ao_dn N (k + 1) := by
  unfold ao_dn
  by_cases h2 : k + 1 < N
  · rw [if_pos h2, show N - 1 - k = (N - 1 - (k + 1)) + 1 by omega, pk_m1]
  · rw [if_neg h2, show N - 1 - k = 0 by omega]; decide
theorem ao_dn_lt {N k : Nat} (h : k < N) : ao_dn N k = nI (N - 1 - k) := if_pos h
theorem ao_dn_N (N : Nat) : ao_dn N N = -1 := if_neg (Nat.lt_irrefl _)
theorem ao_dn_0 {N : Nat} (h : 0 < N) : nI N - 1 = ao_dn N 0 := by rw [ao_dn_lt h, show (1 : Int32) = nI 1 from rfl, pk_sub (by omega), Nat.sub_zero]
set_option maxHeartbeats 4000000 in
theorem ao_layAhead {σ : aw_S} {N : Nat} {nx : Nat → Option Nat} (h : ao_TB σ N nx) (h1 : 0 < N) {w e : Nat} (hw : w < 8) (he : e < 24) (F : (Nat → Prop) → Nat → Prop) (hF : ao_mono N F)
    (hst : ∀ s, ao_fw w e σ s → (∀ n, n < N → ao_01 (s.1 12 (ao_c w e + n))) → ∀ n, n < N → m_Rf_staysAhead s (nI w) (nI e) (nI n) = some (ao_b (F (ao_x s w e) n))) :
    ao_ok (m_Rf_layAhead σ (nI w) (nI e)) (fun s => ao_fw w e σ s ∧ ao_row s N w e (ao_G N F)) := by
  have hN := h.1.1
  unfold m_Rf_layAhead
  refine ao_bd (ao_imp (ao_for (Q := fun s => ao_fw w e σ s ∧ ∀ n, n < N → s.1 12 (ao_c w e + n) = 1) N (fun k s => s.1 = nI k ∧ ao_fw w e σ s.2 ∧ ∀ n, n < k → s.2.1 12 (ao_c w e + n) = 1) (a := 0) ⟨rfl, ao_fw_rf, fun n hn => absurd hn (Nat.not_lt_zero _)⟩ (Nat.zero_le _) (by omega) ?_ ?_) ?_)
  · rintro k ⟨v, s⟩ hk ⟨e1, hf, hv⟩
    have e1 : v = nI k := e1
    subst e1
    show ao_ok (m_Rf_layAhead_B2 s (nI w) (nI e) (nI k)) _
    unfold m_Rf_layAhead_B2
    rw [(ao_fw_TB hf h).2.1, if_neg (nI_ge hk (by omega))]
    refine ao_bde (ao_set hw he (by omega) (Or.inr rfl)) (ao_let (ao_inr ⟨nI_1 k, ao_fw_tr hf (ao_fw_s (by omega)), fun n hn => ?_⟩))
    show (aw_sI s 12 (ao_c w e + k) 1).1 12 (ao_c w e + n) = 1
    by_cases hnk : n = k
    · subst hnk; exact ao_sI_s _ _ _ _
    · rw [ao_sI_i (by omega)]; exact hv n (by omega)
  · rintro ⟨v, s⟩ ⟨e1, hf, hv⟩
    have e1 : v = nI N := e1
    subst e1
    show ao_ok (m_Rf_layAhead_B2 s (nI w) (nI e) (nI N)) _
    unfold m_Rf_layAhead_B2
    rw [(ao_fw_TB hf h).2.1, if_pos (nI_le (Nat.le_refl _) (by omega))]
    exact ao_inl ⟨hf, hv⟩
  · rintro s ⟨hf, hv⟩
    refine ao_bd (ao_imp (ao_chaos (fo := fun s => m_Rf_layAhead_B26 s.2 (nI w) (nI e) s.1) (fi := fun s => m_Rf_layAhead_B40 s.2.2 (nI w) (nI e) s.1 s.2.1) N (ao_dn N)
      (fun t => ao_fw w e σ t ∧ (∀ n, n < N → ao_01 (t.1 12 (ao_c w e + n))) ∧ ∀ Y : Nat → Prop, (∀ n, n < N → Y n → F Y n) → ∀ n, n < N → Y n → ao_x t w e n)
      (fun t => ao_n (ao_x t w e) N) (fun t k => ao_x t w e (N - 1 - k) ∧ ¬ F (ao_x t w e) (N - 1 - k)) (by omega) ?_ ?_ ?_ ?_ ⟨hf, fun n hn => Or.inr (hv n hn), fun _ _ n hn _ => hv n hn⟩ (by have := ao_n_le (ao_x s w e) N; omega)) ?_)
    · intro t; rfl
    · rintro t ⟨hf, h01, hU⟩
      show m_Rf_layAhead_B26 t (nI w) (nI e) 1 = _
      unfold m_Rf_layAhead_B26
      rw [if_neg (by decide), (ao_fw_TB hf h).2.1, ao_dn_0 h1]
      rfl
    · rintro t v ⟨hf, h01, hU⟩
      show m_Rf_layAhead_B40 t (nI w) (nI e) v (ao_dn N N) = _
      unfold m_Rf_layAhead_B40
      rw [ao_dn_N, if_pos (by decide)]
    · rintro t v k hk ⟨hf, h01, hU⟩ hv
      show (_ ∧ m_Rf_layAhead_B40 t (nI w) (nI e) v (ao_dn N k) = _) ∨ (∃ s', m_Rf_layAhead_B40 t (nI w) (nI e) v (ao_dn N k) = _ ∧ _)
      have hm : N - 1 - k < N := by omega
      have ed : ao_dn N (k + 1) = nI (N - 1 - k) + (-1) := (ao_dn_s hk).symm
      unfold m_Rf_layAhead_B40
      rw [ao_dn_lt hk, if_neg (nI_pos (by omega)), aw_bd_s (ao_so_x h01 hN hw he hm), aw_bd_s (hst t hf h01 _ hm), ed]
      by_cases q1 : ao_x t w e (N - 1 - k)
      · rw [if_neg (by rw [ao_b1 q1]; decide)]
        by_cases q2 : F (ao_x t w e) (N - 1 - k)
        · rw [if_neg (by rw [ao_b1 q2]; decide)]
          exact Or.inl ⟨fun q => q.2 q2, rfl⟩
        · rw [if_pos (ao_b0 q2), aw_bd_s (ao_set hw he (by omega) (Or.inl rfl))]
          have hx : ∀ n, n < N → (ao_x (aw_sI t 12 (ao_c w e + (N - 1 - k)) 0) w e n ↔ ao_x t w e n ∧ n ≠ N - 1 - k) := by
            intro n hn
            unfold ao_x
            by_cases hnk : n = N - 1 - k
            · subst hnk
              rw [ao_sI_s]
              exact ⟨fun q => absurd q (by decide), fun q => absurd rfl q.2⟩
            · rw [ao_sI_i (by omega)]
              exact ⟨fun q => ⟨q, hnk⟩, fun q => q.1⟩
          refine Or.inr ⟨_, rfl, ⟨ao_fw_tr hf (ao_fw_s (by omega)), fun n hn => ?_, fun Y hY n hn hy => ?_⟩, ?_⟩
          · by_cases hnk : n = N - 1 - k
            · subst hnk; rw [ao_sI_s]; exact Or.inl rfl
            · rw [ao_sI_i (by omega)]; exact h01 n hn
          · refine (hx n hn).mpr ⟨hU Y hY n hn hy, fun q => ?_⟩
            subst q
            exact q2 (hF Y _ (hU Y hY) _ hn (hY _ hn hy))
          · exact ao_n_lt (i := N - 1 - k) (fun n hn q => ((hx n hn).mp q).1) hm q1 (fun q => ((hx _ hm).mp q).2 rfl)
      · rw [if_pos (ao_b0 q1)]
        exact Or.inl ⟨fun q => q1 q.1, rfl⟩
    · rintro t ⟨⟨hf, h01, hU⟩, hC⟩
      refine ao_some ⟨hf, ao_row_of h01 (ao_gf_G ⟨fun n hn hx => Classical.byContradiction fun q => ?_, hU⟩ (fun _ _ _ => Iff.rfl))⟩
      refine hC (N - 1 - n) (by omega) ?_
      rw [show N - 1 - (N - 1 - n) = n by omega]
      exact ⟨hx, q⟩
theorem ao_layNeeded {σ : aw_S} {N : Nat} {nx : Nat → Option Nat} (h : ao_TB σ N nx) (h1 : 0 < N) {e : Nat} (he : e < 24) {US KE : Nat → Prop} (hU : ao_row σ N 0 e US) (hK : ao_row σ N 1 e KE) : ao_ok (m_Rf_layAhead σ ((2 : Int32)) (nI e)) (fun s => ao_fw 2 e σ s ∧ ao_row s N 2 e (ao_NE N nx US KE)) :=
  ao_layAhead h h1 (w := 2) (by omega) he (ao_fNE nx US KE) (fun Y Z hYZ n hn hf => hf.imp id (fun ⟨a, b, c⟩ => ⟨a, b, fun t ht => hYZ t (ao_ed_lt h.1 hn ht) (c t ht)⟩)) (fun s hf h01 n hn => ao_stays2 (ao_fw_TB hf h) he hn (ao_row_fw hU hf h.1.1 he he (Or.inl (by omega))) (ao_row_fw hK hf h.1.1 he he (Or.inl (by omega))) h01)
theorem ao_layAlone {σ : aw_S} {N : Nat} {nx : Nat → Option Nat} (h : ao_TB σ N nx) (h1 : 0 < N) {e : Nat} (he : e < 24) {US KE : Nat → Prop} (hU : ao_row σ N 0 e US) (hL : ao_row σ N 6 e (ao_LA N nx US KE)) : ao_ok (m_Rf_layAhead σ ((7 : Int32)) (nI e)) (fun s => ao_fw 7 e σ s ∧ ao_row s N 7 e (ao_AL N nx US KE)) :=
  ao_layAhead h h1 (w := 7) (by omega) he (ao_fAL N nx US KE) (fun Y Z hYZ n hn hf t ht => (hf t ht).imp id (fun ⟨a, b⟩ => ⟨a, hYZ t (ao_ed_lt h.1 hn ht) b⟩)) (fun s hf h01 n hn => ao_stays7 (ao_fw_TB hf h) he hn (ao_row_fw hU hf h.1.1 he he (Or.inl (by omega))) (ao_row_fw hL hf h.1.1 he he (Or.inl (by omega))) h01)

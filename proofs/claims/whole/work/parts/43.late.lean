/-! ===== the reference: late; the rows of placements; how long names live ===== -/
set_option maxHeartbeats 4000000 in
theorem ao_layLate {σ : aw_S} {N : Nat} {nx : Nat → Option Nat} (h : ao_TB σ N nx) {e : Nat} (he : e < 24) {US KE : Nat → Prop} (hU : ao_row σ N 0 e US) (hD : ao_row σ N 5 e (ao_DE N nx US KE)) : ao_ok (m_Rf_layLate σ (nI e)) (fun s => ao_fw 6 e σ s ∧ ao_row s N 6 e (ao_LA N nx US KE)) := by
  have hN := h.1.1
  have r0 : ∀ s, ao_fw 6 e σ s → ao_row s N 0 e US := fun s hf => ao_row_fw hU hf hN he he (Or.inl (by omega))
  have r5 : ∀ s, ao_fw 6 e σ s → ao_row s N 5 e (ao_DE N nx US KE) := fun s hf => ao_row_fw hD hf hN he he (Or.inl (by omega))
  unfold m_Rf_layLate
  refine ao_bd (ao_for (Q := fun s => ao_ok (some s) (fun s => ao_fw 6 e σ s ∧ ao_row s N 6 e (ao_LA N nx US KE))) N (fun k s => s.1 = nI k ∧ ao_fw 6 e σ s.2 ∧ ∀ n, n < k → s.2.1 12 (ao_c 6 e + n) = ao_b (ao_LA N nx US KE n)) (a := 0) ⟨rfl, ao_fw_rf, fun n hn => absurd hn (Nat.not_lt_zero _)⟩ (Nat.zero_le _) (by omega) ?_ ?_)
  · rintro n ⟨v, s⟩ hn ⟨e1, hf, hv⟩
    have e1 : v = nI n := e1
    subst e1
    have hT := ao_fw_TB hf h
    show ao_ok (m_Rf_layLate_B2 s (nI e) (nI n)) _
    unfold m_Rf_layLate_B2
    rw [hT.2.1, if_neg (nI_ge hn (by omega)), ao_mul2]
    refine ao_bde (by rw [show (0 : Int32) = nI 0 from rfl]; exact ao_so_r (r0 s hf) hN (by omega) he hn) (ao_let (ao_bd (ao_imp (ao_for (Q := fun r => r = ao_b (US n ∨ ∃ t, ao_ed nx n t ∧ ¬ ao_DE N nx US KE t)) 2 (fun j s => s.2 = nI (2 * n + j) ∧ s.1 = ao_b (US n ∨ ∃ i, i < j ∧ ∃ t, nx (2 * n + i) = some t ∧ ¬ ao_DE N nx US KE t)) (a := 0) ⟨rfl, ao_b_c ⟨fun q => Or.inl q, fun q => q.elim id (fun ⟨i, hi, _⟩ => absurd hi (Nat.not_lt_zero _))⟩⟩ (Nat.zero_le _) (by omega) ?_ ?_) (fun r hr => ?_))))
    · rintro j ⟨v3, v4⟩ hj ⟨e2, e3⟩
      have e2 : v4 = nI (2 * n + j) := e2
      have e3 : v3 = ao_b (US n ∨ ∃ i, i < j ∧ ∃ t, nx (2 * n + i) = some t ∧ ¬ ao_DE N nx US KE t) := e3
      subst e2 e3
      show ao_ok (m_Rf_layLate_B23 s (nI e) (nI n) _ (nI (2 * n + j))) _
      unfold m_Rf_layLate_B23
      rw [ao_mul2, show (2 : Int32) = nI 2 from rfl, nI_add, if_neg (nI_ge (by omega) (by omega)), ao_gdn (by omega) (by omega), ao_gdn (by omega) (by omega), nI_clamp (by omega)]
      have hj1 : ∀ x, x = ao_b (US n ∨ ∃ i, i < j + 1 ∧ ∃ t, nx (2 * n + i) = some t ∧ ¬ ao_DE N nx US KE t) → ao_ok (m_Rf_layLate_J69 s (nI e) (nI n) (nI (2 * n + j)) x) (Sum.elim (fun r => r = ao_b (US n ∨ ∃ t, ao_ed nx n t ∧ ¬ ao_DE N nx US KE t)) (fun s => s.2 = nI (2 * n + (j + 1)) ∧ s.1 = ao_b (US n ∨ ∃ i, i < j + 1 ∧ ∃ t, nx (2 * n + i) = some t ∧ ¬ ao_DE N nx US KE t))) := fun x hx => ao_let (ao_inr ⟨nI_1 _, hx⟩)
      refine ao_if (fun h0 => ?_) (fun h0 => ?_)
      · rw [ao_b_eq0] at h0
        rcases ao_edge hT (k := 2 * n + j) (by omega) with ⟨e1, e2⟩ | ⟨t, e1, ht, e2, e3⟩
        · rw [if_pos e2]
          refine hj1 0 (ao_b0 (fun q => ?_)).symm
          rcases q with q | ⟨i, hi, t, q1, q2⟩
          · exact h0 (Or.inl q)
          · by_cases hij : i = j
            · subst hij; rw [e1] at q1; cases q1
            · exact h0 (Or.inr ⟨i, by omega, t, q1, q2⟩)
        · rw [if_neg e3, e2, show (5 : Int32) = nI 5 from rfl]
          refine ao_bde (ao_so_r (r5 s hf) hN (by omega) he ht) ?_
          by_cases q5 : ao_DE N nx US KE t
          · refine ao_ifn (by rw [ao_b1 q5]; decide) (hj1 0 (ao_b0 (fun q => ?_)).symm)
            rcases q with q | ⟨i, hi, t', q1, q2⟩
            · exact h0 (Or.inl q)
            · by_cases hij : i = j
              · subst hij; rw [e1] at q1; cases q1; exact q2 q5
              · exact h0 (Or.inr ⟨i, by omega, t', q1, q2⟩)
          · exact ao_ifp (ao_b0 q5) (hj1 1 (ao_b1 (Or.inr ⟨j, by omega, t, e1, q5⟩)).symm)
      · have hq : US n ∨ ∃ i, i < j ∧ ∃ t, nx (2 * n + i) = some t ∧ ¬ ao_DE N nx US KE t := Classical.byContradiction (fun q => h0 (ao_b0 q))
        exact hj1 1 (ao_b1 (hq.imp id (fun ⟨i, hi, q⟩ => ⟨i, by omega, q⟩))).symm
    · rintro ⟨v3, v4⟩ ⟨e2, e3⟩
      have e2 : v4 = nI (2 * n + 2) := e2
      have e3 : v3 = ao_b (US n ∨ ∃ i, i < 2 ∧ ∃ t, nx (2 * n + i) = some t ∧ ¬ ao_DE N nx US KE t) := e3
      subst e2 e3
      show ao_ok (m_Rf_layLate_B23 s (nI e) (nI n) _ (nI (2 * n + 2))) _
      unfold m_Rf_layLate_B23
      rw [ao_mul2, show (2 : Int32) = nI 2 from rfl, nI_add, if_pos (nI_le (Nat.le_refl _) (by omega))]
      exact ao_inl (ao_b_c (or_congr Iff.rfl ⟨fun ⟨i, hi, t, q1, q2⟩ => ⟨t, ao_ed_k.mpr ⟨i, hi, q1⟩, q2⟩, fun ⟨t, q1, q2⟩ => by obtain ⟨i, hi, q⟩ := ao_ed_k.mp q1; exact ⟨i, hi, t, q, q2⟩⟩))
    · have hj : ∀ x, x = ao_b (ao_LA N nx US KE n) → ao_ok (m_Rf_layLate_J100 s (nI e) (nI n) ((6 : Int32)) (nI e) (nI n) x) (Sum.elim (fun s => ao_ok (some s) (fun s => ao_fw 6 e σ s ∧ ao_row s N 6 e (ao_LA N nx US KE))) (fun s => s.1 = nI (n + 1) ∧ ao_fw 6 e σ s.2 ∧ ∀ m, m < n + 1 → s.2.1 12 (ao_c 6 e + m) = ao_b (ao_LA N nx US KE m))) := by
        intro x hx
        unfold m_Rf_layLate_J100
        refine ao_bde (ao_set (w := 6) (by omega) he (by omega) (by rw [hx]; exact ao_01_b _)) (ao_let (ao_inr ⟨nI_1 n, ao_fw_tr hf (ao_fw_s (by omega)), fun m hm => ?_⟩))
        show (aw_sI s 12 (ao_c 6 e + n) x).1 12 (ao_c 6 e + m) = _
        by_cases hnk : m = n
        · subst hnk; rw [ao_sI_s, hx]
        · rw [ao_sI_i (by omega)]; exact hv m (by omega)
      rw [hr]
      by_cases q : US n ∨ ∃ t, ao_ed nx n t ∧ ¬ ao_DE N nx US KE t
      · refine ao_ifn (by rw [ao_b1 q]; decide) ?_
        rw [show (5 : Int32) = nI 5 from rfl]
        refine ao_bde (ao_so_r (r5 s hf) hN (by omega) he hn) ?_
        by_cases q5 : ao_DE N nx US KE n
        · exact ao_ifn (by rw [ao_b1 q5]; decide) (hj 1 (ao_b1 ⟨q5, q⟩).symm)
        · exact ao_ifp (ao_b0 q5) (hj 0 (ao_b0 (fun z => q5 z.1)).symm)
      · exact ao_ifp (ao_b0 q) (hj 0 (ao_b0 (fun z => q z.2)).symm)
  · rintro ⟨v, s⟩ ⟨e1, hf, hv⟩
    have e1 : v = nI N := e1
    subst e1
    show ao_ok (m_Rf_layLate_B2 s (nI e) (nI N)) _
    unfold m_Rf_layLate_B2
    rw [(ao_fw_TB hf h).2.1, if_pos (nI_le (Nat.le_refl _) (by omega))]
    exact ao_inl (ao_some ⟨hf, hv⟩)
/-- the row of one fact of one expression, 112 places, may have moved; nothing else -/
def ao_pw (w e : Nat) (σ σ' : aw_S) : Prop := (∀ k, k ≠ 13 → σ'.1 k = σ.1 k) ∧ (∀ j, (∀ n, n < 112 → j ≠ ao_c w e + n) → σ'.1 13 j = σ.1 13 j) ∧ σ'.2 = σ.2
theorem ao_pw_rf {w e : Nat} {σ : aw_S} : ao_pw w e σ σ := ⟨fun _ _ => rfl, fun _ _ => rfl, rfl⟩
theorem ao_pw_tr {w e : Nat} {σ σ1 σ2 : aw_S} (h : ao_pw w e σ σ1) (h' : ao_pw w e σ1 σ2) : ao_pw w e σ σ2 := ⟨fun k hk => (h'.1 k hk).trans (h.1 k hk), fun j hj => (h'.2.1 j hj).trans (h.2.1 j hj), h'.2.2.trans h.2.2⟩
theorem ao_pw_s {w e n : Nat} {σ : aw_S} {v : Int32} (hn : n < 112) : ao_pw w e σ (aw_sI σ 13 (ao_c w e + n) v) := ⟨fun _ hk => ao_sI_o hk, fun j hj => ao_sI_i (hj n hn), rfl⟩
theorem ao_pw_TB {w e N : Nat} {nx : Nat → Option Nat} {σ σ' : aw_S} (h : ao_pw w e σ σ') (hT : ao_TB σ N nx) : ao_TB σ' N nx := ao_TB_fr hT (congrFun (h.1 0 (by decide)) 14) (h.1 7 (by decide))
theorem ao_pw_o {w e w' e' n : Nat} {σ σ' : aw_S} (h : ao_pw w e σ σ') (he : e < 24) (he' : e' < 24) (hn : n < 112) (hne : w' ≠ w ∨ e' ≠ e) : σ'.1 13 (ao_c w' e' + n) = σ.1 13 (ao_c w' e' + n) := h.2.1 _ (fun m hm q => by
  obtain ⟨h1, h2, _⟩ := ao_c_ne hn hm he' he q
  rcases hne with hne | hne
  · exact hne h1
  · exact hne h2)
/-- the row says X -/
def ao_rp (σ : aw_S) (N w e : Nat) (X : Nat → Prop) : Prop := ∀ n, n < N → σ.1 13 (ao_c w e + n) = ao_b (X n)
/-- what the row says -/
def ao_xp (σ : aw_S) (w e : Nat) : Nat → Prop := fun n => σ.1 13 (ao_c w e + n) = 1
theorem ao_rp_x {σ : aw_S} {N w e : Nat} {X : Nat → Prop} (h : ao_rp σ N w e X) {n : Nat} (hn : n < N) : ao_xp σ w e n ↔ X n := by unfold ao_xp; rw [h n hn, ao_b_eq1]
theorem ao_rp_of {σ : aw_S} {N w e : Nat} {X : Nat → Prop} (h : ∀ n, n < N → ao_01 (σ.1 13 (ao_c w e + n))) (h' : ∀ n, n < N → (ao_xp σ w e n ↔ X n)) : ao_rp σ N w e X := fun n hn => (ao_01_e (h n hn)).trans (ao_b_c (h' n hn))
theorem ao_rp_01 {σ : aw_S} {N w e : Nat} {X : Nat → Prop} (h : ao_rp σ N w e X) : ∀ n, n < N → ao_01 (σ.1 13 (ao_c w e + n)) := fun n hn => by rw [h n hn]; exact ao_01_b _
theorem ao_rp_pw {σ σ' : aw_S} {N w e w' e' : Nat} {X : Nat → Prop} (h : ao_rp σ N w e X) (hf : ao_pw w' e' σ σ') (hN : N ≤ 112) (he : e < 24) (he' : e' < 24) (hne : w ≠ w' ∨ e ≠ e') : ao_rp σ' N w e X := fun n hn => (ao_pw_o hf he' he (by omega) hne).trans (h n hn)
theorem ao_rp_c {σ : aw_S} {N w e : Nat} {X Y : Nat → Prop} (h : ao_rp σ N w e X) (hxy : ∀ n, n < N → (X n ↔ Y n)) : ao_rp σ N w e Y := fun n hn => (h n hn).trans (ao_b_c (hxy n hn))

theorem ao_at {σ : aw_S} {how what e n : Nat} : m_Rf_at σ (nI how) (nI what) (nI e) (nI n) = some (nI (ao_c (3 * how + what) e + n)) := by
  unfold m_Rf_at ao_c
  rw [show (24 : Int32) = nI 24 from rfl, show (3 : Int32) = nI 3 from rfl, show (112 : Int32) = nI 112 from rfl, pk_mul, nI_add, pk_mul, nI_add, pk_mul, nI_add]
theorem ao_d_lt {w e n : Nat} (hw : w < 6) (he : e < 24) (hn : n < 112) : ao_c w e + n < 16128 := by unfold ao_c; omega
theorem ao_rp_p {σ : aw_S} {N w e : Nat} {X : Nat → Prop} (h : ao_rp σ N w e X) {n : Nat} (hn : n < N) : σ.1 13 (ao_c w e + n) = 0 ↔ ¬ X n := by rw [h n hn, ao_b_eq0]
set_option maxHeartbeats 4000000 in
theorem ao_layAlive {σ : aw_S} {N : Nat} {nx : Nat → Option Nat} (h : ao_TB σ N nx) {how e : Nat} (hh : how < 2) (he : e < 24) {PU RE : Nat → Prop} (hP : ao_rp σ N (3 * how + 0) e PU) (hR : ao_rp σ N (3 * how + 1) e RE) : ao_ok (m_Rf_layAlive σ (nI how) (nI e)) (fun s => ao_pw (3 * how + 2) e σ s ∧ ao_rp s N (3 * how + 2) e (ao_L N (fun Y n => RE n ∨ ∃ t, ao_ed nx n t ∧ ¬ PU t ∧ Y t))) := by
  have hN := h.1.1
  have rP : ∀ s, ao_pw (3 * how + 2) e σ s → ao_rp s N (3 * how + 0) e PU := fun s hf => ao_rp_pw hP hf hN he he (Or.inl (by omega))
  have rR : ∀ s, ao_pw (3 * how + 2) e σ s → ao_rp s N (3 * how + 1) e RE := fun s hf => ao_rp_pw hR hf hN he he (Or.inl (by omega))
  have n2 : ∀ s n, m_Rf_at s (nI how) ((2 : Int32)) (nI e) (nI n) = some (nI (ao_c (3 * how + 2) e + n)) := fun s n => ao_at (what := 2)
  have n1 : ∀ s n, m_Rf_at s (nI how) ((1 : Int32)) (nI e) (nI n) = some (nI (ao_c (3 * how + 1) e + n)) := fun s n => ao_at (what := 1)
  have n0 : ∀ s n, m_Rf_at s (nI how) ((0 : Int32)) (nI e) (nI n) = some (nI (ao_c (3 * how + 0) e + n)) := fun s n => ao_at (what := 0)
  have b2 : ∀ n, n < N → ao_c (3 * how + 2) e + n < 16128 := fun n hn => ao_d_lt (by omega) he (by omega)
  have b1 : ∀ n, n < N → ao_c (3 * how + 1) e + n < 16128 := fun n hn => ao_d_lt (by omega) he (by omega)
  have b0 : ∀ n, n < N → ao_c (3 * how + 0) e + n < 16128 := fun n hn => ao_d_lt (by omega) he (by omega)
  unfold m_Rf_layAlive
  refine ao_bd (ao_imp (ao_for (Q := fun s => ao_pw (3 * how + 2) e σ s ∧ ao_rp s N (3 * how + 2) e RE) N (fun k s => s.1 = nI k ∧ ao_pw (3 * how + 2) e σ s.2 ∧ ∀ n, n < k → s.2.1 13 (ao_c (3 * how + 2) e + n) = ao_b (RE n)) (a := 0) ⟨rfl, ao_pw_rf, fun n hn => absurd hn (Nat.not_lt_zero _)⟩ (Nat.zero_le _) (by omega) ?_ ?_) ?_)
  · rintro k ⟨v, s⟩ hk ⟨e1, hf, hv⟩
    have e1 : v = nI k := e1
    subst e1
    show ao_ok (m_Rf_layAlive_B2 s (nI how) (nI e) (nI k)) _
    unfold m_Rf_layAlive_B2
    rw [(ao_pw_TB hf h).2.1, if_neg (nI_ge hk (by omega)), aw_bd_s (n2 s k), aw_bd_s (n1 s k), ao_gdn (b1 k hk) (by omega), ao_gdn (b2 k hk) (by omega), nI_clamp (by have := b2 k hk; omega), nI_clamp (by have := b1 k hk; omega), ao_nar (ao_rp_01 (rR s hf) k hk)]
    refine ao_let (ao_let (ao_inr ⟨nI_1 k, ao_pw_tr hf (ao_pw_s (by omega)), fun n hn => ?_⟩))
    show (aw_sI s 13 (ao_c (3 * how + 2) e + k) _).1 13 (ao_c (3 * how + 2) e + n) = _
    by_cases hnk : n = k
    · subst hnk; rw [ao_sI_s, rR s hf n hk]
    · rw [ao_sI_i (by omega)]; exact hv n (by omega)
  · rintro ⟨v, s⟩ ⟨e1, hf, hv⟩
    have e1 : v = nI N := e1
    subst e1
    show ao_ok (m_Rf_layAlive_B2 s (nI how) (nI e) (nI N)) _
    unfold m_Rf_layAlive_B2
    rw [(ao_pw_TB hf h).2.1, if_pos (nI_le (Nat.le_refl _) (by omega))]
    exact ao_inl ⟨hf, hv⟩
  · rintro s ⟨hf, hv⟩
    refine ao_bd (ao_imp (ao_chaos (fo := fun s => m_Rf_layAlive_B42 s.2 (nI how) (nI e) s.1) (fi := fun s => m_Rf_layAlive_B51 s.2.2 (nI how) (nI e) s.1 s.2.1) (2 * N) nI
      (fun t => ao_pw (3 * how + 2) e σ t ∧ (∀ n, n < N → ao_01 (t.1 13 (ao_c (3 * how + 2) e + n))) ∧ (∀ n, n < N → RE n → ao_xp t (3 * how + 2) e n) ∧ ∀ Y : Nat → Prop, (∀ n, n < N → (RE n ∨ ∃ t, ao_ed nx n t ∧ ¬ PU t ∧ Y t) → Y n) → ∀ n, n < N → ao_xp t (3 * how + 2) e n → Y n)
      (fun t => ao_n (fun n => ¬ ao_xp t (3 * how + 2) e n) N) (fun t k => ∃ m, nx k = some m ∧ ¬ ao_xp t (3 * how + 2) e (k / 2) ∧ ¬ PU m ∧ ao_xp t (3 * how + 2) e m) (by omega) ?_ ?_ ?_ ?_ ⟨hf, ao_rp_01 hv, fun n hn q => (ao_rp_x hv hn).mpr q, fun Y hY n hn q => hY n hn (Or.inl ((ao_rp_x hv hn).mp q))⟩ (by have := ao_n_le (fun n => ¬ ao_xp s (3 * how + 2) e n) N; omega)) ?_)
    · intro t; rfl
    · rintro t ⟨hf, _⟩
      rfl
    · rintro t v ⟨hf, _⟩
      show m_Rf_layAlive_B51 t (nI how) (nI e) v (nI (2 * N)) = _
      unfold m_Rf_layAlive_B51
      rw [(ao_pw_TB hf h).2.1, ao_mul2, if_pos (nI_le (Nat.le_refl _) (by omega))]
    · rintro t v k hk ⟨hf, h01, hB, hU⟩ hv
      show (_ ∧ m_Rf_layAlive_B51 t (nI how) (nI e) v (nI k) = _) ∨ (∃ s', m_Rf_layAlive_B51 t (nI how) (nI e) v (nI k) = _ ∧ _)
      have hT := ao_pw_TB hf h
      have hp : k / 2 < N := by omega
      unfold m_Rf_layAlive_B51
      rw [hT.2.1, ao_mul2, if_neg (nI_ge hk (by omega)), ao_gdn (by omega) (by omega), nI_clamp (by omega), ao_half (by omega), ao_ltr]
      have hj : ∀ v', m_Rf_layAlive_J148 t (nI how) (nI e) v' (nI k) = some (.inr (v', nI (k + 1), t)) := fun v' => by rw [← nI_1 k]; rfl
      rcases ao_edge hT hk with ⟨e1, e2⟩ | ⟨m, e1, hm, e2, e3⟩
      · rw [if_pos e2]
        exact Or.inl ⟨fun ⟨m, q, _⟩ => (by rw [e1] at q; cases q), hj v⟩
      · rw [if_neg e3, e2, aw_bd_s (n2 t (k / 2)), ao_gdn (b2 _ hp) (by omega), nI_clamp (by have := b2 _ hp; omega), aw_bd_s (n0 t m), ao_gdn (b0 _ hm) (by omega), nI_clamp (by have := b0 _ hm; omega), aw_bd_s (n2 t m), ao_gdn (b2 _ hm) (by omega), nI_clamp (by have := b2 _ hm; omega), aw_bd_s (n2 t (k / 2)), ao_gdn (b2 _ hp) (by omega), nI_clamp (by have := b2 _ hp; omega)]
        by_cases q1 : ao_xp t (3 * how + 2) e (k / 2)
        · rw [if_neg (fun q => (ao_01_0 (h01 _ hp)).mp q q1)]
          exact Or.inl ⟨fun ⟨m', _, q, _⟩ => q q1, hj v⟩
        · rw [if_pos ((ao_01_0 (h01 _ hp)).mpr q1)]
          by_cases q2 : PU m
          · rw [if_neg (fun q => (ao_rp_p (rP t hf) hm).mp q q2)]
            exact Or.inl ⟨fun ⟨m', q, _, q', _⟩ => (by rw [e1] at q; cases q; exact q' q2), hj v⟩
          · rw [if_pos ((ao_rp_p (rP t hf) hm).mpr q2)]
            by_cases q3 : ao_xp t (3 * how + 2) e m
            · rw [if_neg (fun q => (ao_01_0 (h01 _ hm)).mp q q3), ao_ltr, ao_nar (Or.inr rfl)]
              have hx : ∀ n, n < N → (ao_xp (aw_sI t 13 (ao_c (3 * how + 2) e + k / 2) 1) (3 * how + 2) e n ↔ ao_xp t (3 * how + 2) e n ∨ n = k / 2) := by
                intro n hn
                unfold ao_xp
                by_cases hnk : n = k / 2
                · subst hnk
                  rw [ao_sI_s]
                  exact ⟨fun _ => Or.inr rfl, fun _ => rfl⟩
                · rw [ao_sI_i (by omega)]
                  exact ⟨fun q => Or.inl q, fun q => q.elim id (fun q => absurd q hnk)⟩
              refine Or.inr ⟨_, by rw [← nI_1 k]; rfl, ⟨ao_pw_tr hf (ao_pw_s (by omega)), fun n hn => ?_, fun n hn q => (hx n hn).mpr (Or.inl (hB n hn q)), fun Y hY n hn q => ?_⟩, ?_⟩
              · by_cases hnk : n = k / 2
                · subst hnk; rw [ao_sI_s]; exact Or.inr rfl
                · rw [ao_sI_i (by omega)]; exact h01 n hn
              · rcases (hx n hn).mp q with q | q
                · exact hU Y hY n hn q
                · subst q
                  exact hY _ hn (Or.inr ⟨m, ao_ed_half e1, q2, hU Y hY m hm q3⟩)
              · exact ao_n_lt (i := k / 2) (fun n hn q q' => q ((hx n hn).mpr (Or.inl q'))) hp q1 (fun q => q ((hx _ hp).mpr (Or.inr rfl)))
            · rw [if_pos ((ao_01_0 (h01 _ hm)).mpr q3)]
              exact Or.inl ⟨fun ⟨m', q, _, _, q'⟩ => (by rw [e1] at q; cases q; exact q3 q'), hj v⟩
    · rintro t ⟨⟨hf, h01, hB, hU⟩, hC⟩
      refine ao_some ⟨hf, ao_rp_of h01 (ao_lf_L ⟨fun n hn hx => ?_, hU⟩ (fun _ _ _ => Iff.rfl))⟩
      rcases hx with hx | ⟨m, hed, hPm, hx⟩
      · exact hB n hn hx
      · obtain ⟨k, hk, hk1, hk2⟩ := ao_ed_ex hn hed
        exact Classical.byContradiction fun q => hC k hk ⟨m, hk1, by rw [hk2]; exact q, hPm, hx⟩

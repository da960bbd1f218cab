/-! ===== the reference: at hand, early, delayed, late ===== -/
theorem ao_ltr {α β : Type} (e : α) (k : α → β) : aw_lt e k = k e := rfl
set_option maxHeartbeats 4000000 in
theorem ao_layBehind {σ : aw_S} {N : Nat} {nx : Nat → Option Nat} (h : ao_TB σ N nx) (h1 : 0 < N) (hz : ∀ k, k < 2 * N → nx k ≠ some 0) {w e : Nat} (he : e < 24) (own : Nat → Prop) (lt : (Nat → Prop) → Nat → Prop)
    (hw : (w = 3 ∧ ∀ n, ¬ own n) ∨ (w = 5 ∧ ao_row σ N 4 e own))
    (hlm : ∀ Y Z : Nat → Prop, ∀ p, (Y p → Z p) → lt Y p → lt Z p)
    (hlt : ∀ s, ao_fw w e σ s → (∀ n, n < N → ao_01 (s.1 12 (ao_c w e + n))) → ∀ p, p < N → m_Rf_lets s (nI w) (nI e) (nI p) = some (ao_b (lt (ao_x s w e) p))) :
    ao_ok (m_Rf_layBehind σ (nI w) (nI e)) (fun s => ao_fw w e σ s ∧ ao_row s N w e (ao_G N (fun Y n => own n ∨ (n ≠ 0 ∧ ∀ p, p < N → ao_ed nx p n → lt Y p)))) := by
  have hN := h.1.1
  have hw8 : w < 8 := by omega
  have hown : ∀ s, ao_fw w e σ s → ∀ n, n < N → ∀ (A B : Option ((Int32 × aw_S) ⊕ (Int32 × Int32 × aw_S))), (if nI w = (5 : Int32) then aw_bd (m_Rf_so s ((4 : Int32)) (nI e) (nI n)) (fun r30 => if r30 = 0 then A else B) else A) = @ite _ (own n) (Classical.propDecidable _) B A := by
    intro s hf n hn A B
    rcases hw with ⟨rfl, ho⟩ | ⟨rfl, ho⟩
    · rw [if_neg (by decide), if_neg (ho n)]
    · rw [if_pos (show nI 5 = (5 : Int32) from rfl), show (4 : Int32) = nI 4 from rfl, aw_bd_s (ao_so_r (ao_row_fw ho hf hN he he (Or.inl (by omega))) hN (by omega) he hn)]
      by_cases q : own n
      · rw [if_neg (by rw [ao_b1 q]; decide), if_pos q]
      · rw [if_pos (ao_b0 q), if_neg q]
  unfold m_Rf_layBehind
  refine ao_bd (ao_imp (ao_for (Q := fun s => ao_fw w e σ s ∧ ao_row s N w e (fun n => n ≠ 0 ∨ own 0)) N (fun k s => s.1 = nI k ∧ ao_fw w e σ s.2 ∧ ∀ n, n < k → s.2.1 12 (ao_c w e + n) = ao_b (n ≠ 0 ∨ own 0)) (a := 0) ⟨rfl, ao_fw_rf, fun n hn => absurd hn (Nat.not_lt_zero _)⟩ (Nat.zero_le _) (by omega) ?_ ?_) ?_)
  · rintro k ⟨v, s⟩ hk ⟨e1, hf, hv⟩
    have e1 : v = nI k := e1
    subst e1
    show ao_ok (m_Rf_layBehind_B2 s (nI w) (nI e) (nI k)) _
    unfold m_Rf_layBehind_B2
    rw [(ao_fw_TB hf h).2.1, if_neg (nI_ge hk (by omega))]
    have hJ : ∀ x, x = ao_b (k ≠ 0 ∨ own 0) → ao_ok (m_Rf_layBehind_J38 s (nI w) (nI e) (nI k) (nI w) (nI e) (nI k) x) (Sum.elim (fun s => ao_fw w e σ s ∧ ao_row s N w e (fun n => n ≠ 0 ∨ own 0)) (fun s => s.1 = nI (k + 1) ∧ ao_fw w e σ s.2 ∧ ∀ n, n < k + 1 → s.2.1 12 (ao_c w e + n) = ao_b (n ≠ 0 ∨ own 0))) := by
      intro x hx
      unfold m_Rf_layBehind_J38
      refine ao_bde (ao_set hw8 he (by omega) (by rw [hx]; exact ao_01_b _)) (ao_let (ao_inr ⟨nI_1 k, ao_fw_tr hf (ao_fw_s (by omega)), fun n hn => ?_⟩))
      show (aw_sI s 12 (ao_c w e + k) x).1 12 (ao_c w e + n) = _
      by_cases hnk : n = k
      · subst hnk; rw [ao_sI_s, hx]
      · rw [ao_sI_i (by omega)]; exact hv n (by omega)
    refine ao_if (fun h0 => ?_) (fun h0 => ?_)
    · refine hJ _ (ao_b1 (Or.inl (fun q => ?_))).symm
      subst q
      exact absurd h0 (by decide)
    · have hk0 : k = 0 := by
        rcases Nat.eq_zero_or_pos k with q | q
        · exact q
        · exact absurd (show (0 : Int32) < nI k from nI_lt (a := 0) q (by omega)) h0
      subst hk0
      rcases hw with ⟨rfl, ho⟩ | ⟨rfl, ho⟩
      · rw [if_neg (by decide)]
        exact hJ 0 (ao_b0 (by rintro (q | q); exact q rfl; exact ho 0 q)).symm
      · rw [if_pos (show nI 5 = (5 : Int32) from rfl), show (4 : Int32) = nI 4 from rfl, show (0 : Int32) = nI 0 from rfl]
        refine ao_bde (ao_so_r (ao_row_fw ho hf hN he he (Or.inl (by omega))) hN (by omega) he hk) ?_
        by_cases q : own 0
        · refine ao_ifn (by rw [ao_b1 q]; decide) (hJ 1 (ao_b1 (Or.inr q)).symm)
        · refine ao_ifp (by rw [ao_b0 q]; rfl) (hJ 0 (ao_b0 (by rintro (q2 | q2); exact q2 rfl; exact q q2)).symm)
  · rintro ⟨v, s⟩ ⟨e1, hf, hv⟩
    have e1 : v = nI N := e1
    subst e1
    show ao_ok (m_Rf_layBehind_B2 s (nI w) (nI e) (nI N)) _
    unfold m_Rf_layBehind_B2
    rw [(ao_fw_TB hf h).2.1, if_pos (nI_le (Nat.le_refl _) (by omega))]
    exact ao_inl ⟨hf, hv⟩
  · rintro s ⟨hf, hv⟩
    refine ao_bd (ao_imp (ao_chaos (fo := fun s => m_Rf_layBehind_B49 s.2 (nI w) (nI e) s.1) (fi := fun s => m_Rf_layBehind_B58 s.2.2 (nI w) (nI e) s.1 s.2.1) (2 * N) nI
      (fun t => ao_fw w e σ t ∧ (∀ n, n < N → ao_01 (t.1 12 (ao_c w e + n))) ∧ (ao_x t w e 0 → own 0) ∧ ∀ Y : Nat → Prop, (∀ n, n < N → Y n → own n ∨ (n ≠ 0 ∧ ∀ p, p < N → ao_ed nx p n → lt Y p)) → ∀ n, n < N → Y n → ao_x t w e n)
      (fun t => ao_n (ao_x t w e) N) (fun t k => ∃ m, nx k = some m ∧ ao_x t w e m ∧ ¬ own m ∧ ¬ lt (ao_x t w e) (k / 2)) (by omega) ?_ ?_ ?_ ?_ ⟨hf, ao_row_01 hv, ?_, ?_⟩ (by have := ao_n_le (ao_x s w e) N; omega)) ?_)
    · intro t; rfl
    · rintro t ⟨hf, _⟩
      rfl
    · rintro t v ⟨hf, _⟩
      show m_Rf_layBehind_B58 t (nI w) (nI e) v (nI (2 * N)) = _
      unfold m_Rf_layBehind_B58
      rw [(ao_fw_TB hf h).2.1, ao_mul2, if_pos (nI_le (Nat.le_refl _) (by omega))]
    · rintro t v k hk ⟨hf, h01, h00, hU⟩ hv
      show (_ ∧ m_Rf_layBehind_B58 t (nI w) (nI e) v (nI k) = _) ∨ (∃ s', m_Rf_layBehind_B58 t (nI w) (nI e) v (nI k) = _ ∧ _)
      have hT := ao_fw_TB hf h
      unfold m_Rf_layBehind_B58
      rw [hT.2.1, ao_mul2, if_neg (nI_ge hk (by omega)), ao_gdn (by omega) (by omega), nI_clamp (by omega)]
      rcases ao_edge hT hk with ⟨e1, e2⟩ | ⟨m, e1, hm, e2, e3⟩
      · refine Or.inl ⟨fun ⟨m, q, _⟩ => (by rw [e1] at q; cases q), ?_⟩
        rw [ao_ltr, if_pos e2]
        rw [← nI_1 k]; rfl
      · have hj : ∀ v', m_Rf_layBehind_J138 t (nI w) (nI e) v' (nI k) = some (.inr (v', nI (k + 1), t)) := fun v' => by rw [← nI_1 k]; rfl
        have hp : k / 2 < N := by omega
        rw [ao_ltr, if_neg e3, e2, aw_bd_s (ao_so_x h01 hN hw8 he hm)]
        by_cases q1 : ao_x t w e m
        · rw [if_neg (by rw [ao_b1 q1]; decide), hown t hf m hm]
          by_cases q2 : own m
          · rw [if_pos q2]
            exact Or.inl ⟨fun ⟨m', q, _, q', _⟩ => (by rw [e1] at q; cases q; exact q' q2), hj v⟩
          · rw [if_neg q2]
            unfold m_Rf_layBehind_J111
            rw [ao_half (by omega), aw_bd_s (hlt t hf h01 _ hp)]
            by_cases q3 : lt (ao_x t w e) (k / 2)
            · rw [if_neg (by rw [ao_b1 q3]; decide)]
              exact Or.inl ⟨fun ⟨m', q, _, _, q'⟩ => q' q3, hj v⟩
            · rw [if_pos (ao_b0 q3), aw_bd_s (ao_set hw8 he (by omega) (Or.inl rfl))]
              have hm0 : m ≠ 0 := fun q => hz k hk (by rw [e1, q])
              have hx : ∀ n, n < N → (ao_x (aw_sI t 12 (ao_c w e + m) 0) w e n ↔ ao_x t w e n ∧ n ≠ m) := by
                intro n hn
                unfold ao_x
                by_cases hnk : n = m
                · subst hnk
                  rw [ao_sI_s]
                  exact ⟨fun q => absurd q (by decide), fun q => absurd rfl q.2⟩
                · rw [ao_sI_i (by omega)]
                  exact ⟨fun q => ⟨q, hnk⟩, fun q => q.1⟩
              refine Or.inr ⟨_, by rw [← nI_1 k]; rfl, ⟨ao_fw_tr hf (ao_fw_s (by omega)), fun n hn => ?_, fun q => h00 ((hx 0 (by omega)).mp q).1, fun Y hY n hn hy => ?_⟩, ?_⟩
              · by_cases hnk : n = m
                · subst hnk; rw [ao_sI_s]; exact Or.inl rfl
                · rw [ao_sI_i (by omega)]; exact h01 n hn
              · refine (hx n hn).mpr ⟨hU Y hY n hn hy, fun q => ?_⟩
                subst q
                rcases hY _ hn hy with q | ⟨_, q⟩
                · exact q2 q
                · exact q3 (hlm Y _ _ (hU Y hY _ hp) (q _ hp (ao_ed_half e1)))
              · exact ao_n_lt (i := m) (fun n hn q => ((hx n hn).mp q).1) hm q1 (fun q => ((hx _ hm).mp q).2 rfl)
        · rw [if_pos (ao_b0 q1)]
          exact Or.inl ⟨fun ⟨m', q, q', _⟩ => (by rw [e1] at q; cases q; exact q1 q'), hj v⟩
    · intro q
      exact ((ao_row_x hv h1).mp q).elim (fun q => absurd rfl q) id
    · intro Y hY n hn hy
      refine (ao_row_x hv hn).mpr ?_
      rcases hY n hn hy with q | q
      · by_cases hn0 : n = 0
        · subst hn0; exact Or.inr q
        · exact Or.inl hn0
      · exact Or.inl q.1
    · rintro t ⟨⟨hf, h01, h00, hU⟩, hC⟩
      refine ao_some ⟨hf, ao_row_of h01 (ao_gf_G ⟨fun n hn hx => ?_, hU⟩ (fun _ _ _ => Iff.rfl))⟩
      by_cases q : own n
      · exact Or.inl q
      · refine Or.inr ⟨fun q0 => ?_, fun p hp hed => Classical.byContradiction fun q' => ?_⟩
        · subst q0; exact q (h00 hx)
        · obtain ⟨k, hk, hk1, hk2⟩ := ao_ed_ex hp hed
          exact hC k hk ⟨n, hk1, hx, q, by rw [hk2]; exact q'⟩

theorem ao_lets3 {σ : aw_S} {N : Nat} (hN : N ≤ 112) {e p : Nat} (he : e < 24) (hp : p < N) {US KE : Nat → Prop} (h0 : ao_row σ N 0 e US) (h1 : ao_row σ N 1 e KE) (h3 : ∀ n, n < N → ao_01 (σ.1 12 (ao_c 3 e + n))) : m_Rf_lets σ (nI 3) (nI e) (nI p) = some (ao_b (KE p ∧ (US p ∨ ao_x σ 3 e p))) := by
  unfold m_Rf_lets
  rw [if_pos (show nI 3 = (3 : Int32) from rfl), show (1 : Int32) = nI 1 from rfl, show (0 : Int32) = nI 0 from rfl, show (3 : Int32) = nI 3 from rfl, aw_bd_s (ao_so_r h1 hN (by omega) he hp), aw_bd_s (ao_so_r h0 hN (by omega) he hp), aw_bd_s (ao_so_x h3 hN (by omega) he hp), show nI 0 = (0 : Int32) from rfl, show nI 1 = (1 : Int32) from rfl]
  by_cases q1 : KE p
  · rw [if_neg (by rw [ao_b1 q1]; decide)]
    by_cases q0 : US p
    · rw [if_neg (by rw [ao_b1 q0]; decide), ao_b1 ⟨q1, Or.inl q0⟩]
    · rw [if_pos (ao_b0 q0)]
      by_cases q3 : ao_x σ 3 e p
      · rw [if_neg (by rw [ao_b1 q3]; decide), ao_b1 ⟨q1, Or.inr q3⟩]
      · rw [if_pos (ao_b0 q3), ao_b0 (by rintro ⟨_, q | q⟩; exact q0 q; exact q3 q)]
  · rw [if_pos (ao_b0 q1), ao_b0 (fun q => q1 q.1)]
theorem ao_lets5 {σ : aw_S} {N : Nat} (hN : N ≤ 112) {e p : Nat} (he : e < 24) (hp : p < N) {US : Nat → Prop} (h0 : ao_row σ N 0 e US) (h5 : ∀ n, n < N → ao_01 (σ.1 12 (ao_c 5 e + n))) : m_Rf_lets σ (nI 5) (nI e) (nI p) = some (ao_b (ao_x σ 5 e p ∧ ¬ US p)) := by
  unfold m_Rf_lets
  rw [if_neg (by decide), show (5 : Int32) = nI 5 from rfl, show (0 : Int32) = nI 0 from rfl, aw_bd_s (ao_so_x h5 hN (by omega) he hp), aw_bd_s (ao_so_r h0 hN (by omega) he hp), show nI 0 = (0 : Int32) from rfl]
  by_cases q5 : ao_x σ 5 e p
  · rw [if_neg (by rw [ao_b1 q5]; decide)]
    by_cases q0 : US p
    · rw [if_neg (by rw [ao_b1 q0]; decide), ao_b0 (fun q => q.2 q0)]
    · rw [if_pos (ao_b0 q0), ao_b1 ⟨q5, q0⟩]
  · rw [if_pos (ao_b0 q5), ao_b0 (fun q => q5 q.1)]
theorem ao_G_c {N : Nat} {F F' : (Nat → Prop) → Nat → Prop} (h : ∀ Y n, n < N → (F Y n ↔ F' Y n)) (n : Nat) : ao_G N F n ↔ ao_G N F' n :=
  ⟨fun ⟨Y, hY, hy⟩ => ⟨Y, fun m hm q => (h Y m hm).mp (hY m hm q), hy⟩, fun ⟨Y, hY, hy⟩ => ⟨Y, fun m hm q => (h Y m hm).mpr (hY m hm q), hy⟩⟩
theorem ao_layAtHand {σ : aw_S} {N : Nat} {nx : Nat → Option Nat} (h : ao_TB σ N nx) (h1 : 0 < N) (hz : ∀ k, k < 2 * N → nx k ≠ some 0) {e : Nat} (he : e < 24) {US KE : Nat → Prop} (hU : ao_row σ N 0 e US) (hK : ao_row σ N 1 e KE) : ao_ok (m_Rf_layBehind σ ((3 : Int32)) (nI e)) (fun s => ao_fw 3 e σ s ∧ ao_row s N 3 e (ao_AH N nx US KE)) :=
  ao_imp (ao_layBehind h h1 hz (w := 3) he (fun _ => False) (fun Y p => KE p ∧ (US p ∨ Y p)) (Or.inl ⟨rfl, fun _ => id⟩) (fun Y Z p hYZ ⟨a, b⟩ => ⟨a, b.imp id hYZ⟩) (fun s hf h01 p hp => ao_lets3 h.1.1 he hp (ao_row_fw hU hf h.1.1 he he (Or.inl (by omega))) (ao_row_fw hK hf h.1.1 he he (Or.inl (by omega))) h01))
    (fun s hs => ⟨hs.1, ao_row_c hs.2 (fun n hn => ao_G_c (fun Y m hm => ⟨fun q => q.elim False.elim id, fun q => Or.inr q⟩) n)⟩)
theorem ao_layDelayed {σ : aw_S} {N : Nat} {nx : Nat → Option Nat} (h : ao_TB σ N nx) (h1 : 0 < N) (hz : ∀ k, k < 2 * N → nx k ≠ some 0) {e : Nat} (he : e < 24) {US KE : Nat → Prop} (hU : ao_row σ N 0 e US) (hE : ao_row σ N 4 e (ao_EA N nx US KE)) : ao_ok (m_Rf_layBehind σ ((5 : Int32)) (nI e)) (fun s => ao_fw 5 e σ s ∧ ao_row s N 5 e (ao_DE N nx US KE)) :=
  ao_layBehind h h1 hz (w := 5) he (ao_EA N nx US KE) (fun Y p => Y p ∧ ¬ US p) (Or.inr ⟨rfl, hE⟩) (fun Y Z p hYZ ⟨a, b⟩ => ⟨hYZ a, b⟩) (fun s hf h01 p hp => ao_lets5 h.1.1 he hp (ao_row_fw hU hf h.1.1 he he (Or.inl (by omega))) h01)
set_option maxHeartbeats 4000000 in
theorem ao_layEarly {σ : aw_S} {N : Nat} {nx : Nat → Option Nat} (h : ao_TB σ N nx) (h1 : 0 < N) {e : Nat} (he : e < 24) {US KE : Nat → Prop} (hK : ao_row σ N 1 e KE) (hN2 : ao_row σ N 2 e (ao_NE N nx US KE)) (hA : ao_row σ N 3 e (ao_AH N nx US KE)) : ao_ok (m_Rf_layEarly σ (nI e)) (fun s => ao_fw 4 e σ s ∧ ao_row s N 4 e (ao_EA N nx US KE)) := by
  have hN := h.1.1
  have r1 : ∀ s, ao_fw 4 e σ s → ao_row s N 1 e KE := fun s hf => ao_row_fw hK hf hN he he (Or.inl (by omega))
  have r2 : ∀ s, ao_fw 4 e σ s → ao_row s N 2 e (ao_NE N nx US KE) := fun s hf => ao_row_fw hN2 hf hN he he (Or.inl (by omega))
  have r3 : ∀ s, ao_fw 4 e σ s → ao_row s N 3 e (ao_AH N nx US KE) := fun s hf => ao_row_fw hA hf hN he he (Or.inl (by omega))
  unfold m_Rf_layEarly
  refine ao_bd (ao_imp (ao_for (Q := fun s => ao_fw 4 e σ s ∧ ao_row s N 4 e (fun n => n = 0 ∧ ao_NE N nx US KE 0)) N (fun k s => s.1 = nI k ∧ ao_fw 4 e σ s.2 ∧ ∀ n, n < k → s.2.1 12 (ao_c 4 e + n) = ao_b (n = 0 ∧ ao_NE N nx US KE 0)) (a := 0) ⟨rfl, ao_fw_rf, fun n hn => absurd hn (Nat.not_lt_zero _)⟩ (Nat.zero_le _) (by omega) ?_ ?_) ?_)
  · rintro k ⟨v, s⟩ hk ⟨e1, hf, hv⟩
    have e1 : v = nI k := e1
    subst e1
    show ao_ok (m_Rf_layEarly_B2 s (nI e) (nI k)) _
    unfold m_Rf_layEarly_B2
    rw [(ao_fw_TB hf h).2.1, if_neg (nI_ge hk (by omega))]
    have hJ : ∀ x, x = ao_b (k = 0 ∧ ao_NE N nx US KE 0) → ao_ok (m_Rf_layEarly_J33 s (nI e) (nI k) ((4 : Int32)) (nI e) (nI k) x) (Sum.elim (fun s => ao_fw 4 e σ s ∧ ao_row s N 4 e (fun n => n = 0 ∧ ao_NE N nx US KE 0)) (fun s => s.1 = nI (k + 1) ∧ ao_fw 4 e σ s.2 ∧ ∀ n, n < k + 1 → s.2.1 12 (ao_c 4 e + n) = ao_b (n = 0 ∧ ao_NE N nx US KE 0))) := by
      intro x hx
      unfold m_Rf_layEarly_J33
      refine ao_bde (ao_set (w := 4) (by omega) he (by omega) (by rw [hx]; exact ao_01_b _)) (ao_let (ao_inr ⟨nI_1 k, ao_fw_tr hf (ao_fw_s (by omega)), fun n hn => ?_⟩))
      show (aw_sI s 12 (ao_c 4 e + k) x).1 12 (ao_c 4 e + n) = _
      by_cases hnk : n = k
      · subst hnk; rw [ao_sI_s, hx]
      · rw [ao_sI_i (by omega)]; exact hv n (by omega)
    refine ao_if (fun h0 => ?_) (fun h0 => ?_)
    · have hk0 : k = 0 := (nI_eq (by omega) (by omega)).mp (h0.trans nI_0.symm)
      subst hk0
      rw [show (2 : Int32) = nI 2 from rfl, show (0 : Int32) = nI 0 from rfl]
      refine ao_bde (ao_so_r (r2 s hf) hN (by omega) he hk) ?_
      by_cases q : ao_NE N nx US KE 0
      · exact ao_ifn (by rw [ao_b1 q]; decide) (hJ 1 (ao_b1 ⟨rfl, q⟩).symm)
      · exact ao_ifp (by rw [ao_b0 q]; rfl) (hJ 0 (ao_b0 (fun q2 => q q2.2)).symm)
    · exact hJ 0 (ao_b0 (fun q => h0 (by rw [q.1]; rfl))).symm
  · rintro ⟨v, s⟩ ⟨e1, hf, hv⟩
    have e1 : v = nI N := e1
    subst e1
    show ao_ok (m_Rf_layEarly_B2 s (nI e) (nI N)) _
    unfold m_Rf_layEarly_B2
    rw [(ao_fw_TB hf h).2.1, if_pos (nI_le (Nat.le_refl _) (by omega))]
    exact ao_inl ⟨hf, hv⟩
  · rintro s ⟨hf, hv⟩
    refine ao_bd (ao_imp (ao_for (Q := fun s => ao_fw 4 e σ s ∧ ao_row s N 4 e (ao_EA N nx US KE)) (2 * N) (fun k s => s.1 = nI k ∧ ao_fw 4 e σ s.2 ∧ ao_row s.2 N 4 e (fun n => ao_NE N nx US KE n ∧ (n = 0 ∨ ∃ i, i < k ∧ nx i = some n ∧ (¬ KE (i / 2) ∨ ¬ ao_NE N nx US KE (i / 2) ∧ ¬ ao_AH N nx US KE (i / 2))))) (a := 0) ⟨rfl, hf, ao_row_c hv (fun n hn => ⟨fun q => ⟨q.1 ▸ q.2, Or.inl q.1⟩, fun q => ?_⟩)⟩ (Nat.zero_le _) (by omega) ?_ ?_) (fun s hs => ao_some hs))
    · rcases q.2 with q0 | ⟨i, hi, _⟩
      · exact ⟨q0, q0 ▸ q.1⟩
      · exact absurd hi (Nat.not_lt_zero _)
    · rintro k ⟨v, t⟩ hk ⟨e1, hf, hr⟩
      have e1 : v = nI k := e1
      subst e1
      show ao_ok (m_Rf_layEarly_B44 t (nI e) (nI k)) _
      have hT := ao_fw_TB hf h
      unfold m_Rf_layEarly_B44
      rw [hT.2.1, ao_mul2, if_neg (nI_ge hk (by omega)), ao_gdn (by omega) (by omega), nI_clamp (by omega), ao_half (by omega), ao_ltr, ao_ltr]
      have hj : ∀ t', ao_fw 4 e σ t' → ao_row t' N 4 e (fun n => ao_NE N nx US KE n ∧ (n = 0 ∨ ∃ i, i < k + 1 ∧ nx i = some n ∧ (¬ KE (i / 2) ∨ ¬ ao_NE N nx US KE (i / 2) ∧ ¬ ao_AH N nx US KE (i / 2)))) → ao_ok (m_Rf_layEarly_J122 t' (nI e) (nI k)) (Sum.elim (fun s => ao_fw 4 e σ s ∧ ao_row s N 4 e (ao_EA N nx US KE)) (fun s => s.1 = nI (k + 1) ∧ ao_fw 4 e σ s.2 ∧ ao_row s.2 N 4 e (fun n => ao_NE N nx US KE n ∧ (n = 0 ∨ ∃ i, i < k + 1 ∧ nx i = some n ∧ (¬ KE (i / 2) ∨ ¬ ao_NE N nx US KE (i / 2) ∧ ¬ ao_AH N nx US KE (i / 2)))))) := by
        intro t' hf' hr'
        exact ao_let (ao_inr ⟨nI_1 k, hf', hr'⟩)
      have hno : (∀ m, nx k = some m → ¬ (ao_NE N nx US KE m ∧ (¬ KE (k / 2) ∨ ¬ ao_NE N nx US KE (k / 2) ∧ ¬ ao_AH N nx US KE (k / 2)))) → ao_row t N 4 e (fun n => ao_NE N nx US KE n ∧ (n = 0 ∨ ∃ i, i < k + 1 ∧ nx i = some n ∧ (¬ KE (i / 2) ∨ ¬ ao_NE N nx US KE (i / 2) ∧ ¬ ao_AH N nx US KE (i / 2)))) := by
        intro hno
        refine ao_row_c hr (fun n hn => and_congr_right (fun hne => or_congr Iff.rfl ⟨fun ⟨i, hi, q⟩ => ⟨i, by omega, q⟩, fun ⟨i, hi, q⟩ => ?_⟩))
        by_cases hik : i = k
        · subst hik
          exact absurd ⟨hne, q.2⟩ (hno n q.1)
        · exact ⟨i, by omega, q⟩
      have hp : k / 2 < N := by omega
      rcases ao_edge hT hk with ⟨e1, e2⟩ | ⟨m, e1, hm, e2, e3⟩
      · rw [if_pos e2]
        exact hj t hf (hno (fun m q => by rw [e1] at q; cases q))
      · rw [if_neg e3, e2]
        have hyes : ao_NE N nx US KE m → (¬ KE (k / 2) ∨ ¬ ao_NE N nx US KE (k / 2) ∧ ¬ ao_AH N nx US KE (k / 2)) → ao_ok (m_Rf_layEarly_J114 t (nI e) (nI k) (nI m)) (Sum.elim (fun s => ao_fw 4 e σ s ∧ ao_row s N 4 e (ao_EA N nx US KE)) (fun s => s.1 = nI (k + 1) ∧ ao_fw 4 e σ s.2 ∧ ao_row s.2 N 4 e (fun n => ao_NE N nx US KE n ∧ (n = 0 ∨ ∃ i, i < k + 1 ∧ nx i = some n ∧ (¬ KE (i / 2) ∨ ¬ ao_NE N nx US KE (i / 2) ∧ ¬ ao_AH N nx US KE (i / 2)))))) := by
          intro hne hc
          unfold m_Rf_layEarly_J114
          refine ao_bde (ao_set (w := 4) (by omega) he (by omega) (Or.inr rfl)) (hj _ (ao_fw_tr hf (ao_fw_s (by omega))) (fun n hn => ?_))
          by_cases hnm : n = m
          · subst hnm
            rw [ao_sI_s, ao_b1 ⟨hne, Or.inr ⟨k, by omega, e1, hc⟩⟩]
          · rw [ao_sI_i (by omega), hr n hn]
            refine ao_b_c (and_congr_right (fun hne => or_congr Iff.rfl ⟨fun ⟨i, hi, q⟩ => ⟨i, by omega, q⟩, fun ⟨i, hi, q⟩ => ?_⟩))
            by_cases hik : i = k
            · subst hik
              rw [e1] at q
              cases q.1
              exact absurd rfl hnm
            · exact ⟨i, by omega, q⟩
        rw [show (2 : Int32) = nI 2 from rfl, show (1 : Int32) = nI 1 from rfl, show (3 : Int32) = nI 3 from rfl]
        refine ao_bde (ao_so_r (r2 t hf) hN (by omega) he hm) ?_
        by_cases q2 : ao_NE N nx US KE m
        · refine ao_ifn (by rw [ao_b1 q2]; decide) (ao_bde (ao_so_r (r1 t hf) hN (by omega) he hp) ?_)
          by_cases q1 : KE (k / 2)
          · refine ao_ifn (by rw [ao_b1 q1]; decide) (ao_bde (ao_so_r (r2 t hf) hN (by omega) he hp) ?_)
            by_cases q3 : ao_NE N nx US KE (k / 2)
            · refine ao_ifn (by rw [ao_b1 q3]; decide) (hj t hf (hno (fun m' e' q => ?_)))
              exact q.2.elim (fun a => a q1) (fun a => a.1 q3)
            · refine ao_ifp (ao_b0 q3) (ao_bde (ao_so_r (r3 t hf) hN (by omega) he hp) ?_)
              by_cases q4 : ao_AH N nx US KE (k / 2)
              · refine ao_ifn (by rw [ao_b1 q4]; decide) (hj t hf (hno (fun m' e' q => ?_)))
                exact q.2.elim (fun a => a q1) (fun a => a.2 q4)
              · exact ao_ifp (ao_b0 q4) (hyes q2 (Or.inr ⟨q3, q4⟩))
          · exact ao_ifp (ao_b0 q1) (hyes q2 (Or.inl q1))
        · refine ao_ifp (ao_b0 q2) (hj t hf (hno (fun m' e' q => ?_)))
          rw [e1] at e'
          cases e'
          exact q2 q.1
    · rintro ⟨v, t⟩ ⟨e1, hf, hr⟩
      have e1 : v = nI (2 * N) := e1
      subst e1
      show ao_ok (m_Rf_layEarly_B44 t (nI e) (nI (2 * N))) _
      unfold m_Rf_layEarly_B44
      rw [(ao_fw_TB hf h).2.1, ao_mul2, if_pos (nI_le (Nat.le_refl _) (by omega))]
      refine ao_inl ⟨hf, ao_row_c hr (fun n hn => and_congr_right (fun _ => or_congr Iff.rfl ⟨fun ⟨i, hi, q1, q2⟩ => ⟨i / 2, by omega, ao_ed_half q1, q2⟩, fun ⟨p, hp, q1, q2⟩ => ?_⟩))⟩
      obtain ⟨i, hi, hi1, hi2⟩ := ao_ed_ex hp q1
      exact ⟨i, hi, hi1, by rw [hi2]; exact q2⟩

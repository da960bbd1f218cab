/-! ===== OTHERS: right, life: in the reference ===== -/
def ot_z (σ s : aw_S) : Prop := s.2 = σ.2 ∧ ∀ c, c ≠ 24 → c ≠ 25 → c ≠ 26 → s.1 c = σ.1 c
theorem ot_z_rf {σ : aw_S} : ot_z σ σ := ⟨rfl, fun _ _ _ _ => rfl⟩
theorem ot_z_tr {σ s t : aw_S} (h : ot_z σ s) (h' : ot_z s t) : ot_z σ t := ⟨h'.1.trans h.1, fun c h1 h2 h3 => (h'.2 c h1 h2 h3).trans (h.2 c h1 h2 h3)⟩
theorem ot_z_I {σ s : aw_S} (h : ot_z σ s) {c j : Nat} {v : Int32} (hc : c = 24 ∨ c = 25 ∨ c = 26) : ot_z σ (aw_sI s c j v) := ot_z_tr h ⟨rfl, fun d h1 h2 h3 => ao_sI_o (by omega)⟩
theorem ot_z_TB {σ s : aw_S} {N : Nat} {nx : Nat → Option Nat} (h : ot_z σ s) (hT : ao_TB σ N nx) : ao_TB s N nx := ao_TB_fr hT (congrFun (h.2 0 (by omega) (by omega) (by omega)) 14) (h.2 7 (by omega) (by omega) (by omega))
theorem ot_has (s : aw_S) (x : Int32) {n : Nat} (hn : n < 32) : m_Rf_has s x (nI n) = some (ao_b (ao_t x n)) := by
  have e : ((x >>> (nI n &&& 31)) &&& (1 : Int32)) = ao_b (ao_t x n) := by
    refine ao_t_ext (fun i hi => ?_)
    rw [ao_t_and, ao_t_1, ao_t_b]
    refine ⟨fun ⟨h1, h2⟩ => ⟨?_, h2⟩, fun ⟨h1, h2⟩ => ⟨?_, h2⟩⟩
    · subst h2
      unfold ao_t at h1 ⊢
      rw [b_sshr n hn x (by omega), if_pos (by omega)] at h1
      exact h1
    · subst h2
      unfold ao_t at h1 ⊢
      rw [b_sshr n hn x (by omega), if_pos (by omega)]
      exact h1
  unfold m_Rf_has
  rw [e]
  by_cases q : ao_t x n
  · rw [ao_b1 q, if_pos rfl]
  · rw [ao_b0 q, if_neg (by decide)]
def ot_RIB (Γ : ag_T) (e : Nat) (S : Nat → Prop) : Prop := (∀ n, n < ag_N Γ → S n → ag_F Γ e 2 n) ∧ ot_RI Γ e S
set_option maxHeartbeats 4000000 in
theorem ot_rightB {b σ : aw_S} {Γ : ag_T} (G : ag_wf Γ) (B : ag_BA b Γ) (hz : ot_z b σ) (hN : ag_N Γ ≤ 12) {e : Nat} (he : e < ag_X Γ) (x : Int32) : ao_ok (m_Rf_isRight σ (nI e) x) (fun r => r.1 = ao_b (ot_RIB Γ e (ao_t x)) ∧ ot_z b r.2) := by
  have hT := B.1.1
  have h0 := G.2.1
  have so : ∀ {s : aw_S} {w n : Nat}, ot_z b s → w < 8 → n < ag_N Γ → m_Rf_so s (nI w) (nI e) (nI n) = some (ao_b (ag_F Γ e w n)) := fun {s w n} hs hw hn => iq_soC G B (hs.2 12 (by omega) (by omega) (by omega)) hw he hn
  have cN : ∀ {s : aw_S}, ot_z b s → s.1 0 14 = nI (ag_N Γ) := fun {s} hs => (ot_z_TB hs hT).2.1
  unfold m_Rf_isRight
  refine ao_bd (ao_imp (ao_for (Q := Sum.elim (fun (y : Int32 × aw_S) => y.1 = 0 ∧ ot_z b y.2 ∧ ∃ n, n < ag_N Γ ∧ ao_t x n ∧ ¬ ag_F Γ e 2 n) (fun (t : aw_S) => ot_z b t ∧ (∀ n, n < ag_N Γ → ao_t x n → ag_F Γ e 2 n) ∧ ∀ n, n < ag_N Γ → t.1 24 n = ao_b (n ≠ 0 ∨ ao_t x 0))) (ag_N Γ) (fun k (t : Int32 × aw_S) => t.1 = nI k ∧ ot_z b t.2 ∧ (∀ n, n < k → ao_t x n → ag_F Γ e 2 n) ∧ ∀ n, n < k → t.2.1 24 n = ao_b (n ≠ 0 ∨ ao_t x 0)) (a := 0) ⟨rfl, hz, fun n hn => absurd hn (Nat.not_lt_zero _), fun n hn => absurd hn (Nat.not_lt_zero _)⟩ (Nat.zero_le _) (by omega) ?_ ?_) ?_)
  · rintro k ⟨v, s⟩ hk ⟨e1, y, d1, d2⟩
    have e1 : v = nI k := e1
    subst e1
    have y : ot_z b s := y
    have d2 : ∀ n, n < k → s.1 24 n = ao_b (n ≠ 0 ∨ ao_t x 0) := d2
    show ao_ok (m_Rf_isRight_B2 s (nI e) x (nI k)) _
    have so2 : m_Rf_so s 2 (nI e) (nI k) = some (ao_b (ag_F Γ e 2 k)) := so (w := 2) y (by omega) hk
    have J52 : (ao_t x k → ag_F Γ e 2 k) → ∀ p : Prop, (p ↔ (k ≠ 0 ∨ ao_t x 0)) → ao_ok (m_Rf_isRight_J52 s (nI e) x (nI k) (nI k) (ao_b p)) (Sum.elim (Sum.elim (fun (y : Int32 × aw_S) => y.1 = 0 ∧ ot_z b y.2 ∧ ∃ n, n < ag_N Γ ∧ ao_t x n ∧ ¬ ag_F Γ e 2 n) (fun (t : aw_S) => ot_z b t ∧ (∀ n, n < ag_N Γ → ao_t x n → ag_F Γ e 2 n) ∧ ∀ n, n < ag_N Γ → t.1 24 n = ao_b (n ≠ 0 ∨ ao_t x 0))) (fun (t : Int32 × aw_S) => t.1 = nI (k + 1) ∧ ot_z b t.2 ∧ (∀ n, n < k + 1 → ao_t x n → ag_F Γ e 2 n) ∧ ∀ n, n < k + 1 → t.2.1 24 n = ao_b (n ≠ 0 ∨ ao_t x 0))) := by
      intro hF p hp
      unfold m_Rf_isRight_J52
      rw [ao_gdn (by omega) (by omega), nI_clamp (by omega), ao_ltr, ao_ltr, nI_1, ao_nar (ao_01_b p)]
      refine ao_inr ⟨rfl, ot_z_I y (Or.inl rfl), fun n hn q => ?_, fun n hn => ?_⟩
      · by_cases w : n = k
        · rw [w] at q ⊢; exact hF q
        · exact d1 n (by omega) q
      · show (aw_sI s 24 k (ao_b p)).1 24 n = _
        by_cases w : n = k
        · rw [w, ao_sI_s, ao_b_c hp]
        · rw [ao_sI_i w]; exact d2 n (by omega)
    have J30 : (ao_t x k → ag_F Γ e 2 k) → ao_ok (m_Rf_isRight_J30 s (nI e) x (nI k)) (Sum.elim (Sum.elim (fun (y : Int32 × aw_S) => y.1 = 0 ∧ ot_z b y.2 ∧ ∃ n, n < ag_N Γ ∧ ao_t x n ∧ ¬ ag_F Γ e 2 n) (fun (t : aw_S) => ot_z b t ∧ (∀ n, n < ag_N Γ → ao_t x n → ag_F Γ e 2 n) ∧ ∀ n, n < ag_N Γ → t.1 24 n = ao_b (n ≠ 0 ∨ ao_t x 0))) (fun (t : Int32 × aw_S) => t.1 = nI (k + 1) ∧ ot_z b t.2 ∧ (∀ n, n < k + 1 → ao_t x n → ag_F Γ e 2 n) ∧ ∀ n, n < k + 1 → t.2.1 24 n = ao_b (n ≠ 0 ∨ ao_t x 0))) := by
      intro hF
      unfold m_Rf_isRight_J30
      by_cases w : k = 0
      · rw [if_neg (show ¬ 0 < nI k from nI_nlt (a := 0) (by omega) (by omega))]
        have h00 : m_Rf_has s x 0 = some (ao_b (ao_t x 0)) := ot_has s x (n := 0) (by omega)
        rw [aw_bd_s h00]
        by_cases q : ao_t x 0
        · rw [ao_b1 q, if_neg ao_n10]
          have := J52 hF True ⟨fun _ => Or.inr q, fun _ => trivial⟩
          rwa [ao_b1 trivial] at this
        · rw [ao_b0 q, if_pos rfl]
          have := J52 hF False ⟨fun z => z.elim, fun z => z.elim (fun z => z w) q⟩
          rwa [ao_b0 id] at this
      · rw [if_pos (show 0 < nI k from nI_lt (a := 0) (by omega) (by omega))]
        have := J52 hF True ⟨fun _ => Or.inl w, fun _ => trivial⟩
        rwa [ao_b1 trivial] at this
    unfold m_Rf_isRight_B2
    rw [cN y, if_neg (nI_ge hk (by omega)), aw_bd_s (ot_has s x (by omega))]
    by_cases q : ao_t x k
    · rw [ao_b1 q, if_neg ao_n10, aw_bd_s so2]
      by_cases q2 : ag_F Γ e 2 k
      · rw [ao_b1 q2, if_neg ao_n10]
        exact J30 (fun _ => q2)
      · rw [ao_b0 q2, if_pos rfl]
        exact ao_inl ⟨rfl, y, k, hk, q, q2⟩
    · rw [ao_b0 q, if_pos rfl]
      exact J30 (fun z => absurd z q)
  · rintro ⟨v, s⟩ ⟨e1, y, d1, d2⟩
    have e1 : v = nI (ag_N Γ) := e1
    subst e1
    show ao_ok (m_Rf_isRight_B2 s (nI e) x (nI (ag_N Γ))) _
    unfold m_Rf_isRight_B2
    rw [cN y, if_pos (nI_le (Nat.le_refl _) (by omega))]
    exact ao_inl ⟨y, d1, d2⟩
  · rintro (⟨v, s⟩ | s) h
    · obtain ⟨e1, y, n, hn, q1, q2⟩ := h
      refine ao_some ⟨?_, y⟩
      show v = _
      rw [show v = 0 from e1, ao_b0 (fun z => q2 (z.1 n hn q1))]
    · obtain ⟨y, d1, d2⟩ := h
      have y : ot_z b s := y
      show ao_ok (aw_bd (aw_lp (fun s => m_Rf_isRight_B61 s.2 (nI e) x s.1) aw_fu ((1 : Int32), s)) _) _
      refine ao_bd (ao_imp (ao_chaos (fo := fun s => m_Rf_isRight_B61 s.2 (nI e) x s.1) (fi := fun s => m_Rf_isRight_B70 s.2.2 (nI e) x s.1 s.2.1) (2 * ag_N Γ) nI
        (fun t => ot_z b t ∧ (∀ n, n < ag_N Γ → ao_01 (t.1 24 n)) ∧ (∀ n, n < ag_N Γ → ag_x1 t 24 n → n ≠ 0 ∨ ao_t x 0) ∧ ∀ Y : Nat → Prop, (∀ n, n < ag_N Γ → Y n → ot_fR (ag_N Γ) (ag_nx Γ) (ag_F Γ e 1) (ao_t x) Y n) → ∀ n, n < ag_N Γ → Y n → ag_x1 t 24 n)
        (fun t => ao_n (fun n => ag_x1 t 24 n) (ag_N Γ)) (fun t k => ∃ m, ag_nx Γ k = some m ∧ ag_x1 t 24 m ∧ ¬ ao_t x m ∧ ¬ (ag_x1 t 24 (k / 2) ∧ ag_F Γ e 1 (k / 2))) (by omega) ?_ ?_ ?_ ?_ ⟨y, fun n hn => by rw [d2 n hn]; exact ao_01_b _, fun n hn q => ?_, fun Y hY n hn q => ?_⟩ (by have := ao_n_le (fun n => ag_x1 s 24 n) (ag_N Γ); omega)) ?_)
      · intro t; rfl
      · rintro t _; rfl
      · rintro t v ⟨hf, _⟩
        show m_Rf_isRight_B70 t (nI e) x v (nI (2 * ag_N Γ)) = _
        unfold m_Rf_isRight_B70
        rw [cN hf, ao_mul2, if_pos (nI_le (Nat.le_refl _) (by omega))]
      · rintro t v k hk ⟨hf, h01, hb, hU⟩ hv'
        show (_ ∧ m_Rf_isRight_B70 t (nI e) x v (nI k) = _) ∨ (∃ s', m_Rf_isRight_B70 t (nI e) x v (nI k) = _ ∧ _)
        have hTt := ot_z_TB hf hT
        have hp : k / 2 < ag_N Γ := by omega
        have so1 : m_Rf_so t 1 (nI e) (nI (k / 2)) = some (ao_b (ag_F Γ e 1 (k / 2))) := so (w := 1) hf (by omega) hp
        have hj : ∀ t' v', m_Rf_isRight_J153 t' (nI e) x v' (nI k) = some (.inr (v', nI (k + 1), t')) := fun t' v' => by rw [← nI_1 k]; rfl
        unfold m_Rf_isRight_B70
        rw [hTt.2.1, ao_mul2, if_neg (nI_ge hk (by omega)), ao_half (by omega), ao_gdn (by omega) (by omega), nI_clamp (by omega), ao_ltr]
        rcases ao_edge hTt hk with ⟨e1, e2⟩ | ⟨m, e1, hm, e2, e3⟩
        · rw [if_pos e2]
          exact Or.inl ⟨fun ⟨m, q, _⟩ => (by rw [e1] at q; cases q), hj t v⟩
        · rw [if_neg e3, e2, ao_gdn (by omega) (by omega), nI_clamp (by omega)]
          have stop : ¬ (ag_x1 t 24 m ∧ ¬ ao_t x m ∧ ¬ (ag_x1 t 24 (k / 2) ∧ ag_F Γ e 1 (k / 2))) → ¬ ∃ m, ag_nx Γ k = some m ∧ ag_x1 t 24 m ∧ ¬ ao_t x m ∧ ¬ (ag_x1 t 24 (k / 2) ∧ ag_F Γ e 1 (k / 2)) := fun h ⟨m', z, z'⟩ => h (by rw [e1] at z; cases z; exact z')
          by_cases q1 : ag_x1 t 24 m
          · rw [if_neg (fun z => (ao_01_0 (h01 _ hm)).mp z q1), aw_bd_s (ot_has t x (by omega))]
            by_cases q2 : ao_t x m
            · rw [ao_b1 q2, if_neg ao_n10]
              exact Or.inl ⟨stop (fun z => z.2.1 q2), hj t v⟩
            · rw [ao_b0 q2, if_pos rfl, ao_gdn (by omega) (by omega), nI_clamp (by omega)]
              have step : ¬ (ag_x1 t 24 (k / 2) ∧ ag_F Γ e 1 (k / 2)) → ∃ s', m_Rf_isRight_J143 t (nI e) x (nI k) (nI m) = some (.inr (1, nI (k + 1), s')) ∧ (ot_z b s' ∧ (∀ n, n < ag_N Γ → ao_01 (s'.1 24 n)) ∧ (∀ n, n < ag_N Γ → ag_x1 s' 24 n → n ≠ 0 ∨ ao_t x 0) ∧ ∀ Y : Nat → Prop, (∀ n, n < ag_N Γ → Y n → ot_fR (ag_N Γ) (ag_nx Γ) (ag_F Γ e 1) (ao_t x) Y n) → ∀ n, n < ag_N Γ → Y n → ag_x1 s' 24 n) ∧ ao_n (fun n => ag_x1 s' 24 n) (ag_N Γ) < ao_n (fun n => ag_x1 t 24 n) (ag_N Γ) := by
                intro hn
                have hx : ∀ n, ag_x1 (aw_sI t 24 m 0) 24 n ↔ ag_x1 t 24 n ∧ n ≠ m := fun n => by
                  unfold ag_x1
                  by_cases w : n = m
                  · rw [w, ao_sI_s]; exact ⟨fun z => absurd z (by decide), fun z => absurd rfl z.2⟩
                  · rw [ao_sI_i w]; exact ⟨fun z => ⟨z, w⟩, fun z => z.1⟩
                refine ⟨aw_sI t 24 m 0, ?_, ⟨ot_z_I hf (Or.inl rfl), fun n hn' => ?_, fun n hn' q => hb n hn' ((hx n).mp q).1, fun Y hY n hn' q => (hx n).mpr ⟨hU Y hY n hn' q, fun w => ?_⟩⟩, ?_⟩
                · unfold m_Rf_isRight_J143
                  rw [ao_gdn (by omega) (by omega), nI_clamp (by omega), ao_nar (Or.inl rfl), ao_ltr]
                  exact hj _ _
                · by_cases w : n = m
                  · rw [w, ao_sI_s]; exact Or.inl rfl
                  · rw [ao_sI_i w]; exact h01 n hn'
                · subst w
                  rcases hY n hn' q with z | z
                  · exact q2 z
                  · have := z.2 (k / 2) hp (ao_ed_half e1)
                    exact hn ⟨hU Y hY _ hp this.1, this.2⟩
                · exact ao_n_lt (i := m) (fun n hn q => ((hx n).mp q).1) hm q1 (fun q => ((hx m).mp q).2 rfl)
              by_cases q3 : ag_x1 t 24 (k / 2)
              · rw [if_neg (fun z => (ao_01_0 (h01 _ hp)).mp z q3), aw_bd_s so1]
                by_cases q4 : ag_F Γ e 1 (k / 2)
                · rw [ao_b1 q4, if_neg ao_n10]
                  exact Or.inl ⟨stop (fun z => z.2.2 ⟨q3, q4⟩), hj t v⟩
                · rw [ao_b0 q4, if_pos rfl]
                  exact Or.inr (step (fun z => q4 z.2))
              · rw [if_pos ((ao_01_0 (h01 _ hp)).mpr q3)]
                exact Or.inr (step (fun z => q3 z.1))
          · rw [if_pos ((ao_01_0 (h01 _ hm)).mpr q1)]
            exact Or.inl ⟨stop (fun z => q1 z.1), hj t v⟩
      · have q : s.1 24 n = 1 := q
        rw [d2 n hn] at q
        exact ao_b_eq1.mp q
      · show s.1 24 n = 1
        rw [d2 n hn]
        refine ao_b1 ?_
        rcases hY n hn q with z | z
        · by_cases w : n = 0
          · rw [w] at z; exact Or.inr z
          · exact Or.inl w
        · exact Or.inl z.1
      · rintro t ⟨⟨hf, h01, hb, hU⟩, hC⟩
        have hG : ∀ n, n < ag_N Γ → (ag_x1 t 24 n ↔ ao_G (ag_N Γ) (ot_fR (ag_N Γ) (ag_nx Γ) (ag_F Γ e 1) (ao_t x)) n) := by
          refine ao_gf_G ⟨fun n hn hx => ?_, hU⟩ (fun _ _ _ => Iff.rfl)
          by_cases q : ao_t x n
          · exact Or.inl q
          · refine Or.inr ⟨fun w => (hb n hn hx).elim (fun z => z w) (fun z => q (by rw [w]; exact z)), fun p hp hed => ?_⟩
            obtain ⟨k, hk, hk1, hk2⟩ := ao_ed_ex hp hed
            exact Classical.byContradiction fun z => hC k hk ⟨n, hk1, hx, q, by rw [hk2]; exact z⟩
        refine ao_bd (ao_imp (ao_for (Q := Sum.elim (fun (y : Int32 × aw_S) => y.1 = 0 ∧ ot_z b y.2 ∧ ∃ n, n < ag_N Γ ∧ ag_F Γ e 0 n ∧ ¬ ag_x1 t 24 n) (fun (_ : Unit) => ∀ n, n < ag_N Γ → ag_F Γ e 0 n → ag_x1 t 24 n)) (ag_N Γ) (fun k (v : Int32) => v = nI k ∧ ∀ n, n < k → ag_F Γ e 0 n → ag_x1 t 24 n) (a := 0) ⟨rfl, fun n hn => absurd hn (Nat.not_lt_zero _)⟩ (Nat.zero_le _) (by omega) ?_ ?_) ?_)
        · rintro k v hk ⟨rfl, d⟩
          have so0 : m_Rf_so t 0 (nI e) (nI k) = some (ao_b (ag_F Γ e 0 k)) := so (w := 0) hf (by omega) hk
          show ao_ok (m_Rf_isRight_B165 t (nI e) (nI k)) _
          unfold m_Rf_isRight_B165 m_Rf_isRight_J197
          rw [cN hf, if_neg (nI_ge hk (by omega)), aw_bd_s so0, ao_ltr, nI_1]
          by_cases q : ag_F Γ e 0 k
          · rw [ao_b1 q, if_neg ao_n10, ao_gdn (by omega) (by omega), nI_clamp (by omega)]
            by_cases q2 : ag_x1 t 24 k
            · rw [if_neg (fun z => (ao_01_0 (h01 _ hk)).mp z q2)]
              exact ao_inr ⟨rfl, fun n hn w => by by_cases u : n = k; rw [u]; exact q2; exact d n (by omega) w⟩
            · rw [if_pos ((ao_01_0 (h01 _ hk)).mpr q2)]
              exact ao_inl ⟨rfl, hf, k, hk, q, q2⟩
          · rw [ao_b0 q, if_pos rfl]
            exact ao_inr ⟨rfl, fun n hn w => by by_cases u : n = k; rw [u] at w; exact absurd w q; exact d n (by omega) w⟩
        · rintro v ⟨rfl, d⟩
          show ao_ok (m_Rf_isRight_B165 t (nI e) (nI (ag_N Γ))) _
          unfold m_Rf_isRight_B165
          rw [cN hf, if_pos (nI_le (Nat.le_refl _) (by omega))]
          exact ao_inl d
        · rintro (⟨v, s'⟩ | u) h
          · obtain ⟨e1, y', n, hn, q1, q2⟩ := h
            refine ao_some ⟨?_, y'⟩
            show v = _
            rw [show v = 0 from e1, ao_b0 (fun z => q2 ((hG n hn).mpr (z.2 n hn q1)))]
          · have h : ∀ n, n < ag_N Γ → ag_F Γ e 0 n → ag_x1 t 24 n := h
            refine ao_some ⟨?_, hf⟩
            show (1 : Int32) = _
            rw [ao_b1 ⟨d1, fun n hn q => (hG n hn).mp (h n hn q)⟩]
set_option maxHeartbeats 4000000 in
theorem ot_lifeB {b σ : aw_S} {Γ : ag_T} (G : ag_wf Γ) (B : ag_BA b Γ) (hz : ot_z b σ) (hN : ag_N Γ ≤ 12) {e : Nat} (he : e < ag_X Γ) (x : Int32) : ao_ok (m_Rf_lifeOf σ (nI e) x) (fun r => r.1 = nI (ao_n (ot_LF Γ e (ao_t x)) (ag_N Γ)) ∧ ot_z b r.2) := by
  have hT := B.1.1
  have so : ∀ {s : aw_S} {w n : Nat}, ot_z b s → w < 8 → n < ag_N Γ → m_Rf_so s (nI w) (nI e) (nI n) = some (ao_b (ag_F Γ e w n)) := fun {s w n} hs hw hn => iq_soC G B (hs.2 12 (by omega) (by omega) (by omega)) hw he hn
  have cN : ∀ {s : aw_S}, ot_z b s → s.1 0 14 = nI (ag_N Γ) := fun {s} hs => (ot_z_TB hs hT).2.1
  unfold m_Rf_lifeOf
  refine ao_bd (ao_imp (ao_for (Q := fun t => ot_z b t ∧ ∀ n, n < ag_N Γ → t.1 25 n = ao_b (ag_F Γ e 0 n)) (ag_N Γ) (fun k (t : Int32 × aw_S) => t.1 = nI k ∧ ot_z b t.2 ∧ ∀ n, n < k → t.2.1 25 n = ao_b (ag_F Γ e 0 n)) (a := 0) ⟨rfl, hz, fun n hn => absurd hn (Nat.not_lt_zero _)⟩ (Nat.zero_le _) (by omega) ?_ ?_) ?_)
  · rintro k ⟨v, s⟩ hk ⟨e1, y, d2⟩
    have e1 : v = nI k := e1
    subst e1
    have y : ot_z b s := y
    have d2 : ∀ n, n < k → s.1 25 n = ao_b (ag_F Γ e 0 n) := d2
    have so0 : m_Rf_so s 0 (nI e) (nI k) = some (ao_b (ag_F Γ e 0 k)) := so (w := 0) y (by omega) hk
    show ao_ok (m_Rf_lifeOf_B2 s (nI e) x (nI k)) _
    unfold m_Rf_lifeOf_B2
    rw [cN y, if_neg (nI_ge hk (by omega)), aw_bd_s so0, ao_gdn (by omega) (by omega), nI_clamp (by omega), ao_ltr, ao_ltr, nI_1, ao_nar (ao_01_b _)]
    refine ao_inr ⟨rfl, ot_z_I y (Or.inr (Or.inl rfl)), fun n hn => ?_⟩
    show (aw_sI s 25 k _).1 25 n = _
    by_cases w : n = k
    · rw [w, ao_sI_s]
    · rw [ao_sI_i w]; exact d2 n (by omega)
  · rintro ⟨v, s⟩ ⟨e1, y, d2⟩
    have e1 : v = nI (ag_N Γ) := e1
    subst e1
    show ao_ok (m_Rf_lifeOf_B2 s (nI e) x (nI (ag_N Γ))) _
    unfold m_Rf_lifeOf_B2
    rw [cN y, if_pos (nI_le (Nat.le_refl _) (by omega))]
    exact ao_inl ⟨y, d2⟩
  · rintro s ⟨y, d2⟩
    refine ao_bd (ao_imp (ao_chaos (fo := fun s => m_Rf_lifeOf_B31 s.2 x s.1) (fi := fun s => m_Rf_lifeOf_B40 s.2.2 x s.1 s.2.1) (2 * ag_N Γ) nI
      (fun t => ot_z b t ∧ (∀ n, n < ag_N Γ → ao_01 (t.1 25 n)) ∧ (∀ n, n < ag_N Γ → ag_F Γ e 0 n → ag_x1 t 25 n) ∧ ∀ Y : Nat → Prop, (∀ n, n < ag_N Γ → ot_fL (ag_nx Γ) (ag_F Γ e 0) (ao_t x) Y n → Y n) → ∀ n, n < ag_N Γ → ag_x1 t 25 n → Y n)
      (fun t => ao_n (fun n => ¬ ag_x1 t 25 n) (ag_N Γ)) (fun t k => ∃ m, ag_nx Γ k = some m ∧ ¬ ag_x1 t 25 (k / 2) ∧ ¬ ao_t x m ∧ ag_x1 t 25 m) (by omega) ?_ ?_ ?_ ?_ ⟨y, fun n hn => by rw [d2 n hn]; exact ao_01_b _, fun n hn q => ?_, fun Y hY n hn q => ?_⟩ (by have := ao_n_le (fun n => ¬ ag_x1 s 25 n) (ag_N Γ); omega)) ?_)
    · intro t; rfl
    · rintro t _; rfl
    · rintro t v ⟨hf, _⟩
      show m_Rf_lifeOf_B40 t x v (nI (2 * ag_N Γ)) = _
      unfold m_Rf_lifeOf_B40
      rw [cN hf, ao_mul2, if_pos (nI_le (Nat.le_refl _) (by omega))]
    · rintro t v k hk ⟨hf, h01, hb, hU⟩ hv'
      show (_ ∧ m_Rf_lifeOf_B40 t x v (nI k) = _) ∨ (∃ s', m_Rf_lifeOf_B40 t x v (nI k) = _ ∧ _)
      have hTt := ot_z_TB hf hT
      have hp : k / 2 < ag_N Γ := by omega
      have hj : ∀ t' v', m_Rf_lifeOf_J112 t' x v' (nI k) = some (.inr (v', nI (k + 1), t')) := fun t' v' => by rw [← nI_1 k]; rfl
      unfold m_Rf_lifeOf_B40
      rw [hTt.2.1, ao_mul2, if_neg (nI_ge hk (by omega)), ao_half (by omega), ao_gdn (by omega) (by omega), nI_clamp (by omega), ao_ltr]
      rcases ao_edge hTt hk with ⟨e1, e2⟩ | ⟨m, e1, hm, e2, e3⟩
      · rw [if_pos e2]
        exact Or.inl ⟨fun ⟨m, q, _⟩ => (by rw [e1] at q; cases q), hj t v⟩
      · have stop : ¬ (¬ ag_x1 t 25 (k / 2) ∧ ¬ ao_t x m ∧ ag_x1 t 25 m) → ¬ ∃ m, ag_nx Γ k = some m ∧ ¬ ag_x1 t 25 (k / 2) ∧ ¬ ao_t x m ∧ ag_x1 t 25 m := fun h ⟨m', z, z'⟩ => h (by rw [e1] at z; cases z; exact z')
        rw [if_neg e3, e2]
        simp (disch := omega) only [ao_gdn, nI_clamp]
        by_cases q1 : ag_x1 t 25 (k / 2)
        · rw [if_neg (fun z => (ao_01_0 (h01 _ hp)).mp z q1)]
          exact Or.inl ⟨stop (fun z => z.1 q1), hj t v⟩
        · rw [if_pos ((ao_01_0 (h01 _ hp)).mpr q1), aw_bd_s (ot_has t x (by omega))]
          by_cases q2 : ao_t x m
          · rw [ao_b1 q2, if_neg ao_n10]
            exact Or.inl ⟨stop (fun z => z.2.1 q2), hj t v⟩
          · rw [ao_b0 q2, if_pos rfl]
            by_cases q3 : ag_x1 t 25 m
            · rw [if_neg (fun z => (ao_01_0 (h01 _ hm)).mp z q3), ao_nar (Or.inr rfl), ao_ltr, hj]
              have hx := ag_x1_s (s := t) (c := 25) (m := k / 2) (v := 1) rfl
              refine Or.inr ⟨_, rfl, ⟨ot_z_I hf (Or.inr (Or.inl rfl)), fun n hn' => ?_, fun n hn' q => (hx n).mpr (Or.inl (hb n hn' q)), fun Y hY n hn' q => ?_⟩, ?_⟩
              · by_cases w : n = k / 2
                · rw [w, ao_sI_s]; exact Or.inr rfl
                · rw [ao_sI_i w]; exact h01 n hn'
              · rcases (hx n).mp q with q | q
                · exact hU Y hY n hn' q
                · subst q
                  exact hY _ hn' (Or.inr ⟨m, ao_ed_half e1, hU Y hY m hm q3, q2⟩)
              · exact ao_n_lt (i := k / 2) (fun n hn q q' => q ((hx n).mpr (Or.inl q'))) hp q1 (fun q => q ((hx _).mpr (Or.inr rfl)))
            · rw [if_pos ((ao_01_0 (h01 _ hm)).mpr q3)]
              exact Or.inl ⟨stop (fun z => q3 z.2.2), hj t v⟩
    · show s.1 25 n = 1
      rw [d2 n hn, ao_b1 q]
    · have q : s.1 25 n = 1 := q
      rw [d2 n hn] at q
      exact hY n hn (Or.inl (ao_b_eq1.mp q))
    · rintro t ⟨⟨hf, h01, hb, hU⟩, hC⟩
      have hL : ∀ n, n < ag_N Γ → (ag_x1 t 25 n ↔ ot_LF Γ e (ao_t x) n) := by
        refine ao_lf_L ⟨fun n hn hx => ?_, hU⟩ (fun _ _ _ => Iff.rfl)
        rcases hx with hx | ⟨m, hed, h1, h2⟩
        · exact hb n hn hx
        · obtain ⟨k, hk, hk1, hk2⟩ := ao_ed_ex hn hed
          exact Classical.byContradiction fun z => hC k hk ⟨m, hk1, by rw [hk2]; exact z, h2, h1⟩
      refine ao_bde (iq_lpf (fun k => nI (ao_n (ot_LF Γ e (ao_t x)) k)) (N := ag_N Γ) (by omega) (fun k hk => ?_) ?_ rfl) (ao_some ⟨rfl, hf⟩)
      · show m_Rf_lifeOf_B127 t (nI (ao_n (ot_LF Γ e (ao_t x)) k)) (nI k) = _
        unfold m_Rf_lifeOf_B127 m_Rf_lifeOf_J153
        rw [cN hf, if_neg (nI_ge hk (by omega)), ao_gdn (by omega) (by omega), nI_clamp (by omega)]
        by_cases q : ot_LF Γ e (ao_t x) k
        · rw [if_neg (fun z => (ao_01_0 (h01 _ hk)).mp z ((hL k hk).mpr q)), ao_ltr, ao_ltr, nI_1, nI_1, ao_n_s1 q]
        · rw [if_pos ((ao_01_0 (h01 _ hk)).mpr (fun z => q ((hL k hk).mp z))), ao_ltr, ao_ltr, nI_1, Int32.add_zero, ao_n_s0 q]
      · show m_Rf_lifeOf_B127 t _ (nI (ag_N Γ)) = _
        unfold m_Rf_lifeOf_B127
        rw [cN hf, if_pos (nI_le (Nat.le_refl _) (by omega))]

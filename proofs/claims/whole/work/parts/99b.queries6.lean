/-! ===== again ===== -/
theorem iq_soC {b s : aw_S} {Γ : ag_T} (G : ag_wf Γ) (B : ag_BA b Γ) (e12 : s.1 12 = b.1 12) {w e n : Nat} (hw : w < 8) (he : e < ag_X Γ) (hn : n < ag_N Γ) : m_Rf_so s (nI w) (nI e) (nI n) = some (ao_b (ag_F Γ e w n)) := by
  have hN := G.1.1
  have hX := G.2.2.2.2.2.2.1
  have : s.1 12 (ao_c w e + n) = ao_b (ag_F Γ e w n) := by rw [e12]; exact (B.2.1 e he).1 w hw n hn
  rw [ao_so hw (by omega) (by omega) (by rw [this]; exact ao_01_b _), this]
set_option maxHeartbeats 2000000 in
theorem iq_layMaybe {b : aw_S} {Γ : ag_T} (G : ag_wf Γ) (B : ag_BA b Γ) {e : Nat} (he : e < ag_X Γ) : ao_ok (m_Rf_layMaybe b (nI e)) (fun s => ag_one 35 b s ∧ ∀ n, n < ag_N Γ → s.1 35 n = ao_b (ao_MB (ag_N Γ) (ag_nx Γ) (ag_US Γ e) (ag_KE Γ e) n)) := by
  have hN := G.1.1
  have hT := B.1.1
  unfold m_Rf_layMaybe
  refine ao_bd (ao_imp (Q := fun s => ag_one 35 b s ∧ ∀ n, n < ag_N Γ → s.1 35 n = 0) (ao_for (ag_N Γ) (fun k (s : Int32 × aw_S) => s.1 = nI k ∧ ag_one 35 b s.2 ∧ ∀ n, n < k → s.2.1 35 n = 0) (a := 0) ⟨rfl, ag_one_rf, fun n hn => absurd hn (Nat.not_lt_zero _)⟩ (Nat.zero_le _) (by omega) ?_ ?_) ?_)
  · rintro k ⟨v, s⟩ hk ⟨e1, hf, hv⟩
    have e1 : v = nI k := e1
    subst e1
    have hTs := ag_one_TB hf (by omega) hT
    show ao_ok (m_Rf_layMaybe_B2 s (nI e) (nI k)) _
    unfold m_Rf_layMaybe_B2
    rw [hTs.2.1, if_neg (nI_ge hk (by omega)), ao_gdn (by omega) (by omega), nI_clamp (by omega), ao_nar (Or.inl rfl)]
    refine ao_let (ao_let (ao_inr ⟨nI_1 k, ag_one_tr hf ag_one_s, fun n hn => ?_⟩))
    show (aw_sI s 35 k 0).1 35 n = 0
    by_cases hnk : n = k
    · rw [hnk, ao_sI_s]
    · rw [ao_sI_i hnk]; exact hv n (by omega)
  · rintro ⟨v, s⟩ ⟨e1, hf, hv⟩
    have e1 : v = nI (ag_N Γ) := e1
    subst e1
    show ao_ok (m_Rf_layMaybe_B2 s (nI e) (nI (ag_N Γ))) _
    unfold m_Rf_layMaybe_B2
    rw [(ag_one_TB hf (by omega) hT).2.1, if_pos (nI_le (Nat.le_refl _) (by omega))]
    exact ao_inl ⟨hf, hv⟩
  · rintro s ⟨hf, hv⟩
    refine ao_bd (ao_imp (ao_chaos (fo := fun s => m_Rf_layMaybe_B25 s.2 (nI e) s.1) (fi := fun s => m_Rf_layMaybe_B33 s.2.2 (nI e) s.1 s.2.1) (2 * ag_N Γ) nI
      (fun t => ag_one 35 b t ∧ (∀ n, n < ag_N Γ → ao_01 (t.1 35 n)) ∧ ∀ Y : Nat → Prop, (∀ n, n < ag_N Γ → ao_fMB (ag_N Γ) (ag_nx Γ) (ag_US Γ e) (ag_KE Γ e) Y n → Y n) → ∀ n, n < ag_N Γ → ag_x1 t 35 n → Y n)
      (fun t => ao_n (fun n => ¬ ag_x1 t 35 n) (ag_N Γ)) (fun t k => ∃ m, ag_nx Γ k = some m ∧ ¬ ag_x1 t 35 m ∧ ag_KE Γ e (k / 2) ∧ (ag_US Γ e (k / 2) ∨ ag_x1 t 35 (k / 2))) (by omega) ?_ ?_ ?_ ?_ ⟨hf, fun n hn => Or.inl (hv n hn), fun Y hY n hn q => absurd ((hv n hn).symm.trans q) (by decide)⟩ (by have := ao_n_le (fun n => ¬ ag_x1 s 35 n) (ag_N Γ); omega)) ?_)
    · intro t; rfl
    · rintro t _; rfl
    · rintro t v ⟨hf, _⟩
      show m_Rf_layMaybe_B33 t (nI e) v (nI (2 * ag_N Γ)) = _
      unfold m_Rf_layMaybe_B33
      rw [(ag_one_TB hf (by omega) hT).2.1, ao_mul2, if_pos (nI_le (Nat.le_refl _) (by omega))]
    · rintro t v k hk ⟨hf, h01, hU⟩ hv'
      show (_ ∧ m_Rf_layMaybe_B33 t (nI e) v (nI k) = _) ∨ (∃ s', m_Rf_layMaybe_B33 t (nI e) v (nI k) = _ ∧ _)
      have hTt := ag_one_TB hf (by omega) hT
      have e12 : t.1 12 = b.1 12 := hf.2 12 (by omega)
      have hp : k / 2 < ag_N Γ := by omega
      have hj : ∀ t' v', m_Rf_layMaybe_J121 t' (nI e) v' (nI k) = some (.inr (v', nI (k + 1), t')) := fun t' v' => by rw [← nI_1 k]; rfl
      unfold m_Rf_layMaybe_B33
      rw [hTt.2.1, ao_mul2, if_neg (nI_ge hk (by omega)), ao_half (by omega), ao_ltr, ao_gdn (by omega) (by omega), nI_clamp (by omega)]
      rcases ao_edge hTt hk with ⟨e1, e2⟩ | ⟨m, e1, hm, e2, e3⟩
      · rw [if_pos e2]
        exact Or.inl ⟨fun ⟨m, q, _⟩ => (by rw [e1] at q; cases q), hj t v⟩
      · have hJ7 : m_Rf_layMaybe_J107 t (nI e) (nI k) = some (.inr (1, nI (k + 1), aw_sI t 35 m 1)) := by
          unfold m_Rf_layMaybe_J107
          rw [ao_gdn (by omega) (by omega), nI_clamp (by omega), e2, ao_gdn (by omega) (by omega), nI_clamp (by omega), ao_nar (Or.inr rfl), ao_ltr]
          exact hj _ _
        rw [if_neg e3, e2, ao_gdn (by omega) (by omega), ao_gdn (by omega) (by omega), nI_clamp (by omega)]
        have q1' : m_Rf_so t 1 (nI e) (nI (k / 2)) = some (ao_b (ag_F Γ e 1 (k / 2))) := iq_soC (w := 1) G B e12 (by omega) he hp
        have q0' : m_Rf_so t 0 (nI e) (nI (k / 2)) = some (ao_b (ag_F Γ e 0 (k / 2))) := iq_soC (w := 0) G B e12 (by omega) he hp
        by_cases q1 : ag_x1 t 35 m
        · rw [if_neg (fun z => (ao_01_0 (h01 _ hm)).mp z q1)]
          exact Or.inl ⟨fun ⟨m', z, z', _⟩ => (by rw [e1] at z; cases z; exact z' q1), hj t v⟩
        · rw [if_pos ((ao_01_0 (h01 _ hm)).mpr q1), aw_bd_s q1']
          have step : ag_KE Γ e (k / 2) → (ag_US Γ e (k / 2) ∨ ag_x1 t 35 (k / 2)) → ∃ s', some (.inr ((1 : Int32), nI (k + 1), aw_sI t 35 m 1) : (Int32 × aw_S) ⊕ (Int32 × Int32 × aw_S)) = some (.inr (1, nI (k + 1), s')) ∧ (ag_one 35 b s' ∧ (∀ n, n < ag_N Γ → ao_01 (s'.1 35 n)) ∧ ∀ Y : Nat → Prop, (∀ n, n < ag_N Γ → ao_fMB (ag_N Γ) (ag_nx Γ) (ag_US Γ e) (ag_KE Γ e) Y n → Y n) → ∀ n, n < ag_N Γ → ag_x1 s' 35 n → Y n) ∧ ao_n (fun n => ¬ ag_x1 s' 35 n) (ag_N Γ) < ao_n (fun n => ¬ ag_x1 t 35 n) (ag_N Γ) := by
            intro hke hus
            have hx := ag_x1_s (s := t) (c := 35) (m := m) (v := 1) rfl
            refine ⟨_, rfl, ⟨ag_one_tr hf ag_one_s, fun n hn => ?_, fun Y hY n hn q => ?_⟩, ?_⟩
            · by_cases hnk : n = m
              · subst hnk; rw [ao_sI_s]; exact Or.inr rfl
              · rw [ao_sI_i hnk]; exact h01 n hn
            · rcases (hx n).mp q with q | q
              · exact hU Y hY n hn q
              · subst q
                exact hY _ hn ⟨k / 2, hp, ao_ed_half e1, hke, hus.imp id (fun z => hU Y hY _ hp z)⟩
            · exact ao_n_lt (i := m) (fun n hn q q' => q ((hx n).mpr (Or.inl q'))) hm q1 (fun q => q ((hx _).mpr (Or.inr rfl)))
          by_cases q2 : ag_KE Γ e (k / 2)
          · rw [ao_b1 (show ag_F Γ e 1 (k / 2) from q2), if_neg ao_n10, aw_bd_s q0']
            by_cases q3 : ag_US Γ e (k / 2)
            · rw [ao_b1 (show ag_F Γ e 0 (k / 2) from q3), if_neg ao_n10, hJ7]
              exact Or.inr (step q2 (Or.inl q3))
            · rw [ao_b0 (show ¬ ag_F Γ e 0 (k / 2) from q3), if_pos rfl, ao_gdn (by omega) (by omega), nI_clamp (by omega)]
              by_cases q4 : ag_x1 t 35 (k / 2)
              · rw [if_neg (fun z => (ao_01_0 (h01 _ hp)).mp z q4), hJ7]
                exact Or.inr (step q2 (Or.inr q4))
              · rw [if_pos ((ao_01_0 (h01 _ hp)).mpr q4)]
                exact Or.inl ⟨fun ⟨_, _, _, _, z⟩ => z.elim q3 q4, hj t v⟩
          · rw [ao_b0 (show ¬ ag_F Γ e 1 (k / 2) from q2), if_pos rfl]
            exact Or.inl ⟨fun ⟨_, _, _, z, _⟩ => q2 z, hj t v⟩
    · rintro t ⟨⟨hf, h01, hU⟩, hC⟩
      have hMB : ∀ n, n < ag_N Γ → (ag_x1 t 35 n ↔ ao_MB (ag_N Γ) (ag_nx Γ) (ag_US Γ e) (ag_KE Γ e) n) := by
        refine ao_lf_L ⟨fun n hn hx => ?_, hU⟩ (fun _ _ _ => Iff.rfl)
        obtain ⟨p, hp, hed, h1, h2⟩ := hx
        obtain ⟨k, hk, hk1, hk2⟩ := ao_ed_ex hp hed
        exact Classical.byContradiction fun q => hC k hk ⟨n, hk1, q, by rw [hk2]; exact h1, by rw [hk2]; exact h2⟩
      refine ao_some ⟨hf, fun n hn => ?_⟩
      rw [ao_01_e (h01 n hn)]
      exact ao_b_c (hMB n hn)
/-- what is counted -/
def iq_AG (Γ : ag_T) (e w n : Nat) : Prop := ag_F Γ e 0 n ∧ if w = 0 then ag_F Γ e 3 n else ao_MB (ag_N Γ) (ag_nx Γ) (ag_US Γ e) (ag_KE Γ e) n ∧ ¬ ag_F Γ e 3 n
theorem q_again {a b : aw_S} (h : iq_P a b) (x y : Int32) : iq_x 35 b (m_Mo_again a x y) (m_Rf_again b x y) := by
  unfold m_Mo_again m_Rf_again
  rcases iq_soOne h x with ⟨Γ, e, G, s, he, rfl, e1, e2, e3⟩ | ⟨e1, e2⟩
  · refine iq_xl e1 (iq_xln ao_n10 (iq_xrn (by rw [e2]; decide) (iq_xr e3 (iq_xrn ao_n10 ?_))))
    have hN := G.1.1.1
    have hX := G.1.2.2.2.2.2.2.1
    have A := G.2.1.1
    have B := G.2.2.1
    by_cases q : ∃ w, w < 2 ∧ y = nI w
    · obtain ⟨w, hw, rfl⟩ := q
      refine iq_xr (iq_isIn1 b (N := 2) (by decide) hw (by omega)) (iq_xrn ao_n10 (iq_xln (nI_pos (by omega)) (iq_xlp (show nI w ≤ (1 : Int32) from nI_le (b := 1) (by omega) (by omega)) ?_)))
      obtain ⟨s', el, f, d⟩ := iq_layMaybe G.1 G.2.2 he
      have hw0 : nI w = 0 ↔ w = 0 := nI_eq (b := 0) (by omega) (by omega)
      refine iq_xr el ?_
      refine iq_xl (iq_lpf (fun k => nI (ao_n (iq_AG Γ e w) k)) (N := ag_N Γ) (by omega) (fun k hk => ?_) ?_ rfl) (iq_xr (iq_lpf (fun k => nI (ao_n (iq_AG Γ e w) k)) (N := ag_N Γ) (by omega) (fun k hk => ?_) ?_ rfl) ⟨_, s', rfl, rfl, f⟩)
      · show m_Mo_again_B24 a (nI e) (nI w) (nI (ao_n (iq_AG Γ e w) k)) (nI k) = _
        have F0 := G.2.1.2.1.1 0 (by omega) k hk e (by omega)
        have F3 := G.2.1.2.1.1 3 (by omega) k hk e (by omega)
        have FM := G.2.1.2.1.2.1 k hk e (by omega)
        have hJ : ∀ z : Int32, (ao_t z e ↔ (if w = 0 then ag_F Γ e 3 k else ao_MB (ag_N Γ) (ag_nx Γ) (ag_US Γ e) (ag_KE Γ e) k ∧ ¬ ag_F Γ e 3 k)) → m_Mo_again_J80 a (nI e) (nI w) (nI (ao_n (iq_AG Γ e w) k)) (nI k) z = some (.inr (nI (ao_n (iq_AG Γ e w) (k + 1)), nI (k + 1))) := by
          intro z hz
          unfold m_Mo_again_J80
          rw [ao_gdn (by omega) (by omega), nI_clamp (by omega), aw_bd_s (ag_bitOf a _ (by omega)), ao_ltr, ao_ltr, nI_1, ← iq_n_s]
          have : ao_t (z &&& a.1 47 k) e ↔ iq_AG Γ e w k := by
            rw [ao_t_and, hz]
            exact ⟨fun y => ⟨(F0.mp y.2).2, y.1⟩, fun y => ⟨y.2, F0.mpr ⟨he, y.1⟩⟩⟩
          rw [ao_b_c this]
        unfold m_Mo_again_B24
        rw [A.1.2.1, if_neg (nI_ge hk (by omega)), ao_gdn (by omega) (by omega), ao_gdn (by omega) (by omega), ao_ltr]
        by_cases w0 : w = 0
        · rw [if_pos (hw0.mpr w0), ao_gdn (by omega) (by omega), nI_clamp (by omega)]
          refine hJ _ ?_
          rw [if_pos w0]
          exact ⟨fun y => (F3.mp y).2, fun y => F3.mpr ⟨he, y⟩⟩
        · rw [if_neg (fun y => w0 (hw0.mp y)), nI_clamp (by omega)]
          refine hJ _ ?_
          rw [if_neg w0, ao_t_and, ao_t_not (by omega)]
          exact ⟨fun y => ⟨(FM.mp y.1).2, fun u => y.2 (F3.mpr ⟨he, u⟩)⟩, fun y => ⟨FM.mpr ⟨he, y.1⟩, fun u => y.2 (F3.mp u).2⟩⟩
      · show m_Mo_again_B24 a (nI e) (nI w) _ (nI (ag_N Γ)) = _
        unfold m_Mo_again_B24
        rw [A.1.2.1, if_pos (nI_le (Nat.le_refl _) (by omega))]
      · show m_Rf_again_B36 s' (nI e) (nI w) (nI (ao_n (iq_AG Γ e w) k)) (nI k) = _
        have T := ag_one_TB f (by omega) B.1
        have e12 : s'.1 12 = b.1 12 := f.2 12 (by omega)
        have q0 : m_Rf_so s' 0 (nI e) (nI k) = some (ao_b (ag_F Γ e 0 k)) := iq_soC (w := 0) G.1 G.2.2 e12 (by omega) he hk
        have q3 : m_Rf_so s' 3 (nI e) (nI k) = some (ao_b (ag_F Γ e 3 k)) := iq_soC (w := 3) G.1 G.2.2 e12 (by omega) he hk
        have J4 : ¬ iq_AG Γ e w k → some (.inr (nI (ao_n (iq_AG Γ e w) k), nI k + 1) : Int32 ⊕ (Int32 × Int32)) = some (.inr (nI (ao_n (iq_AG Γ e w) (k + 1)), nI (k + 1))) := fun z => by rw [nI_1, ao_n_s0 z]
        have J2 : iq_AG Γ e w k → some (.inr (nI (ao_n (iq_AG Γ e w) k) + 1, nI k + 1) : Int32 ⊕ (Int32 × Int32)) = some (.inr (nI (ao_n (iq_AG Γ e w) (k + 1)), nI (k + 1))) := fun z => by rw [nI_1, nI_1, ao_n_s1 z]
        unfold m_Rf_again_B36 m_Rf_again_J101 m_Rf_again_J102 m_Rf_again_J104
        simp only [ao_ltr, Int32.add_zero]
        rw [T.2.1, if_neg (nI_ge hk (by omega)), aw_bd_s q0]
        by_cases z0 : ag_F Γ e 0 k
        · rw [ao_b1 z0, if_neg ao_n10, aw_bd_s q3]
          by_cases w0 : w = 0
          · rw [if_pos (hw0.mpr w0)]
            by_cases z3 : ag_F Γ e 3 k
            · rw [ao_b1 z3, if_neg ao_n10]
              exact J2 ⟨z0, by rw [if_pos w0]; exact z3⟩
            · rw [ao_b0 z3, if_pos rfl]
              exact J4 (fun y => z3 (by have := y.2; rw [if_pos w0] at this; exact this))
          · rw [if_neg (fun y => w0 (hw0.mp y)), ao_gdn (by omega) (by omega), nI_clamp (by omega), d k hk]
            by_cases zm : ao_MB (ag_N Γ) (ag_nx Γ) (ag_US Γ e) (ag_KE Γ e) k
            · rw [ao_b1 zm, if_neg ao_n10]
              by_cases z3 : ag_F Γ e 3 k
              · rw [ao_b1 z3, if_neg ao_n10]
                exact J4 (fun y => (by have := y.2; rw [if_neg w0] at this; exact this.2 z3))
              · rw [ao_b0 z3, if_pos rfl]
                exact J2 ⟨z0, by rw [if_neg w0]; exact ⟨zm, z3⟩⟩
            · rw [ao_b0 zm, if_pos rfl]
              exact J4 (fun y => (by have := y.2; rw [if_neg w0] at this; exact zm this.1))
        · rw [ao_b0 z0, if_pos rfl]
          exact J4 (fun y => z0 y.1)
      · show m_Rf_again_B36 s' (nI e) (nI w) _ (nI (ag_N Γ)) = _
        unfold m_Rf_again_B36
        rw [(ag_one_TB f (by omega) B.1).2.1, if_pos (nI_le (Nat.le_refl _) (by omega))]
    · refine iq_xr (iq_isIn0 b (N := 2) (by decide) q (by omega)) (iq_xrp rfl ?_)
      by_cases y0 : y < 0
      · exact iq_xlp y0 iq_x0
      · refine iq_xln y0 ?_
        obtain ⟨j, hj, rfl⟩ := nI_of y0
        refine iq_xln (fun z => ?_) iq_x0
        have z := (nI_leI (b := 1) hj (by omega)).mp z
        exact q ⟨j, by omega, rfl⟩
  · refine iq_xl e1 (iq_xlp rfl ?_)
    rcases e2 with e2 | ⟨e2, e3⟩
    · exact iq_xrp e2 iq_x0
    · exact iq_xrn (by rw [e2]; decide) (iq_xr e3 (iq_xrp rfl iq_x0))

/-! ===== the reference: all lead to a last one; live ===== -/
def ag_one (c : Nat) (σ s : aw_S) : Prop := s.2 = σ.2 ∧ ∀ k, k ≠ c → s.1 k = σ.1 k
theorem ag_one_rf {c : Nat} {σ : aw_S} : ag_one c σ σ := ⟨rfl, fun _ _ => rfl⟩
theorem ag_one_tr {c : Nat} {σ s t : aw_S} (h : ag_one c σ s) (h' : ag_one c s t) : ag_one c σ t := ⟨h'.1.trans h.1, fun k hk => (h'.2 k hk).trans (h.2 k hk)⟩
theorem ag_one_s {c n : Nat} {σ : aw_S} {v : Int32} : ag_one c σ (aw_sI σ c n v) := ⟨rfl, fun _ hk => ao_sI_o hk⟩
theorem ag_one_B {c : Nat} {σ s : aw_S} {Γ : ag_T} (h : ag_one c σ s) (hc : 8 ≤ c) (hB : ag_B σ Γ) : ag_B s Γ := ag_B_fr hB (congrFun (h.2 0 (by omega)) 14) (h.2 1 (by omega)) (h.2 4 (by omega)) (h.2 5 (by omega)) (h.2 6 (by omega)) (h.2 7 (by omega))
theorem ag_one_TB {c : Nat} {σ s : aw_S} {N : Nat} {nx : Nat → Option Nat} (h : ag_one c σ s) (hc : 8 ≤ c) (hB : ao_TB σ N nx) : ao_TB s N nx := ao_TB_fr hB (congrFun (h.2 0 (by omega)) 14) (h.2 7 (by omega))
/-- a row of truths -/
def ag_x1 (s : aw_S) (c : Nat) (n : Nat) : Prop := s.1 c n = 1
theorem ag_x1_s {s : aw_S} {c m : Nat} {v : Int32} (hv : v = 1) (n : Nat) : ag_x1 (aw_sI s c m v) c n ↔ ag_x1 s c n ∨ n = m := by
  subst hv
  unfold ag_x1
  by_cases hnk : n = m
  · subst hnk
    rw [ao_sI_s]
    exact ⟨fun _ => Or.inr rfl, fun _ => rfl⟩
  · rw [ao_sI_i hnk]
    exact ⟨fun q => Or.inl q, fun q => q.elim id (fun q => absurd q hnk)⟩
set_option maxHeartbeats 4000000 in
theorem ag_allLeading {σ : aw_S} {Γ : ag_T} (hw : ag_wf Γ) (h : ag_B σ Γ) : ao_ok (m_Rf_areAllLeading σ) (fun r => r.1 = ao_b (ag_sound Γ) ∧ ag_one 11 σ r.2) := by
  have hN := hw.1.1
  have hT := h.1
  unfold m_Rf_areAllLeading
  refine ao_bd (ao_imp (ao_for (Q := fun s => ag_one 11 σ s ∧ ∀ n, n < ag_N Γ → s.1 11 n = ao_b (ag_nx Γ (2 * n) = none)) (ag_N Γ) (fun k s => s.1 = nI k ∧ ag_one 11 σ s.2 ∧ ∀ n, n < k → s.2.1 11 n = ao_b (ag_nx Γ (2 * n) = none)) (a := 0) ⟨rfl, ag_one_rf, fun n hn => absurd hn (Nat.not_lt_zero _)⟩ (Nat.zero_le _) (by omega) ?_ ?_) ?_)
  · rintro k ⟨v, s⟩ hk ⟨e1, hf, hv⟩
    have e1 : v = nI k := e1
    subst e1
    have hTs := ag_one_TB hf (by omega) hT
    show ao_ok (m_Rf_areAllLeading_B2 s (nI k)) _
    unfold m_Rf_areAllLeading_B2
    rw [hTs.2.1, if_neg (nI_ge hk (by omega))]
    refine ao_bde (ao_isLast hTs hk) ?_
    rw [ao_gdn (by omega) (by omega), nI_clamp (by omega), ao_nar (ao_01_b _)]
    refine ao_let (ao_let (ao_inr ⟨nI_1 k, ag_one_tr hf ag_one_s, fun n hn => ?_⟩))
    show (aw_sI s 11 k _).1 11 n = _
    by_cases hnk : n = k
    · subst hnk; rw [ao_sI_s]
    · rw [ao_sI_i hnk]; exact hv n (by omega)
  · rintro ⟨v, s⟩ ⟨e1, hf, hv⟩
    have e1 : v = nI (ag_N Γ) := e1
    subst e1
    show ao_ok (m_Rf_areAllLeading_B2 s (nI (ag_N Γ))) _
    unfold m_Rf_areAllLeading_B2
    rw [(ag_one_TB hf (by omega) hT).2.1, if_pos (nI_le (Nat.le_refl _) (by omega))]
    exact ao_inl ⟨hf, hv⟩
  · rintro s ⟨hf, hv⟩
    refine ao_bd (ao_imp (ao_chaos (fo := fun s => m_Rf_areAllLeading_B29 s.2 s.1) (fi := fun s => m_Rf_areAllLeading_B37 s.2.2 s.1 s.2.1) (2 * ag_N Γ) nI
      (fun t => ag_one 11 σ t ∧ (∀ n, n < ag_N Γ → ao_01 (t.1 11 n)) ∧ (∀ n, n < ag_N Γ → ag_nx Γ (2 * n) = none → ag_x1 t 11 n) ∧ ∀ Y : Nat → Prop, (∀ n, n < ag_N Γ → ao_fLD (ag_nx Γ) Y n → Y n) → ∀ n, n < ag_N Γ → ag_x1 t 11 n → Y n)
      (fun t => ao_n (fun n => ¬ ag_x1 t 11 n) (ag_N Γ)) (fun t k => ∃ m, ag_nx Γ k = some m ∧ ag_x1 t 11 m ∧ ¬ ag_x1 t 11 (k / 2)) (by omega) ?_ ?_ ?_ ?_ ⟨hf, fun n hn => by rw [hv n hn]; exact ao_01_b _, fun n hn q => (hv n hn).trans (ao_b1 q), fun Y hY n hn q => hY n hn (Or.inl (ao_b_eq1.mp ((hv n hn).symm.trans q)))⟩ (by have := ao_n_le (fun n => ¬ ag_x1 s 11 n) (ag_N Γ); omega)) ?_)
    · intro t; rfl
    · rintro t _; rfl
    · rintro t v ⟨hf, _⟩
      show m_Rf_areAllLeading_B37 t v (nI (2 * ag_N Γ)) = _
      unfold m_Rf_areAllLeading_B37
      rw [(ag_one_TB hf (by omega) hT).2.1, ao_mul2, if_pos (nI_le (Nat.le_refl _) (by omega))]
    · rintro t v k hk ⟨hf, h01, hB, hU⟩ hv'
      show (_ ∧ m_Rf_areAllLeading_B37 t v (nI k) = _) ∨ (∃ s', m_Rf_areAllLeading_B37 t v (nI k) = _ ∧ _)
      have hTt := ag_one_TB hf (by omega) hT
      have hp : k / 2 < ag_N Γ := by omega
      have hj : ∀ t' v', m_Rf_areAllLeading_J96 t' v' (nI k) = some (.inr (v', nI (k + 1), t')) := fun t' v' => by rw [← nI_1 k]; rfl
      unfold m_Rf_areAllLeading_B37
      rw [hTt.2.1, ao_mul2, if_neg (nI_ge hk (by omega)), ao_gdn (by omega) (by omega), nI_clamp (by omega)]
      rcases ao_edge hTt hk with ⟨e1, e2⟩ | ⟨m, e1, hm, e2, e3⟩
      · rw [if_pos e2]
        exact Or.inl ⟨fun ⟨m, q, _⟩ => (by rw [e1] at q; cases q), hj t v⟩
      · rw [if_neg e3, e2, ao_gdn (by omega) (by omega), ao_gdn (by omega) (by omega), nI_clamp (by omega), ao_half (by omega), ao_gdn (by omega) (by omega), ao_gdn (by omega) (by omega), nI_clamp (by omega)]
        by_cases q1 : ag_x1 t 11 m
        · rw [if_neg (fun z => (ao_01_0 (h01 _ hm)).mp z q1)]
          by_cases q2 : ag_x1 t 11 (k / 2)
          · rw [if_neg (fun z => (ao_01_0 (h01 _ hp)).mp z q2)]
            exact Or.inl ⟨fun ⟨m', _, _, q⟩ => q q2, hj t v⟩
          · rw [if_pos ((ao_01_0 (h01 _ hp)).mpr q2), ao_ltr, ao_nar (Or.inr rfl)]
            have hx := ag_x1_s (s := t) (c := 11) (m := k / 2) (v := 1) rfl
            refine Or.inr ⟨_, hj _ _, ⟨ag_one_tr hf ag_one_s, fun n hn => ?_, fun n hn q => (hx n).mpr (Or.inl (hB n hn q)), fun Y hY n hn q => ?_⟩, ?_⟩
            · by_cases hnk : n = k / 2
              · subst hnk; rw [ao_sI_s]; exact Or.inr rfl
              · rw [ao_sI_i hnk]; exact h01 n hn
            · rcases (hx n).mp q with q | q
              · exact hU Y hY n hn q
              · subst q
                exact hY _ hn (Or.inr ⟨m, ao_ed_half e1, hU Y hY m hm q1⟩)
            · exact ao_n_lt (i := k / 2) (fun n hn q q' => q ((hx n).mpr (Or.inl q'))) hp q2 (fun q => q ((hx _).mpr (Or.inr rfl)))
        · rw [if_pos ((ao_01_0 (h01 _ hm)).mpr q1)]
          exact Or.inl ⟨fun ⟨m', q, q', _⟩ => (by rw [e1] at q; cases q; exact q1 q'), hj t v⟩
    · rintro t ⟨⟨hf, h01, hB, hU⟩, hC⟩
      have hLD : ∀ n, n < ag_N Γ → (ag_x1 t 11 n ↔ ao_LD (ag_N Γ) (ag_nx Γ) n) := by
        refine ao_lf_L ⟨fun n hn hx => ?_, hU⟩ (fun _ _ _ => Iff.rfl)
        rcases hx with hx | ⟨m, hed, hx⟩
        · exact hB n hn hx
        · obtain ⟨k, hk, hk1, hk2⟩ := ao_ed_ex hn hed
          exact Classical.byContradiction fun q => hC k hk ⟨m, hk1, hx, by rw [hk2]; exact q⟩
      have hTt := ag_one_TB hf (by omega) hT
      refine ao_bd (ao_for (Q := fun x => ao_ok (Sum.elim (fun y35 => some y35) (fun y36 => some (((1 : Int32), t))) x) (fun (r : Int32 × aw_S) => r.1 = ao_b (ag_sound Γ) ∧ ag_one 11 σ r.2)) (ag_N Γ) (fun k v => v = nI k ∧ ∀ n, n < k → ag_x1 t 11 n) (a := 0) ⟨rfl, fun n hn => absurd hn (Nat.not_lt_zero _)⟩ (Nat.zero_le _) (by omega) ?_ ?_)
      · rintro k v hk ⟨e1, hi⟩
        subst e1
        show ao_ok (m_Rf_areAllLeading_B107 t (nI k)) _
        unfold m_Rf_areAllLeading_B107
        rw [hTt.2.1, if_neg (nI_ge hk (by omega)), ao_gdn (by omega) (by omega), nI_clamp (by omega)]
        refine ao_if (fun q => ao_inl (ao_some ⟨(ao_b0 (fun z => ?_)).symm, hf⟩)) (fun q => ao_let (ao_inr ⟨nI_1 k, fun n hn => ?_⟩))
        · exact (ao_01_0 (h01 k hk)).mp q ((hLD k hk).mpr (z k hk))
        · by_cases hnk : n = k
          · subst hnk
            exact Classical.byContradiction fun z => q ((ao_01_0 (h01 n hk)).mpr z)
          · exact hi n (by omega)
      · rintro v ⟨e1, hi⟩
        subst e1
        show ao_ok (m_Rf_areAllLeading_B107 t (nI (ag_N Γ))) _
        unfold m_Rf_areAllLeading_B107
        rw [hTt.2.1, if_pos (nI_le (Nat.le_refl _) (by omega))]
        exact ao_inl (ao_some ⟨(ao_b1 (fun n hn => (hLD n hn).mp (hi n hn))).symm, hf⟩)
/-! ===== live ===== -/
theorem ag_bitOfB {σ : aw_S} (a : Nat) (ha : a < 2 ^ 31) : ∃ r, m_Rf_bitOf σ (nI a) = some r ∧ ∀ v, v < 32 → (ao_t r v ↔ v < 26 ∧ a = v) := by
  unfold m_Rf_bitOf
  by_cases h : a < 26
  · rw [if_neg (show ¬ (26 : Int32) ≤ nI a from nI_ge (b := 26) h (by omega))]
    refine ⟨_, rfl, fun v hv => ?_⟩
    rw [ao_t_one (by omega) hv]
    omega
  · rw [if_pos (show (26 : Int32) ≤ nI a from nI_le (a := 26) (by omega) ha)]
    exact ⟨_, rfl, fun v hv => ⟨fun q => absurd q ao_t_0, fun q => by omega⟩⟩
theorem ag_reads {σ : aw_S} {Γ : ag_T} (hw : ag_wf Γ) (h : ag_B σ Γ) {n : Nat} (hn : n < ag_N Γ) : ∃ r, m_Rf_reads σ (nI n) = some r ∧ ∀ v, v < 32 → (ao_t r v ↔ ag_RD Γ v n) := by
  have hN := hw.1.1
  have hX := hw.2.2.2.2.2.2.1
  have hk := hw.2.2.2.2.2.1 n hn
  have hk7 := ag_kd_lt hk
  have hne : ag_kd Γ n ≠ 5 → ¬ nI (ag_kd Γ n) = (5 : Int32) := fun q z => q ((ag_kI hk7 (b := 5) (by omega)).mp z)
  have ev := ag_expressionOf hw h hn
  unfold m_Rf_reads
  rw [ao_gdn (by omega) (by omega), nI_clamp (by omega), ao_ltr, aw_bd_s ev]
  have hnot : ag_kd Γ n ≠ 5 → ¬ (ag_kd Γ n = 1 ∨ ag_kd Γ n = 2 ∨ ag_kd Γ n = 3) → ag_ex Γ n = none → ∃ r, (if ao_o (ag_ex Γ n) = -1 then aw_gd (vp_in (nI n) 112) (if (σ.1 4 n) = (5 : Int32) then aw_gd (vp_in (nI n) 112) (aw_bd (m_Rf_get σ (((220 : Int32) + (σ.1 5 n)))) (fun r14 => some (((1 : Int32) <<< (r14 &&& 31))))) else if (σ.1 6 n) = (-1 : Int32) then some ((0 : Int32)) else aw_bd (m_Rf_get σ (((124 : Int32) + (σ.1 6 n)))) (fun r9 => aw_bd (m_Rf_bitOf σ r9) (fun r11 => some r11))) else aw_bd (m_Rf_get σ (((292 : Int32) + ((2 : Int32) * (ao_o (ag_ex Γ n)))))) (fun r16 => aw_bd (m_Rf_bitOf σ r16) (fun r18 => aw_bd (m_Rf_get σ ((((292 : Int32) + ((2 : Int32) * (ao_o (ag_ex Γ n)))) + (1 : Int32)))) (fun r20 => aw_bd (m_Rf_bitOf σ r20) (fun r22 => some ((r18 ||| r22))))))) = some r ∧ ∀ v, v < 32 → (ao_t r v ↔ ag_RD Γ v n) := by
    intro q5 q123 qe
    rw [qe, if_pos (show ao_o none = -1 from rfl), ao_gdn (by omega) (by omega), (h.2.1 n hn).1, if_neg (hne q5), if_pos (h.2.2.2.1 n hn q123)]
    refine ⟨_, rfl, fun v hv => ⟨fun z => absurd z ao_t_0, fun z => ?_⟩⟩
    rcases z.2 with z | ⟨e, z, _⟩ | z
    · omega
    · rw [qe] at z; cases z
    · omega
  have hcw : (ag_kd Γ n = 1 ∨ ag_kd Γ n = 3) → ag_ex Γ n = none → ∀ a, a < 1026 → ag_op Γ n = some a → ∃ r, (if ao_o (ag_ex Γ n) = -1 then aw_gd (vp_in (nI n) 112) (if (σ.1 4 n) = (5 : Int32) then aw_gd (vp_in (nI n) 112) (aw_bd (m_Rf_get σ (((220 : Int32) + (σ.1 5 n)))) (fun r14 => some (((1 : Int32) <<< (r14 &&& 31))))) else if (σ.1 6 n) = (-1 : Int32) then some ((0 : Int32)) else aw_bd (m_Rf_get σ (((124 : Int32) + (σ.1 6 n)))) (fun r9 => aw_bd (m_Rf_bitOf σ r9) (fun r11 => some r11))) else aw_bd (m_Rf_get σ (((292 : Int32) + ((2 : Int32) * (ao_o (ag_ex Γ n)))))) (fun r16 => aw_bd (m_Rf_bitOf σ r16) (fun r18 => aw_bd (m_Rf_get σ ((((292 : Int32) + ((2 : Int32) * (ao_o (ag_ex Γ n)))) + (1 : Int32)))) (fun r20 => aw_bd (m_Rf_bitOf σ r20) (fun r22 => some ((r18 ||| r22))))))) = some r ∧ ∀ v, v < 32 → (ao_t r v ↔ ag_RD Γ v n) := by
    intro q13 qe a ha ea
    obtain ⟨s, hs, e6, e64, e124, _⟩ := h.2.2.1 n hn (by omega)
    obtain ⟨r, er, hr⟩ := ag_bitOfB (σ := σ) a (by omega)
    rw [qe, if_pos (show ao_o none = -1 from rfl), ao_gdn (by omega) (by omega), (h.2.1 n hn).1, if_neg (hne (by omega)), e6, if_neg (ao_m1 (by omega)), show (124 : Int32) = nI 124 from rfl, nI_add, aw_bd_s (ag_get (by omega)), e124 (by omega), ea]
    refine ⟨r, ?_, fun v hv => (hr v hv).trans (and_congr_right fun _ => ⟨fun q => Or.inl ⟨q13, by rw [ea, q]⟩, fun q => ?_⟩)⟩
    · show aw_bd (m_Rf_bitOf σ (nI a)) _ = _
      rw [aw_bd_s er]
    · rcases q with q | ⟨e, q, _⟩ | q
      · rw [ea] at q; exact Option.some.inj q.2
      · rw [qe] at q; cases q
      · omega
  rcases hk with z | z | z | z | z | z | z
  · exact hnot (by omega) (by omega) z.2.2.2.2.1
  · obtain ⟨a, ha, ea⟩ := z.2.2.2.1
    exact hcw (Or.inl z.1) z.2.2.2.2.1 a ha ea
  · obtain ⟨e, he, ee⟩ := z.2.2.2.2.1
    obtain ⟨_, hl, hr⟩ := hw.2.2.2.2.2.2.2.1 e he
    obtain ⟨e1, e2, e3⟩ := h.2.2.2.2.2.2.2.1 e he
    obtain ⟨r1, er1, hr1⟩ := ag_bitOfB (σ := σ) (ag_lf Γ e) (by omega)
    obtain ⟨r2, er2, hr2⟩ := ag_bitOfB (σ := σ) (ag_rt Γ e) (by omega)
    rw [ee, if_neg (show ¬ ao_o (some e) = -1 from ao_m1 (by omega)), show ao_o (some e) = nI e from rfl, ao_mul2, show (292 : Int32) = nI 292 from rfl, nI_add, nI_1, aw_bd_s (ag_get (by omega)), e2, aw_bd_s er1, aw_bd_s (ag_get (by omega)), show 292 + 2 * e + 1 = 293 + 2 * e by omega, e3, aw_bd_s er2]
    refine ⟨_, rfl, fun v hv => ?_⟩
    rw [ao_t_or, hr1 v hv, hr2 v hv, ← and_or_left]
    refine and_congr_right fun _ => ⟨fun q => Or.inr (Or.inl ⟨e, ee, q⟩), fun q => ?_⟩
    rcases q with q | ⟨e', q, q2⟩ | q
    · omega
    · rw [ee] at q; cases q; exact q2
    · omega
  · obtain ⟨a, ha, ea⟩ := z.2.2.2.1
    exact hcw (Or.inr z.1) z.2.2.2.2.1 a ha ea
  · exact hnot (by omega) (by omega) z.2.2.2.2.1
  · obtain ⟨x, hx, ex⟩ := z.2.2.1
    obtain ⟨b, hb, eb⟩ := z.2.1
    rw [z.2.2.2.2.1, if_pos (show ao_o none = -1 from rfl), ao_gdn (by omega) (by omega), (h.2.1 n hn).1, if_pos (show nI (ag_kd Γ n) = (5 : Int32) by rw [z.1]; rfl), ao_gdn (by omega) (by omega), (h.2.1 n hn).2, eb, show ao_o (some b) = nI b from rfl, show (220 : Int32) = nI 220 from rfl, nI_add, aw_bd_s (ag_get (by omega)), h.2.2.2.2.1 n b hn z.1 eb, ex]
    refine ⟨_, rfl, fun v hv => ?_⟩
    show ao_t ((1 : Int32) <<< (nI x &&& 31)) v ↔ _
    rw [ao_t_one (by omega) hv]
    refine ⟨fun q => ⟨by omega, Or.inr (Or.inr ⟨z.1, by rw [ex, q]⟩)⟩, fun q => ?_⟩
    rcases q.2 with q | ⟨e', q, q2⟩ | q
    · omega
    · rw [z.2.2.2.2.1] at q; cases q
    · rw [ex] at q; exact (Option.some.inj q.2).symm
  · exact hnot (by omega) (by omega) z.2.2.2.2.1
set_option maxHeartbeats 4000000 in
theorem ag_liveBehind {σ : aw_S} {Γ : ag_T} (hT : ao_TB σ (ag_N Γ) (ag_nx Γ)) {n : Nat} (hn : n < ag_N Γ) : ∃ r, m_Rf_liveBehind σ (nI n) = some r ∧ ∀ v, v < 32 → (ao_t r v ↔ ∃ t, ao_ed (ag_nx Γ) n t ∧ ao_t (σ.1 36 t) v) := by
  have hN := hT.1.1
  have : ao_ok (m_Rf_liveBehind σ (nI n)) (fun r => ∀ v, v < 32 → (ao_t r v ↔ ∃ t, ao_ed (ag_nx Γ) n t ∧ ao_t (σ.1 36 t) v)) := by
    unfold m_Rf_liveBehind
    rw [ao_mul2]
    refine ao_let (ao_bd (ao_for (Q := fun r => ao_ok (some r) (fun r => ∀ v, v < 32 → (ao_t r v ↔ ∃ t, ao_ed (ag_nx Γ) n t ∧ ao_t (σ.1 36 t) v))) 2 (fun j (s : Int32 × Int32) => s.2 = nI (2 * n + j) ∧ ∀ v, v < 32 → (ao_t s.1 v ↔ ∃ i t, i < j ∧ ag_nx Γ (2 * n + i) = some t ∧ ao_t (σ.1 36 t) v)) (a := 0) ⟨rfl, fun v hv => ⟨fun q => absurd q ao_t_0, fun ⟨i, t, hi, _⟩ => absurd hi (Nat.not_lt_zero _)⟩⟩ (Nat.zero_le _) (by omega) ?_ ?_))
    · rintro j ⟨v2, v3⟩ hj ⟨e2, hi⟩
      have e2 : v3 = nI (2 * n + j) := e2
      subst e2
      have hi : ∀ v, v < 32 → (ao_t v2 v ↔ ∃ i t, i < j ∧ ag_nx Γ (2 * n + i) = some t ∧ ao_t (σ.1 36 t) v) := hi
      show ao_ok (m_Rf_liveBehind_B6 σ (nI n) v2 (nI (2 * n + j))) _
      unfold m_Rf_liveBehind_B6
      rw [ao_mul2, show (2 : Int32) = nI 2 from rfl, nI_add, if_neg (nI_ge (by omega) (by omega)), ao_gdn (by omega) (by omega), ao_gdn (by omega) (by omega), nI_clamp (by omega)]
      rcases ao_edge hT (k := 2 * n + j) (by omega) with ⟨e1, e2⟩ | ⟨t, e1, ht, e2, e3⟩
      · rw [if_pos e2]
        refine ao_let (ao_let (ao_inr ⟨nI_1 _, fun v hv => ?_⟩))
        show ao_t (v2 ||| 0) v ↔ _
        rw [ao_t_or, hi v hv]
        refine ⟨fun q => q.elim (fun ⟨i, t, z, y⟩ => ⟨i, t, by omega, y⟩) (fun q => absurd q ao_t_0), fun ⟨i, t, z, y⟩ => Or.inl ?_⟩
        by_cases hij : i = j
        · subst hij; rw [e1] at y; cases y.1
        · exact ⟨i, t, by omega, y⟩
      · rw [if_neg e3, e2, ao_gdn (by omega) (by omega), nI_clamp (by omega)]
        refine ao_let (ao_let (ao_inr ⟨nI_1 _, fun v hv => ?_⟩))
        show ao_t (v2 ||| _) v ↔ _
        rw [ao_t_or, hi v hv]
        refine ⟨fun q => q.elim (fun ⟨i, t, z, y⟩ => ⟨i, t, by omega, y⟩) (fun q => ⟨j, t, by omega, e1, q⟩), fun ⟨i, t', z, y⟩ => ?_⟩
        by_cases hij : i = j
        · subst hij; rw [e1] at y; cases y.1; exact Or.inr y.2
        · exact Or.inl ⟨i, t', by omega, y⟩
    · rintro ⟨v2, v3⟩ ⟨e2, hi⟩
      have e2 : v3 = nI (2 * n + 2) := e2
      subst e2
      show ao_ok (m_Rf_liveBehind_B6 σ (nI n) v2 (nI (2 * n + 2))) _
      unfold m_Rf_liveBehind_B6
      rw [ao_mul2, show (2 : Int32) = nI 2 from rfl, nI_add, if_pos (nI_le (Nat.le_refl _) (by omega))]
      exact ao_inl (ao_some fun v hv => (hi v hv).trans ⟨fun ⟨i, t, z, y1, y2⟩ => ⟨t, ao_ed_k.mpr ⟨i, z, y1⟩, y2⟩, fun ⟨t, y1, y2⟩ => by obtain ⟨i, z, y⟩ := ao_ed_k.mp y1; exact ⟨i, t, z, y, y2⟩⟩)
  exact this
theorem ao_in_fx {g : Prop} {N : Nat} {F : (Nat → Prop) → Nat → Prop} (hF : ao_mono N F) {st0 vis st : Nat → Prop} (h : ao_in g N F st0 vis st) (hf : ao_fx N F st0) : ∀ m, m < N → (F st m ↔ st m) := by
  have he : ∀ m, m < N → (st m ↔ st0 m) := fun m hm => ao_le_as (h.2.2.1 m hm) (h.2.1 st0 (fun n hn => ao_le_of (hf n hn)) m hm)
  exact fun m hm => (ao_F_c hF he m hm).trans ((hf m hm).symm.trans (he m hm).symm)
theorem ao_fLV_mono {N : Nat} {nx : Nat → Option Nat} (hT : ao_tp N nx) (US KE : Nat → Prop) : ao_mono N (ao_fLV nx US KE) := fun Y Z hYZ n hn hf => hf.imp id (fun ⟨a, t, hed, b⟩ => ⟨a, t, hed, hYZ t (ao_ed_lt hT hn hed) b⟩)
def ag_fv (Γ : ag_T) (v : Nat) : (Nat → Prop) → Nat → Prop := ao_fLV (ag_nx Γ) (ag_RD Γ v) (ag_NC Γ v)
def ag_LI (σ0 : aw_S) (Γ : ag_T) (ρ : aw_S) (i : Nat) (v6 : Int32) (s : aw_S) : Prop :=
  ag_one 36 σ0 s ∧ (v6 = 0 ∨ v6 = 1) ∧ (∀ v, v < 32 → ao_in False (ag_N Γ) (ag_fv Γ v) (ao_st ρ 36 v) (fun m => m < ag_N Γ ∧ ag_N Γ - i ≤ m) (ao_st s 36 v)) ∧ (v6 = 0 → ∀ n, n < ag_N Γ → s.1 36 n = ρ.1 36 n) ∧ ((∀ v, v < 32 → ao_fx (ag_N Γ) (ag_fv Γ v) (ao_st ρ 36 v)) → v6 = 0)
set_option maxHeartbeats 4000000 in
theorem ag_layLive {σ : aw_S} {Γ : ag_T} (hw : ag_wf Γ) (h : ag_B σ Γ) : ao_ok (m_Rf_layLive σ) (fun s => ag_one 36 σ s ∧ ∀ n, n < ag_N Γ → ∀ v, v < 32 → (ao_t (s.1 36 n) v ↔ ag_LV Γ v n)) := by
  have hN := hw.1.1
  have h1 := hw.2.1
  have hm : ∀ v, ao_mono (ag_N Γ) (ag_fv Γ v) := fun v => ao_fLV_mono hw.1 _ _
  unfold m_Rf_layLive
  refine ao_bd (ao_imp (ao_for (Q := fun s => ag_one 36 σ s ∧ ∀ n, n < ag_N Γ → s.1 36 n = 0) (ag_N Γ) (fun k s => s.1 = nI k ∧ ag_one 36 σ s.2 ∧ ∀ n, n < k → s.2.1 36 n = 0) (a := 0) ⟨rfl, ag_one_rf, fun n hn => absurd hn (Nat.not_lt_zero _)⟩ (Nat.zero_le _) (by omega) ?_ ?_) ?_)
  · rintro k ⟨v, s⟩ hk ⟨e1, hf, hv⟩
    have e1 : v = nI k := e1
    subst e1
    show ao_ok (m_Rf_layLive_B2 s (nI k)) _
    unfold m_Rf_layLive_B2
    rw [(ag_one_TB hf (by omega) h.1).2.1, if_neg (nI_ge hk (by omega)), ao_gdn (by omega) (by omega), nI_clamp (by omega)]
    refine ao_let (ao_let (ao_inr ⟨nI_1 k, ag_one_tr hf ag_one_s, fun n hn => ?_⟩))
    show (aw_sI s 36 k 0).1 36 n = _
    by_cases hnk : n = k
    · subst hnk; rw [ao_sI_s]
    · rw [ao_sI_i hnk]; exact hv n (by omega)
  · rintro ⟨v, s⟩ ⟨e1, hf, hv⟩
    have e1 : v = nI (ag_N Γ) := e1
    subst e1
    show ao_ok (m_Rf_layLive_B2 s (nI (ag_N Γ))) _
    unfold m_Rf_layLive_B2
    rw [(ag_one_TB hf (by omega) h.1).2.1, if_pos (nI_le (Nat.le_refl _) (by omega))]
    exact ao_inl ⟨hf, hv⟩
  · rintro s0 ⟨hf0, hv0⟩
    refine ao_bd (ao_for (Q := fun (s : aw_S) => ao_ok (some s) (fun (s : aw_S) => ag_one 36 σ s ∧ ∀ n, n < ag_N Γ → ∀ v, v < 32 → (ao_t (s.1 36 n) v ↔ ag_LV Γ v n))) (ag_N Γ + 2) (fun r (s : Int32 × aw_S) => ag_one 36 σ s.2 ∧ (s.1 = 0 ∨ s.1 = 1 ∧ r ≤ ag_N Γ + 1) ∧ ∀ v, v < 32 → ao_D False (ag_N Γ) (ag_fv Γ v) (ao_st s.2 36 v) ∧ ao_U False (ag_N Γ) (ag_fv Γ v) (ao_st s.2 36 v) ∧ (ao_fx (ag_N Γ) (ag_fv Γ v) (ao_st s.2 36 v) ∨ ao_cn False (ag_N Γ) (ao_st s.2 36 v) + r ≤ ag_N Γ) ∧ (s.1 = 0 → ao_fx (ag_N Γ) (ag_fv Γ v) (ao_st s.2 36 v))) (a := 0) ⟨hf0, Or.inr ⟨rfl, by omega⟩, fun v hv => ⟨fun n hn => ⟨fun z => z.elim, fun _ z => ?_⟩, fun Y hY n hn => ⟨fun z => z.elim, fun _ z => ?_⟩, Or.inr (ao_cn_N _ _ _), fun z => absurd (show (1 : Int32) = 0 from z) (by decide)⟩⟩ (Nat.zero_le _) (by omega) ?_ ?_)
    · exact absurd (show ao_t (s0.1 36 n) v from z) (by rw [hv0 n hn]; exact ao_t_0)
    · exact absurd (show ao_t (s0.1 36 n) v from z) (by rw [hv0 n hn]; exact ao_t_0)
    · rintro r ⟨v6, s⟩ hr ⟨hl, hv6, hR⟩
      have hl : ag_one 36 σ s := hl
      have hR : ∀ v, v < 32 → ao_D False (ag_N Γ) (ag_fv Γ v) (ao_st s 36 v) ∧ ao_U False (ag_N Γ) (ag_fv Γ v) (ao_st s 36 v) ∧ (ao_fx (ag_N Γ) (ag_fv Γ v) (ao_st s 36 v) ∨ ao_cn False (ag_N Γ) (ao_st s 36 v) + r ≤ ag_N Γ) ∧ (v6 = 0 → ao_fx (ag_N Γ) (ag_fv Γ v) (ao_st s 36 v)) := hR
      have hv6 : v6 = 0 ∨ v6 = 1 ∧ r ≤ ag_N Γ + 1 := hv6
      show ao_ok (m_Rf_layLive_B25 s v6) _
      unfold m_Rf_layLive_B25
      refine ao_if (fun h0 => ao_inl (ao_some ⟨hl, fun n hn v hv => ao_lf_L (ao_lf_of (hR v hv).2.1 ((hR v hv).2.2.2 h0)) (fun _ _ _ => Iff.rfl) n hn⟩)) (fun h0 => ?_)
      rw [(ag_one_TB hl (by omega) h.1).2.1, ao_dn_0 h1]
      refine ao_let (ao_bd (ao_imp (ao_for (Q := fun t => ag_LI σ Γ s (ag_N Γ) t.1 t.2) (ag_N Γ) (fun i t => t.2.1 = ao_dn (ag_N Γ) i ∧ ag_LI σ Γ s i t.1 t.2.2) (a := 0) ⟨rfl, hl, Or.inl rfl, fun v hv => ao_in_v (ao_in_0 (hR v hv).1 (hR v hv).2.1) (fun m hm' => ?_), fun _ _ _ => rfl, fun _ => rfl⟩ (Nat.zero_le _) (by omega) ?_ ?_) ?_))
      · have hm' : m < ag_N Γ ∧ ag_N Γ - 0 ≤ m := hm'
        exact absurd hm'.1 (by omega)
      · rintro i ⟨w6, w8, t⟩ hi ⟨e8, lt, hw6, hin, hz, hfx⟩
        have e8 : w8 = ao_dn (ag_N Γ) i := e8
        subst e8
        have lt : ag_one 36 σ t := lt
        have hin : ∀ v, v < 32 → ao_in False (ag_N Γ) (ag_fv Γ v) (ao_st s 36 v) (fun m => m < ag_N Γ ∧ ag_N Γ - i ≤ m) (ao_st t 36 v) := hin
        have hB := ag_one_B lt (by omega) h
        have hn : ag_N Γ - 1 - i < ag_N Γ := by omega
        obtain ⟨rd, erd, hrd⟩ := ag_reads hw hB hn
        obtain ⟨lb, elb, hlb⟩ := ag_liveBehind hB.1 hn
        show ao_ok (m_Rf_layLive_B38 t w6 (ao_dn (ag_N Γ) i)) _
        unfold m_Rf_layLive_B38
        rw [ao_dn_lt hi, if_neg (nI_pos (by omega))]
        refine ao_bde (ag_changed hw hB hn) (ao_bde erd (ao_bde elb ?_))
        have hK : ∀ cb, (∀ v, v < 32 → (ao_t cb v ↔ ag_ch Γ (ag_N Γ - 1 - i) = some v)) → ao_ok (m_Rf_layLive_J70 t w6 (nI (ag_N Γ - 1 - i)) rd lb cb) (Sum.elim (fun t => ag_LI σ Γ s (ag_N Γ) t.1 t.2) (fun t => t.2.1 = ao_dn (ag_N Γ) (i + 1) ∧ ag_LI σ Γ s (i + 1) t.1 t.2.2)) := by
          intro cb hcb
          have hx : ∀ v, v < 32 → (ao_t (rd ||| (lb &&& (cb ^^^ (-1)))) v ↔ ag_fv Γ v (ao_st t 36 v) (ag_N Γ - 1 - i)) := by
            intro v hv
            rw [ao_t_or, ao_t_and, ao_t_not hv, hrd v hv, hlb v hv, hcb v hv]
            unfold ag_fv ao_fLV ag_NC ao_st
            exact or_congr Iff.rfl and_comm
          have hJ : ∀ k0, (k0 = 0 ∨ k0 = 1) → (k0 = 0 → w6 = 0 ∧ rd ||| (lb &&& (cb ^^^ (-1))) = t.1 36 (ag_N Γ - 1 - i)) → ((∀ v, v < 32 → ao_fx (ag_N Γ) (ag_fv Γ v) (ao_st s 36 v)) → k0 = 0) → ao_ok (m_Rf_layLive_J96 t (nI (ag_N Γ - 1 - i)) (rd ||| (lb &&& (cb ^^^ (-1)))) k0) (Sum.elim (fun t => ag_LI σ Γ s (ag_N Γ) t.1 t.2) (fun t => t.2.1 = ao_dn (ag_N Γ) (i + 1) ∧ ag_LI σ Γ s (i + 1) t.1 t.2.2)) := by
            intro k0 hk hk0 hkf
            unfold m_Rf_layLive_J96
            rw [ao_gdn (by omega) (by omega), nI_clamp (by omega)]
            refine ao_let (ao_let (ao_inr ⟨ao_dn_s hi, ag_one_tr lt ag_one_s, hk, fun v hv => ao_in_v (ao_in_s (hm v) (hin v hv) hn (st' := ao_st (aw_sI t 36 (ag_N Γ - 1 - i) _) 36 v) ?_ ?_) ?_, fun z n hnn => ?_, hkf⟩))
            · show ao_t ((aw_sI t 36 (ag_N Γ - 1 - i) _).1 36 (ag_N Γ - 1 - i)) v ↔ _
              rw [ao_sI_s]; exact hx v hv
            · intro m _ hmn
              show ao_t ((aw_sI t 36 (ag_N Γ - 1 - i) _).1 36 m) v ↔ ao_t (t.1 36 m) v
              rw [ao_sI_i hmn]
            · intro m hm'
              have hm' : m < ag_N Γ ∧ ag_N Γ - (i + 1) ≤ m := hm'
              by_cases q : m = ag_N Γ - 1 - i
              · exact Or.inr q
              · exact Or.inl ⟨hm'.1, by omega⟩
            · obtain ⟨z1, z2⟩ := hk0 z
              show (aw_sI t 36 (ag_N Γ - 1 - i) _).1 36 n = _
              by_cases q : n = ag_N Γ - 1 - i
              · subst q; rw [ao_sI_s, z2]; exact hz z1 _ hn
              · rw [ao_sI_i q]; exact hz z1 n hnn
          have same : (∀ v, v < 32 → ao_fx (ag_N Γ) (ag_fv Γ v) (ao_st s 36 v)) → rd ||| (lb &&& (cb ^^^ (-1))) = t.1 36 (ag_N Γ - 1 - i) := fun hall => ao_t_ext fun v hv => (hx v hv).trans (ao_in_fx (hm v) (hin v hv) (hall v hv) _ hn)
          unfold m_Rf_layLive_J70
          refine ao_let (ao_if (fun q => ?_) (fun q => hJ 1 (Or.inr rfl) (fun z => absurd z (by decide)) (fun z => absurd (hfx z) q)))
          rw [ao_gdn (by omega) (by omega), nI_clamp (by omega)]
          exact ao_if (fun q2 => hJ 0 (Or.inl rfl) (fun _ => ⟨q, q2⟩) (fun _ => rfl)) (fun q2 => hJ 1 (Or.inr rfl) (fun z => absurd z (by decide)) (fun z => absurd (same z) q2))
        cases q : ag_ch Γ (ag_N Γ - 1 - i) with
        | none =>
          refine ao_ifp rfl (hK 0 (fun v hv => ?_))
          rw [q]
          exact ⟨fun z => absurd z ao_t_0, fun z => by cases z⟩
        | some x =>
          have hx := ag_ch_lt hw hn q
          refine ao_ifn (ao_m1 (by omega)) (hK _ (fun v hv => ?_))
          show ao_t ((1 : Int32) <<< (nI x &&& 31)) v ↔ _
          rw [ao_t_one (by omega) hv, q]
          exact ⟨fun z => by rw [z], fun z => (Option.some.inj z).symm⟩
      · rintro ⟨w6, w8, t⟩ ⟨e8, ht⟩
        have e8 : w8 = ao_dn (ag_N Γ) (ag_N Γ) := e8
        subst e8
        show ao_ok (m_Rf_layLive_B38 t w6 (ao_dn (ag_N Γ) (ag_N Γ))) _
        unfold m_Rf_layLive_B38
        rw [ao_dn_N, if_pos (by decide)]
        exact ao_inl ht
      · rintro ⟨w, t⟩ ⟨lt, hw6, hin, hz, hfx⟩
        have hin : ∀ v, v < 32 → ao_in False (ag_N Γ) (ag_fv Γ v) (ao_st s 36 v) (fun m => m < ag_N Γ ∧ ag_N Γ - ag_N Γ ≤ m) (ao_st t 36 v) := hin
        refine ao_inr ⟨lt, ?_, fun v hv => ?_⟩
        · rcases hw6 with q | q
          · exact Or.inl q
          · refine Or.inr ⟨q, ?_⟩
            have hr1 : r ≤ ag_N Γ + 1 := hv6.elim (fun z => absurd z h0) (fun z => z.2)
            refine Nat.le_of_not_lt fun hlt => ?_
            have hall : ∀ v, v < 32 → ao_fx (ag_N Γ) (ag_fv Γ v) (ao_st s 36 v) := fun v hv => (hR v hv).2.2.1.elim id (fun z => absurd z (by omega))
            exact absurd (q.symm.trans (hfx hall)) (by decide)
        · obtain ⟨q1, q2, q3, q4⟩ := ao_in_e (hm v) (hin v hv) (fun n hn => ⟨hn, by omega⟩)
          refine ⟨q1, q2, ?_, fun h6 => ?_⟩
          · rcases (hR v hv).2.2.1 with hf | hl
            · exact Or.inl (q4 hf)
            · rcases q3 with q3 | q3
              · exact Or.inr (show ao_cn False (ag_N Γ) (ao_st t 36 v) + (r + 1) ≤ ag_N Γ by omega)
              · exact Or.inl q3
          · refine ao_in_same (hm v) (hin v hv) (fun n hn => ⟨hn, by omega⟩) (fun m hm' => ?_)
            show ao_t (t.1 36 m) v ↔ ao_t (s.1 36 m) v
            rw [hz h6 m hm']
    · rintro ⟨v6, s⟩ ⟨hl, hv6, hR⟩
      have h0 : v6 = 0 := hv6.elim id (fun z => absurd z.2 (by omega))
      subst h0
      show ao_ok (m_Rf_layLive_B25 s 0) _
      unfold m_Rf_layLive_B25
      rw [if_pos rfl]
      exact ao_inl (ao_some ⟨hl, fun n hn v hv => ao_lf_L (ao_lf_of (hR v hv).2.1 ((hR v hv).2.2.2 rfl)) (fun _ _ _ => Iff.rfl) n hn⟩)

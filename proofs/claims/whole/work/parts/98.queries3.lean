/-! ===== QUERIES: dead ===== -/
def iq_DE (Γ : ag_T) (n : Nat) : Prop := ∃ v, ag_ch Γ n = some v ∧ (∀ e, ag_ex Γ n = some e → ¬ ag_RI Γ e) ∧ ¬ ∃ t, ao_ed (ag_nx Γ) n t ∧ ag_LV Γ v t
theorem iq_sshr {x : Int32} {v i : Nat} (hv : v < 32) (hi : i < 32) : ao_t ((x >>> (nI v &&& 31)) &&& 1) i ↔ i = 0 ∧ ao_t x v := by
  rw [ao_t_and, ao_t_1]
  unfold ao_t
  rw [b_sshr v hv x hi]
  constructor
  · rintro ⟨h1, h2⟩
    subst h2
    rw [if_pos (by omega)] at h1
    exact ⟨rfl, h1⟩
  · rintro ⟨h1, h2⟩
    subst h1
    rw [if_pos (by omega)]
    exact ⟨h2, rfl⟩
theorem iq_sshr_b {x : Int32} {v : Nat} (hv : v < 32) : (x >>> (nI v &&& 31)) &&& 1 = ao_b (ao_t x v) := ao_t_ext (fun i hi => by
  rw [iq_sshr hv hi, ao_t_b]
  exact ⟨fun z => ⟨z.2, z.1⟩, fun z => ⟨z.2, z.1⟩⟩)
theorem iq_ch {Γ : ag_T} (G : ag_wf Γ) {n : Nat} (hn : n < ag_N Γ) : (ag_ch Γ n = none ∧ ag_kd Γ n ≠ 1 ∧ ag_kd Γ n ≠ 2) ∨ (∃ v, v < 26 ∧ ag_ch Γ n = some v ∧ ((ag_kd Γ n = 1 ∧ ag_ex Γ n = none) ∨ (ag_kd Γ n = 2 ∧ ∃ e, e < ag_X Γ ∧ ag_ex Γ n = some e))) := by
  unfold ag_ch
  rcases G.2.2.2.2.2.1 n hn with z | z | z | z | z | z | z
  · exact Or.inl ⟨if_neg (by omega), by omega, by omega⟩
  · obtain ⟨v, hv, ev⟩ := z.2.2.1
    exact Or.inr ⟨v, hv, by rw [if_pos (by omega), ev], Or.inl ⟨z.1, z.2.2.2.2.1⟩⟩
  · obtain ⟨v, hv, ev⟩ := z.2.2.1
    exact Or.inr ⟨v, hv, by rw [if_pos (by omega), ev], Or.inr ⟨z.1, z.2.2.2.2.1⟩⟩
  · exact Or.inl ⟨if_neg (by omega), by omega, by omega⟩
  · exact Or.inl ⟨if_neg (by omega), by omega, by omega⟩
  · exact Or.inl ⟨if_neg (by omega), by omega, by omega⟩
  · exact Or.inl ⟨if_neg (by omega), by omega, by omega⟩
set_option maxHeartbeats 1000000 in
theorem iq_deadA {a : aw_S} {Γ : ag_T} (G : ag_wf Γ) (A : ag_AA a Γ) {n : Nat} (hn : n < ag_N Γ) : m_Fa_isDead a (nI n) = some (ao_b (iq_DE Γ n)) := by
  have hN := G.1.1
  have T := A.1.1
  unfold m_Fa_isDead
  rw [aw_bd_s (ag_changedAt G A.1 hn)]
  rcases iq_ch G hn with ⟨c1, _⟩ | ⟨v, hv, c1, c2⟩
  · rw [c1, if_pos (show ao_o none = (-1 : Int32) from rfl), ao_b0 (fun ⟨v, e, _⟩ => by rw [c1] at e; cases e)]
  · rw [c1, if_neg (show ¬ ao_o (some v) = (-1 : Int32) from ao_m1 (by omega)), ao_gdn (by omega) (by omega), nI_clamp (by omega), (A.1.2.1 n hn).2.2.2.2]
    have R : ∃ p : Prop, m_Ex_isRisky a 25 (ao_o (ag_ex Γ n)) = some (ao_b p) ∧ (p ↔ ∃ e, ag_ex Γ n = some e ∧ ag_RI Γ e) := by
      rcases c2 with ⟨_, e⟩ | ⟨_, e, he, ee⟩
      · refine ⟨False, ?_, ⟨fun z => z.elim, fun ⟨f, z, _⟩ => by rw [e] at z; cases z⟩⟩
        rw [e, ao_b0 id]
        exact ag_riskyA0 G A.1
      · refine ⟨ag_RI Γ e, by rw [ee]; exact ag_riskyA G A.1 he, ⟨fun z => ⟨e, ee, z⟩, fun ⟨f, z, w⟩ => by rw [ee] at z; cases z; exact w⟩⟩
    obtain ⟨p, r1, r2⟩ := R
    rw [aw_bd_s r1]
    by_cases q : p
    · rw [ao_b1 q, if_neg ao_n10, ao_b0 (fun ⟨w, e1, e2, _⟩ => by
        obtain ⟨e, e3, e4⟩ := r2.mp q
        exact e2 e e3 e4)]
    · rw [ao_b0 q, if_pos rfl]
      have key : ao_ok (aw_lp (fun s => m_Fa_isDead_B35 a (nI n) (ao_o (some v)) s.1 s.2) aw_fu ((0 : Int32), (0 : Int32))) (fun x => ∀ i, i < 32 → (ao_t x i ↔ ∃ t, ao_ed (ag_nx Γ) n t ∧ ag_LV Γ i t)) := by
        refine ao_for (ao_sl (ag_nx Γ) n).length (fun k (s : Int32 × Int32) => s.2 = nI k ∧ ∀ i, i < 32 → (ao_t s.1 i ↔ ∃ j t, j < k ∧ (ao_sl (ag_nx Γ) n)[j]? = some t ∧ ag_LV Γ i t)) (a := 0) ⟨rfl, fun i hi => ⟨fun z => absurd z ao_t_0, fun ⟨j, t, z, _⟩ => absurd z (Nat.not_lt_zero _)⟩⟩ (Nat.zero_le _) (by have := ao_sl_len2 (ag_nx Γ) n; omega) ?_ ?_
        · rintro k ⟨acc, x⟩ hk ⟨e1, hi⟩
          have e1 : x = nI k := e1
          subst e1
          have hk2 := ao_sl_len2 (ag_nx Γ) n
          obtain ⟨t, et⟩ : ∃ t, (ao_sl (ag_nx Γ) n)[k]? = some t := ⟨_, List.getElem?_eq_getElem hk⟩
          have htN := ao_ed_lt T.1 hn (ao_sl_mem.mp (List.mem_of_getElem? et))
          show ao_ok (m_Fa_isDead_B35 a (nI n) (ao_o (some v)) acc (nI k)) _
          unfold m_Fa_isDead_B35 m_Fa_isDead_J76
          rw [aw_bd_s (ao_leads T hn), if_neg (nI_ge hk (by omega)), aw_bd_s (ao_next T hn et), aw_bd_s (ao_isNode T.2.1 hN htN), if_neg ao_n10, ao_gdn (by omega) (by omega), nI_clamp (by omega)]
          refine ao_let (ao_let (ao_inr ⟨nI_1 k, fun i hi' => ?_⟩))
          show ao_t (acc ||| a.1 56 t) i ↔ _
          rw [ao_t_or, hi i hi', A.2.1.2.2.1 t htN i hi']
          constructor
          · rintro (⟨j, u, hj, eu, hu⟩ | hu)
            · exact ⟨j, u, by omega, eu, hu⟩
            · exact ⟨k, t, by omega, et, hu⟩
          · rintro ⟨j, u, hj, eu, hu⟩
            by_cases w : j = k
            · subst w
              rw [et] at eu
              cases eu
              exact Or.inr hu
            · exact Or.inl ⟨j, u, by omega, eu, hu⟩
        · rintro ⟨acc, x⟩ ⟨e1, hi⟩
          have e1 : x = nI (ao_sl (ag_nx Γ) n).length := e1
          subst e1
          have hk2 := ao_sl_len2 (ag_nx Γ) n
          show ao_ok (m_Fa_isDead_B35 a (nI n) (ao_o (some v)) acc (nI (ao_sl (ag_nx Γ) n).length)) _
          unfold m_Fa_isDead_B35
          rw [aw_bd_s (ao_leads T hn), if_pos (nI_le (Nat.le_refl _) (by omega))]
          refine ao_inl (fun i hi' => (hi i hi').trans ⟨fun ⟨j, t, _, et, ht⟩ => ⟨t, ao_sl_mem.mp (List.mem_of_getElem? et), ht⟩, fun ⟨t, et, ht⟩ => ?_⟩)
          obtain ⟨j, hj⟩ := List.mem_iff_getElem?.mp (ao_sl_mem.mpr et)
          exact ⟨j, t, (List.getElem?_eq_some_iff.mp hj).1, hj, ht⟩
      obtain ⟨x, ex, hx⟩ := key
      obtain ⟨r, er, hr⟩ := ag_letterBit (σ := a) v (by omega)
      rw [aw_bd_s ex, show ao_o (some v) = nI v from rfl, aw_bd_s er]
      have hz : (x &&& r = 0) ↔ iq_DE Γ n := by
        rw [ao_t_nz]
        constructor
        · intro z
          refine ⟨v, c1, fun e ee he => q (r2.mpr ⟨e, ee, he⟩), fun y => ?_⟩
          refine z v (by omega) ?_
          rw [ao_t_and]
          exact ⟨(hx v (by omega)).mpr y, (hr v (by omega)).mpr ⟨by omega, rfl⟩⟩
        · rintro ⟨w, e1, e2, e3⟩ i hi z
          rw [c1] at e1
          cases e1
          rw [ao_t_and] at z
          have := ((hr i hi).mp z.2).2
          subst this
          exact e3 ((hx _ hi).mp z.1)
      by_cases w : x &&& r = 0
      · rw [if_pos w, ao_b1 (hz.mp w)]
      · rw [if_neg w, ao_b0 (fun y => w (hz.mpr y))]
theorem iq_deadB {b : aw_S} {Γ : ag_T} (G : ag_wf Γ) (B : ag_BA b Γ) {n : Nat} (hn : n < ag_N Γ) : m_Rf_isDead b (nI n) = some (ao_b (iq_DE Γ n)) := by
  have hN := G.1.1
  have hk7 := ag_kd_lt (G.2.2.2.2.2.1 n hn)
  have J0 : m_Rf_isDead_J36 b (nI n) = some 0 := by
    unfold m_Rf_isDead_J36 m_Rf_isDead_J37
    rw [if_pos rfl]
  have J1 : ∀ v, v < 26 → ag_ch Γ n = some v → (∀ e, ag_ex Γ n = some e → ¬ ag_RI Γ e) → m_Rf_isDead_J37 b (nI n) 1 = some (ao_b (iq_DE Γ n)) := by
    intro v hv c1 c2
    obtain ⟨r, er, hr⟩ := ag_liveBehind (Γ := Γ) B.1.1 hn
    unfold m_Rf_isDead_J37
    rw [if_neg ao_n10, aw_bd_s er, aw_bd_s (ag_changed G B.1 hn), c1, show ao_o (some v) = nI v from rfl, iq_sshr_b (by omega)]
    have hz : ao_t r v ↔ ¬ iq_DE Γ n := by
      rw [hr v (by omega)]
      constructor
      · rintro ⟨t, et, ht⟩ ⟨w, e1, _, e3⟩
        rw [c1] at e1
        cases e1
        exact e3 ⟨t, et, (B.2.2.1 t (ao_ed_lt B.1.1.1 hn et) v (by omega)).mp ht⟩
      · intro z
        refine Classical.byContradiction fun y => z ⟨v, c1, c2, fun ⟨t, et, ht⟩ => y ⟨t, et, (B.2.2.1 t (ao_ed_lt B.1.1.1 hn et) v (by omega)).mpr ht⟩⟩
    by_cases w : iq_DE Γ n
    · rw [ao_b0 (fun y => hz.mp y w), if_pos rfl, ao_b1 w]
    · rw [ao_b1 (hz.mpr w), if_neg ao_n10, ao_b0 w]
  unfold m_Rf_isDead
  rw [ao_gdn (by omega) (by omega), ao_gdn (by omega) (by omega), nI_clamp (by omega), (B.1.2.1 n hn).1]
  rcases iq_ch G hn with ⟨c1, c2, c3⟩ | ⟨v, hv, c1, ⟨c2, c3⟩ | ⟨c2, e, he, c3⟩⟩
  · rw [if_neg (show ¬ nI (ag_kd Γ n) = (1 : Int32) from fun z => c2 ((ag_kI hk7 (b := 1) (by omega)).mp z)), if_neg (show ¬ nI (ag_kd Γ n) = (2 : Int32) from fun z => c3 ((ag_kI hk7 (b := 2) (by omega)).mp z)), J0, ao_b0 (fun ⟨v, e, _⟩ => by rw [c1] at e; cases e)]
  · rw [if_pos (show nI (ag_kd Γ n) = (1 : Int32) by rw [c2]; rfl)]
    exact J1 v hv c1 (fun e z => by rw [c3] at z; cases z)
  · rw [if_neg (show ¬ nI (ag_kd Γ n) = (1 : Int32) by rw [c2]; decide), if_pos (show nI (ag_kd Γ n) = (2 : Int32) by rw [c2]; rfl), aw_bd_s (ag_expressionOf G B.1 hn), c3, show ao_o (some e) = nI e from rfl, aw_bd_s (ag_isRisky G B.1 he)]
    by_cases q : ag_RI Γ e
    · rw [ao_b1 q, if_neg ao_n10, J0, ao_b0 (fun ⟨w, _, e2, _⟩ => e2 e c3 q)]
    · rw [ao_b0 q, if_pos rfl]
      exact J1 v hv c1 (fun f z => by rw [c3] at z; cases z; exact q)
theorem q_dead {a b : aw_S} (h : iq_P a b) (x : Int32) : iq_e (m_Mo_dead a x) (m_Rf_dead b x) := by
  unfold m_Mo_dead m_Rf_dead
  rcases h with h0 | ⟨Γ, G⟩
  · rw [h0.2.2.1]
    refine iq_rp rfl ?_
    refine iq_bl (ao_isNode0 (N := 0) h0.1.1 (by omega) iq_none0) (iq_lp rfl ?_)
    by_cases q : x = -1
    · rw [if_pos q]
      exact iq_bl (show m_Mo_isProgram a = some 0 by unfold m_Mo_isProgram; rw [h0.1.1, if_pos (by decide)]) (iq_lp rfl iq_r)
    · rw [if_neg q]; exact iq_r
  · have hN := G.1.1.1
    have A := G.2.1.1
    have B := G.2.2.1
    rw [G.2.2.2.2.2.2.2.2.2.2]
    refine iq_rn ao_n10 ?_
    by_cases q : x = -1
    · subst q
      refine iq_rp rfl ?_
      unfold m_Rf_dead_J23
      refine iq_bl (ao_isNode0 (N := ag_N Γ) A.1.2.1 hN (ag_m1_no (by omega))) (iq_lp rfl (iq_lp rfl (iq_bl (show m_Mo_isProgram a = some 1 by unfold m_Mo_isProgram; rw [A.1.2.1, if_neg (nI_nle G.1.2.1 (by omega))]) (iq_ln ao_n10 (iq_rp rfl ?_)))))
      refine iq_bl (iq_lpf (fun k => nI (ao_n (iq_DE Γ) k)) (N := ag_N Γ) (by omega) (fun k hk => ?_) ?_ rfl) (iq_br (iq_lpf (fun k => nI (ao_n (iq_DE Γ) k)) (N := ag_N Γ) (by omega) (fun k hk => ?_) ?_ rfl) iq_r)
      · show m_Mo_dead_B46 a (nI (ao_n (iq_DE Γ) k)) (nI k) = _
        unfold m_Mo_dead_B46
        rw [A.1.2.1, if_neg (nI_ge hk (by omega)), aw_bd_s (iq_deadA G.1 G.2.1 hk), aw_bd_s (iq_oneIf _ _), ao_ltr, ao_ltr, iq_n_s, nI_1]
      · show m_Mo_dead_B46 a _ (nI (ag_N Γ)) = _
        unfold m_Mo_dead_B46
        rw [A.1.2.1, if_pos (nI_le (Nat.le_refl _) (by omega))]
      · show m_Rf_dead_B46 b (nI (ao_n (iq_DE Γ) k)) (nI k) = _
        unfold m_Rf_dead_B46 m_Rf_dead_J68
        rw [B.1.2.1, if_neg (nI_ge hk (by omega)), aw_bd_s (iq_deadB G.1 G.2.2 hk)]
        by_cases w : iq_DE Γ k
        · rw [ao_b1 w, if_neg ao_n10, ao_ltr, ao_ltr, nI_1, nI_1, ao_n_s1 w]
        · rw [ao_b0 w, if_pos rfl, ao_ltr, ao_ltr, Int32.add_zero, nI_1, ao_n_s0 w]
      · show m_Rf_dead_B46 b _ (nI (ag_N Γ)) = _
        unfold m_Rf_dead_B46
        rw [B.1.2.1, if_pos (nI_le (Nat.le_refl _) (by omega))]
    · refine iq_rn q ?_
      by_cases w : ∃ n, n < ag_N Γ ∧ x = nI n
      · obtain ⟨n, hn, rfl⟩ := w
        refine iq_bl (ao_isNode A.1.2.1 hN hn) (iq_br (iq_node1 B.1.2.1 hn hN) (iq_ln ao_n10 (iq_rn ao_n10 ?_)))
        unfold m_Rf_dead_J23
        refine iq_rn q (iq_bl (iq_deadA G.1 G.2.1 hn) (iq_bl (iq_oneIf _ _) (iq_br (iq_deadB G.1 G.2.2 hn) ?_)))
        rw [iq_if01]
        exact iq_r
      · exact iq_bl (ao_isNode0 A.1.2.1 hN w) (iq_br (iq_node0 B.1.2.1 w hN) (iq_lp rfl (iq_rp rfl (iq_ln q iq_r))))

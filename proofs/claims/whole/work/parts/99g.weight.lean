/-! ===== what is computed at a node; weight ===== -/
def ru_it (Γ : ag_T) (how : Option Bool) (n : Nat) : Prop := ∃ e, ag_ex Γ n = some e ∧ ¬ ru_PU Γ how 1 e n
noncomputable def ru_w (Γ : ag_T) (how : Option Bool) (n : Nat) : Nat := ao_n (fun e => ru_PU Γ how 0 e n) (ag_X Γ) + @ite _ (ru_it Γ how n) (Classical.propDecidable _) 1 0
theorem ru_w_le {Γ : ag_T} (G : ag_wf Γ) (how : Option Bool) (n : Nat) : ru_w Γ how n ≤ 25 := by
  have hX := G.2.2.2.2.2.2.1
  have := ao_n_le (fun e => ru_PU Γ how 0 e n) (ag_X Γ)
  unfold ru_w
  by_cases q : ru_it Γ how n
  · rw [if_pos q]; omega
  · rw [if_neg q]; omega
theorem ru_k2 {Γ : ag_T} (G : ag_wf Γ) {n : Nat} (hn : n < ag_N Γ) : (ag_kd Γ n = 2 ∧ ∃ e, e < ag_X Γ ∧ ag_ex Γ n = some e) ∨ (ag_kd Γ n ≠ 2 ∧ ag_ex Γ n = none) := by
  rcases G.2.2.2.2.2.1 n hn with z | z | z | z | z | z | z
  · exact Or.inr ⟨by omega, z.2.2.2.2.1⟩
  · exact Or.inr ⟨by omega, z.2.2.2.2.1⟩
  · exact Or.inl ⟨z.1, z.2.2.2.2.1⟩
  · exact Or.inr ⟨by omega, z.2.2.2.2.1⟩
  · exact Or.inr ⟨by omega, z.2.2.2.2.1⟩
  · exact Or.inr ⟨by omega, z.2.2.2.2.1⟩
  · exact Or.inr ⟨by omega, z.2.2.2.2.1⟩
theorem ru_workAt {s : aw_S} {Γ : ag_T} (G : ag_wf Γ) (A : ag_A s Γ) {how : Option Bool} (M : ru_M s Γ how) {n : Nat} (hn : n < ag_N Γ) : m_Pl_computedAt s (ru_by how) (nI n) = some (nI (ru_w Γ how n)) := by
  have hN := G.1.1
  have hX := G.2.2.2.2.2.2.1
  have hk7 := ag_kd_lt (G.2.2.2.2.2.1 n hn)
  have J : ∀ p : Prop, m_Pl_computedAt_J24 s (ru_by how) (nI n) (ao_b p) = some (nI (ao_n (fun e => ru_PU Γ how 0 e n) (ag_X Γ) + @ite _ p (Classical.propDecidable _) 1 0)) := by
    intro p
    unfold m_Pl_computedAt_J24
    rw [ao_gdn (by omega) (by omega), nI_clamp (by omega), aw_bd_s (iq_bc (P := fun e => ru_PU Γ how 0 e n) s (by omega) (M 0 (by omega) n hn)), aw_bd_s (iq_oneIf _ _), ao_b_n, nI_add]
  unfold m_Pl_computedAt m_Pl_computedAt_J23 ru_w
  rw [ao_gdn (by omega) (by omega), ao_gdn (by omega) (by omega), nI_clamp (by omega), (A.2.1 n hn).1]
  rcases ru_k2 G hn with ⟨k2, e, he, ee⟩ | ⟨k2, ee⟩
  · rw [if_pos (show nI (ag_kd Γ n) = (2 : Int32) by rw [k2]; rfl)]
    have rep := ru_rep M hn he hX ee
    have hit : ru_it Γ how n ↔ ¬ ru_PU Γ how 1 e n := ⟨fun ⟨f, ef, hf⟩ => by rw [ee] at ef; cases ef; exact hf, fun z => ⟨e, ee, z⟩⟩
    by_cases q : s.1 (ru_by how + 2) n = 0
    · have := J True
      rw [ao_b1 trivial] at this
      rw [if_pos q, this, if_pos trivial, if_pos (hit.mpr (rep.mp q))]
    · have := J False
      rw [ao_b0 id] at this
      rw [if_neg q, this, if_neg id, if_neg (fun z => q (rep.mpr (hit.mp z)))]
  · have := J False
    rw [ao_b0 id] at this
    rw [if_neg (show ¬ nI (ag_kd Γ n) = (2 : Int32) from fun z => k2 ((ag_kI hk7 (b := 2) (by omega)).mp z)), this, if_neg id, if_neg (fun ⟨f, ef, _⟩ => by rw [ee] at ef; cases ef)]
theorem ru_costs {b t : aw_S} {Γ : ag_T} (G : ag_wf Γ) (B : ag_BA b Γ) (Bt : ag_B t Γ) (e13 : t.1 13 = b.1 13) (how : Option Bool) {n : Nat} (hn : n < ag_N Γ) : m_Rf_costs t (nI n) (ru_hI how) = some (nI (ru_w Γ how n)) := by
  have hN := G.1.1
  have hX := G.2.2.2.2.2.2.1
  have hk7 := ag_kd_lt (G.2.2.2.2.2.1 n hn)
  have g2 : m_Rf_get t 2 = some (nI (ag_X Γ)) := by rw [show (2 : Int32) = nI 2 from rfl, ag_get (by omega), Bt.2.2.2.2.2.2.1]
  have J : ∀ k0, m_Rf_costs_J39 t (nI n) (ru_hI how) (nI k0) = some (nI (k0 + ao_n (fun e => ru_PU Γ how 0 e n) (ag_X Γ))) := by
    intro k0
    unfold m_Rf_costs_J39
    cases how with
    | none =>
      have z : ∀ m, ao_n (fun e => ru_PU Γ none 0 e n) m = 0 := fun m => by
        induction m with
        | zero => rfl
        | succ m ih => rw [ao_n_s0 (X := fun e => ru_PU Γ none 0 e n) id, ih]
      rw [z]
      refine aw_bd_s (iq_lpf (fun _ => nI k0) (N := 0) (by omega) (fun k hk => absurd hk (Nat.not_lt_zero _)) ?_ rfl)
      show m_Rf_costs_B43 t (nI n) (-1) (nI k0) (nI 0) = _
      unfold m_Rf_costs_B43
      rw [aw_bd_s g2, if_pos rfl]
      by_cases q : nI (ag_X Γ) ≤ nI 0
      · rw [if_pos q]
      · rw [if_neg q]
    | some h =>
      refine aw_bd_s (iq_lpf (fun k => nI (k0 + ao_n (fun e => ru_PU Γ (some h) 0 e n) k)) (N := ag_X Γ) (by omega) (fun k hk => ?_) ?_ rfl)
      · obtain ⟨p1, p2, p3⟩ := iq_plB (how := h) (w := 0) G B (by omega) hk hn
        have p1' : m_Rf_at t (ru_hI (some h)) 0 (nI k) (nI n) = some (nI (ao_c (3 * ag_hi h + 0) k + n)) := p1
        show m_Rf_costs_B43 t (nI n) (ru_hI (some h)) (nI (k0 + ao_n (fun e => ru_PU Γ (some h) 0 e n) k)) (nI k) = _
        unfold m_Rf_costs_B43 m_Rf_costs_J80
        rw [aw_bd_s g2, if_neg (nI_ge hk (by omega)), if_neg (show ¬ ru_hI (some h) = -1 by cases h <;> decide), aw_bd_s p1', ao_gdn p2 (by omega), nI_clamp (by omega), e13, p3]
        by_cases q : ag_P Γ k h 0 n
        · rw [ao_b1 q, if_neg ao_n10, ao_ltr, ao_ltr, nI_1, nI_1, ao_n_s1 (X := fun e => ru_PU Γ (some h) 0 e n) q]
          rfl
        · rw [ao_b0 q, if_pos rfl, ao_ltr, ao_ltr, Int32.add_zero, nI_1, ao_n_s0 (X := fun e => ru_PU Γ (some h) 0 e n) q]
      · show m_Rf_costs_B43 t (nI n) (ru_hI (some h)) _ (nI (ag_X Γ)) = _
        unfold m_Rf_costs_B43
        rw [aw_bd_s g2, if_pos (nI_le (Nat.le_refl _) (by omega))]
  have J0 := J 0
  have J1 := J 1
  rw [show nI 0 = (0 : Int32) from rfl, Nat.zero_add] at J0
  rw [show nI 1 = (1 : Int32) from rfl, Nat.add_comm] at J1
  unfold m_Rf_costs m_Rf_costs_J38 ru_w
  rw [ao_gdn (by omega) (by omega), nI_clamp (by omega), (Bt.2.1 n hn).1]
  rcases ru_k2 G hn with ⟨k2, e, he, ee⟩ | ⟨k2, ee⟩
  · rw [if_pos (show nI (ag_kd Γ n) = (2 : Int32) by rw [k2]; rfl)]
    have hit : ru_it Γ how n ↔ ¬ ru_PU Γ how 1 e n := ⟨fun ⟨f, ef, hf⟩ => by rw [ee] at ef; cases ef; exact hf, fun z => ⟨e, ee, z⟩⟩
    cases how with
    | none => rw [if_pos (show ru_hI none = -1 from rfl), J1, if_pos (hit.mpr id)]
    | some h =>
      obtain ⟨p1, p2, p3⟩ := iq_plB (how := h) (w := 1) G B (by omega) he hn
      have p1' : m_Rf_at t (ru_hI (some h)) 1 (nI e) (nI n) = some (nI (ao_c (3 * ag_hi h + 1) e + n)) := p1
      rw [if_neg (show ¬ ru_hI (some h) = -1 by cases h <;> decide), aw_bd_s (ag_expressionOf G Bt hn), ee, show ao_o (some e) = nI e from rfl, aw_bd_s p1', ao_gdn p2 (by omega), nI_clamp (by omega), e13, p3]
      by_cases q : ag_P Γ e h 1 n
      · rw [ao_b1 q, if_neg ao_n10, J0, if_neg (fun z => hit.mp z q)]
        rfl
      · rw [ao_b0 q, if_pos rfl, J1, if_pos (hit.mpr q)]
  · rw [if_neg (show ¬ nI (ag_kd Γ n) = (2 : Int32) from fun z => k2 ((ag_kI hk7 (b := 2) (by omega)).mp z)), J0, if_neg (fun ⟨f, ef, _⟩ => by rw [ee] at ef; cases ef)]
    rfl
/-! ===== what can be run ===== -/
theorem iq_hI3 (x : Int32) : (∃ how, x = ru_hI how) ∨ (¬ x = -1 ∧ ¬ x = 0 ∧ ¬ x = 1) := by
  by_cases h : x = -1
  · exact Or.inl ⟨none, h⟩
  · rcases iq_how x with ⟨how, e⟩ | ⟨h0, h1⟩
    · exact Or.inl ⟨some how, e⟩
    · exact Or.inr ⟨h, h0, h1⟩
theorem iq_runs {a b : aw_S} (h : iq_P a b) (x : Int32) : (∃ Γ how, iq_G a b Γ ∧ x = ru_hI how ∧ m_Mo_isRunnable a x = some 1 ∧ m_Rf_canRun b x = some 1 ∧ m_Mo_placementBy a x = some (ru_by how)) ∨ (m_Mo_isRunnable a x = some 0 ∧ m_Rf_canRun b x = some 0) := by
  unfold m_Mo_isRunnable m_Rf_canRun
  rcases iq_pr h with ⟨p1, p2, _⟩ | ⟨Γ, G, p1, p2⟩
  · exact Or.inr ⟨by rw [aw_bd_s p1, if_pos rfl], by rw [p2, if_pos rfl]⟩
  · rw [aw_bd_s p1, if_neg ao_n10, p2, if_neg ao_n10]
    have s1 : a.1 41 12 = ao_b (ag_sound Γ) := G.2.1.2.1.2.2.2
    have s2 : b.1 0 16 = ao_b (ag_sound Γ) := G.2.2.2.2.2.2.2.2.2.1
    rcases iq_hI3 x with ⟨how, rfl⟩ | ⟨h1, h2, h3⟩
    · have hin : m_Rf_isIn b (ru_hI how) (-1) 1 = some 1 := by
        unfold m_Rf_isIn
        cases how with
        | none => rw [if_neg (by decide), if_neg (by decide)]
        | some h => cases h <;> rw [if_neg (by decide), if_neg (by decide)]
      rw [aw_bd_s hin, if_neg ao_n10]
      cases how with
      | none =>
        refine Or.inl ⟨Γ, none, G, rfl, if_pos rfl, if_pos rfl, ?_⟩
        unfold m_Mo_placementBy
        rw [show ru_hI none = -1 from rfl, if_neg (by decide), if_neg (by decide)]
        rfl
      | some h =>
        have ne : ¬ ru_hI (some h) = -1 := by cases h <;> decide
        rw [if_neg ne, if_neg ne]
        by_cases q : ag_sound Γ
        · refine Or.inl ⟨Γ, some h, G, rfl, ?_, ?_, iq_by a h⟩
          · show aw_bd (m_Mo_isMoved a (iq_hI h)) _ = _
            rw [aw_bd_s (iq_isMoved1 (by rw [s1, ao_b1 q]) h), if_neg ao_n10]
          · rw [s2, ao_b1 q, if_neg ao_n10]
        · refine Or.inr ⟨?_, ?_⟩
          · rw [aw_bd_s (iq_isMoved0 (Or.inl (by rw [s1, ao_b0 q]))), if_pos rfl]
          · rw [s2, ao_b0 q, if_pos rfl]
    · have hin : m_Rf_isIn b x (-1) 1 = some 0 := by
        unfold m_Rf_isIn
        by_cases q : x < -1
        · rw [if_pos q]
        · rw [if_neg q]
          by_cases w : 1 < x
          · rw [if_pos w]
          · exfalso
            have hle : ∀ y z : Int32, ¬ y < z → z.toInt ≤ y.toInt := fun y z hyz => by
              have := mt Int32.lt_iff_toInt_lt.mpr hyz
              omega
            have q1 := hle _ _ q
            have w1 := hle _ _ w
            have e1 : (-1 : Int32).toInt = -1 := by decide
            have e2 : (1 : Int32).toInt = 1 := by decide
            rw [e1] at q1
            rw [e2] at w1
            rcases (show x.toInt = -1 ∨ x.toInt = 0 ∨ x.toInt = 1 by omega) with z | z | z
            · exact h1 (Int32.toInt_inj.mp (by rw [z, e1]))
            · exact h2 (Int32.toInt_inj.mp (by rw [z]; decide))
            · exact h3 (Int32.toInt_inj.mp (by rw [z, e2]))
      rw [aw_bd_s hin, if_pos rfl, if_neg h1]
      exact Or.inr ⟨by rw [aw_bd_s (iq_isMoved0 (Or.inr ⟨h2, h3⟩)), if_pos rfl], rfl⟩
/-! ===== weight ===== -/
theorem iq_lpg {α : Type} {f : α × Int32 → Option (α ⊕ (α × Int32))} (A : Nat → α) {N : Nat} (hN : N < 4294967295) (hs : ∀ k, k < N → f (A k, nI k) = some (.inr (A (k + 1), nI (k + 1)))) (he : f (A N, nI N) = some (.inl (A N))) {x0 : α} (h0 : x0 = A 0) : aw_lp f aw_fu (x0, 0) = some (A N) := by
  have key : ao_ok (aw_lp f aw_fu (x0, 0)) (fun r => r = A N) := by
    refine ao_for N (fun k (s : α × Int32) => s = (A k, nI k)) (a := 0) (by rw [h0]; rfl) (Nat.zero_le _) hN (fun k s hk e => ?_) (fun s e => ?_)
    · subst e; rw [hs k hk]; exact ao_inr rfl
    · subst e; rw [he]; exact ao_inl rfl
  obtain ⟨r, e, h⟩ := key
  rw [e, h]
def iq_pw : Nat → Int64
  | 0 => 1
  | n + 1 => iq_pw n * 10
noncomputable def iq_we (Γ : ag_T) (how : Option Bool) : Nat → Int64
  | 0 => 0
  | n + 1 => iq_we Γ how n + (nI (ru_w Γ how n)).toInt64 * iq_pw (min (ao_DP (ag_N Γ) (ag_nx Γ) n) 4)
theorem iq_pwA (a : aw_S) {d : Nat} (hd : d ≤ 112) : m_Mo_powerOfTen a (nI d) = some (iq_pw (min d 4)) := by
  unfold m_Mo_powerOfTen
  refine aw_bd_s (iq_lpg iq_pw (N := min d 4) (by omega) (fun k hk => ?_) ?_ rfl)
  · show m_Mo_powerOfTen_B4 a (nI d) (iq_pw k) (nI k) = _
    unfold m_Mo_powerOfTen_B4
    rw [if_neg (nI_ge (by omega) (by omega)), if_neg (show ¬ (4 : Int32) ≤ nI k from nI_ge (b := 4) (by omega) (by omega)), ao_ltr, ao_ltr, nI_1]
    rfl
  · show m_Mo_powerOfTen_B4 a (nI d) _ (nI (min d 4)) = _
    unfold m_Mo_powerOfTen_B4
    by_cases q : d ≤ 4
    · rw [show min d 4 = d by omega, if_pos (nI_le (Nat.le_refl _) (by omega))]
    · rw [show min d 4 = 4 by omega, if_neg (nI_ge (by omega) (by omega)), if_pos (by decide)]
theorem iq_leastB (b : aw_S) {d : Nat} (hd : d ≤ 112) : m_Rf_least b (nI d) 4 = some (nI (min d 4)) := by
  unfold m_Rf_least
  by_cases q : 4 ≤ d
  · rw [if_pos (show (4 : Int32) ≤ nI d from nI_le (a := 4) q (by omega)), show min d 4 = 4 by omega]
    rfl
  · rw [if_neg (show ¬ (4 : Int32) ≤ nI d from nI_ge (b := 4) (by omega) (by omega)), show min d 4 = d by omega]
def iq_e8 (a b : Option Int64) : Prop := ∃ r, a = some r ∧ b = some r
theorem q_weight {a b : aw_S} (h : iq_P a b) (h0 : ∀ n, n < 128 → a.1 64 n = 0 ∧ a.1 65 n = 0) (x : Int32) : iq_e8 (m_Mo_weight a x) (m_Rf_weight b x) := by
  unfold m_Mo_weight m_Rf_weight
  rcases iq_runs h x with ⟨Γ, how, G, rfl, e1, e2, e3⟩ | ⟨e1, e2⟩
  · have hN := G.1.1.1
    have A := G.2.1.1
    have B := G.2.2.1
    have M := ru_M_of G.2.1 h0 hN how
    have hd : ∀ n, ao_DP (ag_N Γ) (ag_nx Γ) n ≤ 112 := fun n => Nat.le_trans (ao_n_le _ _) hN
    rw [aw_bd_s e1, if_neg ao_n10, aw_bd_s e3, aw_bd_s e2, if_neg ao_n10]
    have hA : aw_lp (fun s => m_Mo_weight_B23 a (ru_by how) s.1 s.2) aw_fu ((0 : Int64), (0 : Int32)) = some (iq_we Γ how (ag_N Γ)) := by
      refine iq_lpg (iq_we Γ how) (N := ag_N Γ) (by omega) (fun k hk => ?_) ?_ rfl
      · show m_Mo_weight_B23 a (ru_by how) (iq_we Γ how k) (nI k) = _
        unfold m_Mo_weight_B23
        rw [A.1.2.1, if_neg (nI_ge hk (by omega)), aw_bd_s (ru_workAt G.1 A M hk), ao_gdn (by omega) (by omega), nI_clamp (by omega), G.2.1.2.2.1.2.1 k hk, aw_bd_s (iq_pwA a (hd k)), ao_ltr, ao_ltr, nI_1]
        rfl
      · show m_Mo_weight_B23 a (ru_by how) _ (nI (ag_N Γ)) = _
        unfold m_Mo_weight_B23
        rw [A.1.2.1, if_pos (nI_le (Nat.le_refl _) (by omega))]
    have hB : aw_lp (fun s => m_Rf_weight_B17 b (ru_hI how) s.1 s.2) aw_fu ((0 : Int64), (0 : Int32)) = some (iq_we Γ how (ag_N Γ)) := by
      refine iq_lpg (iq_we Γ how) (N := ag_N Γ) (by omega) (fun k hk => ?_) ?_ rfl
      · show m_Rf_weight_B17 b (ru_hI how) (iq_we Γ how k) (nI k) = _
        unfold m_Rf_weight_B17
        have inner : aw_lp (fun s => m_Rf_weight_B32 b (ru_hI how) (iq_we Γ how k) (nI k) s.1 s.2) aw_fu ((1 : Int64), (0 : Int32)) = some (iq_pw (min (ao_DP (ag_N Γ) (ag_nx Γ) k) 4)) := by
          refine iq_lpg iq_pw (N := min (ao_DP (ag_N Γ) (ag_nx Γ) k) 4) (by omega) (fun j hj => ?_) ?_ rfl
          · show m_Rf_weight_B32 b (ru_hI how) (iq_we Γ how k) (nI k) (iq_pw j) (nI j) = _
            unfold m_Rf_weight_B32
            rw [ao_gdn (by omega) (by omega), nI_clamp (by omega), G.2.2.2.2.2.2.1 k hk, aw_bd_s (iq_leastB b (hd k)), if_neg (nI_ge hj (by omega)), ao_ltr, ao_ltr, nI_1]
            rfl
          · show m_Rf_weight_B32 b (ru_hI how) (iq_we Γ how k) (nI k) _ (nI (min (ao_DP (ag_N Γ) (ag_nx Γ) k) 4)) = _
            unfold m_Rf_weight_B32
            rw [ao_gdn (by omega) (by omega), nI_clamp (by omega), G.2.2.2.2.2.2.1 k hk, aw_bd_s (iq_leastB b (hd k)), if_pos (nI_le (Nat.le_refl _) (by omega))]
        rw [B.1.2.1, if_neg (nI_ge hk (by omega)), aw_bd_s inner, aw_bd_s (ru_costs G.1 G.2.2 B rfl how hk), ao_ltr, ao_ltr, nI_1]
        rfl
      · show m_Rf_weight_B17 b (ru_hI how) _ (nI (ag_N Γ)) = _
        unfold m_Rf_weight_B17
        rw [B.1.2.1, if_pos (nI_le (Nat.le_refl _) (by omega))]
    rw [aw_bd_s hA, aw_bd_s hB]
    exact ⟨_, rfl, rfl⟩
  · rw [aw_bd_s e1, if_pos rfl, aw_bd_s e2, if_pos rfl]
    exact ⟨_, rfl, rfl⟩

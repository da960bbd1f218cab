/-! ===== WAYS: the class counts what ended; the whole ===== -/
/-- what has ended, in the class -/
def wa_AA (s : aw_S) (y : Nat × Nat × Nat) : Prop := s.2.1 97 7 = lN y.1 ∧ (y.1 ≠ 0 → s.1 97 8 = nI y.2.1 ∧ s.1 97 9 = nI y.2.2)
set_option maxHeartbeats 2000000 in
theorem wa_arrive {a : aw_S} {Γ : ag_T} (G : ag_wf Γ) (A : ag_A a Γ) {how : Option Bool} {M : Nat} (hM : M + 100 < 2 ^ 31) {z : wa_T} (hz : wa_b M z) {s : aw_S} {c l h c' l' h' : Nat} (K : wa_K a Γ how z s c l h c' l' h') {y : Nat × Nat × Nat} (hy : wa_ab M y) (hA : wa_AA s y) : ao_ok (m_Wa_endWaysAtLast s) (fun t => wa_K a Γ how z t c l h c' l' h' ∧ wa_AA t (wa_a (ag_nx Γ) z (ag_N Γ) y)) := by
  have hN := G.1.1
  have hb := wa_a_b (nx := ag_nx Γ) hz hy
  unfold m_Wa_endWaysAtLast
  refine ao_bd (ao_imp (ao_for (ag_N Γ) (fun k (u : Int32 × aw_S) => u.1 = nI k ∧ wa_K a Γ how z u.2 c l h c' l' h' ∧ wa_AA u.2 (wa_a (ag_nx Γ) z k y)) (Q := fun t => wa_K a Γ how z t c l h c' l' h' ∧ wa_AA t (wa_a (ag_nx Γ) z (ag_N Γ) y)) (a := 0) ⟨rfl, K, hA⟩ (Nat.zero_le _) (by omega) ?_ ?_) (fun t ht => ao_some ht))
  · rintro k ⟨x, u⟩ hk ⟨e1, Ku, Au⟩
    have e1 : x = nI k := e1
    subst e1
    have Ku : wa_K a Γ how z u c l h c' l' h' := Ku
    have Au : wa_AA u (wa_a (ag_nx Γ) z k y) := Au
    obtain ⟨b1, b2, b3⟩ := hb k
    obtain ⟨c1, c2, c3⟩ := hz k
    obtain ⟨Y, hq, hr, W, H⟩ := id Ku
    unfold wa_q at hq
    obtain ⟨r1, r2, r3, _⟩ := hr
    have Tu := (wa_yA_A Y A).1
    have ec := (H k hk).1
    have step : wa_a (ag_nx Γ) z (k + 1) y = if z.1 k = 0 ∨ ag_nx Γ (2 * k) ≠ none then wa_a (ag_nx Γ) z k y else (min wa_many ((wa_a (ag_nx Γ) z k y).1 + z.1 k), if (wa_a (ag_nx Γ) z k y).1 = 0 then z.2.1 k else min (wa_a (ag_nx Γ) z k y).2.1 (z.2.1 k), if (wa_a (ag_nx Γ) z k y).1 = 0 then z.2.2 k else max (wa_a (ag_nx Γ) z k y).2.2 (z.2.2 k)) := rfl
    have lenz : nI (ao_sl (ag_nx Γ) k).length = 0 ↔ ag_nx Γ (2 * k) = none := by
      have := ao_sl_len2 (ag_nx Γ) k
      rw [← ao_sl_0 G.1 hk]
      exact nI_eq (b := 0) (by omega) (by omega)
    show ao_ok (m_Wa_endWaysAtLast_B2 u (nI k)) _
    unfold m_Wa_endWaysAtLast_B2
    rw [Tu.2.1, if_neg (nI_ge hk (by omega)), aw_bd_s r1, aw_gd_t (show c = 99 ∨ c = 102 by omega), ao_gdn (by omega) (by omega), nI_clamp (by omega), ec]
    have skip : (z.1 k = 0 ∨ ag_nx Γ (2 * k) ≠ none) → ao_ok (m_Wa_endWaysAtLast_J120 u (nI k)) (Sum.elim (fun t => wa_K a Γ how z t c l h c' l' h' ∧ wa_AA t (wa_a (ag_nx Γ) z (ag_N Γ) y)) (fun u' => u'.1 = nI (k + 1) ∧ wa_K a Γ how z u'.2 c l h c' l' h' ∧ wa_AA u'.2 (wa_a (ag_nx Γ) z (k + 1) y))) := by
      intro q
      unfold m_Wa_endWaysAtLast_J120
      refine ao_let (ao_inr ⟨nI_1 k, Ku, ?_⟩)
      rw [step, if_pos q]
      exact Au
    by_cases q : z.1 k = 0
    · rw [if_pos ((wa_le0 (by omega)).mpr q)]
      exact skip (Or.inl q)
    · rw [if_neg (fun w => q ((wa_le0 (by omega)).mp w)), aw_bd_s (ao_leads Tu hk)]
      by_cases e : ag_nx Γ (2 * k) = none
      · rw [if_pos (lenz.mpr e)]
        obtain ⟨z1, z2⟩ := (H k hk).2 q
        have hstep : wa_a (ag_nx Γ) z (k + 1) y = (min wa_many ((wa_a (ag_nx Γ) z k y).1 + z.1 k), if (wa_a (ag_nx Γ) z k y).1 = 0 then z.2.1 k else min (wa_a (ag_nx Γ) z k y).2.1 (z.2.1 k), if (wa_a (ag_nx Γ) z k y).1 = 0 then z.2.2 k else max (wa_a (ag_nx Γ) z k y).2.2 (z.2.2 k)) := by
          rw [step, if_neg (fun w => w.elim q (fun w => w e))]
        -- the least, the most, how many
        have J96 : ∀ v w : Nat, v = (wa_a (ag_nx Γ) z (k + 1) y).2.1 → w = (wa_a (ag_nx Γ) z (k + 1) y).2.2 → ao_ok (m_Wa_endWaysAtLast_J96 (aw_sI u 97 8 (nI v)) (nI k) (nI w)) (Sum.elim (fun t => wa_K a Γ how z t c l h c' l' h' ∧ wa_AA t (wa_a (ag_nx Γ) z (ag_N Γ) y)) (fun u' => u'.1 = nI (k + 1) ∧ wa_K a Γ how z u'.2 c l h c' l' h' ∧ wa_AA u'.2 (wa_a (ag_nx Γ) z (k + 1) y))) := by
          intro v w hv hw
          unfold m_Wa_endWaysAtLast_J96 m_Wa_endWaysAtLast_J120
          refine ao_let ?_
          have e1 : (aw_sI (aw_sI u 97 8 (nI v)) 97 9 (nI w)).2.2 97 1 = some c := r1
          have e2 : (aw_sI (aw_sI u 97 8 (nI v)) 97 9 (nI w)).2.1 97 7 = lN (wa_a (ag_nx Γ) z k y).1 := Au.1
          have e3 : (aw_sI (aw_sI u 97 8 (nI v)) 97 9 (nI w)).2.1 c k = lN (z.1 k) := ec
          rw [aw_bd_s e1, aw_gd_t (show c = 99 ∨ c = 102 by omega), ao_gdn (by omega) (by omega), nI_clamp (by omega), e2, e3, lN_add, wa_mnL (by omega)]
          refine ao_let (ao_let (ao_inr ⟨nI_1 k, ⟨wa_yA_L (wa_yA_I (wa_yA_I Y (by omega)) (by omega)) (by omega), Ku.2.1, Ku.2.2.1, fun n hn => ?_, wa_H_c H (wa_sL_o (by omega)) ?_ ?_⟩, ?_, fun _ => ⟨?_, ?_⟩⟩))
          · show (aw_sI (aw_sI u 97 8 (nI v)) 97 9 (nI w)).1 98 n = _
            rw [ao_sI_o (by omega), ao_sI_o (by omega)]; exact W n hn
          · show (aw_sI (aw_sI u 97 8 (nI v)) 97 9 (nI w)).1 l = _
            rw [ao_sI_o (by omega), ao_sI_o (by omega)]
          · show (aw_sI (aw_sI u 97 8 (nI v)) 97 9 (nI w)).1 h = _
            rw [ao_sI_o (by omega), ao_sI_o (by omega)]
          · show (aw_sL (aw_sI (aw_sI u 97 8 (nI v)) 97 9 (nI w)) 97 7 (lN (min wa_many ((wa_a (ag_nx Γ) z k y).1 + z.1 k)))).2.1 97 7 = _
            rw [wa_sL_s, hstep]
          · show (aw_sI (aw_sI u 97 8 (nI v)) 97 9 (nI w)).1 97 8 = _
            rw [ao_sI_i (by omega), ao_sI_s, hv]
          · show (aw_sI (aw_sI u 97 8 (nI v)) 97 9 (nI w)).1 97 9 = _
            rw [ao_sI_s, hw]
        have J61 : ∀ v : Nat, v = (wa_a (ag_nx Γ) z (k + 1) y).2.1 → ao_ok (m_Wa_endWaysAtLast_J61 u (nI k) (nI v)) (Sum.elim (fun t => wa_K a Γ how z t c l h c' l' h' ∧ wa_AA t (wa_a (ag_nx Γ) z (ag_N Γ) y)) (fun u' => u'.1 = nI (k + 1) ∧ wa_K a Γ how z u'.2 c l h c' l' h' ∧ wa_AA u'.2 (wa_a (ag_nx Γ) z (k + 1) y))) := by
          intro v hv
          unfold m_Wa_endWaysAtLast_J61
          refine ao_let ?_
          have e3 : (aw_sI u 97 8 (nI v)).2.2 97 3 = some h := r3
          have e7 : (aw_sI u 97 8 (nI v)).2.1 97 7 = lN (wa_a (ag_nx Γ) z k y).1 := Au.1
          have eh : (aw_sI u 97 8 (nI v)).1 h k = nI (z.2.2 k) := by rw [ao_sI_o (by omega)]; exact z2
          rw [e7, aw_bd_s e3, aw_bd_s e3, aw_gd_t (show h = 101 ∨ h = 104 by omega), aw_gd_t (show h = 101 ∨ h = 104 by omega), ao_gdn (by omega) (by omega), ao_gdn (by omega) (by omega), nI_clamp (by omega), eh]
          by_cases g : (wa_a (ag_nx Γ) z k y).1 = 0
          · rw [if_pos ((wa_l0 (by omega)).mpr g)]
            exact J96 v _ hv (by rw [hstep]; show _ = if _ then _ else _; rw [if_pos g])
          · rw [if_neg (fun w => g ((wa_l0 (by omega)).mp w)), ao_sI_i (show 9 ≠ 8 by omega), (Au.2 g).2, ag_mx_I (by omega) (by omega)]
            exact J96 v _ hv (by rw [hstep]; show _ = if _ then _ else _; rw [if_neg g])
        rw [Au.1, aw_bd_s r2, aw_bd_s r2, aw_gd_t (show l = 100 ∨ l = 103 by omega), aw_gd_t (show l = 100 ∨ l = 103 by omega), ao_gdn (by omega) (by omega), ao_gdn (by omega) (by omega), z1]
        by_cases g : (wa_a (ag_nx Γ) z k y).1 = 0
        · rw [if_pos ((wa_l0 (by omega)).mpr g)]
          exact J61 _ (by rw [hstep]; show _ = if _ then _ else _; rw [if_pos g])
        · rw [if_neg (fun w => g ((wa_l0 (by omega)).mp w)), (Au.2 g).1, wa_mn (by omega) (by omega)]
          exact J61 _ (by rw [hstep]; show _ = if _ then _ else _; rw [if_neg g])
      · rw [if_neg (fun w => e (lenz.mp w))]
        exact skip (Or.inr e)
  · rintro ⟨x, u⟩ ⟨e1, Ku, Au⟩
    have e1 : x = nI (ag_N Γ) := e1
    subst e1
    have Ku : wa_K a Γ how z u c l h c' l' h' := Ku
    show ao_ok (m_Wa_endWaysAtLast_B2 u (nI (ag_N Γ))) _
    unfold m_Wa_endWaysAtLast_B2
    rw [(wa_yA_A Ku.1 A).1.2.1, if_pos (nI_le (Nat.le_refl _) (by omega))]
    exact ao_inl ⟨Ku, Au⟩
/-! ===== length by length ===== -/
noncomputable def wa_z (Γ : ag_T) (how : Option Bool) : Nat → wa_T
  | 0 => (fun n => if n = 0 then 1 else 0, fun _ => ru_w Γ how 0, fun _ => ru_w Γ how 0)
  | k + 1 => wa_f (ag_nx Γ) (ru_w Γ how) (wa_z Γ how k) (2 * ag_N Γ)
noncomputable def wa_y (Γ : ag_T) (how : Option Bool) : Nat → Nat × Nat × Nat
  | 0 => (0, 0, 0)
  | k + 1 => wa_a (ag_nx Γ) (wa_z Γ how k) (ag_N Γ) (wa_y Γ how k)
theorem wa_z_b {Γ : ag_T} (G : ag_wf Γ) (how : Option Bool) (k : Nat) : wa_b (25 * (k + 1)) (wa_z Γ how k) := by
  induction k with
  | zero =>
    intro n
    have hw := ru_w_le G how 0
    refine ⟨?_, by show ru_w Γ how 0 ≤ _; omega, by show ru_w Γ how 0 ≤ _; omega⟩
    show (if n = 0 then 1 else 0) ≤ wa_many
    by_cases q : n = 0
    · rw [if_pos q]; decide
    · rw [if_neg q]; decide
  | succ k ih =>
    have := wa_f_b (nx := ag_nx Γ) (ru_w_le G how) ih (2 * ag_N Γ)
    rw [show 25 * (k + 1) + 25 = 25 * (k + 1 + 1) by omega] at this
    exact this
theorem wa_y_b {Γ : ag_T} (G : ag_wf Γ) (how : Option Bool) (k : Nat) : wa_ab (25 * (k + 1)) (wa_y Γ how k) := by
  induction k with
  | zero => exact ⟨Nat.zero_le _, Nat.zero_le _, Nat.zero_le _⟩
  | succ k ih => exact wa_ab_m (by omega) (wa_a_b (nx := ag_nx Γ) (wa_z_b G how k) ih (ag_N Γ))
set_option maxHeartbeats 2000000 in
theorem wa_countA {a : aw_S} {Γ : ag_T} (G : ag_wf Γ) (A : ag_A a Γ) {how : Option Bool} (M : ru_M a Γ how) {c l h c' l' h' : Nat} (hq : wa_q c l h c' l' h') (hr : wa_r a c l h c' l' h') {L : Nat} (hL : L ≤ 60) : ao_ok (m_Wa_count a (ru_by how) (nI L)) (fun t => wa_yA a t ∧ (wa_r t c l h c' l' h' ∨ wa_r t c' l' h' c l h) ∧ wa_AA t (wa_y Γ how L)) := by
  have hN := G.1.1
  have hq' := hq
  unfold wa_q at hq'
  have hqs : wa_q c' l' h' c l h := by unfold wa_q; omega
  have eN : ∀ u, wa_yA a u → u.1 24 13 = nI (ag_N Γ) := fun u y => (congrFun (y.1 24 (by omega)) 13).trans A.1.2.1
  unfold m_Wa_count
  refine ao_bd (ao_imp (ao_for (ag_N Γ) (fun k (u : Int32 × aw_S) => u.1 = nI k ∧ wa_yA a u.2 ∧ u.2.2.2 = a.2.2 ∧ ∀ i, i < k → u.2.1 98 i = nI (ru_w Γ how i) ∧ u.2.2.1 c i = 0) (Q := fun u => wa_yA a u ∧ u.2.2 = a.2.2 ∧ ∀ i, i < ag_N Γ → u.1 98 i = nI (ru_w Γ how i) ∧ u.2.1 c i = 0) (a := 0) ⟨rfl, wa_yA_rf, rfl, fun i hi => absurd hi (Nat.not_lt_zero _)⟩ (Nat.zero_le _) (by omega) ?_ ?_) ?_)
  · rintro k ⟨x, u⟩ hk ⟨e1, y, f, d⟩
    have e1 : x = nI k := e1
    subst e1
    have y : wa_yA a u := y
    have f : u.2.2 = a.2.2 := f
    have d : ∀ i, i < k → u.1 98 i = nI (ru_w Γ how i) ∧ u.2.1 c i = 0 := d
    show ao_ok (m_Wa_count_B3 u (ru_by how) (nI L) (nI k)) _
    unfold m_Wa_count_B3
    rw [eN u y, if_neg (nI_ge hk (by omega)), aw_bd_s (ru_workAt G (wa_yA_A y A) (wa_yA_M y M) hk), ao_gdn (by omega) (by omega), nI_clamp (by omega), ao_ltr, aw_bd_s (show (aw_sI u 98 k (nI (ru_w Γ how k))).2.2 97 1 = some c by show u.2.2 97 1 = some c; rw [f]; exact hr.1), aw_gd_t (show c = 99 ∨ c = 102 by omega), ao_gdn (by omega) (by omega)]
    refine ao_let (ao_let (ao_inr ⟨nI_1 k, wa_yA_L (wa_yA_I y (by omega)) (by omega), f, fun i hi => ?_⟩))
    show (aw_sI u 98 k (nI (ru_w Γ how k))).1 98 i = _ ∧ (aw_sL (aw_sI u 98 k (nI (ru_w Γ how k))) c k 0).2.1 c i = 0
    by_cases q : i = k
    · rw [q, ao_sI_s, wa_sL_s]; exact ⟨rfl, rfl⟩
    · rw [ao_sI_i q, wa_sL_i q]; exact d i (by omega)
  · rintro ⟨x, u⟩ ⟨e1, y, hh⟩
    have e1 : x = nI (ag_N Γ) := e1
    subst e1
    show ao_ok (m_Wa_count_B3 u (ru_by how) (nI L) (nI (ag_N Γ))) _
    unfold m_Wa_count_B3
    rw [eN u y, if_pos (nI_le (Nat.le_refl _) (by omega))]
    exact ao_inl ⟨y, hh⟩
  · rintro s1 ⟨y1, f1, d1⟩
    have h0 : 0 < ag_N Γ := G.2.1
    have d98 : s1.1 98 0 = nI (ru_w Γ how 0) := (d1 0 h0).1
    refine ao_let (ao_let (ao_let ?_))
    have g0 : ∀ {x : Option aw_S}, aw_gd (vp_in (0 : Int32) 128) x = x := fun {x} => ao_gdn (n := 0) (N := 128) (by omega) (by omega)
    have z0 : ((0 : Int32)).toNatClampNeg = 0 := by decide
    rw [aw_bd_s (show (aw_sI (aw_sI (aw_sL s1 97 7 0) 97 8 0) 97 9 0).2.2 97 1 = some c by show s1.2.2 97 1 = some c; rw [f1]; exact hr.1), aw_gd_t (show c = 99 ∨ c = 102 by omega), g0, z0, ao_ltr]
    rw [aw_bd_s (show (aw_sL (aw_sI (aw_sI (aw_sL s1 97 7 0) 97 8 0) 97 9 0) c 0 1).2.2 97 2 = some l by show s1.2.2 97 2 = some l; rw [f1]; exact hr.2.1), aw_gd_t (show l = 100 ∨ l = 103 by omega), g0, g0, ao_ltr]
    have e98 : (aw_sL (aw_sI (aw_sI (aw_sL s1 97 7 0) 97 8 0) 97 9 0) c 0 1).1 98 0 = nI (ru_w Γ how 0) := by
      show (aw_sI (aw_sI (aw_sL s1 97 7 0) 97 8 0) 97 9 0).1 98 0 = _
      rw [ao_sI_o (by omega), ao_sI_o (by omega)]; exact d98
    rw [e98]
    rw [aw_bd_s (show (aw_sI (aw_sL (aw_sI (aw_sI (aw_sL s1 97 7 0) 97 8 0) 97 9 0) c 0 1) l 0 (nI (ru_w Γ how 0))).2.2 97 3 = some h by show s1.2.2 97 3 = some h; rw [f1]; exact hr.2.2.1), aw_gd_t (show h = 101 ∨ h = 104 by omega), g0, g0, ao_ltr, ao_sI_o (show 98 ≠ l by omega), e98]
    generalize hs : aw_sI (aw_sI (aw_sL (aw_sI (aw_sI (aw_sL s1 97 7 0) 97 8 0) 97 9 0) c 0 1) l 0 (nI (ru_w Γ how 0))) h 0 (nI (ru_w Γ how 0)) = s2
    have y2 : wa_yA a s2 := by rw [← hs]; exact wa_yA_I (wa_yA_I (wa_yA_L (wa_yA_I (wa_yA_I (wa_yA_L y1 (by omega)) (by omega)) (by omega)) (by omega)) (by omega)) (by omega)
    have r2 : wa_r s2 c l h c' l' h' := by
      have : s2.2.2 = a.2.2 := by rw [← hs]; exact f1
      unfold wa_r; rw [this]; exact hr
    have w2 : ∀ n, n < ag_N Γ → s2.1 98 n = nI (ru_w Γ how n) := fun n hn => by
      rw [← hs, ao_sI_o (by omega), ao_sI_o (by omega)]
      show (aw_sI (aw_sI (aw_sL s1 97 7 0) 97 8 0) 97 9 0).1 98 n = _
      rw [ao_sI_o (by omega), ao_sI_o (by omega)]; exact (d1 n hn).1
    have H2 : wa_H s2 c l h (ag_N Γ) (wa_z Γ how 0) := by
      intro n hn
      have hc : s2.2.1 c n = if n = 0 then 1 else 0 := by
        rw [← hs]
        show (aw_sL (aw_sI (aw_sI (aw_sL s1 97 7 0) 97 8 0) 97 9 0) c 0 1).2.1 c n = _
        by_cases q : n = 0
        · rw [q, wa_sL_s, if_pos rfl]
        · rw [wa_sL_i q, if_neg q]
          show (aw_sL s1 97 7 0).2.1 c n = 0
          rw [wa_sL_o (by omega)]; exact (d1 n hn).2
      show s2.2.1 c n = lN (if n = 0 then 1 else 0) ∧ ((if n = 0 then 1 else 0) ≠ 0 → s2.1 l n = nI (ru_w Γ how 0) ∧ s2.1 h n = nI (ru_w Γ how 0))
      by_cases q : n = 0
      · subst q
        refine ⟨by rw [hc, if_pos rfl, if_pos rfl]; rfl, fun _ => ⟨?_, ?_⟩⟩
        · rw [← hs, ao_sI_o (by omega), ao_sI_s]
        · rw [← hs, ao_sI_s]
      · exact ⟨by rw [hc, if_neg q, if_neg q]; rfl, fun w => absurd (if_neg q) w⟩
    have A2 : wa_AA s2 (wa_y Γ how 0) := by
      refine ⟨?_, fun w => absurd rfl w⟩
      rw [← hs]
      show (aw_sL (aw_sI (aw_sI (aw_sL s1 97 7 0) 97 8 0) 97 9 0) c 0 1).2.1 97 7 = lN 0
      rw [wa_sL_o (by omega)]
      exact wa_sL_s _ _ _ _
    clear hs
    refine ao_bd (ao_imp (ao_for L (fun k (u : Int32 × aw_S) => u.1 = nI (k + 1) ∧ wa_AA u.2 (wa_y Γ how k) ∧ (wa_K a Γ how (wa_z Γ how k) u.2 c l h c' l' h' ∨ wa_K a Γ how (wa_z Γ how k) u.2 c' l' h' c l h)) (Q := fun t => wa_yA a t ∧ (wa_r t c l h c' l' h' ∨ wa_r t c' l' h' c l h) ∧ wa_AA t (wa_y Γ how L)) (a := 0) ⟨rfl, A2, Or.inl ⟨y2, hq, r2, w2, H2⟩⟩ (Nat.zero_le _) (by omega) ?_ ?_) (fun t ht => ao_some ht))
    · rintro k ⟨x, u⟩ hk ⟨e1, Au, Ku⟩
      have e1 : x = nI (k + 1) := e1
      subst e1
      have Au : wa_AA u (wa_y Γ how k) := Au
      have zb := wa_z_b G how k
      have yb := wa_y_b G how k
      have one : ∀ {c l h c' l' h' : Nat}, wa_K a Γ how (wa_z Γ how k) u c l h c' l' h' → ao_ok (m_Wa_count_B89 u (nI L) (nI (k + 1))) (fun x => ∃ v, x = .inr (nI (k + 1 + 1), v) ∧ wa_AA v (wa_y Γ how (k + 1)) ∧ wa_K a Γ how (wa_z Γ how (k + 1)) v c' l' h' c l h) := by
        intro c l h c' l' h' K
        unfold m_Wa_count_B89
        rw [if_neg (nI_nlt (by omega) (by omega))]
        refine ao_bd (ao_imp (wa_arrive G A (by omega) zb K yb Au) ?_)
        rintro u1 ⟨K1, A1⟩
        refine ao_bd (ao_imp (wa_goOnA G A (by omega) zb K1) ?_)
        rintro u2 ⟨K2, g1, g2⟩
        refine ao_let (ao_some ⟨u2, by rw [nI_1], ⟨by rw [g2]; exact A1.1, fun w => by rw [g1]; exact A1.2 w⟩, K2⟩)
      rcases Ku with K | K
      · refine ao_imp (one K) ?_
        rintro x ⟨v, rfl, A', K'⟩
        exact ⟨rfl, A', Or.inr K'⟩
      · refine ao_imp (one K) ?_
        rintro x ⟨v, rfl, A', K'⟩
        exact ⟨rfl, A', Or.inl K'⟩
    · rintro ⟨x, u⟩ ⟨e1, Au, Ku⟩
      have e1 : x = nI (L + 1) := e1
      subst e1
      show ao_ok (m_Wa_count_B89 u (nI L) (nI (L + 1))) _
      unfold m_Wa_count_B89
      rw [if_pos (nI_lt (by omega) (by omega))]
      exact ao_inl ⟨Ku.elim (fun K => K.1) (fun K => K.1), Ku.imp (fun K => K.2.2.1) (fun K => K.2.2.1), Au⟩

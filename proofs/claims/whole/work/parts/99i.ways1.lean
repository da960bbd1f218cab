/-! ===== WAYS: the reference goes further, counts what ended ===== -/
theorem wa_H_c {s s' : aw_S} {c l h N : Nat} {z : wa_T} (H : wa_H s c l h N z) (e1 : s'.2.1 c = s.2.1 c) (e2 : s'.1 l = s.1 l) (e3 : s'.1 h = s.1 h) : wa_H s' c l h N z := fun n hn => by rw [e1, e2, e3]; exact H n hn
theorem wa_yB_B {b t : aw_S} {Γ : ag_T} (h : wa_yB b t) (B : ag_B b Γ) : ag_B t Γ := ag_B_fr B (congrFun (h.2.2 0 (by omega)) 14) (h.2.2 1 (by omega)) (h.2.2 4 (by omega)) (h.2.2 5 (by omega)) (h.2.2 6 (by omega)) (h.2.2 7 (by omega))
set_option maxHeartbeats 2000000 in
theorem wa_goFurther {b : aw_S} {Γ : ag_T} (G : ag_wf Γ) (B : ag_BA b Γ) (how : Option Bool) {M : Nat} (hM : M + 100 < 2 ^ 31) {z : wa_T} (hz : wa_b M z) {t : aw_S} (Y : wa_yB b t) (Hz : wa_H t 27 29 31 (ag_N Γ) z) : ao_ok (m_Rf_goFurther t (ru_hI how)) (fun t' => wa_yB b t' ∧ wa_H t' 27 29 31 (ag_N Γ) (wa_f (ag_nx Γ) (ru_w Γ how) z (2 * ag_N Γ))) := by
  have hN := G.1.1
  have hw := ru_w_le G how
  have hb := wa_f_b (nx := ag_nx Γ) hw hz
  have eN : ∀ s, wa_yB b s → s.1 0 14 = nI (ag_N Γ) := fun s y => (congrFun (y.2.2 0 (by omega)) 14).trans B.1.1.2.1
  unfold m_Rf_goFurther
  refine ao_bd (ao_imp (ao_for (ag_N Γ) (fun k (s : Int32 × aw_S) => s.1 = nI k ∧ wa_yB b s.2 ∧ wa_H s.2 27 29 31 (ag_N Γ) z ∧ ∀ i, i < k → s.2.2.1 28 i = 0) (Q := fun s => wa_yB b s ∧ wa_H s 27 29 31 (ag_N Γ) z ∧ ∀ i, i < ag_N Γ → s.2.1 28 i = 0) (a := 0) ⟨rfl, Y, Hz, fun i hi => absurd hi (Nat.not_lt_zero _)⟩ (Nat.zero_le _) (by omega) ?_ ?_) ?_)
  · rintro k ⟨x, s⟩ hk ⟨e1, y, H, d⟩
    have e1 : x = nI k := e1
    subst e1
    have y : wa_yB b s := y
    have H : wa_H s 27 29 31 (ag_N Γ) z := H
    have d : ∀ i, i < k → s.2.1 28 i = 0 := d
    show ao_ok (m_Rf_goFurther_B2 s (ru_hI how) (nI k)) _
    unfold m_Rf_goFurther_B2
    rw [eN s y, if_neg (nI_ge hk (by omega)), ao_gdn (by omega) (by omega), nI_clamp (by omega)]
    refine ao_let (ao_let (ao_inr ⟨nI_1 k, wa_yB_L y (Or.inr rfl), wa_H_c H (wa_sL_o (by omega)) rfl rfl, fun i hi => ?_⟩))
    show (aw_sL s 28 k 0).2.1 28 i = 0
    by_cases q : i = k
    · rw [q, wa_sL_s]
    · rw [wa_sL_i q]; exact d i (by omega)
  · rintro ⟨x, s⟩ ⟨e1, y, h⟩
    have e1 : x = nI (ag_N Γ) := e1
    subst e1
    show ao_ok (m_Rf_goFurther_B2 s (ru_hI how) (nI (ag_N Γ))) _
    unfold m_Rf_goFurther_B2
    rw [eN s y, if_pos (nI_le (Nat.le_refl _) (by omega))]
    exact ao_inl ⟨y, h⟩
  · rintro s1 ⟨y1, H1, d1⟩
    refine ao_bd (ao_imp (ao_for (2 * ag_N Γ) (fun k (s : Int32 × aw_S) => s.1 = nI k ∧ wa_yB b s.2 ∧ wa_H s.2 27 29 31 (ag_N Γ) z ∧ wa_H s.2 28 30 32 (ag_N Γ) (wa_f (ag_nx Γ) (ru_w Γ how) z k)) (Q := fun s => wa_yB b s ∧ wa_H s 28 30 32 (ag_N Γ) (wa_f (ag_nx Γ) (ru_w Γ how) z (2 * ag_N Γ))) (a := 0) ⟨rfl, y1, H1, fun i hi => ⟨d1 i hi, fun h => absurd rfl h⟩⟩ (Nat.zero_le _) (by omega) ?_ ?_) ?_)
    · rintro k ⟨x, s⟩ hk ⟨e1, y, H, F⟩
      have e1 : x = nI k := e1
      subst e1
      have y : wa_yB b s := y
      have H : wa_H s 27 29 31 (ag_N Γ) z := H
      have F : wa_H s 28 30 32 (ag_N Γ) (wa_f (ag_nx Γ) (ru_w Γ how) z k) := F
      have Bs := wa_yB_B y B.1
      show ao_ok (m_Rf_goFurther_B25 s (ru_hI how) (nI k)) _
      unfold m_Rf_goFurther_B25 m_Rf_goFurther_J69
      rw [eN s y, ao_mul2, if_neg (nI_ge hk (by omega)), ao_gdn (by omega) (by omega), ao_gdn (by omega) (by omega), ao_gdn (by omega) (by omega), nI_clamp (by omega), Bs.1.2.2 k hk, ao_half (by omega)]
      have step : wa_f (ag_nx Γ) (ru_w Γ how) z (k + 1) = wa_e (ag_nx Γ) (ru_w Γ how) z k (wa_f (ag_nx Γ) (ru_w Γ how) z k) := rfl
      cases q : ag_nx Γ k with
      | none =>
        rw [if_pos (show ao_o none = (-1 : Int32) from rfl)]
        refine ao_let (ao_inr ⟨nI_1 k, y, H, ?_⟩)
        rw [step]
        unfold wa_e
        rw [q]
        exact F
      | some m =>
        have hm := G.1.2.1 k hk m q
        rw [if_neg (show ¬ ao_o (some m) = (-1 : Int32) from ao_m1 (by omega)), show ao_o (some m) = nI m from rfl, aw_bd_s (ru_costs G B Bs (y.2.2 13 (by omega)) how hm)]
        refine ao_bd (ao_imp (wa_goOnB (N := ag_N Γ) hN (show k / 2 < ag_N Γ by omega) hm hM (hw m) hz (hb k) H F y) ?_)
        rintro s' ⟨y', H', F'⟩
        refine ao_let (ao_inr ⟨nI_1 k, y', H', ?_⟩)
        rw [step]
        unfold wa_e
        rw [q]
        exact F'
    · rintro ⟨x, s⟩ ⟨e1, y, H, F⟩
      have e1 : x = nI (2 * ag_N Γ) := e1
      subst e1
      show ao_ok (m_Rf_goFurther_B25 s (ru_hI how) (nI (2 * ag_N Γ))) _
      unfold m_Rf_goFurther_B25
      rw [eN s y, ao_mul2, if_pos (nI_le (Nat.le_refl _) (by omega))]
      exact ao_inl ⟨y, F⟩
    · rintro s2 ⟨y2, F2⟩
      refine ao_bd (ao_imp (ao_for (ag_N Γ) (fun k (s : Int32 × aw_S) => s.1 = nI k ∧ wa_yB b s.2 ∧ wa_H s.2 28 30 32 (ag_N Γ) (wa_f (ag_nx Γ) (ru_w Γ how) z (2 * ag_N Γ)) ∧ wa_H s.2 27 29 31 k (wa_f (ag_nx Γ) (ru_w Γ how) z (2 * ag_N Γ))) (Q := fun s => wa_yB b s ∧ wa_H s 27 29 31 (ag_N Γ) (wa_f (ag_nx Γ) (ru_w Γ how) z (2 * ag_N Γ))) (a := 0) ⟨rfl, y2, F2, fun i hi => absurd hi (Nat.not_lt_zero _)⟩ (Nat.zero_le _) (by omega) ?_ ?_) (fun s hs => ao_some hs))
      · rintro k ⟨x, s⟩ hk ⟨e1, y, F, H⟩
        have e1 : x = nI k := e1
        subst e1
        have y : wa_yB b s := y
        have F : wa_H s 28 30 32 (ag_N Γ) (wa_f (ag_nx Γ) (ru_w Γ how) z (2 * ag_N Γ)) := F
        have H : wa_H s 27 29 31 k (wa_f (ag_nx Γ) (ru_w Γ how) z (2 * ag_N Γ)) := H
        show ao_ok (m_Rf_goFurther_B77 s (nI k)) _
        unfold m_Rf_goFurther_B77
        rw [eN s y, if_neg (nI_ge hk (by omega))]
        simp (disch := omega) only [ao_gdn, nI_clamp, ao_ltr]
        refine ao_inr ⟨nI_1 k, wa_yB_I (wa_yB_I (wa_yB_L y (Or.inl rfl)) (by omega)) (by omega), fun i hi => ?_, fun i hi => ?_⟩
        · show (aw_sL s 27 k (s.2.1 28 k)).2.1 28 i = _ ∧ (_ → (aw_sI (aw_sI (aw_sL s 27 k (s.2.1 28 k)) 29 k ((aw_sL s 27 k (s.2.1 28 k)).1 30 k)) 31 k ((aw_sI (aw_sL s 27 k (s.2.1 28 k)) 29 k ((aw_sL s 27 k (s.2.1 28 k)).1 30 k)).1 32 k)).1 30 i = _ ∧ (aw_sI (aw_sI (aw_sL s 27 k (s.2.1 28 k)) 29 k ((aw_sL s 27 k (s.2.1 28 k)).1 30 k)) 31 k ((aw_sI (aw_sL s 27 k (s.2.1 28 k)) 29 k ((aw_sL s 27 k (s.2.1 28 k)).1 30 k)).1 32 k)).1 32 i = _)
          rw [wa_sL_o (by omega), ao_sI_o (show 30 ≠ 31 by omega), ao_sI_o (show 30 ≠ 29 by omega), ao_sI_o (show 32 ≠ 31 by omega), ao_sI_o (show 32 ≠ 29 by omega)]
          exact F i hi
        · show (aw_sL s 27 k (s.2.1 28 k)).2.1 27 i = _ ∧ (_ → (aw_sI (aw_sI (aw_sL s 27 k (s.2.1 28 k)) 29 k ((aw_sL s 27 k (s.2.1 28 k)).1 30 k)) 31 k ((aw_sI (aw_sL s 27 k (s.2.1 28 k)) 29 k ((aw_sL s 27 k (s.2.1 28 k)).1 30 k)).1 32 k)).1 29 i = _ ∧ (aw_sI (aw_sI (aw_sL s 27 k (s.2.1 28 k)) 29 k ((aw_sL s 27 k (s.2.1 28 k)).1 30 k)) 31 k ((aw_sI (aw_sL s 27 k (s.2.1 28 k)) 29 k ((aw_sL s 27 k (s.2.1 28 k)).1 30 k)).1 32 k)).1 31 i = _)
          rw [ao_sI_o (show 29 ≠ 31 by omega), ao_sI_o (show 32 ≠ 29 by omega)]
          by_cases q : i = k
          · rw [q, wa_sL_s, ao_sI_s, ao_sI_s]
            exact F k hk
          · rw [wa_sL_i q, ao_sI_i q, ao_sI_i q, ao_sI_o (show 31 ≠ 29 by omega)]
            exact H i (by omega)
      · rintro ⟨x, s⟩ ⟨e1, y, F, H⟩
        have e1 : x = nI (ag_N Γ) := e1
        subst e1
        show ao_ok (m_Rf_goFurther_B77 s (nI (ag_N Γ))) _
        unfold m_Rf_goFurther_B77
        rw [eN s y, if_pos (nI_le (Nat.le_refl _) (by omega))]
        exact ao_inl ⟨y, H⟩
/-- what has ended, in the reference's own numbers -/
def wa_AB (y : Nat × Nat × Nat) (v : Int64 × Int32 × Int32) : Prop := v.1 = lN y.1 ∧ ((y.1 = 0 ∧ v.2.1 = -1 ∧ v.2.2 = -1) ∨ (y.1 ≠ 0 ∧ v.2.1 = nI y.2.1 ∧ v.2.2 = nI y.2.2))
set_option maxHeartbeats 2000000 in
theorem wa_endB {t : aw_S} {Γ : ag_T} (G : ag_wf Γ) (Bt : ao_TB t (ag_N Γ) (ag_nx Γ)) {M : Nat} (hM : M + 100 < 2 ^ 31) {z : wa_T} (hz : wa_b M z) (Hz : wa_H t 27 29 31 (ag_N Γ) z) {y : Nat × Nat × Nat} (hy : wa_ab M y) {v4 : Int64} {v6 v7 : Int32} (hv : wa_AB y (v4, v6, v7)) (x1 x2 x3 x8 : Int32) : ao_ok (aw_lp (fun s => m_Rf_ways_B121 t x1 x2 x3 x8 s.1 s.2.1 s.2.2.1 s.2.2.2) aw_fu (v4, v6, v7, (0 : Int32))) (fun v => wa_AB (wa_a (ag_nx Γ) z (ag_N Γ) y) v) := by
  have hN := G.1.1
  have hb := wa_a_b (nx := ag_nx Γ) hz hy
  refine ao_for (ag_N Γ) (fun k (s : Int64 × Int32 × Int32 × Int32) => s.2.2.2 = nI k ∧ wa_AB (wa_a (ag_nx Γ) z k y) (s.1, s.2.1, s.2.2.1)) (a := 0) ⟨rfl, hv⟩ (Nat.zero_le _) (by omega) ?_ ?_
  · rintro k ⟨f, lo, hi, x⟩ hk ⟨e1, hA⟩
    have e1 : x = nI k := e1
    subst e1
    have hA : wa_AB (wa_a (ag_nx Γ) z k y) (f, lo, hi) := hA
    obtain ⟨ef, hd⟩ := hA
    have ef : f = lN (wa_a (ag_nx Γ) z k y).1 := ef
    have hd : ((wa_a (ag_nx Γ) z k y).1 = 0 ∧ lo = -1 ∧ hi = -1) ∨ ((wa_a (ag_nx Γ) z k y).1 ≠ 0 ∧ lo = nI (wa_a (ag_nx Γ) z k y).2.1 ∧ hi = nI (wa_a (ag_nx Γ) z k y).2.2) := hd
    obtain ⟨b1, b2, b3⟩ := hb k
    obtain ⟨c1, c2, c3⟩ := hz k
    have e27 := (Hz k hk).1
    have step : wa_a (ag_nx Γ) z (k + 1) y = if z.1 k = 0 ∨ ag_nx Γ (2 * k) ≠ none then wa_a (ag_nx Γ) z k y else (min wa_many ((wa_a (ag_nx Γ) z k y).1 + z.1 k), if (wa_a (ag_nx Γ) z k y).1 = 0 then z.2.1 k else min (wa_a (ag_nx Γ) z k y).2.1 (z.2.1 k), if (wa_a (ag_nx Γ) z k y).1 = 0 then z.2.2 k else max (wa_a (ag_nx Γ) z k y).2.2 (z.2.2 k)) := rfl
    show ao_ok (m_Rf_ways_B121 t x1 x2 x3 x8 f lo hi (nI k)) _
    unfold m_Rf_ways_B121
    rw [Bt.2.1, if_neg (nI_ge hk (by omega)), ao_gdn (by omega) (by omega), ao_gdn (by omega) (by omega), ao_gdn (by omega) (by omega), nI_clamp (by omega), e27]
    by_cases q : z.1 k = 0
    · rw [if_pos ((wa_l0 (by omega)).mpr q)]
      unfold m_Rf_ways_J247
      refine ao_let (ao_inr ⟨nI_1 k, ?_⟩)
      rw [step, if_pos (Or.inl q)]
      exact ⟨ef, hd⟩
    · rw [if_neg (fun w => q ((wa_l0 (by omega)).mp w)), aw_bd_s (ao_isLast Bt hk)]
      by_cases l : ag_nx Γ (2 * k) = none
      · rw [ao_b1 l, if_neg ao_n10]
        obtain ⟨z1, z2⟩ := (Hz k hk).2 q
        have hstep : wa_a (ag_nx Γ) z (k + 1) y = (min wa_many ((wa_a (ag_nx Γ) z k y).1 + z.1 k), if (wa_a (ag_nx Γ) z k y).1 = 0 then z.2.1 k else min (wa_a (ag_nx Γ) z k y).2.1 (z.2.1 k), if (wa_a (ag_nx Γ) z k y).1 = 0 then z.2.2 k else max (wa_a (ag_nx Γ) z k y).2.2 (z.2.2 k)) := by
          rw [step, if_neg (fun w => w.elim q (fun w => w l))]
        have hpos : (wa_a (ag_nx Γ) z (k + 1) y).1 ≠ 0 := by
          rw [hstep]
          show min wa_many _ ≠ 0
          have : 0 < wa_many := by decide
          omega
        have J187 : ∀ f' : Int64, f' = lN (min wa_many ((wa_a (ag_nx Γ) z k y).1 + z.1 k)) → ao_ok (m_Rf_ways_J187 t x1 x2 x3 lo hi x8 (nI k) f') (Sum.elim (fun v => wa_AB (wa_a (ag_nx Γ) z (ag_N Γ) y) v) (fun s' => s'.2.2.2 = nI (k + 1) ∧ wa_AB (wa_a (ag_nx Γ) z (k + 1) y) (s'.1, s'.2.1, s'.2.2.1))) := by
          intro f' hf
          have fin : ∀ u v : Nat, u = (wa_a (ag_nx Γ) z (k + 1) y).2.1 → v = (wa_a (ag_nx Γ) z (k + 1) y).2.2 → ao_ok (some (.inr (f', nI u, nI v, nI k + 1) : (Int64 × Int32 × Int32) ⊕ (Int64 × Int32 × Int32 × Int32))) (Sum.elim (fun v => wa_AB (wa_a (ag_nx Γ) z (ag_N Γ) y) v) (fun s' => s'.2.2.2 = nI (k + 1) ∧ wa_AB (wa_a (ag_nx Γ) z (k + 1) y) (s'.1, s'.2.1, s'.2.2.1))) := by
            intro u v hu hv
            exact ao_inr ⟨nI_1 k, by show f' = _; rw [hf, hstep], Or.inr ⟨hpos, by rw [hu], by rw [hv]⟩⟩
          unfold m_Rf_ways_J187 m_Rf_ways_J207 m_Rf_ways_J219 m_Rf_ways_J245 m_Rf_ways_J247
          simp (disch := omega) only [ao_gdn, nI_clamp, ao_ltr]
          rw [z1, z2]
          rcases hd with ⟨h1, h2, h3⟩ | ⟨h1, h2, h3⟩
          · rw [h2, h3, if_pos rfl]
            have ne : ¬ nI (z.2.2 k) ≤ (-1 : Int32) := by
              intro w
              have w := Int32.le_iff_toInt_le.mp w
              rw [nI_toInt (by omega)] at w
              have : (-1 : Int32).toInt = -1 := by decide
              omega
            rw [if_neg ne]
            exact fin _ _ (by rw [hstep]; show _ = if _ then _ else _; rw [if_pos h1]) (by rw [hstep]; show _ = if _ then _ else _; rw [if_pos h1])
          · rw [h2, h3, if_neg (show ¬ nI (wa_a (ag_nx Γ) z k y).2.1 = -1 from ao_m1 (by omega))]
            have R : ∀ u : Nat, u = (wa_a (ag_nx Γ) z (k + 1) y).2.1 → ao_ok (if nI (z.2.2 k) ≤ nI (wa_a (ag_nx Γ) z k y).2.2 then some (.inr (f', nI u, nI (wa_a (ag_nx Γ) z k y).2.2, nI k + 1) : (Int64 × Int32 × Int32) ⊕ (Int64 × Int32 × Int32 × Int32)) else some (.inr (f', nI u, nI (z.2.2 k), nI k + 1))) (Sum.elim (fun v => wa_AB (wa_a (ag_nx Γ) z (ag_N Γ) y) v) (fun s' => s'.2.2.2 = nI (k + 1) ∧ wa_AB (wa_a (ag_nx Γ) z (k + 1) y) (s'.1, s'.2.1, s'.2.2.1))) := by
              intro u hu
              refine ao_if (fun w => fin u _ hu ?_) (fun w => fin u _ hu ?_)
              · have w := (nI_leI (by omega) (by omega)).mp w
                rw [hstep]; show _ = if _ then _ else _; rw [if_neg h1, Nat.max_eq_left w]
              · have w : ¬ z.2.2 k ≤ (wa_a (ag_nx Γ) z k y).2.2 := fun v => w ((nI_leI (by omega) (by omega)).mpr v)
                rw [hstep]; show _ = if _ then _ else _; rw [if_neg h1, Nat.max_eq_right (by omega)]
            by_cases w : (wa_a (ag_nx Γ) z k y).2.1 ≤ z.2.1 k
            · rw [if_pos (nI_le w (by omega))]
              exact R _ (by rw [hstep]; show _ = if _ then _ else _; rw [if_neg h1, Nat.min_eq_left w])
            · rw [if_neg (nI_ge (by omega) (by omega))]
              exact R _ (by rw [hstep]; show _ = if _ then _ else _; rw [if_neg h1, Nat.min_eq_right (by omega)])
        rw [ef, lN_add]
        by_cases w : (wa_a (ag_nx Γ) z k y).1 + z.1 k ≤ wa_many
        · rw [if_pos ((wa_lem (by omega)).mpr w)]
          exact J187 _ (by rw [Nat.min_eq_right w])
        · rw [if_neg (fun v => w ((wa_lem (by omega)).mp v))]
          exact J187 _ (by rw [Nat.min_eq_left (by omega)]; rfl)
      · rw [ao_b0 l, if_pos rfl]
        unfold m_Rf_ways_J247
        refine ao_let (ao_inr ⟨nI_1 k, ?_⟩)
        rw [step, if_pos (Or.inr l)]
        exact ⟨ef, hd⟩
  · rintro ⟨f, lo, hi, x⟩ ⟨e1, hA⟩
    have e1 : x = nI (ag_N Γ) := e1
    subst e1
    show ao_ok (m_Rf_ways_B121 t x1 x2 x3 x8 f lo hi (nI (ag_N Γ))) _
    unfold m_Rf_ways_B121
    rw [Bt.2.1, if_pos (nI_le (Nat.le_refl _) (by omega))]
    exact ao_inl hA

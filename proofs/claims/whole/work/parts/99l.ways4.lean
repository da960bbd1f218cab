/-! ===== WAYS: both ===== -/
set_option maxHeartbeats 2000000 in
theorem wa_waysB {b : aw_S} {Γ : ag_T} (G : ag_wf Γ) (B : ag_BA b Γ) (how : Option Bool) {L : Nat} (hL : L ≤ 60) (z3 : Int32) (hc : m_Rf_canRun b (ru_hI how) = some 1) (hi1 : m_Rf_isIn b (nI L) 1 60 = some 1) (hi2 : m_Rf_isIn b z3 0 2 = some 1) : ao_ok (m_Rf_ways b (ru_hI how) (nI L) z3) (fun x => wa_yB b x.2 ∧ ∃ v : Int64 × Int32 × Int32, wa_AB (wa_y Γ how L) v ∧ x.1 = if z3 = 0 then v.1 else if z3 = 1 then v.2.1.toInt64 else v.2.2.toInt64) := by
  have hN := G.1.1
  have h0 : 0 < ag_N Γ := G.2.1
  have eN : ∀ s, wa_yB b s → s.1 0 14 = nI (ag_N Γ) := fun s y => (congrFun (y.2.2 0 (by omega)) 14).trans B.1.1.2.1
  unfold m_Rf_ways
  rw [aw_bd_s hc, if_neg ao_n10, aw_bd_s hi1, if_neg ao_n10, aw_bd_s hi2, if_neg ao_n10]
  refine ao_bd (ao_imp (ao_for (ag_N Γ) (fun k (s : Int32 × aw_S) => s.1 = nI k ∧ wa_yB b s.2 ∧ ∀ i, i < k → s.2.2.1 27 i = lN (if i = 0 then 1 else 0)) (Q := fun s => wa_yB b s ∧ ∀ i, i < ag_N Γ → s.2.1 27 i = lN (if i = 0 then 1 else 0)) (a := 0) ⟨rfl, wa_yB_rf, fun i hi => absurd hi (Nat.not_lt_zero _)⟩ (Nat.zero_le _) (by omega) ?_ ?_) ?_)
  · rintro k ⟨x, s⟩ hk ⟨e1, y, d⟩
    have e1 : x = nI k := e1
    subst e1
    have y : wa_yB b s := y
    have d : ∀ i, i < k → s.2.1 27 i = lN (if i = 0 then 1 else 0) := d
    have fin : ∀ v : Int64, v = lN (if k = 0 then 1 else 0) → ao_ok (m_Rf_ways_J59 s (ru_hI how) (nI L) z3 (nI k) (nI k) v) (Sum.elim (fun s => wa_yB b s ∧ ∀ i, i < ag_N Γ → s.2.1 27 i = lN (if i = 0 then 1 else 0)) (fun s => s.1 = nI (k + 1) ∧ wa_yB b s.2 ∧ ∀ i, i < k + 1 → s.2.2.1 27 i = lN (if i = 0 then 1 else 0))) := by
      intro v hv
      unfold m_Rf_ways_J59
      rw [ao_gdn (by omega) (by omega), nI_clamp (by omega)]
      refine ao_let (ao_let (ao_inr ⟨nI_1 k, wa_yB_L y (Or.inl rfl), fun i hi => ?_⟩))
      show (aw_sL s 27 k v).2.1 27 i = _
      by_cases q : i = k
      · rw [q, wa_sL_s, hv]
      · rw [wa_sL_i q]; exact d i (by omega)
    show ao_ok (m_Rf_ways_B34 s (ru_hI how) (nI L) z3 (nI k)) _
    unfold m_Rf_ways_B34
    rw [eN s y, if_neg (nI_ge hk (by omega))]
    by_cases q : k = 0
    · rw [if_pos (by rw [q]; rfl)]
      exact fin 1 (by rw [if_pos q]; rfl)
    · rw [if_neg (nI_ne0 (by omega) (by omega))]
      exact fin 0 (by rw [if_neg q]; rfl)
  · rintro ⟨x, s⟩ ⟨e1, hh⟩
    have e1 : x = nI (ag_N Γ) := e1
    subst e1
    have hh0 : wa_yB b s := hh.1
    show ao_ok (m_Rf_ways_B34 s (ru_hI how) (nI L) z3 (nI (ag_N Γ))) _
    unfold m_Rf_ways_B34
    rw [eN s hh0, if_pos (nI_le (Nat.le_refl _) (by omega))]
    exact ao_inl hh
  · rintro s1 ⟨y1, d1⟩
    have g0 : ∀ {α : Type} {x : Option α}, aw_gd (vp_in (0 : Int32) 112) x = x := fun {α x} => ao_gdn (n := 0) (N := 112) (by omega) (by omega)
    have z0 : ((0 : Int32)).toNatClampNeg = 0 := by decide
    have ec : m_Rf_costs s1 0 (ru_hI how) = some (nI (ru_w Γ how 0)) := ru_costs (n := 0) G B (wa_yB_B y1 B.1) (y1.2.2 13 (by omega)) how h0
    rw [aw_bd_s ec, g0, z0, ao_ltr, g0, g0, ao_ltr, ao_sI_s]
    generalize hs : aw_sI (aw_sI s1 29 0 (nI (ru_w Γ how 0))) 31 0 (nI (ru_w Γ how 0)) = s2
    have y2 : wa_yB b s2 := by rw [← hs]; exact wa_yB_I (wa_yB_I y1 (by omega)) (by omega)
    have H2 : wa_H s2 27 29 31 (ag_N Γ) (wa_z Γ how 0) := by
      intro n hn
      show s2.2.1 27 n = lN (if n = 0 then 1 else 0) ∧ ((if n = 0 then 1 else 0) ≠ 0 → s2.1 29 n = nI (ru_w Γ how 0) ∧ s2.1 31 n = nI (ru_w Γ how 0))
      refine ⟨by rw [← hs]; exact d1 n hn, fun w => ?_⟩
      have q : n = 0 := Classical.byContradiction fun q => w (if_neg q)
      subst q
      rw [← hs]
      exact ⟨by rw [ao_sI_o (by omega), ao_sI_s], ao_sI_s _ _ _ _⟩
    clear hs
    refine ao_bd (ao_imp (ao_for L (fun k (s : Int64 × Int32 × Int32 × Int32 × aw_S) => s.2.2.2.1 = nI k ∧ wa_yB b s.2.2.2.2 ∧ wa_AB (wa_y Γ how k) (s.1, s.2.1, s.2.2.1) ∧ wa_H s.2.2.2.2 27 29 31 (ag_N Γ) (wa_z Γ how (k - 1))) (Q := fun s => wa_yB b s.2.2.2 ∧ wa_AB (wa_y Γ how L) (s.1, s.2.1, s.2.2.1)) (a := 0) ⟨rfl, y2, ⟨rfl, Or.inl ⟨rfl, rfl, rfl⟩⟩, H2⟩ (Nat.zero_le _) (by omega) ?_ ?_) ?_)
    · rintro k ⟨f, lo, hi, x, s⟩ hk ⟨e1, y, hA, H⟩
      have e1 : x = nI k := e1
      subst e1
      have y : wa_yB b s := y
      have hA : wa_AB (wa_y Γ how k) (f, lo, hi) := hA
      have H : wa_H s 27 29 31 (ag_N Γ) (wa_z Γ how (k - 1)) := H
      have J : ∀ s', wa_yB b s' → wa_H s' 27 29 31 (ag_N Γ) (wa_z Γ how k) → ao_ok (m_Rf_ways_J118 s' (ru_hI how) (nI L) z3 f lo hi (nI k)) (Sum.elim (fun s => wa_yB b s.2.2.2 ∧ wa_AB (wa_y Γ how L) (s.1, s.2.1, s.2.2.1)) (fun s => s.2.2.2.1 = nI (k + 1) ∧ wa_yB b s.2.2.2.2 ∧ wa_AB (wa_y Γ how (k + 1)) (s.1, s.2.1, s.2.2.1) ∧ wa_H s.2.2.2.2 27 29 31 (ag_N Γ) (wa_z Γ how (k + 1 - 1)))) := by
        intro s' y' H'
        unfold m_Rf_ways_J118
        refine ao_bd (ao_imp (wa_endB G (wa_yB_B y' B.1).1 (by omega) (wa_z_b G how k) H' (wa_y_b G how k) hA (ru_hI how) (nI L) z3 (nI k)) ?_)
        rintro ⟨f', lo', hi'⟩ hv
        exact ao_let (ao_inr ⟨nI_1 k, y', hv, H'⟩)
      show ao_ok (m_Rf_ways_B102 s (ru_hI how) (nI L) z3 f lo hi (nI k)) _
      unfold m_Rf_ways_B102
      rw [if_neg (nI_ge hk (by omega))]
      by_cases q : k = 0
      · subst q
        rw [if_pos (show nI 0 ≤ (0 : Int32) by decide)]
        exact J s y H
      · rw [if_neg (nI_nle (by omega) (by omega))]
        refine ao_bd (ao_imp (wa_goFurther G B how (M := 25 * (k - 1 + 1)) (by omega) (wa_z_b G how (k - 1)) y H) ?_)
        rintro s' ⟨y', H'⟩
        refine J s' y' ?_
        have : wa_z Γ how k = wa_f (ag_nx Γ) (ru_w Γ how) (wa_z Γ how (k - 1)) (2 * ag_N Γ) := by
          obtain ⟨j, rfl⟩ : ∃ j, k = j + 1 := ⟨k - 1, by omega⟩
          rfl
        rw [this]; exact H'
    · rintro ⟨f, lo, hi, x, s⟩ ⟨e1, y, hA, H⟩
      have e1 : x = nI L := e1
      subst e1
      show ao_ok (m_Rf_ways_B102 s (ru_hI how) (nI L) z3 f lo hi (nI L)) _
      unfold m_Rf_ways_B102
      rw [if_pos (nI_le (Nat.le_refl _) (by omega))]
      exact ao_inl ⟨y, hA⟩
    · rintro ⟨f, lo, hi, s⟩ ⟨y, hA⟩
      have y : wa_yB b s := y
      have hA : wa_AB (wa_y Γ how L) (f, lo, hi) := hA
      show ao_ok (if z3 = 0 then some (f, s) else if z3 = 1 then some (lo.toInt64, s) else some (hi.toInt64, s)) _
      by_cases q : z3 = 0
      · rw [if_pos q]; exact ao_some ⟨y, (f, lo, hi), hA, by rw [if_pos q]⟩
      · rw [if_neg q]
        by_cases w : z3 = 1
        · rw [if_pos w]; exact ao_some ⟨y, (f, lo, hi), hA, by rw [if_neg q, if_pos w]⟩
        · rw [if_neg w]; exact ao_some ⟨y, (f, lo, hi), hA, by rw [if_neg q, if_neg w]⟩
/-- its rows lie in one of two ways -/
def wa_rr (s : aw_S) : Prop := wa_r s 99 100 101 102 103 104 ∨ wa_r s 102 103 104 99 100 101
theorem q_ways {a b : aw_S} (h : iq_P a b) (h0 : ∀ n, n < 128 → a.1 64 n = 0 ∧ a.1 65 n = 0) (hr : wa_rr a) (x y z : Int32) : ∃ r a' b', m_Mo_ways a x y z = some (r, a') ∧ m_Rf_ways b x y z = some (r, b') ∧ wa_yA a a' ∧ wa_rr a' ∧ wa_yB b b' := by
  have triv : m_Mo_ways a x y z = some (-1, a) → m_Rf_ways b x y z = some (-1, b) → ∃ r a' b', m_Mo_ways a x y z = some (r, a') ∧ m_Rf_ways b x y z = some (r, b') ∧ wa_yA a a' ∧ wa_rr a' ∧ wa_yB b b' := fun h1 h2 => ⟨-1, a, b, h1, h2, wa_yA_rf, hr, wa_yB_rf⟩
  rcases iq_runs h x with ⟨Γ, how, G, rfl, e1, e2, e3⟩ | ⟨e1, e2⟩
  · have hN := G.1.1.1
    have M := ru_M_of G.2.1 h0 hN how
    by_cases y1 : y < 1
    · refine triv ?_ ?_
      · unfold m_Mo_ways m_Mo_ways_J28
        rw [aw_bd_s e1, if_neg ao_n10, if_pos y1]
      · unfold m_Rf_ways m_Rf_ways_J27
        rw [aw_bd_s e2, if_neg ao_n10, aw_bd_s (show m_Rf_isIn b y 1 60 = some 0 by unfold m_Rf_isIn; rw [if_pos y1]), if_pos rfl]
    · by_cases y2 : 60 < y
      · refine triv ?_ ?_
        · unfold m_Mo_ways m_Mo_ways_J28
          rw [aw_bd_s e1, if_neg ao_n10, if_neg y1, if_pos y2]
        · unfold m_Rf_ways m_Rf_ways_J27
          rw [aw_bd_s e2, if_neg ao_n10, aw_bd_s (show m_Rf_isIn b y 1 60 = some 0 by unfold m_Rf_isIn; rw [if_neg y1, if_pos y2]), if_pos rfl]
      · have hi1 : m_Rf_isIn b y 1 60 = some 1 := by unfold m_Rf_isIn; rw [if_neg y1, if_neg y2]
        by_cases z1 : z < 0
        · refine triv ?_ ?_
          · unfold m_Mo_ways m_Mo_ways_J28
            rw [aw_bd_s e1, if_neg ao_n10, if_neg y1, if_neg y2, if_pos z1]
          · unfold m_Rf_ways m_Rf_ways_J27
            rw [aw_bd_s e2, if_neg ao_n10, aw_bd_s hi1, if_neg ao_n10, aw_bd_s (show m_Rf_isIn b z 0 2 = some 0 by unfold m_Rf_isIn; rw [if_pos z1]), if_pos rfl]
        · have z2c : z ≤ 2 ↔ ¬ 2 < z := by
            rw [Int32.le_iff_toInt_le, Int32.lt_iff_toInt_lt]
            omega
          by_cases z2 : z ≤ 2
          · have hi2 : m_Rf_isIn b z 0 2 = some 1 := by unfold m_Rf_isIn; rw [if_neg z1, if_neg (z2c.mp z2)]
            obtain ⟨L, hL, rfl⟩ : ∃ L : Nat, L ≤ 60 ∧ y = nI L := by
              have y0 : ¬ y < 0 := fun q => y1 (by
                rw [Int32.lt_iff_toInt_lt] at q ⊢
                have e0 : (0 : Int32).toInt = 0 := by decide
                have e1 : (1 : Int32).toInt = 1 := by decide
                omega)
              obtain ⟨j, hj, rfl⟩ := nI_of y0
              exact ⟨j, Nat.le_of_not_lt fun w => y2 (nI_lt (a := 60) w hj), rfl⟩
            obtain ⟨⟨r, b'⟩, eb, yb, v, hv, er⟩ := wa_waysB G.1 G.2.2 how hL z e2 hi1 hi2
            have er : r = if z = 0 then v.1 else if z = 1 then v.2.1.toInt64 else v.2.2.toInt64 := er
            have cnt : ao_ok (m_Wa_count a (ru_by how) (nI L)) (fun t => wa_yA a t ∧ wa_rr t ∧ wa_AA t (wa_y Γ how L)) := by
              rcases hr with hr | hr
              · exact ao_imp (wa_countA G.1 G.2.1.1 M (by unfold wa_q; omega) hr hL) (fun t ht => ⟨ht.1, ht.2.1, ht.2.2⟩)
              · exact ao_imp (wa_countA G.1 G.2.1.1 M (by unfold wa_q; omega) hr hL) (fun t ht => ⟨ht.1, ht.2.1.symm, ht.2.2⟩)
            obtain ⟨t, et, yt, rt, At⟩ := cnt
            have hb := (wa_y_b G.1 how L).1
            obtain ⟨v1, v2⟩ := hv
            refine ⟨r, t, b', ?_, eb, yt, rt, yb⟩
            unfold m_Mo_ways
            rw [aw_bd_s e1, if_neg ao_n10, if_neg y1, if_neg y2, if_neg z1, if_pos z2, aw_bd_s e3, aw_bd_s et, At.1, er]
            by_cases q : z = 0
            · rw [if_pos q, if_pos q, v1]
            · rw [if_neg q, if_neg q]
              by_cases g : (wa_y Γ how L).1 = 0
              · rcases v2 with ⟨_, w2, w3⟩ | ⟨w1, _⟩
                · rw [if_pos ((wa_l0 (by omega)).mpr g), w2, w3]
                  by_cases w : z = 1
                  · rw [if_pos w]; rfl
                  · rw [if_neg w]; rfl
                · exact absurd g w1
              · rcases v2 with ⟨w1, _⟩ | ⟨_, w2, w3⟩
                · exact absurd w1 g
                · rw [if_neg (fun w => g ((wa_l0 (by omega)).mp w)), w2, w3, (At.2 g).1, (At.2 g).2]
                  by_cases w : z = 1
                  · rw [if_pos w, if_pos w]
                  · rw [if_neg w, if_neg w]
          · refine triv ?_ ?_
            · unfold m_Mo_ways m_Mo_ways_J28
              rw [aw_bd_s e1, if_neg ao_n10, if_neg y1, if_neg y2, if_neg z1, if_neg z2]
            · unfold m_Rf_ways m_Rf_ways_J27
              rw [aw_bd_s e2, if_neg ao_n10, aw_bd_s hi1, if_neg ao_n10, aw_bd_s (show m_Rf_isIn b z 0 2 = some 0 by unfold m_Rf_isIn; rw [if_neg z1, if_pos (Classical.byContradiction fun w => z2 (z2c.mpr w))]), if_pos rfl]
  · refine triv ?_ ?_
    · unfold m_Mo_ways m_Mo_ways_J28
      rw [aw_bd_s e1, if_pos rfl]
    · unfold m_Rf_ways m_Rf_ways_J27
      rw [aw_bd_s e2, if_pos rfl]

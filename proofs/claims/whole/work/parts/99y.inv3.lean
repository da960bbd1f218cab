/-! ===== THE CALLS: alike ===== -/
set_option maxHeartbeats 400000 in
theorem i_alike {a b : aw_S} (h : iv_I a b) (x : Int32) : iv_ok (m_Mo_alike a x) (m_Rf_alike b x) := by
  have same : ao_2 (some ((-1 : Int32), a)) (some ((-1 : Int32), b)) (fun p q => p.1 = q.1 ∧ iv_I p.2 q.2) := ao_2s ⟨rfl, h⟩
  unfold m_Mo_alike m_Rf_alike
  rcases iq_runs (iv_P h) x with ⟨Γ, how, G, rfl, e1, e2, e3⟩ | ⟨e1, e2⟩
  · rw [aw_bd_s e1, if_neg ao_n10, aw_bd_s e2, if_neg ao_n10]
    have hN := G.1.1.1
    have M0 := ru_M_of G.2.1 h.1.2.2.2.1 hN none
    have M := ru_M_of G.2.1 h.1.2.2.2.1 hN how
    have R0 := ru_run (o := 87) (by omega) G.1 G.2.1.1 G.2.2 M0 h.2.2.2.2.1
    rw [show ru_by none = 63 from rfl, show ru_hI none = -1 from rfl] at R0
    refine ao_2b (ao_2i R0 ?_)
    rintro s t ⟨w, hw, ⟨yA, yB, l1, l2, l3, l4, l5, l6, l7⟩, q4, q5, q8⟩
    rw [ao_ltr, ao_ltr]
    have e3' : m_Mo_placementBy s (ru_hI how) = some (ru_by how) := e3
    rw [aw_bd_s e3']
    obtain ⟨u, E1, o1, c1⟩ := iv_cpl (f := fun s => m_Rf_alike_B28 s.2 (ru_hI how) (t.1 0 29) (t.1 0 26) s.1) (σ := t) (c := 19) (d := 23) (n := 40) (by omega) (by omega) (fun k s hk => by
      show m_Rf_alike_B28 s (ru_hI how) (t.1 0 29) (t.1 0 26) (nI k) = _
      unfold m_Rf_alike_B28
      rw [if_neg (show ¬ (40 : Int32) ≤ nI k from nI_ge (b := 40) hk (by omega)), ao_gdn hk (by omega), ao_gdn hk (by omega), nI_clamp (by omega), ao_ltr, ao_ltr, nI_1]) (fun s => by
      show m_Rf_alike_B28 s (ru_hI how) (t.1 0 29) (t.1 0 26) (nI 40) = _
      unfold m_Rf_alike_B28
      rw [if_pos (by decide)])
    rw [aw_bd_s E1]
    have FA := iv_runA (by omega) (by omega) yA h.1.2.2.2.2
    have FB : iv_b0 b u := by
      obtain ⟨z1, z2, z3, z4, z5, z6⟩ := iv_runB yB
      have z0 := o1.2 0 (by omega)
      exact ⟨fun j hj => by rw [o1.2 1 (by omega)]; exact z1 j hj, fun c hc => (o1.2 c (by omega)).trans (z2 c hc), by rw [z0]; exact z3, by rw [z0]; exact z4, by rw [z0]; exact z5, by rw [z0]; exact z6⟩
    have G' : iq_G s u Γ := iv_G G FA FB
    have M' : ru_M s Γ how := fun k hk => ag_bt_c (M k hk) (yA.2 _ (by have := ru_by_lt how; omega))
    have told' : ∀ v, v < 26 → s.1 81 v = u.1 15 v := fun v hv => by rw [yA.2 81 (by omega), o1.2 15 (by omega), yB.2.1 15 (by omega) (by omega)]; exact h.2.2.2.2.1 v hv
    refine ao_2b (ao_2i (ru_run (o := 92) (by omega) G'.1 G'.2.1.1 G'.2.2 M' told') ?_)
    rintro s2 t2 ⟨w2, hw2, ⟨yA2, yB2, m1, m2, m3, m4, m5, m6, m7⟩, p4, p5, p8⟩
    have I : iv_I s2 t2 := by
      refine iv_q h ⟨fun c hc => (yA2.2 c (by omega)).trans (yA.2 c (by omega)), by rw [yA2.1, yA.1], by rw [yA2.1, yA.1], iv_wr (iv_wr h.1.2.2.2.2 yA.1) yA2.1, fun Γ K => iv_oK (iv_oK K (fun c p q => yA.2 c (by omega)) (fun c p => yA.2 c (by omega))) (fun c p q => yA2.2 c (by omega)) (fun c p => yA2.2 c (by omega))⟩ ⟨fun c hc => (yB2.2.1 c (by omega) (by omega)).trans ((o1.2 c (by omega)).trans (yB.2.1 c (by omega) (by omega))), fun j hj => (yB2.2.2 j (by omega) (by omega) (by omega) (by omega) (by omega)).trans ((congrFun (o1.2 0 (by omega)) j).trans (yB.2.2 j (by omega) (by omega) (by omega) (by omega) (by omega)))⟩
    -- are the two runs like
    have a4 : s2.1 87 4 = t.1 0 29 := by rw [yA2.2 87 (by omega)]; exact q4
    have a7 : s2.1 87 7 = nI w := by rw [yA2.2 87 (by omega)]; exact l5
    have ao : ∀ k, k < 40 → k < w → s2.1 89 k = t2.1 23 k := fun k hk hkw => by rw [yA2.2 89 (by omega), yB2.2.1 23 (by omega) (by omega), c1 k hk]; exact l7 k hk hkw
    have like : ∃ r, m_Ru_endsAndWroteLike s2 87 92 = some (ao_b r) ∧ (if t2.1 0 29 = t.1 0 29 then (if t2.1 0 26 = t.1 0 26 then aw_bd (aw_lp (fun s => m_Rf_alike_B81 t2 (t.1 0 26) s) aw_fu (0 : Int32)) (fun x29 => Sum.elim (fun y32 => some y32) (fun y33 => some (((1 : Int32), t2))) x29) else some (((0 : Int32), t2))) else some (((0 : Int32), t2))) = some (ao_b r, t2) := by
      unfold m_Ru_endsAndWroteLike
      rw [a4, p4, a7, m5, l6, m6]
      by_cases g1 : t.1 0 29 = t2.1 0 29
      · rw [if_pos g1, if_pos g1.symm]
        by_cases g2 : nI w = nI w2
        · have g2' : w = w2 := (nI_eq (by omega) (by omega)).mp g2
          subst g2'
          rw [if_pos rfl, if_pos rfl]
          refine ⟨∀ k, k < min w 40 → s2.1 89 k = s2.1 94 k, ?_, ?_⟩
          · have key : ao_ok (aw_lp (fun s => m_Ru_endsAndWroteLike_B26 s2 87 92 s) aw_fu (0 : Int32)) (Sum.elim (fun y => y = 0 ∧ ¬ ∀ k, k < min w 40 → s2.1 89 k = s2.1 94 k) (fun (_ : Unit) => ∀ k, k < min w 40 → s2.1 89 k = s2.1 94 k)) := by
              refine ao_for (min w 40) (fun k (z : Int32) => z = nI k ∧ ∀ j, j < k → s2.1 89 j = s2.1 94 j) (a := 0) ⟨rfl, fun j hj => absurd hj (Nat.not_lt_zero _)⟩ (Nat.zero_le _) (by omega) ?_ ?_
              · rintro k z hk ⟨rfl, d⟩
                show ao_ok (m_Ru_endsAndWroteLike_B26 s2 87 92 (nI k)) _
                unfold m_Ru_endsAndWroteLike_B26
                rw [a7, if_neg (nI_ge (by omega) (by omega)), if_neg (show ¬ (40 : Int32) ≤ nI k from nI_ge (b := 40) (by omega) (by omega)), ao_gdn (by omega) (by omega), ao_gdn (by omega) (by omega), nI_clamp (by omega)]
                by_cases v : s2.1 (87 + 2) k = s2.1 (92 + 2) k
                · rw [if_pos v, ao_ltr, nI_1]
                  exact ao_inr ⟨rfl, fun j hj => by by_cases u : j = k; rw [u]; exact v; exact d j (by omega)⟩
                · rw [if_neg v]
                  exact ao_inl ⟨rfl, fun z => v (z k hk)⟩
              · rintro z ⟨rfl, d⟩
                show ao_ok (m_Ru_endsAndWroteLike_B26 s2 87 92 (nI (min w 40))) _
                unfold m_Ru_endsAndWroteLike_B26
                rw [a7]
                by_cases v : w ≤ 40
                · rw [if_pos (nI_le (by omega) (by omega))]; exact ao_inl d
                · rw [if_neg (nI_ge (by omega) (by omega)), if_pos (show (40 : Int32) ≤ nI (min w 40) from nI_le (a := 40) (by omega) (by omega))]; exact ao_inl d
            obtain ⟨z, ez, hz⟩ := key
            rw [aw_bd_s ez]
            rcases z with z | z
            · obtain ⟨rfl, hz⟩ := hz
              rw [ao_b0 hz]; rfl
            · have hz : ∀ k, k < min w 40 → s2.1 89 k = s2.1 94 k := hz
              rw [ao_b1 hz]; rfl
          · have key : ao_ok (aw_lp (fun s => m_Rf_alike_B81 t2 (nI w) s) aw_fu (0 : Int32)) (Sum.elim (fun (y : Int32 × aw_S) => y = (0, t2) ∧ ¬ ∀ k, k < min w 40 → s2.1 89 k = s2.1 94 k) (fun (_ : Unit) => ∀ k, k < min w 40 → s2.1 89 k = s2.1 94 k)) := by
              have le : m_Rf_least t2 (nI w) 40 = some (nI (min w 40)) := by
                unfold m_Rf_least
                by_cases q : 40 ≤ w
                · rw [if_pos (show (40 : Int32) ≤ nI w from nI_le (a := 40) q (by omega)), show min w 40 = 40 by omega]; rfl
                · rw [if_neg (show ¬ (40 : Int32) ≤ nI w from nI_ge (b := 40) (by omega) (by omega)), show min w 40 = w by omega]
              refine ao_for (min w 40) (fun k (z : Int32) => z = nI k ∧ ∀ j, j < k → s2.1 89 j = s2.1 94 j) (a := 0) ⟨rfl, fun j hj => absurd hj (Nat.not_lt_zero _)⟩ (Nat.zero_le _) (by omega) ?_ ?_
              · rintro k z hk ⟨rfl, d⟩
                show ao_ok (m_Rf_alike_B81 t2 (nI w) (nI k)) _
                unfold m_Rf_alike_B81
                rw [aw_bd_s le, if_neg (nI_ge hk (by omega)), ao_gdn (by omega) (by omega), ao_gdn (by omega) (by omega), nI_clamp (by omega)]
                have eq : t2.1 19 k = t2.1 23 k ↔ s2.1 89 k = s2.1 94 k := by
                  rw [ao k (by omega) (by omega), show s2.1 94 k = t2.1 19 k from m7 k (by omega) (by omega)]
                  exact ⟨fun z => z.symm, fun z => z.symm⟩
                by_cases v : t2.1 19 k = t2.1 23 k
                · rw [if_pos v, ao_ltr, nI_1]
                  exact ao_inr ⟨rfl, fun j hj => by by_cases u : j = k; rw [u]; exact eq.mp v; exact d j (by omega)⟩
                · rw [if_neg v]
                  exact ao_inl ⟨rfl, fun z => v (eq.mpr (z k hk))⟩
              · rintro z ⟨rfl, d⟩
                show ao_ok (m_Rf_alike_B81 t2 (nI w) (nI (min w 40))) _
                unfold m_Rf_alike_B81
                rw [aw_bd_s le, if_pos (nI_le (Nat.le_refl _) (by omega))]
                exact ao_inl d
            obtain ⟨z, ez, hz⟩ := key
            rw [aw_bd_s ez]
            rcases z with z | z
            · obtain ⟨rfl, hz⟩ := hz
              rw [ao_b0 hz]; rfl
            · have hz : ∀ k, k < min w 40 → s2.1 89 k = s2.1 94 k := hz
              rw [ao_b1 hz]; rfl
        · rw [if_neg g2, if_neg (fun z => g2 z.symm)]
          exact ⟨False, by rw [ao_b0 id], by rw [ao_b0 id]⟩
      · rw [if_neg g1, if_neg (fun z => g1 z.symm)]
        exact ⟨False, by rw [ao_b0 id], by rw [ao_b0 id]⟩
    obtain ⟨r, r1, r2⟩ := like
    rw [aw_bd_s r1, r2]
    refine ao_2l (v := ao_b r) ?_ (ao_2s ⟨rfl, I⟩)
    unfold m_Mo_oneIf
    by_cases q : r
    · rw [ao_b1 q, if_neg ao_n10]
    · rw [ao_b0 q, if_pos rfl]
  · rw [aw_bd_s e1, if_pos rfl, aw_bd_s e2, if_pos rfl]
    exact same

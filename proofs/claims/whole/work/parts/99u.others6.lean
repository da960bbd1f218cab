/-! ===== OTHERS: both alike ===== -/
/-- what is known, is so -/
def ot_K (a : aw_S) (Γ : ag_T) : Prop := ag_N Γ ≤ 12 → ∀ e, e < ag_X Γ → ao_t (a.1 105 6) e → ∀ j, j < 4 → a.1 (107 + e) j = ot_v Γ e j
def ot_fr (σ s : aw_S) : Prop := s.2 = σ.2 ∧ (∀ c, c < 105 ∨ 135 < c → s.1 c = σ.1 c) ∧ ∀ j, j < 6 → s.1 105 j = σ.1 105 j
theorem iq_soG {a b : aw_S} {Γ : ag_T} (G : iq_G a b Γ) (x : Int32) : (∃ e, ag_sound Γ ∧ e < ag_X Γ ∧ x = nI e ∧ m_Mo_isSoundOne a x = some 1 ∧ b.1 0 16 = 1 ∧ m_Rf_isExpression b x = some 1) ∨ (m_Mo_isSoundOne a x = some 0 ∧ (b.1 0 16 = 0 ∨ (b.1 0 16 = 1 ∧ m_Rf_isExpression b x = some 0))) := by
  unfold m_Mo_isSoundOne
  have e1 : a.1 41 12 = ao_b (ag_sound Γ) := G.2.1.2.1.2.2.2
  have e2 : b.1 0 16 = ao_b (ag_sound Γ) := G.2.2.2.2.2.2.2.2.2.1
  by_cases s : ag_sound Γ
  · rw [e1, e2, ao_b1 s, if_neg ao_n10]
    have hX := G.1.2.2.2.2.2.2.1
    have e3 := G.2.1.1.2.2.2.1
    have e4 := G.2.2.1.2.2.2.2.2.2.1
    by_cases q : ∃ n, n < ag_X Γ ∧ x = nI n
    · obtain ⟨e, he, rfl⟩ := q
      exact Or.inl ⟨e, s, he, rfl, by rw [aw_bd_s (ag_isOne e3 hX he), if_neg ao_n10], rfl, iq_exp1 e4 he hX⟩
    · exact Or.inr ⟨by rw [aw_bd_s (ag_isOne0 e3 hX q), if_pos rfl], Or.inr ⟨rfl, iq_exp0 e4 q hX⟩⟩
  · rw [e1, e2, ao_b0 s]
    exact Or.inr ⟨if_pos rfl, Or.inl rfl⟩
set_option maxHeartbeats 2000000 in
theorem q_others {a b : aw_S} (h : iq_0 a b ∨ ∃ Γ, iq_G a b Γ ∧ ot_K a Γ) (x y : Int32) : ao_2 (m_Mo_others a x y) (m_Rf_others b x y) (fun p q => p.1 = q.1 ∧ ot_fr a p.2 ∧ ot_z b q.2 ∧ ∀ Γ, iq_G a b Γ → ot_K a Γ → ot_K p.2 Γ) := by
  have same : ao_2 (some ((-2 : Int32), a)) (some ((-2 : Int32), b)) (fun p q => p.1 = q.1 ∧ ot_fr a p.2 ∧ ot_z b q.2 ∧ ∀ Γ, iq_G a b Γ → ot_K a Γ → ot_K p.2 Γ) := ao_2s ⟨rfl, ⟨rfl, fun _ _ => rfl, fun _ _ => rfl⟩, ot_z_rf, fun _ _ h => h⟩
  unfold m_Mo_others m_Rf_others
  rcases h with h | ⟨Γ, G, K⟩
  · have e1 : m_Mo_isSoundOne a x = some 0 := by unfold m_Mo_isSoundOne; rw [h.1.2.2.2.1, if_pos rfl]
    rw [aw_bd_s e1, if_pos rfl, if_pos h.2.2.2.1]
    exact same
  · rcases iq_soG G x with ⟨e, s, he, rfl, e1, e2, e3⟩ | ⟨e1, e2⟩
    · have hN := G.1.1.1
      have hX := G.1.2.2.2.2.2.2.1
      have eN : a.1 24 13 = nI (ag_N Γ) := G.2.1.1.1.2.1
      have eB : b.1 0 14 = nI (ag_N Γ) := G.2.2.1.1.2.1
      rw [aw_bd_s e1, if_neg ao_n10, if_neg (show ¬ b.1 0 16 = 0 by rw [e2]; exact ao_n10), eN, eB]
      by_cases hw : ∃ w, w < 4 ∧ y = nI w
      · obtain ⟨w, hw, rfl⟩ := hw
        rw [if_neg (nI_pos (by omega)), if_neg (show ¬ (3 : Int32) < nI w from nI_nlt (a := 3) (by omega) (by omega))]
        by_cases h12 : ag_N Γ ≤ 12
        · rw [if_pos (show nI (ag_N Γ) ≤ (12 : Int32) from nI_le (b := 12) h12 (by omega)), if_neg (show ¬ (12 : Int32) < nI (ag_N Γ) from nI_nlt (a := 12) h12 (by omega)), aw_bd_s e3, if_neg ao_n10, aw_bd_s (iq_isIn1 b (N := 4) (by decide) hw (by omega)), if_neg ao_n10]
          obtain ⟨z, ez, hz, yz⟩ := ot_tryB G.1 G.2.2 ot_z_rf he h12 (nI w)
          have R : ∃ z', (aw_bd (aw_lp (fun s => m_Rf_others_B50 s.2.2.2.2.2 (nI e) (nI w) s.1 s.2.1 s.2.2.1 s.2.2.2.1 s.2.2.2.2.1) aw_fu ((0 : Int32), (0 : Int32), (-1 : Int32), (-1 : Int32), (0 : Int32), b)) (fun x32 => if nI w = 0 then some ((x32.1, x32.2.2.2.2)) else if nI w = (1 : Int32) then some ((x32.2.1, x32.2.2.2.2)) else if nI w = (2 : Int32) then some ((x32.2.2.1, x32.2.2.2.2)) else some ((x32.2.2.2.1, x32.2.2.2.2)))) = some (ot_v Γ e w, z') ∧ ot_z b z' := by
            rw [aw_bd_s ez]
            refine ⟨z.2.2.2.2, ?_, yz⟩
            have H : z.1 = (ot_st Γ e (2 ^ ag_N Γ)).1 ∧ z.2.1 = (ot_st Γ e (2 ^ ag_N Γ)).2.1 ∧ z.2.2.1 = (ot_st Γ e (2 ^ ag_N Γ)).2.2.1 ∧ z.2.2.2.1 = (ot_st Γ e (2 ^ ag_N Γ)).2.2.2 := by
              rw [← hz]; exact ⟨rfl, rfl, rfl, rfl⟩
            rcases (show w = 0 ∨ w = 1 ∨ w = 2 ∨ w = 3 by omega) with rfl | rfl | rfl | rfl
            · rw [if_pos (by decide)]; exact congrArg (fun u => some (u, z.2.2.2.2)) H.1
            · rw [if_neg (by decide), if_pos (by decide)]; exact congrArg (fun u => some (u, z.2.2.2.2)) H.2.1
            · rw [if_neg (by decide), if_neg (by decide), if_pos (by decide)]; exact congrArg (fun u => some (u, z.2.2.2.2)) H.2.2.1
            · rw [if_neg (by decide), if_neg (by decide), if_neg (by decide)]; exact congrArg (fun u => some (u, z.2.2.2.2)) H.2.2.2
          obtain ⟨z', e', yz'⟩ := R
          have A : ao_ok (m_Ot_answer a (nI e) (nI w)) (fun p => p.1 = ot_v Γ e w ∧ ot_fr a p.2 ∧ ot_K p.2 Γ) := by
            have J : ∀ s : aw_S, s.1 (107 + e) w = ot_v Γ e w → ot_fr a s → ot_K s Γ → ao_ok (m_Ot_answer_J77 s (nI e) (nI w)) (fun p => p.1 = ot_v Γ e w ∧ ot_fr a p.2 ∧ ot_K p.2 Γ) := by
              intro s h1 h2 h3
              unfold m_Ot_answer_J77
              have ea : aw_answ e = some (107 + e) := if_pos (by omega)
              rw [ao_gdn (by omega) (by omega), nI_clamp (by omega), aw_bd_s ea, ao_gdn hw (by omega), nI_clamp (by omega)]
              exact ao_some ⟨h1, h2, h3⟩
            unfold m_Ot_answer
            rw [if_neg (nI_pos (by omega)), if_neg (show ¬ (24 : Int32) ≤ nI e from nI_ge (b := 24) (by omega) (by omega)), if_neg (nI_pos (by omega)), if_neg (show ¬ (4 : Int32) ≤ nI w from nI_ge (b := 4) hw (by omega)), eN, if_pos (show nI (ag_N Γ) ≤ (12 : Int32) from nI_le (b := 12) h12 (by omega)), aw_bd_s (ag_bitOf a _ (by omega))]
            by_cases q : ao_t (a.1 105 6) e
            · rw [ao_b1 q, if_neg ao_n10]
              exact J a (K h12 e he q w hw) ⟨rfl, fun _ _ => rfl, fun _ _ => rfl⟩ K
            · rw [ao_b0 q, if_pos rfl]
              refine ao_bd (ao_imp (ot_takeGraph G.2.1.1.1 h12) ?_)
              rintro s15 ⟨y15, g15⟩
              have F15 : ag_FA s15 Γ := ag_FA_fr G.2.1.2.1 (fun k h1 h2 => y15.2.1 k (by omega) (by omega)) (congrFun (y15.2.1 41 (by omega) (by omega)) 12)
              refine ao_bd (ao_imp (ot_takeFacts h12 F15 he hX g15) ?_)
              rintro s18 ⟨y18, T18⟩
              have y18 : ot_y a s18 := ot_y_tr y15 y18
              have ea : aw_answ e = some (107 + e) := if_pos (by omega)
              rw [ao_gdn (by omega) (by omega), nI_clamp (by omega), aw_bd_s ea]
              refine ao_bd (ao_imp (ot_tryA G.1 T18 h12 (w := 107 + e) (by omega)) ?_)
              rintro s24 ⟨l24, f24, d24⟩
              have k105 : s24.1 105 = s18.1 105 := f24 105 (by omega) (by omega)
              have k6 : s24.1 105 6 = a.1 105 6 := by rw [k105]; exact y18.2.2 6 (by omega)
              rw [ao_ltr]
              refine J _ ?_ ⟨l24.trans y18.1, fun c hc => ?_, fun j hj => ?_⟩ (fun _ e' he' q' j hj => ?_)
              · rw [ao_sI_o (by omega)]; exact d24 w hw
              · rw [ao_sI_o (by omega), f24 c (by omega) (by omega)]; exact y18.2.1 c (by omega) (by omega)
              · rw [ao_sI_i (by omega), k105]; exact y18.2.2 j (by omega)
              · rw [ao_sI_s, ao_t_or, ao_t_one (by omega) (by omega), k6] at q'
                rw [ao_sI_o (by omega)]
                by_cases u : e' = e
                · rw [u]; exact d24 j hj
                · rw [f24 _ (by omega) (by omega), y18.2.1 _ (by omega) (by omega)]
                  exact K h12 e' he' (q'.elim id (fun z => absurd z u)) j hj
          obtain ⟨⟨r, s⟩, ea, er, fr, Ks⟩ := A
          rw [aw_bd2_s ea, e']
          refine ao_2s ⟨er, fr, yz', fun Γ' G' K' => ?_⟩
          intro h12' e2 he2 q2 j hj
          -- another graph that both hold: its answers are the same, for it is held as well
          obtain ⟨z2, ez2, hz2, _⟩ := ot_tryB G.1 G.2.2 ot_z_rf (e := e2) (by
            have : nI (ag_X Γ') = nI (ag_X Γ) := G'.2.1.1.2.2.2.1.symm.trans G.2.1.1.2.2.2.1
            have := (nI_eq (by have := G'.1.2.2.2.2.2.2.1; omega) (by omega)).mp this
            omega) h12 (nI w)
          obtain ⟨z3, ez3, hz3, _⟩ := ot_tryB G'.1 G'.2.2 ot_z_rf he2 h12' (nI w)
          have E : z2 = z3 := Option.some.inj (ez2.symm.trans ez3)
          have hst : ot_st Γ e2 (2 ^ ag_N Γ) = ot_st Γ' e2 (2 ^ ag_N Γ') := by rw [← hz2, ← hz3, E]
          have hv : ot_v Γ e2 j = ot_v Γ' e2 j := by
            unfold ot_v
            rw [hst]
          rw [← hv]
          exact Ks h12 e2 (by
            have : nI (ag_X Γ') = nI (ag_X Γ) := G'.2.1.1.2.2.2.1.symm.trans G.2.1.1.2.2.2.1
            have := (nI_eq (by have := G'.1.2.2.2.2.2.2.1; omega) (by omega)).mp this
            omega) q2 j hj
        · rw [if_neg (show ¬ nI (ag_N Γ) ≤ (12 : Int32) from nI_ge (a := 12) (by omega) (by omega)), if_pos (show (12 : Int32) < nI (ag_N Γ) from nI_lt (a := 12) (by omega) (by omega))]
          exact same
      · have hin := iq_isIn0 b (N := 4) (by decide : (3 : Int32) = nI 4 - 1) hw (by omega)
        have LHS : (if y < 0 then some ((-2 : Int32), a) else if (3 : Int32) < y then some ((-2 : Int32), a) else if nI (ag_N Γ) ≤ (12 : Int32) then aw_bd2 (m_Ot_answer a (nI e) y) (fun r7 s9 => some ((r7, s9))) else some ((-2 : Int32), a)) = some ((-2 : Int32), a) := by
          by_cases y0 : y < 0
          · rw [if_pos y0]
          · obtain ⟨j, hj, rfl⟩ := nI_of y0
            have : 4 ≤ j := Nat.le_of_not_lt fun q => hw ⟨j, q, rfl⟩
            rw [if_neg y0, if_pos (show (3 : Int32) < nI j from nI_lt (a := 3) (by omega) hj)]
        rw [LHS]
        by_cases q : (12 : Int32) < nI (ag_N Γ)
        · rw [if_pos q]; exact same
        · rw [if_neg q, aw_bd_s e3, if_neg ao_n10, aw_bd_s hin, if_pos rfl]
          exact same
    · rw [aw_bd_s e1, if_pos rfl]
      rcases e2 with e2 | ⟨e2, e3⟩
      · rw [if_pos e2]; exact same
      · rw [if_neg (show ¬ b.1 0 16 = 0 by rw [e2]; exact ao_n10)]
        by_cases q : (12 : Int32) < b.1 0 14
        · rw [if_pos q]; exact same
        · rw [if_neg q, aw_bd_s e3, if_pos rfl]
          exact same

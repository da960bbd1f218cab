/-! ===== THE PARSE: a statement and its ; ===== -/
set_option maxHeartbeats 4000000 in
theorem pz_stm {L : Nat} {t : Nat → Nat} (T : pz_T L t) {z : pz_Z} (hw : pz_wf L z) (hB : ap_B z.2.1 < 16) (hs : pz_in 97 122 (pz_h L t z.1) ∨ pz_h L t z.1 = some 33) : ∃ o, pz_ow L z.1 o ∧ (∀ z', o = .inr z' → ap_B z'.2.1 = ap_B z.2.1 ∧ ap_S z'.2.1 = ap_S z.2.1 + 1) ∧
    (∀ σ0 σ : aw_S, pz_TA σ0 9 L t → pz_A σ0 z σ → ao_ok (m_Re_readStatement σ) (fun x => (x.1 = 0 ∧ pz_oA σ0 o x) ∨ (x.1 = 1 ∧ ao_ok (m_Re_take x.2 (nI 59)) (pz_oA σ0 o)))) ∧
    ∀ σ0 σ : aw_S, pz_TB σ0 L t → pz_B σ0 z σ → ao_ok (m_Rf_readStatement σ) (pz_oB σ0 o) := by
  obtain ⟨p, Ψ, q1, q2⟩ := z
  have hB : ap_B Ψ < 16 := hB
  have hs : pz_in 97 122 (pz_h L t p) ∨ pz_h L t p = some 33 := hs
  obtain ⟨hp, hP, hq⟩ := hw
  have hp : p ≤ L := hp
  have hP : pz_pw Ψ := hP
  have hq : ∀ b, b < ap_B Ψ → q1 b ≤ L ∧ q2 b ≤ L := hq
  have hL := T.1
  have hS60 := hP.2.1
  by_cases hS : ap_S Ψ < 60
  · obtain ⟨c, ec, hc⟩ : ∃ c, pz_h L t p = some c ∧ (c = 33 ∨ (97 ≤ c ∧ c ≤ 122)) := by
      rcases hs with ⟨c, e, h1, h2⟩ | e
      · exact ⟨c, e, Or.inr ⟨h1, h2⟩⟩
      · exact ⟨33, e, Or.inl rfl⟩
    have hcL := pz_h_some T ec
    -- how both begin
    have UA : ∀ σ0 σ : aw_S, pz_A σ0 (p, Ψ, q1, q2) σ → pz_Ac σ0 Ψ q1 q2 (aw_sI (aw_sI σ 8 13 (nI (ap_S Ψ + 1))) 8 14 (nI (p + 1))) ∧ (aw_sI (aw_sI σ 8 13 (nI (ap_S Ψ + 1))) 8 14 (nI (p + 1))).1 8 14 = nI (p + 1) ∧ (aw_sI (aw_sI σ 8 13 (nI (ap_S Ψ + 1))) 8 14 (nI (p + 1))).1 8 13 = nI (ap_S Ψ + 1) := fun σ0 σ R =>
      ⟨pz_Ac_fr R.1 rfl (fun k hk => by rw [ao_sI_o hk, ao_sI_o hk]) (fun j h1 h2 => by rw [ao_sI_i h2, ao_sI_i h1]), ao_sI_s _ _ _ _, by rw [ao_sI_i (by omega), ao_sI_s]⟩
    have UB : ∀ σ0 σ : aw_S, pz_B σ0 (p, Ψ, q1, q2) σ → pz_Bc σ0 Ψ q1 q2 (aw_sI (aw_sI σ 0 3 (nI (p + 1))) 1 (1360 + (64 + ap_S Ψ)) (-1)) ∧ (aw_sI (aw_sI σ 0 3 (nI (p + 1))) 1 (1360 + (64 + ap_S Ψ)) (-1)).1 0 3 = nI (p + 1) ∧ (aw_sI (aw_sI σ 0 3 (nI (p + 1))) 1 (1360 + (64 + ap_S Ψ)) (-1)).1 1 (1360 + (64 + ap_S Ψ)) = -1 := fun σ0 σ R =>
      ⟨pz_Bc_put (pz_Bc_m R.1 (pz_mB_3 (pz_mB_0 R.2))) hP (by omega), by rw [ao_sI_o (by omega), ao_sI_s], ao_sI_s _ _ _ _⟩
    have WA : ∀ (σ0 σ : aw_S) (Q : Int32 × aw_S → Prop), pz_TA σ0 9 L t → pz_A σ0 (p, Ψ, q1, q2) σ → ao_ok (if nI c = (33 : Int32) then aw_bd2 (m_Re_readOperand (aw_sI (aw_sI σ 8 13 (nI (ap_S Ψ + 1))) 8 14 (nI (p + 1)))) (fun r15 s17 => if r15 = (-1 : Int32) then some (((0 : Int32), s17)) else aw_bd2 (m_Re_addStatement s17 ((3 : Int32)) ((-1 : Int32)) r15 ((-1 : Int32))) (fun r19 s21 => if r19 = 0 then some (((0 : Int32), s21)) else some (((1 : Int32), s21)))) else aw_bd2 (m_Re_take (aw_sI (aw_sI σ 8 13 (nI (ap_S Ψ + 1))) 8 14 (nI (p + 1))) ((61 : Int32))) (fun r7 s9 => if r7 = 0 then some (((0 : Int32), s9)) else aw_bd2 (m_Re_readRightSide s9 ((nI c - (97 : Int32)))) (fun r11 s13 => if r11 = 0 then some (((0 : Int32), s13)) else some (((1 : Int32), s13))))) Q → ao_ok (m_Re_readStatement σ) Q := by
      intro σ0 σ Q h R hQ
      have e14 : σ.1 8 14 = nI p := R.2.1
      have e13 : σ.1 8 13 = nI (ap_S Ψ) := R.2.2
      have e14' : (aw_sI σ 8 13 (nI (ap_S Ψ + 1))).1 8 14 = nI p := (ao_sI_i (by omega)).trans e14
      have h' : pz_TA (aw_sI σ 8 13 (nI (ap_S Ψ + 1))) 9 L t := pz_TA_y h ⟨R.1.1.1, fun k hk => by rw [ao_sI_o (by omega)]; exact R.1.1.2 k hk⟩
      unfold m_Re_readStatement
      rw [e13, if_pos (show nI (ap_S Ψ) < (60 : Int32) from nI_lt (b := 60) hS (by omega)), nI_1]
      refine ao_let ?_
      rw [e14', aw_bd_s (pz_at T h' (by omega)), ec, nI_1]
      exact ao_let hQ
    have WB : ∀ (σ0 σ : aw_S) (Q : Int32 × aw_S → Prop), pz_TB σ0 L t → pz_B σ0 (p, Ψ, q1, q2) σ → ao_ok (if nI c = (33 : Int32) then aw_bd2 (m_Rf_readA (aw_sI (aw_sI σ 0 3 (nI (p + 1))) 1 (1360 + (64 + ap_S Ψ)) (-1))) (fun r29 s31 => if r29 = 0 then some (((0 : Int32), s31)) else aw_bd (m_Rf_put s31 (((4 : Int32) + nI (ap_S Ψ))) ((3 : Int32))) (fun s35 => aw_bd (m_Rf_put s35 (((124 : Int32) + nI (ap_S Ψ))) ((s35.1 0 5))) (fun s38 => m_Rf_readStatement_J114 s38 (nI (ap_S Ψ))))) else aw_bd (m_Rf_put (aw_sI (aw_sI σ 0 3 (nI (p + 1))) 1 (1360 + (64 + ap_S Ψ)) (-1)) (((64 : Int32) + nI (ap_S Ψ))) ((nI c - (97 : Int32)))) (fun s13 => aw_bd2 (m_Rf_takes s13 ((61 : Int32))) (fun r14 s16 => if r14 = 0 then some (((0 : Int32), s16)) else aw_bd2 (m_Rf_readWorth s16 (nI (ap_S Ψ))) (fun r18 s20 => if r18 = 0 then some (((0 : Int32), s20)) else m_Rf_readStatement_J114 s20 (nI (ap_S Ψ)))))) Q → ao_ok (m_Rf_readStatement σ) Q := by
      intro σ0 σ Q h R hQ
      have e3 : σ.1 0 3 = nI p := R.2
      have eS : σ.1 1 (1360 + 1) = nI (ap_S Ψ) := R.1.2.2.1.2.1
      unfold m_Rf_readStatement
      rw [show (1 : Int32) = nI 1 from rfl, aw_bd_s (pz_read (by omega)), eS, if_neg (show ¬ nI (ap_S Ψ) = (60 : Int32) from fun y => by have := (nI_eq (a := ap_S Ψ) (b := 60) (by omega) (by omega)).mp y; omega), aw_bd_s (pz_here T (pz_TB_y h R.1.1) e3 (by omega)), ec, e3, nI_add]
      refine ao_let ?_
      rw [show (64 : Int32) = nI 64 from rfl, nI_add, aw_bd_s (pz_put (by omega))]
      rw [show (64 : Int32) = nI 64 from rfl, nI_add] at hQ
      exact hQ
    -- a statement more, in the reference, and its ;
    have JB : ∀ (σ0 s : aw_S) (Ψ' : ap_T) (p' k r : Nat) (v : Option Nat), p' ≤ L → pz_TB σ0 L t → pz_pw Ψ' → ap_S Ψ' = ap_S Ψ → pz_Bc σ0 Ψ' q1 q2 s → s.1 0 3 = nI p' → s.1 1 (1360 + (4 + ap_S Ψ)) = nI k → s.1 1 (1360 + (64 + ap_S Ψ)) = ao_o v → s.1 1 (1360 + (124 + ap_S Ψ)) = nI r → ao_ok (m_Rf_readStatement_J114 s (nI (ap_S Ψ))) (pz_oB σ0 (pz_tk L t 59 (p', pz_addS Ψ' k v r, q1, q2))) := by
      intro σ0 s Ψ' p' k r v hp' h hw' hS' R e3 ek ev er
      unfold m_Rf_readStatement_J114
      rw [show (1 : Int32) = nI 1 from rfl, nI_add, aw_bd_s (pz_put (by omega))]
      rw [← hS'] at ek ev er ⊢
      refine ao_bd2 (ao_imp (pz_takeB (c := 59) (z := (p', pz_addS Ψ' k v r, q1, q2)) T hp' h ⟨pz_addSB hw' (by omega) R ek ev er, by rw [ao_sI_o (by omega)]; exact e3⟩ (by omega)) ?_)
      rintro ⟨x, s'⟩ hx
      refine ao_gd ?_ (ao_some hx)
      unfold pz_oB at hx
      revert hx
      cases pz_tk L t 59 (p', pz_addS Ψ' k v r, q1, q2) with
      | inl q => exact fun hx => Or.inl hx.1
      | inr y => exact fun hx => Or.inr hx.1
    have tkB : ∀ (z : pz_Z) z', pz_tk L t 59 z = .inr z' → z'.2 = z.2 := by
      intro z z' hz
      unfold pz_tk at hz
      by_cases y : pz_h L t z.1 = some 59
      · rw [if_pos y] at hz; cases hz; rfl
      · rw [if_neg y] at hz; cases hz
    by_cases c33 : c = 33
    · subst c33
      obtain ⟨o1, w1, oA1, oB1⟩ := pz_operand (p := p + 1) T (by omega)
      cases o1 with
      | inl q =>
        refine ⟨.inl q, w1, fun z' e => (by cases e), fun σ0 σ h R => WA σ0 σ _ h R (ao_ifp rfl (ao_bd2 (ao_imp (oA1 _ (pz_TA_y h (UA σ0 σ R).1.1) (UA σ0 σ R).2.1) ?_))), fun σ0 σ h R => WB σ0 σ _ h R (ao_ifp rfl (ao_bd2 (ao_imp (oB1 _ (pz_TB_y h (UB σ0 σ R).1.1) (UB σ0 σ R).2.1) ?_)))⟩
        · rintro ⟨x, s⟩ ⟨e1, f⟩
          have e1 : x = -1 := e1
          subst e1
          exact ao_ifp rfl (ao_some (Or.inl ⟨rfl, rfl, pz_Ac_f (UA σ0 σ R).1 f⟩))
        · rintro ⟨x, s⟩ ⟨e1, f⟩
          have e1 : x = 0 := e1
          subst e1
          exact ao_ifp rfl (ao_some ⟨rfl, pz_Bc_f (UB σ0 σ R).1 f⟩)
      | inr y =>
        obtain ⟨p1, a⟩ := y
        obtain ⟨w1, w2, w3⟩ := w1
        have w1 : p + 1 < p1 := w1
        have w2 : p1 ≤ L := w2
        have w3 : a < 1026 := w3
        refine ⟨pz_tk L t 59 (p1, pz_addS Ψ 3 none a, q1, q2), pz_tk_w T ⟨w2, pz_addS_w hP hS (Or.inr (Or.inr ⟨rfl, rfl, w3⟩)), hq⟩ (by show p ≤ p1; omega), fun z' e => by rw [tkB _ z' e]; exact ⟨rfl, rfl⟩, fun σ0 σ h R => WA σ0 σ _ h R (ao_ifp rfl (ao_bd2 (ao_imp (oA1 _ (pz_TA_y h (UA σ0 σ R).1.1) (UA σ0 σ R).2.1) ?_))), fun σ0 σ h R => WB σ0 σ _ h R (ao_ifp rfl (ao_bd2 (ao_imp (oB1 _ (pz_TB_y h (UB σ0 σ R).1.1) (UB σ0 σ R).2.1) ?_)))⟩
        · rintro ⟨x, s⟩ ⟨e1, f⟩
          have e1 : x = nI a := e1
          subst e1
          have R1 := pz_Ac_m (UA σ0 σ R).1 f
          refine ao_ifn (ao_m1 (by omega)) (ao_bd2 (ao_imp (pz_addSA hP hS hB R1 (k := 3) (v := none) (r := a) rfl rfl rfl rfl) ?_))
          rintro ⟨x, s'⟩ ⟨e1, R3, f3, g3⟩
          have e1 : x = 1 := e1
          subst e1
          refine ao_ifn ao_n10 (ao_some (Or.inr ⟨rfl, pz_takeA (z := (p1, pz_addS Ψ 3 none a, q1, q2)) T w2 h ⟨R3, f3.trans f.2.2.2, g3.trans ((f.2.2.1 13 (by omega)).trans (UA σ0 σ R).2.2)⟩ (by omega)⟩))
        · rintro ⟨x, s⟩ ⟨e1, f, g⟩
          have e1 : x = 1 := e1
          subst e1
          have g : s.1 0 5 = nI a := g
          have R1 := pz_Bc_m (UB σ0 σ R).1 f
          refine ao_ifn ao_n10 ?_
          show ao_ok (aw_bd (m_Rf_put s (4 + nI (ap_S Ψ)) 3) _) _
          rw [show (4 : Int32) = nI 4 from rfl, nI_add, aw_bd_s (pz_put (by omega)), show (124 : Int32) = nI 124 from rfl, nI_add, aw_bd_s (pz_put (by omega)), show (aw_sI s 1 (1360 + (4 + ap_S Ψ)) 3).1 0 5 = nI a from by rw [ao_sI_o (by omega)]; exact g]
          refine JB σ0 _ Ψ p1 3 a none w2 h hP rfl (pz_Bc_put (pz_Bc_put R1 hP (by omega)) hP (by omega)) ?_ ?_ ?_ (ao_sI_s _ _ _ _)
          · simp (disch := omega) only [ao_sI_o]; exact f.2.2.2
          · simp (disch := omega) only [ao_sI_i, ao_sI_s]; rfl
          · simp (disch := omega) only [ao_sI_i]
            rw [f.2.1 1 (by omega)]
            exact (UB σ0 σ R).2.2
    · have hc1 : 97 ≤ c := by omega
      have hc2 : c ≤ 122 := by omega
      have n33 : ¬ nI c = (33 : Int32) := fun y => c33 ((nI_eq (b := 33) (by omega) (by omega)).mp y)
      have s97 : nI c - (97 : Int32) = nI (c - 97) := by rw [show (97 : Int32) = nI 97 from rfl, pk_sub (by omega)]
      have VB : ∀ σ0 σ : aw_S, pz_B σ0 (p, Ψ, q1, q2) σ → pz_Bc σ0 Ψ q1 q2 (aw_sI (aw_sI (aw_sI σ 0 3 (nI (p + 1))) 1 (1360 + (64 + ap_S Ψ)) (-1)) 1 (1360 + (64 + ap_S Ψ)) (nI (c - 97))) ∧ (aw_sI (aw_sI (aw_sI σ 0 3 (nI (p + 1))) 1 (1360 + (64 + ap_S Ψ)) (-1)) 1 (1360 + (64 + ap_S Ψ)) (nI (c - 97))).1 0 3 = nI (p + 1) := fun σ0 σ R =>
        ⟨pz_Bc_put (UB σ0 σ R).1 hP (by omega), by rw [ao_sI_o (by omega)]; exact (UB σ0 σ R).2.1⟩
      have WB' : ∀ (σ0 σ : aw_S) (Q : Int32 × aw_S → Prop), pz_TB σ0 L t → pz_B σ0 (p, Ψ, q1, q2) σ → ao_ok (aw_bd2 (m_Rf_takes (aw_sI (aw_sI (aw_sI σ 0 3 (nI (p + 1))) 1 (1360 + (64 + ap_S Ψ)) (-1)) 1 (1360 + (64 + ap_S Ψ)) (nI (c - 97))) ((61 : Int32))) (fun r14 s16 => if r14 = 0 then some (((0 : Int32), s16)) else aw_bd2 (m_Rf_readWorth s16 (nI (ap_S Ψ))) (fun r18 s20 => if r18 = 0 then some (((0 : Int32), s20)) else m_Rf_readStatement_J114 s20 (nI (ap_S Ψ))))) Q → ao_ok (m_Rf_readStatement σ) Q := by
        intro σ0 σ Q h R hQ
        refine WB σ0 σ Q h R (ao_ifn n33 ?_)
        rw [s97, show (64 : Int32) = nI 64 from rfl, nI_add, aw_bd_s (pz_put (by omega))]
        exact hQ
      by_cases e61 : pz_h L t (p + 1) = some 61
      · have hL1 := (pz_h_some T e61).1
        obtain ⟨o2, ow, oA2, oB2⟩ := pz_rhs (p := p + 1 + 1) T (by omega) hP hS hB
        have XA : ∀ (σ0 σ : aw_S) (Q : Int32 × aw_S → Prop), pz_TA σ0 9 L t → pz_A σ0 (p, Ψ, q1, q2) σ → (∀ s x, pz_ra σ0 q1 q2 (c - 97) s o2 x → s.1 8 13 = nI (ap_S Ψ + 1) → ao_ok (if x.1 = 0 then some ((0 : Int32), x.2) else some ((1 : Int32), x.2)) Q) → ao_ok (m_Re_readStatement σ) Q := by
          intro σ0 σ Q h R hQ
          refine WA σ0 σ Q h R (ao_ifn n33 (ao_bd2 (ao_imp (pz_take0A (c := 61) T (pz_TA_y h (UA σ0 σ R).1.1) (by omega) (UA σ0 σ R).2.1 (by omega)) ?_)))
          rintro ⟨x, s⟩ (⟨_, e1, m⟩ | ⟨y, _⟩)
          · have e1 : x = 1 := e1
            subst e1
            refine ao_ifn ao_n10 ?_
            rw [s97]
            refine ao_bd2 (ao_imp (oA2 σ0 s q1 q2 (c - 97) (by omega) h (pz_Ac_m (UA σ0 σ R).1 m) m.2.2.2) ?_)
            intro x hx
            exact hQ s x hx ((m.2.2.1 13 (by omega)).trans (UA σ0 σ R).2.2)
          · exact absurd e61 y
        have XB : ∀ (σ0 σ : aw_S) (Q : Int32 × aw_S → Prop), pz_TB σ0 L t → pz_B σ0 (p, Ψ, q1, q2) σ → (∀ s x, pz_rb σ0 Ψ q1 q2 s o2 x → s.1 1 (1360 + (64 + ap_S Ψ)) = nI (c - 97) → ao_ok (if x.1 = 0 then some ((0 : Int32), x.2) else m_Rf_readStatement_J114 x.2 (nI (ap_S Ψ))) Q) → ao_ok (m_Rf_readStatement σ) Q := by
          intro σ0 σ Q h R hQ
          refine WB' σ0 σ Q h R (ao_bd2 (ao_imp (pz_take0B (c := 61) T (pz_TB_y h (VB σ0 σ R).1.1) (by omega) (VB σ0 σ R).2 (by omega)) ?_))
          rintro ⟨x, s⟩ (⟨_, e1, m⟩ | ⟨y, _⟩)
          · have e1 : x = 1 := e1
            subst e1
            refine ao_ifn ao_n10 (ao_bd2 (ao_imp (oB2 σ0 s q1 q2 h (pz_Bc_m (VB σ0 σ R).1 m) m.2.2.2) ?_))
            intro x hx
            exact hQ s x hx (by rw [m.2.1 1 (by omega), ao_sI_s])
          · exact absurd e61 y
        cases o2 with
        | inl q =>
          refine ⟨.inl q, ow, fun z' e => (by cases e), fun σ0 σ h R => XA σ0 σ _ h R ?_, fun σ0 σ h R => XB σ0 σ _ h R ?_⟩
          · rintro s ⟨x, s'⟩ ⟨e1, f⟩ _
            have e1 : x = 0 := e1
            subst e1
            exact ao_ifp rfl (ao_some (Or.inl ⟨rfl, rfl, f⟩))
          · rintro s ⟨x, s'⟩ ⟨e1, f⟩ _
            have e1 : x = 0 := e1
            subst e1
            exact ao_ifp rfl (ao_some ⟨rfl, f⟩)
        | inr y =>
          obtain ⟨p', Ψ', k, r⟩ := y
          obtain ⟨w1, w2, w3, w4, w5, w6, w7⟩ := ow
          have w1 : p + 1 + 1 < p' := w1
          have w2 : p' ≤ L := w2
          have w3 : pz_pw Ψ' := w3
          have w4 : ap_S Ψ' = ap_S Ψ := w4
          have w5 : ap_B Ψ' = ap_B Ψ := w5
          have w6 : (k = 1 ∧ r < 1026) ∨ (k = 2 ∧ r < ap_X Ψ') := w6
          refine ⟨pz_tk L t 59 (p', pz_addS Ψ' k (some (c - 97)) r, q1, q2), pz_tk_w T ⟨w2, pz_addS_w w3 (by omega) (w6.imp (fun y => ⟨y.1, ⟨c - 97, by omega, rfl⟩, y.2⟩) (fun y => Or.inl ⟨y.1, ⟨c - 97, by omega, rfl⟩, y.2⟩)), fun b hb => hq b (by have hb : b < ap_B Ψ' := hb; omega)⟩ (by show p ≤ p'; omega), fun z' e => by rw [tkB _ z' e]; exact ⟨w5, congrArg (fun y => y + 1) w4⟩, fun σ0 σ h R => XA σ0 σ _ h R ?_, fun σ0 σ h R => XB σ0 σ _ h R ?_⟩
          · rintro s ⟨x, s'⟩ ⟨e1, R1, f1, g1⟩ g0
            have e1 : x = 1 := e1
            subst e1
            refine ao_ifn (show ¬ (1 : Int32) = 0 by decide) (ao_some (Or.inr ⟨rfl, pz_takeA (z := (p', pz_addS Ψ' k (some (c - 97)) r, q1, q2)) T w2 h ⟨R1, f1, g1.trans (g0.trans (congrArg nI ?_))⟩ (by omega)⟩))
            show ap_S Ψ + 1 = ap_S Ψ' + 1
            omega
          · rintro s ⟨x, s'⟩ ⟨e1, R1, f1, g1, g2, g3⟩ g0
            have e1 : x = 1 := e1
            subst e1
            exact ao_ifn (show ¬ (1 : Int32) = 0 by decide) (JB σ0 s' Ψ' p' k r (some (c - 97)) w2 h w3 w4 R1 f1 g1 (g3.trans g0) g2)
      · refine ⟨.inl (p + 1), by show p + 1 ≤ L; omega, fun z' e => (by cases e), fun σ0 σ h R => WA σ0 σ _ h R (ao_ifn n33 (ao_bd2 (ao_imp (pz_take0A (c := 61) T (pz_TA_y h (UA σ0 σ R).1.1) (by omega) (UA σ0 σ R).2.1 (by omega)) ?_))), fun σ0 σ h R => WB' σ0 σ _ h R (ao_bd2 (ao_imp (pz_take0B (c := 61) T (pz_TB_y h (VB σ0 σ R).1.1) (by omega) (VB σ0 σ R).2 (by omega)) ?_))⟩
        · rintro ⟨x, s⟩ (⟨y, _⟩ | ⟨_, e1, f⟩)
          · exact absurd y e61
          · have e1 : x = 0 := e1
            subst e1
            exact ao_ifp rfl (ao_some (Or.inl ⟨rfl, rfl, pz_Ac_f (UA σ0 σ R).1 f⟩))
        · rintro ⟨x, s⟩ (⟨y, _⟩ | ⟨_, e1, f⟩)
          · exact absurd y e61
          · have e1 : x = 0 := e1
            subst e1
            exact ao_ifp rfl (ao_some ⟨rfl, pz_Bc_f (VB σ0 σ R).1 f⟩)
  · refine ⟨.inl p, hp, fun z' e => (by cases e), fun σ0 σ h R => ?_, fun σ0 σ h R => ?_⟩
    · have e14 : σ.1 8 14 = nI p := R.2.1
      have e13 : σ.1 8 13 = nI (ap_S Ψ) := R.2.2
      unfold m_Re_readStatement
      rw [e13, if_neg (show ¬ nI (ap_S Ψ) < (60 : Int32) from nI_nlt (b := 60) (by omega) (by omega)), e14]
      unfold m_Re_refuse
      exact ao_bd2 (ao_let (ao_some (ao_gd (Or.inl rfl) (ao_some (Or.inl ⟨rfl, rfl, ⟨R.1.1.1, fun k hk => by rw [ao_sI_o (by omega)]; exact R.1.1.2 k hk⟩, ao_sI_s _ _ _ _⟩)))))
    · have e3 : σ.1 0 3 = nI p := R.2
      have eS : σ.1 1 (1360 + 1) = nI (ap_S Ψ) := R.1.2.2.1.2.1
      unfold m_Rf_readStatement
      rw [show (1 : Int32) = nI 1 from rfl, aw_bd_s (pz_read (by omega)), eS, if_pos (show nI (ap_S Ψ) = (60 : Int32) by rw [show ap_S Ψ = 60 by omega]; rfl), e3]
      unfold m_Rf_fails
      exact ao_bd2 (ao_let (ao_some (ao_gd (Or.inl rfl) (ao_some ⟨rfl, ⟨R.1.1.1, fun k h1 h2 h3 => by rw [ao_sI_o h1]; exact R.1.1.2.1 k h1 h2 h3, fun j h1 h2 h3 => by rw [ao_sI_i h2]; exact R.1.1.2.2.1 j h1 h2 h3, fun j hj => by rw [ao_sI_o (by omega)]; exact R.1.1.2.2.2 j hj⟩, ao_sI_s _ _ _ _⟩))))

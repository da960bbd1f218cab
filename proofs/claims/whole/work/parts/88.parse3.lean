/-! ===== THE PARSE: what stands behind v= ===== -/
/-- where it goes on; the program with its expressions; the statement's kind and right side -/
abbrev pz_R : Type := Nat × ap_T × Nat × Nat
def pz_rw (Ψ : ap_T) (L p : Nat) (o : Nat ⊕ pz_R) : Prop := match o with
  | .inl q => q ≤ L
  | .inr y => p < y.1 ∧ y.1 ≤ L ∧ pz_pw y.2.1 ∧ ap_S y.2.1 = ap_S Ψ ∧ ap_B y.2.1 = ap_B Ψ ∧ ((y.2.2.1 = 1 ∧ y.2.2.2 < 1026) ∨ (y.2.2.1 = 2 ∧ y.2.2.2 < ap_X y.2.1)) ∧ (∀ b, ap_e1 y.2.1 b = ap_e1 Ψ b ∧ ap_e2 y.2.1 b = ap_e2 Ψ b)
def pz_ra (σ0 : aw_S) (q1 q2 : Nat → Nat) (v : Nat) (σ : aw_S) (o : Nat ⊕ pz_R) (x : Int32 × aw_S) : Prop := match o with
  | .inl q => x.1 = 0 ∧ pz_yA σ0 x.2 ∧ x.2.1 8 15 = nI q
  | .inr y => x.1 = 1 ∧ pz_Ac σ0 (pz_addS y.2.1 y.2.2.1 (some v) y.2.2.2) q1 q2 x.2 ∧ x.2.1 8 14 = nI y.1 ∧ x.2.1 8 13 = σ.1 8 13
def pz_rb (σ0 : aw_S) (Ψ : ap_T) (q1 q2 : Nat → Nat) (σ : aw_S) (o : Nat ⊕ pz_R) (x : Int32 × aw_S) : Prop := match o with
  | .inl q => x.1 = 0 ∧ pz_yB σ0 x.2 ∧ x.2.1 0 4 = nI q
  | .inr y => x.1 = 1 ∧ pz_Bc σ0 y.2.1 q1 q2 x.2 ∧ x.2.1 0 3 = nI y.1 ∧ x.2.1 1 (1360 + (4 + ap_S Ψ)) = nI y.2.2.1 ∧ x.2.1 1 (1360 + (124 + ap_S Ψ)) = nI y.2.2.2 ∧ x.2.1 1 (1360 + (64 + ap_S Ψ)) = σ.1 1 (1360 + (64 + ap_S Ψ))
set_option maxHeartbeats 4000000 in
theorem pz_rhs {L p : Nat} {t : Nat → Nat} {Ψ : ap_T} (T : pz_T L t) (hp : p ≤ L) (hw : pz_pw Ψ) (hS : ap_S Ψ < 60) (hB : ap_B Ψ < 16) : ∃ o, pz_rw Ψ L p o ∧
    (∀ (σ0 σ : aw_S) (q1 q2 : Nat → Nat) (v : Nat), v < 26 → pz_TA σ0 9 L t → pz_Ac σ0 Ψ q1 q2 σ → σ.1 8 14 = nI p → ao_ok (m_Re_readRightSide σ (nI v)) (pz_ra σ0 q1 q2 v σ o)) ∧
    ∀ (σ0 σ : aw_S) (q1 q2 : Nat → Nat), pz_TB σ0 L t → pz_Bc σ0 Ψ q1 q2 σ → σ.1 0 3 = nI p → ao_ok (m_Rf_readWorth σ (nI (ap_S Ψ))) (pz_rb σ0 Ψ q1 q2 σ o) := by
  have hL := T.1
  have hX := hw.2.2.2.2.2.2.2.1
  obtain ⟨o1, w1, oA1, oB1⟩ := pz_operand T hp
  cases o1 with
  | inl q =>
    refine ⟨.inl q, w1, fun σ0 σ q1 q2 v hv h R e => ?_, fun σ0 σ q1 q2 h R e => ?_⟩
    · unfold m_Re_readRightSide
      rw [ao_ltr]
      refine ao_bd2 (ao_imp (oA1 σ (pz_TA_y h R.1) e) ?_)
      rintro ⟨x, s⟩ ⟨e1, f⟩
      have e1 : x = -1 := e1
      subst e1
      exact ao_ifp rfl (ao_some ⟨rfl, pz_Ac_f R f⟩)
    · unfold m_Rf_readWorth
      rw [ao_ltr]
      refine ao_bd2 (ao_imp (oB1 σ (pz_TB_y h R.1) e) ?_)
      rintro ⟨x, s⟩ ⟨e1, f⟩
      have e1 : x = 0 := e1
      subst e1
      exact ao_ifp rfl (ao_some ⟨rfl, pz_Bc_f R f⟩)
  | inr y =>
    obtain ⟨p1, a⟩ := y
    obtain ⟨w1, w2, w3⟩ := w1
    have w1 : p < p1 := w1
    have w2 : p1 ≤ L := w2
    have w3 : a < 1026 := w3
    have PA : ∀ (σ0 σ : aw_S) (q1 q2 : Nat → Nat), pz_TA σ0 9 L t → pz_Ac σ0 Ψ q1 q2 σ → σ.1 8 14 = nI p → ao_ok (m_Re_readOperand σ) (fun x => x.1 = nI a ∧ pz_Ac σ0 Ψ q1 q2 x.2 ∧ x.2.1 8 14 = nI p1 ∧ x.2.1 8 13 = σ.1 8 13) := fun σ0 σ q1 q2 h R e => ao_imp (oA1 σ (pz_TA_y h R.1) e) (fun x hx => ⟨hx.1, pz_Ac_m R hx.2, hx.2.2.2.2, hx.2.2.2.1 13 (by omega)⟩)
    have PB : ∀ (σ0 σ : aw_S) (q1 q2 : Nat → Nat), pz_TB σ0 L t → pz_Bc σ0 Ψ q1 q2 σ → σ.1 0 3 = nI p → ao_ok (m_Rf_readA σ) (fun x => x.1 = 1 ∧ pz_Bc σ0 Ψ q1 q2 x.2 ∧ x.2.1 0 3 = nI p1 ∧ x.2.1 0 5 = nI a ∧ x.2.1 1 = σ.1 1) := fun σ0 σ q1 q2 h R e => ao_imp (oB1 σ (pz_TB_y h R.1) e) (fun x hx => ⟨hx.1, pz_Bc_m R hx.2.1, hx.2.1.2.2.2, hx.2.2, hx.2.1.2.1 1 (by omega)⟩)
    -- the reference: the statement as a copy
    have KB : ∀ (σ0 s : aw_S) (q1 q2 : Nat → Nat), pz_Bc σ0 Ψ q1 q2 s → pz_Bc σ0 Ψ q1 q2 (aw_sI (aw_sI s 1 (1360 + (4 + ap_S Ψ)) 1) 1 (1360 + (124 + ap_S Ψ)) (nI a)) := fun σ0 s q1 q2 R => pz_Bc_put (pz_Bc_put R hw (by omega)) hw (by omega)
    by_cases sg : pz_sg (pz_h L t p1)
    · obtain ⟨c, ec, hc⟩ := id sg
      have hcL := pz_h_some T ec
      obtain ⟨o2, v1, oA2, oB2⟩ := pz_operand (p := p1 + 1) T (by omega)
      have BB : ∀ (σ0 s : aw_S) (q1 q2 : Nat → Nat), pz_Bc σ0 Ψ q1 q2 s → s.1 0 3 = nI p1 → pz_Bc σ0 Ψ q1 q2 (aw_sI (aw_sI (aw_sI s 1 (1360 + (4 + ap_S Ψ)) 1) 1 (1360 + (124 + ap_S Ψ)) (nI a)) 0 3 (nI (p1 + 1))) ∧ (aw_sI (aw_sI (aw_sI s 1 (1360 + (4 + ap_S Ψ)) 1) 1 (1360 + (124 + ap_S Ψ)) (nI a)) 0 3 (nI (p1 + 1))).1 0 3 = nI (p1 + 1) := fun σ0 s q1 q2 R e =>
        ⟨pz_Bc_m (KB σ0 s q1 q2 R) (pz_mB_3 (pz_mB_0 (p := p1) (by rw [ao_sI_o (by omega), ao_sI_o (by omega)]; exact e))), ao_sI_s _ _ _ _⟩
      cases o2 with
      | inl q =>
        refine ⟨.inl q, v1, fun σ0 σ q1 q2 v hv h R e => ?_, fun σ0 σ q1 q2 h R e => ?_⟩
        · unfold m_Re_readRightSide
          rw [ao_ltr]
          refine ao_bd2 (ao_imp (PA σ0 σ q1 q2 h R e) ?_)
          rintro ⟨x, s⟩ ⟨e1, R1, f1, g1⟩
          have e1 : x = nI a := e1
          subst e1
          refine ao_ifn (ao_m1 (by omega)) ?_
          rw [f1, aw_bd_s (pz_at T (pz_TA_y h R1.1) (by omega)), aw_bd_s (pz_isSignA (pz_h_b T)), ao_b1 sg, if_neg (by decide), nI_1]
          refine ao_let (ao_bd2 (ao_imp (oA2 _ (pz_TA_y h (pz_Ac_m R1 (pz_mA_1 (pz_mA_0 f1))).1) (ao_sI_s _ _ _ _)) ?_))
          rintro ⟨x2, s2⟩ ⟨e2, f2⟩
          have e2 : x2 = -1 := e2
          subst e2
          exact ao_ifp rfl (ao_some ⟨rfl, pz_Ac_f (pz_Ac_m R1 (pz_mA_1 (pz_mA_0 f1))) f2⟩)
        · unfold m_Rf_readWorth
          rw [ao_ltr]
          refine ao_bd2 (ao_imp (PB σ0 σ q1 q2 h R e) ?_)
          rintro ⟨x, s⟩ ⟨e1, R1, f1, g1, k1⟩
          have e1 : x = 1 := e1
          subst e1
          refine ao_ifn ao_n10 ?_
          rw [ao_ltr, show (4 : Int32) = nI 4 from rfl, nI_add, show (124 : Int32) = nI 124 from rfl, nI_add, aw_bd_s (pz_put (by omega)), aw_bd_s (pz_put (by omega)), g1]
          have f2 : (aw_sI (aw_sI s 1 (1360 + (4 + ap_S Ψ)) 1) 1 (1360 + (124 + ap_S Ψ)) (nI a)).1 0 3 = nI p1 := by rw [ao_sI_o (by omega), ao_sI_o (by omega)]; exact f1
          rw [aw_bd_s (pz_here T (pz_TB_y h (KB σ0 s q1 q2 R1).1) f2 (by omega)), aw_bd_s (pz_isSignB (pz_h_b T)), ao_b1 sg, if_neg (by decide), aw_bd_s (pz_here T (pz_TB_y h (KB σ0 s q1 q2 R1).1) f2 (by omega)), f2, nI_1]
          refine ao_let (ao_bd2 (ao_imp (oB2 _ (pz_TB_y h (BB σ0 s q1 q2 R1 f1).1.1) (BB σ0 s q1 q2 R1 f1).2) ?_))
          rintro ⟨x2, s2⟩ ⟨e2, f3⟩
          have e2 : x2 = 0 := e2
          subst e2
          exact ao_ifp rfl (ao_some ⟨rfl, pz_Bc_f (BB σ0 s q1 q2 R1 f1).1 f3⟩)
      | inr y =>
        obtain ⟨p2, b⟩ := y
        obtain ⟨v1, v2, v3⟩ := v1
        have v1 : p1 + 1 < p2 := v1
        have v2 : p2 ≤ L := v2
        have v3 : b < 1026 := v3
        obtain ⟨k, k1, k2, k3⟩ := pz_first (pz_ma Ψ c a b) (ap_X Ψ)
        -- both, as far as the second operand
        have GA : ∀ (σ0 σ : aw_S) (q1 q2 : Nat → Nat) (v : Nat) (Q : Int32 × aw_S → Prop), pz_TA σ0 9 L t → pz_Ac σ0 Ψ q1 q2 σ → σ.1 8 14 = nI p → (∀ s, pz_Ac σ0 Ψ q1 q2 s → s.1 8 14 = nI p2 → s.1 8 13 = σ.1 8 13 → ao_ok (aw_bd2 (m_Ex_numberOf s 11 (nI c) (nI a) (nI b)) (fun r16 s18 => if r16 = (-1 : Int32) then aw_bd2 (m_Re_refuse s18 (nI p)) (fun r24 s26 => aw_gd (r24 = 0 ∨ r24 = 1) (some ((r24, s26)))) else aw_bd2 (m_Re_addStatement s18 ((2 : Int32)) (nI v) ((-1 : Int32)) r16) (fun r20 s22 => aw_gd (r20 = 0 ∨ r20 = 1) (some ((r20, s22)))))) Q) → ao_ok (m_Re_readRightSide σ (nI v)) Q := by
          intro σ0 σ q1 q2 v Q h R e hQ
          unfold m_Re_readRightSide
          rw [ao_ltr]
          refine ao_bd2 (ao_imp (PA σ0 σ q1 q2 h R e) ?_)
          rintro ⟨x, s⟩ ⟨e1, R1, f1, g1⟩
          have e1 : x = nI a := e1
          subst e1
          refine ao_ifn (ao_m1 (by omega)) ?_
          rw [f1, aw_bd_s (pz_at T (pz_TA_y h R1.1) (by omega)), aw_bd_s (pz_isSignA (pz_h_b T)), ao_b1 sg, if_neg (by decide), nI_1]
          refine ao_let (ao_bd2 (ao_imp (oA2 _ (pz_TA_y h (pz_Ac_m R1 (pz_mA_1 (pz_mA_0 f1))).1) (ao_sI_s _ _ _ _)) ?_))
          rintro ⟨x2, s2⟩ ⟨e2, f2⟩
          have e2 : x2 = nI b := e2
          subst e2
          refine ao_ifn (ao_m1 (by omega)) ?_
          rw [ec, e]
          exact hQ s2 (pz_Ac_m (pz_Ac_m R1 (pz_mA_1 (pz_mA_0 f1))) f2) f2.2.2.2 ((f2.2.2.1 13 (by omega)).trans (((pz_mA_1 (q := p1 + 1) (pz_mA_0 f1)).2.2.1 13 (by omega)).trans g1))
        have GB : ∀ (σ0 σ : aw_S) (q1 q2 : Nat → Nat) (Q : Int32 × aw_S → Prop), pz_TB σ0 L t → pz_Bc σ0 Ψ q1 q2 σ → σ.1 0 3 = nI p → (∀ s, pz_Bc σ0 Ψ q1 q2 s → s.1 0 3 = nI p2 → s.1 0 5 = nI b → s.1 1 (1360 + (64 + ap_S Ψ)) = σ.1 1 (1360 + (64 + ap_S Ψ)) → ao_ok (if nI k = (24 : Int32) then aw_bd2 (m_Rf_fails s (nI p)) (fun r49 s51 => aw_gd (r49 = 0 ∨ r49 = 1) (some ((r49, s51)))) else aw_bd (m_Rf_read s ((2 : Int32))) (fun r28 => if nI k = r28 then aw_bd (m_Rf_put s (((268 : Int32) + nI k)) (nI c)) (fun s39 => aw_bd (m_Rf_put s39 (((292 : Int32) + ((2 : Int32) * nI k))) (nI a)) (fun s42 => aw_bd (m_Rf_put s42 ((((292 : Int32) + ((2 : Int32) * nI k)) + (1 : Int32))) ((s42.1 0 5))) (fun s45 => aw_bd (m_Rf_put s45 ((2 : Int32)) ((nI k + (1 : Int32)))) (fun s48 => m_Rf_readWorth_J161 s48 (nI (ap_S Ψ)) (nI k))))) else m_Rf_readWorth_J161 s (nI (ap_S Ψ)) (nI k))) Q) → ao_ok (m_Rf_readWorth σ (nI (ap_S Ψ))) Q := by
          intro σ0 σ q1 q2 Q h R e hQ
          unfold m_Rf_readWorth
          rw [ao_ltr]
          refine ao_bd2 (ao_imp (PB σ0 σ q1 q2 h R e) ?_)
          rintro ⟨x, s⟩ ⟨e1, R1, f1, g1, k1'⟩
          have e1 : x = 1 := e1
          subst e1
          refine ao_ifn ao_n10 ?_
          have g1 : s.1 0 5 = nI a := g1
          have k1' : s.1 1 = σ.1 1 := k1'
          rw [ao_ltr, show (4 : Int32) = nI 4 from rfl, nI_add, show (124 : Int32) = nI 124 from rfl, nI_add, aw_bd_s (pz_put (by omega)), aw_bd_s (pz_put (by omega)), g1]
          have f2 : (aw_sI (aw_sI s 1 (1360 + (4 + ap_S Ψ)) 1) 1 (1360 + (124 + ap_S Ψ)) (nI a)).1 0 3 = nI p1 := by rw [ao_sI_o (by omega), ao_sI_o (by omega)]; exact f1
          rw [aw_bd_s (pz_here T (pz_TB_y h (KB σ0 s q1 q2 R1).1) f2 (by omega)), aw_bd_s (pz_isSignB (pz_h_b T)), ao_b1 sg, if_neg (by decide), aw_bd_s (pz_here T (pz_TB_y h (KB σ0 s q1 q2 R1).1) f2 (by omega)), f2, nI_1]
          refine ao_let (ao_bd2 (ao_imp (oB2 _ (pz_TB_y h (BB σ0 s q1 q2 R1 f1).1.1) (BB σ0 s q1 q2 R1 f1).2) ?_))
          rintro ⟨x2, s2⟩ ⟨e2, f3, g3⟩
          have e2 : x2 = 1 := e2
          subst e2
          refine ao_ifn ao_n10 ?_
          have g3 : s2.1 0 5 = nI b := g3
          have R3 := pz_Bc_m (BB σ0 s q1 q2 R1 f1).1 f3
          rw [g3, ec, show ao_o (some c) = nI c from rfl, aw_bd_s (pz_findX hw R3.2.2.1 (ag_sgl hc) w3 v3 k1 k2 k3), e]
          have hf := hQ s2 R3 f3.2.2.2 g3 (by
            rw [f3.2.1 1 (by omega), ao_sI_o (by omega), ao_sI_i (by omega), ao_sI_i (by omega), k1'])
          exact hf
        have JB : ∀ (σ0 s : aw_S) (q1 q2 : Nat → Nat) (Ψ' : ap_T), pz_pw Ψ' → ap_S Ψ' = ap_S Ψ → pz_Bc σ0 Ψ' q1 q2 s → s.1 0 3 = nI p2 → ao_ok (m_Rf_readWorth_J161 s (nI (ap_S Ψ)) (nI k)) (fun x => x.1 = 1 ∧ pz_Bc σ0 Ψ' q1 q2 x.2 ∧ x.2.1 0 3 = nI p2 ∧ x.2.1 1 (1360 + (4 + ap_S Ψ)) = nI 2 ∧ x.2.1 1 (1360 + (124 + ap_S Ψ)) = nI k ∧ x.2.1 1 (1360 + (64 + ap_S Ψ)) = s.1 1 (1360 + (64 + ap_S Ψ))) := by
          intro σ0 s q1 q2 Ψ' hw' hS' R e
          unfold m_Rf_readWorth_J161
          rw [show (4 : Int32) = nI 4 from rfl, nI_add, show (124 : Int32) = nI 124 from rfl, nI_add, aw_bd_s (pz_put (by omega)), aw_bd_s (pz_put (by omega))]
          refine ao_some ⟨rfl, pz_Bc_put (pz_Bc_put R hw' (by omega)) hw' (by omega), ?_, ?_, ao_sI_s _ _ _ _, ?_⟩
          · simp (disch := omega) only [ao_sI_o]; exact e
          · simp (disch := omega) only [ao_sI_i, ao_sI_s]; rfl
          · simp (disch := omega) only [ao_sI_i]
        by_cases q : k < ap_X Ψ
        · -- known
          refine ⟨.inr (p2, Ψ, 2, k), ⟨by show p < p2; omega, v2, hw, rfl, rfl, Or.inr ⟨rfl, q⟩, fun _ => ⟨rfl, rfl⟩⟩, fun σ0 σ q1 q2 v hv h R e => GA σ0 σ q1 q2 v _ h R e (fun s R2 f2 g2 => ?_), fun σ0 σ q1 q2 h R e => GB σ0 σ q1 q2 _ h R e (fun s R2 f2 g2 k4 => ?_)⟩
          · refine ao_bd2 (ao_imp (pz_numberOf hw R2.2.2.2.2.1 R2.2.2.2.2.2.2.2 (ag_sgl hc) w3 v3 k1 k2 k3) ?_)
            rintro x (⟨_, rfl⟩ | ⟨z, _⟩ | ⟨z, _⟩)
            · refine ao_ifn (ao_m1 (by omega)) (ao_bd2 (ao_imp (pz_addSA hw hS hB R2 (k := 2) (v := some v) (r := k) rfl rfl rfl rfl) ?_))
              rintro ⟨x, s'⟩ ⟨e1, R3, f3, g3⟩
              have e1 : x = 1 := e1
              subst e1
              exact ao_gd (Or.inr rfl) (ao_some ⟨rfl, R3, f3.trans f2, g3.trans g2⟩)
            · omega
            · omega
          · rw [if_neg (show ¬ nI k = (24 : Int32) from fun z => by have := (nI_eq (a := k) (b := 24) (by omega) (by omega)).mp z; omega), show (2 : Int32) = nI 2 from rfl, aw_bd_s (pz_read (by omega)), R2.2.2.1.2.2.1, if_neg (fun z => by have := (nI_eq (by omega) (by omega)).mp z; omega)]
            refine ao_imp (JB σ0 s q1 q2 Ψ hw rfl R2 f2) ?_
            rintro x ⟨e1, R3, e3, e4, e5, e6⟩
            exact ⟨e1, R3, e3, e4, e5, e6.trans k4⟩
        · by_cases q24 : ap_X Ψ < 24
          · -- a new one
            have ek : k = ap_X Ψ := by omega
            have hw' := pz_addX_w hw q24 (o := c) (a := a) (b := b) hc w3 v3
            refine ⟨.inr (p2, pz_addX Ψ c a b, 2, k), ⟨by show p < p2; omega, v2, hw', rfl, rfl, Or.inr ⟨rfl, by show k < ap_X Ψ + 1; omega⟩, fun _ => ⟨rfl, rfl⟩⟩, fun σ0 σ q1 q2 v hv h R e => GA σ0 σ q1 q2 v _ h R e (fun s R2 f2 g2 => ?_), fun σ0 σ q1 q2 h R e => GB σ0 σ q1 q2 _ h R e (fun s R2 f2 g2 k4 => ?_)⟩
            · refine ao_bd2 (ao_imp (pz_numberOf hw R2.2.2.2.2.1 R2.2.2.2.2.2.2.2 (ag_sgl hc) w3 v3 k1 k2 k3) ?_)
              rintro x (⟨z, _⟩ | ⟨_, _, rfl⟩ | ⟨_, z, _⟩)
              · omega
              · have R3 : pz_Ac σ0 (pz_addX Ψ c a b) q1 q2 (aw_sI (aw_sI (aw_sI (aw_sI s 12 k (nI c)) 13 k (nI a)) 14 k (nI b)) 11 3 (nI (k + 1))) := by rw [ek]; exact pz_addXA hw R2
                refine ao_ifn (ao_m1 (by omega)) (ao_bd2 (ao_imp (pz_addSA hw' hS hB R3 (k := 2) (v := some v) (r := k) rfl rfl rfl rfl) ?_))
                rintro ⟨x, s'⟩ ⟨e1, R4, f3, g3⟩
                have e1 : x = 1 := e1
                subst e1
                refine ao_gd (Or.inr rfl) (ao_some ⟨rfl, R4, f3.trans ?_, g3.trans ?_⟩)
                · simp (disch := omega) only [ao_sI_o]; exact f2
                · simp (disch := omega) only [ao_sI_o]; exact g2
              · omega
            · rw [if_neg (show ¬ nI k = (24 : Int32) from fun z => by have := (nI_eq (a := k) (b := 24) (by omega) (by omega)).mp z; omega), show (2 : Int32) = nI 2 from rfl, aw_bd_s (pz_read (by omega)), R2.2.2.1.2.2.1, if_pos (by rw [ek]), show (268 : Int32) = nI 268 from rfl, nI_add, aw_bd_s (pz_put (by omega)), show (292 : Int32) = nI 292 from rfl, pk_mul, nI_add, aw_bd_s (pz_put (by omega)), nI_1, aw_bd_s (pz_put (by omega)), nI_1, aw_bd_s (pz_put (by omega))]
              have g3 : (aw_sI (aw_sI s 1 (1360 + (268 + k)) (nI c)) 1 (1360 + (292 + 2 * k)) (nI a)).1 0 5 = nI b := by simp (disch := omega) only [ao_sI_o]; exact g2
              rw [g3, show 292 + 2 * k + 1 = 293 + 2 * k by omega]
              have R3 : pz_Bc σ0 (pz_addX Ψ c a b) q1 q2 (aw_sI (aw_sI (aw_sI (aw_sI s 1 (1360 + (268 + k)) (nI c)) 1 (1360 + (292 + 2 * k)) (nI a)) 1 (1360 + (293 + 2 * k)) (nI b)) 1 (1360 + 2) (nI (k + 1))) := by rw [ek]; exact pz_addXB hw q24 R2
              refine ao_imp (JB σ0 _ q1 q2 (pz_addX Ψ c a b) hw' rfl R3 (by simp (disch := omega) only [ao_sI_o]; exact f2)) ?_
              rintro x ⟨e1, R4, e3, e4, e5, e6⟩
              refine ⟨e1, R4, e3, e4, e5, e6.trans ?_⟩
              simp (disch := omega) only [ao_sI_i]
              exact k4
          · -- too many
            have ek : k = ap_X Ψ := by omega
            refine ⟨.inl p, hp, fun σ0 σ q1 q2 v hv h R e => GA σ0 σ q1 q2 v _ h R e (fun s R2 f2 g2 => ?_), fun σ0 σ q1 q2 h R e => GB σ0 σ q1 q2 _ h R e (fun s R2 f2 g2 k4 => ?_)⟩
            · refine ao_bd2 (ao_imp (pz_numberOf hw R2.2.2.2.2.1 R2.2.2.2.2.2.2.2 (ag_sgl hc) w3 v3 k1 k2 k3) ?_)
              rintro x (⟨z, _⟩ | ⟨_, z, _⟩ | ⟨_, _, rfl⟩)
              · omega
              · omega
              · refine ao_ifp rfl ?_
                unfold m_Re_refuse
                exact ao_bd2 (ao_let (ao_some (ao_gd (Or.inl rfl) (ao_some ⟨rfl, ⟨R2.1.1, fun k hk => by rw [ao_sI_o (by omega)]; exact R2.1.2 k hk⟩, ao_sI_s _ _ _ _⟩))))
            · rw [if_pos (show nI k = (24 : Int32) by rw [show k = 24 by omega]; rfl)]
              unfold m_Rf_fails
              exact ao_bd2 (ao_let (ao_some (ao_gd (Or.inl rfl) (ao_some ⟨rfl, ⟨R2.1.1, fun k h1 h2 h3 => by rw [ao_sI_o h1]; exact R2.1.2.1 k h1 h2 h3, fun j h1 h2 h3 => by rw [ao_sI_i h2]; exact R2.1.2.2.1 j h1 h2 h3, fun j hj => by rw [ao_sI_o (by omega)]; exact R2.1.2.2.2 j hj⟩, ao_sI_s _ _ _ _⟩))))
    · -- a copy
      refine ⟨.inr (p1, Ψ, 1, a), ⟨w1, w2, hw, rfl, rfl, Or.inl ⟨rfl, w3⟩, fun _ => ⟨rfl, rfl⟩⟩, fun σ0 σ q1 q2 v hv h R e => ?_, fun σ0 σ q1 q2 h R e => ?_⟩
      · unfold m_Re_readRightSide
        rw [ao_ltr]
        refine ao_bd2 (ao_imp (PA σ0 σ q1 q2 h R e) ?_)
        rintro ⟨x, s⟩ ⟨e1, R1, f1, g1⟩
        have e1 : x = nI a := e1
        subst e1
        refine ao_ifn (ao_m1 (by omega)) ?_
        rw [f1, aw_bd_s (pz_at T (pz_TA_y h R1.1) (by omega)), aw_bd_s (pz_isSignA (pz_h_b T)), ao_b0 sg, if_pos rfl]
        refine ao_bd2 (ao_imp (pz_addSA hw hS hB R1 (k := 1) (v := some v) (r := a) rfl rfl rfl rfl) ?_)
        rintro ⟨x, s'⟩ ⟨e1, R3, f3, g3⟩
        have e1 : x = 1 := e1
        subst e1
        exact ao_gd (Or.inr rfl) (ao_some ⟨rfl, R3, f3.trans f1, g3.trans g1⟩)
      · unfold m_Rf_readWorth
        rw [ao_ltr]
        refine ao_bd2 (ao_imp (PB σ0 σ q1 q2 h R e) ?_)
        rintro ⟨x, s⟩ ⟨e1, R1, f1, g1, k1⟩
        have e1 : x = 1 := e1
        subst e1
        refine ao_ifn ao_n10 ?_
        have g1 : s.1 0 5 = nI a := g1
        have k1 : s.1 1 = σ.1 1 := k1
        rw [ao_ltr, show (4 : Int32) = nI 4 from rfl, nI_add, show (124 : Int32) = nI 124 from rfl, nI_add, aw_bd_s (pz_put (by omega)), aw_bd_s (pz_put (by omega)), g1]
        have f2 : (aw_sI (aw_sI s 1 (1360 + (4 + ap_S Ψ)) 1) 1 (1360 + (124 + ap_S Ψ)) (nI a)).1 0 3 = nI p1 := by rw [ao_sI_o (by omega), ao_sI_o (by omega)]; exact f1
        rw [aw_bd_s (pz_here T (pz_TB_y h (KB σ0 s q1 q2 R1).1) f2 (by omega)), aw_bd_s (pz_isSignB (pz_h_b T)), ao_b0 sg, if_pos rfl]
        refine ao_some ⟨rfl, KB σ0 s q1 q2 R1, f2, ?_, ao_sI_s _ _ _ _, ?_⟩
        · simp (disch := omega) only [ao_sI_i, ao_sI_s]; rfl
        · simp (disch := omega) only [ao_sI_i]
          exact congrFun k1 _

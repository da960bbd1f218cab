/-! ===== THE PARSE: the end of a block, whole ===== -/
/-- behind the statements of a block, in the class -/
noncomputable def pz_tail (σ : aw_S) : Option (Int32 × aw_S) := aw_bd2 (m_Re_readEnd σ) (fun r20 s22 => if r20 = 0 then some (((0 : Int32), s22)) else aw_bd2 (m_Re_take s22 ((59 : Int32))) (fun r24 s26 => if r24 = 0 then some (((0 : Int32), s26)) else aw_lt (aw_sI s26 8 12 (((s26.1 8 12) + (1 : Int32)))) (fun s28 => some (((1 : Int32), s28)))))
theorem pz_endA {σ0 s : aw_S} {L p B : Nat} {t : Nat → Nat} {Ψ : ap_T} {q1 q2 : Nat → Nat} (T : pz_T L t) (h : pz_TA σ0 9 L t) (hp : p ≤ L) (R : pz_Ac σ0 Ψ q1 q2 (aw_sI s 8 12 (nI (B + 1)))) (e12 : s.1 8 12 = nI B) (e14 : s.1 8 14 = nI p) (e13 : s.1 8 13 = nI (ap_S Ψ)) :
    ao_ok (aw_bd2 (m_Re_take s ((59 : Int32))) (fun r24 s26 => if r24 = 0 then some (((0 : Int32), s26)) else aw_lt (aw_sI s26 8 12 (((s26.1 8 12) + (1 : Int32)))) (fun s28 => some (((1 : Int32), s28))))) (pz_oA σ0 (pz_tk L t 59 (p, Ψ, q1, q2))) := by
  have hL := T.1
  have y : pz_yA σ0 s := ⟨R.1.1, fun k hk => by rw [← R.1.2 k hk, ao_sI_o (by omega)]⟩
  refine ao_bd2 (ao_imp (pz_take0A (c := 59) T (pz_TA_y h y) (by omega) e14 (by omega)) ?_)
  rintro ⟨x, u⟩ (⟨q, e, m⟩ | ⟨q, e, m⟩)
  · have e : x = 1 := e
    subst e
    refine ao_ifn (show ¬ (1 : Int32) = 0 by decide) ?_
    have m12 : u.1 8 12 = nI B := (m.2.2.1 12 (by omega)).trans e12
    show ao_ok (aw_lt (aw_sI u 8 12 (u.1 8 12 + 1)) _) _
    rw [m12, nI_1]
    refine ao_let (ao_some ?_)
    unfold pz_tk
    rw [if_pos q]
    refine ⟨rfl, pz_Ac_fr R m.1 (fun k hk => ?_) (fun j h1 h2 => ?_), ?_, ?_⟩
    · rw [ao_sI_o hk, ao_sI_o hk]; exact m.2.1 k hk
    · by_cases z : j = 12
      · subst z; rw [ao_sI_s, ao_sI_s]
      · rw [ao_sI_i z, ao_sI_i z]; exact m.2.2.1 j h2
    · rw [ao_sI_i (by omega)]; exact m.2.2.2
    · rw [ao_sI_i (by omega)]; exact (m.2.2.1 13 (by omega)).trans e13
  · have e : x = 0 := e
    subst e
    refine ao_ifp rfl (ao_some ?_)
    unfold pz_tk
    rw [if_neg q]
    exact ⟨rfl, ⟨m.1.trans y.1, fun k hk => (m.2.1 k (by omega)).trans (y.2 k hk)⟩, m.2.2⟩
theorem pz_endB {σ0 s : aw_S} {L p : Nat} {t : Nat → Nat} {Ψ : ap_T} {q1 q2 : Nat → Nat} (T : pz_T L t) (h : pz_TB σ0 L t) (hp : p ≤ L) (hw : pz_pw Ψ) (hB : ap_B Ψ < 16) (R : pz_Bc σ0 Ψ q1 q2 s) (e3 : s.1 0 3 = nI p) {k a1 a2 : Nat} {v e1 e2 : Option Nat} (c1 : s.1 1 (1360 + (204 + ap_B Ψ)) = nI k) (c2 : s.1 1 (1360 + (220 + ap_B Ψ)) = ao_o v) (c3 : s.1 1 (1360 + (236 + 2 * ap_B Ψ)) = ao_o e1) (c4 : s.1 1 (1360 + (237 + 2 * ap_B Ψ)) = ao_o e2) (d1 : e1 ≠ none → s.1 3 (2 * ap_B Ψ) = nI a1) (d2 : e2 ≠ none → s.1 3 (2 * ap_B Ψ + 1) = nI a2) :
    ao_ok (m_Rf_readEnd_J209 s (nI (ap_B Ψ))) (pz_oB σ0 (pz_tk L t 59 (p, pz_addE Ψ k v e1 e2, pz_u q1 (ap_B Ψ) a1, pz_u q2 (ap_B Ψ) a2))) := by
  unfold m_Rf_readEnd_J209
  have eS : (aw_sI s 1 (1360 + 0) (nI (ap_B Ψ + 1))).1 1 (1360 + 1) = nI (ap_S Ψ) := by rw [ao_sI_i (by omega)]; exact R.2.2.1.2.1
  rw [show (0 : Int32) = nI 0 from rfl, nI_1, aw_bd_s (pz_put (by omega)), show (1 : Int32) = nI 1 from rfl, aw_bd_s (pz_read (by omega)), eS, show (184 : Int32) = nI 184 from rfl, nI_add, nI_add, aw_bd_s (pz_put (by omega))]
  refine ao_bd2 (ao_imp (pz_takeB (c := 59) (z := (p, pz_addE Ψ k v e1 e2, pz_u q1 (ap_B Ψ) a1, pz_u q2 (ap_B Ψ) a2)) T hp h ⟨pz_addEB hw hB R c1 c2 c3 c4 d1 d2, by rw [ao_sI_o (by omega), ao_sI_o (by omega)]; exact e3⟩ (by omega)) ?_)
  rintro ⟨x, s'⟩ hx
  refine ao_gd ?_ (ao_some hx)
  unfold pz_oB at hx
  revert hx
  cases pz_tk L t 59 (p, pz_addE Ψ k v e1 e2, pz_u q1 (ap_B Ψ) a1, pz_u q2 (ap_B Ψ) a2) with
  | inl q => exact fun hx => Or.inl hx.1
  | inr y => exact fun hx => Or.inr hx.1
theorem pz_ln_y {σ0 σ s : aw_S} {Ψ : ap_T} {q1 q2 : Nat → Nat} {l B p k a1 a2 : Nat} {v e1 e2 : Option Nat} (R : pz_Ac σ0 Ψ q1 q2 σ) (h : pz_ln σ l B p k v e1 e2 a1 a2 s) : pz_yA σ0 s := ⟨h.1.trans R.1.1, fun c hc => (h.2.1 c (by omega) (by omega)).trans (R.1.2 c hc)⟩
theorem pz_yA_f {σ0 s u : aw_S} {q : Nat} (y : pz_yA σ0 s) (m : pz_fA s q u) : pz_yA σ0 u ∧ u.1 8 15 = nI q := ⟨⟨m.1.trans y.1, fun k hk => (m.2.1 k (by omega)).trans (y.2 k hk)⟩, m.2.2⟩
/-- a line of the class is whole: the rest -/
theorem pz_lnEnd {σ0 σ s : aw_S} {L p k a1 a2 : Nat} {t : Nat → Nat} {Ψ : ap_T} {q1 q2 : Nat → Nat} {v e1 e2 : Option Nat} (T : pz_T L t) (h : pz_TA σ0 9 L t) (hp : p ≤ L) (hw : pz_pw Ψ) (R : pz_Ac σ0 Ψ q1 q2 σ) (e13 : σ.1 8 13 = nI (ap_S Ψ)) (H : pz_ln σ (ap_S Ψ + ap_B Ψ) (ap_B Ψ) p k v e1 e2 a1 a2 s) :
    ao_ok (aw_bd2 (m_Re_take s ((59 : Int32))) (fun r24 s26 => if r24 = 0 then some (((0 : Int32), s26)) else aw_lt (aw_sI s26 8 12 (((s26.1 8 12) + (1 : Int32)))) (fun s28 => some (((1 : Int32), s28))))) (pz_oA σ0 (pz_tk L t 59 (p, pz_addE Ψ k v e1 e2, pz_u q1 (ap_B Ψ) a1, pz_u q2 (ap_B Ψ) a2))) :=
  pz_endA T h hp (pz_addEA hw R H) ((H.2.2.1 12 (by omega) (by omega)).trans R.2.2.2.1) H.2.2.2.2.1 ((H.2.2.1 13 (by omega) (by omega)).trans e13)
theorem pz_tk_E {L p k : Nat} {t : Nat → Nat} {Ψ : ap_T} {q1 q2 : Nat → Nat} {v e1 e2 : Option Nat} : ∀ z', pz_tk L t 59 (p, pz_addE Ψ k v e1 e2, q1, q2) = .inr z' → ap_fr z'.2.1 (ap_B z'.2.1) = ap_S z'.2.1 ∧ 0 < ap_B z'.2.1 := by
  intro z' hz
  unfold pz_tk at hz
  by_cases y : pz_h L t p = some 59
  · rw [if_pos y] at hz
    cases hz
    exact ⟨pz_u_s _ _ _, Nat.succ_pos _⟩
  · rw [if_neg y] at hz; cases hz
set_option maxHeartbeats 8000000 in
theorem pz_end {L : Nat} {t : Nat → Nat} (T : pz_T L t) {z : pz_Z} (hw : pz_wf L z) (hB : ap_B z.2.1 < 16) : ∃ o, pz_ow L z.1 o ∧ (∀ z', o = .inr z' → ap_fr z'.2.1 (ap_B z'.2.1) = ap_S z'.2.1 ∧ 0 < ap_B z'.2.1) ∧
    (∀ σ0 σ : aw_S, pz_TA σ0 9 L t → pz_A σ0 z σ → ao_ok (pz_tail σ) (pz_oA σ0 o)) ∧
    ∀ σ0 σ : aw_S, pz_TB σ0 L t → pz_B σ0 z σ → ao_ok (m_Rf_readEnd σ) (pz_oB σ0 o) := by
  obtain ⟨p, Ψ, q1, q2⟩ := z
  have hB : ap_B Ψ < 16 := hB
  have hW := hw
  obtain ⟨hp, hP, hq⟩ := hw
  have hp : p ≤ L := hp
  have hP : pz_pw Ψ := hP
  have hL := T.1
  have hS60 := hP.2.1
  -- how the reference begins
  have UB : ∀ (σ0 σ : aw_S) (x k : Int32) (Q : Int32 × aw_S → Prop), pz_B σ0 (p, Ψ, q1, q2) σ → (∀ s, pz_Bc σ0 Ψ q1 q2 s → s.1 0 3 = nI p → s.1 1 (1360 + (204 + ap_B Ψ)) = k → s.1 1 (1360 + (220 + ap_B Ψ)) = -1 → s.1 1 (1360 + (236 + 2 * ap_B Ψ)) = -1 → s.1 1 (1360 + (237 + 2 * ap_B Ψ)) = -1 → ao_ok (if x = (62 : Int32) then m_Rf_readEnd_J105 s (nI (ap_B Ψ)) x else if x = (63 : Int32) then m_Rf_readEnd_J105 s (nI (ap_B Ψ)) x else if x = (46 : Int32) then m_Rf_readEnd_J105 s (nI (ap_B Ψ)) x else aw_bd2 (m_Rf_fails s (nI p)) (fun r65 s67 => aw_gd (r65 = 0 ∨ r65 = 1) (some ((r65, s67))))) Q) → ao_ok (m_Rf_readEnd_J39 σ (nI (ap_B Ψ)) x (nI (204 + ap_B Ψ)) k) Q := by
    intro σ0 σ x k Q R hQ
    unfold m_Rf_readEnd_J39
    rw [aw_bd_s (pz_put (by omega)), show (220 : Int32) = nI 220 from rfl, nI_add, aw_bd_s (pz_put (by omega)), show (2 : Int32) = nI 2 from rfl, pk_mul, show (236 : Int32) = nI 236 from rfl, nI_add, aw_bd_s (pz_put (by omega)), nI_1, aw_bd_s (pz_put (by omega)), show 236 + 2 * ap_B Ψ + 1 = 237 + 2 * ap_B Ψ by omega]
    have e3 : (aw_sI (aw_sI (aw_sI (aw_sI σ 1 (1360 + (204 + ap_B Ψ)) k) 1 (1360 + (220 + ap_B Ψ)) (-1)) 1 (1360 + (236 + 2 * ap_B Ψ)) (-1)) 1 (1360 + (237 + 2 * ap_B Ψ)) (-1)).1 0 3 = nI p := by
      simp (disch := omega) only [ao_sI_o]
      exact R.2
    rw [e3]
    refine hQ _ (pz_Bc_put (pz_Bc_put (pz_Bc_put (pz_Bc_put R.1 hP (by omega)) hP (by omega)) hP (by omega)) hP (by omega)) e3 ?_ ?_ ?_ (ao_sI_s _ _ _ _) <;> simp (disch := omega) only [ao_sI_i, ao_sI_s]
  have VB : ∀ (σ0 σ : aw_S) (Q : Int32 × aw_S → Prop), pz_TB σ0 L t → pz_B σ0 (p, Ψ, q1, q2) σ → ao_ok (if ao_o (pz_h L t p) = (62 : Int32) then m_Rf_readEnd_J39 σ (nI (ap_B Ψ)) (ao_o (pz_h L t p)) (nI (204 + ap_B Ψ)) ((4 : Int32)) else if ao_o (pz_h L t p) = (63 : Int32) then m_Rf_readEnd_J39 σ (nI (ap_B Ψ)) (ao_o (pz_h L t p)) (nI (204 + ap_B Ψ)) ((5 : Int32)) else m_Rf_readEnd_J39 σ (nI (ap_B Ψ)) (ao_o (pz_h L t p)) (nI (204 + ap_B Ψ)) ((6 : Int32))) Q → ao_ok (m_Rf_readEnd σ) Q := by
    intro σ0 σ Q h R hQ
    have eB : σ.1 1 (1360 + 0) = nI (ap_B Ψ) := R.1.2.2.1.1
    unfold m_Rf_readEnd
    rw [show (0 : Int32) = nI 0 from rfl, aw_bd_s (pz_read (by omega)), eB, aw_bd_s (pz_here T (pz_TB_y h R.1.1) R.2 (by omega)), show (204 : Int32) = nI 204 from rfl, nI_add]
    exact hQ
  have fB : ∀ (σ0 s : aw_S) (q : Nat) (Q : Int32 × aw_S → Prop), pz_Bc σ0 Ψ q1 q2 s → (∀ x, x.1 = 0 → pz_yB σ0 x.2 → x.2.1 0 4 = nI q → Q x) → ao_ok (aw_bd2 (m_Rf_fails s (nI q)) (fun r65 s67 => aw_gd (r65 = 0 ∨ r65 = 1) (some ((r65, s67))))) Q := by
    intro σ0 s q Q R hQ
    unfold m_Rf_fails
    exact ao_bd2 (ao_let (ao_some (ao_gd (Or.inl rfl) (ao_some (hQ _ rfl ⟨R.1.1, fun k h1 h2 h3 => by rw [ao_sI_o h1]; exact R.1.2.1 k h1 h2 h3, fun j h1 h2 h3 => by rw [ao_sI_i h2]; exact R.1.2.2.1 j h1 h2 h3, fun j hj => by rw [ao_sI_o (by omega)]; exact R.1.2.2.2 j hj⟩ (ao_sI_s _ _ _ _))))))
  have ne : ∀ c, c < 256 → pz_h L t p ≠ some c → ¬ ao_o (pz_h L t p) = nI c := fun c hc y z => y ((pz_o_eq (pz_h_b T) hc).mp z)
  have eL : ∀ σ0 σ : aw_S, pz_A σ0 (p, Ψ, q1, q2) σ → σ.1 8 11 = nI (ap_S Ψ + ap_B Ψ) ∧ σ.1 8 12 = nI (ap_B Ψ) ∧ σ.1 8 14 = nI p ∧ σ.1 8 13 = nI (ap_S Ψ) := fun σ0 σ R => ⟨R.1.2.2.1, R.1.2.2.2.1, R.2.1, R.2.2⟩
  by_cases e46 : pz_h L t p = some 46
  · -- it ends
    have hL1 := (pz_h_some T e46).1
    refine ⟨pz_tk L t 59 (p + 1, pz_addE Ψ 6 none none none, pz_u q1 (ap_B Ψ) 0, pz_u q2 (ap_B Ψ) 0), pz_tk_w T (pz_addE_w hW hB (Or.inr (Or.inr ⟨rfl, rfl, rfl, rfl⟩)) (by omega) (by omega) (by omega)) (by show p ≤ p + 1; omega), pz_tk_E, fun σ0 σ h R => ?_, fun σ0 σ h R => ?_⟩
    · obtain ⟨l1, l2, l3, l4⟩ := eL σ0 σ R
      unfold pz_tail m_Re_readEnd
      rw [l3, aw_bd_s (pz_at T (pz_TA_y h R.1.1) (by omega)), e46]
      refine ao_bd2 (ao_ifp rfl ?_)
      rw [nI_1]
      refine ao_let (ao_bd2 (ao_imp (pz_ln_new (k := 6) (pz_mA_1 (q := p + 1) (pz_mA_0 l3)) l1 (by omega) l2) ?_))
      rintro ⟨x, s⟩ ⟨e1, H⟩
      have e1 : x = 1 := e1
      subst e1
      exact ao_gd (Or.inr rfl) (ao_some (ao_ifn (show ¬ (1 : Int32) = 0 by decide) (pz_lnEnd T h (by omega) hP R.1 l4 H)))
    · refine VB σ0 σ _ h R ?_
      rw [e46]
      refine ao_ifn (by decide) (ao_ifn (by decide) (UB σ0 σ _ _ _ R (fun s R1 f1 c1 c2 c3 c4 => ao_ifn (by decide) (ao_ifn (by decide) (ao_ifp rfl ?_)))))
      unfold m_Rf_readEnd_J105 m_Rf_readEnd_J166 m_Rf_readEnd_J183
      rw [f1, nI_1]
      refine ao_let (ao_ifn (by decide) (ao_ifp rfl (ao_ifn (by decide) ?_)))
      exact pz_endB (k := 6) (v := none) (e1 := none) (e2 := none) (a1 := 0) (a2 := 0) T h (by omega) hP hB (pz_Bc_m R1 (pz_mB_3 (pz_mB_0 f1))) (ao_sI_s _ _ _ _) (by rw [ao_sI_o (by omega)]; exact c1) (by rw [ao_sI_o (by omega)]; exact c2) (by rw [ao_sI_o (by omega)]; exact c3) (by rw [ao_sI_o (by omega)]; exact c4) (fun y => absurd rfl y) (fun y => absurd rfl y)
  · by_cases e62 : pz_h L t p = some 62
    · -- it goes
      have hL1 := (pz_h_some T e62).1
      obtain ⟨o1, w1, oA1, oB1⟩ := pz_num2 (p := p + 1) T (by omega)
      have XA : ∀ (σ0 σ : aw_S) (Q : Int32 × aw_S → Prop), pz_TA σ0 9 L t → pz_A σ0 (p, Ψ, q1, q2) σ → (∀ s, pz_ln σ (ap_S Ψ + ap_B Ψ) (ap_B Ψ) (p + 1) 4 none none none 0 0 s → ao_ok (aw_bd2 (m_Re_readTarget s 20 22) (fun r18 s20 => if r18 = 0 then some (((0 : Int32), s20)) else some (((1 : Int32), s20)))) (fun x => ao_ok (if x.1 = 0 then some (((0 : Int32), x.2)) else aw_bd2 (m_Re_take x.2 ((59 : Int32))) (fun r24 s26 => if r24 = 0 then some (((0 : Int32), s26)) else aw_lt (aw_sI s26 8 12 (((s26.1 8 12) + (1 : Int32)))) (fun s28 => some (((1 : Int32), s28))))) Q)) → ao_ok (pz_tail σ) Q := by
        intro σ0 σ Q h R hQ
        obtain ⟨l1, l2, l3, l4⟩ := eL σ0 σ R
        unfold pz_tail m_Re_readEnd
        rw [l3, aw_bd_s (pz_at T (pz_TA_y h R.1.1) (by omega)), e62]
        refine ao_bd2 (ao_ifn (by decide) (ao_ifp rfl ?_))
        rw [nI_1]
        refine ao_let (ao_bd2 (ao_imp (pz_ln_new (k := 4) (pz_mA_1 (q := p + 1) (pz_mA_0 l3)) l1 (by omega) l2) ?_))
        rintro ⟨x, s⟩ ⟨e1, H⟩
        have e1 : x = 1 := e1
        subst e1
        exact ao_ifn (show ¬ (1 : Int32) = 0 by decide) (hQ s H)
      have XB : ∀ (σ0 σ : aw_S) (Q : Int32 × aw_S → Prop), pz_TB σ0 L t → pz_B σ0 (p, Ψ, q1, q2) σ → (∀ s, pz_Bc σ0 Ψ q1 q2 s → s.1 0 3 = nI (p + 1) → s.1 1 (1360 + (204 + ap_B Ψ)) = nI 4 → s.1 1 (1360 + (220 + ap_B Ψ)) = -1 → s.1 1 (1360 + (237 + 2 * ap_B Ψ)) = -1 → ao_ok (aw_bd2 (m_Rf_readNumber s (nI (ap_B Ψ)) (nI 0)) (fun r44 s46 => if r44 = 0 then some (((0 : Int32), s46)) else m_Rf_readEnd_J209 s46 (nI (ap_B Ψ)))) Q) → ao_ok (m_Rf_readEnd σ) Q := by
        intro σ0 σ Q h R hQ
        refine VB σ0 σ _ h R ?_
        rw [e62]
        refine ao_ifp rfl (UB σ0 σ _ _ _ R (fun s R1 f1 c1 c2 c3 c4 => ao_ifp rfl ?_))
        unfold m_Rf_readEnd_J105 m_Rf_readEnd_J166 m_Rf_readEnd_J183
        rw [f1, nI_1]
        refine ao_let (ao_ifn (by decide) (ao_ifn (by decide) ?_))
        refine ao_imp (hQ _ (pz_Bc_m R1 (pz_mB_3 (pz_mB_0 f1))) (ao_sI_s _ _ _ _) (by rw [ao_sI_o (by omega)]; exact c1) (by rw [ao_sI_o (by omega)]; exact c2) (by rw [ao_sI_o (by omega)]; exact c4)) (fun _ hx => hx)
      cases o1 with
      | inl q =>
        refine ⟨.inl q, w1, fun z' e => (by cases e), fun σ0 σ h R => XA σ0 σ _ h R (fun s H => ?_), fun σ0 σ h R => XB σ0 σ _ h R (fun s R1 f1 c1 c2 c4 => ?_)⟩
        · refine ao_bd2 (ao_imp (pz_targetAf oA1 (pz_TA_y h (pz_ln_y R.1 H)) H.2.2.2.2.1) ?_)
          rintro ⟨x, u⟩ ⟨e1, m⟩
          have e1 : x = 0 := e1
          subst e1
          exact ao_ifp rfl (ao_some (ao_ifp rfl (ao_some ⟨rfl, pz_yA_f (pz_ln_y R.1 H) m⟩)))
        · refine ao_bd2 (ao_imp (pz_numberBf oB1 (pz_TB_y h R1.1) f1) ?_)
          rintro ⟨x, u⟩ ⟨e1, m⟩
          have e1 : x = 0 := e1
          subst e1
          exact ao_ifp rfl (ao_some ⟨rfl, pz_Bc_f R1 m⟩)
      | inr y =>
        obtain ⟨p1, v1⟩ := y
        obtain ⟨w1, w2, w3⟩ := w1
        have w1 : p + 1 < p1 := w1
        have w2 : p1 ≤ L := w2
        have w3 : v1 < 100 := w3
        refine ⟨pz_tk L t 59 (p1, pz_addE Ψ 4 none (some v1) none, pz_u q1 (ap_B Ψ) (p + 1), pz_u q2 (ap_B Ψ) 0), pz_tk_w T (pz_addE_w hW hB (Or.inl ⟨rfl, rfl, ⟨v1, w3, rfl⟩, rfl⟩) w2 (by omega) (by omega)) (by show p ≤ p1; omega), pz_tk_E, fun σ0 σ h R => XA σ0 σ _ h R (fun s H => ?_), fun σ0 σ h R => XB σ0 σ _ h R (fun s R1 f1 c1 c2 c4 => ?_)⟩
        · refine ao_bd2 (ao_imp (pz_targetA H (by omega) oA1 (pz_TA_y h (pz_ln_y R.1 H)) w3) ?_)
          rintro ⟨x, u'⟩ ⟨e1, u, hu, eu⟩
          have e1 : x = 1 := e1
          have eu : u' = aw_sI (aw_sI u 20 (ap_S Ψ + ap_B Ψ) (nI v1)) 22 (ap_S Ψ + ap_B Ψ) (nI (p + 1)) := eu
          subst e1 eu
          exact ao_ifn (show ¬ (1 : Int32) = 0 by decide) (ao_some (ao_ifn (show ¬ (1 : Int32) = 0 by decide) (pz_lnEnd T h w2 hP R.1 (eL σ0 σ R).2.2.2 (pz_ln_1 hu))))
        · refine ao_bd2 (ao_imp (pz_numberB oB1 (pz_TB_y h R1.1) f1 hB (by omega)) ?_)
          rintro ⟨x, u'⟩ ⟨e1, u, m, eu⟩
          have e1 : x = 1 := e1
          have eu : u' = aw_sI (aw_sI u 1 (1360 + (236 + 2 * ap_B Ψ + 0)) (nI v1)) 3 (2 * ap_B Ψ + 0) (nI (p + 1)) := eu
          subst e1 eu
          refine ao_ifn (show ¬ (1 : Int32) = 0 by decide) (pz_endB (k := 4) (v := none) (e1 := some v1) (e2 := none) (a1 := p + 1) (a2 := 0) T h w2 hP hB (pz_Bc_pl (pz_Bc_put (pz_Bc_m R1 m) hP (by omega)) (by omega)) ?_ ?_ ?_ ?_ ?_ ?_ ?_)
          · simp (disch := omega) only [ao_sI_o]; exact m.2.2.2
          · simp (disch := omega) only [ao_sI_o, ao_sI_i]; rw [m.2.1 1 (by omega)]; exact c1
          · simp (disch := omega) only [ao_sI_o, ao_sI_i]; rw [m.2.1 1 (by omega)]; exact c2
          · rw [ao_sI_o (by omega)]; exact ao_sI_s _ _ _ _
          · simp (disch := omega) only [ao_sI_o, ao_sI_i]; rw [m.2.1 1 (by omega)]; exact c4
          · intro _; exact ao_sI_s _ _ _ _
          · exact fun y => absurd rfl y
    · by_cases e63 : pz_h L t p = some 63
      · -- it asks
        have hL1 := (pz_h_some T e63).1
        have X0A : ∀ (σ0 σ : aw_S) (Q : Int32 × aw_S → Prop), pz_TA σ0 9 L t → pz_A σ0 (p, Ψ, q1, q2) σ → (∀ s, pz_mA σ (p + 1) s → ao_ok (m_Re_readChoice s) (fun x => ao_ok (if x.1 = 0 then some ((0 : Int32), x.2) else some ((1 : Int32), x.2)) (fun x => ao_ok (if x.1 = 0 then some (((0 : Int32), x.2)) else aw_bd2 (m_Re_take x.2 ((59 : Int32))) (fun r24 s26 => if r24 = 0 then some (((0 : Int32), s26)) else aw_lt (aw_sI s26 8 12 (((s26.1 8 12) + (1 : Int32)))) (fun s28 => some (((1 : Int32), s28))))) Q))) → ao_ok (pz_tail σ) Q := by
          intro σ0 σ Q h R hQ
          obtain ⟨l1, l2, l3, l4⟩ := eL σ0 σ R
          unfold pz_tail m_Re_readEnd
          rw [l3, aw_bd_s (pz_at T (pz_TA_y h R.1.1) (by omega)), e63]
          refine ao_bd2 (ao_ifn (by decide) (ao_ifn (by decide) (ao_bd2 (ao_imp (pz_take0A (c := 63) T (pz_TA_y h R.1.1) (by omega) l3 (by omega)) ?_))))
          rintro ⟨x, s⟩ (⟨_, e1, m⟩ | ⟨y, _⟩)
          · have e1 : x = 1 := e1
            subst e1
            exact ao_ifn (show ¬ (1 : Int32) = 0 by decide) (ao_bd2 (hQ s m))
          · exact absurd e63 y
        have X0B : ∀ (σ0 σ : aw_S) (Q : Int32 × aw_S → Prop), pz_TB σ0 L t → pz_B σ0 (p, Ψ, q1, q2) σ → (∀ s, pz_Bc σ0 Ψ q1 q2 s → s.1 0 3 = nI (p + 1) → s.1 1 (1360 + (204 + ap_B Ψ)) = nI 5 → ao_ok (aw_bd (m_Rf_here s) (fun r48 => aw_bd (m_Rf_isLetter s r48) (fun r50 => if r50 = 0 then aw_bd2 (m_Rf_fails s ((s.1 0 3))) (fun r59 s61 => aw_gd (r59 = 0 ∨ r59 = 1) (some ((r59, s61)))) else aw_bd (m_Rf_here s) (fun r53 => aw_bd (m_Rf_put s (((220 : Int32) + nI (ap_B Ψ))) ((r53 - (97 : Int32)))) (fun s57 => aw_lt (aw_sI s57 0 3 (((s57.1 0 3) + (1 : Int32)))) (fun s58 => m_Rf_readEnd_J166 s58 (nI (ap_B Ψ)) (nI 63))))))) Q) → ao_ok (m_Rf_readEnd σ) Q := by
          intro σ0 σ Q h R hQ
          refine VB σ0 σ _ h R ?_
          rw [e63]
          refine ao_ifn (by decide) (ao_ifp rfl (UB σ0 σ _ _ _ R (fun s R1 f1 c1 c2 c3 c4 => ao_ifn (by decide) (ao_ifp rfl ?_))))
          unfold m_Rf_readEnd_J105
          rw [f1, nI_1]
          refine ao_let (ao_ifp rfl ?_)
          exact hQ _ (pz_Bc_m R1 (pz_mB_3 (pz_mB_0 f1))) (ao_sI_s _ _ _ _) (by rw [ao_sI_o (by omega)]; exact c1)
        by_cases eL2 : pz_in 97 122 (pz_h L t (p + 1))
        · obtain ⟨c, ec, hc1, hc2⟩ := id eL2
          have hL2 := (pz_h_some T ec).1
          have s97 : nI c - (97 : Int32) = nI (c - 97) := by rw [show (97 : Int32) = nI 97 from rfl, pk_sub (by omega)]
          obtain ⟨o1, w1, oA1, oB1⟩ := pz_num2 (p := p + 1 + 1) T (by omega)
          have X1A : ∀ (σ0 σ : aw_S) (Q : Int32 × aw_S → Prop), pz_TA σ0 9 L t → pz_A σ0 (p, Ψ, q1, q2) σ → (∀ s, pz_ln σ (ap_S Ψ + ap_B Ψ) (ap_B Ψ) (p + 1 + 1) 5 (some (c - 97)) none none 0 0 s → ao_ok (aw_bd2 (m_Re_readTarget s 20 22) (fun r13 s15 => if r13 = 0 then some (((0 : Int32), s15)) else aw_bd2 (m_Re_take s15 ((44 : Int32))) (fun r17 s19 => if r17 = 0 then some (((0 : Int32), s19)) else aw_bd2 (m_Re_readTarget s19 21 23) (fun r21 s23 => if r21 = 0 then some (((0 : Int32), s23)) else some (((1 : Int32), s23)))))) (fun x => ao_ok (if x.1 = 0 then some ((0 : Int32), x.2) else some ((1 : Int32), x.2)) (fun x => ao_ok (if x.1 = 0 then some (((0 : Int32), x.2)) else aw_bd2 (m_Re_take x.2 ((59 : Int32))) (fun r24 s26 => if r24 = 0 then some (((0 : Int32), s26)) else aw_lt (aw_sI s26 8 12 (((s26.1 8 12) + (1 : Int32)))) (fun s28 => some (((1 : Int32), s28))))) Q))) → ao_ok (pz_tail σ) Q := by
            intro σ0 σ Q h R hQ
            obtain ⟨l1, l2, l3, l4⟩ := eL σ0 σ R
            refine X0A σ0 σ Q h R (fun s m => ?_)
            unfold m_Re_readChoice
            rw [m.2.2.2, aw_bd_s (pz_at T (pz_TA_m (pz_TA_y h R.1.1) m) (by omega)), aw_bd_s (pz_isLetterA (pz_h_b T)), ao_b1 eL2, if_neg (by decide), ec, nI_1]
            refine ao_let (ao_bd2 (ao_imp (pz_ln_new (k := 5) (pz_mA_1 (q := p + 1 + 1) m) l1 (by omega) l2) ?_))
            rintro ⟨x, u⟩ ⟨e1, H⟩
            have e1 : x = 1 := e1
            subst e1
            refine ao_ifn (show ¬ (1 : Int32) = 0 by decide) ?_
            have H : pz_ln σ (ap_S Ψ + ap_B Ψ) (ap_B Ψ) (p + 1 + 1) 5 none none none 0 0 u := H
            show ao_ok (aw_gd (vp_in (u.1 8 11 - 1) 76) (aw_lt (aw_sI u 17 (u.1 8 11 - 1).toNatClampNeg (nI c - 97)) _)) _
            rw [H.2.2.2.1, nI_pred, ao_gdn (by omega) (by omega), nI_clamp (by omega), s97]
            exact ao_let (hQ _ (pz_ln_v H))
          have X1B : ∀ (σ0 σ : aw_S) (Q : Int32 × aw_S → Prop), pz_TB σ0 L t → pz_B σ0 (p, Ψ, q1, q2) σ → (∀ s, pz_Bc σ0 Ψ q1 q2 s → s.1 0 3 = nI (p + 1 + 1) → s.1 1 (1360 + (204 + ap_B Ψ)) = nI 5 → s.1 1 (1360 + (220 + ap_B Ψ)) = nI (c - 97) → ao_ok (aw_bd2 (m_Rf_readNumber s (nI (ap_B Ψ)) (nI 0)) (fun r44 s46 => if r44 = 0 then some (((0 : Int32), s46)) else m_Rf_readEnd_J183 s46 (nI (ap_B Ψ)) (nI 63))) Q) → ao_ok (m_Rf_readEnd σ) Q := by
            intro σ0 σ Q h R hQ
            refine X0B σ0 σ Q h R (fun s R1 f1 c1 => ?_)
            rw [aw_bd_s (pz_here T (pz_TB_y h R1.1) f1 (by omega)), aw_bd_s (pz_isLetterB (pz_h_b T)), ao_b1 eL2, if_neg (by decide), aw_bd_s (pz_here T (pz_TB_y h R1.1) f1 (by omega)), ec]
            show ao_ok (aw_bd (m_Rf_put s (220 + nI (ap_B Ψ)) (nI c - 97)) _) _
            rw [s97, show (220 : Int32) = nI 220 from rfl, nI_add, aw_bd_s (pz_put (by omega)), show (aw_sI s 1 (1360 + (220 + ap_B Ψ)) (nI (c - 97))).1 0 3 = nI (p + 1) from by rw [ao_sI_o (by omega)]; exact f1, nI_1]
            refine ao_let ?_
            unfold m_Rf_readEnd_J166
            refine ao_ifn (by decide) (hQ _ (pz_Bc_m (pz_Bc_put R1 hP (by omega)) (pz_mB_3 (pz_mB_0 (p := p + 1) (by rw [ao_sI_o (by omega)]; exact f1)))) (ao_sI_s _ _ _ _) ?_ ?_)
            · simp (disch := omega) only [ao_sI_o, ao_sI_i]; exact c1
            · simp (disch := omega) only [ao_sI_o, ao_sI_s]
          cases o1 with
          | inl q =>
            refine ⟨.inl q, w1, fun z' e => (by cases e), fun σ0 σ h R => X1A σ0 σ _ h R (fun s H => ?_), fun σ0 σ h R => X1B σ0 σ _ h R (fun s R1 f1 c1 c2 => ?_)⟩
            · refine ao_bd2 (ao_imp (pz_targetAf oA1 (pz_TA_y h (pz_ln_y R.1 H)) H.2.2.2.2.1) ?_)
              rintro ⟨x, u⟩ ⟨e1, m⟩
              have e1 : x = 0 := e1
              subst e1
              exact ao_ifp rfl (ao_some (ao_ifp rfl (ao_some (ao_ifp rfl (ao_some ⟨rfl, pz_yA_f (pz_ln_y R.1 H) m⟩)))))
            · refine ao_bd2 (ao_imp (pz_numberBf oB1 (pz_TB_y h R1.1) f1) ?_)
              rintro ⟨x, u⟩ ⟨e1, m⟩
              have e1 : x = 0 := e1
              subst e1
              exact ao_ifp rfl (ao_some ⟨rfl, pz_Bc_f R1 m⟩)
          | inr y =>
            obtain ⟨p1, v1⟩ := y
            obtain ⟨w1, w2, w3⟩ := w1
            have w1 : p + 1 + 1 < p1 := w1
            have w2 : p1 ≤ L := w2
            have w3 : v1 < 100 := w3
            have X2A : ∀ (σ0 σ : aw_S) (Q : Int32 × aw_S → Prop), pz_TA σ0 9 L t → pz_A σ0 (p, Ψ, q1, q2) σ → (∀ s, pz_ln σ (ap_S Ψ + ap_B Ψ) (ap_B Ψ) p1 5 (some (c - 97)) (some v1) none (p + 1 + 1) 0 s → ao_ok (aw_bd2 (m_Re_take s ((44 : Int32))) (fun r17 s19 => if r17 = 0 then some (((0 : Int32), s19)) else aw_bd2 (m_Re_readTarget s19 21 23) (fun r21 s23 => if r21 = 0 then some (((0 : Int32), s23)) else some (((1 : Int32), s23))))) (fun x => ao_ok (if x.1 = 0 then some ((0 : Int32), x.2) else some ((1 : Int32), x.2)) (fun x => ao_ok (if x.1 = 0 then some (((0 : Int32), x.2)) else aw_bd2 (m_Re_take x.2 ((59 : Int32))) (fun r24 s26 => if r24 = 0 then some (((0 : Int32), s26)) else aw_lt (aw_sI s26 8 12 (((s26.1 8 12) + (1 : Int32)))) (fun s28 => some (((1 : Int32), s28))))) Q))) → ao_ok (pz_tail σ) Q := by
              intro σ0 σ Q h R hQ
              refine X1A σ0 σ Q h R (fun s H => ao_bd2 (ao_imp (pz_targetA H (by omega) oA1 (pz_TA_y h (pz_ln_y R.1 H)) w3) ?_))
              rintro ⟨x, u'⟩ ⟨e1, u, hu, eu⟩
              have e1 : x = 1 := e1
              have eu : u' = aw_sI (aw_sI u 20 (ap_S Ψ + ap_B Ψ) (nI v1)) 22 (ap_S Ψ + ap_B Ψ) (nI (p + 1 + 1)) := eu
              subst e1 eu
              exact ao_ifn (show ¬ (1 : Int32) = 0 by decide) (hQ _ (pz_ln_1 hu))
            have X2B : ∀ (σ0 σ : aw_S) (Q : Int32 × aw_S → Prop), pz_TB σ0 L t → pz_B σ0 (p, Ψ, q1, q2) σ → (∀ s, pz_Bc σ0 Ψ q1 q2 s → s.1 0 3 = nI p1 → s.1 1 (1360 + (204 + ap_B Ψ)) = nI 5 → s.1 1 (1360 + (220 + ap_B Ψ)) = nI (c - 97) → s.1 1 (1360 + (236 + 2 * ap_B Ψ)) = nI v1 → s.1 3 (2 * ap_B Ψ) = nI (p + 1 + 1) → ao_ok (aw_bd2 (m_Rf_takes s ((44 : Int32))) (fun r36 s38 => if r36 = 0 then some (((0 : Int32), s38)) else aw_bd2 (m_Rf_readNumber s38 (nI (ap_B Ψ)) ((1 : Int32))) (fun r40 s42 => if r40 = 0 then some (((0 : Int32), s42)) else m_Rf_readEnd_J209 s42 (nI (ap_B Ψ))))) Q) → ao_ok (m_Rf_readEnd σ) Q := by
              intro σ0 σ Q h R hQ
              refine X1B σ0 σ Q h R (fun s R1 f1 c1 c2 => ao_bd2 (ao_imp (pz_numberB oB1 (pz_TB_y h R1.1) f1 hB (by omega)) ?_))
              rintro ⟨x, u'⟩ ⟨e1, u, m, eu⟩
              have e1 : x = 1 := e1
              have eu : u' = aw_sI (aw_sI u 1 (1360 + (236 + 2 * ap_B Ψ + 0)) (nI v1)) 3 (2 * ap_B Ψ + 0) (nI (p + 1 + 1)) := eu
              subst e1 eu
              refine ao_ifn (show ¬ (1 : Int32) = 0 by decide) ?_
              unfold m_Rf_readEnd_J183
              refine ao_ifp rfl (hQ _ (pz_Bc_pl (pz_Bc_put (pz_Bc_m R1 m) hP (by omega)) (by omega)) ?_ ?_ ?_ ?_ (ao_sI_s _ _ _ _))
              · simp (disch := omega) only [ao_sI_o]; exact m.2.2.2
              · simp (disch := omega) only [ao_sI_o, ao_sI_i]; rw [m.2.1 1 (by omega)]; exact c1
              · simp (disch := omega) only [ao_sI_o, ao_sI_i]; rw [m.2.1 1 (by omega)]; exact c2
              · rw [ao_sI_o (by omega)]; exact ao_sI_s _ _ _ _
            by_cases e44 : pz_h L t p1 = some 44
            · have hL3 := (pz_h_some T e44).1
              obtain ⟨o2, u1, oA2, oB2⟩ := pz_num2 (p := p1 + 1) T (by omega)
              have X3A : ∀ (σ0 σ : aw_S) (Q : Int32 × aw_S → Prop), pz_TA σ0 9 L t → pz_A σ0 (p, Ψ, q1, q2) σ → (∀ s, pz_ln σ (ap_S Ψ + ap_B Ψ) (ap_B Ψ) (p1 + 1) 5 (some (c - 97)) (some v1) none (p + 1 + 1) 0 s → ao_ok (aw_bd2 (m_Re_readTarget s 21 23) (fun r21 s23 => if r21 = 0 then some (((0 : Int32), s23)) else some (((1 : Int32), s23)))) (fun x => ao_ok (if x.1 = 0 then some ((0 : Int32), x.2) else some ((1 : Int32), x.2)) (fun x => ao_ok (if x.1 = 0 then some (((0 : Int32), x.2)) else aw_bd2 (m_Re_take x.2 ((59 : Int32))) (fun r24 s26 => if r24 = 0 then some (((0 : Int32), s26)) else aw_lt (aw_sI s26 8 12 (((s26.1 8 12) + (1 : Int32)))) (fun s28 => some (((1 : Int32), s28))))) Q))) → ao_ok (pz_tail σ) Q := by
                intro σ0 σ Q h R hQ
                refine X2A σ0 σ Q h R (fun s H => ao_bd2 (ao_imp (pz_take0A (c := 44) T (pz_TA_y h (pz_ln_y R.1 H)) (by omega) H.2.2.2.2.1 (by omega)) ?_))
                rintro ⟨x, u⟩ (⟨_, e1, m⟩ | ⟨y, _⟩)
                · have e1 : x = 1 := e1
                  subst e1
                  exact ao_ifn (show ¬ (1 : Int32) = 0 by decide) (hQ u (pz_ln_m H m))
                · exact absurd e44 y
              cases o2 with
              | inl q =>
                refine ⟨.inl q, u1, fun z' e => (by cases e), fun σ0 σ h R => X3A σ0 σ _ h R (fun s H => ?_), fun σ0 σ h R => X2B σ0 σ _ h R (fun s R1 f1 c1 c2 c3 d1 => ?_)⟩
                · refine ao_bd2 (ao_imp (pz_targetAf oA2 (pz_TA_y h (pz_ln_y R.1 H)) H.2.2.2.2.1) ?_)
                  rintro ⟨x, u⟩ ⟨e1, m⟩
                  have e1 : x = 0 := e1
                  subst e1
                  exact ao_ifp rfl (ao_some (ao_ifp rfl (ao_some (ao_ifp rfl (ao_some ⟨rfl, pz_yA_f (pz_ln_y R.1 H) m⟩)))))
                · refine ao_bd2 (ao_imp (pz_take0B (c := 44) T (pz_TB_y h R1.1) (by omega) f1 (by omega)) ?_)
                  rintro ⟨x, u⟩ (⟨_, e1, m⟩ | ⟨y, _⟩)
                  · have e1 : x = 1 := e1
                    subst e1
                    refine ao_ifn (show ¬ (1 : Int32) = 0 by decide) (ao_bd2 (ao_imp (pz_numberBf (k := 1) oB2 (pz_TB_y h (pz_Bc_m R1 m).1) m.2.2.2) ?_))
                    rintro ⟨x, u'⟩ ⟨e1, m'⟩
                    have e1 : x = 0 := e1
                    subst e1
                    exact ao_ifp rfl (ao_some ⟨rfl, pz_Bc_f (pz_Bc_m R1 m) m'⟩)
                  · exact absurd e44 y
              | inr y =>
                obtain ⟨p2, v2⟩ := y
                obtain ⟨u1, u2, u3⟩ := u1
                have u1 : p1 + 1 < p2 := u1
                have u2 : p2 ≤ L := u2
                have u3 : v2 < 100 := u3
                refine ⟨pz_tk L t 59 (p2, pz_addE Ψ 5 (some (c - 97)) (some v1) (some v2), pz_u q1 (ap_B Ψ) (p + 1 + 1), pz_u q2 (ap_B Ψ) (p1 + 1)), pz_tk_w T (pz_addE_w hW hB (Or.inr (Or.inl ⟨rfl, ⟨c - 97, by omega, rfl⟩, ⟨v1, w3, rfl⟩, ⟨v2, u3, rfl⟩⟩)) u2 (by omega) (by omega)) (by show p ≤ p2; omega), pz_tk_E, fun σ0 σ h R => X3A σ0 σ _ h R (fun s H => ?_), fun σ0 σ h R => X2B σ0 σ _ h R (fun s R1 f1 c1 c2 c3 d1 => ?_)⟩
                · refine ao_bd2 (ao_imp (pz_targetA H (by omega) oA2 (pz_TA_y h (pz_ln_y R.1 H)) u3) ?_)
                  rintro ⟨x, u'⟩ ⟨e1, u, hu, eu⟩
                  have e1 : x = 1 := e1
                  have eu : u' = aw_sI (aw_sI u 21 (ap_S Ψ + ap_B Ψ) (nI v2)) 23 (ap_S Ψ + ap_B Ψ) (nI (p1 + 1)) := eu
                  subst e1 eu
                  exact ao_ifn (show ¬ (1 : Int32) = 0 by decide) (ao_some (ao_ifn (show ¬ (1 : Int32) = 0 by decide) (ao_some (ao_ifn (show ¬ (1 : Int32) = 0 by decide) (pz_lnEnd T h u2 hP R.1 (eL σ0 σ R).2.2.2 (pz_ln_2 hu))))))
                · refine ao_bd2 (ao_imp (pz_take0B (c := 44) T (pz_TB_y h R1.1) (by omega) f1 (by omega)) ?_)
                  rintro ⟨x, u⟩ (⟨_, e1, m⟩ | ⟨y, _⟩)
                  · have e1 : x = 1 := e1
                    subst e1
                    refine ao_ifn (show ¬ (1 : Int32) = 0 by decide) (ao_bd2 (ao_imp (pz_numberB (k := 1) oB2 (pz_TB_y h (pz_Bc_m R1 m).1) m.2.2.2 hB (by omega)) ?_))
                    rintro ⟨x, u'⟩ ⟨e1, u3', m', eu⟩
                    have e1 : x = 1 := e1
                    have eu : u' = aw_sI (aw_sI u3' 1 (1360 + (236 + 2 * ap_B Ψ + 1)) (nI v2)) 3 (2 * ap_B Ψ + 1) (nI (p1 + 1)) := eu
                    subst e1 eu
                    have m1 : u3'.1 1 = s.1 1 := (m'.2.1 1 (by omega)).trans (m.2.1 1 (by omega))
                    have m3 : u3'.1 3 = s.1 3 := (m'.2.1 3 (by omega)).trans (m.2.1 3 (by omega))
                    refine ao_ifn (show ¬ (1 : Int32) = 0 by decide) (pz_endB (k := 5) (v := some (c - 97)) (e1 := some v1) (e2 := some v2) (a1 := p + 1 + 1) (a2 := p1 + 1) T h u2 hP hB (pz_Bc_pl (pz_Bc_put (pz_Bc_m (pz_Bc_m R1 m) m') hP (by omega)) (by omega)) ?_ ?_ ?_ ?_ ?_ ?_ ?_)
                    · simp (disch := omega) only [ao_sI_o]; exact m'.2.2.2
                    · simp (disch := omega) only [ao_sI_o, ao_sI_i]; rw [m1]; exact c1
                    · simp (disch := omega) only [ao_sI_o, ao_sI_i]; rw [m1]; exact c2
                    · simp (disch := omega) only [ao_sI_o, ao_sI_i]; rw [m1]; exact c3
                    · rw [ao_sI_o (by omega), show 237 + 2 * ap_B Ψ = 236 + 2 * ap_B Ψ + 1 by omega]; exact ao_sI_s _ _ _ _
                    · intro _; rw [ao_sI_i (by omega), ao_sI_o (by omega), m3]; exact d1
                    · intro _; exact ao_sI_s _ _ _ _
                  · exact absurd e44 y
            · refine ⟨.inl p1, w2, fun z' e => (by cases e), fun σ0 σ h R => X2A σ0 σ _ h R (fun s H => ?_), fun σ0 σ h R => X2B σ0 σ _ h R (fun s R1 f1 c1 c2 c3 d1 => ?_)⟩
              · refine ao_bd2 (ao_imp (pz_take0A (c := 44) T (pz_TA_y h (pz_ln_y R.1 H)) (by omega) H.2.2.2.2.1 (by omega)) ?_)
                rintro ⟨x, u⟩ (⟨y, _⟩ | ⟨_, e1, m⟩)
                · exact absurd y e44
                · have e1 : x = 0 := e1
                  subst e1
                  exact ao_ifp rfl (ao_some (ao_ifp rfl (ao_some (ao_ifp rfl (ao_some ⟨rfl, pz_yA_f (pz_ln_y R.1 H) m⟩)))))
              · refine ao_bd2 (ao_imp (pz_take0B (c := 44) T (pz_TB_y h R1.1) (by omega) f1 (by omega)) ?_)
                rintro ⟨x, u⟩ (⟨y, _⟩ | ⟨_, e1, m⟩)
                · exact absurd y e44
                · have e1 : x = 0 := e1
                  subst e1
                  exact ao_ifp rfl (ao_some ⟨rfl, pz_Bc_f R1 m⟩)
        · refine ⟨.inl (p + 1), by show p + 1 ≤ L; omega, fun z' e => (by cases e), fun σ0 σ h R => X0A σ0 σ _ h R (fun s m => ?_), fun σ0 σ h R => X0B σ0 σ _ h R (fun s R1 f1 c1 => ?_)⟩
          · unfold m_Re_readChoice
            rw [m.2.2.2, aw_bd_s (pz_at T (pz_TA_m (pz_TA_y h R.1.1) m) (by omega)), aw_bd_s (pz_isLetterA (pz_h_b T)), ao_b0 eL2, if_pos rfl]
            unfold m_Re_refuse
            exact ao_bd2 (ao_let (ao_some (ao_gd (Or.inl rfl) (ao_some (ao_ifp rfl (ao_some (ao_ifp rfl (ao_some ⟨rfl, ⟨m.1.trans R.1.1.1, fun k hk => by rw [ao_sI_o (by omega)]; exact (m.2.1 k (by omega)).trans (R.1.1.2 k hk)⟩, ao_sI_s _ _ _ _⟩))))))))
          · rw [aw_bd_s (pz_here T (pz_TB_y h R1.1) f1 (by omega)), aw_bd_s (pz_isLetterB (pz_h_b T)), ao_b0 eL2, if_pos rfl, f1]
            exact fB σ0 s (p + 1) _ R1 (fun x e1 e2 e3 => ⟨e1, e2, e3⟩)
      · refine ⟨.inl p, hp, fun z' e => (by cases e), fun σ0 σ h R => ?_, fun σ0 σ h R => ?_⟩
        · obtain ⟨l1, l2, l3, l4⟩ := eL σ0 σ R
          unfold pz_tail m_Re_readEnd
          rw [l3, aw_bd_s (pz_at T (pz_TA_y h R.1.1) (by omega))]
          refine ao_bd2 (ao_ifn (ne 46 (by omega) e46) (ao_ifn (ne 62 (by omega) e62) (ao_bd2 (ao_imp (pz_take0A (c := 63) T (pz_TA_y h R.1.1) (by omega) l3 (by omega)) ?_))))
          rintro ⟨x, s⟩ (⟨y, _⟩ | ⟨_, e1, m⟩)
          · exact absurd y e63
          · have e1 : x = 0 := e1
            subst e1
            exact ao_ifp rfl (ao_some (ao_ifp rfl (ao_some ⟨rfl, pz_Ac_f R.1 m⟩)))
        · refine VB σ0 σ _ h R (ao_ifn (ne 62 (by omega) e62) (ao_ifn (ne 63 (by omega) e63) (UB σ0 σ _ _ _ R (fun s R1 f1 c1 c2 c3 c4 => ?_))))
          exact ao_ifn (ne 62 (by omega) e62) (ao_ifn (ne 63 (by omega) e63) (ao_ifn (ne 46 (by omega) e46) (fB σ0 s p _ R1 (fun x e1 e2 e3 => ⟨e1, e2, e3⟩))))

/-! ===== THE PARSE: a block, all blocks ===== -/
theorem ao_lpS {S R : Type} {f : S → Option (R ⊕ S)} {m : Nat} {s : S} {Q : R → Prop} (h : ao_ok (f s) (Sum.elim Q (fun s' => ao_ok (aw_lp f m s') Q))) : ao_ok (aw_lp f (m + 1) s) Q := by
  obtain ⟨x, e, hx⟩ := h
  unfold aw_lp
  rw [e]
  cases x with
  | inl r => exact ⟨r, rfl, hx⟩
  | inr s' => exact hx
theorem ao_lpu1 {S R : Type} {f : S → Option (R ⊕ S)} {s : S} {Q : R → Prop} {n : Nat} (hn : n < 4294967296) (h : ∀ m, n ≤ m → ao_ok (aw_lp f m s) Q) : ao_ok (aw_lp f aw_fu s) Q := h _ (by have := aw_fu_le; omega)
theorem pz_stA {σ : aw_S} {L p : Nat} {t : Nat → Nat} (T : pz_T L t) (h : pz_TA σ 9 L t) (hp : p < 2 ^ 31) (e : σ.1 8 14 = nI p) : m_Re_startsStatement σ = some (ao_b (pz_in 97 122 (pz_h L t p) ∨ pz_h L t p = some 33)) := by
  unfold m_Re_startsStatement
  rw [e, aw_bd_s (pz_at T h hp), aw_bd_s (pz_isLetterA (pz_h_b T))]
  by_cases q : pz_in 97 122 (pz_h L t p)
  · rw [ao_b1 q, if_neg ao_n10, ao_b1 (Or.inl q)]
  · rw [ao_b0 q, if_pos rfl, aw_bd_s (pz_at T h hp)]
    by_cases z : pz_h L t p = some 33
    · rw [if_pos (show ao_o (pz_h L t p) = (33 : Int32) from (pz_o_eq (c := 33) (pz_h_b T) (by omega)).mpr z), ao_b1 (Or.inr z)]
    · rw [if_neg (show ¬ ao_o (pz_h L t p) = (33 : Int32) from fun y => z ((pz_o_eq (c := 33) (pz_h_b T) (by omega)).mp y)), ao_b0 (fun y => y.elim q z)]
/-- the loop over statements comes to: in the class, in the reference -/
def pz_lA (σ0 : aw_S) (o : Nat ⊕ pz_Z) (x : (Int32 × aw_S) ⊕ aw_S) : Prop := match o with
  | .inl q => ∃ s, x = .inl (0, s) ∧ pz_yA σ0 s ∧ s.1 8 15 = nI q
  | .inr z => ∃ s, x = .inr s ∧ pz_A σ0 z s
def pz_lB (σ0 : aw_S) (o : Nat ⊕ pz_Z) (x : aw_S ⊕ aw_S) : Prop := match o with
  | .inl q => ∃ s, x = .inl s ∧ pz_yB σ0 s ∧ s.1 0 4 = nI q
  | .inr z => ∃ s, x = .inr s ∧ pz_B σ0 z s
set_option maxHeartbeats 2000000 in
theorem pz_stms {L : Nat} {t : Nat → Nat} (T : pz_T L t) : ∀ (n : Nat) (z : pz_Z), L - z.1 ≤ n → pz_wf L z → ap_B z.2.1 < 16 → ∃ o, (match o with
      | .inl q => q ≤ L
      | .inr z' => pz_wf L z' ∧ z.1 ≤ z'.1 ∧ ap_B z'.2.1 = ap_B z.2.1) ∧
    (∀ (σ0 σ : aw_S) (i m : Nat), pz_TA σ0 9 L t → pz_A σ0 z σ → i ≤ ap_S z.2.1 → n < m → ao_ok (aw_lp (fun s => m_Re_readBlock_B20 s.2 s.1) m (nI i, σ)) (pz_lA σ0 o)) ∧
    ∀ (σ0 σ : aw_S) (m : Nat), pz_TB σ0 L t → pz_B σ0 z σ → n < m → ao_ok (aw_lp (fun s => m_Rf_readBlock_B19 s) m σ) (pz_lB σ0 o) := by
  have hL := T.1
  intro n
  induction n with
  | zero =>
    intro z hz hw hB
    have hn : pz_h L t z.1 = none := by
      unfold pz_h
      rw [if_neg (by omega)]
    refine ⟨.inr z, ⟨hw, Nat.le_refl _, rfl⟩, fun σ0 σ i m h R hi hm => ?_, fun σ0 σ m h R hm => ?_⟩
    · obtain ⟨m, rfl⟩ : ∃ k, m = k + 1 := ⟨m - 1, by omega⟩
      have hS := hw.2.1.2.1
      have hzL := hw.1
      refine ao_lpS ?_
      show ao_ok (m_Re_readBlock_B20 σ (nI i)) _
      unfold m_Re_readBlock_B20
      rw [if_neg (show ¬ (60 : Int32) < nI i from nI_nlt (a := 60) (by omega) (by omega)), aw_bd_s (pz_stA T (pz_TA_y h R.1.1) (p := z.1) (by omega) R.2.1), ao_b0 (by
        rw [hn]
        rintro (⟨c, e, _⟩ | e) <;> cases e), if_pos rfl]
      exact ao_inl ⟨σ, rfl, R⟩
    · obtain ⟨m, rfl⟩ : ∃ k, m = k + 1 := ⟨m - 1, by omega⟩
      have hzL := hw.1
      refine ao_lpS ?_
      show ao_ok (m_Rf_readBlock_B19 σ) _
      unfold m_Rf_readBlock_B19
      rw [aw_bd_s (pz_here T (pz_TB_y h R.1.1) R.2 (by omega)), aw_bd_s (pz_isLetterB (pz_h_b T)), ao_b0 (by
        rw [hn]
        rintro ⟨c, e, _⟩
        cases e), if_pos rfl, aw_bd_s (pz_here T (pz_TB_y h R.1.1) R.2 (by omega)), hn]
      exact ao_ifn (by decide) (ao_inl ⟨σ, rfl, R⟩)
  | succ n ih =>
    intro z hz hw hB
    have hS := hw.2.1.2.1
    have hzL := hw.1
    by_cases st : pz_in 97 122 (pz_h L t z.1) ∨ pz_h L t z.1 = some 33
    · obtain ⟨o1, w1, b1, oA, oB⟩ := pz_stm T hw hB st
      have KB : ∀ (σ0 σ : aw_S) (m : Nat) (Q : aw_S ⊕ aw_S → Prop), pz_TB σ0 L t → pz_B σ0 z σ → (∀ x, pz_oB σ0 o1 x → ao_ok (if x.1 = 0 then (some (.inl (.inl x.2)) : Option ((aw_S ⊕ aw_S) ⊕ aw_S)) else some (.inr x.2)) (Sum.elim Q (fun s' => ao_ok (aw_lp (fun s => m_Rf_readBlock_B19 s) m s') Q))) → ao_ok (aw_lp (fun s => m_Rf_readBlock_B19 s) (m + 1) σ) Q := by
        intro σ0 σ m Q h R hQ
        refine ao_lpS ?_
        show ao_ok (m_Rf_readBlock_B19 σ) _
        have J : ao_ok (m_Rf_readBlock_J38 σ) (Sum.elim Q (fun s' => ao_ok (aw_lp (fun s => m_Rf_readBlock_B19 s) m s') Q)) := by
          unfold m_Rf_readBlock_J38
          exact ao_bd2 (ao_imp (oB σ0 σ h R) (fun x hx => hQ x hx))
        unfold m_Rf_readBlock_B19
        rw [aw_bd_s (pz_here T (pz_TB_y h R.1.1) R.2 (by omega)), aw_bd_s (pz_isLetterB (pz_h_b T))]
        by_cases q : pz_in 97 122 (pz_h L t z.1)
        · rw [ao_b1 q, if_neg ao_n10]
          exact J
        · have q33 : pz_h L t z.1 = some 33 := st.elim (fun y => absurd y q) id
          rw [ao_b0 q, if_pos rfl, aw_bd_s (pz_here T (pz_TB_y h R.1.1) R.2 (by omega)), q33]
          exact ao_ifp rfl J
      have KA : ∀ (σ0 σ : aw_S) (i m : Nat) (Q : (Int32 × aw_S) ⊕ aw_S → Prop), pz_TA σ0 9 L t → pz_A σ0 z σ → i ≤ ap_S z.2.1 → (∀ x, ((x.1 = 0 ∧ pz_oA σ0 o1 x) ∨ (x.1 = 1 ∧ ao_ok (m_Re_take x.2 (nI 59)) (pz_oA σ0 o1))) → ao_ok (if x.1 = 0 then (some (.inl (.inl ((0 : Int32), x.2))) : Option (((Int32 × aw_S) ⊕ aw_S) ⊕ (Int32 × aw_S))) else aw_bd2 (m_Re_take x.2 ((59 : Int32))) (fun r10 s12 => if r10 = 0 then some (.inl ((.inl (((0 : Int32), s12))))) else aw_lt (nI i + (1 : Int32)) (fun x14 => some (.inr ((x14, s12)))))) (Sum.elim Q (fun s' => ao_ok (aw_lp (fun s => m_Re_readBlock_B20 s.2 s.1) m s') Q))) → ao_ok (aw_lp (fun s => m_Re_readBlock_B20 s.2 s.1) (m + 1) (nI i, σ)) Q := by
        intro σ0 σ i m Q h R hi hQ
        refine ao_lpS ?_
        show ao_ok (m_Re_readBlock_B20 σ (nI i)) _
        unfold m_Re_readBlock_B20
        rw [if_neg (show ¬ (60 : Int32) < nI i from nI_nlt (a := 60) (by omega) (by omega)), aw_bd_s (pz_stA T (pz_TA_y h R.1.1) (p := z.1) (by omega) R.2.1), ao_b1 st, if_neg ao_n10]
        exact ao_bd2 (ao_imp (oA σ0 σ h R) (fun x hx => hQ x hx))
      cases o1 with
      | inl q =>
        refine ⟨.inl q, w1, fun σ0 σ i m h R hi hm => ?_, fun σ0 σ m h R hm => ?_⟩
        · obtain ⟨m, rfl⟩ : ∃ k, m = k + 1 := ⟨m - 1, by omega⟩
          refine KA σ0 σ i m _ h R hi ?_
          rintro ⟨x, s⟩ (⟨e, hx⟩ | ⟨e, hx⟩)
          · exact ao_ifp e (ao_inl ⟨s, rfl, hx.2⟩)
          · have e : x = 1 := e
            subst e
            refine ao_ifn ao_n10 (ao_bd2 (ao_imp hx ?_))
            rintro ⟨y, u⟩ ⟨e2, hy⟩
            exact ao_ifp e2 (ao_inl ⟨u, rfl, hy⟩)
        · obtain ⟨m, rfl⟩ : ∃ k, m = k + 1 := ⟨m - 1, by omega⟩
          refine KB σ0 σ m _ h R ?_
          rintro ⟨x, s⟩ ⟨e, hx⟩
          exact ao_ifp e (ao_inl ⟨s, rfl, hx⟩)
      | inr z1 =>
        obtain ⟨w1, w2⟩ := w1
        obtain ⟨b1, b2⟩ := b1 z1 rfl
        obtain ⟨o, v1, iA, iB⟩ := ih z1 (by omega) w1 (by omega)
        refine ⟨o, ?_, fun σ0 σ i m h R hi hm => ?_, fun σ0 σ m h R hm => ?_⟩
        · cases o with
          | inl q => exact v1
          | inr z' => exact ⟨v1.1, by have := v1.2.1; omega, v1.2.2.trans b1⟩
        · obtain ⟨m, rfl⟩ : ∃ k, m = k + 1 := ⟨m - 1, by omega⟩
          refine KA σ0 σ i m _ h R hi ?_
          rintro ⟨x, s⟩ (⟨e, hx⟩ | ⟨e, hx⟩)
          · have e1 : x = 1 := hx.1
            have e : x = 0 := e
            rw [e] at e1
            exact absurd e1 (by decide)
          · have e : x = 1 := e
            subst e
            refine ao_ifn ao_n10 (ao_bd2 (ao_imp hx ?_))
            rintro ⟨y, u⟩ ⟨e2, hy⟩
            have e2 : y = 1 := e2
            subst e2
            refine ao_ifn ao_n10 (ao_let (ao_inr ?_))
            show ao_ok (aw_lp (fun s => m_Re_readBlock_B20 s.2 s.1) m (nI i + 1, u)) _
            rw [nI_1]
            exact iA σ0 u (i + 1) m h hy (by omega) (by omega)
        · obtain ⟨m, rfl⟩ : ∃ k, m = k + 1 := ⟨m - 1, by omega⟩
          refine KB σ0 σ m _ h R ?_
          rintro ⟨x, s⟩ ⟨e, hx⟩
          have e : x = 1 := e
          subst e
          exact ao_ifn ao_n10 (ao_inr (iB σ0 s m h hx (by omega)))
    · refine ⟨.inr z, ⟨hw, Nat.le_refl _, rfl⟩, fun σ0 σ i m h R hi hm => ?_, fun σ0 σ m h R hm => ?_⟩
      · obtain ⟨m, rfl⟩ : ∃ k, m = k + 1 := ⟨m - 1, by omega⟩
        refine ao_lpS ?_
        show ao_ok (m_Re_readBlock_B20 σ (nI i)) _
        unfold m_Re_readBlock_B20
        rw [if_neg (show ¬ (60 : Int32) < nI i from nI_nlt (a := 60) (by omega) (by omega)), aw_bd_s (pz_stA T (pz_TA_y h R.1.1) (p := z.1) (by omega) R.2.1), ao_b0 st, if_pos rfl]
        exact ao_inl ⟨σ, rfl, R⟩
      · obtain ⟨m, rfl⟩ : ∃ k, m = k + 1 := ⟨m - 1, by omega⟩
        refine ao_lpS ?_
        show ao_ok (m_Rf_readBlock_B19 σ) _
        unfold m_Rf_readBlock_B19
        rw [aw_bd_s (pz_here T (pz_TB_y h R.1.1) R.2 (by omega)), aw_bd_s (pz_isLetterB (pz_h_b T)), ao_b0 (fun y => st (Or.inl y)), if_pos rfl, aw_bd_s (pz_here T (pz_TB_y h R.1.1) R.2 (by omega))]
        exact ao_ifn (show ¬ ao_o (pz_h L t z.1) = (33 : Int32) from fun y => st (Or.inr ((pz_o_eq (c := 33) (pz_h_b T) (by omega)).mp y))) (ao_inl ⟨σ, rfl, R⟩)
set_option maxHeartbeats 2000000 in
theorem pz_blk {L : Nat} {t : Nat → Nat} (T : pz_T L t) {z : pz_Z} (hw : pz_wf L z) : ∃ o, pz_ow L z.1 o ∧ (∀ z', o = .inr z' → ap_fr z'.2.1 (ap_B z'.2.1) = ap_S z'.2.1 ∧ 0 < ap_B z'.2.1) ∧
    (∀ σ0 σ : aw_S, pz_TA σ0 9 L t → pz_A σ0 z σ → ao_ok (m_Re_readBlock σ) (pz_oA σ0 o)) ∧
    ∀ σ0 σ : aw_S, pz_TB σ0 L t → pz_B σ0 z σ → ao_ok (m_Rf_readBlock σ) (pz_oB σ0 o) := by
  have hL := T.1
  have hzL := hw.1
  have hB16 := hw.2.1.1
  by_cases hB : ap_B z.2.1 < 16
  · obtain ⟨o1, w1, sA, sB⟩ := pz_stms T (L - z.1) z (Nat.le_refl _) hw hB
    have KA : ∀ (σ0 σ : aw_S) (Q : Int32 × aw_S → Prop), pz_TA σ0 9 L t → pz_A σ0 z σ → (∀ x, pz_lA σ0 o1 x → ao_ok (Sum.elim (fun y18 => some y18) (fun y19 => pz_tail y19) x) Q) → ao_ok (m_Re_readBlock σ) Q := by
      intro σ0 σ Q h R hQ
      unfold m_Re_readBlock
      rw [R.1.2.2.2.1, if_pos (show nI (ap_B z.2.1) < (16 : Int32) from nI_lt (b := 16) hB (by omega))]
      refine ao_bd (ao_imp (ao_lpu1 (n := L + 1) (by omega) (fun m hm => sA σ0 σ 0 m h R (Nat.zero_le _) (by omega))) (fun x hx => ?_))
      exact hQ x hx
    have KB : ∀ (σ0 σ : aw_S) (Q : Int32 × aw_S → Prop), pz_TB σ0 L t → pz_B σ0 z σ → (∀ x, pz_lB σ0 o1 x → ao_ok (Sum.elim (fun y19 => some (((0 : Int32), y19))) (fun y20 => aw_bd2 (m_Rf_readEnd y20) (fun r21 s23 => aw_gd (r21 = 0 ∨ r21 = 1) (some ((r21, s23))))) x) Q) → ao_ok (m_Rf_readBlock σ) Q := by
      intro σ0 σ Q h R hQ
      have eB : σ.1 1 (1360 + 0) = nI (ap_B z.2.1) := R.1.2.2.1.1
      unfold m_Rf_readBlock
      rw [show (0 : Int32) = nI 0 from rfl, aw_bd_s (pz_read (by omega)), eB, if_neg (show ¬ nI (ap_B z.2.1) = (16 : Int32) from fun y => by have := (nI_eq (a := ap_B z.2.1) (b := 16) (by omega) (by omega)).mp y; omega)]
      refine ao_bd (ao_imp (ao_lpu1 (n := L + 1) (by omega) (fun m hm => sB σ0 σ m h R (by omega))) (fun x hx => ?_))
      exact hQ x hx
    cases o1 with
    | inl q =>
      refine ⟨.inl q, w1, fun z' e => (by cases e), fun σ0 σ h R => KA σ0 σ _ h R ?_, fun σ0 σ h R => KB σ0 σ _ h R ?_⟩
      · rintro x ⟨s, rfl, hs⟩
        exact ao_some ⟨rfl, hs⟩
      · rintro x ⟨s, rfl, hs⟩
        exact ao_some ⟨rfl, hs⟩
    | inr z1 =>
      obtain ⟨w1, w2, w3⟩ := w1
      obtain ⟨o, v1, v2, eA, eB⟩ := pz_end T w1 (by omega)
      refine ⟨o, ?_, v2, fun σ0 σ h R => KA σ0 σ _ h R ?_, fun σ0 σ h R => KB σ0 σ _ h R ?_⟩
      · cases o with
        | inl q => exact v1
        | inr z' => exact ⟨v1.1, by have := v1.2; omega⟩
      · rintro x ⟨s, rfl, hs⟩
        exact eA σ0 s h hs
      · rintro x ⟨s, rfl, hs⟩
        show ao_ok (aw_bd2 (m_Rf_readEnd s) (fun r21 s23 => aw_gd (r21 = 0 ∨ r21 = 1) (some (r21, s23)))) _
        refine ao_bd2 (ao_imp (eB σ0 s h hs) ?_)
        rintro ⟨y, u⟩ hy
        refine ao_gd ?_ (ao_some hy)
        unfold pz_oB at hy
        revert hy
        cases o with
        | inl q => exact fun hy => Or.inl hy.1
        | inr z' => exact fun hy => Or.inr hy.1
  · refine ⟨.inl z.1, hzL, fun z' e => (by cases e), fun σ0 σ h R => ?_, fun σ0 σ h R => ?_⟩
    · unfold m_Re_readBlock
      rw [R.1.2.2.2.1, if_neg (show ¬ nI (ap_B z.2.1) < (16 : Int32) from nI_nlt (b := 16) (by omega) (by omega)), R.2.1]
      unfold m_Re_refuse
      exact ao_bd2 (ao_let (ao_some (ao_gd (Or.inl rfl) (ao_some ⟨rfl, ⟨R.1.1.1, fun k hk => by rw [ao_sI_o (by omega)]; exact R.1.1.2 k hk⟩, ao_sI_s _ _ _ _⟩))))
    · have eB : σ.1 1 (1360 + 0) = nI (ap_B z.2.1) := R.1.2.2.1.1
      unfold m_Rf_readBlock
      rw [show (0 : Int32) = nI 0 from rfl, aw_bd_s (pz_read (by omega)), eB, if_pos (show nI (ap_B z.2.1) = (16 : Int32) by rw [show ap_B z.2.1 = 16 by omega]; rfl), R.2]
      unfold m_Rf_fails
      exact ao_bd2 (ao_let (ao_some (ao_gd (Or.inl rfl) (ao_some ⟨rfl, ⟨R.1.1.1, fun k h1 h2 h3 => by rw [ao_sI_o h1]; exact R.1.1.2.1 k h1 h2 h3, fun j h1 h2 h3 => by rw [ao_sI_i h2]; exact R.1.1.2.2.1 j h1 h2 h3, fun j hj => by rw [ao_sI_o (by omega)]; exact R.1.1.2.2.2 j hj⟩, ao_sI_s _ _ _ _⟩))))
/-- all blocks, in the class: as the state is -/
def pz_kA (σ0 : aw_S) (o : Nat ⊕ pz_Z) (s : aw_S) : Prop := match o with
  | .inl q => pz_yA σ0 s ∧ s.1 8 15 = nI q
  | .inr z => pz_A σ0 z s
def pz_fz (z : pz_Z) : Prop := ap_fr z.2.1 (ap_B z.2.1) = ap_S z.2.1
set_option maxHeartbeats 2000000 in
theorem pz_blks {L : Nat} {t : Nat → Nat} (T : pz_T L t) : ∀ (n : Nat) (z : pz_Z), L - z.1 ≤ n → pz_wf L z → (z.1 = L → pz_fz z ∧ 0 < ap_B z.2.1) → ∃ o, (match o with
      | .inl q => q ≤ L
      | .inr z' => pz_wf L z' ∧ pz_fz z' ∧ 0 < ap_B z'.2.1) ∧
    (∀ (σ0 σ : aw_S) (i m : Nat), pz_TA σ0 9 L t → pz_A σ0 z σ → i ≤ z.1 → n + 2 ≤ m → ao_ok (aw_lp (fun s => m_Re_faultOf_B57 s.2 s.1) m (nI i, σ)) (pz_kA σ0 o)) ∧
    ∀ (σ0 σ : aw_S) (m : Nat), pz_TB σ0 L t → pz_B σ0 z σ → n < m → ao_ok (aw_lp (fun s => m_Rf_readProgram_B49 s) m σ) (pz_lB σ0 o) := by
  have hL := T.1
  have endA : ∀ (z : pz_Z) (σ0 σ : aw_S) (i m : Nat), z.1 = L → pz_TA σ0 9 L t → pz_A σ0 z σ → i ≤ z.1 → ao_ok (aw_lp (fun s => m_Re_faultOf_B57 s.2 s.1) (m + 1) (nI i, σ)) (pz_kA σ0 (.inr z)) := by
    intro z σ0 σ i m hz h R hi
    have eT := (pz_TA_y h R.1.1).1
    refine ao_lpS ?_
    show ao_ok (m_Re_faultOf_B57 σ (nI i)) _
    unfold m_Re_faultOf_B57 m_Te_size
    refine ao_if (fun _ => ao_inl R) (fun _ => ?_)
    refine ao_ifp R.1.2.1 ?_
    rw [aw_bd_s rfl, eT, R.2.1, if_pos (nI_le (by omega) (by omega))]
    exact ao_inl R
  have endB : ∀ (z : pz_Z) (σ0 σ : aw_S) (m : Nat), z.1 = L → pz_TB σ0 L t → pz_B σ0 z σ → ao_ok (aw_lp (fun s => m_Rf_readProgram_B49 s) (m + 1) σ) (pz_lB σ0 (.inr z)) := by
    intro z σ0 σ m hz h R
    have eT := (pz_TB_y h R.1.1).1
    refine ao_lpS ?_
    show ao_ok (m_Rf_readProgram_B49 σ) _
    unfold m_Rf_readProgram_B49
    rw [eT, R.2, if_pos (nI_le (by omega) (by omega))]
    exact ao_inl ⟨σ, rfl, R⟩
  intro n
  induction n with
  | zero =>
    intro z hz hw hf
    have hzL := hw.1
    have e : z.1 = L := by omega
    refine ⟨.inr z, ⟨hw, hf e⟩, fun σ0 σ i m h R hi hm => ?_, fun σ0 σ m h R hm => ?_⟩
    · obtain ⟨m, rfl⟩ : ∃ k, m = k + 1 := ⟨m - 1, by omega⟩
      exact endA z σ0 σ i m e h R hi
    · obtain ⟨m, rfl⟩ : ∃ k, m = k + 1 := ⟨m - 1, by omega⟩
      exact endB z σ0 σ m e h R
  | succ n ih =>
    intro z hz hw hf
    have hzL := hw.1
    by_cases e : z.1 = L
    · refine ⟨.inr z, ⟨hw, hf e⟩, fun σ0 σ i m h R hi hm => ?_, fun σ0 σ m h R hm => ?_⟩
      · obtain ⟨m, rfl⟩ : ∃ k, m = k + 1 := ⟨m - 1, by omega⟩
        exact endA z σ0 σ i m e h R hi
      · obtain ⟨m, rfl⟩ : ∃ k, m = k + 1 := ⟨m - 1, by omega⟩
        exact endB z σ0 σ m e h R
    · obtain ⟨o1, w1, b1, oA, oB⟩ := pz_blk T hw
      have KA : ∀ (σ0 σ : aw_S) (i m : Nat) (Q : aw_S → Prop), pz_TA σ0 9 L t → pz_A σ0 z σ → i ≤ z.1 → (∀ x, pz_oA σ0 o1 x → ao_ok (aw_lp (fun s => m_Re_faultOf_B57 s.2 s.1) m (nI (i + 1), x.2)) Q) → ao_ok (aw_lp (fun s => m_Re_faultOf_B57 s.2 s.1) (m + 1) (nI i, σ)) Q := by
        intro σ0 σ i m Q h R hi hQ
        have eT := (pz_TA_y h R.1.1).1
        refine ao_lpS ?_
        show ao_ok (m_Re_faultOf_B57 σ (nI i)) _
        unfold m_Re_faultOf_B57 m_Te_size
        refine ao_ifn (show ¬ (800 : Int32) ≤ nI i from nI_ge (b := 800) (by omega) (by omega)) (ao_ifp R.1.2.1 ?_)
        rw [aw_bd_s rfl, eT, R.2.1, if_neg (nI_ge (by omega) (by omega)), nI_1]
        exact ao_bd2 (ao_imp (oA σ0 σ h R) (fun x hx => ao_let (ao_inr (hQ x hx))))
      have KB : ∀ (σ0 σ : aw_S) (m : Nat) (Q : aw_S ⊕ aw_S → Prop), pz_TB σ0 L t → pz_B σ0 z σ → (∀ x, pz_oB σ0 o1 x → ao_ok (if x.1 = 0 then (some (.inl (.inl x.2)) : Option ((aw_S ⊕ aw_S) ⊕ aw_S)) else some (.inr x.2)) (Sum.elim Q (fun s' => ao_ok (aw_lp (fun s => m_Rf_readProgram_B49 s) m s') Q))) → ao_ok (aw_lp (fun s => m_Rf_readProgram_B49 s) (m + 1) σ) Q := by
        intro σ0 σ m Q h R hQ
        have eT := (pz_TB_y h R.1.1).1
        refine ao_lpS ?_
        show ao_ok (m_Rf_readProgram_B49 σ) _
        unfold m_Rf_readProgram_B49
        rw [eT, R.2, if_neg (nI_ge (by omega) (by omega))]
        exact ao_bd2 (ao_imp (oB σ0 σ h R) (fun x hx => hQ x hx))
      cases o1 with
      | inl q =>
        have w1 : q ≤ L := w1
        refine ⟨.inl q, w1, fun σ0 σ i m h R hi hm => ?_, fun σ0 σ m h R hm => ?_⟩
        · obtain ⟨m, rfl⟩ : ∃ k, m = k + 1 + 1 := ⟨m - 2, by omega⟩
          refine KA σ0 σ i (m + 1) _ h R hi ?_
          rintro ⟨x, s⟩ ⟨_, hy, hq⟩
          refine ao_lpS ?_
          show ao_ok (m_Re_faultOf_B57 s (nI (i + 1))) _
          unfold m_Re_faultOf_B57
          refine ao_if (fun _ => ao_inl ⟨hy, hq⟩) (fun _ => ?_)
          refine ao_ifn (show ¬ s.1 8 15 = -1 from fun y => ?_) (ao_inl ⟨hy, hq⟩)
          have hq : s.1 8 15 = nI q := hq
          rw [hq] at y
          exact ao_m1 (by omega) y
        · obtain ⟨m, rfl⟩ : ∃ k, m = k + 1 := ⟨m - 1, by omega⟩
          refine KB σ0 σ m _ h R ?_
          rintro ⟨x, s⟩ ⟨e, hx⟩
          exact ao_ifp e (ao_inl ⟨s, rfl, hx⟩)
      | inr z1 =>
        obtain ⟨w1, w2⟩ := w1
        obtain ⟨o, v1, iA, iB⟩ := ih z1 (by omega) w1 (fun _ => b1 z1 rfl)
        refine ⟨o, v1, fun σ0 σ i m h R hi hm => ?_, fun σ0 σ m h R hm => ?_⟩
        · obtain ⟨m, rfl⟩ : ∃ k, m = k + 1 := ⟨m - 1, by omega⟩
          refine KA σ0 σ i m _ h R hi ?_
          rintro ⟨x, s⟩ ⟨_, hx⟩
          exact iA σ0 s (i + 1) m h hx (by omega) (by omega)
        · obtain ⟨m, rfl⟩ : ∃ k, m = k + 1 := ⟨m - 1, by omega⟩
          refine KB σ0 σ m _ h R ?_
          rintro ⟨x, s⟩ ⟨e, hx⟩
          have e : x = 1 := e
          subst e
          exact ao_ifn ao_n10 (ao_inr (iB σ0 s m h hx (by omega)))

/-! ===== THE PARSE, whole: what a text comes to, in both ===== -/
theorem ao_sI_o_at {σ : aw_S} {o j : Nat} {v : Int32} {a i : Nat} (h : a ≠ o) : (aw_sI σ o j v).1 a i = σ.1 a i := congrFun (ao_sI_o h) i
theorem pz_putI {σ : aw_S} {x : Int32} {i : Nat} {v : Int32} (e : x = nI i) (hi : i < 340) : m_Rf_put σ x v = some (aw_sI σ 1 (1360 + i) v) := by rw [e]; exact pz_put hi
def pz_0 : ap_T := ((0, 0, fun _ => 0), (fun _ => 0, fun _ => none, fun _ => 0), (fun _ => 0, fun _ => none, fun _ => none, fun _ => none), (0, fun _ => 0, fun _ => 0, fun _ => 0))
theorem pz_0w (L : Nat) : pz_wf L (0, pz_0, fun _ => 0, fun _ => 0) := ⟨Nat.zero_le _, ⟨by decide, by decide, rfl, fun b hb => absurd hb (Nat.not_lt_zero _), Nat.le_refl _, fun s hs => absurd hs (Nat.not_lt_zero _), fun b hb => absurd hb (Nat.not_lt_zero _), by decide, fun e he => absurd he (Nat.not_lt_zero _)⟩, fun b hb => absurd hb (Nat.not_lt_zero _)⟩
def pz_RA (σ : aw_S) (c L : Nat) (o : Nat ⊕ ap_T) (x : Int32 × aw_S) : Prop :=
  x.2.2 = σ.2 ∧ (∀ k, k < 8 ∨ 23 < k → x.2.1 k = σ.1 k) ∧ x.2.1 9 1 = nI L ∧ (∀ i, i < 800 → x.2.1 10 i = σ.1 (c + 1) i) ∧ match o with
    | .inl q => x.1 = nI q
    | .inr Ψ => x.1 = -1 ∧ ap_rd x.2 Ψ
def pz_RB (σ : aw_S) (o : Nat ⊕ ap_T) (x : Int32 × aw_S) : Prop := pz_yB σ x.2 ∧ match o with
    | .inl q => x.1 = 0 ∧ x.2.1 0 4 = nI q
    | .inr Ψ => x.1 = 1 ∧ x.2.1 0 4 = -1 ∧ ap_row x.2 1360 Ψ
/-- a text comes to o -/
def pz_to (L : Nat) (t : Nat → Nat) (o : Nat ⊕ ap_T) : Prop :=
  (match o with
    | .inl q => q ≤ L
    | .inr Ψ => ap_wf Ψ) ∧
  (∀ (σ : aw_S) (c : Nat), c = 1 ∨ c = 136 ∨ c = 138 ∨ c = 140 → pz_TA σ c L t → (∀ i, i < 800 → fits .byte (.int (σ.1 (c + 1) i)) = true) → ao_ok (m_Re_faultOf σ c) (pz_RA σ c L o)) ∧
  ∀ σ : aw_S, pz_TB σ L t → ao_ok (m_Rf_readProgram σ) (pz_RB σ o)
theorem pz_wfO {L : Nat} {z : pz_Z} (hw : pz_wf L z) (hf : pz_fz z) (hB0 : 0 < ap_B z.2.1) (h : ∀ j, j < 2 * ap_B z.2.1 → ¬ pz_st z.2.1 j) : ap_wf z.2.1 := by
  obtain ⟨g1, g2, g3, g4, g5, g6, g7, g8, g9⟩ := hw.2.1
  refine ⟨hB0, g1, g2, g3, g4, hf, g6, fun b hb => ?_, g8, g9⟩
  have h0 := h (2 * b) (by omega)
  have h1 := h (2 * b + 1) (by omega)
  unfold pz_st at h0 h1
  rw [pz_tg0] at h0
  rw [pz_tg1] at h1
  have k0 : ∀ u, ap_e1 z.2.1 b = some u → u < ap_B z.2.1 := fun u e => Nat.lt_of_not_le fun y => h0 ⟨u, e, y⟩
  have k1 : ∀ u, ap_e2 z.2.1 b = some u → u < ap_B z.2.1 := fun u e => Nat.lt_of_not_le fun y => h1 ⟨u, e, y⟩
  rcases g7 b hb with ⟨x1, x2, ⟨u, _, e⟩, x4⟩ | ⟨x1, x2, ⟨u, _, e⟩, ⟨v, _, e'⟩⟩ | x
  · exact Or.inl ⟨x1, x2, ⟨u, k0 u e, e⟩, x4⟩
  · exact Or.inr (Or.inl ⟨x1, x2, ⟨u, k0 u e, e⟩, ⟨v, k1 v e', e'⟩⟩)
  · exact Or.inr (Or.inr x)
theorem pz_rdO {L : Nat} {z : pz_Z} (hw : pz_wf L z) (hf : pz_fz z) {σ0 σ : aw_S} (R : pz_A σ0 z σ) : ap_rd σ z.2.1 := by
  obtain ⟨⟨y, w, eL, eB, eX, hl, hE, hx⟩, _⟩ := R
  refine ⟨eL, eB, eX, fun b s hb h1 h2 => hl b s (by omega) h1 ?_ (fun _ => h2), fun b hb => (hE b hb).1, hx⟩
  have := pz_fr_le hw.2.1 (show b + 1 ≤ ap_B z.2.1 by omega)
  omega
/-- how the class begins -/
theorem pz_begA {σ : aw_S} {c L : Nat} {t : Nat → Nat} (hc : c = 1 ∨ c = 136 ∨ c = 138 ∨ c = 140) (h : pz_TA σ c L t) (hf : ∀ i, i < 800 → fits .byte (.int (σ.1 (c + 1) i)) = true) {Q : Int32 × aw_S → Prop}
    (hQ : ∀ s : aw_S, s.2 = σ.2 → (∀ k, k < 8 ∨ 23 < k → s.1 k = σ.1 k) → s.1 9 1 = nI L → (∀ i, i < 800 → s.1 10 i = σ.1 (c + 1) i) → s.1 8 11 = 0 → s.1 8 12 = 0 → s.1 8 13 = 0 → s.1 8 14 = 0 → s.1 11 3 = 0 → ao_ok (if nI L = 0 then m_Re_faultOf_J52 s ((0 : Int32)) else m_Re_faultOf_J52 s ((-1 : Int32))) Q) : ao_ok (m_Re_faultOf σ c) Q := by
  unfold m_Re_faultOf m_Te_copyFrom
  refine ao_bd (ao_gd hf (ao_let (ao_let (ao_some (ao_let (ao_let (ao_let (ao_let (ao_let ?_)))))))))
  generalize hs : aw_sI (aw_sI (aw_sI (aw_sI (aw_sI (aw_sI (aw_cp σ (c + 1) (9 + 1) 800) 9 1 ((aw_cp σ (c + 1) (9 + 1) 800).1 c 1)) 11 3 0) 8 11 0) 8 12 0) 8 13 0) 8 14 0 = s
  have e9 : s.1 9 1 = nI L := by
    rw [← hs]
    simp (disch := omega) only [ao_sI_o, ao_sI_s]
    rw [ao_cp1, if_neg (by omega)]
    exact h.1
  unfold m_Te_size
  rw [aw_bd_s rfl, e9]
  refine hQ s (by rw [← hs]; rfl) (fun k hk => ?_) e9 (fun i hi => ?_) ?_ ?_ ?_ ?_ ?_
  · rw [← hs]
    simp (disch := omega) only [ao_sI_o]
    funext j
    rw [ao_cp1, if_neg (by omega)]
  · rw [← hs]
    simp (disch := omega) only [ao_sI_o]
    rw [ao_cp1, if_pos ⟨rfl, hi⟩]
  · rw [← hs]; simp (disch := omega) only [ao_sI_o, ao_sI_i, ao_sI_s]
  · rw [← hs]; simp (disch := omega) only [ao_sI_o, ao_sI_i, ao_sI_s]
  · rw [← hs]; simp (disch := omega) only [ao_sI_o, ao_sI_i, ao_sI_s]
  · rw [← hs]; simp (disch := omega) only [ao_sI_o, ao_sI_i, ao_sI_s]
  · rw [← hs]; simp (disch := omega) only [ao_sI_o, ao_sI_i, ao_sI_s]
/-- how the reference begins -/
theorem pz_begB {σ : aw_S} {L : Nat} {t : Nat → Nat} (h : pz_TB σ L t) {Q : Int32 × aw_S → Prop}
    (hQ : ∀ s : aw_S, pz_B σ (0, pz_0, fun _ => 0, fun _ => 0) s → ao_ok (if nI L = 0 then aw_bd2 (m_Rf_fails s ((0 : Int32))) (fun r45 s47 => aw_gd (r45 = 0 ∨ r45 = 1) (some ((r45, s47)))) else aw_bd (aw_lp (fun s => m_Rf_readProgram_B49 s ) aw_fu s) (fun x21 => Sum.elim (fun y24 => some (((0 : Int32), y24))) (fun y25 => aw_bd (aw_lp (fun s => m_Rf_readProgram_B71 s.2 s.1) aw_fu ((0 : Int32), y25)) (fun x40 => Sum.elim (fun y43 => some y43) (fun y44 => some (((1 : Int32), y44))) x40)) x21)) Q) : ao_ok (m_Rf_readProgram σ) Q := by
  unfold m_Rf_readProgram
  refine ao_let (ao_let ?_)
  rw [aw_bd_s (pz_putI (x := 0) (i := 0) rfl (by omega)), aw_bd_s (pz_putI (x := 1) (i := 1) rfl (by omega)), aw_bd_s (pz_putI (x := 2) (i := 2) rfl (by omega)), aw_bd_s (pz_putI (x := 184) (i := 184) rfl (by omega))]
  generalize hs : aw_sI (aw_sI (aw_sI (aw_sI (aw_sI (aw_sI σ 0 3 0) 0 4 (-1)) 1 (1360 + 0) 0) 1 (1360 + 1) 0) 1 (1360 + 2) 0) 1 (1360 + 184) 0 = s
  have e2 : s.1 0 2 = nI L := by
    rw [← hs]
    simp (disch := omega) only [ao_sI_o, ao_sI_i]
    exact h.1
  rw [e2]
  refine hQ s ⟨⟨⟨by rw [← hs]; rfl, fun k h1 h2 h3 => ?_, fun j h1 h2 h3 => ?_, fun j hj => ?_⟩, ?_, ⟨?_, ?_, ?_, fun s' hs' => absurd hs' (Nat.not_lt_zero _), fun b hb => ?_, fun b hb => absurd hb (Nat.not_lt_zero _), fun e he => absurd he (Nat.not_lt_zero _)⟩, fun b hb => absurd hb (Nat.not_lt_zero _)⟩, ?_⟩
  · rw [← hs]; simp (disch := omega) only [ao_sI_o]
  · rw [← hs]; simp (disch := omega) only [ao_sI_o, ao_sI_i]
  · rw [← hs]; simp (disch := omega) only [ao_sI_o, ao_sI_i]
  · rw [← hs]; simp (disch := omega) only [ao_sI_o, ao_sI_i, ao_sI_s]
  · rw [← hs]; simp (disch := omega) only [ao_sI_i]; exact ao_sI_s _ _ _ _
  · rw [← hs]; simp (disch := omega) only [ao_sI_i]; exact ao_sI_s _ _ _ _
  · rw [← hs]; simp (disch := omega) only [ao_sI_i]; exact ao_sI_s _ _ _ _
  · have hb : b ≤ 0 := hb
    have hb : b = 0 := by omega
    subst hb
    rw [← hs]; exact ao_sI_s _ _ _ _
  · rw [← hs]; simp (disch := omega) only [ao_sI_o, ao_sI_i, ao_sI_s]; rfl
set_option maxHeartbeats 2000000 in
theorem pz_parse {L : Nat} {t : Nat → Nat} (T : pz_T L t) : ∃ o, pz_to L t o := by
  have hL := T.1
  by_cases hL0 : L = 0
  · subst hL0
    refine ⟨.inl 0, Nat.le_refl _, fun σ c hc h hf => pz_begA hc h hf (fun s f1 f2 f3 f4 _ _ _ _ _ => ?_), fun σ h => pz_begB h (fun s R => ?_)⟩
    · refine ao_ifp nI_0 ?_
      unfold m_Re_faultOf_J52 m_Re_faultOf_J109
      refine ao_let ?_
      have e15 : (aw_sI s 8 15 0).1 8 15 = nI 0 := ao_sI_s _ _ _ _
      refine ao_bd (ao_imp (Q := fun u => u = aw_sI s 8 15 0) (ao_lpu1 (n := 1) (by omega) (fun m hm => ?_)) ?_)
      · obtain ⟨m, rfl⟩ : ∃ k, m = k + 1 := ⟨m - 1, by omega⟩
        refine ao_lpS ?_
        show ao_ok (m_Re_faultOf_B57 (aw_sI s 8 15 0) 0) _
        unfold m_Re_faultOf_B57
        refine ao_ifn (by decide) (ao_ifn ?_ (ao_inl rfl))
        rw [e15]; decide
      · rintro u rfl
        refine ao_ifn (by rw [e15]; decide) (ao_some ⟨f1, fun k hk => by rw [← f2 k hk]; exact ao_sI_o (by omega), (ao_sI_o_at (by omega)).trans f3, fun i hi => (ao_sI_o_at (by omega)).trans (f4 i hi), e15⟩)
    · refine ao_ifp nI_0 ?_
      unfold m_Rf_fails
      exact ao_bd2 (ao_let (ao_some (ao_gd (Or.inl rfl) (ao_some ⟨⟨R.1.1.1, fun k h1 h2 h3 => by rw [← R.1.1.2.1 k h1 h2 h3]; exact ao_sI_o h1, fun j h1 h2 h3 => by rw [← R.1.1.2.2.1 j h1 h2 h3]; exact ao_sI_i h2, fun j hj => by rw [← R.1.1.2.2.2 j hj]; exact ao_sI_o_at (by omega)⟩, rfl, ao_sI_s _ _ _ _⟩))))
  · obtain ⟨o1, w1, bA, bB⟩ := pz_blks T L (0, pz_0, fun _ => 0, fun _ => 0) (Nat.sub_le _ _) (pz_0w L) (fun e => absurd e.symm hL0)
    have nL : ¬ nI L = 0 := nI_ne0 (by omega) (by omega)
    have XA : ∀ (σ : aw_S) (c : Nat) (Q : Int32 × aw_S → Prop), c = 1 ∨ c = 136 ∨ c = 138 ∨ c = 140 → pz_TA σ c L t → (∀ i, i < 800 → fits .byte (.int (σ.1 (c + 1) i)) = true) → (∀ σ0 x, (∀ u, pz_yA σ0 u → u.2 = σ.2 ∧ (∀ k, k < 8 ∨ 23 < k → u.1 k = σ.1 k) ∧ u.1 9 1 = nI L ∧ ∀ i, i < 800 → u.1 10 i = σ.1 (c + 1) i) → pz_kA σ0 o1 x → ao_ok (if (x.1 8 15) = (-1 : Int32) then aw_bd (m_Re_findStrayNumber x) (fun s28 => m_Re_faultOf_J109 s28) else m_Re_faultOf_J109 x) Q) → ao_ok (m_Re_faultOf σ c) Q := by
      intro σ c Q hc h hf hQ
      refine pz_begA hc h hf (fun s f1 f2 f3 f4 z1 z2 z3 z4 z5 => ao_ifn nL ?_)
      unfold m_Re_faultOf_J52
      refine ao_let ?_
      have f9 : ∀ j, (aw_sI s 8 15 (-1)).1 9 j = s.1 9 j := fun j => ao_sI_o_at (by omega)
      have f10 : ∀ j, (aw_sI s 8 15 (-1)).1 10 j = s.1 10 j := fun j => ao_sI_o_at (by omega)
      have hT : pz_TA (aw_sI s 8 15 (-1)) 9 L t := ⟨(f9 1).trans f3, fun i hi => by rw [show 9 + 1 = 10 from rfl, f10, f4 i (by omega)]; exact h.2 i hi⟩
      have R0 : pz_A (aw_sI s 8 15 (-1)) (0, pz_0, fun _ => 0, fun _ => 0) (aw_sI s 8 15 (-1)) := ⟨⟨⟨rfl, fun _ _ => rfl⟩, ao_sI_s _ _ _ _, (ao_sI_i (by omega)).trans z1, (ao_sI_i (by omega)).trans z2, (ao_sI_o_at (by omega)).trans z5, fun b s' hb h1 h2 => absurd h2 (Nat.not_lt_zero _), fun b hb => absurd hb (Nat.not_lt_zero _), fun e he => absurd he (Nat.not_lt_zero _)⟩, (ao_sI_i (by omega)).trans z4, (ao_sI_i (by omega)).trans z3⟩
      refine ao_bd (ao_imp (ao_lpu1 (n := L + 2) (by omega) (fun m hm => bA (aw_sI s 8 15 (-1)) _ 0 m hT R0 (Nat.zero_le _) hm)) (fun x hx => hQ (aw_sI s 8 15 (-1)) x (fun u hu => ⟨hu.1.trans f1, fun k hk => ?_, ?_, fun i hi => ?_⟩) hx))
      · rw [hu.2 k (by omega), ← f2 k hk]; exact ao_sI_o (by omega)
      · rw [hu.2 9 (by omega), f9]; exact f3
      · rw [hu.2 10 (by omega), f10]; exact f4 i hi
    have XB : ∀ (σ : aw_S) (Q : Int32 × aw_S → Prop), pz_TB σ L t → (∀ x, pz_lB σ o1 x → ao_ok (Sum.elim (fun y24 => some (((0 : Int32), y24))) (fun y25 => aw_bd (aw_lp (fun s => m_Rf_readProgram_B71 s.2 s.1) aw_fu ((0 : Int32), y25)) (fun x40 => Sum.elim (fun y43 => some y43) (fun y44 => some (((1 : Int32), y44))) x40)) x) Q) → ao_ok (m_Rf_readProgram σ) Q := by
      intro σ Q h hQ
      refine pz_begB h (fun s R => ao_ifn nL ?_)
      exact ao_bd (ao_imp (ao_lpu1 (n := L + 1) (by omega) (fun m hm => bB σ s m h R (by omega))) (fun x hx => hQ x hx))
    cases o1 with
    | inl q =>
      have w1 : q ≤ L := w1
      refine ⟨.inl q, w1, fun σ c hc h hf => XA σ c _ hc h hf (fun σ0 x hy hx => ?_), fun σ h => XB σ _ h ?_⟩
      · have e15 : x.1 8 15 = nI q := hx.2
        refine ao_ifn (by rw [e15]; exact ao_m1 (by omega)) ?_
        unfold m_Re_faultOf_J109
        have := hy x hx.1
        exact ao_some ⟨this.1, this.2.1, this.2.2.1, this.2.2.2, e15⟩
      · rintro x ⟨s, rfl, hs⟩
        exact ao_some ⟨hs.1, rfl, hs.2⟩
    | inr z =>
      obtain ⟨w1, w2, w3⟩ := w1
      obtain ⟨k, k1, k2, k3⟩ := pz_stray w1 w2 w3
      by_cases q : k < 2 * ap_B z.2.1
      · have hpl : pz_pl z.2.2.1 z.2.2.2 k ≤ L := by
          have := w1.2.2 (k / 2) (by omega)
          unfold pz_pl
          by_cases w : k % 2 = 0
          · rw [if_pos w]; exact this.1
          · rw [if_neg w]; exact this.2
        refine ⟨.inl (pz_pl z.2.2.1 z.2.2.2 k), hpl, fun σ c hc h hf => XA σ c _ hc h hf (fun σ0 x hy hx => ?_), fun σ h => XB σ _ h ?_⟩
        · refine ao_ifp hx.1.2.1 (ao_bd (ao_imp (pz_strayA w1 hL w2 w3 k1 k2 k3 hx) ?_))
          intro u hu
          rw [if_pos q] at hu
          unfold m_Re_faultOf_J109
          have := hy u hu.1
          exact ao_some ⟨this.1, this.2.1, this.2.2.1, this.2.2.2, hu.2⟩
        · rintro x ⟨s, rfl, hs⟩
          show ao_ok (aw_bd (aw_lp (fun s => m_Rf_readProgram_B71 s.2 s.1) aw_fu ((0 : Int32), s)) _) _
          refine ao_bd (ao_imp (pz_strayB w1 hL w3 k1 k2 k3 hs) ?_)
          intro y hy
          rw [if_pos q] at hy
          obtain ⟨u, rfl, h1, h2⟩ := hy
          exact ao_some ⟨h1, rfl, h2⟩
      · refine ⟨.inr z.2.1, pz_wfO w1 w2 w3 (fun j hj => k2 j (by omega)), fun σ c hc h hf => XA σ c _ hc h hf (fun σ0 x hy hx => ?_), fun σ h => XB σ _ h ?_⟩
        · refine ao_ifp hx.1.2.1 (ao_bd (ao_imp (pz_strayA w1 hL w2 w3 k1 k2 k3 hx) ?_))
          intro u hu
          rw [if_neg q] at hu
          subst hu
          unfold m_Re_faultOf_J109
          have := hy u hx.1.1
          exact ao_some ⟨this.1, this.2.1, this.2.2.1, this.2.2.2, hx.1.2.1, pz_rdO w1 w2 hx⟩
        · rintro x ⟨s, rfl, hs⟩
          show ao_ok (aw_bd (aw_lp (fun s => m_Rf_readProgram_B71 s.2 s.1) aw_fu ((0 : Int32), s)) _) _
          refine ao_bd (ao_imp (pz_strayB w1 hL w3 k1 k2 k3 hs) ?_)
          intro y hy
          rw [if_neg q] at hy
          subst hy
          exact ao_some ⟨hs.1.1, rfl, hs.1.2.1, hs.1.2.2.1⟩

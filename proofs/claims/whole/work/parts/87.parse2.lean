/-! ===== THE PARSE: expressions ===== -/
def pz_addX (Ψ : ap_T) (o a b : Nat) : ap_T := (Ψ.1, Ψ.2.1, Ψ.2.2.1, (ap_X Ψ + 1, pz_u (ap_sg Ψ) (ap_X Ψ) o, pz_u (ap_lf Ψ) (ap_X Ψ) a, pz_u (ap_rt Ψ) (ap_X Ψ) b))
def pz_ma (Ψ : ap_T) (o a b e : Nat) : Prop := ap_sg Ψ e = o ∧ ap_lf Ψ e = a ∧ ap_rt Ψ e = b
theorem pz_first (P : Nat → Prop) : ∀ n, ∃ k, k ≤ n ∧ (∀ i, i < k → ¬ P i) ∧ (k < n → P k) := by
  intro n
  induction n with
  | zero => exact ⟨0, Nat.le_refl _, fun i hi => absurd hi (Nat.not_lt_zero _), fun h => absurd h (Nat.not_lt_zero _)⟩
  | succ n ih =>
    obtain ⟨k, h1, h2, h3⟩ := ih
    by_cases q : k < n
    · exact ⟨k, by omega, h2, fun _ => h3 q⟩
    · have : k = n := by omega
      subst this
      by_cases z : P k
      · exact ⟨k, by omega, h2, fun _ => z⟩
      · refine ⟨k + 1, by omega, fun i hi => ?_, fun h => by omega⟩
        by_cases w : i = k
        · rw [w]; exact z
        · exact h2 i (by omega)
theorem pz_addX_w {Ψ : ap_T} (hw : pz_pw Ψ) (hX : ap_X Ψ < 24) {o a b : Nat} (ho : o ∈ ag_sgs) (ha : a < 1026) (hb : b < 1026) : pz_pw (pz_addX Ψ o a b) := by
  obtain ⟨h1, h2, h3, h4, h5, h6, h7, h8, h9⟩ := hw
  refine ⟨h1, h2, h3, h4, h5, fun s hs => ?_, h7, hX, fun e he => ?_⟩
  · rcases h6 s hs with z | z | z
    · exact Or.inl z
    · exact Or.inr (Or.inl ⟨z.1, z.2.1, Nat.lt_succ_of_lt z.2.2⟩)
    · exact Or.inr (Or.inr z)
  · show pz_u (ap_sg Ψ) (ap_X Ψ) o e ∈ ag_sgs ∧ pz_u (ap_lf Ψ) (ap_X Ψ) a e < 1026 ∧ pz_u (ap_rt Ψ) (ap_X Ψ) b e < 1026
    by_cases q : e = ap_X Ψ
    · subst q
      rw [pz_u_s, pz_u_s, pz_u_s]
      exact ⟨ho, ha, hb⟩
    · rw [pz_u_i q, pz_u_i q, pz_u_i q]
      exact h9 e (by have he : e < ap_X Ψ + 1 := he; omega)
set_option maxHeartbeats 1000000 in
theorem pz_numberOf {σ : aw_S} {Ψ : ap_T} (hw : pz_pw Ψ) (hX3 : σ.1 11 3 = nI (ap_X Ψ)) (hx : ∀ e, e < ap_X Ψ → σ.1 12 e = nI (ap_sg Ψ e) ∧ σ.1 13 e = nI (ap_lf Ψ e) ∧ σ.1 14 e = nI (ap_rt Ψ e)) {o a b k : Nat} (ho : o < 256) (ha : a < 1026) (hb : b < 1026) (hk : k ≤ ap_X Ψ) (h1 : ∀ i, i < k → ¬ pz_ma Ψ o a b i) (h2 : k < ap_X Ψ → pz_ma Ψ o a b k) :
    ao_ok (m_Ex_numberOf σ 11 (nI o) (nI a) (nI b)) (fun x => (k < ap_X Ψ ∧ x = (nI k, σ)) ∨ (k = ap_X Ψ ∧ ap_X Ψ < 24 ∧ x = (nI k, aw_sI (aw_sI (aw_sI (aw_sI σ 12 k (nI o)) 13 k (nI a)) 14 k (nI b)) 11 3 (nI (k + 1)))) ∨ (k = ap_X Ψ ∧ ap_X Ψ = 24 ∧ x = (-1, σ))) := by
  have hX := hw.2.2.2.2.2.2.2.1
  have hb9 : ∀ e, e < ap_X Ψ → ap_sg Ψ e < 256 ∧ ap_lf Ψ e < 1026 ∧ ap_rt Ψ e < 1026 := fun e he => ⟨ag_sgl (hw.2.2.2.2.2.2.2.2 e he).1, (hw.2.2.2.2.2.2.2.2 e he).2⟩
  unfold m_Ex_numberOf
  refine ao_bd (ao_imp (Q := fun (x : (Int32 × aw_S) ⊕ Unit) => (k < ap_X Ψ ∧ x = .inl (nI k, σ)) ∨ (k = ap_X Ψ ∧ x = .inr ())) (ao_for k (fun i (s : Int32) => s = nI i) (a := 0) rfl (Nat.zero_le _) (by omega) ?_ ?_) ?_)
  · rintro i s hi e
    subst e
    obtain ⟨x1, x2, x3⟩ := hx i (by omega)
    obtain ⟨b1, b2, b3⟩ := hb9 i (by omega)
    unfold m_Ex_numberOf_B3 m_Ex_numberOf_J55
    simp (disch := omega) only [hX3, ao_gdn, nI_clamp]
    rw [if_neg (nI_ge (by omega) (by omega)), if_neg (show ¬ (24 : Int32) ≤ nI i from nI_ge (b := 24) (by omega) (by omega)), x1, x2, x3]
    have hJ : ao_ok (aw_lt (nI i + 1) (fun x5 => (some (.inr x5) : Option (((Int32 × aw_S) ⊕ Unit) ⊕ Int32)))) (Sum.elim (fun (x : (Int32 × aw_S) ⊕ Unit) => (k < ap_X Ψ ∧ x = .inl (nI k, σ)) ∨ (k = ap_X Ψ ∧ x = .inr ())) (fun s' => s' = nI (i + 1))) := ao_let (ao_inr (nI_1 i))
    by_cases z1 : ap_sg Ψ i = o
    · rw [if_pos (congrArg nI z1)]
      by_cases z2 : ap_lf Ψ i = a
      · rw [if_pos (congrArg nI z2)]
        by_cases z3 : ap_rt Ψ i = b
        · exact absurd ⟨z1, z2, z3⟩ (h1 i hi)
        · rw [if_neg (fun y => z3 ((nI_eq (by omega) (by omega)).mp y))]
          exact hJ
      · rw [if_neg (fun y => z2 ((nI_eq (by omega) (by omega)).mp y))]
        exact hJ
    · rw [if_neg (fun y => z1 ((nI_eq (by omega) (by omega)).mp y))]
      exact hJ
  · rintro s e
    subst e
    unfold m_Ex_numberOf_B3
    by_cases q : k < ap_X Ψ
    · obtain ⟨x1, x2, x3⟩ := hx k q
      obtain ⟨z1, z2, z3⟩ := h2 q
      simp (disch := omega) only [hX3, ao_gdn, nI_clamp]
      rw [if_neg (nI_ge q (by omega)), if_neg (show ¬ (24 : Int32) ≤ nI k from nI_ge (b := 24) (by omega) (by omega)), x1, x2, x3, if_pos (congrArg nI z1), if_pos (congrArg nI z2), if_pos (congrArg nI z3)]
      exact ao_inl (Or.inl ⟨q, rfl⟩)
    · rw [hX3, if_pos (nI_le (by omega) (by omega))]
      exact ao_inl (Or.inr ⟨by omega, rfl⟩)
  · rintro x (⟨q, e⟩ | ⟨q, e⟩)
    · subst e
      exact ao_some (Or.inl ⟨q, rfl⟩)
    · subst e q
      show ao_ok (if (σ.1 11 3) < 0 then _ else _) _
      rw [hX3, if_neg (nI_pos (by omega))]
      by_cases y : ap_X Ψ < 24
      · rw [if_pos (show nI (ap_X Ψ) < (24 : Int32) from nI_lt (b := 24) y (by omega))]
        simp (disch := omega) only [ao_ltr, ao_sI_o, ao_sI_s, hX3, ao_gdn, nI_clamp, nI_1, nI_pred]
        exact ao_some (Or.inr (Or.inl ⟨trivial, y, rfl⟩))
      · rw [if_neg (show ¬ nI (ap_X Ψ) < (24 : Int32) from nI_nlt (b := 24) (by omega) (by omega))]
        exact ao_some (Or.inr (Or.inr ⟨rfl, by omega, rfl⟩))
set_option maxHeartbeats 1000000 in
theorem pz_findX {σ : aw_S} {Ψ : ap_T} (hw : pz_pw Ψ) (hr : ap_row σ 1360 Ψ) {o a b k : Nat} (ho : o < 256) (ha : a < 1026) (hb : b < 1026) (hk : k ≤ ap_X Ψ) (h1 : ∀ i, i < k → ¬ pz_ma Ψ o a b i) (h2 : k < ap_X Ψ → pz_ma Ψ o a b k) :
    m_Rf_findExpression σ (nI o) (nI a) (nI b) = some (nI k) := by
  have hX := hw.2.2.2.2.2.2.2.1
  have hb9 : ∀ e, e < ap_X Ψ → ap_sg Ψ e < 256 ∧ ap_lf Ψ e < 1026 ∧ ap_rt Ψ e < 1026 := fun e he => ⟨ag_sgl (hw.2.2.2.2.2.2.2.2 e he).1, (hw.2.2.2.2.2.2.2.2 e he).2⟩
  have key : ao_ok (m_Rf_findExpression σ (nI o) (nI a) (nI b)) (fun x => x = nI k) := by
    unfold m_Rf_findExpression
    refine ao_bd (ao_imp (Q := fun (x : Int32) => x = nI k) (ao_for k (fun i (s : Int32) => s = nI i) (a := 0) rfl (Nat.zero_le _) (by omega) ?_ ?_) (fun x e => ao_some e))
    · rintro i s hi e
      subst e
      obtain ⟨x1, x2, x3⟩ := hr.2.2.2.2.2.2 i (by omega)
      obtain ⟨b1, b2, b3⟩ := hb9 i (by omega)
      unfold m_Rf_findExpression_B3 m_Rf_findExpression_J61
      rw [show (2 : Int32) = nI 2 from rfl, aw_bd_s (pz_read (by omega)), hr.2.2.1, if_neg (nI_ge (by omega) (by omega)), show (268 : Int32) = nI 268 from rfl, nI_add, aw_bd_s (pz_read (by omega)), x1, show (292 : Int32) = nI 292 from rfl, pk_mul, nI_add, aw_bd_s (pz_read (by omega)), x2, nI_1, aw_bd_s (pz_read (by omega)), show 292 + 2 * i + 1 = 293 + 2 * i by omega, x3]
      have hJ : ao_ok (aw_lt (nI i + 1) (fun x5 => (some (.inr x5) : Option (Int32 ⊕ Int32)))) (Sum.elim (fun (x : Int32) => x = nI k) (fun s' => s' = nI (i + 1))) := ao_let (ao_inr (nI_1 i))
      by_cases z1 : ap_sg Ψ i = o
      · rw [if_pos (congrArg nI z1)]
        by_cases z2 : ap_lf Ψ i = a
        · rw [if_pos (congrArg nI z2)]
          by_cases z3 : ap_rt Ψ i = b
          · exact absurd ⟨z1, z2, z3⟩ (h1 i hi)
          · rw [if_neg (fun y => z3 ((nI_eq (by omega) (by omega)).mp y))]
            exact hJ
        · rw [if_neg (fun y => z2 ((nI_eq (by omega) (by omega)).mp y))]
          exact hJ
      · rw [if_neg (fun y => z1 ((nI_eq (by omega) (by omega)).mp y))]
        exact hJ
    · rintro s e
      subst e
      unfold m_Rf_findExpression_B3
      rw [show (2 : Int32) = nI 2 from rfl, aw_bd_s (pz_read (by omega)), hr.2.2.1]
      by_cases q : k < ap_X Ψ
      · obtain ⟨x1, x2, x3⟩ := hr.2.2.2.2.2.2 k q
        obtain ⟨z1, z2, z3⟩ := h2 q
        rw [if_neg (nI_ge q (by omega)), show (268 : Int32) = nI 268 from rfl, nI_add, aw_bd_s (pz_read (by omega)), x1, if_pos (congrArg nI z1), show (292 : Int32) = nI 292 from rfl, pk_mul, nI_add, aw_bd_s (pz_read (by omega)), x2, if_pos (congrArg nI z2), nI_1, aw_bd_s (pz_read (by omega)), show 292 + 2 * k + 1 = 293 + 2 * k by omega, x3, if_pos (congrArg nI z3)]
        exact ao_inl rfl
      · rw [if_pos (nI_le (by omega) (by omega))]
        exact ao_inl rfl
  obtain ⟨x, e1, e2⟩ := key
  rw [e1, e2]
theorem pz_addXA {σ0 σ : aw_S} {Ψ : ap_T} {q1 q2 : Nat → Nat} (hw : pz_pw Ψ) (h : pz_Ac σ0 Ψ q1 q2 σ) {o a b : Nat} : pz_Ac σ0 (pz_addX Ψ o a b) q1 q2 (aw_sI (aw_sI (aw_sI (aw_sI σ 12 (ap_X Ψ) (nI o)) 13 (ap_X Ψ) (nI a)) 14 (ap_X Ψ) (nI b)) 11 3 (nI (ap_X Ψ + 1))) := by
  obtain ⟨⟨y1, y2⟩, w, eL, eB, eX, hl, hE, hx⟩ := h
  have hk : ∀ c, c < 11 ∨ 14 < c → (aw_sI (aw_sI (aw_sI (aw_sI σ 12 (ap_X Ψ) (nI o)) 13 (ap_X Ψ) (nI a)) 14 (ap_X Ψ) (nI b)) 11 3 (nI (ap_X Ψ + 1))).1 c = σ.1 c := fun c hc => by
    rw [ao_sI_o (by omega), ao_sI_o (by omega), ao_sI_o (by omega), ao_sI_o (by omega)]
  refine ⟨⟨y1, fun c hc => (hk c (by omega)).trans (y2 c hc)⟩, (congrFun (hk 8 (by omega)) 15).trans w, (congrFun (hk 8 (by omega)) 11).trans eL, (congrFun (hk 8 (by omega)) 12).trans eB, ao_sI_s _ _ _ _, fun b s hb h1 h2 h3 => pz_rl_c (Ψ := Ψ) (hl b s hb h1 h2 h3) (fun c h4 h5 => congrFun (hk c (by omega)) _) rfl rfl rfl rfl rfl rfl, fun b hb => ⟨pz_rl_c (Ψ := Ψ) (hE b hb).1 (fun c h4 h5 => congrFun (hk c (by omega)) _) rfl rfl rfl rfl rfl rfl, fun z => (congrFun (hk 22 (by omega)) _).trans ((hE b hb).2.1 z), fun z => (congrFun (hk 23 (by omega)) _).trans ((hE b hb).2.2 z)⟩, fun e he => ?_⟩
  show _ = nI (pz_u (ap_sg Ψ) (ap_X Ψ) o e) ∧ _ = nI (pz_u (ap_lf Ψ) (ap_X Ψ) a e) ∧ _ = nI (pz_u (ap_rt Ψ) (ap_X Ψ) b e)
  by_cases q : e = ap_X Ψ
  · subst q
    rw [pz_u_s, pz_u_s, pz_u_s]
    refine ⟨?_, ?_, ?_⟩ <;> simp (disch := omega) only [ao_sI_o, ao_sI_s]
  · rw [pz_u_i q, pz_u_i q, pz_u_i q]
    have he : e < ap_X Ψ + 1 := he
    have H := hx e (by omega)
    simp (disch := omega) only [ao_sI_o, ao_sI_i]
    exact H
theorem pz_addXB {σ0 σ : aw_S} {Ψ : ap_T} {q1 q2 : Nat → Nat} (hw : pz_pw Ψ) (hX : ap_X Ψ < 24) (h : pz_Bc σ0 Ψ q1 q2 σ) {o a b : Nat} : pz_Bc σ0 (pz_addX Ψ o a b) q1 q2 (aw_sI (aw_sI (aw_sI (aw_sI σ 1 (1360 + (268 + ap_X Ψ)) (nI o)) 1 (1360 + (292 + 2 * ap_X Ψ)) (nI a)) 1 (1360 + (293 + 2 * ap_X Ψ)) (nI b)) 1 (1360 + 2) (nI (ap_X Ψ + 1))) := by
  have h1 := pz_Bc_put (i := 268 + ap_X Ψ) (v := nI o) h hw (by omega)
  have h2 := pz_Bc_put (i := 292 + 2 * ap_X Ψ) (v := nI a) h1 hw (by omega)
  have h3 := pz_Bc_put (i := 293 + 2 * ap_X Ψ) (v := nI b) h2 hw (by omega)
  have hS := hw.2.1
  have hB := hw.1
  refine ⟨pz_yB_put h3.1, by rw [ao_sI_o (by omega)]; exact h3.2.1, ?_, fun b hb => by rw [ao_sI_o (by omega)]; exact h3.2.2.2 b hb⟩
  obtain ⟨r0, r1, r2, r3, r4, r5, r6⟩ := h.2.2.1
  refine ⟨?_, ?_, ao_sI_s _ _ _ _, fun s hs => ?_, fun b hb => ?_, fun b hb => ?_, fun e he => ?_⟩
  · simp (disch := omega) only [ao_sI_i]; exact r0
  · simp (disch := omega) only [ao_sI_i]; exact r1
  · have hs : s < ap_S Ψ := hs
    simp (disch := omega) only [ao_sI_i]; exact r3 s hs
  · have hb : b ≤ ap_B Ψ := hb
    simp (disch := omega) only [ao_sI_i]; exact r4 b hb
  · have hb : b < ap_B Ψ := hb
    simp (disch := omega) only [ao_sI_i]; exact r5 b hb
  · show _ = nI (pz_u (ap_sg Ψ) (ap_X Ψ) o e) ∧ _ = nI (pz_u (ap_lf Ψ) (ap_X Ψ) a e) ∧ _ = nI (pz_u (ap_rt Ψ) (ap_X Ψ) b e)
    by_cases q : e = ap_X Ψ
    · subst q
      rw [pz_u_s, pz_u_s, pz_u_s]
      refine ⟨?_, ?_, ?_⟩ <;> simp (disch := omega) only [ao_sI_i, ao_sI_s]
    · rw [pz_u_i q, pz_u_i q, pz_u_i q]
      have he : e < ap_X Ψ + 1 := he
      simp (disch := omega) only [ao_sI_i]
      exact r6 e (by omega)
/-! ===== the reference: a statement more ===== -/
theorem pz_addSB {σ0 σ : aw_S} {Ψ : ap_T} {q1 q2 : Nat → Nat} (hw : pz_pw Ψ) (hS : ap_S Ψ < 60) (h : pz_Bc σ0 Ψ q1 q2 σ) {k r : Nat} {v : Option Nat} (ek : σ.1 1 (1360 + (4 + ap_S Ψ)) = nI k) (ev : σ.1 1 (1360 + (64 + ap_S Ψ)) = ao_o v) (er : σ.1 1 (1360 + (124 + ap_S Ψ)) = nI r) : pz_Bc σ0 (pz_addS Ψ k v r) q1 q2 (aw_sI σ 1 (1360 + 1) (nI (ap_S Ψ + 1))) := by
  have hB := hw.1
  have hX := hw.2.2.2.2.2.2.2.1
  refine ⟨pz_yB_put h.1, by rw [ao_sI_o (by omega)]; exact h.2.1, ?_, fun b hb => by rw [ao_sI_o (by omega)]; exact h.2.2.2 b hb⟩
  obtain ⟨r0, r1, r2, r3, r4, r5, r6⟩ := h.2.2.1
  refine ⟨?_, ao_sI_s _ _ _ _, ?_, fun s hs => ?_, fun b hb => ?_, fun b hb => ?_, fun e he => ?_⟩
  · simp (disch := omega) only [ao_sI_i]; exact r0
  · simp (disch := omega) only [ao_sI_i]; exact r2
  · show _ = nI (pz_u (ap_sk Ψ) (ap_S Ψ) k s) ∧ _ = ao_o (pz_u (ap_sl Ψ) (ap_S Ψ) v s) ∧ _ = nI (pz_u (ap_sr Ψ) (ap_S Ψ) r s)
    by_cases q : s = ap_S Ψ
    · subst q
      rw [pz_u_s, pz_u_s, pz_u_s]
      simp (disch := omega) only [ao_sI_i]
      exact ⟨ek, ev, er⟩
    · rw [pz_u_i q, pz_u_i q, pz_u_i q]
      have hs : s < ap_S Ψ + 1 := hs
      simp (disch := omega) only [ao_sI_i]
      exact r3 s (by omega)
  · have hb : b ≤ ap_B Ψ := hb
    simp (disch := omega) only [ao_sI_i]; exact r4 b hb
  · have hb : b < ap_B Ψ := hb
    simp (disch := omega) only [ao_sI_i]; exact r5 b hb
  · have he : e < ap_X Ψ := he
    simp (disch := omega) only [ao_sI_i]; exact r6 e he

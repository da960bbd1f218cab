/-! ===== RUNS: a whole run ===== -/
theorem ao_sw {α β : Type} {a : Option α} {b : Option β} {Q : α → β → Prop} (h : ao_ok b (fun y => ao_ok a (fun x => Q x y))) : ao_ok a (fun x => ao_ok b (fun y => Q x y)) := by
  obtain ⟨y, e1, x, e2, h⟩ := h
  exact ⟨x, e2, y, e1, h⟩
/-- at the head of the loop: i steps are done -/
def ru_L (o : Nat) (σa σb : aw_S) (N i : Nat) (x y : Int32 × aw_S) : Prop :=
  x.1 = nI i ∧ i ≤ 400 ∧ ∃ n w, n < N ∧ w ≤ i ∧ y.1 = nI n ∧ ru_C o σa σb w x.2 y.2 ∧ x.2.1 o 8 = nI n ∧ x.2.1 o 4 = y.2.1 0 29 ∧ ((x.2.1 o 4 = -1 ∧ x.2.1 o 5 = nI i ∧ y.2.1 0 27 = nI i) ∨ ((x.2.1 o 4 = 0 ∨ x.2.1 o 4 = 2) ∧ x.2.1 o 5 = y.2.1 0 27 ∧ y.2.1 0 28 = nI n))
/-- a run is over -/
def ru_F (o : Nat) (σa σb : aw_S) (s t : aw_S) : Prop := ∃ w, w ≤ 400 ∧ ru_C o σa σb w s t ∧ s.1 o 4 = t.1 0 29 ∧ s.1 o 5 = t.1 0 27 ∧ s.1 o 8 = t.1 0 28
/-- one step of both, out of a state that goes on -/
theorem ru_step {o : Nat} (ho : 82 ≤ o) {σa σb : aw_S} {Γ : ag_T} (G : ag_wf Γ) (A : ag_A σa Γ) (B : ag_BA σb Γ) {how : Option Bool} (M : ru_M σa Γ how) {n w i : Nat} (hn : n < ag_N Γ) (hw : w ≤ i) (hi : i < 400) {s t : aw_S} (C : ru_C o σa σb w s t) (e8 : s.1 o 8 = nI n) (e4 : s.1 o 4 = -1) (e5 : s.1 o 5 = nI i) (t29 : t.1 0 29 = -1) (t27 : t.1 0 27 = nI i) :
    ao_2 (m_Ru_step s o (ru_by how)) (m_Rf_runNow_B71 t (ru_hI how) (nI n)) (fun s' y => ∃ y', y = .inr y' ∧ ru_L o σa σb (ag_N Γ) (i + 1) (nI (i + 1), s') y') := by
  have hN := G.1.1
  unfold m_Ru_step m_Rf_runNow_B71
  rw [e5, nI_1, ao_ltr, t29, if_pos rfl, ao_ltr, show (aw_sI t 0 28 (nI n)).1 0 27 = nI i from (ao_sI_i (by omega)).trans t27, if_neg (show ¬ nI i = (400 : Int32) from fun z => by have := (nI_eq (a := i) (b := 400) (by omega) (by omega)).mp z; omega), nI_1, ao_ltr]
  have C1 : ru_C o σa σb w (aw_sI s o 5 (nI (i + 1))) (aw_sI (aw_sI t 0 28 (nI n)) 0 27 (nI (i + 1))) := ru_C_fB (j := 27) (ru_C_fB (j := 28) (ru_C_fA (j := 5) C (by omega)) (by omega)) (by omega)
  generalize hs1 : aw_sI s o 5 (nI (i + 1)) = s1 at C1 ⊢
  generalize ht1 : aw_sI (aw_sI t 0 28 (nI n)) 0 27 (nI (i + 1)) = t1 at C1 ⊢
  have s8 : s1.1 o 8 = nI n := by rw [← hs1, ao_sI_i (by omega)]; exact e8
  have s4 : s1.1 o 4 = -1 := by rw [← hs1, ao_sI_i (by omega)]; exact e4
  have s5 : s1.1 o 5 = nI (i + 1) := by rw [← hs1, ao_sI_s]
  have u29 : t1.1 0 29 = -1 := by rw [← ht1, ao_sI_i (by omega), ao_sI_i (by omega)]; exact t29
  have u28 : t1.1 0 28 = nI n := by rw [← ht1, ao_sI_i (by omega), ao_sI_s]
  have u27 : t1.1 0 27 = nI (i + 1) := by rw [← ht1, ao_sI_s]
  clear hs1 ht1
  have P := ru_putIn (how := how) ho G A B M hn C1 s8
  -- the reference, put together again
  have eB : (if ru_hI how = (-1 : Int32) then m_Rf_runNow_J124 t1 (ru_hI how) (nI n) else aw_bd2 (m_Rf_putsIn t1 (nI n) (ru_hI how)) (fun r37 s39 => if r37 = 0 then m_Rf_runNow_J133 s39 (ru_hI how) (nI n) else m_Rf_runNow_J124 s39 (ru_hI how) (nI n))) = aw_bd2 (if ru_hI how = -1 then some ((1 : Int32), t1) else m_Rf_putsIn t1 (nI n) (ru_hI how)) (fun r37 s39 => if r37 = 0 then m_Rf_runNow_J133 s39 (ru_hI how) (nI n) else m_Rf_runNow_J124 s39 (ru_hI how) (nI n)) := by
    by_cases q : ru_hI how = -1
    · rw [if_pos q, if_pos q, aw_bd2_s rfl, if_neg ao_n10]
    · rw [if_neg q, if_neg q]
  rw [eB]
  -- what both come to when it faults
  have fault : ∀ (s2 t2 : aw_S) (w' : Nat), w' ≤ i + 1 → ru_C o σa σb w' s2 t2 → (∀ j, j ≠ 6 → j ≠ 7 → j ≠ 9 → s2.1 o j = s1.1 o j) → (∀ j, j ≠ 26 → j ≠ 35 → t2.1 0 j = t1.1 0 j) → ∀ (v : Int32), (v = 0 ∨ v = 2) → ru_L o σa σb (ag_N Γ) (i + 1) (nI (i + 1), aw_sI s2 o 4 v) (nI n, aw_sI t2 0 29 v) := by
    intro s2 t2 w' hw' C2 f1 f2 v hv
    refine ⟨rfl, by omega, n, w', hn, hw', rfl, ru_C_fB (j := 29) (ru_C_fA (j := 4) C2 (by omega)) (by omega), ?_, ?_, Or.inr ⟨?_, ?_, ?_⟩⟩
    · show (aw_sI s2 o 4 v).1 o 8 = nI n
      rw [ao_sI_i (by omega), f1 8 (by omega) (by omega) (by omega)]; exact s8
    · show (aw_sI s2 o 4 v).1 o 4 = (aw_sI t2 0 29 v).1 0 29
      rw [ao_sI_s, ao_sI_s]
    · show (aw_sI s2 o 4 v).1 o 4 = 0 ∨ (aw_sI s2 o 4 v).1 o 4 = 2
      rw [ao_sI_s]; exact hv
    · show (aw_sI s2 o 4 v).1 o 5 = (aw_sI t2 0 29 v).1 0 27
      rw [ao_sI_i (by omega), ao_sI_i (by omega), f1 5 (by omega) (by omega) (by omega), f2 27 (by omega) (by omega), s5, u27]
    · show (aw_sI t2 0 29 v).1 0 28 = nI n
      rw [ao_sI_i (by omega), f2 28 (by omega) (by omega)]; exact u28
  have lenz : nI (ao_sl (ag_nx Γ) n).length = 0 ↔ ag_nx Γ (2 * n) = none := by
    have := ao_sl_len2 (ag_nx Γ) n
    rw [← ao_sl_0 G.1 hn]
    exact nI_eq (b := 0) (by omega) (by omega)
  refine ao_2b2 (ao_2i P ?_)
  rintro ⟨r, s2⟩ ⟨r', t2⟩ ⟨hr, hr01, C2, f1, f2⟩
  have hr : r = r' := hr
  subst hr
  have C2 : ru_C o σa σb w s2 t2 := C2
  have f1 : ∀ j, j ≠ 6 → j ≠ 7 → j ≠ 9 → s2.1 o j = s1.1 o j := f1
  have f2 : ∀ j, j ≠ 26 → j ≠ 35 → t2.1 0 j = t1.1 0 j := f2
  unfold m_Ru_step_J28
  rcases hr01 with q | q
  · have q : r = 0 := q
    subst q
    refine ao_2lp rfl (ao_2rp rfl ?_)
    unfold m_Rf_runNow_J133
    exact ao_2s ⟨_, rfl, fault s2 t2 w (by omega) C2 f1 f2 2 (Or.inr rfl)⟩
  · have q : r = 1 := q
    subst q
    refine ao_2ln ao_n10 (ao_2rn ao_n10 ?_)
    unfold m_Rf_runNow_J124
    refine ao_2b2 (ao_2i (ru_doNode (how := how) ho G A B M hn (by omega) C2 ((f1 8 (by omega) (by omega) (by omega)).trans s8)) ?_)
    rintro ⟨r, s3⟩ ⟨r', t3⟩ ⟨w', hw1, hw2, hr3, hr01, C30, g10, g20⟩
    have hr3 : r = r' := hr3
    subst hr3
    have C3 : ru_C o σa σb w' s3 t3 := C30
    have g1 : ∀ j, j ≠ 6 → j ≠ 7 → j ≠ 9 → s3.1 o j = s1.1 o j := fun j h1 h2 h3 => Eq.trans (g10 j h1 h2 h3) (f1 j h1 h2 h3)
    have g2 : ∀ j, j ≠ 26 → j ≠ 35 → t3.1 0 j = t1.1 0 j := fun j h1 h2 => Eq.trans (g20 j h1 h2) (f2 j h1 h2)
    clear C30 g10 g20
    rcases hr01 with q | q
    · have q : r = 0 := q
      subst q
      refine ao_2lp rfl (ao_2rp rfl ?_)
      unfold m_Rf_runNow_J133
      exact ao_2s ⟨_, rfl, fault s3 t3 w' (by omega) C3 g1 g2 2 (Or.inr rfl)⟩
    · have q : r = 1 := q
      subst q
      refine ao_2ln ao_n10 (ao_2rn ao_n10 ?_)
      have Bt := ru_B C3.2.1 B.1
      have A3 := ru_A C3.1 ho A
      have e38 : s3.1 o 8 = nI n := (g1 8 (by omega) (by omega) (by omega)).trans s8
      refine ao_2l (show m_Gr_edgesFrom s3 (s3.1 o 8) = some _ by rw [e38]; exact ao_leads A3.1 hn) (ao_2r (ao_isLast Bt.1 hn) ?_)
      by_cases hl : ag_nx Γ (2 * n) = none
      · rw [ao_b1 hl]
        refine ao_2lp (lenz.mpr hl) (ao_2rn ao_n10 ?_)
        exact ao_2s ⟨_, rfl, fault s3 t3 w' (by omega) C3 g1 g2 0 (Or.inl rfl)⟩
      · rw [ao_b0 hl]
        refine ao_2ln (fun z => hl (lenz.mp z)) (ao_2rp rfl ?_)
        obtain ⟨m, hm, n1, n2⟩ := ru_next ho G A B.1 hn hl C3 e38
        refine ao_2l n1 (ao_2r n2 ?_)
        rw [ao_ltr]
        refine ao_2s ⟨_, rfl, rfl, by omega, m, w', hm, by omega, rfl, ru_C_fA (j := 8) C3 (by omega), ao_sI_s _ _ _ _, ?_, Or.inl ⟨?_, ?_, ?_⟩⟩
        · show (aw_sI s3 o 8 (nI m)).1 o 4 = t3.1 0 29
          rw [ao_sI_i (by omega), g1 4 (by omega) (by omega) (by omega), g2 29 (by omega) (by omega), s4, u29]
        · show (aw_sI s3 o 8 (nI m)).1 o 4 = -1
          rw [ao_sI_i (by omega), g1 4 (by omega) (by omega) (by omega), s4]
        · show (aw_sI s3 o 8 (nI m)).1 o 5 = nI (i + 1)
          rw [ao_sI_i (by omega), g1 5 (by omega) (by omega) (by omega), s5]
        · exact (g2 27 (by omega) (by omega)).trans u27
theorem ru_fill {σ : aw_S} {c n : Nat} (hn : n ≤ 128) (v : Int32) : ao_ok (m_Ar_fillI σ c n v) (fun s => s.2 = σ.2 ∧ (∀ k, k ≠ c → s.1 k = σ.1 k) ∧ ∀ j, j < n → s.1 c j = v) := by
  unfold m_Ar_fillI
  rw [ao_ltr]
  refine ao_bd (ao_imp (ao_for n (fun k (s : Int32 × aw_S) => s.1 = nI k ∧ s.2.2 = σ.2 ∧ (∀ k, k ≠ c → s.2.1 k = σ.1 k) ∧ ∀ j, j < k → s.2.1 c j = v) (Q := fun s => s.2 = σ.2 ∧ (∀ k, k ≠ c → s.1 k = σ.1 k) ∧ ∀ j, j < n → s.1 c j = v) (a := 0) ⟨rfl, rfl, fun _ _ => rfl, fun j hj => absurd hj (Nat.not_lt_zero _)⟩ (Nat.zero_le _) (by omega) ?_ ?_) (fun s hs => ao_some hs))
  · rintro k ⟨x, s⟩ hk ⟨e1, l, f, d⟩
    have e1 : x = nI k := e1
    subst e1
    have f : ∀ k, k ≠ c → s.1 k = σ.1 k := f
    have d : ∀ j, j < k → s.1 c j = v := d
    show ao_ok (m_Ar_fillI_B5 s c v (nI n) n (nI k)) _
    unfold m_Ar_fillI_B5
    rw [if_neg (nI_ge hk (by omega)), ao_gdn hk (by omega), nI_clamp (by omega)]
    refine ao_let (ao_let (ao_inr ⟨nI_1 k, l, fun j hj => by rw [ao_sI_o hj]; exact f j hj, fun j hj => ?_⟩))
    show (aw_sI s c k v).1 c j = v
    by_cases q : j = k
    · rw [q, ao_sI_s]
    · rw [ao_sI_i q]; exact d j (by omega)
  · rintro ⟨x, s⟩ ⟨e1, h⟩
    have e1 : x = nI n := e1
    subst e1
    show ao_ok (m_Ar_fillI_B5 s c v (nI n) n (nI n)) _
    unfold m_Ar_fillI_B5
    rw [if_pos (nI_le (Nat.le_refl _) (by omega))]
    exact ao_inl h
set_option maxHeartbeats 2000000 in
theorem ru_run {o : Nat} (ho : 82 ≤ o) {σa σb : aw_S} {Γ : ag_T} (G : ag_wf Γ) (A : ag_A σa Γ) (B : ag_BA σb Γ) {how : Option Bool} (M : ru_M σa Γ how) (hl : ∀ v, v < 26 → σa.1 81 v = σb.1 15 v) : ao_2 (m_Ru_follow σa o (ru_by how) 81) (m_Rf_runNow σb (ru_hI how)) (ru_F o σa σb) := by
  have hN := G.1.1
  -- how the class begins
  have hA : ∀ Q : aw_S → Prop, (∀ s, ru_yA o σa s → (∀ v, v < 26 → s.1 (o + 1) v = σa.1 81 v) → (∀ e, e < 24 → s.1 (o + 4) e = 0) → (∀ e, e < 24 → s.1 (o + 3) e = 0) → s.1 o 4 = -1 → s.1 o 5 = 0 → s.1 o 6 = 0 → s.1 o 7 = 0 → s.1 o 8 = 0 → ao_ok (aw_bd (aw_lp (fun s => m_Ru_follow_B56 s.2 o (ru_by how) s.1) aw_fu ((0 : Int32), s)) (fun x19 => if (x19.1 o 4) = (-1 : Int32) then m_Ru_follow_J112 x19 o ((1 : Int32)) else m_Ru_follow_J112 x19 o ((x19.1 o 4)))) Q) → ao_ok (m_Ru_follow σa o (ru_by how) 81) Q := by
    intro Q hQ
    unfold m_Ru_follow
    refine ao_let (ao_bd (ao_imp (ru_fill (by omega) 0) ?_))
    rintro s1 ⟨l1, f1, d1⟩
    refine ao_bd (ao_imp (ru_fill (by omega) 0) ?_)
    rintro s2 ⟨l2, f2, d2⟩
    refine ao_let (ao_let (ao_let (ao_let (ao_let ?_))))
    have fr : ∀ k, k ≠ o → (aw_sI (aw_sI (aw_sI (aw_sI (aw_sI s2 o 5 0) o 6 0) o 7 0) o 8 0) o 4 (-1)).1 k = s2.1 k := fun k hk => by rw [ao_sI_o hk, ao_sI_o hk, ao_sI_o hk, ao_sI_o hk, ao_sI_o hk]
    refine hQ _ ⟨by show s2.2 = σa.2; rw [l2, l1]; rfl, fun k hk => ?_⟩ (fun v hv => ?_) (fun e he => ?_) (fun e he => ?_) (ao_sI_s _ _ _ _) ?_ ?_ ?_ ?_
    · rw [fr k (by omega), f2 k (by omega), f1 k (by omega)]
      funext j
      rw [ao_cp1, if_neg (by omega)]
    · rw [fr (o + 1) (by omega), f2 (o + 1) (by omega), f1 (o + 1) (by omega), ao_cp1, if_pos ⟨rfl, hv⟩]
    · rw [fr (o + 4) (by omega), f2 (o + 4) (by omega)]; exact d1 e he
    · rw [fr (o + 3) (by omega)]; exact d2 e he
    · rw [ao_sI_i (by omega), ao_sI_i (by omega), ao_sI_i (by omega), ao_sI_i (by omega), ao_sI_s]
    · rw [ao_sI_i (by omega), ao_sI_i (by omega), ao_sI_i (by omega), ao_sI_s]
    · rw [ao_sI_i (by omega), ao_sI_i (by omega), ao_sI_s]
    · rw [ao_sI_i (by omega), ao_sI_s]
  -- how the reference begins
  have hB : ∀ Q : aw_S → Prop, (∀ t, ru_yB σb t → (∀ v, v < 26 → t.1 16 v = σb.1 15 v) → (∀ e, e < 24 → t.1 17 e = 0) → (∀ e, e < 24 → t.1 18 e = 0) → t.1 0 26 = 0 → t.1 0 27 = 0 → t.1 0 29 = -1 → ao_ok (aw_bd (aw_lp (fun s => m_Rf_runNow_B71 s.2 (ru_hI how) s.1) aw_fu ((0 : Int32), t)) (fun x42 => Sum.elim (fun y45 => some y45) (fun y46 => some y46) x42)) Q) → ao_ok (m_Rf_runNow σb (ru_hI how)) Q := by
    intro Q hQ
    unfold m_Rf_runNow
    refine ao_bd (ao_imp (ao_for 26 (fun k (s : Int32 × aw_S) => s.1 = nI k ∧ s.2.2 = σb.2 ∧ (∀ c, c ≠ 16 → s.2.1 c = σb.1 c) ∧ ∀ v, v < k → s.2.1 16 v = σb.1 15 v) (Q := fun s => s.2 = σb.2 ∧ (∀ c, c ≠ 16 → s.1 c = σb.1 c) ∧ ∀ v, v < 26 → s.1 16 v = σb.1 15 v) (a := 0) ⟨rfl, rfl, fun _ _ => rfl, fun j hj => absurd hj (Nat.not_lt_zero _)⟩ (Nat.zero_le _) (by omega) ?_ ?_) ?_)
    · rintro k ⟨x, s⟩ hk ⟨e1, l, f, d⟩
      have e1 : x = nI k := e1
      subst e1
      have f : ∀ c, c ≠ 16 → s.1 c = σb.1 c := f
      have d : ∀ v, v < k → s.1 16 v = σb.1 15 v := d
      show ao_ok (m_Rf_runNow_B2 s (ru_hI how) (nI k)) _
      unfold m_Rf_runNow_B2
      rw [if_neg (show ¬ (26 : Int32) ≤ nI k from nI_ge (b := 26) hk (by omega)), ao_gdn hk (by omega), ao_gdn hk (by omega), nI_clamp (by omega), f 15 (by omega)]
      refine ao_let (ao_let (ao_inr ⟨nI_1 k, l, fun j hj => by rw [ao_sI_o hj]; exact f j hj, fun j hj => ?_⟩))
      show (aw_sI s 16 k (σb.1 15 k)).1 16 j = _
      by_cases q : j = k
      · rw [q, ao_sI_s]
      · rw [ao_sI_i q]; exact d j (by omega)
    · rintro ⟨x, s⟩ ⟨e1, h⟩
      have e1 : x = nI 26 := e1
      subst e1
      show ao_ok (m_Rf_runNow_B2 s (ru_hI how) (nI 26)) _
      unfold m_Rf_runNow_B2
      rw [if_pos (by decide)]
      exact ao_inl h
    · rintro s1 ⟨l1, f1, d1⟩
      refine ao_bd (ao_imp (ao_for 24 (fun k (s : Int32 × aw_S) => s.1 = nI k ∧ s.2.2 = σb.2 ∧ (∀ c, c ≠ 17 → c ≠ 18 → s.2.1 c = s1.1 c) ∧ ∀ v, v < k → s.2.1 17 v = 0 ∧ s.2.1 18 v = 0) (Q := fun s => s.2 = σb.2 ∧ (∀ c, c ≠ 17 → c ≠ 18 → s.1 c = s1.1 c) ∧ ∀ v, v < 24 → s.1 17 v = 0 ∧ s.1 18 v = 0) (a := 0) ⟨rfl, l1, fun _ _ _ => rfl, fun j hj => absurd hj (Nat.not_lt_zero _)⟩ (Nat.zero_le _) (by omega) ?_ ?_) ?_)
      · rintro k ⟨x, s⟩ hk ⟨e1, l, f, d⟩
        have e1 : x = nI k := e1
        subst e1
        have f : ∀ c, c ≠ 17 → c ≠ 18 → s.1 c = s1.1 c := f
        have d : ∀ v, v < k → s.1 17 v = 0 ∧ s.1 18 v = 0 := d
        show ao_ok (m_Rf_runNow_B28 s (ru_hI how) (nI k)) _
        unfold m_Rf_runNow_B28
        rw [if_neg (show ¬ (24 : Int32) ≤ nI k from nI_ge (b := 24) hk (by omega)), ao_gdn hk (by omega), nI_clamp (by omega), ao_ltr, ao_gdn hk (by omega)]
        refine ao_let (ao_let (ao_inr ⟨nI_1 k, l, fun j h1 h2 => by rw [ao_sI_o h2, ao_sI_o h1]; exact f j h1 h2, fun j hj => ?_⟩))
        show (aw_sI (aw_sI s 17 k 0) 18 k 0).1 17 j = 0 ∧ (aw_sI (aw_sI s 17 k 0) 18 k 0).1 18 j = 0
        rw [ao_sI_o (by omega)]
        by_cases q : j = k
        · rw [q, ao_sI_s, ao_sI_s]; exact ⟨rfl, rfl⟩
        · rw [ao_sI_i q, ao_sI_i q, ao_sI_o (by omega)]; exact d j (by omega)
      · rintro ⟨x, s⟩ ⟨e1, h⟩
        have e1 : x = nI 24 := e1
        subst e1
        show ao_ok (m_Rf_runNow_B28 s (ru_hI how) (nI 24)) _
        unfold m_Rf_runNow_B28
        rw [if_pos (by decide)]
        exact ao_inl h
      · rintro s2 ⟨l2, f2, d2⟩
        refine ao_let (ao_let (ao_let (hQ _ ⟨l2, fun k h1 h2 => ?_, fun j h1 h2 h3 h4 h5 => ?_⟩ (fun v hv => ?_) (fun e he => ?_) (fun e he => ?_) ?_ ?_ (ao_sI_s _ _ _ _))))
        · rw [ao_sI_o h1, ao_sI_o h1, ao_sI_o h1, f2 k (by omega) (by omega)]; exact f1 k (by omega)
        · rw [ao_sI_i h4, ao_sI_i h2, ao_sI_i h1, f2 0 (by omega) (by omega)]; exact congrFun (f1 0 (by omega)) j
        · rw [ao_sI_o (by omega), ao_sI_o (by omega), ao_sI_o (by omega), f2 16 (by omega) (by omega)]; exact d1 v hv
        · rw [ao_sI_o (by omega), ao_sI_o (by omega), ao_sI_o (by omega)]; exact (d2 e he).1
        · rw [ao_sI_o (by omega), ao_sI_o (by omega), ao_sI_o (by omega)]; exact (d2 e he).2
        · rw [ao_sI_i (by omega), ao_sI_i (by omega), ao_sI_s]
        · rw [ao_sI_i (by omega), ao_sI_s]
  -- both loops
  have key : ∀ s t, ru_L o σa σb (ag_N Γ) 0 (0, s) (0, t) → ao_2 (aw_lp (fun s => m_Ru_follow_B56 s.2 o (ru_by how) s.1) aw_fu ((0 : Int32), s)) (aw_lp (fun s => m_Rf_runNow_B71 s.2 (ru_hI how) s.1) aw_fu ((0 : Int32), t)) (fun s' y => ∃ w t', (y = .inl t' ∨ y = .inr t') ∧ w ≤ 400 ∧ ru_C o σa σb w s' t' ∧ (if s'.1 o 4 = -1 then 1 else s'.1 o 4) = t'.1 0 29 ∧ s'.1 o 5 = t'.1 0 27 ∧ s'.1 o 8 = t'.1 0 28) := by
    intro s t h0
    refine ao_2lp' (fun d x y => ∃ i, d + i = 401 ∧ ru_L o σa σb (ag_N Γ) i x y) (d := 401) ⟨0, rfl, h0⟩ (by omega) ?_
    rintro d ⟨x, s⟩ ⟨y, t⟩ ⟨i, hd, e1, hi, n, w, hn, hw, e2, C, e8, e4, hc⟩
    have e1 : x = nI i := e1
    have e2 : y = nI n := e2
    subst e1 e2
    have C : ru_C o σa σb w s t := C
    have e8 : s.1 o 8 = nI n := e8
    have e4 : s.1 o 4 = t.1 0 29 := e4
    have hc : (s.1 o 4 = -1 ∧ s.1 o 5 = nI i ∧ t.1 0 27 = nI i) ∨ ((s.1 o 4 = 0 ∨ s.1 o 4 = 2) ∧ s.1 o 5 = t.1 0 27 ∧ t.1 0 28 = nI n) := hc
    show ao_2 (m_Ru_follow_B56 s o (ru_by how) (nI i)) (m_Rf_runNow_B71 t (ru_hI how) (nI n)) _
    rcases hc with ⟨h1, h2, h3⟩ | ⟨h1, h2, h3⟩
    · by_cases q : i < 400
      · unfold m_Ru_follow_B56
        refine ao_2ln (show ¬ (400 : Int32) ≤ nI i from nI_ge (b := 400) q (by omega)) (ao_2lp h1 ?_)
        refine ao_2l (show m_Gr_isNode s (s.1 o 8) = some 1 by rw [e8]; exact ao_isNode (ru_A C.1 ho A).1.2.1 hN hn) (ao_2ln ao_n10 ?_)
        obtain ⟨s', y, ea, eb, y', ey, hL⟩ := ru_step (how := how) ho G A B M hn hw q C e8 h1 h2 (e4.symm.trans h1) h3
        refine ao_2l ea ?_
        rw [eb, ao_ltr, nI_1, ey]
        exact ao_2s ⟨d - 1, by omega, i + 1, by omega, hL⟩
      · have i400 : i = 400 := by omega
        subst i400
        unfold m_Ru_follow_B56 m_Rf_runNow_B71
        refine ao_2lp (by decide) (ao_2rp (e4.symm.trans h1) ?_)
        rw [ao_ltr, show (aw_sI t 0 28 (nI n)).1 0 27 = nI 400 from (ao_sI_i (by omega)).trans h3, if_pos (by decide), ao_ltr]
        refine ao_2s ⟨w, _, Or.inl rfl, hw, ru_C_fB (j := 29) (ru_C_fB (j := 28) C (by omega)) (by omega), ?_, ?_, ?_⟩
        · rw [if_pos h1, ao_sI_s]
        · rw [ao_sI_i (by omega), ao_sI_i (by omega), h2, h3]
        · rw [ao_sI_i (by omega), ao_sI_s, e8]
    · have ne : ¬ s.1 o 4 = -1 := by
        rcases h1 with h1 | h1 <;> rw [h1] <;> decide
      have fin : ∃ w t', ((Sum.inr t : aw_S ⊕ aw_S) = .inl t' ∨ (Sum.inr t : aw_S ⊕ aw_S) = .inr t') ∧ w ≤ 400 ∧ ru_C o σa σb w s t' ∧ (if s.1 o 4 = -1 then 1 else s.1 o 4) = t'.1 0 29 ∧ s.1 o 5 = t'.1 0 27 ∧ s.1 o 8 = t'.1 0 28 := ⟨w, t, Or.inr rfl, by omega, C, by rw [if_neg ne]; exact e4, h2, by rw [e8, h3]⟩
      unfold m_Ru_follow_B56 m_Rf_runNow_B71
      refine ao_2rn (fun z => ne (e4.trans z)) ?_
      by_cases q : (400 : Int32) ≤ nI i
      · rw [if_pos q]; exact ao_2s fin
      · rw [if_neg q, if_neg ne]; exact ao_2s fin
  have fin : ao_ok (m_Ru_follow σa o (ru_by how) 81) (fun x => ao_ok (m_Rf_runNow σb (ru_hI how)) (fun y => ru_F o σa σb x y)) := by
    refine hA _ (fun s y1 a1 a2 a3 a4 a5 a6 a7 a8 => ?_)
    refine ao_sw ?_
    refine hB _ (fun t z1 b1 b2 b3 b4 b5 b6 => ?_)
    have C : ru_C o σa σb 0 s t := ⟨y1, z1, fun v hv => (a1 v hv).trans ((hl v hv).trans (b1 v hv).symm), fun e he => (a2 e he).trans (b2 e he).symm, fun e he => (a3 e he).trans (b3 e he).symm, by
      rw [a6, ru_S_c (g := fun _ => 0) (fun k hk => b3 k hk)]
      decide, a7, b4, fun k _ hk => absurd hk (Nat.not_lt_zero _)⟩
    obtain ⟨x, y, ex, ey, w, t', hy, hw, C', h4, h5, h8⟩ := key s t ⟨rfl, by omega, 0, 0, G.2.1, Nat.le_refl _, rfl, C, a8, a4.trans b6.symm, Or.inl ⟨a4, a5, b5⟩⟩
    rw [aw_bd_s ey]
    have fA : ao_ok (aw_bd (aw_lp (fun s => m_Ru_follow_B56 s.2 o (ru_by how) s.1) aw_fu ((0 : Int32), s)) (fun x19 => if (x19.1 o 4) = (-1 : Int32) then m_Ru_follow_J112 x19 o ((1 : Int32)) else m_Ru_follow_J112 x19 o ((x19.1 o 4)))) (fun x => ru_F o σa σb x t') := by
      rw [aw_bd_s ex]
      unfold m_Ru_follow_J112
      by_cases q : x.1 o 4 = -1
      · rw [if_pos q] at h4
        rw [if_pos q]
        refine ao_let (ao_some ⟨w, hw, ru_C_fA (j := 4) C' (by omega), ?_, ?_, ?_⟩)
        · rw [ao_sI_s]; exact h4
        · rw [ao_sI_i (by omega)]; exact h5
        · rw [ao_sI_i (by omega)]; exact h8
      · rw [if_neg q] at h4
        rw [if_neg q]
        refine ao_let (ao_some ⟨w, hw, ru_C_fA (j := 4) C' (by omega), ?_, ?_, ?_⟩)
        · rw [ao_sI_s]; exact h4
        · rw [ao_sI_i (by omega)]; exact h5
        · rw [ao_sI_i (by omega)]; exact h8
    rcases hy with rfl | rfl
    · exact ao_some fA
    · exact ao_some fA
  obtain ⟨x, e1, y, e2, h⟩ := fin
  exact ⟨x, y, e1, e2, h⟩

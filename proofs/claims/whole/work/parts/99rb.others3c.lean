/-! the class -/
def ot_q (σ s : aw_S) : Prop := s.2 = σ.2 ∧ ∀ c, c ≠ 135 → s.1 c = σ.1 c
theorem ot_q_I {σ s : aw_S} (h : ot_q σ s) {j : Nat} {v : Int32} : ot_q σ (aw_sI s 135 j v) := ⟨h.1, fun c hc => (ao_sI_o hc).trans (h.2 c hc)⟩
theorem ot_q_T {σ s : aw_S} {Γ : ag_T} {e : Nat} (h : ot_q σ s) (T : ot_T σ Γ e) : ot_T s Γ e := by
  unfold ot_T ot_G at T ⊢
  rw [h.2 105 (by omega), h.2 131 (by omega), h.2 132 (by omega), h.2 133 (by omega), h.2 134 (by omega)]
  exact T
theorem ot_gainA {s : aw_S} {Γ : ag_T} {e : Nat} (T : ot_T s Γ e) (hN : ag_N Γ ≤ 12) (x : Int32) {m : Nat} (hm : m < ag_N Γ) : m_Ot_gain s x (nI m) = some (ot_g Γ e x m) := by
  unfold m_Ot_gain ot_g
  rw [aw_bd_s (ag_bitOf s _ (by omega)), aw_bd_s (ag_bitOf s _ (by omega)), ao_b_c ((T.2.2.2.2 m (by omega)).trans ⟨fun z => z.2, fun z => ⟨hm, z⟩⟩)]
theorem ot_carry {σ s : aw_S} {Γ : ag_T} {e : Nat} (G : ag_wf Γ) (T : ot_T σ Γ e) (hN : ag_N Γ ≤ 12) (x : Int32) (hq : ot_q σ s) {f : Nat → Int32} (hf : ∀ n, n < ag_N Γ → s.1 135 n = f n) {n k : Nat} (hn : n < ag_N Γ) (hk : k < 2 * ag_N Γ) : ∃ s', m_Ot_carry s x (nI n) (ao_o (ag_nx Γ k)) = some ((fw_c (ot_g Γ e x) f n (ag_nx Γ k)).2, s') ∧ ot_q σ s' ∧ ∀ i, i < ag_N Γ → s'.1 135 i = (fw_c (ot_g Γ e x) f n (ag_nx Γ k)).1 i := by
  have Ts := ot_q_T hq T
  unfold m_Ot_carry
  cases h : ag_nx Γ k with
  | none => exact ⟨s, if_pos (by decide), hq, hf⟩
  | some m =>
    have hm := G.1.2.1 k hk m h
    rw [show ao_o (some m) = nI m from rfl, if_neg (nI_pos (by omega)), Ts.1.1, if_neg (nI_ge hm (by omega)), ao_gdn (by omega) (by omega), aw_bd_s (ot_gainA Ts hN x hm)]
    simp (disch := omega) only [ao_gdn, nI_clamp, ao_ltr]
    rw [hf m hm, hf n hn, aw_bd_s (ot_gainA Ts hN x hm)]
    show ∃ s', (if f m < f n + ot_g Γ e x m then _ else _) = some ((if f m < f n + ot_g Γ e x m then (fw_u f m (f n + ot_g Γ e x m), 1) else (f, 0) : (Nat → Int32) × Int32).2, s') ∧ ot_q σ s' ∧ ∀ i, i < ag_N Γ → s'.1 135 i = (if f m < f n + ot_g Γ e x m then (fw_u f m (f n + ot_g Γ e x m), 1) else (f, 0) : (Nat → Int32) × Int32).1 i
    by_cases q : f m < f n + ot_g Γ e x m
    · rw [if_pos q, if_pos q]
      refine ⟨_, rfl, ot_q_I hq, fun i hi => ?_⟩
      show (aw_sI s 135 m _).1 135 i = fw_u f m _ i
      by_cases w : i = m
      · rw [w, ao_sI_s, fw_u_s]
      · rw [ao_sI_i w, fw_u_o f _ w]; exact hf i hi
    · rw [if_neg q, if_neg q]
      exact ⟨s, rfl, hq, hf⟩
theorem fw_e_far {g : Nat → Int32} {nx : Nat → Option Nat} {x : (Nat → Int32) × Int32} {k : Nat} (h : x.1 (k / 2) = -1000) : fw_e g nx x k = x := if_pos h
theorem fw_e_near {g : Nat → Int32} {nx : Nat → Option Nat} {x : (Nat → Int32) × Int32} {k : Nat} (h : ¬ x.1 (k / 2) = -1000) : fw_e g nx x k = ((fw_c g x.1 (k / 2) (nx k)).1, if (fw_c g x.1 (k / 2) (nx k)).2 = 0 then x.2 else 1) := if_neg h
set_option maxHeartbeats 2000000 in
/-- one node of a round -/
theorem ot_nodeA {σ s : aw_S} {Γ : ag_T} {e : Nat} (G : ag_wf Γ) (T : ot_T σ Γ e) (hN : ag_N Γ ≤ 12) (x M r : Int32) (hq : ot_q σ s) {y : (Nat → Int32) × Int32} {j : Nat} (hj : j ≤ 398) (hB : fw_B j y.1) (hv : y.2 = 0 ∨ y.2 = 1) {n : Nat} (hn : n < ag_N Γ) (hf : ∀ i, i < ag_N Γ → s.1 135 i = y.1 i) (hM : y.1 n ≤ M) : ∃ s', m_Ot_isFew_B57 s x M r y.2 (nI n) = some (.inr ((fw_e (ot_g Γ e x) (ag_nx Γ) (fw_e (ot_g Γ e x) (ag_nx Γ) y (2 * n)) (2 * n + 1)).2, nI (n + 1), s')) ∧ ot_q σ s' ∧ ∀ i, i < ag_N Γ → s'.1 135 i = (fw_e (ot_g Γ e x) (ag_nx Γ) (fw_e (ot_g Γ e x) (ag_nx Γ) y (2 * n)) (2 * n + 1)).1 i := by
  have Ts := ot_q_T hq T
  have h21 : 2 * n / 2 = n := by omega
  have h22 : (2 * n + 1) / 2 = n := by omega
  have J126 : ∀ s' v, (v = 0 ∨ v = 1) → m_Ot_isFew_J153 s' x M v r (nI n) = some (.inr (v, nI (n + 1), s')) := by
    intro s' v hv
    unfold m_Ot_isFew_J153 m_Ot_isFew_J162
    rcases hv with rfl | rfl
    · rw [if_pos rfl, ao_ltr, nI_1]
    · rw [if_neg ao_n10, ao_ltr, nI_1]
  have J94 : ∀ s' v k0, (v = 0 ∨ v = 1) → m_Ot_isFew_J121 s' x M v r (nI n) k0 = m_Ot_isFew_J130 s' x M r (nI n) k0 v := by
    intro s' v k0 hv
    unfold m_Ot_isFew_J121
    rcases hv with rfl | rfl
    · rw [if_pos rfl]
    · rw [if_neg ao_n10]
  unfold m_Ot_isFew_B57
  rw [Ts.1.1, if_neg (nI_ge hn (by omega)), ao_gdn (by omega) (by omega), nI_clamp (by omega), hf n hn, if_pos hM, ao_gdn (by omega) (by omega)]
  by_cases q : y.1 n = -1000
  · rw [if_pos ((fw_far (by omega) hB).mpr q), fw_e_far (x := y) (k := 2 * n) (by rw [h21]; exact q), fw_e_far (x := y) (k := 2 * n + 1) (by rw [h22]; exact q)]
    refine ⟨s, ?_, hq, hf⟩
    unfold m_Ot_isFew_J97
    rw [if_pos rfl, J94 _ _ _ hv]
    unfold m_Ot_isFew_J130
    rw [if_pos rfl, J126 _ _ hv]
  · rw [if_neg (fun z => q ((fw_far (by omega) hB).mp z))]
    unfold m_Ot_isFew_J97
    rw [if_neg ao_n10, ao_gdn (by omega) (by omega), nI_clamp (by omega), (Ts.1.2.2 n hn).1]
    obtain ⟨s1, c1, q1, f1⟩ := ot_carry G T hN x hq hf hn (k := 2 * n) (by omega)
    rw [aw_bd2_s c1]
    have E1 : fw_e (ot_g Γ e x) (ag_nx Γ) y (2 * n) = ((fw_c (ot_g Γ e x) y.1 n (ag_nx Γ (2 * n))).1, if (fw_c (ot_g Γ e x) y.1 n (ag_nx Γ (2 * n))).2 = 0 then y.2 else 1) := by
      have := fw_e_near (g := ot_g Γ e x) (nx := ag_nx Γ) (x := y) (k := 2 * n) (by rw [h21]; exact q)
      rwa [h21] at this
    have v1 := fw_e_v (g := ot_g Γ e x) (nx := ag_nx Γ) hv (2 * n)
    have q2 : ¬ (fw_e (ot_g Γ e x) (ag_nx Γ) y (2 * n)).1 n = -1000 := by
      rw [E1]; exact fw_c_far (by omega) hB q _
    have f1' : ∀ i, i < ag_N Γ → s1.1 135 i = (fw_e (ot_g Γ e x) (ag_nx Γ) y (2 * n)).1 i := fun i hi => by rw [E1]; exact f1 i hi
    have e2 : (if (fw_c (ot_g Γ e x) y.1 n (ag_nx Γ (2 * n))).2 = 0 then m_Ot_isFew_J121 s1 x M y.2 r (nI n) 1 else m_Ot_isFew_J130 s1 x M r (nI n) 1 1) = m_Ot_isFew_J130 s1 x M r (nI n) 1 (fw_e (ot_g Γ e x) (ag_nx Γ) y (2 * n)).2 := by
      rw [E1]
      by_cases w : (fw_c (ot_g Γ e x) y.1 n (ag_nx Γ (2 * n))).2 = 0
      · rw [if_pos w, J94 _ _ _ hv, if_pos w]
      · rw [if_neg w, if_neg w]
    rw [e2]
    generalize fw_e (ot_g Γ e x) (ag_nx Γ) y (2 * n) = y1 at v1 q2 f1' ⊢
    have Ts1 := ot_q_T q1 T
    obtain ⟨s2, c2, q3, f2⟩ := ot_carry G T hN x q1 f1' hn (k := 2 * n + 1) (by omega)
    unfold m_Ot_isFew_J130
    rw [if_neg ao_n10, ao_gdn (by omega) (by omega), nI_clamp (by omega), (Ts1.1.2.2 n hn).2.1, aw_bd2_s c2]
    have E2 : fw_e (ot_g Γ e x) (ag_nx Γ) y1 (2 * n + 1) = ((fw_c (ot_g Γ e x) y1.1 n (ag_nx Γ (2 * n + 1))).1, if (fw_c (ot_g Γ e x) y1.1 n (ag_nx Γ (2 * n + 1))).2 = 0 then y1.2 else 1) := by
      have := fw_e_near (g := ot_g Γ e x) (nx := ag_nx Γ) (x := y1) (k := 2 * n + 1) (by rw [h22]; exact q2)
      rwa [h22] at this
    refine ⟨s2, ?_, q3, fun i hi => by rw [E2]; exact f2 i hi⟩
    rw [E2]
    by_cases w : (fw_c (ot_g Γ e x) y1.1 n (ag_nx Γ (2 * n + 1))).2 = 0
    · rw [if_pos w, J126 _ _ v1]
      simp only [if_pos w]
    · rw [if_neg w]
      unfold m_Ot_isFew_J162
      rw [ao_ltr, nI_1]
      simp only [if_neg w]
set_option maxHeartbeats 2000000 in
theorem ot_fewA {σ : aw_S} {Γ : ag_T} {e : Nat} (G : ag_wf Γ) (T : ot_T σ Γ e) (hN : ag_N Γ ≤ 12) (x : Int32) : ao_ok (m_Ot_isFew σ x) (fun r => r.1 = ao_b (ot_FW Γ e x) ∧ ot_q σ r.2) := by
  have h0 := G.2.1
  unfold m_Ot_isFew
  refine ao_bd (ao_imp (ru_fill (by omega) (-1000)) ?_)
  rintro s1 ⟨l1, f1, d1⟩
  have y1 : ot_q σ s1 := ⟨l1, f1⟩
  have ga : m_Ot_gain s1 x 0 = some (ot_g Γ e x 0) := ot_gainA (ot_q_T y1 T) hN x h0
  have gd0 : ∀ {α : Type} (z : Option α), aw_gd (vp_in (0 : Int32) 12) z = z := fun z => ao_gdn (n := 0) (by omega) (by omega)
  have cl : (0 : Int32).toNatClampNeg = 0 := rfl
  rw [aw_bd_s ga, gd0, ao_ltr, cl, aw_bd_s (ap_bitCount _ _)]
  have T0 : ot_T (aw_sI s1 135 0 (ot_g Γ e x 0)) Γ e := ot_q_T (ot_q_I y1) T
  have hc1 : ao_n (fun i => ao_t x i ∧ ¬ ag_F Γ e 4 i) (ag_N Γ) ≤ ao_n (ao_t (x &&& ((aw_sI s1 135 0 (ot_g Γ e x 0)).1 105 11 ^^^ (-1 : Int32)))) (ag_N Γ) := ao_n_mono (fun i hi z => ao_t_and.mpr ⟨z.1, (ao_t_not (by omega)).mpr (fun q => z.2 ((T0.2.2.2.2 i (by omega)).mp q).2)⟩)
  have hc2 : ao_n (ao_t (x &&& ((aw_sI s1 135 0 (ot_g Γ e x 0)).1 105 11 ^^^ (-1 : Int32)))) (ag_N Γ) ≤ ao_n (ao_t (x &&& ((aw_sI s1 135 0 (ot_g Γ e x 0)).1 105 11 ^^^ (-1 : Int32)))) 32 := ao_n_le2 (by omega)
  have hc := Nat.le_trans hc1 hc2
  have hc' := ao_n_le (ao_t (x &&& ((aw_sI s1 135 0 (ot_g Γ e x 0)).1 105 11 ^^^ (-1 : Int32)))) 32
  generalize ao_n (ao_t (x &&& ((aw_sI s1 135 0 (ot_g Γ e x 0)).1 105 11 ^^^ (-1 : Int32)))) 32 = c at hc hc' ⊢
  clear hc1 hc2 T0
  refine ao_bd (ao_imp (ao_for (Q := Sum.elim (fun (u : Int32 × aw_S) => u.1 = 0 ∧ ¬ ot_FW Γ e x ∧ ot_q σ u.2) (fun (z : Int32 × aw_S) => z.1 = (ot_X Γ e x (ag_N Γ + 1)).2 ∧ ot_q σ z.2 ∧ ∀ i, i < ag_N Γ → z.2.1 135 i = (ot_X Γ e x (ag_N Γ + 1)).1 i)) (ag_N Γ + 1) (fun k (t : Int32 × Int32 × aw_S) => t.2.1 = nI k ∧ t.1 = (ot_X Γ e x k).2 ∧ ot_q σ t.2.2 ∧ ∀ i, i < ag_N Γ → t.2.2.1 135 i = (ot_X Γ e x k).1 i) (a := 0) ⟨rfl, rfl, ot_q_I y1, fun i hi => ?_⟩ (Nat.zero_le _) (by omega) ?_ ?_) ?_)
  · show (aw_sI s1 135 0 (ot_g Γ e x 0)).1 135 i = (fw_o (ot_g Γ e x) (ag_nx Γ) (ag_N Γ) 0).1 i
    rw [fw_o_0]
    show (aw_sI s1 135 0 (ot_g Γ e x 0)).1 135 i = fw_u (fun _ => (-1000 : Int32)) 0 (ot_g Γ e x 0) i
    by_cases w : i = 0
    · rw [w, ao_sI_s, fw_u_s]
    · rw [ao_sI_i w, fw_u_o _ _ w]; exact d1 i (by omega)
  · rintro r ⟨v, n, s⟩ hr ⟨e1, e2, y, f⟩
    have e1 : n = nI r := e1
    have e2 : v = (ot_X Γ e x r).2 := e2
    subst e1
    have y : ot_q σ s := y
    have f : ∀ i, i < ag_N Γ → s.1 135 i = (ot_X Γ e x r).1 i := f
    show ao_ok (m_Ot_isFew_B39 s x (nI c) v (nI r)) _
    unfold m_Ot_isFew_B39
    by_cases v0 : (ot_X Γ e x r).2 = 0
    · rw [if_pos (e2.trans v0)]
      have st := fw_o_st (g := ot_g Γ e x) (nx := ag_nx Γ) (N := ag_N Γ) v0 (ag_N Γ + 1 - r)
      rw [show r + (ag_N Γ + 1 - r) = ag_N Γ + 1 by omega] at st
      have st : ot_X Γ e x (ag_N Γ + 1) = ot_X Γ e x r := st
      refine ao_inl (x := Sum.inr (v, s)) ⟨?_, y, ?_⟩
      · show v = _; rw [st]; exact e2
      · rw [st]; exact f
    · rw [if_neg (fun z => v0 (e2.symm.trans z)), (ot_q_T y T).1.1, if_neg (nI_nlt (by omega) (by omega))]
      have nxt : ot_X Γ e x (r + 1) = fw_k (ot_g Γ e x) (ag_nx Γ) ((ot_X Γ e x r).1, 0) (2 * ag_N Γ) := if_neg v0
      have hB : fw_B (24 * r) (ot_X Γ e x r).1 := fw_o_B (ot_g_b Γ e x) (ag_nx Γ) hN r (by omega)
      refine ao_bd (ao_imp (ao_for (Q := Sum.elim (fun (u : Int32 × aw_S) => u.1 = 0 ∧ ¬ ot_FW Γ e x ∧ ot_q σ u.2) (fun (z : Int32 × aw_S) => z.1 = (ot_X Γ e x (r + 1)).2 ∧ ot_q σ z.2 ∧ ∀ i, i < ag_N Γ → z.2.1 135 i = (ot_X Γ e x (r + 1)).1 i)) (ag_N Γ) (fun k (t : Int32 × Int32 × aw_S) => t.2.1 = nI k ∧ t.1 = (fw_k (ot_g Γ e x) (ag_nx Γ) ((ot_X Γ e x r).1, 0) (2 * k)).2 ∧ ot_q σ t.2.2 ∧ ∀ i, i < ag_N Γ → t.2.2.1 135 i = (fw_k (ot_g Γ e x) (ag_nx Γ) ((ot_X Γ e x r).1, 0) (2 * k)).1 i) (a := 0) ⟨rfl, rfl, y, f⟩ (Nat.zero_le _) (by omega) ?_ ?_) ?_)
      · rintro k ⟨v', n', s'⟩ hk ⟨g1, g2, y', f'⟩
        have g1 : n' = nI k := g1
        have g2 : v' = (fw_k (ot_g Γ e x) (ag_nx Γ) ((ot_X Γ e x r).1, 0) (2 * k)).2 := g2
        subst g1 g2
        have y' : ot_q σ s' := y'
        have f' : ∀ i, i < ag_N Γ → s'.1 135 i = (fw_k (ot_g Γ e x) (ag_nx Γ) ((ot_X Γ e x r).1, 0) (2 * k)).1 i := f'
        show ao_ok (m_Ot_isFew_B57 s' x (nI c) (nI r) _ (nI k)) _
        by_cases hM : (fw_k (ot_g Γ e x) (ag_nx Γ) ((ot_X Γ e x r).1, 0) (2 * k)).1 k ≤ nI c
        · obtain ⟨s'', E, Y, F⟩ := ot_nodeA G T hN x (nI c) (nI r) y' (y := fw_k (ot_g Γ e x) (ag_nx Γ) ((ot_X Γ e x r).1, 0) (2 * k)) (j := 24 * r + 2 * k) (by omega) (fw_k_B (ot_g_b Γ e x) (ag_nx Γ) (x := ((ot_X Γ e x r).1, 0)) hB (2 * k) (by omega)) (fw_k_v (Or.inl rfl) _) hk f' hM
          rw [E]
          exact ao_inr ⟨rfl, rfl, Y, F⟩
        · have no : ¬ ot_FW Γ e x := fun hw => hM (ot_over G hN hc hc' hw (ot_mid hr (by omega) v0) k)
          unfold m_Ot_isFew_B57
          rw [(ot_q_T y' T).1.1, if_neg (nI_ge hk (by omega)), ao_gdn (by omega) (by omega), nI_clamp (by omega), f' k hk, if_neg hM]
          exact ao_inl (x := Sum.inl ((0 : Int32), s')) ⟨rfl, no, y'⟩
      · rintro ⟨v', n', s'⟩ ⟨g1, g2, y', f'⟩
        have g1 : n' = nI (ag_N Γ) := g1
        subst g1
        show ao_ok (m_Ot_isFew_B57 s' x (nI c) (nI r) v' (nI (ag_N Γ))) _
        unfold m_Ot_isFew_B57
        rw [show s'.1 105 7 = nI (ag_N Γ) from (ot_q_T y' T).1.1, if_pos (nI_le (Nat.le_refl _) (by omega))]
        refine ao_inl (x := Sum.inr (v', s')) ⟨?_, y', ?_⟩
        · rw [nxt]; exact g2
        · rw [nxt]; exact f'
      · rintro (⟨v', s'⟩ | ⟨v', s'⟩) h
        · obtain ⟨g1, g2, y'⟩ := h
          show ao_ok (some (Sum.inl (Sum.inl (v', s')))) _
          exact ao_inl (x := Sum.inl (v', s')) ⟨g1, g2, y'⟩
        · obtain ⟨g2, y', f'⟩ := h
          show ao_ok (aw_lt (nI r + (1 : Int32)) (fun x37 => some (Sum.inr (v', x37, s')))) _
          rw [ao_ltr, nI_1]
          exact ao_inr ⟨rfl, g2, y', f'⟩
  · rintro ⟨v, n, s⟩ ⟨e1, e2, y, f⟩
    have e1 : n = nI (ag_N Γ + 1) := e1
    subst e1
    have y : ot_q σ s := y
    show ao_ok (m_Ot_isFew_B39 s x (nI c) v (nI (ag_N Γ + 1))) _
    unfold m_Ot_isFew_B39
    by_cases v0 : v = 0
    · rw [if_pos v0]; exact ao_inl (x := Sum.inr (v, s)) ⟨e2, y, f⟩
    · rw [if_neg v0, (ot_q_T y T).1.1, if_pos (nI_lt (by omega) (by omega))]
      exact ao_inl (x := Sum.inr (v, s)) ⟨e2, y, f⟩
  · rintro (⟨v, s⟩ | ⟨v, s⟩) h
    · obtain ⟨e1, q, y⟩ := h
      have e1 : v = 0 := e1
      show ao_ok (some (v, s)) _
      exact ao_some ⟨e1.trans (ao_b0 q).symm, y⟩
    obtain ⟨e2, y, f⟩ := h
    have e2 : v = (ot_X Γ e x (ag_N Γ + 1)).2 := e2
    have y : ot_q σ s := y
    have f : ∀ i, i < ag_N Γ → s.1 135 i = (ot_X Γ e x (ag_N Γ + 1)).1 i := f
    show ao_ok (if v = 0 then _ else _) _
    by_cases v0 : v = 0
    · rw [if_pos v0]
      have Ts := ot_q_T y T
      have ends : m_Ot_endsAhead s = some (ao_b (¬ ∀ n, n < ag_N Γ → ag_nx Γ (2 * n) = none → (ot_X Γ e x (ag_N Γ + 1)).1 n ≤ 0)) := by
        unfold m_Ot_endsAhead
        have key : ao_ok (aw_lp (fun z => m_Ot_endsAhead_B2 s z) aw_fu (0 : Int32)) (Sum.elim (fun y11 => y11 = 1 ∧ ¬ ∀ n, n < ag_N Γ → ag_nx Γ (2 * n) = none → (ot_X Γ e x (ag_N Γ + 1)).1 n ≤ 0) (fun (_ : Unit) => ∀ n, n < ag_N Γ → ag_nx Γ (2 * n) = none → (ot_X Γ e x (ag_N Γ + 1)).1 n ≤ 0)) := by
          refine ao_for (ag_N Γ) (fun k (z : Int32) => z = nI k ∧ ∀ n, n < k → ag_nx Γ (2 * n) = none → (ot_X Γ e x (ag_N Γ + 1)).1 n ≤ 0) (a := 0) ⟨rfl, fun n hn => absurd hn (Nat.not_lt_zero _)⟩ (Nat.zero_le _) (by omega) ?_ ?_
          · rintro k z hk ⟨rfl, d⟩
            show ao_ok (m_Ot_endsAhead_B2 s (nI k)) _
            unfold m_Ot_endsAhead_B2 m_Ot_endsAhead_J33
            rw [Ts.1.1, if_neg (nI_ge hk (by omega)), aw_bd_s (ag_bitOf s _ (by omega)), ao_b_c ((Ts.1.2.1 k (by omega)).trans ⟨fun z => z.2, fun z => ⟨hk, z⟩⟩), ao_ltr, nI_1]
            by_cases q : ag_nx Γ (2 * k) = none
            · rw [ao_b1 q, if_pos rfl, ao_gdn (by omega) (by omega), nI_clamp (by omega), f k hk]
              by_cases q2 : (ot_X Γ e x (ag_N Γ + 1)).1 k ≤ 0
              · rw [if_pos q2]
                exact ao_inr ⟨rfl, fun n hn w => by by_cases u : n = k; rw [u]; exact q2; exact d n (by omega) w⟩
              · rw [if_neg q2]
                exact ao_inl ⟨rfl, fun z => q2 (z k hk q)⟩
            · rw [ao_b0 q, if_neg (by decide)]
              exact ao_inr ⟨rfl, fun n hn w => by by_cases u : n = k; rw [u] at w; exact absurd w q; exact d n (by omega) w⟩
          · rintro z ⟨rfl, d⟩
            show ao_ok (m_Ot_endsAhead_B2 s (nI (ag_N Γ))) _
            unfold m_Ot_endsAhead_B2
            rw [Ts.1.1, if_pos (nI_le (Nat.le_refl _) (by omega))]
            exact ao_inl d
        obtain ⟨z, ez, hz⟩ := key
        rw [aw_bd_s ez]
        rcases z with z | z
        · obtain ⟨rfl, hz⟩ := hz
          show some (1 : Int32) = _
          rw [ao_b1 hz]
        · show some (0 : Int32) = _
          rw [ao_b0 (fun w => w hz)]
      rw [aw_bd_s ends]
      by_cases q : ∀ n, n < ag_N Γ → ag_nx Γ (2 * n) = none → (ot_X Γ e x (ag_N Γ + 1)).1 n ≤ 0
      · rw [ao_b0 (fun w => w q), if_pos rfl]
        exact ao_some ⟨(ao_b1 ⟨e2.symm.trans v0, q⟩).symm, y⟩
      · rw [ao_b1 q, if_neg ao_n10]
        exact ao_some ⟨(ao_b0 (fun w => q w.2)).symm, y⟩
    · rw [if_neg v0]
      exact ao_some ⟨(ao_b0 (fun w => v0 (e2.trans w.1))).symm, y⟩

/-! ===== THE CALLS: run, alike ===== -/
theorem iv_cpl {f : Int32 × aw_S → Option (aw_S ⊕ (Int32 × aw_S))} {σ : aw_S} {c d n : Nat} (hn : n ≤ 128) (hcd : c ≠ d) (hs : ∀ k s, k < n → f (nI k, s) = some (.inr (nI (k + 1), aw_sI s d k (s.1 c k)))) (he : ∀ s, f (nI n, s) = some (.inl s)) : ao_ok (aw_lp f aw_fu ((0 : Int32), σ)) (fun s => ag_one d σ s ∧ ∀ k, k < n → s.1 d k = σ.1 c k) := by
  refine ao_for n (fun k (t : Int32 × aw_S) => t.1 = nI k ∧ ag_one d σ t.2 ∧ ∀ j, j < k → t.2.1 d j = σ.1 c j) (a := 0) ⟨rfl, ag_one_rf, fun j hj => absurd hj (Nat.not_lt_zero _)⟩ (Nat.zero_le _) (by omega) ?_ ?_
  · rintro k ⟨v, s⟩ hk ⟨e1, o, q⟩
    have e1 : v = nI k := e1
    subst e1
    have o : ag_one d σ s := o
    have q : ∀ j, j < k → s.1 d j = σ.1 c j := q
    rw [hs k s hk]
    refine ao_inr ⟨rfl, ag_one_tr o ag_one_s, fun j hj => ?_⟩
    show (aw_sI s d k (s.1 c k)).1 d j = _
    by_cases w : j = k
    · rw [w, ao_sI_s, o.2 c hcd]
    · rw [ao_sI_i w]; exact q j (by omega)
  · rintro ⟨v, s⟩ ⟨e1, o, q⟩
    have e1 : v = nI n := e1
    subst e1
    rw [he]
    exact ao_inl ⟨o, q⟩
theorem iv_sum (s : aw_S) : m_Rf_allWorked s = some (ru_S (s.1 18) 24) := by
  unfold m_Rf_allWorked
  refine aw_bd_s (iq_lpf (fun k => ru_S (s.1 18) k) (N := 24) (by omega) (fun k hk => ?_) ?_ rfl)
  · show m_Rf_allWorked_B4 s (ru_S (s.1 18) k) (nI k) = _
    unfold m_Rf_allWorked_B4
    rw [if_neg (show ¬ (24 : Int32) ≤ nI k from nI_ge (b := 24) hk (by omega)), ao_gdn hk (by omega), nI_clamp (by omega), ao_ltr, ao_ltr, nI_1]
    rfl
  · show m_Rf_allWorked_B4 s _ (nI 24) = _
    unfold m_Rf_allWorked_B4
    rw [if_pos (by decide)]
/-- what a run leaves as it was, in both -/
theorem iv_runA {o : Nat} (ho : 82 ≤ o) (ho' : o ≤ 92) {a s : aw_S} (h : ru_yA o a s) (r : wa_rr a) : iv_a0 a s := ⟨fun c hc => h.2 c (by omega), by rw [h.1], by rw [h.1], iv_wr r h.1, fun Γ K => iv_oK K (fun c p q => h.2 c (by omega)) (fun c p => h.2 c (by omega))⟩
theorem iv_runB {b t : aw_S} (h : ru_yB b t) : iv_b0 b t := ⟨fun j _ => congrFun (h.2.1 1 (by omega) (by omega)) j, fun c hc => h.2.1 c (by omega) (by omega), h.2.2 14 (by omega) (by omega) (by omega) (by omega) (by omega), h.2.2 15 (by omega) (by omega) (by omega) (by omega) (by omega), h.2.2 16 (by omega) (by omega) (by omega) (by omega) (by omega), h.2.2 54 (by omega) (by omega) (by omega) (by omega) (by omega)⟩
set_option maxHeartbeats 2000000 in
theorem i_run {a b : aw_S} (h : iv_I a b) (x y : Int32) : iv_ok (m_Mo_run a x y) (m_Rf_run b x y) := by
  have same : ao_2 (some ((-1 : Int32), a)) (some ((-1 : Int32), b)) (fun p q => p.1 = q.1 ∧ iv_I p.2 q.2) := ao_2s ⟨rfl, h⟩
  unfold m_Mo_run m_Rf_run
  rcases iq_runs (iv_P h) x with ⟨Γ, how, G, rfl, e1, e2, e3⟩ | ⟨e1, e2⟩
  · rw [aw_bd_s e1, if_neg ao_n10, aw_bd_s e2, if_neg ao_n10]
    by_cases q : ∃ i, i < 5 ∧ y = nI i
    · obtain ⟨i, hi, rfl⟩ := q
      have hN := G.1.1.1
      have M := ru_M_of G.2.1 h.1.2.2.2.1 hN how
      rw [if_neg (nI_pos (by omega)), if_pos (show nI i ≤ (4 : Int32) from nI_le (b := 4) (by omega) (by omega)), aw_bd_s e3, aw_bd_s (iq_isIn1 b (N := 5) (by decide) hi (by omega)), if_neg ao_n10]
      refine ao_2b (ao_2i (ru_run (o := 82) (by omega) G.1 G.2.1.1 G.2.2 M h.2.2.2.2.1) ?_)
      rintro s t ⟨w, hw, ⟨yA, yB, l1, l2, l3, l4, l5, l6, l7⟩, q4, q5, q8⟩
      rw [ao_ltr, ao_ltr]
      generalize hs11 : aw_sI s 0 18 1 = s11
      have o11 : ∀ c, c ≠ 0 → s11.1 c = s.1 c := fun c hc => by rw [← hs11, ao_sI_o hc]
      have j11 : ∀ j, j ≠ 18 → s11.1 0 j = s.1 0 j := fun j hj => by rw [← hs11, ao_sI_i hj]
      have k11 : s11.1 0 18 = 1 := by rw [← hs11, ao_sI_s]
      have r11 : s11.2 = s.2 := by rw [← hs11]; rfl
      clear hs11
      generalize ht10 : aw_sI t 0 34 1 = t10
      have o10 : ∀ c, c ≠ 0 → t10.1 c = t.1 c := fun c hc => by rw [← ht10, ao_sI_o hc]
      have j10 : ∀ j, j ≠ 34 → t10.1 0 j = t.1 0 j := fun j hj => by rw [← ht10, ao_sI_i hj]
      have k10 : t10.1 0 34 = 1 := by rw [← ht10, ao_sI_s]
      have r10 : t10.2 = t.2 := by rw [← ht10]; rfl
      clear ht10
      obtain ⟨u1, E1, o1, c1⟩ := iv_cpl (f := fun s => m_Rf_run_B31 s.2 (nI i) s.1) (σ := t10) (c := 16) (d := 20) (n := 26) (by omega) (by omega) (fun k s hk => by
        show m_Rf_run_B31 s (nI i) (nI k) = _
        unfold m_Rf_run_B31
        rw [if_neg (show ¬ (26 : Int32) ≤ nI k from nI_ge (b := 26) hk (by omega)), ao_gdn hk (by omega), ao_gdn hk (by omega), nI_clamp (by omega), ao_ltr, ao_ltr, nI_1]) (fun s => by
        show m_Rf_run_B31 s (nI i) (nI 26) = _
        unfold m_Rf_run_B31
        rw [if_pos (by decide)])
      obtain ⟨u2, E2, o2, c2⟩ := iv_cpl (f := fun s => m_Rf_run_B57 s.2 (nI i) s.1) (σ := u1) (c := 18) (d := 21) (n := 24) (by omega) (by omega) (fun k s hk => by
        show m_Rf_run_B57 s (nI i) (nI k) = _
        unfold m_Rf_run_B57
        rw [if_neg (show ¬ (24 : Int32) ≤ nI k from nI_ge (b := 24) hk (by omega)), ao_gdn hk (by omega), ao_gdn hk (by omega), nI_clamp (by omega), ao_ltr, ao_ltr, nI_1]) (fun s => by
        show m_Rf_run_B57 s (nI i) (nI 24) = _
        unfold m_Rf_run_B57
        rw [if_pos (by decide)])
      obtain ⟨u3, E3, o3, c3⟩ := iv_cpl (f := fun s => m_Rf_run_B83 s.2 (nI i) s.1) (σ := u2) (c := 19) (d := 22) (n := 40) (by omega) (by omega) (fun k s hk => by
        show m_Rf_run_B83 s (nI i) (nI k) = _
        unfold m_Rf_run_B83
        rw [if_neg (show ¬ (40 : Int32) ≤ nI k from nI_ge (b := 40) hk (by omega)), ao_gdn hk (by omega), ao_gdn hk (by omega), nI_clamp (by omega), ao_ltr, ao_ltr, nI_1]) (fun s => by
        show m_Rf_run_B83 s (nI i) (nI 40) = _
        unfold m_Rf_run_B83
        rw [if_pos (by decide)])
      rw [aw_bd_s E1, aw_bd_s E2, aw_bd_s E3, ao_ltr]
      have e0 : ∀ c, c ≠ 20 → c ≠ 21 → c ≠ 22 → u3.1 c = t10.1 c := fun c h1 h2 h3 => (o3.2 c h3).trans ((o2.2 c h2).trans (o1.2 c h1))
      have u26 : u3.1 0 26 = nI w := by rw [e0 0 (by omega) (by omega) (by omega), j10 26 (by omega)]; exact l6
      generalize ht : aw_sI u3 0 33 (u3.1 0 26) = t'
      have o' : ∀ c, c ≠ 0 → t'.1 c = u3.1 c := fun c hc => by rw [← ht, ao_sI_o hc]
      have j' : ∀ j, j ≠ 33 → t'.1 0 j = u3.1 0 j := fun j hj => by rw [← ht, ao_sI_i hj]
      have k' : t'.1 0 33 = nI w := by rw [← ht, ao_sI_s]; exact u26
      clear ht
      have F : ∀ c, c ≠ 0 → c ≠ 20 → c ≠ 21 → c ≠ 22 → t'.1 c = t.1 c := fun c h0 h1 h2 h3 => (o' c h0).trans ((e0 c h1 h2 h3).trans (o10 c h0))
      have F0 : ∀ j, j ≠ 33 → j ≠ 34 → t'.1 0 j = t.1 0 j := fun j h1 h2 => (j' j h1).trans ((congrFun (e0 0 (by omega) (by omega) (by omega)) j).trans (j10 j h2))
      have k34 : t'.1 0 34 = 1 := (j' 34 (by omega)).trans ((congrFun (e0 0 (by omega) (by omega) (by omega)) 34).trans k10)
      have FA : iv_a0 a s11 := by
        have := iv_runA (by omega) (by omega) yA h.1.2.2.2.2
        exact ⟨fun c hc => (o11 c (by omega)).trans (this.1 c hc), by rw [r11]; exact this.2.1, by rw [r11]; exact this.2.2.1, iv_wr this.2.2.2.1 r11, fun Γ K => iv_oK (this.2.2.2.2 Γ K) (fun c p q => o11 c (by omega)) (fun c p => o11 c (by omega))⟩
      have FB : iv_b0 b t' := by
        obtain ⟨z1, z2, z3, z4, z5, z6⟩ := iv_runB yB
        exact ⟨fun j hj => by rw [F 1 (by omega) (by omega) (by omega) (by omega)]; exact z1 j hj, fun c hc => (F c (by omega) (by omega) (by omega) (by omega)).trans (z2 c hc), (F0 14 (by omega) (by omega)).trans z3, (F0 15 (by omega) (by omega)).trans z4, (F0 16 (by omega) (by omega)).trans z5, (F0 54 (by omega) (by omega)).trans z6⟩
      have A : ∀ c, c < 82 ∨ 86 < c → c ≠ 0 → s11.1 c = a.1 c := fun c hc h0 => (o11 c h0).trans (yA.2 c (by omega))
      have A0 : ∀ j, j ≠ 18 → s11.1 0 j = a.1 0 j := fun j hj => (j11 j hj).trans (congrFun (yA.2 0 (by omega)) j)
      have Bc : ∀ c, c ≠ 0 → (c < 16 ∨ 22 < c) → t'.1 c = b.1 c := fun c h0 hc => (F c h0 (by omega) (by omega) (by omega)).trans (yB.2.1 c h0 (by omega))
      have B0 : ∀ j, j ≠ 33 → j ≠ 34 → j ≠ 26 → j ≠ 27 → j ≠ 28 → j ≠ 29 → j ≠ 35 → t'.1 0 j = b.1 0 j := fun j h1 h2 h3 h4 h5 h6 h7 => (F0 j h1 h2).trans (yB.2.2 j h3 h4 h5 h6 h7)
      have I : iv_I s11 t' := by
        obtain ⟨c, ⟨tf, L, hL, t1, t2, t3⟩, ⟨kk, hk, w1, w2, w3⟩, e, told, ran⟩ := h
        refine ⟨iv_core_fr c FA FB (fun j _ _ => congrFun (Bc 1 (by omega) (by omega)) j) (Bc 33 (by omega) (by omega)), ⟨fun i hi => ?_, L, hL, ?_, ?_, fun i hi => ?_⟩, ⟨kk, hk, ?_, ?_, fun i hi => ?_⟩, ?_, fun v hv => ?_, Or.inr ⟨k11, k34, fun v hv => ?_, fun e he => ?_, w, hw, ?_, k', fun k hk hkw => ?_⟩⟩
        · rw [A 2 (by omega) (by omega)]; exact tf i hi
        · rw [A 1 (by omega) (by omega)]; exact t1
        · rw [B0 2 (by omega) (by omega) (by omega) (by omega) (by omega) (by omega) (by omega)]; exact t2
        · rw [A 2 (by omega) (by omega), Bc 2 (by omega) (by omega)]; exact t3 i hi
        · rw [A 5 (by omega) (by omega)]; exact w1
        · rw [B0 48 (by omega) (by omega) (by omega) (by omega) (by omega) (by omega) (by omega)]; exact w2
        · rw [A 6 (by omega) (by omega), Bc 34 (by omega) (by omega)]; exact w3 i hi
        · rw [A0 17 (by omega), B0 4 (by omega) (by omega) (by omega) (by omega) (by omega) (by omega) (by omega)]; exact e
        · rw [A 81 (by omega) (by omega), Bc 15 (by omega) (by omega)]; exact told v hv
        · rw [o11 83 (by omega), o' 20 (by omega), o3.2 20 (by omega), o2.2 20 (by omega), c1 v hv, o10 16 (by omega)]; exact l1 v hv
        · rw [o11 85 (by omega), o' 21 (by omega), o3.2 21 (by omega), c2 e he, o1.2 18 (by omega), o10 18 (by omega)]; exact l3 e he
        · rw [o11 82 (by omega)]; exact l5
        · rw [o11 84 (by omega), o' 22 (by omega), c3 k hk, o2.2 19 (by omega), o1.2 19 (by omega), o10 19 (by omega)]; exact l7 k hk hkw
      rcases (show i = 0 ∨ i = 1 ∨ i = 2 ∨ i = 3 ∨ i = 4 by omega) with rfl | rfl | rfl | rfl | rfl
      · rw [if_pos (by decide), if_pos (by decide)]
        exact ao_2s ⟨by show s11.1 82 4 = t'.1 0 29; rw [o11 82 (by omega), F0 29 (by omega) (by omega)]; exact q4, I⟩
      · rw [if_neg (by decide), if_pos (by decide), if_neg (by decide), if_pos (by decide)]
        exact ao_2s ⟨by show s11.1 82 5 = t'.1 0 27; rw [o11 82 (by omega), F0 27 (by omega) (by omega)]; exact q5, I⟩
      · rw [if_neg (by decide), if_neg (by decide), if_pos (by decide), if_neg (by decide), if_neg (by decide), if_pos (by decide), aw_bd_s (iv_sum t')]
        exact ao_2s ⟨by show s11.1 82 6 = ru_S (t'.1 18) 24; rw [o11 82 (by omega), F 18 (by omega) (by omega) (by omega) (by omega)]; exact l4, I⟩
      · rw [if_neg (by decide), if_neg (by decide), if_neg (by decide), if_pos (by decide), if_neg (by decide), if_neg (by decide), if_neg (by decide), if_pos (by decide)]
        exact ao_2s ⟨by show s11.1 82 7 = t'.1 0 26; rw [o11 82 (by omega), F0 26 (by omega) (by omega)]; exact l5.trans l6.symm, I⟩
      · rw [if_neg (by decide), if_neg (by decide), if_neg (by decide), if_neg (by decide), if_neg (by decide), if_neg (by decide), if_neg (by decide), if_neg (by decide)]
        exact ao_2s ⟨by show s11.1 82 8 = t'.1 0 28; rw [o11 82 (by omega), F0 28 (by omega) (by omega)]; exact q8, I⟩
    · rw [aw_bd_s (iq_isIn0 b (N := 5) (by decide) q (by omega)), if_pos rfl]
      by_cases y0 : y < 0
      · rw [if_pos y0]; exact same
      · obtain ⟨j, hj, rfl⟩ := nI_of y0
        rw [if_neg y0, if_neg (show ¬ nI j ≤ (4 : Int32) from nI_ge (a := 4) (Nat.lt_of_not_le fun z => q ⟨j, by omega, rfl⟩) hj)]
        exact same
  · rw [aw_bd_s e1, if_pos rfl, aw_bd_s e2, if_pos rfl]
    exact same

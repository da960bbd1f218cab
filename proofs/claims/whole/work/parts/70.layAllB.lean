/-! ===== the reference: lay, whole ===== -/
theorem ap_li_c {Ψ : ap_T} (hw : ap_wf Ψ) (n : Nat) : ap_li Ψ n = none ∨ (∃ b s, b < ap_B Ψ ∧ s < ap_S Ψ ∧ ap_li Ψ n = some (b, some s)) ∨ (∃ b, b < ap_B Ψ ∧ ap_li Ψ n = some (b, none)) := by
  by_cases h : 0 < n ∧ n < ap_N0 Ψ
  · rcases ap_li_ex hw h.1 h.2 with ⟨b, s, hb, _, _, hs, _, hl⟩ | ⟨b, hb, _, _, hl⟩
    · exact Or.inr (Or.inl ⟨b, s, hb, ap_s_lt hw hb hs, hl⟩)
    · exact Or.inr (Or.inr ⟨b, hb, hl⟩)
  · exact Or.inl (ap_li_none (by omega))
theorem ap_toB {s : aw_S} {Ψ : ap_T} (hw : ap_wf Ψ) (hr : ap_row s 0 Ψ) (h14 : s.1 0 14 = nI (ag_N (ap_gr Ψ))) (hd : ∀ m, m < ag_N (ap_gr Ψ) → ap_nd s Ψ m) (h7 : ∀ m, m < 2 * ag_N (ap_gr Ψ) → s.1 7 m = ao_o (ag_nx (ap_gr Ψ) m)) : ag_B s (ap_gr Ψ) := by
  obtain ⟨r0, r1, r2, r3, r4, r5, r6⟩ := hr
  simp only [Nat.zero_add] at r0 r1 r2 r3 r4 r5 r6
  have hB := hw.2.1
  have sk3 : ∀ s, s < ap_S Ψ → ap_sk Ψ s = 1 ∨ ap_sk Ψ s = 2 ∨ ap_sk Ψ s = 3 := fun s hs => by
    rcases hw.2.2.2.2.2.2.1 s hs with z | z | z
    · exact Or.inl z.1
    · exact Or.inr (Or.inl z.1)
    · exact Or.inr (Or.inr z.1)
  have ek3 : ∀ b, b < ap_B Ψ → ap_ek Ψ b = 4 ∨ ap_ek Ψ b = 5 ∨ ap_ek Ψ b = 6 := fun b hb => by
    rcases hw.2.2.2.2.2.2.2.1 b hb with z | z | z
    · exact Or.inl z.1
    · exact Or.inr (Or.inl z.1)
    · exact Or.inr (Or.inr z.1)
  refine ⟨⟨(ap_gr_wf hw).1, h14, h7⟩, fun n hn => ⟨(hd n hn).1, (hd n hn).2.1⟩, fun n hn hk => ?_, fun n hn hk => ?_, fun n b hn hk hb => ?_, fun n b hn hk hb => ?_, r2, r6, r0⟩
  · have e6 := (hd n hn).2.2
    have hk : ap_nk Ψ (ap_li Ψ n) = 1 ∨ ap_nk Ψ (ap_li Ψ n) = 2 ∨ ap_nk Ψ (ap_li Ψ n) = 3 := hk
    show ∃ s', s' < 60 ∧ s.1 6 n = nI s' ∧ s.1 1 (64 + s') = ao_o (ap_nl Ψ (ap_li Ψ n)) ∧ (ap_nk Ψ (ap_li Ψ n) ≠ 2 → s.1 1 (124 + s') = ao_o (ap_nop Ψ (ap_li Ψ n))) ∧ (ap_nk Ψ (ap_li Ψ n) = 2 → s.1 1 (124 + s') = ao_o (ap_nex Ψ (ap_li Ψ n)))
    rcases ap_li_c hw n with hl | ⟨b, s', hb, hs, hl⟩ | ⟨b, hb, hl⟩
    · rw [hl] at hk; exact absurd hk (by show ¬ (0 = 1 ∨ 0 = 2 ∨ 0 = 3); omega)
    · rw [hl] at e6 ⊢
      refine ⟨s', by have := hw.2.2.1; omega, e6, (r3 s' hs).2.1, fun z => ?_, fun z => ?_⟩
      · show _ = ao_o (if ap_sk Ψ s' = 2 then none else some (ap_sr Ψ s'))
        rw [if_neg (show ¬ ap_sk Ψ s' = 2 from z), (r3 s' hs).2.2]; rfl
      · show _ = ao_o (if ap_sk Ψ s' = 2 then some (ap_sr Ψ s') else none)
        rw [if_pos (show ap_sk Ψ s' = 2 from z), (r3 s' hs).2.2]; rfl
    · rw [hl] at hk
      have hk : ap_ek Ψ b = 1 ∨ ap_ek Ψ b = 2 ∨ ap_ek Ψ b = 3 := hk
      have := ek3 b hb
      omega
  · have e6 := (hd n hn).2.2
    have hk : ¬ (ap_nk Ψ (ap_li Ψ n) = 1 ∨ ap_nk Ψ (ap_li Ψ n) = 2 ∨ ap_nk Ψ (ap_li Ψ n) = 3) := hk
    rcases ap_li_c hw n with hl | ⟨b, s', hb, hs, hl⟩ | ⟨b, hb, hl⟩
    · rw [hl] at e6; exact e6
    · rw [hl] at hk; exact absurd (sk3 s' hs) hk
    · rw [hl] at e6; exact e6
  · have hk : ap_nk Ψ (ap_li Ψ n) = 5 := hk
    have hb : (ap_li Ψ n).map (fun q => q.1) = some b := hb
    show s.1 1 (220 + b) = ao_o (ap_nl Ψ (ap_li Ψ n))
    rcases ap_li_c hw n with hl | ⟨b', s', hb', hs, hl⟩ | ⟨b', hb', hl⟩
    · rw [hl] at hb; cases hb
    · rw [hl] at hk
      have hk : ap_sk Ψ s' = 5 := hk
      have := sk3 s' hs
      omega
    · rw [hl] at hb ⊢
      cases hb
      exact (r5 _ hb').2.1
  · have hk : ap_nk Ψ (ap_li Ψ n) = 4 ∨ ap_nk Ψ (ap_li Ψ n) = 5 := hk
    have hb : (ap_li Ψ n).map (fun q => q.1) = some b := hb
    show s.1 1 (236 + 2 * b) = ao_o (ap_n1 Ψ (ap_li Ψ n)) ∧ (_ → s.1 1 (237 + 2 * b) = ao_o (ap_n2 Ψ (ap_li Ψ n)))
    rcases ap_li_c hw n with hl | ⟨b', s', hb', hs, hl⟩ | ⟨b', hb', hl⟩
    · rw [hl] at hb; cases hb
    · rw [hl] at hk
      have hk : ap_sk Ψ s' = 4 ∨ ap_sk Ψ s' = 5 := hk
      have := sk3 s' hs
      omega
    · rw [hl] at hb ⊢
      cases hb
      exact ⟨(r5 _ hb').2.2.1, fun _ => (r5 _ hb').2.2.2⟩
/-- all that the reference holds of a program -/
def ag_BA (s : aw_S) (Γ : ag_T) : Prop :=
  ag_B s Γ ∧ (∀ e, e < ag_X Γ → ag_FB s Γ e) ∧ (∀ n, n < ag_N Γ → ∀ v, v < 32 → (ao_t (s.1 36 n) v ↔ ag_LV Γ v n)) ∧ ag_OB s Γ ∧ (∀ n, n < ag_N Γ → s.1 39 n = nI (ao_DP (ag_N Γ) (ag_nx Γ) n)) ∧ s.1 0 54 = nI (ao_HN (ag_N Γ) (ag_nx Γ)) ∧ (∀ n, n < ag_N Γ → s.1 8 n = nI (ao_n (fun k => ag_nx Γ k = some n) (2 * ag_N Γ))) ∧ s.1 0 16 = ao_b (ag_sound Γ) ∧ s.1 0 15 = 1
/-- what lay may move -/
def ag_fy (σ s : aw_S) : Prop := s.2 = σ.2 ∧ (∀ k, k ∉ [0, 4, 5, 6, 7, 8, 9, 10, 11, 12, 13, 36, 37, 38, 39] → s.1 k = σ.1 k) ∧ ∀ j, j ∉ [14, 15, 16, 34, 54] → s.1 0 j = σ.1 0 j
theorem ag_fy_tr {σ s t : aw_S} (h : ag_fy σ s) (h' : ag_fy s t) : ag_fy σ t := ⟨h'.1.trans h.1, fun k hk => (h'.2.1 k hk).trans (h.2.1 k hk), fun j hj => (h'.2.2 j hj).trans (h.2.2 j hj)⟩
theorem ag_fy_0 {σ : aw_S} {j : Nat} {v : Int32} (h : j ∈ [14, 15, 16, 34, 54]) : ag_fy σ (aw_sI σ 0 j v) := ⟨rfl, fun k hk => ao_sI_o (fun z => hk (by rw [z]; decide)), fun i hi => ao_sI_i (fun z => hi (by rw [z]; exact h))⟩
theorem ag_fy_1 {σ s : aw_S} {c : Nat} (h : ag_one c σ s) (hc : c ∈ [4, 5, 6, 7, 8, 9, 10, 11, 12, 13, 36, 37, 38, 39]) : ag_fy σ s := ⟨h.1, fun k hk => h.2 k (fun z => hk (by rw [z]; exact List.mem_cons_of_mem _ hc)), fun j _ => congrFun (h.2 0 (fun z => by rw [← z] at hc; exact absurd hc (by decide))) j⟩
theorem ag_fy_g {σ s : aw_S} (h : ap_fg σ s) : ag_fy σ s := ⟨h.1, fun k hk => h.2.1 k (fun z => hk (by rw [z]; decide)) (fun z => hk (by rw [z]; decide)) (fun z => hk (by rw [z]; decide)) (fun z => hk (by rw [z]; decide)) (fun z => hk (by rw [z]; decide)) (fun z => hk (by rw [z]; decide)), fun j hj => h.2.2 j (fun z => hj (by rw [z]; decide))⟩
theorem ag_fy_e {σ s : aw_S} {e : Nat} (h : ao_fe e σ s) : ag_fy σ s := ⟨h.2.2.2, fun k hk => h.1 k (fun z => hk (by rw [z]; decide)) (fun z => hk (by rw [z]; decide)), fun j _ => congrFun (h.1 0 (by decide) (by decide)) j⟩
theorem ag_fy_2 {σ s : aw_S} (h : ag_two 37 38 σ s) : ag_fy σ s := ⟨h.1, fun k hk => h.2 k (fun z => hk (by rw [z]; decide)) (fun z => hk (by rw [z]; decide)), fun j _ => congrFun (h.2 0 (by decide) (by decide)) j⟩
theorem ag_fy_d {σ s : aw_S} (h : ag_dp σ s) : ag_fy σ s := ⟨h.1, fun k hk => h.2.1 k (fun z => hk (by rw [z]; decide)) (fun z => hk (by rw [z]; decide)) (fun z => hk (by rw [z]; decide)), fun j hj => h.2.2 j (fun z => hj (by rw [z]; decide))⟩
theorem ap_row_fy {σ s : aw_S} {p : Nat} {Ψ : ap_T} (h : ag_fy σ s) (hr : ap_row σ p Ψ) : ap_row s p Ψ := ap_row_fr hr (h.2.1 1 (by decide))
set_option maxHeartbeats 4000000 in
theorem ap_lay {σ : aw_S} {Ψ : ap_T} (hw : ap_wf Ψ) (h : ap_row σ 0 Ψ) : ao_ok (m_Rf_lay σ) (fun s => ag_fy σ s ∧ ag_BA s (ap_gr Ψ) ∧ s.1 0 34 = 0) := by
  have hg := ap_gr_wf hw
  have hN := hg.1.1
  have hX := hg.2.2.2.2.2.2.1
  unfold m_Rf_lay
  refine ao_let (ao_let ?_)
  have y0 : ag_fy σ (aw_sI (aw_sI σ 0 15 1) 0 34 0) := ag_fy_tr (ag_fy_0 (by decide)) (ag_fy_0 (by decide))
  have p0 : (aw_sI (aw_sI σ 0 15 1) 0 34 0).1 0 15 = 1 := (ao_sI_i (by decide)).trans (ao_sI_s _ _ _ _)
  have w0 : (aw_sI (aw_sI σ 0 15 1) 0 34 0).1 0 34 = 0 := ao_sI_s _ _ _ _
  generalize aw_sI (aw_sI σ 0 15 1) 0 34 0 = s0 at y0 p0 w0 ⊢
  refine ao_bd (ao_imp (ap_layCome hw (ap_row_fy y0 h)) ?_)
  rintro s1 ⟨c1, rb⟩
  have y1 := ag_fy_tr y0 (ag_fy_1 c1 (by decide))
  refine ao_bd (ao_imp (ap_layNodes hw (ap_row_fy y1 h) rb) ?_)
  rintro s2 ⟨g2, n2, d2, x2⟩
  have y2 := ag_fy_tr y1 (ag_fy_g g2)
  refine ao_bd (ao_imp (ap_countCome (by have := ap_N0_le hw; omega) n2 x2 (fun k t hk e => (ap_x0_lt hw hk e).2)) ?_)
  rintro s3 ⟨c3, k3⟩
  have y3 := ag_fy_tr y2 (ag_fy_1 c3 (by decide))
  refine ao_bd (ao_imp (ap_split hw ((congrFun (c3.2 0 (by decide)) 14).trans n2) (fun m hm => ?_) (fun m hm => (congrFun (c3.2 7 (by decide)) m).trans (x2 m hm)) k3) ?_)
  · have := d2 m hm
    unfold ap_nd at this ⊢
    rw [c3.2 4 (by decide), c3.2 5 (by decide), c3.2 6 (by decide)]
    exact this
  · rintro s4 ⟨g4, _, n4, d4, x4⟩
    have y4 := ag_fy_tr y3 (ag_fy_g g4)
    have B4 : ag_B s4 (ap_gr Ψ) := ap_toB hw (ap_row_fy y4 h) n4 d4 x4
    refine ao_bd (ao_imp (ap_countCome (N := ag_N (ap_gr Ψ)) (nx := ag_nx (ap_gr Ψ)) hN B4.1.2.1 B4.1.2.2 (fun k t hk e => hg.1.2.1 k hk t e)) ?_)
    rintro s5 ⟨c5, k5⟩
    have B5 := ag_one_B c5 (by decide) B4
    have y5 := ag_fy_tr y4 (ag_fy_1 c5 (by decide))
    refine ao_bd2 (ao_imp (ag_allLeading hg B5) ?_)
    rintro ⟨so, s6⟩ ⟨e6, c6⟩
    have e6 : so = ao_b (ag_sound (ap_gr Ψ)) := e6
    have c6 : ag_one 11 s5 s6 := c6
    subst e6
    have B6 := ag_one_B c6 (by decide) B5
    have y6 := ag_fy_tr y5 (ag_fy_1 c6 (by decide))
    refine ao_gd (ao_b_01 _) (ao_let ?_)
    have y7 := ag_fy_tr y6 (ag_fy_0 (j := 16) (v := ao_b (ag_sound (ap_gr Ψ))) (by decide))
    have B7 : ag_B (aw_sI s6 0 16 (ao_b (ag_sound (ap_gr Ψ)))) (ap_gr Ψ) := ag_B_fr B6 (ao_sI_i (by decide)) (ao_sI_o (by decide)) (ao_sI_o (by decide)) (ao_sI_o (by decide)) (ao_sI_o (by decide)) (ao_sI_o (by decide))
    have k7 : ∀ n, n < ag_N (ap_gr Ψ) → (aw_sI s6 0 16 (ao_b (ag_sound (ap_gr Ψ)))).1 8 n = nI (ao_n (fun k => ag_nx (ap_gr Ψ) k = some n) (2 * ag_N (ap_gr Ψ))) := fun n hn => by rw [ao_sI_o (by decide), c6.2 8 (by decide)]; exact k5 n hn
    have so7 : (aw_sI s6 0 16 (ao_b (ag_sound (ap_gr Ψ)))).1 0 16 = ao_b (ag_sound (ap_gr Ψ)) := ao_sI_s _ _ _ _
    have p7 : (aw_sI s6 0 16 (ao_b (ag_sound (ap_gr Ψ)))).1 0 15 = 1 := by
      rw [ao_sI_i (by decide), congrFun (c6.2 0 (by decide)) 15, congrFun (c5.2 0 (by decide)) 15, g4.2.2 15 (by decide), congrFun (c3.2 0 (by decide)) 15, g2.2.2 15 (by decide), congrFun (c1.2 0 (by decide)) 15]
      exact p0
    have w7 : (aw_sI s6 0 16 (ao_b (ag_sound (ap_gr Ψ)))).1 0 34 = 0 := by
      rw [ao_sI_i (by decide), congrFun (c6.2 0 (by decide)) 34, congrFun (c5.2 0 (by decide)) 34, g4.2.2 34 (by decide), congrFun (c3.2 0 (by decide)) 34, g2.2.2 34 (by decide), congrFun (c1.2 0 (by decide)) 34]
      exact w0
    generalize aw_sI s6 0 16 (ao_b (ag_sound (ap_gr Ψ))) = s7 at y7 B7 k7 so7 p7 w7 ⊢
    refine ao_bd (ao_imp (ao_for (Q := fun (s : aw_S) => ag_fy σ s ∧ ag_B s (ap_gr Ψ) ∧ (∀ k, k ≠ 12 → k ≠ 13 → s.1 k = s7.1 k) ∧ ∀ e, e < ag_X (ap_gr Ψ) → ag_FB s (ap_gr Ψ) e) (ag_X (ap_gr Ψ)) (fun k (s : Int32 × aw_S) => s.1 = nI k ∧ ag_fy σ s.2 ∧ ag_B s.2 (ap_gr Ψ) ∧ (∀ k, k ≠ 12 → k ≠ 13 → s.2.1 k = s7.1 k) ∧ ∀ e, e < k → ag_FB s.2 (ap_gr Ψ) e) (a := 0) ⟨rfl, y7, B7, fun _ _ _ => rfl, fun e he => absurd he (Nat.not_lt_zero _)⟩ (Nat.zero_le _) (by omega) ?_ ?_) ?_)
    · rintro e ⟨x, s⟩ he ⟨e1, y, B, f, F⟩
      have e1 : x = nI e := e1
      subst e1
      have F : ∀ e', e' < e → ag_FB s (ap_gr Ψ) e' := F
      have B : ag_B s (ap_gr Ψ) := B
      show ao_ok (m_Rf_lay_B40 s (nI e)) _
      unfold m_Rf_lay_B40
      rw [show (2 : Int32) = nI 2 from rfl, aw_bd_s (ag_get (by decide)), B.2.2.2.2.2.2.1, if_neg (nI_ge he (by omega))]
      refine ao_bd (ao_imp (ag_layFacts hg B he) ?_)
      rintro t ⟨ft, Ft⟩
      refine ao_let (ao_inr ⟨nI_1 e, ag_fy_tr y (ag_fy_e ft), ao_fe_B ft B, fun k h1 h2 => (ft.1 k h1 h2).trans (f k h1 h2), fun e' he' => ?_⟩)
      by_cases q : e' = e
      · subst q; exact Ft
      · obtain ⟨F1, F2⟩ := F e' (by omega)
        exact ⟨fun w hw8 => ao_row_fe (F1 w hw8) ft hN (by omega) (by omega) q, fun how w hw3 => ao_rp_fe (F2 how w hw3) ft hN (by omega) (by omega) q⟩
    · rintro ⟨x, s⟩ ⟨e1, y, B, f, F⟩
      have e1 : x = nI (ag_X (ap_gr Ψ)) := e1
      subst e1
      have B : ag_B s (ap_gr Ψ) := B
      show ao_ok (m_Rf_lay_B40 s (nI (ag_X (ap_gr Ψ)))) _
      unfold m_Rf_lay_B40
      rw [show (2 : Int32) = nI 2 from rfl, aw_bd_s (ag_get (by decide)), B.2.2.2.2.2.2.1, if_pos (nI_le (Nat.le_refl _) (by omega))]
      exact ao_inl ⟨y, B, f, F⟩
    · rintro s8 ⟨y8, B8, f8, F8⟩
      refine ao_bd (ao_imp (ag_layLive hg B8) ?_)
      rintro s9 ⟨c9, l9⟩
      have B9 := ag_one_B c9 (by decide) B8
      have y9 := ag_fy_tr y8 (ag_fy_1 c9 (by decide))
      refine ao_bd (ao_imp (ag_layOver (Γ := ap_gr Ψ) B9.1) ?_)
      rintro s10 ⟨c10, o10⟩
      have B10 := ag_two_B c10 (by decide) (by decide) B9
      have y10 := ag_fy_tr y9 (ag_fy_2 c10)
      refine ao_bd (ao_imp (ag_layDeep B10.1 o10) ?_)
      rintro s11 ⟨c11, d11, h11⟩
      have B11 : ag_B s11 (ap_gr Ψ) := ag_B_fr B10 (c11.2.2 14 (by decide)) (c11.2.1 1 (by decide) (by decide) (by decide)) (c11.2.1 4 (by decide) (by decide) (by decide)) (c11.2.1 5 (by decide) (by decide) (by decide)) (c11.2.1 6 (by decide) (by decide) (by decide)) (c11.2.1 7 (by decide) (by decide) (by decide))
      have e12 : s11.1 12 = s8.1 12 := (c11.2.1 12 (by decide) (by decide) (by decide)).trans ((c10.2 12 (by decide) (by decide)).trans (c9.2 12 (by decide)))
      have e13 : s11.1 13 = s8.1 13 := (c11.2.1 13 (by decide) (by decide) (by decide)).trans ((c10.2 13 (by decide) (by decide)).trans (c9.2 13 (by decide)))
      have e0 : ∀ j, j ≠ 54 → s11.1 0 j = s7.1 0 j := fun j hj => (c11.2.2 j hj).trans ((congrFun (c10.2 0 (by decide) (by decide)) j).trans ((congrFun (c9.2 0 (by decide)) j).trans (congrFun (f8 0 (by decide) (by decide)) j)))
      refine ao_some ⟨ag_fy_tr y10 (ag_fy_d c11), ⟨B11, fun e he => ⟨fun w hw8 n hn => (congrFun e12 _).trans ((F8 e he).1 w hw8 n hn), fun how w hw3 n hn => (congrFun e13 _).trans ((F8 e he).2 how w hw3 n hn)⟩, fun n hn v hv => ?_, fun v n hv hn => ?_, d11, h11, fun n hn => ?_, (e0 16 (by decide)).trans so7, (e0 15 (by decide)).trans p7⟩, (e0 34 (by decide)).trans w7⟩
      · rw [c11.2.1 36 (by decide) (by decide) (by decide), c10.2 36 (by decide) (by decide)]
        exact l9 n hn v hv
      · rw [c11.2.1 37 (by decide) (by decide) (by decide)]
        exact o10 v n hv hn
      · rw [c11.2.1 8 (by decide) (by decide) (by decide), c10.2 8 (by decide) (by decide), c9.2 8 (by decide), f8 8 (by decide) (by decide)]
        exact k7 n hn

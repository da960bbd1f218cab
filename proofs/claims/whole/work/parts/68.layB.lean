/-! ===== the reference: all nodes, their edges ===== -/
theorem ap_get0 {s : aw_S} {k : Nat} (h : k < 1700) {x : Int32} (e : s.1 1 (0 + k) = x) : m_Rf_get s (nI k) = some x := by
  rw [ag_get h, ← e, Nat.zero_add]
set_option maxHeartbeats 4000000 in
theorem ap_layNodes1 {σ : aw_S} {Ψ : ap_T} (hw : ap_wf Ψ) (h : ap_row σ 0 Ψ) (hc : ∀ b, b < ap_B Ψ → σ.1 9 b = ao_b (ap_RB Ψ b)) {k : aw_S → Option aw_S} {Q : aw_S → Prop}
    (hk : ∀ s, ap_fg σ s → s.1 0 14 = nI (ap_N0 Ψ) → (∀ m, m < ap_N0 Ψ → ap_nd s Ψ m) → (∀ m, m < 2 * ap_N0 Ψ → s.1 7 m = -1) → (∀ b, b < ap_B Ψ → ap_RB Ψ b → s.1 10 b = nI (ap_bg Ψ b)) → ao_ok (k s) Q) :
    ao_ok (aw_lt (aw_sI σ 0 14 ((0 : Int32))) (fun s1 => aw_bd (m_Rf_layNode s1 ((0 : Int32)) ((-1 : Int32)) ((-1 : Int32))) (fun s4 => aw_bd (aw_lp (fun s => m_Rf_layNodes_B14 s.2 s.1) aw_fu ((0 : Int32), s4)) k))) Q := by
  have hB := hw.2.1
  have hS := hw.2.2.1
  have h77 := ap_N0_le hw
  have R_ : ∀ s, ap_fg σ s → ap_row s 0 Ψ := fun s hs => ap_row_fr h (hs.2.1 1 (by omega) (by omega) (by omega) (by omega) (by omega) (by omega))
  refine ao_let (ao_bd (ao_imp (ap_addNode (σ := σ) (Ψ := Ψ) (n := 0) (by omega) ap_fg_n (ao_sI_s _ _ _ _) (fun m hm => absurd hm (Nat.not_lt_zero _)) (fun m hm => absurd hm (Nat.not_lt_zero _)) (by rw [ap_li_none (Or.inl rfl)]; rfl) (by rw [ap_li_none (Or.inl rfl)]; rfl) (by rw [ap_li_none (Or.inl rfl)]; rfl)) ?_))
  rintro s0 ⟨f0, n0, d0, z0, _⟩
  refine ao_bd (ao_imp (ao_for (Q := fun s => ap_fg σ s ∧ s.1 0 14 = nI (ap_N0 Ψ) ∧ (∀ m, m < ap_N0 Ψ → ap_nd s Ψ m) ∧ (∀ m, m < 2 * ap_N0 Ψ → s.1 7 m = -1) ∧ (∀ b, b < ap_B Ψ → ap_RB Ψ b → s.1 10 b = nI (ap_bg Ψ b))) (ap_B Ψ) (fun b (s : Int32 × aw_S) => s.1 = nI b ∧ ap_fg σ s.2 ∧ s.2.1 0 14 = nI (ap_bg Ψ b) ∧ (∀ m, m < ap_bg Ψ b → ap_nd s.2 Ψ m) ∧ (∀ m, m < 2 * ap_bg Ψ b → s.2.1 7 m = -1) ∧ (∀ a, a < b → ap_RB Ψ a → s.2.1 10 a = nI (ap_bg Ψ a))) (a := 0) ⟨rfl, f0, n0, d0, z0, fun a ha => absurd ha (Nat.not_lt_zero _)⟩ (Nat.zero_le _) (by omega) ?_ ?_) ?_)
  · rintro b ⟨x, s⟩ hb ⟨e1, f, n, d, z, g⟩
    have e1 : x = nI b := e1
    subst e1
    have f : ap_fg σ s := f
    have n : s.1 0 14 = nI (ap_bg Ψ b) := n
    have d : ∀ m, m < ap_bg Ψ b → ap_nd s Ψ m := d
    have z : ∀ m, m < 2 * ap_bg Ψ b → s.1 7 m = -1 := z
    have g : ∀ a, a < b → ap_RB Ψ a → s.1 10 a = nI (ap_bg Ψ a) := g
    have R := R_ s f
    have hc' : s.1 9 b = ao_b (ap_RB Ψ b) := (congrFun (f.2.1 9 (by omega) (by omega) (by omega) (by omega) (by omega) (by omega)) b).trans (hc b hb)
    have hbg := ap_bg_mono (Ψ := Ψ) (show b + 1 ≤ ap_B Ψ by omega)
    have hfr := hw.2.2.2.2.1 b hb
    have hfrS := ap_fr_mono hw (show b + 1 ≤ ap_B Ψ by omega) (Nat.le_refl _)
    rw [hw.2.2.2.2.2.1] at hfrS
    show ao_ok (m_Rf_layNodes_B14 s (nI b)) _
    unfold m_Rf_layNodes_B14
    rw [show (0 : Int32) = nI 0 from rfl, aw_bd_s (ap_get0 (by omega) R.1), if_neg (nI_ge hb (by omega)), ao_gdn (by omega) (by omega), nI_clamp (by omega), hc']
    by_cases q : ap_RB Ψ b
    · rw [ap_bg_s1 q] at hbg
      unfold ap_N0 at h77
      refine ao_ifn (by rw [ao_b1 q]; decide) ?_
      rw [ao_gdn (by omega) (by omega), n]
      refine ao_let ?_
      have f1 : ap_fg σ (aw_sI s 10 b (nI (ap_bg Ψ b))) := ap_fg_tr f (ap_fg_s (by omega))
      have R1 := R_ _ f1
      rw [show (184 : Int32) = nI 184 from rfl, nI_add]
      refine ao_bde (ap_get0 (by omega) (R1.2.2.2.2.1 b (by omega))) ?_
      refine ao_bd (ao_imp (ao_for (Q := fun t => ap_fg σ t ∧ t.1 0 14 = nI (ap_bg Ψ b + ap_len Ψ b) ∧ (∀ m, m < ap_bg Ψ b + ap_len Ψ b → ap_nd t Ψ m) ∧ (∀ m, m < 2 * (ap_bg Ψ b + ap_len Ψ b) → t.1 7 m = -1) ∧ t.1 10 = (aw_sI s 10 b (nI (ap_bg Ψ b))).1 10) (ap_fr Ψ (b + 1)) (fun i (t : Int32 × aw_S) => t.1 = nI i ∧ ap_fr Ψ b ≤ i ∧ ap_fg σ t.2 ∧ t.2.1 0 14 = nI (ap_bg Ψ b + (i - ap_fr Ψ b)) ∧ (∀ m, m < ap_bg Ψ b + (i - ap_fr Ψ b) → ap_nd t.2 Ψ m) ∧ (∀ m, m < 2 * (ap_bg Ψ b + (i - ap_fr Ψ b)) → t.2.1 7 m = -1) ∧ t.2.1 10 = (aw_sI s 10 b (nI (ap_bg Ψ b))).1 10) (a := ap_fr Ψ b) ⟨rfl, Nat.le_refl _, f1, ?_, fun m hm => ?_, fun m hm => ?_, rfl⟩ hfr (by omega) ?_ ?_) ?_)
      · rw [Nat.sub_self]; exact (congrFun (ao_sI_o (by omega)) 14).trans n
      · have := d m (by omega)
        unfold ap_nd at this ⊢
        show (aw_sI s 10 b _).1 4 m = _ ∧ (aw_sI s 10 b _).1 5 m = _ ∧ (aw_sI s 10 b _).1 6 m = _
        rw [ao_sI_o (show (4 : Nat) ≠ 10 by omega), ao_sI_o (show (5 : Nat) ≠ 10 by omega), ao_sI_o (show (6 : Nat) ≠ 10 by omega)]
        exact this
      · exact (congrFun (ao_sI_o (by omega)) m).trans (z m (by omega))
      · rintro i ⟨y, t⟩ hi ⟨e1, hlo, ft, nt, dt, zt, gt⟩
        have e1 : y = nI i := e1
        subst e1
        have Rt := R_ t ft
        have hl := ap_li_s hw hb q hlo hi
        have hiS : i < ap_S Ψ := by omega
        show ao_ok (m_Rf_layNodes_B55 t (nI b) (nI i)) _
        unfold m_Rf_layNodes_B55
        rw [show (184 : Int32) = nI 184 from rfl, nI_add, nI_1, show (4 : Int32) = nI 4 from rfl, nI_add]
        refine ao_bde (ap_get0 (k := 184 + b + 1) (by omega) (Rt.2.2.2.2.1 (b + 1) (by omega))) (ao_ifn (nI_ge hi (by omega)) (ao_bde (ap_get0 (by omega) (Rt.2.2.2.1 i hiS).1) ?_))
        refine ao_bd (ao_imp (ap_addNode (σ := σ) (Ψ := Ψ) (n := ap_bg Ψ b + (i - ap_fr Ψ b)) (by omega) ft nt dt zt (by rw [hl]; rfl) (by rw [hl]; rfl) (by rw [hl]; rfl)) ?_)
        rintro u ⟨fu, nu, du, zu, gu⟩
        refine ao_let (ao_inr ⟨nI_1 i, by omega, fu, ?_, fun m hm => du m (by omega), fun m hm => zu m (by omega), gu.trans gt⟩)
        rw [show ap_bg Ψ b + (i + 1 - ap_fr Ψ b) = ap_bg Ψ b + (i - ap_fr Ψ b) + 1 by omega]
        exact nu
      · rintro ⟨y, t⟩ ⟨e1, hlo, ft, nt, dt, zt, gt⟩
        have e1 : y = nI (ap_fr Ψ (b + 1)) := e1
        subst e1
        have Rt := R_ t ft
        show ao_ok (m_Rf_layNodes_B55 t (nI b) (nI (ap_fr Ψ (b + 1)))) _
        unfold m_Rf_layNodes_B55
        rw [show (184 : Int32) = nI 184 from rfl, nI_add, nI_1]
        exact ao_bde (ap_get0 (k := 184 + b + 1) (by omega) (Rt.2.2.2.2.1 (b + 1) (by omega))) (ao_ifp (nI_le (Nat.le_refl _) (by omega)) (ao_inl ⟨ft, nt, dt, zt, gt⟩))
      · rintro t ⟨ft, nt, dt, zt, gt⟩
        have Rt := R_ t ft
        have hl := ap_li_e hb q
        have hlen : ap_len Ψ b = ap_fr Ψ (b + 1) - ap_fr Ψ b := rfl
        rw [show (204 : Int32) = nI 204 from rfl, nI_add]
        refine ao_bde (ap_get0 (by omega) (Rt.2.2.2.2.2.1 b hb).1) ?_
        refine ao_bd (ao_imp (ap_addNode (σ := σ) (Ψ := Ψ) (n := ap_bg Ψ b + ap_len Ψ b) (by omega) ft nt dt zt (by rw [hl]; rfl) (by rw [hl]; rfl) (by rw [hl]; rfl)) ?_)
        rintro u ⟨fu, nu, du, zu, gu⟩
        have ebg : ap_bg Ψ (b + 1) = ap_bg Ψ b + ap_len Ψ b + 1 := by rw [ap_bg_s1 q]; omega
        refine ao_let (ao_inr ⟨nI_1 b, fu, by rw [ebg]; exact nu, fun m hm => du m (by rw [ebg] at hm; exact hm), fun m hm => zu m (by rw [ebg] at hm; exact hm), fun a ha hra => ?_⟩)
        show u.1 10 a = _
        rw [gu, gt]
        by_cases qa : a = b
        · subst qa; exact ao_sI_s _ _ _ _
        · rw [ao_sI_i qa]; exact g a (by omega) hra
    · refine ao_ifp (ao_b0 q) (ao_let (ao_inr ⟨nI_1 b, f, by rw [ap_bg_s0 q]; exact n, fun m hm => d m (by rw [ap_bg_s0 q] at hm; exact hm), fun m hm => z m (by rw [ap_bg_s0 q] at hm; exact hm), fun a ha hra => ?_⟩))
      by_cases qa : a = b
      · subst qa; exact absurd hra q
      · exact g a (by omega) hra
  · rintro ⟨x, s⟩ ⟨e1, f, n, d, z, g⟩
    have e1 : x = nI (ap_B Ψ) := e1
    subst e1
    show ao_ok (m_Rf_layNodes_B14 s (nI (ap_B Ψ))) _
    unfold m_Rf_layNodes_B14
    rw [show (0 : Int32) = nI 0 from rfl, aw_bd_s (ap_get0 (by omega) (R_ s f).1), if_pos (nI_le (Nat.le_refl _) (by omega))]
    exact ao_inl ⟨f, n, d, z, g⟩
  · rintro s ⟨f, n, d, z, g⟩
    exact hk s f n d z g
set_option maxHeartbeats 4000000 in
theorem ap_layNodes {σ : aw_S} {Ψ : ap_T} (hw : ap_wf Ψ) (h : ap_row σ 0 Ψ) (hc : ∀ b, b < ap_B Ψ → σ.1 9 b = ao_b (ap_RB Ψ b)) : ao_ok (m_Rf_layNodes σ) (fun s => ap_fg σ s ∧ s.1 0 14 = nI (ap_N0 Ψ) ∧ (∀ m, m < ap_N0 Ψ → ap_nd s Ψ m) ∧ ∀ m, m < 2 * ap_N0 Ψ → s.1 7 m = ao_o (ap_x0 Ψ m)) := by
  have hB := hw.2.1
  have hS := hw.2.2.1
  have h77 := ap_N0_le hw
  have hB0 := hw.1
  have hN0 : 0 < ap_N0 Ψ := ap_bg_pos
  have R_ : ∀ s, ap_fg σ s → ap_row s 0 Ψ := fun s hs => ap_row_fr h (hs.2.1 1 (by omega) (by omega) (by omega) (by omega) (by omega) (by omega))
  unfold m_Rf_layNodes
  refine ap_layNodes1 hw h hc (fun s f n d z g => ?_)
  rw [show (0 : Int32) = nI 0 from rfl, ao_gdn (by omega) (by omega), ao_gdn (by omega) (by omega), nI_clamp (by omega), g 0 hB0 (ap_RB_0 Ψ hB0)]
  refine ao_let (ao_bd (ao_for (Q := fun (s : aw_S) => ao_ok (some s) (fun s => ap_fg σ s ∧ s.1 0 14 = nI (ap_N0 Ψ) ∧ (∀ m, m < ap_N0 Ψ → ap_nd s Ψ m) ∧ ∀ m, m < 2 * ap_N0 Ψ → s.1 7 m = ao_o (ap_x0 Ψ m))) (ap_N0 Ψ) (fun i (t : Int32 × aw_S) => t.1 = nI i ∧ 0 < i ∧ ap_fg σ t.2 ∧ t.2.1 0 14 = nI (ap_N0 Ψ) ∧ (∀ m, m < ap_N0 Ψ → ap_nd t.2 Ψ m) ∧ (∀ b, b < ap_B Ψ → ap_RB Ψ b → t.2.1 10 b = nI (ap_bg Ψ b)) ∧ ∀ m, m < 2 * ap_N0 Ψ → t.2.1 7 m = if m < 2 * i then ao_o (ap_x0 Ψ m) else -1) (a := 1) ⟨rfl, by omega, ap_fg_tr f (ap_fg_s (by omega)), (congrFun (ao_sI_o (by omega)) 14).trans n, fun m hm => ?_, fun b hb hr => (congrFun (ao_sI_o (by omega)) b).trans (g b hb hr), fun m hm => ?_⟩ hN0 (by omega) ?_ ?_))
  · have := d m hm
    unfold ap_nd at this ⊢
    show (aw_sI s 7 0 _).1 4 m = _ ∧ (aw_sI s 7 0 _).1 5 m = _ ∧ (aw_sI s 7 0 _).1 6 m = _
    rw [ao_sI_o (show (4 : Nat) ≠ 7 by omega), ao_sI_o (show (5 : Nat) ≠ 7 by omega), ao_sI_o (show (6 : Nat) ≠ 7 by omega)]
    exact this
  · show (aw_sI s 7 0 _).1 7 m = _
    by_cases q : m = 0
    · subst q; rw [ao_sI_s, if_pos (by omega)]; rfl
    · rw [ao_sI_i q, z m hm]
      by_cases q1 : m = 1
      · subst q1; rw [if_pos (by omega)]; rfl
      · rw [if_neg (by omega)]
  · rintro i ⟨y, t⟩ hi ⟨e1, h0, ft, nt, dt, gt, zt⟩
    have e1 : y = nI i := e1
    subst e1
    have ft : ap_fg σ t := ft
    have nt : t.1 0 14 = nI (ap_N0 Ψ) := nt
    have dt : ∀ m, m < ap_N0 Ψ → ap_nd t Ψ m := dt
    have gt : ∀ b, b < ap_B Ψ → ap_RB Ψ b → t.1 10 b = nI (ap_bg Ψ b) := gt
    have zt : ∀ m, m < 2 * ap_N0 Ψ → t.1 7 m = if m < 2 * i then ao_o (ap_x0 Ψ m) else -1 := zt
    have Rt := R_ t ft
    -- what stands when the two places of i are right
    have fin : ∀ u : aw_S, ap_fg σ u → (∀ k, k ≠ 7 → u.1 k = t.1 k) → (∀ m, m ≠ 2 * i → m ≠ 2 * i + 1 → u.1 7 m = t.1 7 m) → u.1 7 (2 * i) = ao_o (ap_x0 Ψ (2 * i)) → u.1 7 (2 * i + 1) = ao_o (ap_x0 Ψ (2 * i + 1)) → ao_ok (m_Rf_layNodes_J167 u (nI i)) (Sum.elim (fun (s : aw_S) => ao_ok (some s) (fun s => ap_fg σ s ∧ s.1 0 14 = nI (ap_N0 Ψ) ∧ (∀ m, m < ap_N0 Ψ → ap_nd s Ψ m) ∧ ∀ m, m < 2 * ap_N0 Ψ → s.1 7 m = ao_o (ap_x0 Ψ m))) (fun (t : Int32 × aw_S) => t.1 = nI (i + 1) ∧ 0 < i + 1 ∧ ap_fg σ t.2 ∧ t.2.1 0 14 = nI (ap_N0 Ψ) ∧ (∀ m, m < ap_N0 Ψ → ap_nd t.2 Ψ m) ∧ (∀ b, b < ap_B Ψ → ap_RB Ψ b → t.2.1 10 b = nI (ap_bg Ψ b)) ∧ ∀ m, m < 2 * ap_N0 Ψ → t.2.1 7 m = if m < 2 * (i + 1) then ao_o (ap_x0 Ψ m) else -1)) := by
      intro u fu hu hu7 u0 u1
      refine ao_let (ao_inr ⟨nI_1 i, by omega, fu, (congrFun (hu 0 (by omega)) 14).trans nt, fun m hm => ?_, fun b hb hr => (congrFun (hu 10 (by omega)) b).trans (gt b hb hr), fun m hm => ?_⟩)
      · have := dt m hm
        unfold ap_nd at this ⊢
        show u.1 4 m = _ ∧ u.1 5 m = _ ∧ u.1 6 m = _
        rw [hu 4 (by omega), hu 5 (by omega), hu 6 (by omega)]
        exact this
      · show u.1 7 m = _
        by_cases q0 : m = 2 * i
        · rw [q0, u0, if_pos (by omega)]
        · by_cases q1 : m = 2 * i + 1
          · rw [q1, u1, if_pos (by omega)]
          · rw [hu7 m q0 q1, zt m hm]
            by_cases q : m < 2 * i
            · rw [if_pos q, if_pos (by omega)]
            · rw [if_neg q, if_neg (by omega)]
    have z0 : t.1 7 (2 * i) = -1 := (zt (2 * i) (by omega)).trans (if_neg (by omega))
    have z1 : t.1 7 (2 * i + 1) = -1 := (zt (2 * i + 1) (by omega)).trans (if_neg (by omega))
    show ao_ok (m_Rf_layNodes_B124 t (nI i)) _
    unfold m_Rf_layNodes_B124
    rw [nt, if_neg (nI_ge hi (by omega)), ao_gdn (by omega) (by omega), nI_clamp (by omega), (dt i hi).1]
    rcases ap_li_ex hw h0 hi with ⟨b, s', hb, hr, hs1, hs2, hn, hl⟩ | ⟨b, hb, hr, hn, hl⟩
    · obtain ⟨x1, x2⟩ := ap_x0_s h0 hl
      have hsk : ap_sk Ψ s' < 4 ∧ 0 < ap_sk Ψ s' := by
        rcases hw.2.2.2.2.2.2.1 s' (ap_s_lt hw hb hs2) with z | z | z <;> have := z.1 <;> omega
      rw [hl]
      refine ao_ifn (show ¬ (4 : Int32) ≤ nI (ap_sk Ψ s') from nI_ge (b := 4) hsk.1 (by omega)) ?_
      rw [ao_mul2, ao_gdn (by omega) (by omega), nI_clamp (by omega), nI_1]
      refine ao_let (fin _ (ap_fg_tr ft (ap_fg_s (by omega))) (fun k hk => ao_sI_o hk) (fun m hm _ => ao_sI_i hm) ?_ ?_)
      · rw [ao_sI_s, x1]; rfl
      · rw [ao_sI_i (by omega), z1, x2]; rfl
    · obtain ⟨x1, x2⟩ := ap_x0_e h0 hl
      have hek := hw.2.2.2.2.2.2.2.1 b hb
      have hek4 : 4 ≤ ap_ek Ψ b ∧ ap_ek Ψ b < 7 := by
        rcases hek with z | z | z <;> have := z.1 <;> omega
      rw [hl]
      refine ao_ifp (show (4 : Int32) ≤ nI (ap_ek Ψ b) from nI_le (a := 4) hek4.1 (by omega)) ?_
      rw [ao_gdn (by omega) (by omega), (dt i hi).2.1, hl, show ao_o ((some (b, (none : Option Nat))).map (fun q => q.1)) = nI b from rfl]
      have e204 : m_Rf_get t (nI 204 + nI b) = some (nI (ap_ek Ψ b)) := by rw [nI_add]; exact ap_get0 (by omega) (Rt.2.2.2.2.2.1 b hb).1
      have e236 : ∀ u, u.1 1 = t.1 1 → m_Rf_get u (nI 236 + nI (2 * b)) = some (ao_o (ap_e1 Ψ b)) := fun u hu => by rw [nI_add]; exact ap_get0 (by omega) ((congrFun hu _).trans (Rt.2.2.2.2.2.1 b hb).2.2.1)
      have e237 : ∀ u, u.1 1 = t.1 1 → m_Rf_get u (nI 236 + nI (2 * b) + 1) = some (ao_o (ap_e2 Ψ b)) := fun u hu => by rw [nI_add, nI_1]; exact ap_get0 (by omega) (by rw [show 0 + (236 + 2 * b + 1) = 0 + (237 + 2 * b) by omega]; exact (congrFun hu _).trans (Rt.2.2.2.2.2.1 b hb).2.2.2)
      have hend : ao_ok (m_Rf_layEnd t (nI i) (nI b)) (fun u => ap_fg σ u ∧ (∀ k, k ≠ 7 → u.1 k = t.1 k) ∧ (∀ m, m ≠ 2 * i → m ≠ 2 * i + 1 → u.1 7 m = t.1 7 m) ∧ u.1 7 (2 * i) = ao_o (ap_x0 Ψ (2 * i)) ∧ u.1 7 (2 * i + 1) = ao_o (ap_x0 Ψ (2 * i + 1))) := by
        unfold m_Rf_layEnd
        rw [show (204 : Int32) = nI 204 from rfl, show (236 : Int32) = nI 236 from rfl, ao_mul2]
        refine ao_bde e204 ?_
        by_cases q6 : ap_ek Ψ b = 6
        · refine ao_ifp (by rw [q6]; rfl) (ao_some ⟨ft, fun _ _ => rfl, fun _ _ _ => rfl, ?_, ?_⟩)
          · rcases hek with z | z | z
            · omega
            · omega
            · rw [z0, x1, z.2.2.1]; rfl
          · rcases hek with z | z | z
            · omega
            · omega
            · rw [z1, x2, z.2.2.2, z.2.2.1, if_pos rfl]; rfl
        · have h1 : ∃ t1, t1 < ap_B Ψ ∧ ap_e1 Ψ b = some t1 := by
            rcases hek with z | z | z
            · exact z.2.2.1
            · exact z.2.2.1
            · exact absurd z.1 q6
          obtain ⟨t1, ht1, et1⟩ := h1
          have r1 := ap_RB_s hb ht1 hr (Or.inl et1)
          refine ao_ifn (fun z => q6 ((nI_eq (by omega) (b := 6) (by omega)).mp z)) (ao_bde (e236 t rfl) ?_)
          rw [et1, show ao_o (some t1) = nI t1 from rfl, ao_gdn (by omega) (by omega), ao_mul2, ao_gdn (by omega) (by omega), nI_clamp (by omega), nI_clamp (by omega), gt t1 ht1 r1]
          refine ao_let ?_
          have hu1 : (aw_sI t 7 (2 * i) (nI (ap_bg Ψ t1))).1 1 = t.1 1 := ao_sI_o (by omega)
          have fu := ap_fg_tr ft (ap_fg_s (σ := t) (c := 7) (n := 2 * i) (v := nI (ap_bg Ψ t1)) (by omega))
          refine ao_bde (e237 _ hu1) ?_
          have x1' : ao_o (ap_x0 Ψ (2 * i)) = nI (ap_bg Ψ t1) := by rw [x1, et1]; rfl
          cases q2 : ap_e2 Ψ b with
          | none =>
            refine ao_ifp rfl (ao_some ⟨fu, fun k hk => ao_sI_o hk, fun m hm _ => ao_sI_i hm, (ao_sI_s _ _ _ _).trans x1'.symm, ?_⟩)
            rw [ao_sI_i (by omega), z1, x2, q2, et1, if_neg (by simp)]; rfl
          | some t2 =>
            have ht2 := ap_tB hw hb (Or.inr q2)
            have r2 := ap_RB_s hb ht2 hr (Or.inr q2)
            refine ao_ifn (ao_m1 (by omega)) (ao_bde (e236 _ hu1) ?_)
            rw [et1, show ao_o (some t1) = nI t1 from rfl, show ao_o (some t2) = nI t2 from rfl]
            by_cases q3 : t2 = t1
            · refine ao_ifp (by rw [q3]) (ao_some ⟨fu, fun k hk => ao_sI_o hk, fun m hm _ => ao_sI_i hm, (ao_sI_s _ _ _ _).trans x1'.symm, ?_⟩)
              rw [ao_sI_i (by omega), z1, x2, q2, et1, q3, if_pos rfl]; rfl
            · refine ao_ifn (fun z => q3 ((nI_eq (by omega) (by omega)).mp z)) ?_
              rw [ao_gdn (by omega) (by omega), nI_1, ao_gdn (by omega) (by omega), nI_clamp (by omega), nI_clamp (by omega), ao_sI_o (show (10 : Nat) ≠ 7 by omega), gt t2 ht2 r2]
              refine ao_let (ao_some ⟨ap_fg_tr fu (ap_fg_s (by omega)), fun k hk => (ao_sI_o hk).trans (ao_sI_o hk), fun m hm hm1 => (ao_sI_i hm1).trans (ao_sI_i hm), ?_, ?_⟩)
              · rw [ao_sI_i (by omega), ao_sI_s, x1']
              · rw [ao_sI_s, x2, q2, et1, if_neg (fun z => q3 (Option.some.inj z))]; rfl
      refine ao_bd (ao_imp hend ?_)
      rintro u ⟨g1, g2, g3, g4, g5⟩
      exact fin u g1 g2 g3 g4 g5
  · rintro ⟨y, t⟩ ⟨e1, h0, ft, nt, dt, gt, zt⟩
    have e1 : y = nI (ap_N0 Ψ) := e1
    subst e1
    show ao_ok (m_Rf_layNodes_B124 t (nI (ap_N0 Ψ))) _
    unfold m_Rf_layNodes_B124
    rw [show t.1 0 14 = nI (ap_N0 Ψ) from nt, if_pos (nI_le (Nat.le_refl _) (by omega))]
    exact ao_inl (ao_some ⟨ft, nt, dt, fun m hm => (zt m hm).trans (if_pos hm)⟩)

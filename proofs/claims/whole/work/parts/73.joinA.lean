/-! ===== the class: edges ahead of the splitting ===== -/
def ap_JI (s0 : aw_S) (Ψ : ap_T) (n : Nat) (s : aw_S) : Prop := s.2 = s0.2 ∧ (∀ c, c ≠ 36 → c ≠ 37 → s.1 c = s0.1 c) ∧ (∀ m, m < n → s.1 36 m = ao_o (ap_x0 Ψ (2 * m)) ∧ s.1 37 m = ao_o (ap_x0 Ψ (2 * m + 1))) ∧ ∀ m, n ≤ m → m < ap_N0 Ψ → s.1 37 m = -1
theorem ap_start {s : aw_S} {Ψ : ap_T} (hw : ap_wf Ψ) (t40 : ∀ b, b < ap_B Ψ → ap_RB Ψ b → s.1 40 b = nI (ap_bg Ψ b)) {x : Option Nat} (hx : ∀ b, x = some b → b < ap_B Ψ ∧ ap_RB Ψ b) : m_Gr_startOf s (ao_o x) = some (ao_o (x.map (ap_bg Ψ))) := by
  have hB := hw.2.1
  unfold m_Gr_startOf
  cases x with
  | none => rw [if_pos (show ao_o none < 0 from ao_neg1)]; rfl
  | some b =>
    obtain ⟨h1, h2⟩ := hx b rfl
    rw [show ao_o (some b) = nI b from rfl, if_neg (nI_pos (by omega)), if_neg (show ¬ (16 : Int32) ≤ nI b from nI_ge (b := 16) (by omega) (by omega)), ao_gdn (by omega) (by omega), nI_clamp (by omega), t40 b h1 h2]
    rfl
set_option maxHeartbeats 4000000 in
theorem ap_join {s0 : aw_S} {Ψ : ap_T} (hw : ap_wf Ψ) (n0 : s0.1 24 13 = nI (ap_N0 Ψ)) (d0 : ∀ m, m < ap_N0 Ψ → ap_na s0 Ψ m ∧ s0.1 37 m = -1) (t0 : ∀ b, b < ap_B Ψ → ap_RB Ψ b → s0.1 40 b = nI (ap_bg Ψ b)) : ao_ok (m_Gr_joinNodes s0) (fun s => ap_JI s0 Ψ (ap_N0 Ψ) s) := by
  have hB := hw.2.1
  have hB0 := hw.1
  have h77 := ap_N0_le hw
  have hN2 := ap_bg_lt hB0 (ap_RB_0 Ψ hB0)
  have b0 : ap_bg Ψ 0 = 1 := rfl
  rw [b0] at hN2
  unfold m_Gr_joinNodes
  refine ao_bd (ao_imp (ao_for (Q := fun s => ap_JI s0 Ψ (ap_N0 Ψ) s) (ap_N0 Ψ) (fun n (s : Int32 × aw_S) => s.1 = nI n ∧ ap_JI s0 Ψ n s.2) (a := 0) ⟨rfl, rfl, fun _ _ _ => rfl, fun m hm => absurd hm (Nat.not_lt_zero _), fun m _ hm => (d0 m hm).2⟩ (Nat.zero_le _) (by omega) ?_ ?_) (fun s hs => ao_some hs))
  · rintro n ⟨x, s⟩ hn ⟨e1, l, f, e, z⟩
    have e1 : x = nI n := e1
    subst e1
    have l : s.2 = s0.2 := l
    have f : ∀ c, c ≠ 36 → c ≠ 37 → s.1 c = s0.1 c := f
    have e : ∀ m, m < n → s.1 36 m = ao_o (ap_x0 Ψ (2 * m)) ∧ s.1 37 m = ao_o (ap_x0 Ψ (2 * m + 1)) := e
    have z : ∀ m, n ≤ m → m < ap_N0 Ψ → s.1 37 m = -1 := z
    have e13 : s.1 24 13 = nI (ap_N0 Ψ) := (congrFun (f 24 (by omega) (by omega)) 13).trans n0
    obtain ⟨D29, _, _, _, _, D34, D35⟩ := (d0 n hn).1
    have e29 : s.1 29 n = nI (ap_nk Ψ (ap_li Ψ n)) := (congrFun (f 29 (by omega) (by omega)) n).trans D29
    have e34 : s.1 34 n = ao_o (ap_n1 Ψ (ap_li Ψ n)) := (congrFun (f 34 (by omega) (by omega)) n).trans D34
    have e35 : s.1 35 n = ao_o (ap_n2 Ψ (ap_li Ψ n)) := (congrFun (f 35 (by omega) (by omega)) n).trans D35
    have t40 : ∀ b, b < ap_B Ψ → ap_RB Ψ b → s.1 40 b = nI (ap_bg Ψ b) := fun b hb hr => (congrFun (f 40 (by omega) (by omega)) b).trans (t0 b hb hr)
    have fin : ∀ u : aw_S, u.2 = s.2 → (∀ c, c ≠ 36 → c ≠ 37 → u.1 c = s.1 c) → (∀ c m, m ≠ n → u.1 c m = s.1 c m) → u.1 36 n = ao_o (ap_x0 Ψ (2 * n)) → u.1 37 n = ao_o (ap_x0 Ψ (2 * n + 1)) → ao_ok (m_Gr_joinNodes_J97 u (nI n)) (Sum.elim (fun s => ap_JI s0 Ψ (ap_N0 Ψ) s) (fun (s : Int32 × aw_S) => s.1 = nI (n + 1) ∧ ap_JI s0 Ψ (n + 1) s.2)) := by
      intro u h1 h2 h3 h4 h5
      refine ao_let (ao_inr ⟨nI_1 n, h1.trans l, fun c p q => (h2 c p q).trans (f c p q), fun m hm => ?_, fun m p q => (h3 37 m (by omega)).trans (z m (by omega) q)⟩)
      by_cases q : m = n
      · rw [q]; exact ⟨h4, h5⟩
      · exact ⟨(h3 36 m q).trans (e m (by omega)).1, (h3 37 m q).trans (e m (by omega)).2⟩
    have low : ap_x0 Ψ (2 * n) = some (n + 1) → ap_x0 Ψ (2 * n + 1) = none → n + 1 < ap_N0 Ψ → ao_ok (if nI (ap_N0 Ψ) ≤ nI n + (1 : Int32) then m_Gr_joinNodes_J42 s (nI n) (nI n) (-1 : Int32) else m_Gr_joinNodes_J42 s (nI n) (nI n) (nI n + (1 : Int32))) (Sum.elim (fun s => ap_JI s0 Ψ (ap_N0 Ψ) s) (fun (s : Int32 × aw_S) => s.1 = nI (n + 1) ∧ ap_JI s0 Ψ (n + 1) s.2)) := by
      intro x1 x2 hlt
      rw [nI_1]
      refine ao_ifn (nI_ge hlt (by omega)) ?_
      unfold m_Gr_joinNodes_J42
      rw [ao_gdn (by omega) (by omega), nI_clamp (show n < 2 ^ 31 by omega)]
      refine ao_let (fin _ rfl (fun c p q => ao_sI_o p) (fun c m hm => ao_sI_i hm) ?_ ?_)
      · rw [ao_sI_s, x1]; rfl
      · rw [ao_sI_o (show (37 : Nat) ≠ 36 by omega), z n (Nat.le_refl _) hn, x2]; rfl
    show ao_ok (m_Gr_joinNodes_B2 s (nI n)) _
    unfold m_Gr_joinNodes_B2
    rw [e13, if_neg (nI_ge hn (by omega)), ao_gdn (by omega) (by omega), nI_clamp (show n < 2 ^ 31 by omega), e29]
    by_cases hn0 : n = 0
    · rw [ap_li_none (Or.inl hn0)]
      refine ao_ifn (show ¬ (4 : Int32) ≤ nI 0 from nI_ge (b := 4) (by omega) (by omega)) (low ?_ ?_ (by omega))
      · rw [hn0]; exact (ap_x0_0 Ψ).1
      · rw [hn0]; exact (ap_x0_0 Ψ).2
    · rcases ap_li_ex hw (show 0 < n by omega) hn with ⟨b, s', hb, hr, hs1, hs2, hnn, hl⟩ | ⟨b, hb, hr, hnn, hl⟩
      · obtain ⟨x1, x2⟩ := ap_x0_s (show 0 < n by omega) hl
        have hsk : ap_sk Ψ s' < 4 := by
          rcases hw.2.2.2.2.2.2.1 s' (ap_s_lt hw hb hs2) with y | y | y <;> have := y.1 <;> omega
        have hlt : n + 1 < ap_N0 Ψ := by
          have := ap_bg_mono (Ψ := Ψ) (show b + 1 ≤ ap_B Ψ by omega)
          rw [ap_bg_s1 hr] at this
          unfold ap_N0
          omega
        rw [hl]
        exact ao_ifn (show ¬ (4 : Int32) ≤ nI (ap_sk Ψ s') from nI_ge (b := 4) hsk (by omega)) (low x1 x2 hlt)
      · obtain ⟨x1, x2⟩ := ap_x0_e (show 0 < n by omega) hl
        have hek : 4 ≤ ap_ek Ψ b ∧ ap_ek Ψ b < 7 := by
          rcases hw.2.2.2.2.2.2.2.1 b hb with y | y | y <;> have := y.1 <;> omega
        have g1 : ∀ t, ap_e1 Ψ b = some t → t < ap_B Ψ ∧ ap_RB Ψ t := fun t ht => ⟨ap_tB hw hb (Or.inl ht), ap_RB_s hb (ap_tB hw hb (Or.inl ht)) hr (Or.inl ht)⟩
        have g2 : ∀ t, ap_e2 Ψ b = some t → t < ap_B Ψ ∧ ap_RB Ψ t := fun t ht => ⟨ap_tB hw hb (Or.inr ht), ap_RB_s hb (ap_tB hw hb (Or.inr ht)) hr (Or.inr ht)⟩
        rw [hl] at e34 e35
        have e34 : s.1 34 n = ao_o (ap_e1 Ψ b) := e34
        have e35 : s.1 35 n = ao_o (ap_e2 Ψ b) := e35
        rw [hl]
        refine ao_ifp (show (4 : Int32) ≤ nI (ap_ek Ψ b) from nI_le (a := 4) hek.1 (by omega)) ?_
        rw [ao_gdn (by omega) (by omega), e34]
        refine ao_bde (ap_start hw t40 g1) ?_
        rw [ao_gdn (by omega) (by omega)]
        refine ao_let (ao_gd (vp_in_nI (by omega) (by omega)) (ao_gd (vp_in_nI (by omega) (by omega)) ?_))
        rw [← x1]
        have u34 : (aw_sI s 36 n (ao_o (ap_x0 Ψ (2 * n)))).1 34 n = ao_o (ap_e1 Ψ b) := (congrFun (ao_sI_o (by omega)) n).trans e34
        have u35 : (aw_sI s 36 n (ao_o (ap_x0 Ψ (2 * n)))).1 35 n = ao_o (ap_e2 Ψ b) := (congrFun (ao_sI_o (by omega)) n).trans e35
        have J : ∀ y, y = ao_o (ap_x0 Ψ (2 * n + 1)) → ao_ok (m_Gr_joinNodes_J96 (aw_sI s 36 n (ao_o (ap_x0 Ψ (2 * n)))) (nI n) (nI n) y) (Sum.elim (fun s => ap_JI s0 Ψ (ap_N0 Ψ) s) (fun (s : Int32 × aw_S) => s.1 = nI (n + 1) ∧ ap_JI s0 Ψ (n + 1) s.2)) := by
          intro y hy
          unfold m_Gr_joinNodes_J96
          rw [ao_gdn (by omega) (by omega), nI_clamp (show n < 2 ^ 31 by omega)]
          refine ao_let (fin _ rfl (fun c p q => (ao_sI_o q).trans (ao_sI_o p)) (fun c m hm => (ao_sI_i hm).trans (ao_sI_i hm)) ?_ ?_)
          · rw [ao_sI_o (show (36 : Nat) ≠ 37 by omega), ao_sI_s]
          · rw [ao_sI_s, hy]
        rw [u34, u35]
        by_cases q : ap_e2 Ψ b = ap_e1 Ψ b
        · refine ao_ifp (by rw [q]) (J _ ?_)
          rw [x2, if_pos q]; rfl
        · refine ao_ifn (fun y => q ((ao_o_inj (fun k hk => by have := (g2 k hk).1; omega) (fun k hk => by have := (g1 k hk).1; omega)).mp y)) ?_
          rw [ao_gdn (by omega) (by omega)]
          refine ao_bde (ap_start hw (fun a ha har => (congrFun (ao_sI_o (by omega)) a).trans (t40 a ha har)) g2) (J _ ?_)
          rw [x2, if_neg q]
  · rintro ⟨x, s⟩ ⟨e1, hJ⟩
    have e1 : x = nI (ap_N0 Ψ) := e1
    subst e1
    have hJ : ap_JI s0 Ψ (ap_N0 Ψ) s := hJ
    show ao_ok (m_Gr_joinNodes_B2 s (nI (ap_N0 Ψ))) _
    unfold m_Gr_joinNodes_B2
    rw [show s.1 24 13 = nI (ap_N0 Ψ) from (congrFun (hJ.2.1 24 (by omega) (by omega)) 13).trans n0, if_pos (nI_le (Nat.le_refl _) (by omega))]
    exact ao_inl hJ

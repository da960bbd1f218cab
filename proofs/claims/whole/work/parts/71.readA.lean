/-! ===== the class's reader holds a program; blocks reached ===== -/
def ap_rl (σ : aw_S) (Ψ : ap_T) (l : Nat) (q : Nat × Option Nat) : Prop := σ.1 15 l = nI (ap_nk Ψ (some q)) ∧ σ.1 16 l = nI q.1 ∧ σ.1 17 l = ao_o (ap_nl Ψ (some q)) ∧ σ.1 18 l = ao_o (ap_nop Ψ (some q)) ∧ σ.1 19 l = ao_o (ap_nex Ψ (some q)) ∧ σ.1 20 l = ao_o (ap_n1 Ψ (some q)) ∧ σ.1 21 l = ao_o (ap_n2 Ψ (some q))
def ap_rd (σ : aw_S) (Ψ : ap_T) : Prop :=
  σ.1 8 11 = nI (ap_S Ψ + ap_B Ψ) ∧ σ.1 8 12 = nI (ap_B Ψ) ∧ σ.1 11 3 = nI (ap_X Ψ) ∧
  (∀ b s, b < ap_B Ψ → ap_fr Ψ b ≤ s → s < ap_fr Ψ (b + 1) → ap_rl σ Ψ (s + b) (b, some s)) ∧
  (∀ b, b < ap_B Ψ → ap_rl σ Ψ (ap_fr Ψ (b + 1) + b) (b, none)) ∧
  ∀ e, e < ap_X Ψ → σ.1 12 e = nI (ap_sg Ψ e) ∧ σ.1 13 e = nI (ap_lf Ψ e) ∧ σ.1 14 e = nI (ap_rt Ψ e)
theorem ap_rd_fr {σ σ' : aw_S} {Ψ : ap_T} (h : ap_rd σ Ψ) (e : ∀ k, k < 24 → σ'.1 k = σ.1 k) : ap_rd σ' Ψ := by
  unfold ap_rd ap_rl at h ⊢
  rw [e 8 (by omega), e 11 (by omega), e 12 (by omega), e 13 (by omega), e 14 (by omega), e 15 (by omega), e 16 (by omega), e 17 (by omega), e 18 (by omega), e 19 (by omega), e 20 (by omega), e 21 (by omega)]
  exact h
theorem ap_ln {Ψ : ap_T} (l : Nat) : ∀ k, l < ap_fr Ψ k + k → ap_fr Ψ 0 = 0 → ∃ b o, b < k ∧ ((∃ s, o = some s ∧ ap_fr Ψ b ≤ s ∧ s < ap_fr Ψ (b + 1) ∧ l = s + b) ∨ (o = none ∧ l = ap_fr Ψ (b + 1) + b)) := by
  intro k
  induction k with
  | zero => intro h h0; rw [h0] at h; omega
  | succ k ih =>
    intro h h0
    by_cases q : l < ap_fr Ψ k + k
    · obtain ⟨b, o, hb, hd⟩ := ih q h0
      exact ⟨b, o, by omega, hd⟩
    · by_cases q2 : l = ap_fr Ψ (k + 1) + k
      · exact ⟨k, none, by omega, Or.inr ⟨rfl, q2⟩⟩
      · exact ⟨k, some (l - k), by omega, Or.inl ⟨l - k, rfl, by omega, by omega, by omega⟩⟩
theorem ap_rd_l {σ : aw_S} {Ψ : ap_T} (hw : ap_wf Ψ) (h : ap_rd σ Ψ) {l : Nat} (hl : l < ap_S Ψ + ap_B Ψ) : ∃ b o, b < ap_B Ψ ∧ ap_rl σ Ψ l (b, o) ∧ ((∃ s, o = some s ∧ ap_fr Ψ b ≤ s ∧ s < ap_fr Ψ (b + 1) ∧ l = s + b) ∨ (o = none ∧ l = ap_fr Ψ (b + 1) + b)) := by
  obtain ⟨b, o, hb, hd⟩ := ap_ln (Ψ := Ψ) l (ap_B Ψ) (by rw [hw.2.2.2.2.2.1]; exact hl) hw.2.2.2.1
  refine ⟨b, o, hb, ?_, hd⟩
  rcases hd with ⟨s, rfl, h1, h2, rfl⟩ | ⟨rfl, rfl⟩
  · exact h.2.2.2.1 b s hb h1 h2
  · exact h.2.2.2.2.1 b hb
theorem ap_end_o {Ψ : ap_T} (hw : ap_wf Ψ) {a b l : Nat} {o : Option Nat} (ha : a < ap_B Ψ) (hb : b < ap_B Ψ) (hl : l = ap_fr Ψ (a + 1) + a) (hd : (∃ s, o = some s ∧ ap_fr Ψ b ≤ s ∧ s < ap_fr Ψ (b + 1) ∧ l = s + b) ∨ (o = none ∧ l = ap_fr Ψ (b + 1) + b)) : a = b ∧ o = none := by
  have m1 : a ≤ b → ap_fr Ψ (a + 1) ≤ ap_fr Ψ (b + 1) := fun q => ap_fr_mono hw (by omega) (by omega)
  have m2 : b ≤ a → ap_fr Ψ (b + 1) ≤ ap_fr Ψ (a + 1) := fun q => ap_fr_mono hw (by omega) (by omega)
  have m3 : a < b → ap_fr Ψ (a + 1) ≤ ap_fr Ψ b := fun q => ap_fr_mono hw (by omega) (by omega)
  rcases hd with ⟨s, rfl, h1, h2, h3⟩ | ⟨rfl, h3⟩
  · rcases Nat.lt_trichotomy a b with q | q | q
    · have := m3 q; omega
    · subst q; omega
    · have := m2 (by omega); omega
  · refine ⟨?_, rfl⟩
    rcases Nat.lt_trichotomy a b with q | q | q
    · have := m1 (by omega); omega
    · exact q
    · have := m2 (by omega); omega
theorem ap_blockBit (σ : aw_S) (x : Option Nat) (hx : ∀ t, x = some t → t < 16) : ∃ y, m_Gr_blockBit σ (ao_o x) = some y ∧ ∀ i, i < 32 → (ao_t y i ↔ x = some i) := by
  unfold m_Gr_blockBit
  cases x with
  | none =>
    rw [if_pos (show ao_o none < 0 from ao_neg1)]
    exact ⟨_, rfl, fun i _ => ⟨fun z => absurd z ao_t_0, fun z => by cases z⟩⟩
  | some t =>
    have ht := hx t rfl
    rw [show ao_o (some t) = nI t from rfl, if_neg (nI_pos (by omega)), if_neg (show ¬ (16 : Int32) ≤ nI t from nI_ge (b := 16) (by omega) (by omega))]
    exact ⟨_, rfl, fun i hi => (ao_t_one (by omega) hi).trans ⟨fun z => by rw [z], fun z => by cases z; rfl⟩⟩
def ap_Sn (Ψ : ap_T) (v : Int32) : Prop := ao_t v 0 ∧ ∀ b, b < ap_B Ψ → ao_t v b → ap_RB Ψ b
def ap_Cm (Ψ : ap_T) (v : Int32) : Prop := ∀ b, b < ap_B Ψ → ap_RB Ψ b → ao_t v b
theorem ap_n12 {Ψ : ap_T} {b u : Nat} {o : Option Nat} : (ap_n1 Ψ (some (b, o)) = some u → o = none ∧ ap_e1 Ψ b = some u) ∧ (ap_n2 Ψ (some (b, o)) = some u → o = none ∧ ap_e2 Ψ b = some u) := by
  cases o with
  | none => exact ⟨fun z => ⟨rfl, z⟩, fun z => ⟨rfl, z⟩⟩
  | some s => exact ⟨fun z => (by cases z), fun z => (by cases z)⟩
set_option maxHeartbeats 2000000 in
theorem ap_reach1 {σ : aw_S} {Ψ : ap_T} (hw : ap_wf Ψ) (h : ap_rd σ Ψ) {v z : Int32} (hS0 : ap_Sn Ψ v) : ao_ok (aw_lp (fun s => m_Gr_reachedBlocks_B12 σ z s.1 s.2) aw_fu (v, (0 : Int32))) (fun w => ap_Sn Ψ w ∧ (∀ b, ao_t v b → ao_t w b) ∧ ∀ b, b < ap_B Ψ → ao_t v b → ∀ u, (ap_e1 Ψ b = some u ∨ ap_e2 Ψ b = some u) → ao_t w u) := by
  have hB := hw.2.1
  have hS := hw.2.2.1
  refine ao_for (ap_S Ψ + ap_B Ψ) (fun l (s : Int32 × Int32) => s.2 = nI l ∧ ap_Sn Ψ s.1 ∧ (∀ b, ao_t v b → ao_t s.1 b) ∧ ∀ b, b < ap_B Ψ → ap_fr Ψ (b + 1) + b < l → ao_t v b → ∀ u, (ap_e1 Ψ b = some u ∨ ap_e2 Ψ b = some u) → ao_t s.1 u) (a := 0) ⟨rfl, hS0, fun _ q => q, fun b _ hl => absurd hl (Nat.not_lt_zero _)⟩ (Nat.zero_le _) (by omega) ?_ ?_
  · rintro l ⟨w, y⟩ hl ⟨e1, hn, hm, he⟩
    have e1 : y = nI l := e1
    subst e1
    have hn : ap_Sn Ψ w := hn
    obtain ⟨b, o, hb, hr, hd⟩ := ap_rd_l hw h hl
    have r16 : σ.1 16 l = nI b := hr.2.1
    have r20 : σ.1 20 l = ao_o (ap_n1 Ψ (some (b, o))) := hr.2.2.2.2.2.1
    have r21 : σ.1 21 l = ao_o (ap_n2 Ψ (some (b, o))) := hr.2.2.2.2.2.2
    show ao_ok (m_Gr_reachedBlocks_B12 σ z w (nI l)) _
    unfold m_Gr_reachedBlocks_B12
    rw [h.1, if_neg (nI_ge hl (by omega)), if_neg (show ¬ (76 : Int32) ≤ nI l from nI_ge (b := 76) (by omega) (by omega)), ao_gdn (by omega) (by omega), nI_clamp (by omega), r16, ao_bit (by omega)]
    by_cases q : ao_t w b
    · refine ao_ifp (ao_b1 q) ?_
      obtain ⟨y1, hy1, t1⟩ := ap_blockBit σ (ap_n1 Ψ (some (b, o))) (fun t ht => by have := ap_tB hw hb (Or.inl (ap_n12.1 ht).2); omega)
      obtain ⟨y2, hy2, t2⟩ := ap_blockBit σ (ap_n2 Ψ (some (b, o))) (fun t ht => by have := ap_tB hw hb (Or.inr (ap_n12.2 ht).2); omega)
      rw [ao_gdn (by omega) (by omega), r20, aw_bd_s hy1, ao_gdn (by omega) (by omega), r21, aw_bd_s hy2]
      refine ao_let ?_
      show ao_ok (m_Gr_reachedBlocks_J62 σ (w ||| (y1 ||| y2)) z (nI l)) _
      refine ao_let (ao_inr ⟨nI_1 l, ⟨ao_t_or.mpr (Or.inl hn.1), fun b' hb' hz => ?_⟩, fun b' hz => ao_t_or.mpr (Or.inl (hm b' hz)), fun b' hb' hlt hz u hu => ?_⟩)
      · rcases ao_t_or.mp hz with hz | hz
        · exact hn.2 b' hb' hz
        · rcases ao_t_or.mp hz with hz | hz
          · exact ap_RB_s hb hb' (hn.2 b hb q) (Or.inl (ap_n12.1 ((t1 b' (by omega)).mp hz)).2)
          · exact ap_RB_s hb hb' (hn.2 b hb q) (Or.inr (ap_n12.2 ((t2 b' (by omega)).mp hz)).2)
      · by_cases ql : ap_fr Ψ (b' + 1) + b' < l
        · exact ao_t_or.mpr (Or.inl (he b' hb' ql hz u hu))
        · obtain ⟨rfl, rfl⟩ := ap_end_o hw hb' hb (show l = _ by omega) hd
          have hu16 := ap_tB hw hb' hu
          rcases hu with hu | hu
          · exact ao_t_or.mpr (Or.inr (ao_t_or.mpr (Or.inl ((t1 u (by omega)).mpr hu))))
          · exact ao_t_or.mpr (Or.inr (ao_t_or.mpr (Or.inr ((t2 u (by omega)).mpr hu))))
    · refine ao_ifn (by rw [ao_b0 q]; decide) ?_
      show ao_ok (m_Gr_reachedBlocks_J62 σ w z (nI l)) _
      refine ao_let (ao_inr ⟨nI_1 l, hn, hm, fun b' hb' hlt hz u hu => ?_⟩)
      by_cases ql : ap_fr Ψ (b' + 1) + b' < l
      · exact he b' hb' ql hz u hu
      · obtain ⟨rfl, rfl⟩ := ap_end_o hw hb' hb (show l = _ by omega) hd
        exact absurd (hm _ hz) q
  · rintro ⟨w, y⟩ ⟨e1, hn, hm, he⟩
    have e1 : y = nI (ap_S Ψ + ap_B Ψ) := e1
    subst e1
    show ao_ok (m_Gr_reachedBlocks_B12 σ z w (nI (ap_S Ψ + ap_B Ψ))) _
    unfold m_Gr_reachedBlocks_B12
    rw [h.1, if_pos (nI_le (Nat.le_refl _) (by omega))]
    refine ao_inl ⟨hn, hm, fun b hb hz u hu => he b hb ?_ hz u hu⟩
    have := ap_fr_mono hw (show b + 1 ≤ ap_B Ψ by omega) (Nat.le_refl _)
    rw [hw.2.2.2.2.2.1] at this
    omega
set_option maxHeartbeats 2000000 in
theorem ap_reached {σ : aw_S} {Ψ : ap_T} (hw : ap_wf Ψ) (h : ap_rd σ Ψ) : ao_ok (m_Gr_reachedBlocks σ) (fun y => ∀ b, b < ap_B Ψ → (ao_t y b ↔ ap_RB Ψ b)) := by
  have hB := hw.2.1
  have hB0 := hw.1
  unfold m_Gr_reachedBlocks
  have h1 : ao_t 1 0 := ao_t_1.mpr rfl
  have hc1 : 0 + 1 ≤ ao_n (fun b => ao_t 1 b) (ap_B Ψ) := by
    have := ao_n_lt (X := fun _ => False) (Y := fun b => ao_t 1 b) (n := ap_B Ψ) (i := 0) (fun _ _ z => z.elim) hB0 h1 (fun z => z)
    omega
  refine ao_bd (ao_imp (ao_for (Q := fun y => ∀ b, b < ap_B Ψ → (ao_t y b ↔ ap_RB Ψ b)) 16 (fun i (s : Int32 × Int32) => s.2 = nI i ∧ ap_Sn Ψ s.1 ∧ (ap_Cm Ψ s.1 ∨ i + 1 ≤ ao_n (fun b => ao_t s.1 b) (ap_B Ψ))) (a := 0) ⟨rfl, ⟨h1, fun b _ z => by rw [ao_t_1.mp z]; exact ap_RB_0 Ψ hB0⟩, Or.inr hc1⟩ (Nat.zero_le _) (by omega) ?_ ?_) (fun y hy => ao_some hy))
  · rintro i ⟨v, y⟩ hi ⟨e1, hn, hc⟩
    have e1 : y = nI i := e1
    subst e1
    have hn : ap_Sn Ψ v := hn
    have hc : ap_Cm Ψ v ∨ i + 1 ≤ ao_n (fun b => ao_t v b) (ap_B Ψ) := hc
    show ao_ok (m_Gr_reachedBlocks_B4 σ v (nI i)) _
    unfold m_Gr_reachedBlocks_B4
    rw [if_neg (show ¬ (16 : Int32) ≤ nI i from nI_ge (b := 16) hi (by omega))]
    refine ao_bd (ao_imp (ap_reach1 hw h hn) ?_)
    rintro w ⟨hn', hm, he⟩
    refine ao_let (ao_inr ⟨nI_1 i, hn', ?_⟩)
    show ap_Cm Ψ w ∨ i + 1 + 1 ≤ ao_n (fun b => ao_t w b) (ap_B Ψ)
    by_cases q : ap_Cm Ψ v
    · exact Or.inl (fun b hb hr => hm b (q b hb hr))
    · refine Or.inr ?_
      have hx : ∃ n, n < ap_B Ψ ∧ ao_t w n ∧ ¬ ao_t v n := by
        refine Classical.byContradiction fun hno => q (fun b hb hr => hr (fun n => ao_t v n) (fun n hn2 hf => ?_))
        rcases hf with rfl | ⟨a, ha, hya, hae⟩
        · exact hn.1
        · exact Classical.byContradiction fun z => hno ⟨n, hn2, he a ha hya n hae, z⟩
      obtain ⟨n, hn2, hx1, hx2⟩ := hx
      have := ao_n_lt (X := fun b => ao_t v b) (Y := fun b => ao_t w b) (n := ap_B Ψ) (fun k _ => hm k) hn2 hx1 hx2
      rcases hc with hc | hc
      · exact absurd hc q
      · omega
  · rintro ⟨v, y⟩ ⟨e1, hn, hc⟩
    have e1 : y = nI 16 := e1
    subst e1
    have hc : ap_Cm Ψ v ∨ 16 + 1 ≤ ao_n (fun b => ao_t v b) (ap_B Ψ) := hc
    show ao_ok (m_Gr_reachedBlocks_B4 σ v (nI 16)) _
    unfold m_Gr_reachedBlocks_B4
    rw [if_pos (show (16 : Int32) ≤ nI 16 from nI_le (a := 16) (Nat.le_refl _) (by omega))]
    refine ao_inl (fun b hb => ⟨hn.2 b hb, fun hr => ?_⟩)
    rcases hc with hc | hc
    · exact hc b hb hr
    · have := ao_n_le (fun b => ao_t v b) (ap_B Ψ)
      omega

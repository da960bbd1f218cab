/-! ===== the reference: a row that holds a program; blocks come to; nodes ===== -/
def ap_row (σ : aw_S) (p : Nat) (Ψ : ap_T) : Prop :=
  σ.1 1 p = nI (ap_B Ψ) ∧ σ.1 1 (p + 1) = nI (ap_S Ψ) ∧ σ.1 1 (p + 2) = nI (ap_X Ψ) ∧
  (∀ s, s < ap_S Ψ → σ.1 1 (p + (4 + s)) = nI (ap_sk Ψ s) ∧ σ.1 1 (p + (64 + s)) = ao_o (ap_sl Ψ s) ∧ σ.1 1 (p + (124 + s)) = nI (ap_sr Ψ s)) ∧
  (∀ b, b ≤ ap_B Ψ → σ.1 1 (p + (184 + b)) = nI (ap_fr Ψ b)) ∧
  (∀ b, b < ap_B Ψ → σ.1 1 (p + (204 + b)) = nI (ap_ek Ψ b) ∧ σ.1 1 (p + (220 + b)) = ao_o (ap_ev Ψ b) ∧ σ.1 1 (p + (236 + 2 * b)) = ao_o (ap_e1 Ψ b) ∧ σ.1 1 (p + (237 + 2 * b)) = ao_o (ap_e2 Ψ b)) ∧
  ∀ e, e < ap_X Ψ → σ.1 1 (p + (268 + e)) = nI (ap_sg Ψ e) ∧ σ.1 1 (p + (292 + 2 * e)) = nI (ap_lf Ψ e) ∧ σ.1 1 (p + (293 + 2 * e)) = nI (ap_rt Ψ e)
theorem ap_row_fr {σ σ' : aw_S} {p : Nat} {Ψ : ap_T} (h : ap_row σ p Ψ) (e : σ'.1 1 = σ.1 1) : ap_row σ' p Ψ := by
  unfold ap_row
  rw [e]
  exact h
theorem ao_lp2 {S R : Type} {f : S → Option (R ⊕ S)} {s0 s1 s2 : S} {r : R} (h0 : f s0 = some (.inr s1)) (h1 : f s1 = some (.inr s2)) (h2 : f s2 = some (.inl r)) : aw_lp f aw_fu s0 = some r := by
  obtain ⟨m, hm⟩ : ∃ m, aw_fu = m + 3 := ⟨aw_fu - 3, by have := aw_fu_le; omega⟩
  rw [hm]
  unfold aw_lp
  rw [h0]
  show aw_lp f (m + 2) s1 = _
  unfold aw_lp
  rw [h1]
  show aw_lp f (m + 1) s2 = _
  unfold aw_lp
  rw [h2]
theorem ap_tB {Ψ : ap_T} (hw : ap_wf Ψ) {b t : Nat} (hb : b < ap_B Ψ) (h : ap_e1 Ψ b = some t ∨ ap_e2 Ψ b = some t) : t < ap_B Ψ := by
  rcases hw.2.2.2.2.2.2.2.1 b hb with z | z | z
  · rcases h with hx | hx
    · obtain ⟨t', ht', e'⟩ := z.2.2.1; rw [e'] at hx; cases hx; exact ht'
    · rw [z.2.2.2] at hx; cases hx
  · rcases h with hx | hx
    · obtain ⟨t', ht', e'⟩ := z.2.2.1; rw [e'] at hx; cases hx; exact ht'
    · obtain ⟨t', ht', e'⟩ := z.2.2.2; rw [e'] at hx; cases hx; exact ht'
  · rcases h with hx | hx
    · rw [z.2.2.1] at hx; cases hx
    · rw [z.2.2.2] at hx; cases hx
set_option maxHeartbeats 4000000 in
theorem ap_layCome {σ : aw_S} {Ψ : ap_T} (hw : ap_wf Ψ) (h : ap_row σ 0 Ψ) : ao_ok (m_Rf_layCome σ) (fun s => ag_one 9 σ s ∧ ∀ b, b < ap_B Ψ → s.1 9 b = ao_b (ap_RB Ψ b)) := by
  have hB := hw.2.1
  have hB0 := hw.1
  have g0 : ∀ s, ag_one 9 σ s → m_Rf_get s ((0 : Int32)) = some (nI (ap_B Ψ)) := fun s hs => by
    rw [show (0 : Int32) = nI 0 from rfl, ag_get (by omega), hs.2 1 (by omega), h.1]
  unfold m_Rf_layCome
  refine ao_bd (ao_imp (ao_for (Q := fun s => ag_one 9 σ s ∧ ∀ n, n < ap_B Ψ → s.1 9 n = ao_b (n = 0)) (ap_B Ψ) (fun k s => s.1 = nI k ∧ ag_one 9 σ s.2 ∧ ∀ n, n < k → s.2.1 9 n = ao_b (n = 0)) (a := 0) ⟨rfl, ag_one_rf, fun n hn => absurd hn (Nat.not_lt_zero _)⟩ (Nat.zero_le _) (by omega) ?_ ?_) ?_)
  · rintro i ⟨x, s⟩ hi ⟨e1, hf, hv'⟩
    have e1 : x = nI i := e1
    subst e1
    show ao_ok (m_Rf_layCome_B2 s (nI i)) _
    unfold m_Rf_layCome_B2
    refine ao_bde (g0 s hf) (ao_ifn (nI_ge hi (by omega)) ?_)
    have hJ : ∀ y, y = ao_b (i = 0) → ao_ok (m_Rf_layCome_J25 s (nI i) (nI i) y) (Sum.elim (fun s => ag_one 9 σ s ∧ ∀ n, n < ap_B Ψ → s.1 9 n = ao_b (n = 0)) (fun s => s.1 = nI (i + 1) ∧ ag_one 9 σ s.2 ∧ ∀ n, n < i + 1 → s.2.1 9 n = ao_b (n = 0))) := by
      intro y hy
      unfold m_Rf_layCome_J25
      rw [ao_gdn (by omega) (by omega), nI_clamp (by omega), ao_nar (by rw [hy]; exact ao_01_b _)]
      refine ao_let (ao_let (ao_inr ⟨nI_1 i, ag_one_tr hf ag_one_s, fun n hn => ?_⟩))
      show (aw_sI s 9 i y).1 9 n = _
      by_cases hnk : n = i
      · subst hnk; rw [ao_sI_s, hy]
      · rw [ao_sI_i hnk]; exact hv' n (by omega)
    exact ao_if (fun q => hJ 1 (ao_b1 ((nI_eq (by omega) (by omega)).mp (q.trans nI_0.symm))).symm) (fun q => hJ 0 (ao_b0 (fun z => q (by rw [z]; rfl))).symm)
  · rintro ⟨x, s⟩ ⟨e1, hf, hv'⟩
    have e1 : x = nI (ap_B Ψ) := e1
    subst e1
    show ao_ok (m_Rf_layCome_B2 s (nI (ap_B Ψ))) _
    unfold m_Rf_layCome_B2
    exact ao_bde (g0 s hf) (ao_ifp (nI_le (Nat.le_refl _) (by omega)) (ao_inl ⟨hf, hv'⟩))
  · rintro s ⟨hf, hv'⟩
    refine ao_bd (ao_imp (ao_chaos (fo := fun s => m_Rf_layCome_B34 s.2 s.1) (fi := fun s => m_Rf_layCome_B42 s.2.2 s.1 s.2.1) (ap_B Ψ) nI
      (fun t => ag_one 9 σ t ∧ (∀ n, n < ap_B Ψ → ao_01 (t.1 9 n)) ∧ ag_x1 t 9 0 ∧ ∀ Y : Nat → Prop, (∀ n, n < ap_B Ψ → ap_fRB Ψ Y n → Y n) → ∀ n, n < ap_B Ψ → ag_x1 t 9 n → Y n)
      (fun t => ao_n (fun n => ¬ ag_x1 t 9 n) (ap_B Ψ)) (fun t b => ag_x1 t 9 b ∧ ∃ u, (ap_e1 Ψ b = some u ∨ ap_e2 Ψ b = some u) ∧ ¬ ag_x1 t 9 u) (by omega) ?_ ?_ ?_ ?_ ⟨hf, fun n hn => by rw [hv' n hn]; exact ao_01_b _, (hv' 0 hB0).trans (ao_b1 rfl), fun Y hY n hn q => hY n hn (Or.inl (ao_b_eq1.mp ((hv' n hn).symm.trans q)))⟩ (by have := ao_n_le (fun n => ¬ ag_x1 s 9 n) (ap_B Ψ); omega)) ?_)
    · intro t; rfl
    · rintro t _; rfl
    · rintro t w ⟨hf, _⟩
      show m_Rf_layCome_B42 t w (nI (ap_B Ψ)) = _
      unfold m_Rf_layCome_B42
      rw [aw_bd_s (g0 t hf), if_pos (nI_le (Nat.le_refl _) (by omega))]
    · rintro t w b hb hI hw'
      show (_ ∧ m_Rf_layCome_B42 t w (nI b) = _) ∨ (∃ s', m_Rf_layCome_B42 t w (nI b) = _ ∧ _)
      -- one edge of b
      have step : ∀ (t' : aw_S) (w' : Int32) (k : Nat) (x : Option Nat), k < 2 → (x = if k = 0 then ap_e1 Ψ b else ap_e2 Ψ b) → (ag_one 9 σ t' ∧ (∀ n, n < ap_B Ψ → ao_01 (t'.1 9 n)) ∧ ag_x1 t' 9 0 ∧ ∀ Y : Nat → Prop, (∀ n, n < ap_B Ψ → ap_fRB Ψ Y n → Y n) → ∀ n, n < ap_B Ψ → ag_x1 t' 9 n → Y n) →
          (¬ (ag_x1 t' 9 b ∧ ∃ u, x = some u ∧ ¬ ag_x1 t' 9 u) ∧ m_Rf_layCome_B53 t' (nI b) w' (nI k) = some (.inr (w', nI (k + 1), t'))) ∨
          ∃ s', m_Rf_layCome_B53 t' (nI b) w' (nI k) = some (.inr (1, nI (k + 1), s')) ∧ (ag_one 9 σ s' ∧ (∀ n, n < ap_B Ψ → ao_01 (s'.1 9 n)) ∧ ag_x1 s' 9 0 ∧ ∀ Y : Nat → Prop, (∀ n, n < ap_B Ψ → ap_fRB Ψ Y n → Y n) → ∀ n, n < ap_B Ψ → ag_x1 s' 9 n → Y n) ∧ ao_n (fun n => ¬ ag_x1 s' 9 n) (ap_B Ψ) < ao_n (fun n => ¬ ag_x1 t' 9 n) (ap_B Ψ) := by
        rintro t' w' k x hk hx ⟨hf, h01, hb0, hU⟩
        have hget : m_Rf_get t' (nI 236 + nI (2 * b) + nI k) = some (ao_o x) := by
          rw [nI_add, nI_add, ag_get (by omega), hf.2 1 (by omega), hx]
          rcases (show k = 0 ∨ k = 1 by omega) with rfl | rfl
          · have := (h.2.2.2.2.2.1 b hb).2.2.1
            rw [show 0 + (236 + 2 * b) = 236 + 2 * b + 0 by omega] at this
            rw [this, if_pos rfl]
          · have := (h.2.2.2.2.2.1 b hb).2.2.2
            rw [show 0 + (237 + 2 * b) = 236 + 2 * b + 1 by omega] at this
            rw [this, if_neg (by omega)]
        have hj : ∀ u v', m_Rf_layCome_J111 u v' (nI b) (nI k) = some (.inr (v', nI (k + 1), u)) := fun u v' => by rw [← nI_1 k]; rfl
        unfold m_Rf_layCome_B53
        rw [if_neg (show ¬ (2 : Int32) ≤ nI k from nI_ge (b := 2) hk (by omega)), ao_mul2, show (236 : Int32) = nI 236 from rfl, aw_bd_s hget, ao_gdn (by omega) (by omega), nI_clamp (by omega)]
        by_cases q1 : ag_x1 t' 9 b
        · rw [if_neg (fun z => (ao_01_0 (h01 _ hb)).mp z q1)]
          cases x with
          | none =>
            rw [if_pos (show ao_o none = -1 from rfl)]
            exact Or.inl ⟨fun ⟨_, u, z, _⟩ => (by cases z), hj t' w'⟩
          | some u =>
            have hu : u < ap_B Ψ := by
              refine ap_tB hw hb ?_
              by_cases z : k = 0
              · rw [if_pos z] at hx; exact Or.inl hx.symm
              · rw [if_neg z] at hx; exact Or.inr hx.symm
            rw [show ao_o (some u) = nI u from rfl, if_neg (ao_m1 (by omega)), ao_gdn (by omega) (by omega), ao_gdn (by omega) (by omega), nI_clamp (by omega)]
            by_cases q2 : ag_x1 t' 9 u
            · rw [if_neg (fun z => (ao_01_0 (h01 _ hu)).mp z q2)]
              exact Or.inl ⟨fun ⟨_, u', z, z2⟩ => (by cases z; exact z2 q2), hj t' w'⟩
            · rw [if_pos ((ao_01_0 (h01 _ hu)).mpr q2), ao_ltr, ao_nar (Or.inr rfl)]
              have hxx := ag_x1_s (s := t') (c := 9) (m := u) (v := 1) rfl
              refine Or.inr ⟨_, hj _ _, ⟨ag_one_tr hf ag_one_s, fun n hn => ?_, (hxx 0).mpr (Or.inl hb0), fun Y hY n hn q => ?_⟩, ?_⟩
              · by_cases hnk : n = u
                · subst hnk; rw [ao_sI_s]; exact Or.inr rfl
                · rw [ao_sI_i hnk]; exact h01 n hn
              · rcases (hxx n).mp q with q | q
                · exact hU Y hY n hn q
                · subst q
                  refine hY _ hn (Or.inr ⟨b, hb, hU Y hY b hb q1, ?_⟩)
                  by_cases z : k = 0
                  · rw [if_pos z] at hx; exact Or.inl hx.symm
                  · rw [if_neg z] at hx; exact Or.inr hx.symm
              · exact ao_n_lt (i := u) (fun n hn q q' => q ((hxx n).mpr (Or.inl q'))) hu q2 (fun q => q ((hxx _).mpr (Or.inr rfl)))
        · rw [if_pos ((ao_01_0 (h01 _ hb)).mpr q1)]
          exact Or.inl ⟨fun z => q1 z.1, hj t' w'⟩
      have hend : ∀ t' w', m_Rf_layCome_B53 t' (nI b) w' (nI 2) = some (.inl (w', t')) := fun t' w' => by
        unfold m_Rf_layCome_B53
        rw [if_pos (by decide)]
      have fin : ∀ t1 w1 t2 w2, m_Rf_layCome_B53 t (nI b) w (nI 0) = some (.inr (w1, nI 1, t1)) → m_Rf_layCome_B53 t1 (nI b) w1 (nI 1) = some (.inr (w2, nI 2, t2)) → m_Rf_layCome_B42 t w (nI b) = some (.inr (w2, nI (b + 1), t2)) := by
        intro t1 w1 t2 w2 h1 h2
        unfold m_Rf_layCome_B42
        rw [aw_bd_s (g0 t hI.1), if_neg (nI_ge hb (by omega)), aw_bd_s (ao_lp2 (s0 := (w, (0 : Int32), t)) (s1 := (w1, nI 1, t1)) (s2 := (w2, nI 2, t2)) h1 h2 (hend t2 w2)), ← nI_1 b]
        rfl
      rcases step t w 0 _ (by omega) rfl hI with ⟨c0, e0⟩ | ⟨t1, e0, hI1, hl1⟩
      · rcases step t w 1 _ (by omega) rfl hI with ⟨c1, e1⟩ | ⟨t2, e1, hI2, hl2⟩
        · refine Or.inl ⟨fun ⟨z1, u, z2, z3⟩ => ?_, fin t w t w e0 e1⟩
          rcases z2 with z2 | z2
          · exact c0 ⟨z1, u, (if_pos rfl).trans z2, z3⟩
          · exact c1 ⟨z1, u, (if_neg (by omega)).trans z2, z3⟩
        · exact Or.inr ⟨t2, fin t w t2 1 e0 e1, hI2, hl2⟩
      · rcases step t1 1 1 _ (by omega) rfl hI1 with ⟨c1, e1⟩ | ⟨t2, e1, hI2, hl2⟩
        · exact Or.inr ⟨t1, fin t1 1 t1 1 e0 e1, hI1, hl1⟩
        · exact Or.inr ⟨t2, fin t1 1 t2 1 e0 e1, hI2, Nat.lt_trans hl2 hl1⟩
    · rintro t ⟨⟨hf, h01, hb0, hU⟩, hC⟩
      refine ao_some ⟨hf, fun b hb => (ao_01_e (h01 b hb)).trans (ao_b_c (ao_lf_L (F := ap_fRB Ψ) ⟨fun n hn hx => ?_, hU⟩ (fun _ _ _ => Iff.rfl) b hb))⟩
      rcases hx with hx | ⟨a, ha, hx1, hx2⟩
      · rw [hx]; exact hb0
      · exact Classical.byContradiction fun q => hC a ha ⟨hx1, n, hx2, q⟩
/-! ===== nodes ===== -/
theorem ap_layNode {σ : aw_S} {n : Nat} (hn : n < 112) (h : σ.1 0 14 = nI n) (k b s : Int32) : m_Rf_layNode σ k b s = some (aw_sI (aw_sI (aw_sI (aw_sI (aw_sI (aw_sI σ 4 n k) 5 n b) 6 n s) 7 (2 * n) (-1)) 7 (2 * n + 1) (-1)) 0 14 (nI (n + 1))) := by
  have e : ∀ (t : aw_S) (c : Nat) (j : Nat) (v : Int32), c ≠ 0 → t.1 0 14 = nI n → (aw_sI t c j v).1 0 14 = nI n := fun t c j v hc ht => (congrFun (ao_sI_o (Ne.symm hc)) 14).trans ht
  have e4 := e σ 4 n k (by omega) h
  have e5 := e _ 5 n b (by omega) e4
  have e6 := e _ 6 n s (by omega) e5
  have e7 := e _ 7 (2 * n) (-1) (by omega) e6
  have e8 := e _ 7 (2 * n + 1) (-1) (by omega) e7
  unfold m_Rf_layNode
  rw [h, ao_gdn hn (by omega), nI_clamp (by omega), ao_ltr, e4, ao_gdn hn (by omega), nI_clamp (by omega), ao_ltr, e5, ao_gdn hn (by omega), nI_clamp (by omega), ao_ltr, e6, ao_mul2, ao_gdn (by omega) (by omega), nI_clamp (by omega), ao_ltr, e7, ao_mul2, nI_1, ao_gdn (by omega) (by omega), nI_clamp (by omega), ao_ltr, e8, nI_1, ao_ltr]
/-- what node n holds -/
def ap_nd (s : aw_S) (Ψ : ap_T) (n : Nat) : Prop := s.1 4 n = nI (ap_nk Ψ (ap_li Ψ n)) ∧ s.1 5 n = ao_o ((ap_li Ψ n).map (fun q => q.1)) ∧ s.1 6 n = ao_o ((ap_li Ψ n).bind (fun q => q.2))
/-- the rows of the graph may have moved -/
def ap_fg (σ s : aw_S) : Prop := s.2 = σ.2 ∧ (∀ k, k ≠ 0 → k ≠ 4 → k ≠ 5 → k ≠ 6 → k ≠ 7 → k ≠ 10 → s.1 k = σ.1 k) ∧ ∀ j, j ≠ 14 → s.1 0 j = σ.1 0 j
theorem ap_fg_tr {σ s t : aw_S} (h : ap_fg σ s) (h' : ap_fg s t) : ap_fg σ t := ⟨h'.1.trans h.1, fun k h1 h2 h3 h4 h5 h6 => (h'.2.1 k h1 h2 h3 h4 h5 h6).trans (h.2.1 k h1 h2 h3 h4 h5 h6), fun j hj => (h'.2.2 j hj).trans (h.2.2 j hj)⟩
theorem ap_fg_s {σ : aw_S} {c n : Nat} {v : Int32} (h : c = 4 ∨ c = 5 ∨ c = 6 ∨ c = 7 ∨ c = 10) : ap_fg σ (aw_sI σ c n v) := ⟨rfl, fun k h1 h2 h3 h4 h5 h6 => ao_sI_o (by omega), fun j _ => congrFun (ao_sI_o (by omega)) j⟩
theorem ap_fg_n {σ : aw_S} {v : Int32} : ap_fg σ (aw_sI σ 0 14 v) := ⟨rfl, fun k h1 _ _ _ _ _ => ao_sI_o h1, fun j hj => ao_sI_i hj⟩
/-- one node more -/
theorem ap_addNode {σ s : aw_S} {Ψ : ap_T} {n : Nat} (hn : n < 112) (hf : ap_fg σ s) (h : s.1 0 14 = nI n) (hd : ∀ m, m < n → ap_nd s Ψ m) (h7 : ∀ m, m < 2 * n → s.1 7 m = -1) {k b x : Int32} (hk : k = nI (ap_nk Ψ (ap_li Ψ n))) (hb : b = ao_o ((ap_li Ψ n).map (fun q => q.1))) (hx : x = ao_o ((ap_li Ψ n).bind (fun q => q.2))) :
    ao_ok (m_Rf_layNode s k b x) (fun t => ap_fg σ t ∧ t.1 0 14 = nI (n + 1) ∧ (∀ m, m < n + 1 → ap_nd t Ψ m) ∧ (∀ m, m < 2 * (n + 1) → t.1 7 m = -1) ∧ t.1 10 = s.1 10) := by
  refine ao_of (ap_layNode hn h k b x) ⟨ap_fg_tr hf (ap_fg_tr (ap_fg_tr (ap_fg_tr (ap_fg_tr (ap_fg_tr (ap_fg_s (by omega)) (ap_fg_s (by omega))) (ap_fg_s (by omega))) (ap_fg_s (by omega))) (ap_fg_s (by omega))) ap_fg_n), ao_sI_s _ _ _ _, fun m hm => ?_, fun m hm => ?_, ?_⟩
  · have e4 : (aw_sI (aw_sI (aw_sI (aw_sI (aw_sI (aw_sI s 4 n k) 5 n b) 6 n x) 7 (2 * n) (-1)) 7 (2 * n + 1) (-1)) 0 14 (nI (n + 1))).1 4 = (aw_sI s 4 n k).1 4 := by
      rw [ao_sI_o (by omega), ao_sI_o (by omega), ao_sI_o (by omega), ao_sI_o (by omega), ao_sI_o (by omega)]
    have e5 : (aw_sI (aw_sI (aw_sI (aw_sI (aw_sI (aw_sI s 4 n k) 5 n b) 6 n x) 7 (2 * n) (-1)) 7 (2 * n + 1) (-1)) 0 14 (nI (n + 1))).1 5 = (aw_sI (aw_sI s 4 n k) 5 n b).1 5 := by
      rw [ao_sI_o (by omega), ao_sI_o (by omega), ao_sI_o (by omega), ao_sI_o (by omega)]
    have e6 : (aw_sI (aw_sI (aw_sI (aw_sI (aw_sI (aw_sI s 4 n k) 5 n b) 6 n x) 7 (2 * n) (-1)) 7 (2 * n + 1) (-1)) 0 14 (nI (n + 1))).1 6 = (aw_sI (aw_sI (aw_sI s 4 n k) 5 n b) 6 n x).1 6 := by
      rw [ao_sI_o (by omega), ao_sI_o (by omega), ao_sI_o (by omega)]
    unfold ap_nd
    rw [e4, e5, e6]
    by_cases q : m = n
    · subst q
      rw [ao_sI_s, ao_sI_s, ao_sI_s]
      exact ⟨hk, hb, hx⟩
    · simp only [ao_sI_i q]
      exact hd m (by omega)
  · rw [ao_sI_o (by omega)]
    by_cases q : m = 2 * n + 1
    · rw [q, ao_sI_s]
    · rw [ao_sI_i q]
      by_cases q2 : m = 2 * n
      · rw [q2, ao_sI_s]
      · rw [ao_sI_i q2, ao_sI_o (by omega), ao_sI_o (by omega), ao_sI_o (by omega)]
        exact h7 m (by omega)
  · rw [ao_sI_o (by omega), ao_sI_o (by omega), ao_sI_o (by omega), ao_sI_o (by omega), ao_sI_o (by omega), ao_sI_o (by omega)]

/-! ===== OTHERS: the class takes graph and facts ===== -/
def ot_y (σ s : aw_S) : Prop := s.2 = σ.2 ∧ (∀ c, c ≠ 105 → (c < 131 ∨ 135 < c) → s.1 c = σ.1 c) ∧ ∀ j, j < 7 → s.1 105 j = σ.1 105 j
theorem ot_y_rf {σ : aw_S} : ot_y σ σ := ⟨rfl, fun _ _ _ => rfl, fun _ _ => rfl⟩
theorem ot_y_tr {σ s t : aw_S} (h : ot_y σ s) (h' : ot_y s t) : ot_y σ t := ⟨h'.1.trans h.1, fun c h1 h2 => (h'.2.1 c h1 h2).trans (h.2.1 c h1 h2), fun j hj => (h'.2.2 j hj).trans (h.2.2 j hj)⟩
theorem ot_y_I {σ s : aw_S} (h : ot_y σ s) {c j : Nat} {v : Int32} (hc : (131 ≤ c ∧ c ≤ 135) ∨ (c = 105 ∧ 7 ≤ j)) : ot_y σ (aw_sI s c j v) := by
  refine ot_y_tr h ⟨rfl, fun d h1 h2 => ao_sI_o (by omega), fun i hi => ?_⟩
  rcases hc with hc | ⟨rfl, hc⟩
  · rw [ao_sI_o (by omega)]
  · rw [ao_sI_i (by omega)]
theorem ot_sh (p : Prop) {k : Nat} (hk : k < 32) {i : Nat} (hi : i < 32) : ao_t (ao_b p <<< (nI k &&& 31)) i ↔ p ∧ i = k := by
  by_cases h : p
  · rw [ao_b1 h, ao_t_one hk hi]
    exact ⟨fun z => ⟨h, z⟩, fun z => z.2⟩
  · rw [ao_b0 h]
    refine ⟨fun z => ?_, fun z => absurd z.1 h⟩
    unfold ao_t at z
    rw [b_shl k hk 0 hi, b_0, Bool.and_false] at z
    cases z
/-- the graph has been taken -/
def ot_G (s : aw_S) (N : Nat) (nx : Nat → Option Nat) : Prop := s.1 105 7 = nI N ∧ (∀ i, i < 32 → (ao_t (s.1 105 12) i ↔ i < N ∧ nx (2 * i) = none)) ∧ ∀ n, n < N → s.1 131 n = ao_o (nx (2 * n)) ∧ s.1 132 n = ao_o (nx (2 * n + 1)) ∧ (∀ i, i < 32 → (ao_t (s.1 133 n) i ↔ i < N ∧ ao_ed nx i n)) ∧ ∀ i, i < 32 → (ao_t (s.1 134 n) i ↔ ao_ed nx n i)
theorem ot_nodeBit {s : aw_S} {N : Nat} (h7 : s.1 105 7 = nI N) (hN : N ≤ 12) {t : Option Nat} (ht : ∀ k, t = some k → k < N) : ∃ r, m_Ot_nodeBit s (ao_o t) = some r ∧ ∀ i, i < 32 → (ao_t r i ↔ t = some i) := by
  unfold m_Ot_nodeBit
  rw [h7]
  cases t with
  | none => exact ⟨0, by rw [show ao_o none = -1 from rfl, if_pos (by decide)], fun i hi => ⟨fun z => absurd z ao_t_0, fun z => by cases z⟩⟩
  | some k =>
    have hk := ht k rfl
    refine ⟨(1 : Int32) <<< (nI k &&& 31), by rw [show ao_o (some k) = nI k from rfl, if_neg (nI_pos (by omega)), if_neg (nI_ge hk (by omega))], fun i hi => (ao_t_one (by omega) hi).trans ⟨fun z => by rw [z], fun z => by cases z; rfl⟩⟩
set_option maxHeartbeats 4000000 in
theorem ot_takeGraph {σ : aw_S} {N : Nat} {nx : Nat → Option Nat} (hT : ao_TA σ N nx) (hN : N ≤ 12) : ao_ok (m_Ot_takeGraph σ) (fun s => ot_y σ s ∧ ot_G s N nx) := by
  have hlt := hT.1.2.1
  unfold m_Ot_takeGraph
  rw [ao_ltr, ao_ltr, hT.2.1]
  have y0 : ot_y σ (aw_sI (aw_sI σ 105 7 (nI N)) 105 12 0) := ot_y_I (ot_y_I ot_y_rf (Or.inr ⟨rfl, by omega⟩)) (Or.inr ⟨rfl, by omega⟩)
  refine ao_bd (ao_imp (ru_fill (by omega) 0) ?_)
  rintro s1 ⟨l1, f1, d1⟩
  have y1 : ot_y σ s1 := ot_y_tr y0 ⟨l1, fun c h1 h2 => f1 c (by omega), fun j hj => by rw [f1 105 (by omega)]⟩
  have e7 : s1.1 105 7 = nI N := by rw [f1 105 (by omega), ao_sI_i (by omega), ao_sI_s]
  have e12 : s1.1 105 12 = 0 := by rw [f1 105 (by omega), ao_sI_s]
  refine ao_bd (ao_imp (ao_for (Q := fun s => ot_y σ s ∧ s.1 105 7 = nI N ∧ (∀ i, i < 32 → (ao_t (s.1 105 12) i ↔ i < N ∧ nx (2 * i) = none)) ∧ (∀ n, n < 12 → s.1 133 n = 0) ∧ ∀ n, n < N → s.1 131 n = ao_o (nx (2 * n)) ∧ s.1 132 n = ao_o (nx (2 * n + 1)) ∧ ∀ i, i < 32 → (ao_t (s.1 134 n) i ↔ ao_ed nx n i)) N (fun k (s : Int32 × aw_S) => s.1 = nI k ∧ ot_y σ s.2 ∧ s.2.1 105 7 = nI N ∧ (∀ i, i < 32 → (ao_t (s.2.1 105 12) i ↔ i < k ∧ nx (2 * i) = none)) ∧ (∀ n, n < 12 → s.2.1 133 n = 0) ∧ ∀ n, n < k → s.2.1 131 n = ao_o (nx (2 * n)) ∧ s.2.1 132 n = ao_o (nx (2 * n + 1)) ∧ ∀ i, i < 32 → (ao_t (s.2.1 134 n) i ↔ ao_ed nx n i)) (a := 0) ⟨rfl, y1, e7, fun i hi => by show ao_t (s1.1 105 12) i ↔ _; rw [e12]; exact ⟨fun z => absurd z ao_t_0, fun z => absurd z.1 (Nat.not_lt_zero _)⟩, d1, fun n hn => absurd hn (Nat.not_lt_zero _)⟩ (Nat.zero_le _) (by omega) ?_ ?_) ?_)
  · rintro k ⟨v, s⟩ hk ⟨e1, y, e7, e12, d, D⟩
    have e1 : v = nI k := e1
    subst e1
    have e7 : s.1 105 7 = nI N := e7
    have e12 : ∀ i, i < 32 → (ao_t (s.1 105 12) i ↔ i < k ∧ nx (2 * i) = none) := e12
    have d : ∀ n, n < 12 → s.1 133 n = 0 := d
    have D : ∀ n, n < k → s.1 131 n = ao_o (nx (2 * n)) ∧ s.1 132 n = ao_o (nx (2 * n + 1)) ∧ ∀ i, i < 32 → (ao_t (s.1 134 n) i ↔ ao_ed nx n i) := D
    have y : ot_y σ s := y
    show ao_ok (m_Ot_takeGraph_B23 s (nI k)) _
    unfold m_Ot_takeGraph_B23
    have r36 : s.1 36 k = ao_o (nx (2 * k)) := by rw [y.2.1 36 (by omega) (by omega)]; exact (hT.2.2.1 k hk).1
    have r37 : s.1 37 k = ao_o (nx (2 * k + 1)) := by rw [y.2.1 37 (by omega) (by omega)]; exact (hT.2.2.1 k hk).2
    rw [e7, if_neg (nI_ge hk (by omega))]
    simp (disch := omega) only [ao_gdn, nI_clamp, ao_ltr]
    rw [r36]
    have r37' : (aw_sI s 131 k (ao_o (nx (2 * k)))).1 37 k = ao_o (nx (2 * k + 1)) := by rw [ao_sI_o (by omega)]; exact r37
    rw [r37']
    generalize hs12 : aw_sI (aw_sI s 131 k (ao_o (nx (2 * k)))) 132 k (ao_o (nx (2 * k + 1))) = s12
    have y12 : ot_y σ s12 := by rw [← hs12]; exact ot_y_I (ot_y_I y (Or.inl (by omega))) (Or.inl (by omega))
    have c : ∀ c, c ≠ 131 → c ≠ 132 → s12.1 c = s.1 c := fun c h1 h2 => by rw [← hs12, ao_sI_o h2, ao_sI_o h1]
    have c1 : s12.1 131 k = ao_o (nx (2 * k)) := by rw [← hs12, ao_sI_o (by omega), ao_sI_s]
    have c2 : s12.1 132 k = ao_o (nx (2 * k + 1)) := by rw [← hs12, ao_sI_s]
    have c3 : ∀ n, n ≠ k → s12.1 131 n = s.1 131 n ∧ s12.1 132 n = s.1 132 n := fun n hn => ⟨by rw [← hs12, ao_sI_o (by omega), ao_sI_i hn], by rw [← hs12, ao_sI_i hn, ao_sI_o (by omega)]⟩
    clear hs12
    have h7 : s12.1 105 7 = nI N := by rw [c 105 (by omega) (by omega)]; exact e7
    obtain ⟨r1, q1, b1⟩ := ot_nodeBit h7 hN (t := nx (2 * k)) (fun m hm => hlt _ (by omega) m hm)
    obtain ⟨r2, q2, b2⟩ := ot_nodeBit h7 hN (t := nx (2 * k + 1)) (fun m hm => hlt _ (by omega) m hm)
    rw [c1, c2, aw_bd_s q1, aw_bd_s q2]
    have bits : ∀ i, i < 32 → (ao_t (r1 ||| r2) i ↔ ao_ed nx k i) := fun i hi => by
      rw [ao_t_or, b1 i hi, b2 i hi]
      exact Iff.rfl
    generalize r1 ||| r2 = r at bits ⊢
    have hz : r = 0 ↔ nx (2 * k) = none := by
      rw [ao_t_nz]
      refine ⟨fun z => ?_, fun z i hi q => ?_⟩
      · cases h : nx (2 * k) with
        | none => rfl
        | some m =>
          have := hlt _ (show 2 * k < 2 * N by omega) m h
          exact absurd ((bits m (by omega)).mpr (Or.inl h)) (z m (by omega))
      · rcases (bits i hi).mp q with w | w
        · rw [z] at w; cases w
        · rw [hT.1.2.2 k hk z] at w; cases w
    have fin : ∀ w, (∀ i, i < 32 → (ao_t w i ↔ nx (2 * k) = none ∧ i = k)) → ao_ok (m_Ot_takeGraph_J103 (aw_sI s12 134 k r) (nI k) ((aw_sI s12 134 k r).1 105 12) w) (Sum.elim (fun s => ot_y σ s ∧ s.1 105 7 = nI N ∧ (∀ i, i < 32 → (ao_t (s.1 105 12) i ↔ i < N ∧ nx (2 * i) = none)) ∧ (∀ n, n < 12 → s.1 133 n = 0) ∧ ∀ n, n < N → s.1 131 n = ao_o (nx (2 * n)) ∧ s.1 132 n = ao_o (nx (2 * n + 1)) ∧ ∀ i, i < 32 → (ao_t (s.1 134 n) i ↔ ao_ed nx n i)) (fun s => s.1 = nI (k + 1) ∧ ot_y σ s.2 ∧ s.2.1 105 7 = nI N ∧ (∀ i, i < 32 → (ao_t (s.2.1 105 12) i ↔ i < k + 1 ∧ nx (2 * i) = none)) ∧ (∀ n, n < 12 → s.2.1 133 n = 0) ∧ ∀ n, n < k + 1 → s.2.1 131 n = ao_o (nx (2 * n)) ∧ s.2.1 132 n = ao_o (nx (2 * n + 1)) ∧ ∀ i, i < 32 → (ao_t (s.2.1 134 n) i ↔ ao_ed nx n i))) := by
      intro w hw
      unfold m_Ot_takeGraph_J103
      rw [ao_ltr, ao_ltr, nI_1]
      refine ao_inr ⟨rfl, ot_y_I (ot_y_I y12 (Or.inl (by omega))) (Or.inr ⟨rfl, by omega⟩), ?_, fun i hi => ?_, fun n hn => ?_, fun n hn => ?_⟩
      · show (aw_sI (aw_sI s12 134 k r) 105 12 _).1 105 7 = _
        rw [ao_sI_i (by omega), ao_sI_o (by omega)]; exact h7
      · show ao_t ((aw_sI (aw_sI s12 134 k r) 105 12 _).1 105 12) i ↔ _
        rw [ao_sI_s, ao_sI_o (by omega), ao_t_or, c 105 (by omega) (by omega), e12 i hi, hw i hi]
        refine ⟨fun z => z.elim (fun z => ⟨by omega, z.2⟩) (fun z => ⟨by omega, by rw [z.2]; exact z.1⟩), fun z => ?_⟩
        by_cases q : i = k
        · exact Or.inr ⟨by rw [← q]; exact z.2, q⟩
        · exact Or.inl ⟨by omega, z.2⟩
      · show (aw_sI (aw_sI s12 134 k r) 105 12 _).1 133 n = 0
        rw [ao_sI_o (by omega), ao_sI_o (by omega), c 133 (by omega) (by omega)]; exact d n hn
      · show (aw_sI (aw_sI s12 134 k r) 105 12 _).1 131 n = _ ∧ (aw_sI (aw_sI s12 134 k r) 105 12 _).1 132 n = _ ∧ ∀ i, i < 32 → (ao_t ((aw_sI (aw_sI s12 134 k r) 105 12 _).1 134 n) i ↔ _)
        rw [ao_sI_o (by omega), ao_sI_o (by omega), ao_sI_o (by omega), ao_sI_o (by omega), ao_sI_o (show 134 ≠ 105 by omega)]
        by_cases q : n = k
        · subst q
          refine ⟨c1, c2, fun i hi => ?_⟩
          rw [ao_sI_s]; exact bits i hi
        · have := D n (by omega)
          refine ⟨(c3 n q).1.trans this.1, (c3 n q).2.trans this.2.1, fun i hi => ?_⟩
          rw [ao_sI_i q, c 134 (by omega) (by omega)]; exact this.2.2 i hi
    rw [show (aw_sI s12 134 k r).1 134 k = r from ao_sI_s _ _ _ _]
    by_cases q : r = 0
    · rw [if_pos q]
      exact fin _ (fun i hi => (ao_t_one (by omega) hi).trans ⟨fun z => ⟨hz.mp q, z⟩, fun z => z.2⟩)
    · rw [if_neg q]
      exact fin _ (fun i hi => ⟨fun z => absurd z ao_t_0, fun z => absurd (hz.mpr z.1) q⟩)
  · rintro ⟨v, s⟩ ⟨e1, y, e7, e12, d, D⟩
    have e1 : v = nI N := e1
    subst e1
    show ao_ok (m_Ot_takeGraph_B23 s (nI N)) _
    unfold m_Ot_takeGraph_B23
    rw [show s.1 105 7 = nI N from e7, if_pos (nI_le (Nat.le_refl _) (by omega))]
    exact ao_inl ⟨y, e7, e12, d, D⟩
  · rintro s2 ⟨y2, e7, e12, d, D⟩
    refine ao_bd (ao_imp (ao_for (Q := fun s => ot_y s2 s ∧ (∀ c, c ≠ 133 → s.1 c = s2.1 c) ∧ ∀ n, n < N → ∀ i, i < 32 → (ao_t (s.1 133 n) i ↔ i < N ∧ ao_ed nx i n)) N (fun k (s : Int32 × aw_S) => s.1 = nI k ∧ ot_y s2 s.2 ∧ (∀ c, c ≠ 133 → s.2.1 c = s2.1 c) ∧ ∀ n, n < N → ∀ i, i < 32 → (ao_t (s.2.1 133 n) i ↔ i < k ∧ ao_ed nx i n)) (a := 0) ⟨rfl, ot_y_rf, fun _ _ => rfl, fun n hn i hi => by show ao_t (s2.1 133 n) i ↔ _; rw [d n (by omega)]; exact ⟨fun z => absurd z ao_t_0, fun z => absurd z.1 (Nat.not_lt_zero _)⟩⟩ (Nat.zero_le _) (by omega) ?_ ?_) ?_)
    · rintro k ⟨v, s⟩ hk ⟨e1, y, f, D2⟩
      have e1 : v = nI k := e1
      subst e1
      have f : ∀ c, c ≠ 133 → s.1 c = s2.1 c := f
      have y : ot_y s2 s := y
      have D2 : ∀ n, n < N → ∀ i, i < 32 → (ao_t (s.1 133 n) i ↔ i < k ∧ ao_ed nx i n) := D2
      show ao_ok (m_Ot_takeGraph_B115 s (nI k)) _
      unfold m_Ot_takeGraph_B115
      rw [show s.1 105 7 = nI N by rw [f 105 (by omega)]; exact e7, if_neg (nI_ge hk (by omega))]
      refine ao_bd (ao_imp (ao_for (Q := fun t => ot_y s2 t ∧ (∀ c, c ≠ 133 → t.1 c = s2.1 c) ∧ ∀ n, n < N → ∀ i, i < 32 → (ao_t (t.1 133 n) i ↔ i < k + 1 ∧ ao_ed nx i n)) N (fun m (t : Int32 × aw_S) => t.1 = nI m ∧ ot_y s2 t.2 ∧ (∀ c, c ≠ 133 → t.2.1 c = s2.1 c) ∧ ∀ n, n < N → ∀ i, i < 32 → (ao_t (t.2.1 133 n) i ↔ (i < k ∨ (i = k ∧ n < m)) ∧ ao_ed nx i n)) (a := 0) ⟨rfl, y, f, fun n hn i hi => (D2 n hn i hi).trans ⟨fun z => ⟨Or.inl z.1, z.2⟩, fun z => ⟨z.1.elim id (fun z => absurd z.2 (Nat.not_lt_zero _)), z.2⟩⟩⟩ (Nat.zero_le _) (by omega) ?_ ?_) ?_)
      · rintro m ⟨w, t⟩ hm ⟨g1, z, g, D3⟩
        have g1 : w = nI m := g1
        subst g1
        have g : ∀ c, c ≠ 133 → t.1 c = s2.1 c := g
        have z : ot_y s2 t := z
        have D3 : ∀ n, n < N → ∀ i, i < 32 → (ao_t (t.1 133 n) i ↔ (i < k ∨ (i = k ∧ n < m)) ∧ ao_ed nx i n) := D3
        show ao_ok (m_Ot_takeGraph_B125 t (nI k) (nI m)) _
        unfold m_Ot_takeGraph_B125
        rw [show t.1 105 7 = nI N by rw [g 105 (by omega)]; exact e7, if_neg (nI_ge hm (by omega))]
        simp (disch := omega) only [ao_gdn, nI_clamp, ao_ltr]
        rw [aw_bd_s (ag_bitOf t _ (by omega)), nI_1]
        refine ao_inr ⟨rfl, ot_y_I z (Or.inl (by omega)), fun c hc => by show (aw_sI t 133 m _).1 c = _; rw [ao_sI_o hc]; exact g c hc, fun n hn i hi => ?_⟩
        show ao_t ((aw_sI t 133 m _).1 133 n) i ↔ _
        by_cases q : n = m
        · subst q
          rw [ao_sI_s, ao_t_or, D3 n hn i hi, ot_sh _ (by omega) hi, g 134 (by omega), (D k hk).2.2 n (by omega)]
          refine ⟨fun z => z.elim (fun z => ⟨z.1.imp id (fun z => absurd z.2 (Nat.lt_irrefl _)), z.2⟩) (fun z => ⟨Or.inr ⟨z.2, by omega⟩, by rw [z.2]; exact z.1⟩), fun z => ?_⟩
          by_cases q : i = k
          · exact Or.inr ⟨by rw [← q]; exact z.2, q⟩
          · exact Or.inl ⟨Or.inl (z.1.elim id (fun z => absurd z.1 q)), z.2⟩
        · rw [ao_sI_i q, D3 n hn i hi]
          exact ⟨fun z => ⟨z.1.imp id (fun z => ⟨z.1, by omega⟩), z.2⟩, fun z => ⟨z.1.imp id (fun z => ⟨z.1, by omega⟩), z.2⟩⟩
      · rintro ⟨w, t⟩ ⟨g1, z, g, D3⟩
        have g1 : w = nI N := g1
        subst g1
        show ao_ok (m_Ot_takeGraph_B125 t (nI k) (nI N)) _
        unfold m_Ot_takeGraph_B125
        rw [show t.1 105 7 = nI N by rw [show t.1 105 = s2.1 105 from g 105 (by omega)]; exact e7, if_pos (nI_le (Nat.le_refl _) (by omega))]
        refine ao_inl ⟨z, g, fun n hn i hi => (D3 n hn i hi).trans ⟨fun z => ⟨by rcases z.1 with z | z <;> omega, z.2⟩, fun z => ⟨by omega, z.2⟩⟩⟩
      · rintro t ⟨z, g, D3⟩
        rw [ao_ltr, nI_1]
        exact ao_inr ⟨rfl, z, g, D3⟩
    · rintro ⟨v, s⟩ ⟨e1, y, f, D2⟩
      have e1 : v = nI N := e1
      subst e1
      show ao_ok (m_Ot_takeGraph_B115 s (nI N)) _
      unfold m_Ot_takeGraph_B115
      rw [show s.1 105 7 = nI N by rw [show s.1 105 = s2.1 105 from f 105 (by omega)]; exact e7, if_pos (nI_le (Nat.le_refl _) (by omega))]
      exact ao_inl ⟨y, f, D2⟩
    · rintro s3 ⟨y3, f, D2⟩
      refine ao_some ⟨ot_y_tr y2 y3, by rw [f 105 (by omega)]; exact e7, fun i hi => by rw [f 105 (by omega)]; exact e12 i hi, fun n hn => ?_⟩
      rw [f 131 (by omega), f 132 (by omega), f 134 (by omega)]
      exact ⟨(D n hn).1, (D n hn).2.1, D2 n hn, (D n hn).2.2⟩
/-- facts of one expression, over the nodes -/
theorem ot_column {s : aw_S} {N row e : Nat} {P : Nat → Prop} (h7 : s.1 105 7 = nI N) (hN : N ≤ 12) (he : e < 32) (h : ∀ n, n < N → (ao_t (s.1 row n) e ↔ P n)) : ∃ r, m_Ot_column s row (nI e) = some r ∧ ∀ i, i < 32 → (ao_t r i ↔ i < N ∧ P i) := by
  unfold m_Ot_column
  have key : ao_ok (aw_lp (fun t => m_Ot_column_B5 s row (nI e) t.1 t.2) aw_fu ((0 : Int32), (0 : Int32))) (fun r => ∀ i, i < 32 → (ao_t r i ↔ i < N ∧ P i)) := by
    refine ao_for N (fun k (t : Int32 × Int32) => t.2 = nI k ∧ ∀ i, i < 32 → (ao_t t.1 i ↔ i < k ∧ P i)) (a := 0) ⟨rfl, fun i hi => ⟨fun z => absurd z ao_t_0, fun z => absurd z.1 (Nat.not_lt_zero _)⟩⟩ (Nat.zero_le _) (by omega) ?_ ?_
    · rintro k ⟨x, v⟩ hk ⟨e1, hx⟩
      have e1 : v = nI k := e1
      subst e1
      have hx : ∀ i, i < 32 → (ao_t x i ↔ i < k ∧ P i) := hx
      show ao_ok (m_Ot_column_B5 s row (nI e) x (nI k)) _
      unfold m_Ot_column_B5
      rw [h7, if_neg (nI_ge hk (by omega)), ao_gdn (by omega) (by omega), nI_clamp (by omega), aw_bd_s (ag_bitOf s _ he), ao_ltr, ao_ltr, nI_1]
      refine ao_inr ⟨rfl, fun i hi => ?_⟩
      show ao_t (x ||| _) i ↔ _
      rw [ao_t_or, hx i hi, ot_sh _ (by omega) hi, h k hk]
      refine ⟨fun z => z.elim (fun z => ⟨by omega, z.2⟩) (fun z => ⟨by omega, by rw [z.2]; exact z.1⟩), fun z => ?_⟩
      by_cases q : i = k
      · exact Or.inr ⟨by rw [← q]; exact z.2, q⟩
      · exact Or.inl ⟨by omega, z.2⟩
    · rintro ⟨x, v⟩ ⟨e1, hx⟩
      have e1 : v = nI N := e1
      subst e1
      show ao_ok (m_Ot_column_B5 s row (nI e) x (nI N)) _
      unfold m_Ot_column_B5
      rw [h7, if_pos (nI_le (Nat.le_refl _) (by omega))]
      exact ao_inl hx
  obtain ⟨r, e1, h1⟩ := key
  exact ⟨r, by rw [aw_bd_s e1], h1⟩
/-- graph and facts -/
def ot_T (s : aw_S) (Γ : ag_T) (e : Nat) : Prop := ot_G s (ag_N Γ) (ag_nx Γ) ∧ (∀ i, i < 32 → (ao_t (s.1 105 8) i ↔ i < ag_N Γ ∧ ag_F Γ e 0 i)) ∧ (∀ i, i < 32 → (ao_t (s.1 105 9) i ↔ i < ag_N Γ ∧ ag_F Γ e 1 i)) ∧ (∀ i, i < 32 → (ao_t (s.1 105 10) i ↔ i < ag_N Γ ∧ ag_F Γ e 2 i)) ∧ ∀ i, i < 32 → (ao_t (s.1 105 11) i ↔ i < ag_N Γ ∧ ag_F Γ e 4 i)
theorem ot_takeFacts {σ : aw_S} {Γ : ag_T} (hN : ag_N Γ ≤ 12) (F : ag_FA σ Γ) {e : Nat} (he : e < ag_X Γ) (hX : ag_X Γ ≤ 24) (hG : ot_G σ (ag_N Γ) (ag_nx Γ)) : ao_ok (m_Ot_takeFacts σ (nI e)) (fun s => ot_y σ s ∧ ot_T s Γ e) := by
  have col : ∀ {s : aw_S} {w : Nat}, w < 8 → s.1 105 7 = nI (ag_N Γ) → s.1 (47 + w) = σ.1 (47 + w) → ∃ r, m_Ot_column s (47 + w) (nI e) = some r ∧ ∀ i, i < 32 → (ao_t r i ↔ i < ag_N Γ ∧ ag_F Γ e w i) := fun {s w} hw h7 hr => ot_column h7 hN (by omega) (fun n hn => by rw [hr]; exact (F.1 w hw n hn e (by omega)).trans ⟨fun z => z.2, fun z => ⟨he, z⟩⟩)
  unfold m_Ot_takeFacts
  obtain ⟨r0, q0, b0⟩ := col (s := σ) (w := 0) (by omega) hG.1 rfl
  rw [aw_bd_s q0, ao_ltr]
  obtain ⟨r1, q1, b1⟩ := col (s := aw_sI σ 105 8 r0) (w := 1) (by omega) (by rw [ao_sI_i (by omega)]; exact hG.1) (ao_sI_o (by omega))
  rw [aw_bd_s q1, ao_ltr]
  obtain ⟨r2, q2, b2⟩ := col (s := aw_sI (aw_sI σ 105 8 r0) 105 9 r1) (w := 2) (by omega) (by rw [ao_sI_i (by omega), ao_sI_i (by omega)]; exact hG.1) (by rw [ao_sI_o (by omega), ao_sI_o (by omega)])
  rw [aw_bd_s q2, ao_ltr]
  obtain ⟨r3, q3, b3⟩ := col (s := aw_sI (aw_sI (aw_sI σ 105 8 r0) 105 9 r1) 105 10 r2) (w := 4) (by omega) (by rw [ao_sI_i (by omega), ao_sI_i (by omega), ao_sI_i (by omega)]; exact hG.1) (by rw [ao_sI_o (by omega), ao_sI_o (by omega), ao_sI_o (by omega)])
  rw [aw_bd_s q3, ao_ltr]
  refine ao_some ⟨ot_y_I (ot_y_I (ot_y_I (ot_y_I ot_y_rf (Or.inr ⟨rfl, by omega⟩)) (Or.inr ⟨rfl, by omega⟩)) (Or.inr ⟨rfl, by omega⟩)) (Or.inr ⟨rfl, by omega⟩), ⟨?_, ?_, ?_⟩, ?_, ?_, ?_, ?_⟩
  · rw [ao_sI_i (by omega), ao_sI_i (by omega), ao_sI_i (by omega), ao_sI_i (by omega)]; exact hG.1
  · rw [ao_sI_i (by omega), ao_sI_i (by omega), ao_sI_i (by omega), ao_sI_i (by omega)]; exact hG.2.1
  · intro n hn
    rw [ao_sI_o (by omega), ao_sI_o (by omega), ao_sI_o (by omega), ao_sI_o (by omega), ao_sI_o (by omega), ao_sI_o (by omega), ao_sI_o (by omega), ao_sI_o (by omega), ao_sI_o (by omega), ao_sI_o (by omega), ao_sI_o (by omega), ao_sI_o (by omega), ao_sI_o (by omega), ao_sI_o (by omega), ao_sI_o (by omega), ao_sI_o (by omega)]
    exact hG.2.2 n hn
  · rw [ao_sI_i (by omega), ao_sI_i (by omega), ao_sI_i (by omega), ao_sI_s]; exact b0
  · rw [ao_sI_i (by omega), ao_sI_i (by omega), ao_sI_s]; exact b1
  · rw [ao_sI_i (by omega), ao_sI_s]; exact b2
  · rw [ao_sI_s]; exact b3

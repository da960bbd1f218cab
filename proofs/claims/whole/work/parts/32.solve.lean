/-! ===== fill, solve ===== -/
theorem ao_fill {σ : aw_S} {c n : Nat} {v : Int32} (hn : n < 2 ^ 31) : ao_ok (m_Ar_fillI σ c n v) (fun σ' => ao_ch [c] [] σ σ' ∧ σ'.2 = σ.2 ∧ ∀ j, j < n → σ'.1 c j = v) := by
  unfold m_Ar_fillI
  refine ao_let (ao_bd (ao_for n (fun k s => s.1 = nI k ∧ ao_ch [c] [] σ s.2 ∧ s.2.2 = σ.2 ∧ ∀ j, j < k → s.2.1 c j = v) (a := 0) ⟨rfl, ao_ch_rf, rfl, fun j hj => absurd hj (Nat.not_lt_zero _)⟩ (Nat.zero_le _) (by omega) ?_ ?_))
  · intro k s hk hs
    obtain ⟨s1, s2⟩ := s
    obtain ⟨e1, hc, h2, hv⟩ := hs
    have e1 : s1 = nI k := e1
    subst e1
    show ao_ok (m_Ar_fillI_B5 s2 c v (nI n) n (nI k)) _
    unfold m_Ar_fillI_B5
    rw [if_neg (nI_ge hk hn), ao_gdn hk hn, nI_clamp (by omega)]
    refine ao_let (ao_let (ao_inr ⟨nI_1 k, ao_ch_tr hc (ao_ch_I (Or.inl List.mem_cons_self)), h2, fun j hj => ?_⟩))
    show (aw_sI s2 c k v).1 c j = v
    by_cases hjk : j = k
    · subst hjk; exact ao_sI_s _ _ _ _
    · rw [ao_sI_i hjk]; exact hv j (by omega)
  · intro s hs
    obtain ⟨s1, s2⟩ := s
    obtain ⟨e1, hc, h2, hv⟩ := hs
    have e1 : s1 = nI n := e1
    subst e1
    show ao_ok (m_Ar_fillI_B5 s2 c v (nI n) n (nI n)) _
    unfold m_Ar_fillI_B5
    rw [if_pos (nI_le (Nat.le_refl _) hn)]
    exact ao_inl (ao_some ⟨hc, h2, hv⟩)
/-- what a node has, by what its neighbours have -/
def ao_FF (σ : aw_S) (N : Nat) (nx : Nat → Option Nat) (d all : Int32) (G : Prop) (e : Nat) (Y : Nat → Prop) (n : Nat) : Prop := ao_t (σ.1 43 n) e ∨ (ao_t (σ.1 44 n) e ∧ ((G ∧ ao_t all e ∧ ∀ m ∈ ao_nb N nx d n, ao_gp σ e m (Y m)) ∨ (¬ G ∧ ∃ m, m ∈ ao_nb N nx d n ∧ ao_gp σ e m (Y m))))
theorem ao_gp_mono {σ : aw_S} {e m : Nat} {p q : Prop} (h : p → q) : ao_gp σ e m p → ao_gp σ e m q := fun hg => hg.imp id (fun x => ⟨x.1, h x.2⟩)
theorem ao_FF_mono {σ : aw_S} {N : Nat} {nx : Nat → Option Nat} (h : ao_tp N nx) (d all : Int32) (G : Prop) (e : Nat) : ao_mono N (ao_FF σ N nx d all G e) := by
  intro Y Z hYZ n hn hf
  rcases hf with hf | ⟨hl, hf⟩
  · exact Or.inl hf
  · refine Or.inr ⟨hl, ?_⟩
    rcases hf with ⟨hg, ha, hf⟩ | ⟨hg, m, hm, hf⟩
    · exact Or.inl ⟨hg, ha, fun m hm => ao_gp_mono (hYZ m (ao_nb_lt h hn hm)) (hf m hm)⟩
    · exact Or.inr ⟨hg, m, hm, ao_gp_mono (hYZ m (ao_nb_lt h hn hm)) hf⟩
theorem ao_in_v {g : Prop} {N : Nat} {F : (Nat → Prop) → Nat → Prop} {st0 vis vis' st : Nat → Prop} (h : ao_in g N F st0 vis st) (hv : ∀ m, vis' m → vis m) : ao_in g N F st0 vis' st := ⟨h.1, h.2.1, h.2.2.1, h.2.2.2.imp id (fun q => ⟨q.1, fun m hm hvm => q.2 m hm (hv m hvm)⟩)⟩
/-- the order in which a round goes -/
def ao_od (N : Nat) (d : Int32) (i : Nat) : Nat := if d = 0 then i else N - 1 - i
theorem ao_od_lt {N : Nat} {d : Int32} {i : Nat} (h : i < N) : ao_od N d i < N := by unfold ao_od; by_cases hd : d = 0 <;> simp only [hd, if_true, if_false] <;> omega
theorem ao_od_all {N : Nat} (d : Int32) {n : Nat} (h : n < N) : ∃ j, j < N ∧ n = ao_od N d j := by
  unfold ao_od
  by_cases hd : d = 0
  · exact ⟨n, h, by rw [if_pos hd]⟩
  · exact ⟨N - 1 - n, by omega, by rw [if_neg hd]; omega⟩
def ao_st (σ : aw_S) (a e : Nat) : Nat → Prop := fun n => ao_t (σ.1 a n) e
/-- within a round -/
def ao_RI (σ0 : aw_S) (N : Nat) (nx : Nat → Option Nat) (a : Nat) (d all g : Int32) (ρ : aw_S) (i : Nat) (v6 : Int32) (s : aw_S) : Prop :=
  ao_ch [a] [] σ0 s ∧ s.2 = σ0.2 ∧ (v6 = 0 ∨ v6 = 1) ∧ (∀ e, e < 32 → ao_in (g ≠ 0) N (ao_FF σ0 N nx d all (g ≠ 0) e) (ao_st ρ a e) (fun m => ∃ j, j < i ∧ m = ao_od N d j) (ao_st s a e)) ∧ (v6 = 0 → ∀ n, n < N → s.1 a n = ρ.1 a n)
theorem ao_cfg {σ0 s : aw_S} {a : Nat} (hc : ao_ch [a] [] σ0 s) {k : Nat} (hk : k ≠ a) : s.1 k = σ0.1 k := ao_ch_row hc k (fun h => hk (List.mem_singleton.mp h)) (fun q hq => absurd hq List.not_mem_nil)
set_option maxHeartbeats 4000000 in
theorem ao_round {σ0 : aw_S} {N : Nat} {nx : Nat → Option Nat} (h : ao_TA σ0 N nx) {a : Nat} (ha : a ∉ [24, 36, 37, 38, 39, 43, 44, 45, 46]) {d all g v7 : Int32} {ρ : aw_S} {i : Nat} {v6 : Int32} {s : aw_S} (hi : i < N) (hI : ao_RI σ0 N nx a d all g ρ i v6 s) (Q : Int32 × aw_S → Prop) : ao_ok (m_Fl_solve_J67 s a all d g v6 v7 (nI i) (nI (ao_od N d i))) (Sum.elim Q (fun t => t.2.1 = nI (i + 1) ∧ ao_RI σ0 N nx a d all g ρ (i + 1) t.1 t.2.2)) := by
  obtain ⟨hc, h2, hv6, hin, hsame⟩ := hI
  have hN := h.1.1
  have hod := ao_od_lt (d := d) hi
  have hne : ∀ k, k ∈ [24, 36, 37, 38, 39, 43, 44, 45, 46] → k ≠ a := fun k hk e => ha (e ▸ hk)
  have hT : ao_TA s N nx := ao_TA_fr h (congrFun (ao_cfg hc (hne 24 (by decide))) 13) (ao_cfg hc (hne 36 (by decide))) (ao_cfg hc (hne 37 (by decide))) (ao_cfg hc (hne 38 (by decide))) (ao_cfg hc (hne 39 (by decide)))
  have e43 := ao_cfg hc (hne 43 (by decide))
  have e44 := ao_cfg hc (hne 44 (by decide))
  have e45 := ao_cfg hc (hne 45 (by decide))
  have e46 := ao_cfg hc (hne 46 (by decide))
  have hgp : ∀ e m p, ao_gp s e m p ↔ ao_gp σ0 e m p := fun e m p => by unfold ao_gp; rw [e45, e46]
  -- what stands behind the update
  have hJ : ∀ (x : Int32) (v6' : Int32), (∀ e, e < 32 → (ao_t x e ↔ ao_FF σ0 N nx d all (g ≠ 0) e (ao_st s a e) (ao_od N d i))) → (v6' = 0 ∨ v6' = 1) → (v6' = 0 → v6 = 0 ∧ x = s.1 a (ao_od N d i)) → ao_ok (m_Fl_solve_J139 s a all d g v7 (nI i) (nI (ao_od N d i)) x v6') (Sum.elim Q (fun t => t.2.1 = nI (i + 1) ∧ ao_RI σ0 N nx a d all g ρ (i + 1) t.1 t.2.2)) := by
    intro x v6' hx hv hz
    unfold m_Fl_solve_J139
    rw [ao_gdn (by omega) (by omega), nI_clamp (by omega)]
    refine ao_let (ao_let (ao_inr ⟨nI_1 i, ao_ch_tr hc (ao_ch_I (Or.inl List.mem_cons_self)), h2, hv, fun e he => ?_, fun h0 n hn => ?_⟩))
    · refine ao_in_v (ao_in_s (ao_FF_mono h.1 d all (g ≠ 0) e) (hin e he) hod (st' := ao_st (aw_sI s a (ao_od N d i) x) a e) ?_ ?_) ?_
      · show ao_t ((aw_sI s a (ao_od N d i) x).1 a (ao_od N d i)) e ↔ _
        rw [ao_sI_s]
        exact hx e he
      · intro m hm hmn
        show ao_t ((aw_sI s a (ao_od N d i) x).1 a m) e ↔ ao_t (s.1 a m) e
        rw [ao_sI_i hmn]
      · rintro m ⟨j, hj, rfl⟩
        by_cases hji : j = i
        · subst hji; exact Or.inr rfl
        · exact Or.inl ⟨j, by omega, rfl⟩
    · obtain ⟨h6, hxs⟩ := hz h0
      show (aw_sI s a (ao_od N d i) x).1 a n = _
      by_cases hn2 : n = ao_od N d i
      · subst hn2; rw [ao_sI_s, hxs]; exact hsame h6 _ hn
      · rw [ao_sI_i hn2]; exact hsame h6 n hn
  have hK : ∀ r, (∀ e, e < 32 → (ao_t ((s.1 43 (ao_od N d i)) ||| ((s.1 44 (ao_od N d i)) &&& r)) e ↔ ao_FF σ0 N nx d all (g ≠ 0) e (ao_st s a e) (ao_od N d i))) → ao_ok (m_Fl_solve_J98 s a all d g v6 v7 (nI i) (nI (ao_od N d i)) r) (Sum.elim Q (fun t => t.2.1 = nI (i + 1) ∧ ao_RI σ0 N nx a d all g ρ (i + 1) t.1 t.2.2)) := by
    intro r hr
    unfold m_Fl_solve_J98
    rw [ao_gdn (by omega) (by omega), ao_gdn (by omega) (by omega), nI_clamp (by omega)]
    refine ao_let (ao_if (fun h0 => ?_) (fun h0 => ?_))
    · rw [ao_gdn (by omega) (by omega)]
      refine ao_if (fun hx => ?_) (fun hx => ?_)
      · exact hJ _ _ hr (Or.inl rfl) (fun _ => ⟨h0, hx⟩)
      · exact hJ _ _ hr (Or.inr rfl) (fun hz => absurd hz (by decide))
    · exact hJ _ _ hr (Or.inr rfl) (fun hz => absurd hz (by decide))
  unfold m_Fl_solve_J67
  refine ao_if (fun hg => ?_) (fun hg => ?_)
  · refine ao_bd (ao_imp (ao_inOne hT d hod) (fun r hr => hK r (fun e he => ?_)))
    rw [ao_t_or, ao_t_and, hr e he, e43, e44]
    unfold ao_FF
    refine or_congr Iff.rfl (and_congr Iff.rfl ⟨fun ⟨m, hm, q⟩ => Or.inr ⟨fun q => q hg, m, hm, (hgp e m _).mp q⟩, fun q => ?_⟩)
    rcases q with ⟨q, _⟩ | ⟨_, m, hm, q⟩
    · exact absurd hg q
    · exact ⟨m, hm, (hgp e m _).mpr q⟩
  · refine ao_bd (ao_imp (ao_inAll hT d all hod) (fun r hr => hK r (fun e he => ?_)))
    rw [ao_t_or, ao_t_and, hr e he, e43, e44]
    unfold ao_FF
    refine or_congr Iff.rfl (and_congr Iff.rfl ⟨fun ⟨ha, q⟩ => Or.inl ⟨hg, ha, fun m hm => (hgp e m _).mp (q m hm)⟩, fun q => ?_⟩)
    rcases q with ⟨_, ha, q⟩ | ⟨q, _⟩
    · exact ⟨ha, fun m hm => (hgp e m _).mpr (q m hm)⟩
    · exact absurd hg q
/-- between rounds -/
def ao_RO (σ0 : aw_S) (N : Nat) (nx : Nat → Option Nat) (a : Nat) (d all g : Int32) (r : Nat) (v6 : Int32) (s : aw_S) : Prop :=
  ao_ch [a] [] σ0 s ∧ s.2 = σ0.2 ∧ (v6 = 0 ∨ v6 = 1) ∧ ∀ e, e < 32 → ao_D (g ≠ 0) N (ao_FF σ0 N nx d all (g ≠ 0) e) (ao_st s a e) ∧ ao_U (g ≠ 0) N (ao_FF σ0 N nx d all (g ≠ 0) e) (ao_st s a e) ∧ (ao_fx N (ao_FF σ0 N nx d all (g ≠ 0) e) (ao_st s a e) ∨ ao_cn (g ≠ 0) N (ao_st s a e) + r ≤ N) ∧ (v6 = 0 → ao_fx N (ao_FF σ0 N nx d all (g ≠ 0) e) (ao_st s a e))
set_option maxHeartbeats 4000000 in
theorem ao_rounds {σ0 : aw_S} {N : Nat} {nx : Nat → Option Nat} (h : ao_TA σ0 N nx) {a : Nat} (ha : a ∉ [24, 36, 37, 38, 39, 43, 44, 45, 46]) {d all g : Int32} {s : aw_S} (hI : ao_RO σ0 N nx a d all g 0 1 s) : ao_ok (aw_lp (fun s => m_Fl_solve_B20 s.2.2 a all d g s.1 s.2.1) aw_fu ((1 : Int32), (0 : Int32), s)) (fun σ' => ao_ch [a] [] σ0 σ' ∧ σ'.2 = σ0.2 ∧ ∀ e, e < 32 → ao_U (g ≠ 0) N (ao_FF σ0 N nx d all (g ≠ 0) e) (ao_st σ' a e) ∧ ao_fx N (ao_FF σ0 N nx d all (g ≠ 0) e) (ao_st σ' a e)) := by
  have hN := h.1.1
  have hne : ∀ k, k ∈ [24, 36, 37, 38, 39, 43, 44, 45, 46] → k ≠ a := fun k hk e => ha (e ▸ hk)
  refine ao_for 1000 (fun r s => s.2.1 = nI r ∧ ao_RO σ0 N nx a d all g r s.1 s.2.2) (a := 0) ⟨rfl, hI⟩ (Nat.zero_le _) (by omega) ?_ ?_
  · intro r s hr hs
    obtain ⟨v6, v7, s⟩ := s
    obtain ⟨e7, hc, h2, hv6, hR⟩ := hs
    have e7 : v7 = nI r := e7
    subst e7
    show ao_ok (m_Fl_solve_B20 s a all d g v6 (nI r)) _
    unfold m_Fl_solve_B20
    refine ao_if (fun h0 => ao_inl ⟨hc, h2, fun e he => ⟨(hR e he).2.1, (hR e he).2.2.2 h0⟩⟩) (fun h0 => ?_)
    rw [if_neg (show ¬ (1000 : Int32) ≤ nI r from nI_ge (b := 1000) hr (by omega))]
    refine ao_bd (ao_imp (ao_for (Q := fun t => ao_RI σ0 N nx a d all g s N t.1 t.2) N (fun i t => t.2.1 = nI i ∧ ao_RI σ0 N nx a d all g s i t.1 t.2.2) (a := 0) ⟨rfl, hc, h2, Or.inl rfl, fun e he => ao_in_v (ao_in_0 (hR e he).1 (hR e he).2.1) (fun m ⟨j, hj, _⟩ => absurd hj (Nat.not_lt_zero _)), fun _ _ _ => rfl⟩ (Nat.zero_le _) (by omega) ?_ ?_) ?_)
    · intro i t hi ht
      obtain ⟨w6, w8, t⟩ := t
      obtain ⟨e8, ht⟩ := ht
      have e8 : w8 = nI i := e8
      subst e8
      show ao_ok (m_Fl_solve_B39 t a all d g (nI r) w6 (nI i)) _
      have eN : t.1 24 13 = nI N := (congrFun (ao_cfg ht.1 (hne 24 (by decide))) 13).trans h.2.1
      unfold m_Fl_solve_B39
      rw [eN, if_neg (nI_ge hi (by omega))]
      have e1 : nI N - 1 - nI i = nI (N - 1 - i) := by
        rw [show (1 : Int32) = nI 1 from rfl, pk_sub (by omega), pk_sub (by omega)]
      by_cases hd : d = 0
      · rw [if_pos hd]
        have := ao_round h ha hi ht (v7 := nI r) (fun t => ao_RI σ0 N nx a d all g s N t.1 t.2)
        unfold ao_od at this
        rw [if_pos hd] at this
        exact this
      · rw [if_neg hd, e1]
        have := ao_round h ha hi ht (v7 := nI r) (fun t => ao_RI σ0 N nx a d all g s N t.1 t.2)
        unfold ao_od at this
        rw [if_neg hd] at this
        exact this
    · intro t ht
      obtain ⟨w6, w8, t⟩ := t
      obtain ⟨e8, ht⟩ := ht
      have e8 : w8 = nI N := e8
      subst e8
      show ao_ok (m_Fl_solve_B39 t a all d g (nI r) w6 (nI N)) _
      have eN : t.1 24 13 = nI N := (congrFun (ao_cfg ht.1 (hne 24 (by decide))) 13).trans h.2.1
      unfold m_Fl_solve_B39
      rw [eN, if_pos (nI_le (Nat.le_refl _) (by omega))]
      exact ao_inl ht
    · intro t ht
      obtain ⟨hc', h2', hv', hin, hz⟩ := ht
      refine ao_let (ao_inr ⟨nI_1 r, hc', h2', hv', fun e he => ?_⟩)
      have hm := ao_FF_mono (σ := σ0) h.1 d all (g ≠ 0) e
      have hvis : ∀ n, n < N → ∃ j, j < N ∧ n = ao_od N d j := fun n hn => ao_od_all d hn
      obtain ⟨q1, q2, q3, q4⟩ := ao_in_e hm (hin e he) hvis
      refine ⟨q1, q2, ?_, fun h6 => ?_⟩
      · rcases (hR e he).2.2.1 with hf | hl
        · exact Or.inl (q4 hf)
        · rcases q3 with q3 | q3
          · have hl : ao_cn (g ≠ 0) N (ao_st s a e) + r ≤ N := hl
            exact Or.inr (show ao_cn (g ≠ 0) N (ao_st t.2 a e) + (r + 1) ≤ N by omega)
          · exact Or.inl q3
      · refine ao_in_same hm (hin e he) hvis (fun m hm => ?_)
        show ao_t (t.2.1 a m) e ↔ ao_t (s.1 a m) e
        rw [hz h6 m hm]
  · intro s hs
    obtain ⟨v6, v7, s⟩ := s
    obtain ⟨e7, hc, h2, hv6, hR⟩ := hs
    have e7 : v7 = nI 1000 := e7
    subst e7
    show ao_ok (m_Fl_solve_B20 s a all d g v6 (nI 1000)) _
    unfold m_Fl_solve_B20
    have hfin : ∀ e, e < 32 → ao_U (g ≠ 0) N (ao_FF σ0 N nx d all (g ≠ 0) e) (ao_st s a e) ∧ ao_fx N (ao_FF σ0 N nx d all (g ≠ 0) e) (ao_st s a e) := fun e he => ⟨(hR e he).2.1, (hR e he).2.2.1.elim id (fun hl => absurd hl (by omega))⟩
    refine ao_if (fun h0 => ao_inl ⟨hc, h2, hfin⟩) (fun h0 => ?_)
    rw [if_pos (show (1000 : Int32) ≤ nI 1000 by decide)]
    exact ao_inl ⟨hc, h2, hfin⟩
/-- SOLVE: the greatest answer (g not 0) or the least, for every bit -/
theorem ao_solve {σ : aw_S} {N : Nat} {nx : Nat → Option Nat} (h : ao_TA σ N nx) {a : Nat} (ha : a ∉ [24, 36, 37, 38, 39, 43, 44, 45, 46]) {d all g : Int32} (hown : g ≠ 0 → ∀ n, n < N → ∀ e, e < 32 → ao_t (σ.1 43 n) e → ao_t all e) : ao_ok (m_Fl_solve σ a all d g) (fun σ' => ao_ch [a] [] σ σ' ∧ σ'.2 = σ.2 ∧ ∀ e, e < 32 → (g ≠ 0 → ao_gf N (ao_FF σ N nx d all True e) (ao_st σ' a e)) ∧ (g = 0 → ao_lf N (ao_FF σ N nx d all False e) (ao_st σ' a e))) := by
  have hN := h.1.1
  have hne : ∀ k, k ∈ [24, 36, 37, 38, 39, 43, 44, 45, 46] → k ≠ a := fun k hk e => ha (e ▸ hk)
  have key : ∀ k1, (g ≠ 0 → k1 = all) → (g = 0 → k1 = 0) → ao_ok (m_Fl_solve_J11 σ a all d g a k1) (fun σ' => ao_ch [a] [] σ σ' ∧ σ'.2 = σ.2 ∧ ∀ e, e < 32 → (g ≠ 0 → ao_gf N (ao_FF σ N nx d all True e) (ao_st σ' a e)) ∧ (g = 0 → ao_lf N (ao_FF σ N nx d all False e) (ao_st σ' a e))) := by
    intro k1 hk1 hk0
    unfold m_Fl_solve_J11
    refine ao_bd (ao_imp (ao_fill (by omega)) (fun s hs => ?_))
    obtain ⟨hc, h2, hv⟩ := hs
    refine ao_bd (ao_imp (ao_rounds h ha ⟨hc, h2, Or.inr rfl, fun e he => ?_⟩) (fun t ht => ao_some ⟨ht.1, ht.2.1, fun e he => ⟨fun hg => ?_, fun hg => ?_⟩⟩))
    · have hst : ∀ n, n < N → (ao_st s a e n ↔ ao_t k1 e) := fun n hn => by unfold ao_st; rw [hv n (by omega)]
      refine ⟨fun n hn => ⟨fun hg hf => ?_, fun hg hs => ?_⟩, fun Y hY n hn => ⟨fun hg hy => ?_, fun hg hs => ?_⟩, Or.inr ?_, fun h1 => absurd h1 (by decide)⟩
      · rw [hst n hn, hk1 hg]
        rcases hf with hf | ⟨_, ⟨_, hf, _⟩ | ⟨hf, _⟩⟩
        · exact hown hg n hn e he hf
        · exact hf
        · exact absurd hg hf
      · rw [hst n hn, hk0 (Classical.not_not.mp hg)] at hs
        exact absurd hs ao_t_0
      · rw [hst n hn, hk1 hg]
        rcases (hY n hn).1 hg hy with hf | ⟨_, ⟨_, hf, _⟩ | ⟨hf, _⟩⟩
        · exact hown hg n hn e he hf
        · exact hf
        · exact absurd hg hf
      · rw [hst n hn, hk0 (Classical.not_not.mp hg)] at hs
        exact absurd hs ao_t_0
      · exact ao_cn_N _ _ _
    · have q := ht.2.2 e he
      have eg : (g ≠ 0) = True := propext ⟨fun _ => trivial, fun _ => hg⟩
      rw [eg] at q
      exact ao_gf_of q.1 q.2
    · have q := ht.2.2 e he
      have eg : (g ≠ 0) = False := propext ⟨fun x => x hg, fun x => x.elim⟩
      rw [eg] at q
      exact ao_lf_of q.1 q.2
  unfold m_Fl_solve
  refine ao_if (fun hg => ?_) (fun hg => ?_)
  · exact key 0 (fun q => absurd hg q) (fun _ => rfl)
  · exact key all (fun _ => rfl) (fun q => absurd q hg)

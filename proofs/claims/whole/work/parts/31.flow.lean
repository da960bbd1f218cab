/-! ===== Flow: what solve comes to, bit by bit ===== -/
/-- the neighbours: those to which edges lead (d not 0), those from which they come -/
def ao_nb (N : Nat) (nx : Nat → Option Nat) (d : Int32) (n : Nat) : List Nat := if d = 0 then ao_pl N nx n else ao_sl nx n
theorem ao_nb_len (N : Nat) (nx : Nat → Option Nat) (d : Int32) (n : Nat) : (ao_nb N nx d n).length ≤ N + 2 := by
  unfold ao_nb
  by_cases h : d = 0
  · rw [if_pos h]
    unfold ao_pl
    have := List.length_filter_le (fun p => decide (nx (2 * p) = some n ∨ nx (2 * p + 1) = some n)) (List.range N)
    rw [List.length_range] at this
    omega
  · rw [if_neg h]
    unfold ao_sl
    rw [List.length_append]
    cases nx (2 * n) <;> cases nx (2 * n + 1) <;> simp [Option.toList]
theorem ao_nb_lt {N : Nat} {nx : Nat → Option Nat} (h : ao_tp N nx) {d : Int32} {n m : Nat} (hn : n < N) (hm : m ∈ ao_nb N nx d n) : m < N := by
  unfold ao_nb at hm
  by_cases hd : d = 0
  · rw [if_pos hd] at hm; exact (ao_pl_mem.mp hm).1
  · rw [if_neg hd] at hm; exact ao_ed_lt h hn (ao_sl_mem.mp hm)
theorem ao_side {σ : aw_S} {N : Nat} (h1 : σ.1 24 13 = nI N) (hN : N ≤ 112) {a m : Nat} (hm : m < N) : m_Fl_side σ a (nI m) = some ((σ.1 45 m) ||| ((σ.1 46 m) &&& (σ.1 a m))) := by
  unfold m_Fl_side
  rw [aw_bd_s (ao_isNode h1 hN hm), if_neg (by decide), ao_gdn (by omega) (by omega), ao_gdn (by omega) (by omega), ao_gdn (by omega) (by omega), nI_clamp (by omega)]
/-- what a neighbour has for one -/
def ao_gp (σ : aw_S) (e m : Nat) (p : Prop) : Prop := ao_t (σ.1 45 m) e ∨ ao_t (σ.1 46 m) e ∧ p
theorem ao_t_side {σ : aw_S} {a e m : Nat} : ao_t ((σ.1 45 m) ||| ((σ.1 46 m) &&& (σ.1 a m))) e ↔ ao_gp σ e m (ao_t (σ.1 a m) e) := by rw [ao_t_or, ao_t_and]; exact Iff.rfl
set_option maxHeartbeats 4000000 in
theorem ao_inAll {σ : aw_S} {N : Nat} {nx : Nat → Option Nat} (h : ao_TA σ N nx) {a n : Nat} (d all : Int32) (hn : n < N) : ao_ok (m_Fl_inAll σ a (nI n) d all) (fun r => ∀ e, e < 32 → (ao_t r e ↔ ao_t all e ∧ ∀ m ∈ ao_nb N nx d n, ao_gp σ e m (ao_t (σ.1 a m) e))) := by
  have hN := h.1.1
  have hlen := ao_nb_len N nx d n
  have key : ao_ok (m_Fl_inAll_J22 σ a (nI n) d all (nI (ao_nb N nx d n).length)) (fun r => ∀ e, e < 32 → (ao_t r e ↔ ao_t all e ∧ ∀ m ∈ ao_nb N nx d n, ao_gp σ e m (ao_t (σ.1 a m) e))) := by
    unfold m_Fl_inAll_J22
    refine ao_bd (ao_for (ao_nb N nx d n).length (fun k s => s.2 = nI k ∧ ∀ e, e < 32 → (ao_t s.1 e ↔ ao_t all e ∧ ∀ j m, j < k → (ao_nb N nx d n)[j]? = some m → ao_gp σ e m (ao_t (σ.1 a m) e))) (a := 0) ⟨rfl, fun e he => ⟨fun q => ⟨q, fun j m hj => absurd hj (Nat.not_lt_zero _)⟩, fun q => q.1⟩⟩ (Nat.zero_le _) (by omega) ?_ ?_)
    · intro k s hk hs
      obtain ⟨s1, s2⟩ := s
      obtain ⟨e2, hi⟩ := hs
      have e2 : s2 = nI k := e2
      subst e2
      show ao_ok (m_Fl_inAll_B27 σ a (nI n) d (nI (ao_nb N nx d n).length) s1 (nI k)) _
      unfold m_Fl_inAll_B27
      rw [if_neg (nI_ge hk (by omega))]
      obtain ⟨m, hm⟩ : ∃ m, (ao_nb N nx d n)[k]? = some m := ⟨_, List.getElem?_eq_getElem hk⟩
      have hmN := ao_nb_lt h.1 hn (List.mem_of_getElem? hm)
      have hJ : ∀ (Q : Int32 → Prop), ao_ok (m_Fl_inAll_J61 σ a (nI n) d (nI (ao_nb N nx d n).length) (nI k) s1 a (nI m)) (Sum.elim Q (fun s' => s'.2 = nI (k + 1) ∧ ∀ e, e < 32 → (ao_t s'.1 e ↔ ao_t all e ∧ ∀ j m, j < k + 1 → (ao_nb N nx d n)[j]? = some m → ao_gp σ e m (ao_t (σ.1 a m) e)))) := by
        intro Q
        unfold m_Fl_inAll_J61
        refine ao_bde (ao_side h.2.1 hN hmN) (ao_let (ao_let (ao_inr ⟨nI_1 k, fun e he => ?_⟩)))
        show ao_t (s1 &&& _) e ↔ _
        rw [ao_t_and, ao_t_side, hi e he]
        refine ⟨fun q => ⟨q.1.1, fun j m' hj hm' => ?_⟩, fun q => ⟨⟨q.1, fun j m' hj hm' => q.2 j m' (by omega) hm'⟩, q.2 k m (by omega) hm⟩⟩
        by_cases hjk : j = k
        · subst hjk
          rw [hm] at hm'
          cases hm'
          exact q.2
        · exact q.1.2 j m' (by omega) hm'
      by_cases hd : d = 0
      · rw [if_pos hd]
        refine ao_bde (ao_before h hn (k := k) (x := m) ?_) (hJ _)
        rw [← hm]; unfold ao_nb; rw [if_pos hd]
      · rw [if_neg hd]
        refine ao_bde (ao_next h hn (k := k) (x := m) ?_) (hJ _)
        rw [← hm]; unfold ao_nb; rw [if_neg hd]
    · intro s hs
      obtain ⟨s1, s2⟩ := s
      obtain ⟨e2, hi⟩ := hs
      have e2 : s2 = nI _ := e2
      subst e2
      show ao_ok (m_Fl_inAll_B27 σ a (nI n) d (nI (ao_nb N nx d n).length) s1 (nI (ao_nb N nx d n).length)) _
      unfold m_Fl_inAll_B27
      rw [if_pos (nI_le (Nat.le_refl _) (by omega))]
      refine ao_inl (ao_some fun e he => ?_)
      rw [hi e he]
      refine ⟨fun q => ⟨q.1, fun m hm => ?_⟩, fun q => ⟨q.1, fun j m _ hm => q.2 m (List.mem_of_getElem? hm)⟩⟩
      obtain ⟨j, hj⟩ := List.getElem?_of_mem hm
      exact q.2 j m (List.getElem?_eq_some_iff.mp hj).1 hj
  unfold m_Fl_inAll
  by_cases hd : d = 0
  · rw [if_pos hd]
    refine ao_bde (ao_comes h hn) ?_
    have e : (ao_nb N nx d n).length = (ao_pl N nx n).length := by unfold ao_nb; rw [if_pos hd]
    rw [← e]; exact key
  · rw [if_neg hd]
    refine ao_bde (ao_leads h hn) ?_
    have e : (ao_nb N nx d n).length = (ao_sl nx n).length := by unfold ao_nb; rw [if_neg hd]
    rw [← e]; exact key
set_option maxHeartbeats 4000000 in
theorem ao_inOne {σ : aw_S} {N : Nat} {nx : Nat → Option Nat} (h : ao_TA σ N nx) {a n : Nat} (d : Int32) (hn : n < N) : ao_ok (m_Fl_inOne σ a (nI n) d) (fun r => ∀ e, e < 32 → (ao_t r e ↔ ∃ m, m ∈ ao_nb N nx d n ∧ ao_gp σ e m (ao_t (σ.1 a m) e))) := by
  have hN := h.1.1
  have hlen := ao_nb_len N nx d n
  have key : ao_ok (m_Fl_inOne_J21 σ a (nI n) d 0 (nI (ao_nb N nx d n).length)) (fun r => ∀ e, e < 32 → (ao_t r e ↔ ∃ m, m ∈ ao_nb N nx d n ∧ ao_gp σ e m (ao_t (σ.1 a m) e))) := by
    unfold m_Fl_inOne_J21
    refine ao_bd (ao_for (ao_nb N nx d n).length (fun k s => s.2 = nI k ∧ ∀ e, e < 32 → (ao_t s.1 e ↔ ∃ j m, j < k ∧ (ao_nb N nx d n)[j]? = some m ∧ ao_gp σ e m (ao_t (σ.1 a m) e))) (a := 0) ⟨rfl, fun e he => ⟨fun q => absurd q ao_t_0, fun ⟨j, m, hj, _⟩ => absurd hj (Nat.not_lt_zero _)⟩⟩ (Nat.zero_le _) (by omega) ?_ ?_)
    · intro k s hk hs
      obtain ⟨s1, s2⟩ := s
      obtain ⟨e2, hi⟩ := hs
      have e2 : s2 = nI k := e2
      subst e2
      show ao_ok (m_Fl_inOne_B26 σ a (nI n) d (nI (ao_nb N nx d n).length) s1 (nI k)) _
      unfold m_Fl_inOne_B26
      rw [if_neg (nI_ge hk (by omega))]
      obtain ⟨m, hm⟩ : ∃ m, (ao_nb N nx d n)[k]? = some m := ⟨_, List.getElem?_eq_getElem hk⟩
      have hmN := ao_nb_lt h.1 hn (List.mem_of_getElem? hm)
      have hJ : ∀ (Q : Int32 → Prop), ao_ok (m_Fl_inOne_J60 σ a (nI n) d (nI (ao_nb N nx d n).length) (nI k) s1 a (nI m)) (Sum.elim Q (fun s' => s'.2 = nI (k + 1) ∧ ∀ e, e < 32 → (ao_t s'.1 e ↔ ∃ j m, j < k + 1 ∧ (ao_nb N nx d n)[j]? = some m ∧ ao_gp σ e m (ao_t (σ.1 a m) e)))) := by
        intro Q
        unfold m_Fl_inOne_J60
        refine ao_bde (ao_side h.2.1 hN hmN) (ao_let (ao_let (ao_inr ⟨nI_1 k, fun e he => ?_⟩)))
        show ao_t (s1 ||| _) e ↔ _
        rw [ao_t_or, ao_t_side, hi e he]
        refine ⟨fun q => ?_, fun q => ?_⟩
        · rcases q with ⟨j, m', hj, hm', hg⟩ | q
          · exact ⟨j, m', by omega, hm', hg⟩
          · exact ⟨k, m, by omega, hm, q⟩
        · obtain ⟨j, m', hj, hm', hg⟩ := q
          by_cases hjk : j = k
          · subst hjk
            rw [hm] at hm'
            cases hm'
            exact Or.inr hg
          · exact Or.inl ⟨j, m', by omega, hm', hg⟩
      by_cases hd : d = 0
      · rw [if_pos hd]
        refine ao_bde (ao_before h hn (k := k) (x := m) ?_) (hJ _)
        rw [← hm]; unfold ao_nb; rw [if_pos hd]
      · rw [if_neg hd]
        refine ao_bde (ao_next h hn (k := k) (x := m) ?_) (hJ _)
        rw [← hm]; unfold ao_nb; rw [if_neg hd]
    · intro s hs
      obtain ⟨s1, s2⟩ := s
      obtain ⟨e2, hi⟩ := hs
      have e2 : s2 = nI _ := e2
      subst e2
      show ao_ok (m_Fl_inOne_B26 σ a (nI n) d (nI (ao_nb N nx d n).length) s1 (nI (ao_nb N nx d n).length)) _
      unfold m_Fl_inOne_B26
      rw [if_pos (nI_le (Nat.le_refl _) (by omega))]
      refine ao_inl (ao_some fun e he => ?_)
      rw [hi e he]
      refine ⟨fun ⟨j, m, _, hm, hg⟩ => ⟨m, List.mem_of_getElem? hm, hg⟩, fun ⟨m, hm, hg⟩ => ?_⟩
      obtain ⟨j, hj⟩ := List.getElem?_of_mem hm
      exact ⟨j, m, (List.getElem?_eq_some_iff.mp hj).1, hj, hg⟩
  unfold m_Fl_inOne
  by_cases hd : d = 0
  · rw [if_pos hd]
    refine ao_bde (ao_comes h hn) ?_
    have e : (ao_nb N nx d n).length = (ao_pl N nx n).length := by unfold ao_nb; rw [if_pos hd]
    rw [← e]; exact key
  · rw [if_neg hd]
    refine ao_bde (ao_leads h hn) ?_
    have e : (ao_nb N nx d n).length = (ao_sl nx n).length := by unfold ao_nb; rw [if_neg hd]
    rw [← e]; exact key

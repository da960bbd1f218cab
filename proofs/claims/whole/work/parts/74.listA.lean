/-! ===== the class: the lists of nodes that lead to a node ===== -/
theorem ao_pl_0 {nx : Nat → Option Nat} {n : Nat} : ao_pl 0 nx n = [] := rfl
theorem ao_pl_s1 {k : Nat} {nx : Nat → Option Nat} {n : Nat} (h : ao_ed nx k n) : ao_pl (k + 1) nx n = ao_pl k nx n ++ [k] := by
  unfold ao_ed at h
  unfold ao_pl
  rw [show List.range (k + 1) = List.range k ++ [k] from List.range_succ, List.filter_append]
  refine congrArg _ ?_
  rw [List.filter_cons, if_pos (decide_eq_true h)]
  rfl
theorem ao_pl_s0 {k : Nat} {nx : Nat → Option Nat} {n : Nat} (h : ¬ ao_ed nx k n) : ao_pl (k + 1) nx n = ao_pl k nx n := by
  unfold ao_ed at h
  unfold ao_pl
  rw [show List.range (k + 1) = List.range k ++ [k] from List.range_succ, List.filter_append, List.filter_cons, if_neg (fun z => h (of_decide_eq_true z))]
  exact List.append_nil _
theorem ap_app {L : List Nat} {k j p : Nat} (h : (L ++ [k])[j]? = some p) : (j < L.length ∧ L[j]? = some p) ∨ (j = L.length ∧ p = k) := by
  by_cases q : j < L.length
  · rw [List.getElem?_append_left q] at h; exact Or.inl ⟨q, h⟩
  · have hj := (List.getElem?_eq_some_iff.mp h).1
    rw [List.length_append] at hj
    have hj : j < L.length + 1 := hj
    have e : j = L.length := by omega
    rw [e, List.getElem?_concat_length] at h
    exact Or.inr ⟨e, (Option.some.inj h).symm⟩
theorem ao_n_add {X Y : Nat → Prop} (hd : ∀ j, X j → Y j → False) (m : Nat) : ao_n X m + ao_n Y m ≤ ao_n (fun j => X j ∨ Y j) m := by
  induction m with
  | zero => exact Nat.le_refl _
  | succ m ih =>
    by_cases q : X m
    · rw [ao_n_s1 q, ao_n_s0 (fun z => hd m q z), ao_n_s1 (X := fun j => X j ∨ Y j) (Or.inl q)]
      omega
    · by_cases q' : Y m
      · rw [ao_n_s0 q, ao_n_s1 q', ao_n_s1 (X := fun j => X j ∨ Y j) (Or.inr q')]
        omega
      · rw [ao_n_s0 q, ao_n_s0 q', ao_n_s0 (X := fun j => X j ∨ Y j) (fun z => z.elim q q')]
        exact ih
theorem ao_pl_n {nx : Nat → Option Nat} {n : Nat} (k : Nat) : (ao_pl k nx n).length ≤ ao_n (fun j => nx j = some n) (2 * k) := by
  induction k with
  | zero => exact Nat.le_refl _
  | succ k ih =>
    have m1 : ao_n (fun j => nx j = some n) (2 * k) ≤ ao_n (fun j => nx j = some n) (2 * k + 1) := ao_n_le2 (by omega)
    have m2 : ao_n (fun j => nx j = some n) (2 * k + 1) ≤ ao_n (fun j => nx j = some n) (2 * k + 1 + 1) := ao_n_le2 (by omega)
    rw [show 2 * (k + 1) = 2 * k + 1 + 1 by omega]
    by_cases q : ao_ed nx k n
    · rw [ao_pl_s1 q, List.length_append, show [k].length = 1 from rfl]
      rcases q with q | q
      · have e : ao_n (fun j => nx j = some n) (2 * k + 1) = ao_n (fun j => nx j = some n) (2 * k) + 1 := ao_n_s1 q
        omega
      · have e : ao_n (fun j => nx j = some n) (2 * k + 1 + 1) = ao_n (fun j => nx j = some n) (2 * k + 1) + 1 := ao_n_s1 q
        omega
    · rw [ao_pl_s0 q]
      omega
def ao_fs (N : Nat) (nx : Nat → Option Nat) : Nat → Nat
  | 0 => 0
  | n + 1 => ao_fs N nx n + (ao_pl N nx n).length
theorem ao_fs_mono {N : Nat} {nx : Nat → Option Nat} {a b : Nat} (h : a ≤ b) : ao_fs N nx a ≤ ao_fs N nx b := by
  induction b with
  | zero => rw [show a = 0 by omega]; exact Nat.le_refl _
  | succ b ih =>
    by_cases q : a = b + 1
    · rw [q]; exact Nat.le_refl _
    · exact Nat.le_trans (ih (by omega)) (by show _ ≤ ao_fs N nx b + _; omega)
theorem ao_fs_n {N : Nat} {nx : Nat → Option Nat} (n : Nat) : ao_fs N nx n ≤ ao_n (fun j => ∃ t, t < n ∧ nx j = some t) (2 * N) := by
  induction n with
  | zero => exact Nat.zero_le _
  | succ n ih =>
    have h1 := ao_pl_n (nx := nx) (n := n) N
    have h2 := ao_n_add (X := fun j => ∃ t, t < n ∧ nx j = some t) (Y := fun j => nx j = some n) (fun j ⟨t, ht, e⟩ e' => by rw [e] at e'; cases e'; omega) (2 * N)
    have h3 : ao_n (fun j => (∃ t, t < n ∧ nx j = some t) ∨ nx j = some n) (2 * N) ≤ ao_n (fun j => ∃ t, t < n + 1 ∧ nx j = some t) (2 * N) := ao_n_mono (fun j _ z => by
      rcases z with ⟨t, ht, e⟩ | e
      · exact ⟨t, by omega, e⟩
      · exact ⟨n, by omega, e⟩)
    show ao_fs N nx n + _ ≤ _
    omega
theorem ao_fs_le {N : Nat} {nx : Nat → Option Nat} {n : Nat} : ao_fs N nx n ≤ 2 * N := Nat.le_trans (ao_fs_n n) (ao_n_le _ _)
theorem ao_pl_le {N k : Nat} {nx : Nat → Option Nat} {n : Nat} (h : k ≤ N) : ao_fs N nx n + (ao_pl k nx n).length ≤ 2 * N := by
  have h0 : (ao_pl k nx n).length ≤ (ao_pl N nx n).length := by
    induction N with
    | zero => rw [show k = 0 by omega]; exact Nat.le_refl _
    | succ N ih =>
      by_cases q : k = N + 1
      · rw [q]; exact Nat.le_refl _
      · have := ih (by omega)
        by_cases q2 : ao_ed nx N n
        · rw [ao_pl_s1 q2, List.length_append]; omega
        · rw [ao_pl_s0 q2]; exact this
  have := ao_fs_le (N := N) (nx := nx) (n := n + 1)
  have e : ao_fs N nx (n + 1) = ao_fs N nx n + (ao_pl N nx n).length := rfl
  omega
set_option maxHeartbeats 4000000 in
theorem ap_list1 {σ : aw_S} {N : Nat} {nx : Nat → Option Nat} (hN : N ≤ 112) (h13 : σ.1 24 13 = nI N) (hx : ∀ m, m < N → σ.1 36 m = ao_o (nx (2 * m)) ∧ σ.1 37 m = ao_o (nx (2 * m + 1))) (hb : ∀ k t, k < 2 * N → nx k = some t → t < N) {n : Nat} (hn : n < N) : ao_ok (aw_lp (fun s => m_Gr_listFrom_B21 s.2.2 (nI n) s.1 s.2.1) aw_fu (nI (ao_fs N nx n), (0 : Int32), σ)) (fun r => r.1 = nI (ao_fs N nx (n + 1)) ∧ r.2.2 = σ.2 ∧ (∀ c, c ≠ 38 → r.2.1 c = σ.1 c) ∧ (∀ i, i < ao_fs N nx n → r.2.1 38 i = σ.1 38 i) ∧ ∀ j p, (ao_pl N nx n)[j]? = some p → r.2.1 38 (ao_fs N nx n + j) = nI p) := by
  refine ao_for N (fun k (s : Int32 × Int32 × aw_S) => s.1 = nI (ao_fs N nx n + (ao_pl k nx n).length) ∧ s.2.1 = nI k ∧ s.2.2.2 = σ.2 ∧ (∀ c, c ≠ 38 → s.2.2.1 c = σ.1 c) ∧ (∀ i, i < ao_fs N nx n → s.2.2.1 38 i = σ.1 38 i) ∧ ∀ j p, (ao_pl k nx n)[j]? = some p → s.2.2.1 38 (ao_fs N nx n + j) = nI p) (a := 0) ⟨rfl, rfl, rfl, fun _ _ => rfl, fun _ _ => rfl, fun j p hp => ?_⟩ (Nat.zero_le _) (by omega) ?_ ?_
  · rw [ao_pl_0] at hp; cases hp
  · rintro k ⟨x, y, s⟩ hk ⟨e1, e2, l, f, g, d⟩
    have e1 : x = nI (ao_fs N nx n + (ao_pl k nx n).length) := e1
    have e2 : y = nI k := e2
    subst e1
    subst e2
    have l : s.2 = σ.2 := l
    have f : ∀ c, c ≠ 38 → s.1 c = σ.1 c := f
    have g : ∀ i, i < ao_fs N nx n → s.1 38 i = σ.1 38 i := g
    have d : ∀ j p, (ao_pl k nx n)[j]? = some p → s.1 38 (ao_fs N nx n + j) = nI p := d
    have hle := ao_pl_le (N := N) (nx := nx) (n := n) (show k ≤ N by omega)
    have a36 : s.1 36 k = ao_o (nx (2 * k)) := (congrFun (f 36 (by omega)) k).trans (hx k hk).1
    have a37 : s.1 37 k = ao_o (nx (2 * k + 1)) := (congrFun (f 37 (by omega)) k).trans (hx k hk).2
    have q36 : ao_o (nx (2 * k)) = nI n ↔ nx (2 * k) = some n := ao_o_inj (u := some n) (fun t ht => by have := hb (2 * k) t (by omega) ht; omega) (fun t ht => by cases ht; omega)
    have q37 : ao_o (nx (2 * k + 1)) = nI n ↔ nx (2 * k + 1) = some n := ao_o_inj (u := some n) (fun t ht => by have := hb (2 * k + 1) t (by omega) ht; omega) (fun t ht => by cases ht; omega)
    have put : ao_ed nx k n → ao_ok (m_Gr_listFrom_J56 s (nI (ao_fs N nx n + (ao_pl k nx n).length)) (nI n) (nI k)) (Sum.elim (fun r => r.1 = nI (ao_fs N nx (n + 1)) ∧ r.2.2 = σ.2 ∧ (∀ c, c ≠ 38 → r.2.1 c = σ.1 c) ∧ (∀ i, i < ao_fs N nx n → r.2.1 38 i = σ.1 38 i) ∧ ∀ j p, (ao_pl N nx n)[j]? = some p → r.2.1 38 (ao_fs N nx n + j) = nI p) (fun (s : Int32 × Int32 × aw_S) => s.1 = nI (ao_fs N nx n + (ao_pl (k + 1) nx n).length) ∧ s.2.1 = nI (k + 1) ∧ s.2.2.2 = σ.2 ∧ (∀ c, c ≠ 38 → s.2.2.1 c = σ.1 c) ∧ (∀ i, i < ao_fs N nx n → s.2.2.1 38 i = σ.1 38 i) ∧ ∀ j p, (ao_pl (k + 1) nx n)[j]? = some p → s.2.2.1 38 (ao_fs N nx n + j) = nI p)) := by
      intro q
      rw [ao_pl_s1 q, List.length_append, show [k].length = 1 from rfl]
      unfold m_Gr_listFrom_J56
      rw [ao_gdn (by omega) (by omega), nI_clamp (show ao_fs N nx n + (ao_pl k nx n).length < 2 ^ 31 by omega), nI_1]
      refine ao_let (ao_let (ao_let (ao_inr ⟨rfl, nI_1 k, l, fun c hc => (ao_sI_o hc).trans (f c hc), fun i hi => (ao_sI_i (by omega)).trans (g i hi), fun j p hp => ?_⟩)))
      rcases ap_app hp with ⟨h1, h2⟩ | ⟨h1, h2⟩
      · exact (ao_sI_i (by omega)).trans (d j p h2)
      · rw [h1, h2]; exact ao_sI_s _ _ _ _
    show ao_ok (m_Gr_listFrom_B21 s (nI n) (nI (ao_fs N nx n + (ao_pl k nx n).length)) (nI k)) _
    unfold m_Gr_listFrom_B21
    rw [show s.1 24 13 = nI N from (congrFun (f 24 (by omega)) 13).trans h13, if_neg (nI_ge hk (by omega)), if_neg (show ¬ (256 : Int32) ≤ nI (ao_fs N nx n + (ao_pl k nx n).length) from nI_ge (b := 256) (by omega) (by omega)), ao_gdn (by omega) (by omega), nI_clamp (show k < 2 ^ 31 by omega), a36]
    by_cases c1 : nx (2 * k) = some n
    · exact ao_ifp (q36.mpr c1) (put (Or.inl c1))
    · refine ao_ifn (fun z => c1 (q36.mp z)) ?_
      rw [ao_gdn (by omega) (by omega), a37]
      by_cases c2 : nx (2 * k + 1) = some n
      · exact ao_ifp (q37.mpr c2) (put (Or.inr c2))
      · refine ao_ifn (fun z => c2 (q37.mp z)) ?_
        show ao_ok (m_Gr_listFrom_J66 s (nI (ao_fs N nx n + (ao_pl k nx n).length)) (nI n) (nI k)) _
        have e := ao_pl_s0 (k := k) (nx := nx) (n := n) (fun z => z.elim c1 c2)
        refine ao_let (ao_inr ⟨by rw [e], nI_1 k, l, f, g, fun j p hp => ?_⟩)
        rw [e] at hp
        exact d j p hp
  · rintro ⟨x, y, s⟩ ⟨e1, e2, l, f, g, d⟩
    have e2 : y = nI N := e2
    subst e2
    show ao_ok (m_Gr_listFrom_B21 s (nI n) x (nI N)) _
    unfold m_Gr_listFrom_B21
    rw [show s.1 24 13 = nI N from (congrFun (f 24 (by omega)) 13).trans h13, if_pos (nI_le (Nat.le_refl _) (by omega))]
    exact ao_inl ⟨e1, l, f, g, d⟩

/-! ===== the class: all lists; its edges stand ===== -/
def ap_LI (σ : aw_S) (N : Nat) (nx : Nat → Option Nat) (n : Nat) (s : aw_S) : Prop := s.2 = σ.2 ∧ (∀ c, c ≠ 38 → c ≠ 39 → s.1 c = σ.1 c) ∧ (∀ m, m < n → s.1 39 m = nI (ao_fs N nx m)) ∧ ∀ m, m < n → ∀ j p, (ao_pl N nx m)[j]? = some p → s.1 38 (ao_fs N nx m + j) = nI p
set_option maxHeartbeats 4000000 in
theorem ap_list {σ : aw_S} {N : Nat} {nx : Nat → Option Nat} (ht : ao_tp N nx) (h13 : σ.1 24 13 = nI N) (hx : ∀ m, m < N → σ.1 36 m = ao_o (nx (2 * m)) ∧ σ.1 37 m = ao_o (nx (2 * m + 1))) : ao_ok (m_Gr_listFrom σ) (fun s => s.2 = σ.2 ∧ (∀ c, c ≠ 38 → c ≠ 39 → s.1 c = σ.1 c) ∧ ao_TA s N nx) := by
  have hN := ht.1
  have hb : ∀ k t, k < 2 * N → nx k = some t → t < N := fun k t hk e => ht.2.1 k hk t e
  unfold m_Gr_listFrom
  refine ao_bd (ao_imp (ao_for (Q := fun (r : Int32 × aw_S) => r.1 = nI (ao_fs N nx N) ∧ ap_LI σ N nx N r.2) N (fun n (s : Int32 × Int32 × aw_S) => s.1 = nI (ao_fs N nx n) ∧ s.2.1 = nI n ∧ ap_LI σ N nx n s.2.2) (a := 0) ⟨rfl, rfl, rfl, fun _ _ _ => rfl, fun m hm => absurd hm (Nat.not_lt_zero _), fun m hm => absurd hm (Nat.not_lt_zero _)⟩ (Nat.zero_le _) (by omega) ?_ ?_) ?_)
  · rintro n ⟨x, y, s⟩ hn ⟨e1, e2, l, f, a, d⟩
    have e1 : x = nI (ao_fs N nx n) := e1
    have e2 : y = nI n := e2
    subst e1
    subst e2
    have l : s.2 = σ.2 := l
    have f : ∀ c, c ≠ 38 → c ≠ 39 → s.1 c = σ.1 c := f
    have a : ∀ m, m < n → s.1 39 m = nI (ao_fs N nx m) := a
    have d : ∀ m, m < n → ∀ j p, (ao_pl N nx m)[j]? = some p → s.1 38 (ao_fs N nx m + j) = nI p := d
    show ao_ok (m_Gr_listFrom_B4 s (nI (ao_fs N nx n)) (nI n)) _
    unfold m_Gr_listFrom_B4
    rw [show s.1 24 13 = nI N from (congrFun (f 24 (by omega) (by omega)) 13).trans h13, if_neg (nI_ge hn (by omega)), ao_gdn (by omega) (by omega), nI_clamp (show n < 2 ^ 31 by omega)]
    refine ao_let (ao_bd (ao_imp (ap_list1 (σ := aw_sI s 39 n (nI (ao_fs N nx n))) hN ((congrFun (ao_sI_o (by omega)) 13).trans ((congrFun (f 24 (by omega) (by omega)) 13).trans h13)) (fun m hm => ⟨(congrFun (ao_sI_o (by omega)) m).trans ((congrFun (f 36 (by omega) (by omega)) m).trans (hx m hm).1), (congrFun (ao_sI_o (by omega)) m).trans ((congrFun (f 37 (by omega) (by omega)) m).trans (hx m hm).2)⟩) hb hn) ?_))
    rintro ⟨x, t⟩ ⟨g1, g2, g3, g4, g5⟩
    have g1 : x = nI (ao_fs N nx (n + 1)) := g1
    have g2 : t.2 = s.2 := g2
    have g3 : ∀ c, c ≠ 38 → t.1 c = (aw_sI s 39 n (nI (ao_fs N nx n))).1 c := g3
    have g4 : ∀ i, i < ao_fs N nx n → t.1 38 i = (aw_sI s 39 n (nI (ao_fs N nx n))).1 38 i := g4
    have g5 : ∀ j p, (ao_pl N nx n)[j]? = some p → t.1 38 (ao_fs N nx n + j) = nI p := g5
    refine ao_let (ao_inr ⟨g1, nI_1 n, g2.trans l, fun c h1 h2 => (g3 c h1).trans ((ao_sI_o h2).trans (f c h1 h2)), fun m hm => ?_, fun m hm j p hp => ?_⟩)
    · refine (congrFun (g3 39 (by omega)) m).trans ?_
      by_cases q : m = n
      · rw [q]; exact ao_sI_s _ _ _ _
      · exact (ao_sI_i q).trans (a m (by omega))
    · by_cases q : m = n
      · rw [q] at hp ⊢; exact g5 j p hp
      · have hj := (List.getElem?_eq_some_iff.mp hp).1
        have h1 := ao_fs_mono (N := N) (nx := nx) (show m + 1 ≤ n by omega)
        have h2 : ao_fs N nx (m + 1) = ao_fs N nx m + (ao_pl N nx m).length := rfl
        exact (g4 _ (by omega)).trans ((congrFun (ao_sI_o (by omega)) _).trans (d m (by omega) j p hp))
  · rintro ⟨x, y, s⟩ ⟨e1, e2, hI⟩
    have e2 : y = nI N := e2
    subst e2
    have hI : ap_LI σ N nx N s := hI
    show ao_ok (m_Gr_listFrom_B4 s x (nI N)) _
    unfold m_Gr_listFrom_B4
    rw [show s.1 24 13 = nI N from (congrFun (hI.2.1 24 (by omega) (by omega)) 13).trans h13, if_pos (nI_le (Nat.le_refl _) (by omega))]
    exact ao_inl ⟨e1, hI⟩
  · rintro ⟨x, s⟩ ⟨e1, l, f, a, d⟩
    have e1 : x = nI (ao_fs N nx N) := e1
    have l : s.2 = σ.2 := l
    have f : ∀ c, c ≠ 38 → c ≠ 39 → s.1 c = σ.1 c := f
    have a : ∀ m, m < N → s.1 39 m = nI (ao_fs N nx m) := a
    have d : ∀ m, m < N → ∀ j p, (ao_pl N nx m)[j]? = some p → s.1 38 (ao_fs N nx m + j) = nI p := d
    have e13 : s.1 24 13 = nI N := (congrFun (f 24 (by omega) (by omega)) 13).trans h13
    subst e1
    show ao_ok (aw_gd (vp_in (s.1 24 13) 129) (aw_lt (aw_sI s 39 (s.1 24 13).toNatClampNeg (nI (ao_fs N nx N))) (fun s22 => some s22))) _
    rw [e13, ao_gdn (by omega) (by omega), nI_clamp (show N < 2 ^ 31 by omega)]
    refine ao_let (ao_some ⟨l, fun c h1 h2 => (ao_sI_o h2).trans (f c h1 h2), ht, (congrFun (ao_sI_o (by omega)) 13).trans e13, fun m hm => ⟨(congrFun (ao_sI_o (by omega)) m).trans ((congrFun (f 36 (by omega) (by omega)) m).trans (hx m hm).1), (congrFun (ao_sI_o (by omega)) m).trans ((congrFun (f 37 (by omega) (by omega)) m).trans (hx m hm).2)⟩, ao_fs N nx, fun m hm => ⟨?_, ?_⟩, fun m hm => rfl, fun m j p hm hp => (congrFun (ao_sI_o (by omega)) _).trans (d m hm j p hp)⟩)
    · by_cases q : m = N
      · rw [q]; exact ao_sI_s _ _ _ _
      · exact (ao_sI_i q).trans (a m (by omega))
    · have := ao_fs_le (N := N) (nx := nx) (n := m)
      omega

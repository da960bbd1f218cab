/-! ===== the class: both placements are told ===== -/
def ap_TI (σ : aw_S) (n : Nat) (s : aw_S) : Prop := s.2 = σ.2 ∧ (∀ k, k ≠ 70 → k ≠ 71 → k ≠ 76 → k ≠ 77 → s.1 k = σ.1 k) ∧ ∀ m, m < n → s.1 70 m = σ.1 51 m ∧ s.1 71 m = σ.1 47 m ∧ s.1 76 m = (σ.1 53 m &&& (σ.1 54 m ^^^ (-1 : Int32))) ∧ s.1 77 m = (σ.1 47 m &&& ((σ.1 53 m &&& σ.1 54 m) ^^^ (-1 : Int32)))
set_option maxHeartbeats 2000000 in
theorem ap_tellAll {σ : aw_S} {N : Nat} (hN : N ≤ 112) (h13 : σ.1 24 13 = nI N) : ao_ok (aw_lp (fun s => m_Mo_settle_B49 s.2 s.1) aw_fu ((0 : Int32), σ)) (fun s => ap_TI σ N s) := by
  refine ao_for N (fun n (s : Int32 × aw_S) => s.1 = nI n ∧ ap_TI σ n s.2) (a := 0) ⟨rfl, rfl, fun _ _ _ _ _ => rfl, fun m hm => absurd hm (Nat.not_lt_zero _)⟩ (Nat.zero_le _) (by omega) ?_ ?_
  · rintro n ⟨x, s⟩ hn ⟨e1, l, f, d⟩
    have e1 : x = nI n := e1
    subst e1
    have l : s.2 = σ.2 := l
    have f : ∀ k, k ≠ 70 → k ≠ 71 → k ≠ 76 → k ≠ 77 → s.1 k = σ.1 k := f
    have d : ∀ m, m < n → s.1 70 m = σ.1 51 m ∧ s.1 71 m = σ.1 47 m ∧ s.1 76 m = (σ.1 53 m &&& (σ.1 54 m ^^^ (-1 : Int32))) ∧ s.1 77 m = (σ.1 47 m &&& ((σ.1 53 m &&& σ.1 54 m) ^^^ (-1 : Int32))) := d
    show ao_ok (m_Mo_settle_B49 s (nI n)) _
    unfold m_Mo_settle_B49
    rw [show s.1 24 13 = nI N from (congrFun (f 24 (by omega) (by omega) (by omega) (by omega)) 13).trans h13, if_neg (nI_ge hn (by omega)), nI_clamp (show n < 2 ^ 31 by omega), f 53 (by omega) (by omega) (by omega) (by omega), f 54 (by omega) (by omega) (by omega) (by omega), f 51 (by omega) (by omega) (by omega) (by omega), f 47 (by omega) (by omega) (by omega) (by omega)]
    refine ao_gd (vp_in_nI (by omega) (by omega)) (ao_gd (vp_in_nI (by omega) (by omega)) (ao_let (ao_gd (vp_in_nI (by omega) (by omega)) (ao_gd (vp_in_nI (by omega) (by omega)) (ao_bd (ao_imp (ap_tell (by omega)) ?_))))))
    rintro s1 h1
    have e53 : s1.1 53 n = σ.1 53 n := by rw [h1, ao_sI_o (by omega), ao_sI_o (by omega), f 53 (by omega) (by omega) (by omega) (by omega)]
    have e54 : s1.1 54 n = σ.1 54 n := by rw [h1, ao_sI_o (by omega), ao_sI_o (by omega), f 54 (by omega) (by omega) (by omega) (by omega)]
    have e47 : s1.1 47 n = σ.1 47 n := by rw [h1, ao_sI_o (by omega), ao_sI_o (by omega), f 47 (by omega) (by omega) (by omega) (by omega)]
    rw [e53, e54, e47]
    refine ao_gd (vp_in_nI (by omega) (by omega)) (ao_gd (vp_in_nI (by omega) (by omega)) (ao_gd (vp_in_nI (by omega) (by omega)) (ao_bd (ao_imp (ap_tell (by omega)) ?_))))
    rintro s2 h2
    refine ao_let (ao_inr ⟨nI_1 n, ?_, fun k q1 q2 q3 q4 => ?_, fun m hm => ?_⟩)
    · show s2.2 = σ.2
      rw [h2, ao_sI2, ao_sI2, h1, ao_sI2, ao_sI2, l]
    · show s2.1 k = σ.1 k
      rw [h2, ao_sI_o (by omega), ao_sI_o (by omega), h1, ao_sI_o (by omega), ao_sI_o (by omega), f k q1 q2 q3 q4]
    · show s2.1 70 m = _ ∧ s2.1 71 m = _ ∧ s2.1 76 m = _ ∧ s2.1 77 m = _
      by_cases q : m = n
      · rw [q, h2, h1]
        simp [ao_sI]
      · have D := d m (by omega)
        rw [h2, h1]
        refine ⟨?_, ?_, ?_, ?_⟩
        · rw [ao_sI_i q, ao_sI_i q, ao_sI_i q, ao_sI_i q]; exact D.1
        · rw [ao_sI_i q, ao_sI_i q, ao_sI_i q, ao_sI_i q]; exact D.2.1
        · rw [ao_sI_i q, ao_sI_i q, ao_sI_i q, ao_sI_i q]; exact D.2.2.1
        · rw [ao_sI_i q, ao_sI_i q, ao_sI_i q, ao_sI_i q]; exact D.2.2.2
  · rintro ⟨x, s⟩ ⟨e1, hI⟩
    have e1 : x = nI N := e1
    subst e1
    have hI : ap_TI σ N s := hI
    show ao_ok (m_Mo_settle_B49 s (nI N)) _
    unfold m_Mo_settle_B49
    rw [show s.1 24 13 = nI N from (congrFun (hI.2.1 24 (by omega) (by omega) (by omega) (by omega)) 13).trans h13, if_pos (nI_le (Nat.le_refl _) (by omega))]
    exact ao_inl hI

/-! ===== the reference: depths ===== -/
theorem ao_G_fix {N : Nat} {F : (Nat → Prop) → Nat → Prop} (hF : ao_mono N F) {n : Nat} (hn : n < N) : ao_G N F n ↔ F (ao_G N F) n := by
  have up : ∀ m, m < N → ao_G N F m → F (ao_G N F) m := fun m hm ⟨Y, hY, hy⟩ => hF Y _ (fun j _ z => ⟨Y, hY, z⟩) m hm (hY m hm hy)
  exact ⟨up n hn, fun h => ⟨F (ao_G N F), fun m hm z => hF _ _ up m hm z, h⟩⟩
theorem ao_OV_self {N : Nat} {nx : Nat → Option Nat} {v : Nat} (hv : v < N) : ao_OV N nx v v := (ao_G_fix (ao_fOV_mono v) hv).mpr (Or.inl rfl)
theorem ao_IN_OV {N : Nat} {nx : Nat → Option Nat} {v n : Nat} (hv : v < N) (h : ao_IN N nx v n) : ao_OV N nx v n :=
  h (ao_OV N nx v) (fun m hm z => z.elim (fun q => by rw [q]; exact ao_OV_self hv) (fun q => q.1))
def ag_dp (σ s : aw_S) : Prop := s.2 = σ.2 ∧ (∀ k, k ≠ 0 → k ≠ 38 → k ≠ 39 → s.1 k = σ.1 k) ∧ ∀ j, j ≠ 54 → s.1 0 j = σ.1 0 j
theorem ag_dp_tr {σ s t : aw_S} (h : ag_dp σ s) (h' : ag_dp s t) : ag_dp σ t := ⟨h'.1.trans h.1, fun k h1 h2 h3 => (h'.2.1 k h1 h2 h3).trans (h.2.1 k h1 h2 h3), fun j hj => (h'.2.2 j hj).trans (h.2.2 j hj)⟩
theorem ag_dp_TB {σ s : aw_S} {N : Nat} {nx : Nat → Option Nat} (h : ag_dp σ s) (hT : ao_TB σ N nx) : ao_TB s N nx := ao_TB_fr hT (h.2.2 14 (by omega)) (h.2.1 7 (by omega) (by omega) (by omega))
theorem ag_dp_1 {σ s : aw_S} (h : ag_one 38 σ s) : ag_dp σ s := ⟨h.1, fun k _ hk _ => h.2 k hk, fun j _ => congrFun (h.2 0 (by omega)) j⟩
theorem ag_dp_2 {σ s : aw_S} (h : ag_one 39 σ s) : ag_dp σ s := ⟨h.1, fun k _ _ hk => h.2 k hk, fun j _ => congrFun (h.2 0 (by omega)) j⟩
theorem ag_dp_3 {σ : aw_S} {v : Int32} : ag_dp σ (aw_sI σ 0 54 v) := ⟨rfl, fun k hk _ _ => ao_sI_o hk, fun j hj => ao_sI_i hj⟩
set_option maxHeartbeats 4000000 in
theorem ag_layDeep {σ : aw_S} {Γ : ag_T} (hT : ao_TB σ (ag_N Γ) (ag_nx Γ)) (hO : ag_OB σ Γ) : ao_ok (m_Rf_layDeep σ) (fun s => ag_dp σ s ∧ (∀ n, n < ag_N Γ → s.1 39 n = nI (ao_DP (ag_N Γ) (ag_nx Γ) n)) ∧ s.1 0 54 = nI (ao_HN (ag_N Γ) (ag_nx Γ))) := by
  have hN := hT.1.1
  have O_ : ∀ s, ag_dp σ s → ag_OB s Γ := fun s hs u n hu hn => by rw [hs.2.1 37 (by omega) (by omega) (by omega)]; exact hO u n hu hn
  unfold m_Rf_layDeep
  refine ao_let (ao_bd (ao_imp (ao_for (Q := fun (s : aw_S) => ag_dp σ s ∧ s.1 0 54 = nI 0 ∧ ∀ n, n < ag_N Γ → s.1 39 n = nI 0) (ag_N Γ) (fun k (s : Int32 × aw_S) => s.1 = nI k ∧ ag_dp σ s.2 ∧ s.2.1 0 54 = nI 0 ∧ ∀ n, n < k → s.2.1 39 n = nI 0) (a := 0) ⟨rfl, ag_dp_3, ao_sI_s _ _ _ _, fun n hn => absurd hn (Nat.not_lt_zero _)⟩ (Nat.zero_le _) (by omega) ?_ ?_) ?_))
  · rintro k ⟨v, s⟩ hk ⟨e1, hf, hh, hv⟩
    have e1 : v = nI k := e1
    subst e1
    show ao_ok (m_Rf_layDeep_B7 s (nI k)) _
    unfold m_Rf_layDeep_B7
    rw [(ag_dp_TB hf hT).2.1, if_neg (nI_ge hk (by omega)), ao_gdn (by omega) (by omega), nI_clamp (by omega)]
    refine ao_let (ao_let (ao_inr ⟨nI_1 k, ag_dp_tr hf (ag_dp_2 ag_one_s), hh, fun n hn => ?_⟩))
    show (aw_sI s 39 k 0).1 39 n = _
    by_cases hnk : n = k
    · subst hnk; rw [ao_sI_s]; rfl
    · rw [ao_sI_i hnk]; exact hv n (by omega)
  · rintro ⟨v, s⟩ ⟨e1, hf, hh, hv⟩
    have e1 : v = nI (ag_N Γ) := e1
    subst e1
    show ao_ok (m_Rf_layDeep_B7 s (nI (ag_N Γ))) _
    unfold m_Rf_layDeep_B7
    rw [(ag_dp_TB hf hT).2.1, if_pos (nI_le (Nat.le_refl _) (by omega))]
    exact ao_inl ⟨hf, hh, hv⟩
  · rintro s1 ⟨f1, h1, d1⟩
    refine ao_bd (ao_for (Q := fun (s : aw_S) => ao_ok (some s) (fun (s : aw_S) => ag_dp σ s ∧ (∀ n, n < ag_N Γ → s.1 39 n = nI (ao_DP (ag_N Γ) (ag_nx Γ) n)) ∧ s.1 0 54 = nI (ao_HN (ag_N Γ) (ag_nx Γ)))) (ag_N Γ) (fun k (s : Int32 × aw_S) => s.1 = nI k ∧ ag_dp σ s.2 ∧ (∀ n, n < ag_N Γ → s.2.1 39 n = nI (ao_n (fun v => ao_HD (ag_N Γ) (ag_nx Γ) v ∧ ao_IN (ag_N Γ) (ag_nx Γ) v n) k)) ∧ s.2.1 0 54 = nI (ao_n (ao_HD (ag_N Γ) (ag_nx Γ)) k)) (a := 0) ⟨rfl, f1, d1, h1⟩ (Nat.zero_le _) (by omega) ?_ ?_)
    · rintro k ⟨x, s⟩ hk ⟨e1, f, hd, hh⟩
      have e1 : x = nI k := e1
      subst e1
      have f : ag_dp σ s := f
      have hd : ∀ n, n < ag_N Γ → s.1 39 n = nI (ao_n (fun v => ao_HD (ag_N Γ) (ag_nx Γ) v ∧ ao_IN (ag_N Γ) (ag_nx Γ) v n) k) := hd
      have hh : s.1 0 54 = nI (ao_n (ao_HD (ag_N Γ) (ag_nx Γ)) k) := hh
      have hTs := ag_dp_TB f hT
      show ao_ok (m_Rf_layDeep_B30 s (nI k)) _
      unfold m_Rf_layDeep_B30
      rw [hTs.2.1, if_neg (nI_ge hk (by omega))]
      refine ao_bde (ag_isHeadB hTs (O_ s f) hk) ?_
      by_cases q : ao_HD (ag_N Γ) (ag_nx Γ) k
      · refine ao_ifn (by rw [ao_b1 q]; decide) (ao_let ?_)
        have f2 : ag_dp σ (aw_sI s 0 54 (s.1 0 54 + 1)) := ag_dp_tr f ag_dp_3
        refine ao_bd (ao_imp (ag_layComing (ag_dp_TB f2 hT) (O_ _ f2) hk) ?_)
        rintro t ⟨ft, h01, hIN⟩
        have f3 := ag_dp_tr f2 (ag_dp_1 ft)
        have h39 : ∀ n, t.1 39 n = s.1 39 n := fun n => (congrFun (ft.2 39 (by omega)) n).trans (congrFun (ao_sI_o (by omega)) n)
        refine ao_bd (ao_imp (ao_for (Q := fun (u : aw_S) => ag_one 39 t u ∧ ∀ n, n < ag_N Γ → u.1 39 n = nI (ao_n (fun v => ao_HD (ag_N Γ) (ag_nx Γ) v ∧ ao_IN (ag_N Γ) (ag_nx Γ) v n) (k + 1))) (ag_N Γ) (fun i (u : Int32 × aw_S) => u.1 = nI i ∧ ag_one 39 t u.2 ∧ ∀ n, n < ag_N Γ → u.2.1 39 n = if n < i then nI (ao_n (fun v => ao_HD (ag_N Γ) (ag_nx Γ) v ∧ ao_IN (ag_N Γ) (ag_nx Γ) v n) (k + 1)) else t.1 39 n) (a := 0) ⟨rfl, ag_one_rf, fun n hn => (if_neg (Nat.not_lt_zero _)).symm⟩ (Nat.zero_le _) (by omega) ?_ ?_) ?_)
        · rintro i ⟨y, u⟩ hi ⟨e1, hu, hv⟩
          have e1 : y = nI i := e1
          subst e1
          have hu : ag_one 39 t u := hu
          have hv : ∀ n, n < ag_N Γ → u.1 39 n = if n < i then nI (ao_n (fun v => ao_HD (ag_N Γ) (ag_nx Γ) v ∧ ao_IN (ag_N Γ) (ag_nx Γ) v n) (k + 1)) else t.1 39 n := hv
          have f4 := ag_dp_tr f3 (ag_dp_2 hu)
          show ao_ok (m_Rf_layDeep_B66 u (nI k) (nI i)) _
          unfold m_Rf_layDeep_B66
          rw [(ag_dp_TB f4 hT).2.1, if_neg (nI_ge hi (by omega)), ao_gdn (by omega) (by omega), ao_gdn (by omega) (by omega), nI_clamp (by omega), hu.2 38 (by omega), (hv i hi).trans (if_neg (Nat.lt_irrefl i)), h39 i, hd i hi]
          have hJ : ∀ y : Nat, ao_n (fun v => ao_HD (ag_N Γ) (ag_nx Γ) v ∧ ao_IN (ag_N Γ) (ag_nx Γ) v i) (k + 1) = ao_n (fun v => ao_HD (ag_N Γ) (ag_nx Γ) v ∧ ao_IN (ag_N Γ) (ag_nx Γ) v i) k + y → ao_ok (m_Rf_layDeep_J104 u (nI k) (nI i) (nI i) (nI (ao_n (fun v => ao_HD (ag_N Γ) (ag_nx Γ) v ∧ ao_IN (ag_N Γ) (ag_nx Γ) v i) k)) (nI y)) (Sum.elim (fun (u : aw_S) => ag_one 39 t u ∧ ∀ n, n < ag_N Γ → u.1 39 n = nI (ao_n (fun v => ao_HD (ag_N Γ) (ag_nx Γ) v ∧ ao_IN (ag_N Γ) (ag_nx Γ) v n) (k + 1))) (fun (u : Int32 × aw_S) => u.1 = nI (i + 1) ∧ ag_one 39 t u.2 ∧ ∀ n, n < ag_N Γ → u.2.1 39 n = if n < i + 1 then nI (ao_n (fun v => ao_HD (ag_N Γ) (ag_nx Γ) v ∧ ao_IN (ag_N Γ) (ag_nx Γ) v n) (k + 1)) else t.1 39 n)) := by
            intro y hy
            unfold m_Rf_layDeep_J104
            rw [ao_gdn (by omega) (by omega), nI_clamp (by omega), nI_add, ← hy]
            refine ao_let (ao_let (ao_inr ⟨nI_1 i, ag_one_tr hu ag_one_s, fun n hn => ?_⟩))
            show (aw_sI u 39 i _).1 39 n = _
            by_cases hni : n = i
            · subst hni
              rw [ao_sI_s]
              exact (if_pos (Nat.lt_succ_self n)).symm
            · rw [ao_sI_i hni, hv n hn]
              by_cases z : n < i
              · exact (if_pos z).trans (if_pos (Nat.lt_succ_of_lt z)).symm
              · exact (if_neg z).trans (if_neg (by omega)).symm
          have hno : ¬ ao_IN (ag_N Γ) (ag_nx Γ) k i → ao_n (fun v => ao_HD (ag_N Γ) (ag_nx Γ) v ∧ ao_IN (ag_N Γ) (ag_nx Γ) v i) (k + 1) = ao_n (fun v => ao_HD (ag_N Γ) (ag_nx Γ) v ∧ ao_IN (ag_N Γ) (ag_nx Γ) v i) k + 0 := fun z => ao_n_s0 (X := fun v => ao_HD (ag_N Γ) (ag_nx Γ) v ∧ ao_IN (ag_N Γ) (ag_nx Γ) v i) (fun y => z y.2)
          refine ao_if (fun z => hJ 0 (hno (fun y => (ao_01_0 (h01 i hi)).mp z ((hIN i hi).mpr y)))) (fun z => ?_)
          have hin : ao_IN (ag_N Γ) (ag_nx Γ) k i := (hIN i hi).mp (Classical.byContradiction fun y => z ((ao_01_0 (h01 i hi)).mpr y))
          refine ao_bde (ag_isOverB hN (O_ _ f4) hk hi) (ao_ifn (by rw [ao_b1 (ao_IN_OV hk hin)]; decide) (hJ 1 (ao_n_s1 (X := fun v => ao_HD (ag_N Γ) (ag_nx Γ) v ∧ ao_IN (ag_N Γ) (ag_nx Γ) v i) ⟨q, hin⟩)))
        · rintro ⟨y, u⟩ ⟨e1, hu, hv⟩
          have e1 : y = nI (ag_N Γ) := e1
          subst e1
          show ao_ok (m_Rf_layDeep_B66 u (nI k) (nI (ag_N Γ))) _
          unfold m_Rf_layDeep_B66
          rw [(ag_dp_TB (ag_dp_tr f3 (ag_dp_2 hu)) hT).2.1, if_pos (nI_le (Nat.le_refl _) (by omega))]
          exact ao_inl ⟨hu, fun n hn => (hv n hn).trans (if_pos hn)⟩
        · rintro u ⟨hu, hv⟩
          refine ao_let (ao_inr ⟨nI_1 k, ag_dp_tr f3 (ag_dp_2 hu), hv, ?_⟩)
          show u.1 0 54 = _
          rw [hu.2 0 (by omega), ft.2 0 (by omega), ao_sI_s, hh, nI_1, ao_n_s1 q]
      · refine ao_ifp (ao_b0 q) (ao_let (ao_inr ⟨nI_1 k, f, fun n hn => ?_, ?_⟩))
        · rw [ao_n_s0 (X := fun v => ao_HD (ag_N Γ) (ag_nx Γ) v ∧ ao_IN (ag_N Γ) (ag_nx Γ) v n) (fun z => q z.1)]
          exact hd n hn
        · rw [ao_n_s0 q]
          exact hh
    · rintro ⟨x, s⟩ ⟨e1, f, hd, hh⟩
      have e1 : x = nI (ag_N Γ) := e1
      subst e1
      show ao_ok (m_Rf_layDeep_B30 s (nI (ag_N Γ))) _
      unfold m_Rf_layDeep_B30
      rw [(ag_dp_TB f hT).2.1, if_pos (nI_le (Nat.le_refl _) (by omega))]
      exact ao_inl (ao_some ⟨f, hd, hh⟩)

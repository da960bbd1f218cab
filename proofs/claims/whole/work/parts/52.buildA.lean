/-! ===== the class: early, late, sound, live, all ===== -/
set_option maxHeartbeats 4000000 in
theorem ag_findEarly {σ : aw_S} {Γ : ag_T} (hw : ag_wf Γ) (h : ag_A σ Γ) (hall : ag_all σ Γ) (h48 : ag_bt σ 48 Γ (fun e => ag_F Γ e 1)) (h49 : ag_bt σ 49 Γ (fun e => ag_F Γ e 2)) (h50 : ag_bt σ 50 Γ (fun e => ag_F Γ e 3)) : ao_ok (m_Fa_findEarly σ) (fun s => ag_fr 51 σ s ∧ ag_bt s 51 Γ (fun e => ag_F Γ e 4)) := by
  have hN := hw.1.1
  unfold m_Fa_findEarly
  refine ao_bd (ao_for (Q := fun s => ao_ok (some s) (fun s => ag_fr 51 σ s ∧ ag_bt s 51 Γ (fun e => ag_F Γ e 4))) (ag_N Γ) (fun k s => s.1 = nI k ∧ ag_fr 51 σ s.2 ∧ ∀ n, n < k → ∀ e, e < 32 → (ao_t (s.2.1 51 n) e ↔ e < ag_X Γ ∧ ag_F Γ e 4 n)) (a := 0) ⟨rfl, ⟨rfl, fun _ _ => rfl⟩, fun n hn => absurd hn (Nat.not_lt_zero _)⟩ (Nat.zero_le _) (by omega) ?_ ?_)
  · rintro k ⟨v, s⟩ hk ⟨e1, hf, hv⟩
    have e1 : v = nI k := e1
    subst e1
    have hf : ag_fr 51 σ s := hf
    show ao_ok (m_Fa_findEarly_B2 s (nI k)) _
    have hA := ag_fr_A hf (by omega) h
    have r48 := hf.2 48 (by omega)
    have r49 := hf.2 49 (by omega)
    have r50 := hf.2 50 (by omega)
    have r41 := hf.2 41 (by omega)
    have hL := ao_nb_len (ag_N Γ) (ag_nx Γ) 0 k
    have eL : ao_nb (ag_N Γ) (ag_nx Γ) 0 k = ao_pl (ag_N Γ) (ag_nx Γ) k := by unfold ao_nb; rw [if_pos rfl]
    rw [eL] at hL
    have hJ : ∀ st, (∀ e, e < 32 → (ao_t st e ↔ k = 0 ∧ e < ag_X Γ)) → ao_ok (m_Fa_findEarly_J22 s (nI k) st) (Sum.elim (fun s => ao_ok (some s) (fun s => ag_fr 51 σ s ∧ ag_bt s 51 Γ (fun e => ag_F Γ e 4))) (fun s => s.1 = nI (k + 1) ∧ ag_fr 51 σ s.2 ∧ ∀ n, n < k + 1 → ∀ e, e < 32 → (ao_t (s.2.1 51 n) e ↔ e < ag_X Γ ∧ ag_F Γ e 4 n))) := by
      intro st hst
      unfold m_Fa_findEarly_J22
      refine ao_bd (ao_imp (ao_for (Q := fun r => ∀ e, e < 32 → (ao_t r e ↔ (k = 0 ∧ e < ag_X Γ) ∨ ∃ p, p ∈ ao_pl (ag_N Γ) (ag_nx Γ) k ∧ (¬ ao_t (σ.1 48 p) e ∨ ¬ (ao_t (σ.1 49 p) e ∨ ao_t (σ.1 50 p) e)))) (ao_pl (ag_N Γ) (ag_nx Γ) k).length (fun j t => t.2 = nI j ∧ ∀ e, e < 32 → (ao_t t.1 e ↔ (k = 0 ∧ e < ag_X Γ) ∨ ∃ i p, i < j ∧ (ao_pl (ag_N Γ) (ag_nx Γ) k)[i]? = some p ∧ (¬ ao_t (σ.1 48 p) e ∨ ¬ (ao_t (σ.1 49 p) e ∨ ao_t (σ.1 50 p) e)))) (a := 0) ⟨rfl, fun e he => (hst e he).trans ⟨fun q => Or.inl q, fun q => q.elim id (fun ⟨i, p, hi, _⟩ => absurd hi (Nat.not_lt_zero _))⟩⟩ (Nat.zero_le _) (by omega) ?_ ?_) ?_)
      · rintro j ⟨v3, v4⟩ hj ⟨e2, hi⟩
        have e2 : v4 = nI j := e2
        subst e2
        show ao_ok (m_Fa_findEarly_B26 s (nI k) v3 (nI j)) _
        obtain ⟨p, hp⟩ : ∃ p, (ao_pl (ag_N Γ) (ag_nx Γ) k)[j]? = some p := ⟨_, List.getElem?_eq_getElem hj⟩
        have hpN := (ao_pl_mem.mp (List.mem_of_getElem? hp)).1
        unfold m_Fa_findEarly_B26
        refine ao_bde (ao_comes hA.1 hk) (ao_ifn (nI_ge hj (by omega)) (ao_bde (ao_before hA.1 hk hp) (ao_bde (ao_isNode hA.1.2.1 hN hpN) (ao_ifn (by decide) ?_))))
        rw [ao_gdn (by omega) (by omega), ao_gdn (by omega) (by omega), ao_gdn (by omega) (by omega), nI_clamp (by omega), r48, r49, r50]
        unfold m_Fa_findEarly_J86
        refine ao_let (ao_let (ao_inr ⟨nI_1 j, fun e he => ?_⟩))
        show ao_t (v3 ||| _) e ↔ _
        rw [ao_t_or, ao_t_or, ao_t_not he, ao_t_not he, ao_t_or]
        refine (or_congr (hi e he) Iff.rfl).trans ⟨fun q => ?_, fun q => ?_⟩
        · rcases q with (q | ⟨i, p', hi', q1, q2⟩) | q
          · exact Or.inl q
          · exact Or.inr ⟨i, p', by omega, q1, q2⟩
          · exact Or.inr ⟨j, p, by omega, hp, q⟩
        · rcases q with q | ⟨i, p', hi', q1, q2⟩
          · exact Or.inl (Or.inl q)
          · by_cases hij : i = j
            · subst hij
              rw [hp] at q1
              cases q1
              exact Or.inr q2
            · exact Or.inl (Or.inr ⟨i, p', by omega, q1, q2⟩)
      · rintro ⟨v3, v4⟩ ⟨e2, hi⟩
        have e2 : v4 = nI _ := e2
        subst e2
        show ao_ok (m_Fa_findEarly_B26 s (nI k) v3 (nI _)) _
        unfold m_Fa_findEarly_B26
        refine ao_bde (ao_comes hA.1 hk) (ao_ifp (nI_le (Nat.le_refl _) (by omega)) (ao_inl fun e he => (hi e he).trans (or_congr Iff.rfl ⟨fun ⟨i, p, _, q1, q2⟩ => ⟨p, List.mem_of_getElem? q1, q2⟩, fun ⟨p, q1, q2⟩ => ?_⟩)))
        obtain ⟨i, hi⟩ := List.getElem?_of_mem q1
        exact ⟨i, p, (List.getElem?_eq_some_iff.mp hi).1, hi, q2⟩
      · intro r hr
        rw [ao_gdn (by omega) (by omega), ao_gdn (by omega) (by omega), nI_clamp (by omega), r49]
        refine ao_let (ao_let (ao_inr ⟨nI_1 k, ⟨hf.1, fun c hc => (ao_sI_o (by omega)).trans (hf.2 c hc)⟩, fun n hn e he => ?_⟩))
        show ao_t ((aw_sI s 51 k _).1 51 n) e ↔ _
        by_cases hnk : n = k
        · subst hnk
          rw [ao_sI_s, ao_t_and, h49 n hk e he, hr e he, and_assoc]
          refine and_congr_right (fun he2 => and_congr_right (fun _ => ⟨fun q => ?_, fun q => ?_⟩))
          · rcases q with q | ⟨p, q1, q2⟩
            · exact Or.inl q.1
            · obtain ⟨hp, hed⟩ := ao_pl_mem.mp q1
              rw [h48 p hp e he, h49 p hp e he, h50 p hp e he] at q2
              refine Or.inr ⟨p, hp, hed, q2.imp (fun z y => z ⟨he2, y⟩) (fun z => ⟨fun y => z (Or.inl ⟨he2, y⟩), fun y => z (Or.inr ⟨he2, y⟩)⟩)⟩
          · rcases q with q | ⟨p, hp, hed, q2⟩
            · exact Or.inl ⟨q, he2⟩
            · refine Or.inr ⟨p, ao_pl_mem.mpr ⟨hp, hed⟩, ?_⟩
              rw [h48 p hp e he, h49 p hp e he, h50 p hp e he]
              exact q2.imp (fun z y => z y.2) (fun z y => y.elim (fun u => z.1 u.2) (fun u => z.2 u.2))
        · rw [ao_sI_i hnk]; exact hv n (by omega) e he
    unfold m_Fa_findEarly_B2
    rw [hA.1.2.1, if_neg (nI_ge hk (by omega))]
    refine ao_if (fun q => hJ _ (fun e he => ?_)) (fun q => hJ _ (fun e he => ⟨fun z => absurd z ao_t_0, fun z => absurd (by rw [z.1]; rfl) q⟩))
    rw [r41, hall e he]
    have : k = 0 := (nI_eq (by omega) (by omega)).mp (q.trans nI_0.symm)
    exact ⟨fun z => ⟨this, z⟩, fun z => z.2⟩
  · rintro ⟨v, s⟩ ⟨e1, hf, hv⟩
    have e1 : v = nI (ag_N Γ) := e1
    subst e1
    have hf : ag_fr 51 σ s := hf
    show ao_ok (m_Fa_findEarly_B2 s (nI (ag_N Γ))) _
    unfold m_Fa_findEarly_B2
    rw [(ag_fr_A hf (by omega) h).1.2.1, if_pos (nI_le (Nat.le_refl _) (by omega))]
    exact ao_inl (ao_some ⟨hf, hv⟩)
set_option maxHeartbeats 4000000 in
theorem ag_findLate {σ : aw_S} {Γ : ag_T} (hw : ag_wf Γ) (h : ag_A σ Γ) (hall : ag_all σ Γ) (h47 : ag_bt σ 47 Γ (fun e => ag_F Γ e 0)) (h52 : ag_bt σ 52 Γ (fun e => ag_F Γ e 5)) : ao_ok (m_Fa_findLate σ) (fun s => ag_fr 53 σ s ∧ ag_bt s 53 Γ (fun e => ag_F Γ e 6)) := by
  have hN := hw.1.1
  unfold m_Fa_findLate
  refine ao_bd (ao_for (Q := fun s => ao_ok (some s) (fun s => ag_fr 53 σ s ∧ ag_bt s 53 Γ (fun e => ag_F Γ e 6))) (ag_N Γ) (fun k s => s.1 = nI k ∧ ag_fr 53 σ s.2 ∧ ∀ n, n < k → ∀ e, e < 32 → (ao_t (s.2.1 53 n) e ↔ e < ag_X Γ ∧ ag_F Γ e 6 n)) (a := 0) ⟨rfl, ⟨rfl, fun _ _ => rfl⟩, fun n hn => absurd hn (Nat.not_lt_zero _)⟩ (Nat.zero_le _) (by omega) ?_ ?_)
  · rintro k ⟨v, s⟩ hk ⟨e1, hf, hv⟩
    have e1 : v = nI k := e1
    subst e1
    have hf : ag_fr 53 σ s := hf
    show ao_ok (m_Fa_findLate_B2 s (nI k)) _
    have hA := ag_fr_A hf (by omega) h
    have r47 := hf.2 47 (by omega)
    have r52 := hf.2 52 (by omega)
    have r41 := hf.2 41 (by omega)
    have hL := ao_sl_len2 (ag_nx Γ) k
    unfold m_Fa_findLate_B2
    rw [hA.1.2.1, if_neg (nI_ge hk (by omega)), r41]
    refine ao_let (ao_bd (ao_imp (ao_for (Q := fun r => ∀ e, e < 32 → (ao_t r e ↔ e < ag_X Γ ∧ ∀ t, t ∈ ao_sl (ag_nx Γ) k → ao_t (σ.1 52 t) e)) (ao_sl (ag_nx Γ) k).length (fun j t => t.2 = nI j ∧ ∀ e, e < 32 → (ao_t t.1 e ↔ e < ag_X Γ ∧ ∀ i p, i < j → (ao_sl (ag_nx Γ) k)[i]? = some p → ao_t (σ.1 52 p) e)) (a := 0) ⟨rfl, fun e he => (hall e he).trans ⟨fun q => ⟨q, fun i p hi => absurd hi (Nat.not_lt_zero _)⟩, fun q => q.1⟩⟩ (Nat.zero_le _) (by omega) ?_ ?_) ?_))
    · rintro j ⟨v3, v4⟩ hj ⟨e2, hi⟩
      have e2 : v4 = nI j := e2
      subst e2
      show ao_ok (m_Fa_findLate_B18 s (nI k) v3 (nI j)) _
      obtain ⟨p, hp⟩ : ∃ p, (ao_sl (ag_nx Γ) k)[j]? = some p := ⟨_, List.getElem?_eq_getElem hj⟩
      have hpN := ao_ed_lt hw.1 hk (ao_sl_mem.mp (List.mem_of_getElem? hp))
      unfold m_Fa_findLate_B18
      refine ao_bde (ao_leads hA.1 hk) (ao_ifn (nI_ge hj (by omega)) (ao_bde (ao_next hA.1 hk hp) (ao_bde (ao_isNode hA.1.2.1 hN hpN) (ao_ifn (by decide) ?_))))
      rw [ao_gdn (by omega) (by omega), nI_clamp (by omega), r52]
      unfold m_Fa_findLate_J58
      refine ao_let (ao_let (ao_inr ⟨nI_1 j, fun e he => ?_⟩))
      show ao_t (v3 &&& _) e ↔ _
      rw [ao_t_and]
      refine (and_congr (hi e he) Iff.rfl).trans ⟨fun q => ⟨q.1.1, fun i p' hi' q1 => ?_⟩, fun q => ⟨⟨q.1, fun i p' hi' q1 => q.2 i p' (by omega) q1⟩, q.2 j p (by omega) hp⟩⟩
      by_cases hij : i = j
      · subst hij
        rw [hp] at q1
        cases q1
        exact q.2
      · exact q.1.2 i p' (by omega) q1
    · rintro ⟨v3, v4⟩ ⟨e2, hi⟩
      have e2 : v4 = nI _ := e2
      subst e2
      show ao_ok (m_Fa_findLate_B18 s (nI k) v3 (nI _)) _
      unfold m_Fa_findLate_B18
      refine ao_bde (ao_leads hA.1 hk) (ao_ifp (nI_le (Nat.le_refl _) (by omega)) (ao_inl fun e he => (hi e he).trans (and_congr Iff.rfl ⟨fun q t ht => ?_, fun q i p _ hp => q p (List.mem_of_getElem? hp)⟩)))
      obtain ⟨i, hi⟩ := List.getElem?_of_mem ht
      exact q i t (List.getElem?_eq_some_iff.mp hi).1 hi
    · intro r hr
      rw [ao_gdn (by omega) (by omega), ao_gdn (by omega) (by omega), ao_gdn (by omega) (by omega), nI_clamp (by omega), r47, r52]
      refine ao_let (ao_let (ao_inr ⟨nI_1 k, ⟨hf.1, fun c hc => (ao_sI_o (by omega)).trans (hf.2 c hc)⟩, fun n hn e he => ?_⟩))
      show ao_t ((aw_sI s 53 k _).1 53 n) e ↔ _
      by_cases hnk : n = k
      · subst hnk
        rw [ao_sI_s, ao_t_and, ao_t_or, ao_t_not he, h52 n hk e he, h47 n hk e he, hr e he, and_assoc]
        refine and_congr_right (fun he2 => and_congr_right (fun _ => ⟨fun q => ?_, fun q => ?_⟩))
        · rcases q with q | q
          · exact Or.inl q.2
          · refine Or.inr (Classical.byContradiction fun z => q ⟨he2, fun t ht => ?_⟩)
            have hed := ao_sl_mem.mp ht
            refine (h52 t (ao_ed_lt hw.1 hk hed) e he).mpr ⟨he2, Classical.byContradiction fun y => z ⟨t, hed, y⟩⟩
        · rcases q with q | ⟨t, hed, q⟩
          · exact Or.inl ⟨he2, q⟩
          · exact Or.inr (fun z => q ((h52 t (ao_ed_lt hw.1 hk hed) e he).mp (z.2 t (ao_sl_mem.mpr hed))).2)
      · rw [ao_sI_i hnk]; exact hv n (by omega) e he
  · rintro ⟨v, s⟩ ⟨e1, hf, hv⟩
    have e1 : v = nI (ag_N Γ) := e1
    subst e1
    have hf : ag_fr 53 σ s := hf
    show ao_ok (m_Fa_findLate_B2 s (nI (ag_N Γ))) _
    unfold m_Fa_findLate_B2
    rw [(ag_fr_A hf (by omega) h).1.2.1, if_pos (nI_le (Nat.le_refl _) (by omega))]
    exact ao_inl (ao_some ⟨hf, hv⟩)
/-- how many nodes have one of the bits -/
theorem ag_nodesWith {σ : aw_S} {N c : Nat} {bit : Int32} (hN : N ≤ 112) (hNN : σ.1 24 13 = nI N) : m_Gr_nodesWith σ c bit = some (nI (ao_n (fun n => (σ.1 c n &&& bit) ≠ 0) N)) := by
  have : ao_ok (m_Gr_nodesWith σ c bit) (fun r => r = nI (ao_n (fun n => (σ.1 c n &&& bit) ≠ 0) N)) := by
    unfold m_Gr_nodesWith
    refine ao_bd (ao_for (Q := fun r => ao_ok (some r) (fun r => r = nI (ao_n (fun n => (σ.1 c n &&& bit) ≠ 0) N))) N (fun k s => s.2 = nI k ∧ s.1 = nI (ao_n (fun n => (σ.1 c n &&& bit) ≠ 0) k)) (a := 0) ⟨rfl, rfl⟩ (Nat.zero_le _) (by omega) ?_ ?_)
    · rintro k ⟨v3, v4⟩ hk ⟨e2, e1⟩
      have e2 : v4 = nI k := e2
      have e1 : v3 = nI (ao_n (fun n => (σ.1 c n &&& bit) ≠ 0) k) := e1
      subst e2 e1
      show ao_ok (m_Gr_nodesWith_B5 σ c bit _ (nI k)) _
      unfold m_Gr_nodesWith_B5
      rw [hNN, if_neg (nI_ge hk (by omega)), ao_gdn (by omega) (by omega), nI_clamp (by omega)]
      refine ao_if (fun q => ?_) (fun q => ?_)
      · unfold m_Gr_nodesWith_J29
        refine ao_bde (ao_one_0 σ) (ao_let (ao_let (ao_inr ⟨nI_1 k, ?_⟩)))
        show nI _ + 0 = _
        rw [ao_n_s0 (fun z => z q), show (0 : Int32) = nI 0 from rfl, nI_add, Nat.add_zero]
      · unfold m_Gr_nodesWith_J29
        refine ao_bde (ao_one_1 σ) (ao_let (ao_let (ao_inr ⟨nI_1 k, ?_⟩)))
        show nI _ + 1 = _
        rw [ao_n_s1 q, nI_1]
    · rintro ⟨v3, v4⟩ ⟨e2, e1⟩
      have e2 : v4 = nI N := e2
      subst e2
      show ao_ok (m_Gr_nodesWith_B5 σ c bit v3 (nI N)) _
      unfold m_Gr_nodesWith_B5
      rw [hNN, if_pos (nI_le (Nat.le_refl _) (by omega))]
      exact ao_inl (ao_some e1)
  obtain ⟨r, e, rfl⟩ := this
  exact e
theorem ao_n_all {X : Nat → Prop} {N : Nat} : ao_n X N = N ↔ ∀ n, n < N → X n := by
  induction N with
  | zero => exact ⟨fun _ n hn => absurd hn (Nat.not_lt_zero _), fun _ => rfl⟩
  | succ N ih =>
    have hle := ao_n_le X N
    by_cases h : X N
    · rw [ao_n_s1 h]
      refine ⟨fun q n hn => ?_, fun q => by rw [ih.mpr (fun n hn => q n (by omega))]⟩
      by_cases hnN : n = N
      · subst hnN; exact h
      · exact ih.mp (by omega) n (by omega)
    · rw [ao_n_s0 h]
      exact ⟨fun q => absurd q (by omega), fun q => absurd (q N (by omega)) h⟩
theorem ao_t0_and1 {x : Int32} : (x &&& 1) ≠ 0 ↔ ao_t x 0 := by
  rw [Ne, ao_t_nz]
  refine ⟨fun q => Classical.byContradiction fun z => q (fun e he y => ?_), fun q z => z 0 (by omega) (ao_t_and.mpr ⟨q, ao_t_1.mpr rfl⟩)⟩
  rw [ao_t_and, ao_t_1] at y
  obtain ⟨y1, rfl⟩ := y
  exact z y1
/-- all nodes lead to a last one -/
def ag_sound (Γ : ag_T) : Prop := ∀ n, n < ag_N Γ → ao_LD (ag_N Γ) (ag_nx Γ) n
set_option maxHeartbeats 4000000 in
theorem ag_findSound {σ : aw_S} {Γ : ag_T} (hw : ag_wf Γ) (h : ag_A σ Γ) : ao_ok (m_Fa_findSound σ) (fun s => s.2 = σ.2 ∧ (∀ k, k ≠ 43 ∧ k ≠ 44 ∧ k ≠ 45 ∧ k ≠ 46 ∧ k ≠ 57 ∧ k ≠ 41 → s.1 k = σ.1 k) ∧ (∀ j, j ≠ 12 → s.1 41 j = σ.1 41 j) ∧ s.1 41 12 = ao_b (ag_sound Γ)) := by
  have hN := hw.1.1
  unfold m_Fa_findSound
  refine ao_bd (ao_imp (ag_tells hN h.1.2.1 (fun n => ao_b (ag_nx Γ (2 * n) = none)) (fun n => 1) (fun n => 0) (fun n => 1) ?_ ?_) ?_)
  · intro s k hk hc
    show m_Fa_findSound_B2 s (nI k) = _
    have hA := ag_A_ch h hc (by decide) (fun q hq => absurd hq List.not_mem_nil)
    have hl := ao_sl_len2 (ag_nx Γ) k
    unfold m_Fa_findSound_B2
    rw [hA.1.2.1, if_neg (nI_ge hk (by omega)), aw_bd_s (ao_leads hA.1 hk)]
    by_cases q : ag_nx Γ (2 * k) = none
    · rw [if_pos (show nI (ao_sl (ag_nx Γ) k).length = 0 by rw [(ao_sl_0 hw.1 hk).mpr q]; rfl), ao_b1 q]
      unfold m_Fa_findSound_J28
      rw [aw_bd_s (ao_one_1 s)]; rfl
    · rw [if_neg (nI_ne0 (Nat.pos_of_ne_zero fun z => q ((ao_sl_0 hw.1 hk).mp z)) (by omega)), ao_b0 q]
      unfold m_Fa_findSound_J28
      rw [aw_bd_s (ao_one_0 s)]; rfl
  · intro s hc
    show m_Fa_findSound_B2 s (nI (ag_N Γ)) = _
    unfold m_Fa_findSound_B2
    rw [show s.1 24 13 = nI (ag_N Γ) from (congrFun (ag_ct hc (by decide)) 13).trans h.1.2.1, if_pos (nI_le (Nat.le_refl _) (by omega))]
  · rintro s ⟨hc, h2, ht⟩
    have hA := ag_A_ch h hc (by decide) (fun q hq => absurd hq List.not_mem_nil)
    refine ao_bd (ao_imp (ag_solveL hA.1 ht (a := 57) (by decide) 1 1) ?_)
    rintro s' ⟨hc', h2', hs⟩
    have hA' := ag_A_ch hA hc' (by decide) (fun q hq => absurd hq List.not_mem_nil)
    have hLD : ∀ n, n < ag_N Γ → (ao_t (s'.1 57 n) 0 ↔ ao_LD (ag_N Γ) (ag_nx Γ) n) := by
      intro n hn
      refine hs 0 (by omega) (ao_fLD (ag_nx Γ)) (fun Y m hm => ?_) n hn
      rw [ao_t_b, ao_t_1]
      unfold ao_fLD
      refine or_congr ⟨fun q => q.1, fun q => ⟨q, rfl⟩⟩ ⟨fun ⟨_, t, ht, q⟩ => ⟨t, ao_nb1.mp ht, q.elim (fun z => absurd z ao_t_0) (fun z => z.2)⟩, fun ⟨t, ht, q⟩ => ⟨rfl, t, ao_nb1.mpr ht, Or.inr ⟨rfl, q⟩⟩⟩
    have hcount : ao_n (fun n => (s'.1 57 n &&& 1) ≠ 0) (ag_N Γ) = ag_N Γ ↔ ag_sound Γ := by
      rw [ao_n_all]
      exact ⟨fun q n hn => (hLD n hn).mp (ao_t0_and1.mp (q n hn)), fun q n hn => ao_t0_and1.mpr ((hLD n hn).mpr (q n hn))⟩
    have hle := ao_n_le (fun n => (s'.1 57 n &&& 1) ≠ 0) (ag_N Γ)
    have fin : ∀ x, x = ao_b (ag_sound Γ) → ao_ok (m_Fa_findSound_J80 s' x) (fun s => s.2 = σ.2 ∧ (∀ k, k ≠ 43 ∧ k ≠ 44 ∧ k ≠ 45 ∧ k ≠ 46 ∧ k ≠ 57 ∧ k ≠ 41 → s.1 k = σ.1 k) ∧ (∀ j, j ≠ 12 → s.1 41 j = σ.1 41 j) ∧ s.1 41 12 = ao_b (ag_sound Γ)) := by
      intro x hx
      unfold m_Fa_findSound_J80
      refine ao_gd (by rw [hx]; exact ao_b_01 _) (ao_let (ao_some ⟨h2'.trans h2, fun k hk => (ao_sI_o (by omega)).trans (ag_keep hc hc' (by omega)), fun j hj => (ao_sI_i hj).trans (congrFun (ag_keep hc hc' (by omega)) j), ?_⟩))
      rw [ao_sI_s, hx]
    refine ao_bde (ag_nodesWith hN hA'.1.2.1) ?_
    rw [hA'.1.2.1]
    refine ao_if (fun q => fin 1 (ao_b1 (hcount.mp ((nI_eq (by omega) (by omega)).mp q))).symm) (fun q => fin 0 (ao_b0 (fun z => q (by rw [hcount.mpr z]))).symm)
/-- the letter v is read at n -/
def ag_RD (Γ : ag_T) (v n : Nat) : Prop := v < 26 ∧ (((ag_kd Γ n = 1 ∨ ag_kd Γ n = 3) ∧ ag_op Γ n = some v) ∨ (∃ e, ag_ex Γ n = some e ∧ (ag_lf Γ e = v ∨ ag_rt Γ e = v)) ∨ (ag_kd Γ n = 5 ∧ ag_le Γ n = some v))
def ag_NC (Γ : ag_T) (v n : Nat) : Prop := ag_ch Γ n ≠ some v
def ag_LV (Γ : ag_T) (v : Nat) : Nat → Prop := ao_LV (ag_N Γ) (ag_nx Γ) (ag_RD Γ v) (ag_NC Γ v)
theorem ag_readAt {σ : aw_S} {Γ : ag_T} (hw : ag_wf Γ) (h : ag_A σ Γ) {n : Nat} (hn : n < ag_N Γ) : ∃ r, m_Fa_lettersReadAt σ (nI n) = some r ∧ ∀ v, v < 32 → (ao_t r v ↔ ag_RD Γ v n) := by
  have hN := hw.1.1
  have hk := hw.2.2.2.2.2.1 n hn
  have hk7 := ag_kd_lt hk
  obtain ⟨a1, a2, a3, a4, a5⟩ := h.2.1 n hn
  have n1 : ag_kd Γ n ≠ 1 → ¬ nI (ag_kd Γ n) = (1 : Int32) := fun q z => q ((ag_kI hk7 (b := 1) (by omega)).mp z)
  have n2 : ag_kd Γ n ≠ 2 → ¬ nI (ag_kd Γ n) = (2 : Int32) := fun q z => q ((ag_kI hk7 (b := 2) (by omega)).mp z)
  have n3 : ag_kd Γ n ≠ 3 → ¬ nI (ag_kd Γ n) = (3 : Int32) := fun q z => q ((ag_kI hk7 (b := 3) (by omega)).mp z)
  have n4 : ag_kd Γ n ≠ 4 → ¬ nI (ag_kd Γ n) = (4 : Int32) := fun q z => q ((ag_kI hk7 (b := 4) (by omega)).mp z)
  have n5 : ag_kd Γ n ≠ 5 → ¬ nI (ag_kd Γ n) = (5 : Int32) := fun q z => q ((ag_kI hk7 (b := 5) (by omega)).mp z)
  unfold m_Fa_lettersReadAt
  rw [ao_gdn (by omega) (by omega), nI_clamp (by omega), a1]
  have hJ : ∀ a, ag_op Γ n = some a → a < 1026 → ∃ r, m_Fa_lettersReadAt_J40 σ (nI n) = some r ∧ ∀ v, v < 32 → (ao_t r v ↔ v < 26 ∧ a = v) := by
    intro a ha hlt
    obtain ⟨r, er, hr⟩ := ag_letterBit (σ := σ) a (by omega)
    refine ⟨r, ?_, hr⟩
    unfold m_Fa_lettersReadAt_J40
    rw [ao_gdn (by omega) (by omega), nI_clamp (by omega), a4, ha]
    show aw_bd (m_Ex_letterBit σ (nI a)) _ = _
    rw [aw_bd_s er]
  have fin0 : ∀ r : Int32, (∀ v, ¬ ag_RD Γ v n) → r = 0 → ∀ v, v < 32 → (ao_t r v ↔ ag_RD Γ v n) := fun r hq hr v _ => by rw [hr]; exact ⟨fun z => absurd z ao_t_0, fun z => absurd z (hq v)⟩
  rcases hk with z | z | z | z | z | z | z
  · rw [if_neg (n1 (by omega)), if_neg (n2 (by omega)), if_neg (n3 (by omega)), if_neg (n4 (by omega)), if_neg (n5 (by omega))]
    refine ⟨_, rfl, fin0 _ (fun v q => ?_) rfl⟩
    rcases q.2 with q | ⟨e, q, _⟩ | q
    · omega
    · rw [z.2.2.2.2.1] at q; cases q
    · omega
  · obtain ⟨a, ha, ea⟩ := z.2.2.2.1
    obtain ⟨r, er, hr⟩ := hJ a ea ha
    rw [if_pos (show nI (ag_kd Γ n) = (1 : Int32) by rw [z.1]; rfl), er]
    refine ⟨r, rfl, fun v hv => (hr v hv).trans (and_congr_right fun _ => ⟨fun q => Or.inl ⟨Or.inl z.1, by rw [ea, q]⟩, fun q => ?_⟩)⟩
    rcases q with q | ⟨e, q, _⟩ | q
    · rw [ea] at q; exact Option.some.inj q.2
    · rw [z.2.2.2.2.1] at q; cases q
    · omega
  · obtain ⟨e, he, ee⟩ := z.2.2.2.2.1
    obtain ⟨r, er, hr⟩ := ag_lettersOf hw h he
    rw [if_neg (n1 (by omega)), if_pos (show nI (ag_kd Γ n) = (2 : Int32) by rw [z.1]; rfl), ao_gdn (by omega) (by omega), a5, ee]
    refine ⟨r, ?_, fun v hv => (hr v hv).trans (and_congr_right fun _ => ⟨fun q => Or.inr (Or.inl ⟨e, ee, q⟩), fun q => ?_⟩)⟩
    · show aw_bd (m_Ex_lettersOf σ 25 (nI e)) _ = _
      rw [aw_bd_s er]
    · rcases q with q | ⟨e', q, q2⟩ | q
      · omega
      · rw [ee] at q; cases q; exact q2
      · omega
  · obtain ⟨a, ha, ea⟩ := z.2.2.2.1
    obtain ⟨r, er, hr⟩ := hJ a ea ha
    rw [if_neg (n1 (by omega)), if_neg (n2 (by omega)), if_pos (show nI (ag_kd Γ n) = (3 : Int32) by rw [z.1]; rfl), er]
    refine ⟨r, rfl, fun v hv => (hr v hv).trans (and_congr_right fun _ => ⟨fun q => Or.inl ⟨Or.inr z.1, by rw [ea, q]⟩, fun q => ?_⟩)⟩
    rcases q with q | ⟨e, q, _⟩ | q
    · rw [ea] at q; exact Option.some.inj q.2
    · rw [z.2.2.2.2.1] at q; cases q
    · omega
  · rw [if_neg (n1 (by omega)), if_neg (n2 (by omega)), if_neg (n3 (by omega)), if_pos (show nI (ag_kd Γ n) = (4 : Int32) by rw [z.1]; rfl)]
    refine ⟨_, rfl, fin0 _ (fun v q => ?_) rfl⟩
    rcases q.2 with q | ⟨e, q, _⟩ | q
    · omega
    · rw [z.2.2.2.2.1] at q; cases q
    · omega
  · obtain ⟨x, hx, ex⟩ := z.2.2.1
    obtain ⟨r, er, hr⟩ := ag_letterBit (σ := σ) x (by omega)
    rw [if_neg (n1 (by omega)), if_neg (n2 (by omega)), if_neg (n3 (by omega)), if_neg (n4 (by omega)), if_pos (show nI (ag_kd Γ n) = (5 : Int32) by rw [z.1]; rfl), ao_gdn (by omega) (by omega), a3, ex]
    refine ⟨r, ?_, fun v hv => (hr v hv).trans (and_congr_right fun _ => ⟨fun q => Or.inr (Or.inr ⟨z.1, by rw [ex, q]⟩), fun q => ?_⟩)⟩
    · show aw_bd (m_Ex_letterBit σ (nI x)) _ = _
      rw [aw_bd_s er]
    · rcases q with q | ⟨e', q, q2⟩ | q
      · omega
      · rw [z.2.2.2.2.1] at q; cases q
      · rw [ex] at q; exact Option.some.inj q.2
  · rw [if_neg (n1 (by omega)), if_neg (n2 (by omega)), if_neg (n3 (by omega)), if_neg (n4 (by omega)), if_neg (n5 (by omega))]
    refine ⟨_, rfl, fin0 _ (fun v q => ?_) rfl⟩
    rcases q.2 with q | ⟨e, q, _⟩ | q
    · omega
    · rw [z.2.2.2.2.1] at q; cases q
    · omega

set_option maxHeartbeats 4000000 in
theorem ag_findLive {σ : aw_S} {Γ : ag_T} (hw : ag_wf Γ) (h : ag_A σ Γ) : ao_ok (m_Fa_findLive σ) (fun s => ag_fr 56 σ s ∧ ∀ n, n < ag_N Γ → ∀ v, v < 32 → (ao_t (s.1 56 n) v ↔ ag_LV Γ v n)) := by
  have hN := hw.1.1
  have hrd : ∀ n, ∃ r, n < ag_N Γ → ∀ s, ag_A s Γ → (∀ k, 24 ≤ k → k ≤ 40 → s.1 k = σ.1 k) → m_Fa_lettersReadAt s (nI n) = some r ∧ ∀ v, v < 32 → (ao_t r v ↔ ag_RD Γ v n) := by
    intro n
    by_cases hn : n < ag_N Γ
    · obtain ⟨r, _, hr⟩ := ag_readAt hw h hn
      refine ⟨r, fun _ s hs hc => ?_⟩
      obtain ⟨r', er', hr'⟩ := ag_readAt hw hs hn
      have : r' = r := ao_t_ext (fun v hv => (hr' v hv).trans (hr v hv).symm)
      subst this
      exact ⟨er', hr'⟩
    · exact ⟨0, fun q => absurd q hn⟩
  obtain ⟨rd, hrd⟩ : ∃ rd : Nat → Int32, ∀ n, n < ag_N Γ → ∀ s, ag_A s Γ → (∀ k, 24 ≤ k → k ≤ 40 → s.1 k = σ.1 k) → m_Fa_lettersReadAt s (nI n) = some (rd n) ∧ ∀ v, v < 32 → (ao_t (rd n) v ↔ ag_RD Γ v n) := ⟨fun n => Classical.choose (hrd n), fun n hn => Classical.choose_spec (hrd n) hn⟩
  have hcb : ∀ n, ∃ r, n < ag_N Γ → ∀ s, m_Ex_letterBit s (ao_o (ag_ch Γ n)) = some r ∧ ∀ v, v < 32 → (ao_t r v ↔ v < 26 ∧ ag_ch Γ n = some v) := by
    intro n
    by_cases hn : n < ag_N Γ
    · obtain ⟨r, er, hr⟩ := ag_letterBitO (σ := σ) (ag_ch Γ n) (fun v hv => by have := ag_ch_lt hw hn hv; omega)
      exact ⟨r, fun _ s => ⟨er, hr⟩⟩
    · exact ⟨0, fun q => absurd q hn⟩
  obtain ⟨cb, hcb⟩ : ∃ cb : Nat → Int32, ∀ n, n < ag_N Γ → ∀ s, m_Ex_letterBit s (ao_o (ag_ch Γ n)) = some (cb n) ∧ ∀ v, v < 32 → (ao_t (cb n) v ↔ v < 26 ∧ ag_ch Γ n = some v) := ⟨fun n => Classical.choose (hcb n), fun n hn => Classical.choose_spec (hcb n) hn⟩
  unfold m_Fa_findLive
  refine ao_bd (ao_imp (ag_tells hN h.1.2.1 rd (fun n => cb n ^^^ (-1)) (fun n => 0) (fun n => -1) ?_ ?_) ?_)
  · intro s k hk hc
    show m_Fa_findLive_B2 s (nI k) = _
    have hA := ag_A_ch h hc (by decide) (fun q hq => absurd hq List.not_mem_nil)
    unfold m_Fa_findLive_B2
    rw [hA.1.2.1, if_neg (nI_ge hk (by omega)), aw_bd_s (hrd k hk s hA (fun c h1 h2 => ag_ct hc (by simp; omega))).1, aw_bd_s (ag_changedAt hw hA hk), aw_bd_s (hcb k hk s).1]
    rfl
  · intro s hc
    show m_Fa_findLive_B2 s (nI (ag_N Γ)) = _
    unfold m_Fa_findLive_B2
    rw [show s.1 24 13 = nI (ag_N Γ) from (congrFun (ag_ct hc (by decide)) 13).trans h.1.2.1, if_pos (nI_le (Nat.le_refl _) (by omega))]
  · rintro s ⟨hc, h2, ht⟩
    have hA := ag_A_ch h hc (by decide) (fun q hq => absurd hq List.not_mem_nil)
    refine ao_bd (ao_imp (ag_solveL hA.1 ht (a := 56) (by decide) 1 (-1)) (fun s' hs => ao_some ⟨⟨hs.2.1.trans h2, fun k hk => ag_keep hc hs.1 hk⟩, fun n hn v hv => ?_⟩))
    refine hs.2.2 v hv (ao_fLV (ag_nx Γ) (ag_RD Γ v) (ag_NC Γ v)) (fun Y m hm => ?_) n hn
    rw [(hrd m hm σ h (fun _ _ _ => rfl)).2 v hv, ao_t_not hv, (hcb m hm σ).2 v hv]
    unfold ao_fLV ag_NC
    refine or_congr Iff.rfl (and_congr ⟨fun q z => q ⟨ag_ch_lt hw hm z, z⟩, fun q z => q z.2⟩ ⟨fun ⟨t, ht, q⟩ => ⟨t, ao_nb1.mp ht, q.elim (fun z => absurd z ao_t_0) (fun z => z.2)⟩, fun ⟨t, ht, q⟩ => ⟨t, ao_nb1.mpr ht, Or.inr ⟨ao_t_m1 hv, q⟩⟩⟩)
/-- the facts of the program, in the class -/
def ag_FA (s : aw_S) (Γ : ag_T) : Prop :=
  (∀ w, w < 8 → ag_bt s (47 + w) Γ (fun e => ag_F Γ e w)) ∧ ag_bt s 55 Γ (fun e => ao_MB (ag_N Γ) (ag_nx Γ) (ag_US Γ e) (ag_KE Γ e)) ∧ (∀ n, n < ag_N Γ → ∀ v, v < 32 → (ao_t (s.1 56 n) v ↔ ag_LV Γ v n)) ∧ s.1 41 12 = ao_b (ag_sound Γ)
theorem ag_FA_fr {s s' : aw_S} {Γ : ag_T} (h : ag_FA s Γ) (e : ∀ k, 47 ≤ k → k ≤ 56 → s'.1 k = s.1 k) (e2 : s'.1 41 12 = s.1 41 12) : ag_FA s' Γ :=
  ⟨fun w hw => ag_bt_c (h.1 w hw) (e _ (by omega) (by omega)), ag_bt_c h.2.1 (e 55 (by omega) (by omega)), fun n hn v hv => by rw [e 56 (by omega) (by omega)]; exact h.2.2.1 n hn v hv, e2.trans h.2.2.2⟩
set_option maxHeartbeats 4000000 in
theorem ag_FaBuild {σ : aw_S} {Γ : ag_T} (hw : ag_wf Γ) (h : ag_A σ Γ) : ao_ok (m_Fa_build σ) (fun s => s.2 = σ.2 ∧ (∀ k, k < 41 ∨ 57 < k → s.1 k = σ.1 k) ∧ ag_A s Γ ∧ ag_FA s Γ) := by
  have hN := hw.1.1
  have hX := hw.2.2.2.2.2.2.1
  unfold m_Fa_build
  rw [h.2.2.2.1]
  refine ao_lt (fun s1 es1 => ?_)
  have A1 : ag_A s1 Γ := ag_A_fr h (fun k h1 h2 => by rw [es1]; exact ao_sI_o (by omega))
  have all1 : ag_all s1 Γ := by
    intro e he
    rw [es1, ao_sI_s, ao_t_all (by omega) he]
  have f1 : ∀ k, k ≠ 41 → s1.1 k = σ.1 k := fun k hk => by rw [es1]; exact ao_sI_o hk
  have g1 : s1.2 = σ.2 := by rw [es1]; rfl
  clear es1
  refine ao_bd (ao_imp (ao_for (Q := fun s => s.2 = σ.2 ∧ (∀ k, k ≠ 47 → k ≠ 48 → s.1 k = s1.1 k) ∧ ag_bt s 47 Γ (fun e => ag_F Γ e 0) ∧ ag_bt s 48 Γ (fun e => ag_F Γ e 1)) (ag_N Γ) (fun k s => s.1 = nI k ∧ s.2.2 = σ.2 ∧ (∀ k, k ≠ 47 → k ≠ 48 → s.2.1 k = s1.1 k) ∧ (∀ n, n < k → ∀ e, e < 32 → (ao_t (s.2.1 47 n) e ↔ e < ag_X Γ ∧ ag_US Γ e n)) ∧ ∀ n, n < k → ∀ e, e < 32 → (ao_t (s.2.1 48 n) e ↔ e < ag_X Γ ∧ ag_KE Γ e n)) (a := 0) ⟨rfl, g1, fun _ _ _ => rfl, fun n hn => absurd hn (Nat.not_lt_zero _), fun n hn => absurd hn (Nat.not_lt_zero _)⟩ (Nat.zero_le _) (by omega) ?_ ?_) ?_)
  · rintro k ⟨v, s⟩ hk ⟨e1, h2, hf, hu, hv⟩
    have e1 : v = nI k := e1
    subst e1
    have hf : ∀ k, k ≠ 47 → k ≠ 48 → s.1 k = s1.1 k := hf
    have hA : ag_A s Γ := ag_A_fr A1 (fun c h1 h2 => hf c (by omega) (by omega))
    show ao_ok (m_Fa_build_B17 s (nI k)) _
    unfold m_Fa_build_B17
    rw [hA.1.2.1, if_neg (nI_ge hk (by omega))]
    obtain ⟨r, er, hr⟩ := ag_usedAt hw hA hk
    refine ao_bde er ?_
    rw [ao_gdn (by omega) (by omega), nI_clamp (by omega)]
    refine ao_let ?_
    have hA2 : ag_A (aw_sI s 47 k r) Γ := ag_A_fr hA (fun c h1 h2 => ao_sI_o (by omega))
    refine ao_bd (ao_imp (ag_keptAt hw hA2 hk) (fun r2 hr2 => ?_))
    rw [ao_gdn (by omega) (by omega)]
    refine ao_let (ao_let (ao_inr ⟨nI_1 k, h2, fun c h1 h2 => (ao_sI_o h2).trans ((ao_sI_o h1).trans (hf c h1 h2)), fun n hn e he => ?_, fun n hn e he => ?_⟩))
    · show ao_t ((aw_sI (aw_sI s 47 k r) 48 k r2).1 47 n) e ↔ _
      rw [ao_sI_o (by decide)]
      by_cases hnk : n = k
      · subst hnk; rw [ao_sI_s]; exact hr e he
      · rw [ao_sI_i hnk]; exact hu n (by omega) e he
    · show ao_t ((aw_sI (aw_sI s 47 k r) 48 k r2).1 48 n) e ↔ _
      by_cases hnk : n = k
      · subst hnk; rw [ao_sI_s]; exact hr2 e he
      · rw [ao_sI_i hnk, ao_sI_o (by decide)]; exact hv n (by omega) e he
  · rintro ⟨v, s⟩ ⟨e1, h2, hf, hu, hv⟩
    have e1 : v = nI (ag_N Γ) := e1
    subst e1
    have hf : ∀ k, k ≠ 47 → k ≠ 48 → s.1 k = s1.1 k := hf
    show ao_ok (m_Fa_build_B17 s (nI (ag_N Γ))) _
    unfold m_Fa_build_B17
    rw [show s.1 24 13 = nI (ag_N Γ) from (congrFun (hf 24 (by decide) (by decide)) 13).trans A1.1.2.1, if_pos (nI_le (Nat.le_refl _) (by omega))]
    exact ao_inl ⟨h2, hf, hu, hv⟩
  · rintro t1 ⟨p1, q1, u1, k1⟩
    have B1 : ag_A t1 Γ := ag_A_fr A1 (fun c h1 h2 => q1 c (by omega) (by omega))
    have L1 : ag_all t1 Γ := by unfold ag_all; rw [q1 41 (by decide) (by decide)]; exact all1
    refine ao_bd (ao_imp (ag_findSound hw B1) ?_)
    rintro t2 ⟨p2, q2, j2, d2⟩
    have B2 : ag_A t2 Γ := ag_A_fr B1 (fun c h1 h2 => q2 c (by omega))
    have L2 : ag_all t2 Γ := by unfold ag_all; rw [j2 13 (by decide)]; exact L1
    have u2 := ag_bt_c u1 (q2 47 (by omega))
    have k2 := ag_bt_c k1 (q2 48 (by omega))
    refine ao_bd (ao_imp (ag_findLive hw B2) ?_)
    rintro t3 ⟨f3, v3⟩
    have B3 := ag_fr_A f3 (by omega) B2
    have L3 := ag_fr_all f3 (by omega) L2
    have u3 := ag_bt_c u2 (f3.2 47 (by omega))
    have k3 := ag_bt_c k2 (f3.2 48 (by omega))
    refine ao_bd (ao_imp (ag_findNeeded hw B3 L3 u3 k3) ?_)
    rintro t4 ⟨f4, n4⟩
    have B4 := ag_fr_A f4 (by omega) B3
    have L4 := ag_fr_all f4 (by omega) L3
    have u4 := ag_bt_c u3 (f4.2 47 (by omega))
    have k4 := ag_bt_c k3 (f4.2 48 (by omega))
    refine ao_bd (ao_imp (ag_findAtHand hw B4 L4 u4 k4) ?_)
    rintro t5 ⟨f5, a5⟩
    have B5 := ag_fr_A f5 (by omega) B4
    have L5 := ag_fr_all f5 (by omega) L4
    have u5 := ag_bt_c u4 (f5.2 47 (by omega))
    have k5 := ag_bt_c k4 (f5.2 48 (by omega))
    have n5 := ag_bt_c n4 (f5.2 49 (by omega))
    refine ao_bd (ao_imp (ag_findMaybe hw B5 L5 u5 k5) ?_)
    rintro t6 ⟨f6, m6⟩
    have B6 := ag_fr_A f6 (by omega) B5
    have L6 := ag_fr_all f6 (by omega) L5
    refine ao_bd (ao_imp (ag_findEarly hw B6 L6 (ag_bt_c k5 (f6.2 48 (by omega))) (ag_bt_c n5 (f6.2 49 (by omega))) (ag_bt_c a5 (f6.2 50 (by omega)))) ?_)
    rintro t7 ⟨f7, e7⟩
    have B7 := ag_fr_A f7 (by omega) B6
    have L7 := ag_fr_all f7 (by omega) L6
    have c7 : ∀ c, c ≠ 43 ∧ c ≠ 44 ∧ c ≠ 45 ∧ c ≠ 46 ∧ c ≠ 55 ∧ c ≠ 51 → t7.1 c = t5.1 c := fun c hc => (f7.2 c (by omega)).trans (f6.2 c (by omega))
    refine ao_bd (ao_imp (ag_findDelayed hw B7 L7 (ag_bt_c u5 (c7 47 (by omega))) e7) ?_)
    rintro t8 ⟨f8, d8⟩
    have B8 := ag_fr_A f8 (by omega) B7
    have L8 := ag_fr_all f8 (by omega) L7
    refine ao_bd (ao_imp (ag_findLate hw B8 L8 (ag_bt_c u5 ((f8.2 47 (by omega)).trans (c7 47 (by omega)))) d8) ?_)
    rintro t9 ⟨f9, l9⟩
    have B9 := ag_fr_A f9 (by omega) B8
    have L9 := ag_fr_all f9 (by omega) L8
    have c9 : ∀ c, c ≠ 43 ∧ c ≠ 44 ∧ c ≠ 45 ∧ c ≠ 46 ∧ c ≠ 52 ∧ c ≠ 53 → t9.1 c = t7.1 c := fun c hc => (f9.2 c (by omega)).trans (f8.2 c (by omega))
    refine ao_bd (ao_imp (ag_findAlone hw B9 L9 (ag_bt_c u5 ((c9 47 (by omega)).trans (c7 47 (by omega)))) l9) ?_)
    rintro t10 ⟨f10, al⟩
    refine ao_some ⟨f10.1.trans (f9.1.trans (f8.1.trans (f7.1.trans (f6.1.trans (f5.1.trans (f4.1.trans (f3.1.trans (p2.trans p1)))))))), fun c hc => ?_, ag_fr_A f10 (by omega) B9, ?_, ?_, fun n hn v hv => ?_, ?_⟩
    · rw [f10.2 c (by omega), c9 c (by omega), c7 c (by omega), f5.2 c (by omega), f4.2 c (by omega), f3.2 c (by omega), q2 c (by omega), q1 c (by omega) (by omega), f1 c (by omega)]
    · intro w hw8
      rcases (show w = 0 ∨ w = 1 ∨ w = 2 ∨ w = 3 ∨ w = 4 ∨ w = 5 ∨ w = 6 ∨ w = 7 by omega) with rfl | rfl | rfl | rfl | rfl | rfl | rfl | rfl
      · exact ag_bt_c u5 ((f10.2 47 (by omega)).trans ((c9 47 (by omega)).trans (c7 47 (by omega))))
      · exact ag_bt_c k5 ((f10.2 48 (by omega)).trans ((c9 48 (by omega)).trans (c7 48 (by omega))))
      · exact ag_bt_c n5 ((f10.2 49 (by omega)).trans ((c9 49 (by omega)).trans (c7 49 (by omega))))
      · exact ag_bt_c a5 ((f10.2 50 (by omega)).trans ((c9 50 (by omega)).trans (c7 50 (by omega))))
      · exact ag_bt_c e7 ((f10.2 51 (by omega)).trans (c9 51 (by omega)))
      · exact ag_bt_c d8 ((f10.2 52 (by omega)).trans (f9.2 52 (by omega)))
      · exact ag_bt_c l9 (f10.2 53 (by omega))
      · exact al
    · exact ag_bt_c m6 ((f10.2 55 (by omega)).trans ((c9 55 (by omega)).trans (f7.2 55 (by omega))))
    · rw [f10.2 56 (by omega), c9 56 (by omega), c7 56 (by omega), f5.2 56 (by omega), f4.2 56 (by omega)]
      exact v3 n hn v hv
    · rw [f10.2 41 (by omega), c9 41 (by omega), c7 41 (by omega), f5.2 41 (by omega), f4.2 41 (by omega), f3.2 41 (by omega)]
      exact d2

/-! ===== the class: over, heads, depths ===== -/
theorem ao_fOV_mono {N : Nat} {nx : Nat → Option Nat} (v : Nat) : ao_mono N (ao_fOV N nx v) := fun Y Z hYZ n hn hf => hf.imp id (fun ⟨a, b⟩ => ⟨a, fun p hp hed => hYZ p hp (b p hp hed)⟩)
/-- within a round -/
def ag_OI (σ0 : aw_S) (Γ : ag_T) (ρ : aw_S) (i : Nat) (v6 : Int32) (s : aw_S) : Prop :=
  ag_lo σ0 s ∧ (v6 = 0 ∨ v6 = 1) ∧ (∀ v, v < 128 → ao_in True (ag_N Γ) (ao_fOV (ag_N Γ) (ag_nx Γ) v) (ag_ov ρ v) (fun m => m < i) (ag_ov s v)) ∧ (v6 = 0 → ∀ n, n < ag_N Γ → s.2.1 59 n = ρ.2.1 59 n ∧ s.2.1 60 n = ρ.2.1 60 n)
def ag_OO (σ0 : aw_S) (Γ : ag_T) (r : Nat) (v6 : Int32) (s : aw_S) : Prop :=
  ag_lo σ0 s ∧ (v6 = 0 ∨ v6 = 1) ∧ ∀ v, v < 128 → ao_D True (ag_N Γ) (ao_fOV (ag_N Γ) (ag_nx Γ) v) (ag_ov s v) ∧ ao_U True (ag_N Γ) (ao_fOV (ag_N Γ) (ag_nx Γ) v) (ag_ov s v) ∧ (ao_fx (ag_N Γ) (ao_fOV (ag_N Γ) (ag_nx Γ) v) (ag_ov s v) ∨ ao_cn True (ag_N Γ) (ag_ov s v) + r ≤ ag_N Γ) ∧ (v6 = 0 → ao_fx (ag_N Γ) (ao_fOV (ag_N Γ) (ag_nx Γ) v) (ag_ov s v))
theorem ag_ov_c {s t : aw_S} {n : Nat} (h : s.2.1 59 n = t.2.1 59 n ∧ s.2.1 60 n = t.2.1 60 n) (v : Nat) : ag_ov s v n ↔ ag_ov t v n := by unfold ag_ov; rw [h.1, h.2]
set_option maxHeartbeats 4000000 in
theorem ag_findOver {σ : aw_S} {Γ : ag_T} (hw : ag_wf Γ) (h : ag_A σ Γ) : ao_ok (m_Lo_findOver σ) (fun s => ag_lo σ s ∧ ∀ v, v < 128 → ∀ n, n < ag_N Γ → (ag_ov s v n ↔ ao_OV (ag_N Γ) (ag_nx Γ) v n)) := by
  have hN := hw.1.1
  unfold m_Lo_findOver
  refine ao_bd (ao_imp (ag_fillJ (by omega)) ?_)
  rintro s1 ⟨a1, b1, c1, d1⟩
  refine ao_bd (ao_imp (ag_fillJ (by omega)) ?_)
  rintro s2 ⟨a2, b2, c2, d2⟩
  have l2 : ag_lo σ s2 := ⟨a2.trans a1, b2.trans b1, fun k h1 h2 => (c2 k h2).trans (c1 k h1)⟩
  have all2 : ∀ v, v < 128 → ∀ n, n < ag_N Γ → ag_ov s2 v n := by
    intro v hv n hn
    unfold ag_ov
    by_cases q : v < 64
    · rw [if_pos q, c2 59 (by decide), d1 n (by omega)]; exact aL_m1 q
    · rw [if_neg q, d2 n (by omega)]; exact aL_m1 (by omega)
  refine ao_bd (ao_for (Q := fun (s : aw_S) => ao_ok (some s) (fun s => ag_lo σ s ∧ ∀ v, v < 128 → ∀ n, n < ag_N Γ → (ag_ov s v n ↔ ao_OV (ag_N Γ) (ag_nx Γ) v n))) 1000 (fun r (s : Int32 × Int32 × aw_S) => s.2.1 = nI r ∧ ag_OO σ Γ r s.1 s.2.2) (a := 0) ⟨rfl, l2, Or.inr rfl, fun v hv => ⟨fun n hn => ⟨fun _ _ => all2 v hv n hn, fun z => absurd trivial z⟩, fun Y hY n hn => ⟨fun _ _ => all2 v hv n hn, fun z => absurd trivial z⟩, Or.inr (ao_cn_N _ _ _), fun z => absurd (show (1 : Int32) = 0 from z) (by decide)⟩⟩ (Nat.zero_le _) (by omega) ?_ ?_)
  · rintro r ⟨v6, v7, s⟩ hr ⟨e7, hl, hv6, hR⟩
    have e7 : v7 = nI r := e7
    subst e7
    have hR : ∀ v, v < 128 → ao_D True (ag_N Γ) (ao_fOV (ag_N Γ) (ag_nx Γ) v) (ag_ov s v) ∧ ao_U True (ag_N Γ) (ao_fOV (ag_N Γ) (ag_nx Γ) v) (ag_ov s v) ∧ (ao_fx (ag_N Γ) (ao_fOV (ag_N Γ) (ag_nx Γ) v) (ag_ov s v) ∨ ao_cn True (ag_N Γ) (ag_ov s v) + r ≤ ag_N Γ) ∧ (v6 = 0 → ao_fx (ag_N Γ) (ao_fOV (ag_N Γ) (ag_nx Γ) v) (ag_ov s v)) := hR
    show ao_ok (m_Lo_findOver_B24 s v6 (nI r)) _
    unfold m_Lo_findOver_B24
    refine ao_if (fun h0 => ao_inl (ao_some ⟨hl, fun v hv => ao_gf_G (ao_gf_of (hR v hv).2.1 ((hR v hv).2.2.2 h0)) (fun _ _ _ => Iff.rfl)⟩)) (fun h0 => ?_)
    rw [if_neg (show ¬ (1000 : Int32) ≤ nI r from nI_ge (b := 1000) hr (by omega))]
    refine ao_bd (ao_imp (ao_for (Q := fun t => ag_OI σ Γ s (ag_N Γ) t.1 t.2) (ag_N Γ) (fun i t => t.2.1 = nI i ∧ ag_OI σ Γ s i t.1 t.2.2) (a := 0) ⟨rfl, hl, Or.inl rfl, fun v hv => ao_in_v (ao_in_0 (hR v hv).1 (hR v hv).2.1) (fun m hm => absurd hm (Nat.not_lt_zero _)), fun _ _ _ => ⟨rfl, rfl⟩⟩ (Nat.zero_le _) (by omega) ?_ ?_) ?_)
    · rintro i ⟨w6, w8, t⟩ hi ⟨e8, lt, hw6, hin, hz⟩
      have e8 : w8 = nI i := e8
      subst e8
      have lt : ag_lo σ t := lt
      have hin : ∀ v, v < 128 → ao_in True (ag_N Γ) (ao_fOV (ag_N Γ) (ag_nx Γ) v) (ag_ov s v) (fun m => m < i) (ag_ov t v) := hin
      have hA := ag_lo_A lt h
      show ao_ok (m_Lo_findOver_B40 t (nI r) w6 (nI i)) _
      unfold m_Lo_findOver_B40
      rw [hA.1.2.1, if_neg (nI_ge hi (by omega))]
      refine ao_bd2 (ao_imp (ag_narrow hw hA hi) ?_)
      rintro ⟨x, u⟩ ⟨lu, ho, hn, hx, hx0⟩
      have lu : ag_lo t u := lu
      have ho : ∀ m, m ≠ i → u.2.1 59 m = t.2.1 59 m ∧ u.2.1 60 m = t.2.1 60 m := ho
      have hn : ∀ v, v < 128 → (ag_ov u v i ↔ ao_fOV (ag_N Γ) (ag_nx Γ) v (ag_ov t v) i) := hn
      have hJ : ∀ k0, (k0 = 0 ∨ k0 = 1) → (k0 = 0 → w6 = 0 ∧ x = 0) → ao_ok (m_Lo_findOver_J68 u (nI r) (nI i) k0) (Sum.elim (fun t => ag_OI σ Γ s (ag_N Γ) t.1 t.2) (fun t => t.2.1 = nI (i + 1) ∧ ag_OI σ Γ s (i + 1) t.1 t.2.2)) := by
        intro k0 hk hk0
        refine ao_let (ao_inr ⟨nI_1 i, ag_lo_tr lt lu, hk, fun v hv => ao_in_v (ao_in_s (ao_fOV_mono v) (hin v hv) hi (st' := ag_ov u v) (hn v hv) (fun m _ hm => ag_ov_c (ho m hm) v)) (fun m hm => ?_), fun z n hnn => ?_⟩)
        · by_cases hmi : m = i
          · exact Or.inr hmi
          · exact Or.inl (by omega)
        · obtain ⟨z1, z2⟩ := hk0 z
          have q := hz z1 n hnn
          by_cases hni : n = i
          · subst hni
            exact ⟨(hx0 z2).1.trans q.1, (hx0 z2).2.trans q.2⟩
          · exact ⟨(ho n hni).1.trans q.1, (ho n hni).2.trans q.2⟩
      show ao_ok (if x = 0 then _ else _) _
      refine ao_if (fun q => ao_if (fun q2 => hJ 0 (Or.inl rfl) (fun _ => ⟨q2, q⟩)) (fun _ => hJ 1 (Or.inr rfl) (fun z => absurd z (by decide)))) (fun _ => hJ 1 (Or.inr rfl) (fun z => absurd z (by decide)))
    · rintro ⟨w6, w8, t⟩ ⟨e8, ht⟩
      have e8 : w8 = nI (ag_N Γ) := e8
      subst e8
      show ao_ok (m_Lo_findOver_B40 t (nI r) w6 (nI (ag_N Γ))) _
      unfold m_Lo_findOver_B40
      rw [(ag_lo_A ht.1 h).1.2.1, if_pos (nI_le (Nat.le_refl _) (by omega))]
      exact ao_inl ht
    · rintro ⟨w, t⟩ ⟨lt, hw6, hin, hz⟩
      have hin : ∀ v, v < 128 → ao_in True (ag_N Γ) (ao_fOV (ag_N Γ) (ag_nx Γ) v) (ag_ov s v) (fun m => m < ag_N Γ) (ag_ov t v) := hin
      refine ao_let (ao_inr ⟨nI_1 r, lt, hw6, fun v hv => ?_⟩)
      obtain ⟨q1, q2, q3, q4⟩ := ao_in_e (ao_fOV_mono v) (hin v hv) (fun n hn => hn)
      refine ⟨q1, q2, ?_, fun h6 => ?_⟩
      · rcases (hR v hv).2.2.1 with hf | hl
        · exact Or.inl (q4 hf)
        · rcases q3 with q3 | q3
          · exact Or.inr (show ao_cn True (ag_N Γ) (ag_ov t v) + (r + 1) ≤ ag_N Γ by omega)
          · exact Or.inl q3
      · exact ao_in_same (ao_fOV_mono v) (hin v hv) (fun n hn => hn) (fun m hm => ag_ov_c (hz h6 m hm) v)
  · rintro ⟨v6, v7, s⟩ ⟨e7, hl, hv6, hR⟩
    have e7 : v7 = nI 1000 := e7
    subst e7
    have hfin : ag_lo σ s ∧ ∀ v, v < 128 → ∀ n, n < ag_N Γ → (ag_ov s v n ↔ ao_OV (ag_N Γ) (ag_nx Γ) v n) := ⟨hl, fun v hv => ao_gf_G (ao_gf_of (hR v hv).2.1 ((hR v hv).2.2.1.elim id (fun q => absurd q (by omega)))) (fun _ _ _ => Iff.rfl)⟩
    show ao_ok (m_Lo_findOver_B24 s v6 (nI 1000)) _
    unfold m_Lo_findOver_B24
    refine ao_if (fun h0 => ao_inl (ao_some hfin)) (fun h0 => ?_)
    rw [if_pos (show (1000 : Int32) ≤ nI 1000 by decide)]
    exact ao_inl (ao_some hfin)
/-- the rows of longs say what is over what -/
def ag_LO (s : aw_S) (Γ : ag_T) : Prop := ∀ v, v < 128 → ∀ n, n < ag_N Γ → (ag_ov s v n ↔ ao_OV (ag_N Γ) (ag_nx Γ) v n)
theorem ag_isOverA {s : aw_S} {Γ : ag_T} (hN : ag_N Γ ≤ 112) (h : ag_LO s Γ) {v n : Nat} (hv : v < 128) (hn : n < ag_N Γ) : m_Lo_isOver s (nI v) (nI n) = some (ao_b (ao_OV (ag_N Γ) (ag_nx Γ) v n)) := by
  have hov := h v hv n hn
  unfold ag_ov at hov
  unfold m_Lo_isOver
  rw [ao_gdn (by omega) (by omega), ao_gdn (by omega) (by omega), nI_clamp (by omega)]
  by_cases q : v < 64
  · rw [if_neg (show ¬ (64 : Int32) ≤ nI v from nI_ge (b := 64) q (by omega))]
    rw [if_pos q] at hov
    by_cases z : ao_OV (ag_N Γ) (ag_nx Γ) v n
    · rw [if_pos ((aL_bit q).mpr (hov.mpr z)), ao_b1 z]
    · rw [if_neg (fun y => z (hov.mp ((aL_bit q).mp y))), ao_b0 z]
  · rw [if_pos (show (64 : Int32) ≤ nI v from nI_le (a := 64) (by omega) (by omega)), show (64 : Int32) = nI 64 from rfl, pk_sub (by omega)]
    rw [if_neg q] at hov
    by_cases z : ao_OV (ag_N Γ) (ag_nx Γ) v n
    · rw [if_pos ((aL_bit (by omega)).mpr (hov.mpr z)), ao_b1 z]
    · rw [if_neg (fun y => z (hov.mp ((aL_bit (by omega)).mp y))), ao_b0 z]
set_option maxHeartbeats 4000000 in
theorem ag_isHeadA {s : aw_S} {Γ : ag_T} (hw : ag_wf Γ) (hA : ag_A s Γ) (h : ag_LO s Γ) {v : Nat} (hv : v < ag_N Γ) : m_Lo_isHead s (nI v) = some (ao_b (ao_HD (ag_N Γ) (ag_nx Γ) v)) := by
  have hN := hw.1.1
  have hL := ao_nb_len (ag_N Γ) (ag_nx Γ) 0 v
  have eL : ao_nb (ag_N Γ) (ag_nx Γ) 0 v = ao_pl (ag_N Γ) (ag_nx Γ) v := by unfold ao_nb; rw [if_pos rfl]
  rw [eL] at hL
  have : ao_ok (m_Lo_isHead s (nI v)) (fun r => r = ao_b (ao_HD (ag_N Γ) (ag_nx Γ) v)) := by
    unfold m_Lo_isHead
    refine ao_bd (ao_for (Q := fun x => ao_ok (Sum.elim (fun y16 => some y16) (fun y17 => some ((0 : Int32))) x) (fun r => r = ao_b (ao_HD (ag_N Γ) (ag_nx Γ) v))) (ao_pl (ag_N Γ) (ag_nx Γ) v).length (fun j t => t = nI j ∧ ∀ i p, i < j → (ao_pl (ag_N Γ) (ag_nx Γ) v)[i]? = some p → ¬ ao_OV (ag_N Γ) (ag_nx Γ) v p) (a := 0) ⟨rfl, fun i p hi => absurd hi (Nat.not_lt_zero _)⟩ (Nat.zero_le _) (by omega) ?_ ?_)
    · rintro j t hj ⟨e2, hi⟩
      subst e2
      show ao_ok (m_Lo_isHead_B2 s (nI v) (nI j)) _
      obtain ⟨p, hp⟩ : ∃ p, (ao_pl (ag_N Γ) (ag_nx Γ) v)[j]? = some p := ⟨_, List.getElem?_eq_getElem hj⟩
      have hpm := ao_pl_mem.mp (List.mem_of_getElem? hp)
      unfold m_Lo_isHead_B2
      refine ao_bde (ao_comes hA.1 hv) (ao_ifn (nI_ge hj (by omega)) (ao_bde (ao_before hA.1 hv hp) (ao_bde (ao_isNode hA.1.2.1 hN hpm.1) (ao_ifn (by decide) (ao_bde (ag_isOverA hN h (by omega) hpm.1) ?_)))))
      by_cases q : ao_OV (ag_N Γ) (ag_nx Γ) v p
      · refine ao_ifn (by rw [ao_b1 q]; decide) (ao_inl (ao_some (ao_b1 ⟨p, hpm.1, hpm.2, q⟩).symm))
      · refine ao_ifp (ao_b0 q) (ao_let (ao_inr ⟨nI_1 j, fun i p' hi' q1 => ?_⟩))
        by_cases hij : i = j
        · subst hij; rw [hp] at q1; cases q1; exact q
        · exact hi i p' (by omega) q1
    · rintro t ⟨e2, hi⟩
      subst e2
      show ao_ok (m_Lo_isHead_B2 s (nI v) (nI _)) _
      unfold m_Lo_isHead_B2
      refine ao_bde (ao_comes hA.1 hv) (ao_ifp (nI_le (Nat.le_refl _) (by omega)) (ao_inl (ao_some (ao_b0 (fun ⟨p, hp, hed, q⟩ => ?_)).symm)))
      obtain ⟨i, hi'⟩ := List.getElem?_of_mem (ao_pl_mem.mpr ⟨hp, hed⟩)
      exact hi i p (List.getElem?_eq_some_iff.mp hi').1 hi' q
  obtain ⟨r, e, rfl⟩ := this
  exact e
set_option maxHeartbeats 4000000 in
theorem ag_leadsInside {s : aw_S} {Γ : ag_T} (hw : ag_wf Γ) (hA : ag_A s Γ) {n : Nat} (hn : n < ag_N Γ) : m_Lo_leadsInside s (nI n) = some (ao_b (∃ t, ao_ed (ag_nx Γ) n t ∧ s.1 61 t = 1)) := by
  have hN := hw.1.1
  have hL := ao_sl_len2 (ag_nx Γ) n
  have : ao_ok (m_Lo_leadsInside s (nI n)) (fun r => r = ao_b (∃ t, ao_ed (ag_nx Γ) n t ∧ s.1 61 t = 1)) := by
    unfold m_Lo_leadsInside
    refine ao_bd (ao_for (Q := fun x => ao_ok (Sum.elim (fun y16 => some y16) (fun y17 => some ((0 : Int32))) x) (fun r => r = ao_b (∃ t, ao_ed (ag_nx Γ) n t ∧ s.1 61 t = 1))) (ao_sl (ag_nx Γ) n).length (fun j t => t = nI j ∧ ∀ i p, i < j → (ao_sl (ag_nx Γ) n)[i]? = some p → ¬ s.1 61 p = 1) (a := 0) ⟨rfl, fun i p hi => absurd hi (Nat.not_lt_zero _)⟩ (Nat.zero_le _) (by omega) ?_ ?_)
    · rintro j t hj ⟨e2, hi⟩
      subst e2
      show ao_ok (m_Lo_leadsInside_B2 s (nI n) (nI j)) _
      obtain ⟨p, hp⟩ : ∃ p, (ao_sl (ag_nx Γ) n)[j]? = some p := ⟨_, List.getElem?_eq_getElem hj⟩
      have hed := ao_sl_mem.mp (List.mem_of_getElem? hp)
      have hpN := ao_ed_lt hw.1 hn hed
      unfold m_Lo_leadsInside_B2
      refine ao_bde (ao_leads hA.1 hn) (ao_ifn (nI_ge hj (by omega)) (ao_bde (ao_next hA.1 hn hp) (ao_bde (ao_isNode hA.1.2.1 hN hpN) (ao_ifn (by decide) ?_))))
      rw [ao_gdn (by omega) (by omega), nI_clamp (by omega)]
      refine ao_if (fun q => ao_inl (ao_some (ao_b1 ⟨p, hed, q⟩).symm)) (fun q => ao_let (ao_inr ⟨nI_1 j, fun i p' hi' q1 => ?_⟩))
      by_cases hij : i = j
      · subst hij; rw [hp] at q1; cases q1; exact q
      · exact hi i p' (by omega) q1
    · rintro t ⟨e2, hi⟩
      subst e2
      show ao_ok (m_Lo_leadsInside_B2 s (nI n) (nI _)) _
      unfold m_Lo_leadsInside_B2
      refine ao_bde (ao_leads hA.1 hn) (ao_ifp (nI_le (Nat.le_refl _) (by omega)) (ao_inl (ao_some (ao_b0 (fun ⟨p, hed, q⟩ => ?_)).symm)))
      obtain ⟨i, hi'⟩ := List.getElem?_of_mem (ao_sl_mem.mpr hed)
      exact hi i p (List.getElem?_eq_some_iff.mp hi').1 hi' q
  obtain ⟨r, e, rfl⟩ := this
  exact e
/-- passes until nothing more comes, 1000 at most -/
theorem ao_chaosR {fo : Int32 × Int32 × aw_S → Option (aw_S ⊕ (Int32 × Int32 × aw_S))} {fi : Int32 → Int32 × Int32 × aw_S → Option ((Int32 × aw_S) ⊕ (Int32 × Int32 × aw_S))} (n M : Nat) (ix : Nat → Int32) (I : aw_S → Prop) (μ : aw_S → Nat) (C : aw_S → Nat → Prop)
    (hn : n < 4294967295) (hM : M < 1000) (hμ : ∀ s, I s → μ s ≤ M)
    (hfo0 : ∀ r s, fo (0, r, s) = some (.inl s)) (hfo : ∀ r s, r < 1000 → I s → fo (1, nI r, s) = aw_bd (aw_lp (fi (nI r)) aw_fu (0, ix 0, s)) (fun x => some (.inr (x.1, nI (r + 1), x.2))))
    (hexit : ∀ r s v, I s → fi r (v, ix n, s) = some (.inl (v, s)))
    (hstep : ∀ r s v k, k < n → I s → (v = 0 ∨ v = 1) → (¬ C s k ∧ fi r (v, ix k, s) = some (.inr (v, ix (k + 1), s))) ∨ (∃ s', fi r (v, ix k, s) = some (.inr (1, ix (k + 1), s')) ∧ I s' ∧ μ s' < μ s))
    {s : aw_S} (h0 : I s) : ao_ok (aw_lp fo aw_fu (1, (0 : Int32), s)) (fun s' => I s' ∧ ∀ k, k < n → ¬ C s' k) := by
  refine ao_for 1000 (fun r (t : Int32 × Int32 × aw_S) => t.2.1 = nI r ∧ I t.2.2 ∧ ((t.1 = 1 ∧ μ t.2.2 + r ≤ M) ∨ (t.1 = 0 ∧ ∀ k, k < n → ¬ C t.2.2 k))) (a := 0) ⟨rfl, h0, Or.inl ⟨rfl, hμ s h0⟩⟩ (Nat.zero_le _) (by omega) ?_ ?_
  · rintro r ⟨v, x, s⟩ hr ⟨e, hI, hv⟩
    have e : x = nI r := e
    subst e
    have hv : (v = 1 ∧ μ s + r ≤ M) ∨ (v = 0 ∧ ∀ k, k < n → ¬ C s k) := hv
    rcases hv with ⟨rfl, hm⟩ | ⟨rfl, hC⟩
    · rw [hfo r s hr hI]
      refine ao_bd (ao_imp (ao_for (Q := fun (x : Int32 × aw_S) => I x.2 ∧ ((x.1 = 0 ∧ x.2 = s ∧ ∀ j, j < n → ¬ C s j) ∨ (x.1 = 1 ∧ μ x.2 < μ s))) n (fun k (t : Int32 × Int32 × aw_S) => t.2.1 = ix k ∧ I t.2.2 ∧ ((t.1 = 0 ∧ t.2.2 = s ∧ ∀ j, j < k → ¬ C s j) ∨ (t.1 = 1 ∧ μ t.2.2 < μ s))) (a := 0) ⟨rfl, hI, Or.inl ⟨rfl, rfl, fun j hj => absurd hj (Nat.not_lt_zero _)⟩⟩ (Nat.zero_le _) hn ?_ ?_) ?_)
      · rintro k ⟨w, x, t⟩ hk ⟨e, ht, hd⟩
        have e : x = ix k := e
        subst e
        rcases hstep (nI r) t w k hk ht (hd.elim (fun q => Or.inl q.1) (fun q => Or.inr q.1)) with ⟨hc, e⟩ | ⟨s', e, hI', hl⟩
        · rw [e]
          refine ao_inr ⟨rfl, ht, ?_⟩
          rcases hd with ⟨h1, h2, h3⟩ | hd
          · refine Or.inl ⟨h1, h2, fun j hj => ?_⟩
            by_cases hjk : j = k
            · subst hjk
              have h2 : t = s := h2
              rw [← h2]; exact hc
            · exact h3 j (by omega)
          · exact Or.inr hd
        · rw [e]
          refine ao_inr ⟨rfl, hI', Or.inr ⟨rfl, ?_⟩⟩
          rcases hd with ⟨_, h2, _⟩ | ⟨_, hd⟩
          · have h2 : t = s := h2
            rw [← h2]; exact hl
          · exact Nat.lt_trans hl hd
      · rintro ⟨w, x, t⟩ ⟨e, ht, hd⟩
        have e : x = ix n := e
        subst e
        rw [hexit _ t w ht]
        exact ao_inl ⟨ht, hd⟩
      · rintro ⟨w, t⟩ ⟨ht, hd⟩
        refine ao_inr ⟨rfl, ht, ?_⟩
        rcases hd with ⟨h1, h2, h3⟩ | ⟨h1, h2⟩
        · have h2 : t = s := h2
          exact Or.inr ⟨h1, by rw [show (w, nI (r + 1), t).2.2 = s from h2]; exact h3⟩
        · have h2 : μ t < μ s := h2
          exact Or.inl ⟨h1, show μ t + (r + 1) ≤ M by omega⟩
    · rw [hfo0]
      exact ao_inl ⟨hI, hC⟩
  · rintro ⟨v, x, s⟩ ⟨e, hI, hv⟩
    have e : x = nI 1000 := e
    subst e
    have hv : (v = 1 ∧ μ s + 1000 ≤ M) ∨ (v = 0 ∧ ∀ k, k < n → ¬ C s k) := hv
    rcases hv with ⟨_, hm⟩ | ⟨rfl, hC⟩
    · exact absurd hm (by omega)
    · rw [hfo0]
      exact ao_inl ⟨hI, hC⟩

def ag_in1 (s : aw_S) (n : Nat) : Prop := s.1 61 n = 1
set_option maxHeartbeats 4000000 in
theorem ag_addLoop {σ : aw_S} {Γ : ag_T} (hw : ag_wf Γ) (h : ag_A σ Γ) (hO : ag_LO σ Γ) {v : Nat} (hv : v < ag_N Γ) (dp : Nat → Nat) (hd : ∀ n, n < ag_N Γ → σ.1 62 n = nI (dp n)) : ao_ok (m_Lo_addLoop σ (nI v)) (fun s => s.2 = σ.2 ∧ (∀ k, k ≠ 61 → k ≠ 62 → s.1 k = σ.1 k) ∧ ∀ n, n < ag_N Γ → s.1 62 n = nI (dp n + @ite _ (ao_IN (ag_N Γ) (ag_nx Γ) v n) (Classical.propDecidable _) 1 0)) := by
  have hN := hw.1.1
  have h1 := hw.2.1
  unfold m_Lo_addLoop
  refine ao_bd (ao_imp (ao_fill (by omega)) ?_)
  rintro s1 ⟨c1, p1, z1⟩
  rw [ao_gdn (by omega) (by omega), nI_clamp (by omega)]
  refine ao_lt (fun s2 e2 => ?_)
  have f2 : ∀ k, k ≠ 61 → s2.1 k = σ.1 k := fun k hk => by rw [e2, ao_sI_o hk]; exact ao_ch_row c1 k (by simp; exact hk) (fun q hq => absurd hq List.not_mem_nil)
  have g2 : s2.2 = σ.2 := by rw [e2]; exact p1
  have i2 : ∀ n, n < ag_N Γ → s2.1 61 n = ao_b (n = v) := by
    intro n hn
    rw [e2]
    by_cases q : n = v
    · subst q; rw [ao_sI_s, ao_b1 rfl]
    · rw [ao_sI_i q, z1 n (by omega), ao_b0 q]
  clear e2 z1 c1 p1
  have A_ : ∀ t : aw_S, (∀ k, k ≠ 61 → t.1 k = σ.1 k) → ag_A t Γ := fun t ht => ag_A_fr h (fun c h1 h2 => ht c (by omega))
  have O_ : ∀ t : aw_S, t.2 = σ.2 → ag_LO t Γ := fun t ht v' hv' n hn => by
    have : ag_ov t v' n ↔ ag_ov σ v' n := by unfold ag_ov; rw [ht]
    exact this.trans (hO v' hv' n hn)
  refine ao_bd (ao_imp (ao_chaosR (fo := fun s => m_Lo_addLoop_B20 s.2.2 (nI v) s.1 s.2.1) (fi := fun r s => m_Lo_addLoop_B42 s.2.2 (nI v) r s.1 s.2.1) (ag_N Γ) (ag_N Γ) (ao_dn (ag_N Γ))
    (fun t => t.2 = σ.2 ∧ (∀ k, k ≠ 61 → t.1 k = σ.1 k) ∧ (∀ n, n < ag_N Γ → ao_01 (t.1 61 n)) ∧ ag_in1 t v ∧ ∀ Y : Nat → Prop, (∀ n, n < ag_N Γ → ao_fIN (ag_N Γ) (ag_nx Γ) v Y n → Y n) → ∀ n, n < ag_N Γ → ag_in1 t n → Y n)
    (fun t => ao_n (fun n => ¬ ag_in1 t n) (ag_N Γ)) (fun t k => ¬ ag_in1 t (ag_N Γ - 1 - k) ∧ ao_OV (ag_N Γ) (ag_nx Γ) v (ag_N Γ - 1 - k) ∧ ∃ u, ao_ed (ag_nx Γ) (ag_N Γ - 1 - k) u ∧ ag_in1 t u) (by omega) (by omega) (fun s _ => ao_n_le _ _) ?_ ?_ ?_ ?_ (s := s2) ⟨g2, f2, fun n hn => by rw [i2 n hn]; exact ao_01_b _, (by unfold ag_in1; rw [i2 v hv, ao_b1 rfl]), fun Y hY n hn q => hY n hn (Or.inl (ao_b_eq1.mp ((i2 n hn).symm.trans q)))⟩) ?_)
  · intro r t; rfl
  · rintro r t hr ⟨g, f, _⟩
    show m_Lo_addLoop_B20 t (nI v) 1 (nI r) = _
    unfold m_Lo_addLoop_B20
    rw [if_neg (by decide), if_neg (show ¬ (1000 : Int32) ≤ nI r from nI_ge (b := 1000) hr (by omega)), (A_ t f).1.2.1, ao_dn_0 h1, ← nI_1 r]
    rfl
  · rintro r t w ⟨g, f, _⟩
    show m_Lo_addLoop_B42 t (nI v) r w (ao_dn (ag_N Γ) (ag_N Γ)) = _
    unfold m_Lo_addLoop_B42
    rw [ao_dn_N, if_pos (by decide)]
  · rintro r t w k hk ⟨g, f, h01, hb, hU⟩ hw'
    show (_ ∧ m_Lo_addLoop_B42 t (nI v) r w (ao_dn (ag_N Γ) k) = _) ∨ (∃ s', m_Lo_addLoop_B42 t (nI v) r w (ao_dn (ag_N Γ) k) = _ ∧ _)
    have hm : ag_N Γ - 1 - k < ag_N Γ := by omega
    have ed : ao_dn (ag_N Γ) (k + 1) = nI (ag_N Γ - 1 - k) + (-1) := (ao_dn_s hk).symm
    have hA := A_ t f
    unfold m_Lo_addLoop_B42
    rw [ao_dn_lt hk, if_neg (nI_pos (by omega)), ao_gdn (by omega) (by omega), nI_clamp (by omega), aw_bd_s (ag_isOverA hN (O_ t g) (by omega) hm), aw_bd_s (ag_leadsInside hw hA hm), ao_gdn (by omega) (by omega), ed]
    by_cases q1 : ag_in1 t (ag_N Γ - 1 - k)
    · rw [if_neg (fun z => (ao_01_0 (h01 _ hm)).mp z q1)]
      exact Or.inl ⟨fun z => z.1 q1, rfl⟩
    · rw [if_pos ((ao_01_0 (h01 _ hm)).mpr q1)]
      by_cases q2 : ao_OV (ag_N Γ) (ag_nx Γ) v (ag_N Γ - 1 - k)
      · rw [if_neg (by rw [ao_b1 q2]; decide)]
        by_cases q3 : ∃ u, ao_ed (ag_nx Γ) (ag_N Γ - 1 - k) u ∧ t.1 61 u = 1
        · rw [if_neg (by rw [ao_b1 q3]; decide)]
          have hx : ∀ n, ag_in1 (aw_sI t 61 (ag_N Γ - 1 - k) 1) n ↔ ag_in1 t n ∨ n = ag_N Γ - 1 - k := by
            intro n
            unfold ag_in1
            by_cases hnk : n = ag_N Γ - 1 - k
            · subst hnk
              rw [ao_sI_s]
              exact ⟨fun _ => Or.inr rfl, fun _ => rfl⟩
            · rw [ao_sI_i hnk]
              exact ⟨fun q => Or.inl q, fun q => q.elim id (fun q => absurd q hnk)⟩
          refine Or.inr ⟨_, rfl, ⟨g, fun c hc => (ao_sI_o hc).trans (f c hc), fun n hn => ?_, (hx v).mpr (Or.inl hb), fun Y hY n hn q => ?_⟩, ?_⟩
          · by_cases hnk : n = ag_N Γ - 1 - k
            · subst hnk; rw [ao_sI_s]; exact Or.inr rfl
            · rw [ao_sI_i hnk]; exact h01 n hn
          · rcases (hx n).mp q with q | q
            · exact hU Y hY n hn q
            · subst q
              obtain ⟨u, hu1, hu2⟩ := q3
              exact hY _ hn (Or.inr ⟨q2, u, hu1, hU Y hY u (ao_ed_lt hw.1 hm hu1) hu2⟩)
          · exact ao_n_lt (i := ag_N Γ - 1 - k) (fun n hn q q' => q ((hx n).mpr (Or.inl q'))) hm q1 (fun q => q ((hx _).mpr (Or.inr rfl)))
        · rw [if_pos (ao_b0 q3)]
          exact Or.inl ⟨fun z => q3 z.2.2, rfl⟩
      · rw [if_pos (ao_b0 q2)]
        exact Or.inl ⟨fun z => q2 z.2.1, rfl⟩
  · rintro t ⟨⟨g, f, h01, hb, hU⟩, hC⟩
    have hIN : ∀ n, n < ag_N Γ → (ag_in1 t n ↔ ao_IN (ag_N Γ) (ag_nx Γ) v n) := by
      refine ao_lf_L ⟨fun n hn hf => ?_, hU⟩ (fun _ _ _ => Iff.rfl)
      rcases hf with hf | ⟨hf1, hf2⟩
      · rw [hf]; exact hb
      · refine Classical.byContradiction fun q => hC (ag_N Γ - 1 - n) (by omega) ?_
        rw [show ag_N Γ - 1 - (ag_N Γ - 1 - n) = n by omega]
        exact ⟨q, hf1, hf2⟩
    refine ao_bd (ao_for (Q := fun (s : aw_S) => ao_ok (some s) (fun (s : aw_S) => s.2 = σ.2 ∧ (∀ k, k ≠ 61 → k ≠ 62 → s.1 k = σ.1 k) ∧ ∀ n, n < ag_N Γ → s.1 62 n = nI (dp n + @ite _ (ao_IN (ag_N Γ) (ag_nx Γ) v n) (Classical.propDecidable _) 1 0))) (ag_N Γ) (fun k (s : Int32 × aw_S) => s.1 = nI k ∧ s.2.2 = σ.2 ∧ (∀ k, k ≠ 61 → k ≠ 62 → s.2.1 k = σ.1 k) ∧ s.2.1 61 = t.1 61 ∧ ∀ n, n < ag_N Γ → s.2.1 62 n = if n < k then nI (dp n + @ite _ (ao_IN (ag_N Γ) (ag_nx Γ) v n) (Classical.propDecidable _) 1 0) else nI (dp n)) (a := 0) ⟨rfl, g, fun k h1 _ => f k h1, rfl, fun n hn => by rw [if_neg (Nat.not_lt_zero _), ← hd n hn]; exact congrFun (f 62 (by decide)) n⟩ (Nat.zero_le _) (by omega) ?_ ?_)
    · rintro k ⟨x, s⟩ hk ⟨e1, h2, hf, h61, h62⟩
      have e1 : x = nI k := e1
      subst e1
      have hf : ∀ k, k ≠ 61 → k ≠ 62 → s.1 k = σ.1 k := hf
      have h61 : s.1 61 = t.1 61 := h61
      have h62 : ∀ n, n < ag_N Γ → s.1 62 n = if n < k then nI (dp n + @ite _ (ao_IN (ag_N Γ) (ag_nx Γ) v n) (Classical.propDecidable _) 1 0) else nI (dp n) := h62
      show ao_ok (m_Lo_addLoop_B102 s (nI k)) _
      unfold m_Lo_addLoop_B102
      rw [show s.1 24 13 = nI (ag_N Γ) from (congrFun (hf 24 (by decide) (by decide)) 13).trans h.1.2.1, if_neg (nI_ge hk (by omega)), ao_gdn (by omega) (by omega), ao_gdn (by omega) (by omega), ao_gdn (by omega) (by omega), nI_clamp (by omega), h61, h62 k hk, if_neg (Nat.lt_irrefl k)]
      refine ao_let (ao_let (ao_inr ⟨nI_1 k, h2, fun c hc1 hc2 => (ao_sI_o hc2).trans (hf c hc1 hc2), (ao_sI_o (by decide)).trans h61, fun n hn => ?_⟩))
      show (aw_sI s 62 k _).1 62 n = _
      by_cases hnk : n = k
      · subst hnk
        rw [ao_sI_s, if_pos (Nat.lt_succ_self n)]
        by_cases q : ao_IN (ag_N Γ) (ag_nx Γ) v n
        · rw [if_pos q, show t.1 61 n = nI 1 from (hIN n hn).mpr q, nI_add]
        · rw [if_neg q, show t.1 61 n = nI 0 from (ao_01_0 (h01 n hn)).mpr (fun z => q ((hIN n hn).mp z)), nI_add]
      · rw [ao_sI_i hnk, h62 n hn]
        by_cases q : n < k
        · exact (if_pos q).trans (if_pos (Nat.lt_succ_of_lt q)).symm
        · exact (if_neg q).trans (if_neg (by omega)).symm
    · rintro ⟨x, s⟩ ⟨e1, h2, hf, h61, h62⟩
      have e1 : x = nI (ag_N Γ) := e1
      subst e1
      show ao_ok (m_Lo_addLoop_B102 s (nI (ag_N Γ))) _
      unfold m_Lo_addLoop_B102
      rw [show s.1 24 13 = nI (ag_N Γ) from (congrFun (hf 24 (by decide) (by decide)) 13).trans h.1.2.1, if_pos (nI_le (Nat.le_refl _) (by omega))]
      exact ao_inl (ao_some ⟨h2, hf, fun n hn => (h62 n hn).trans (if_pos hn)⟩)
/-- loops, in the class -/
def ag_LA (s : aw_S) (Γ : ag_T) : Prop := ag_LO s Γ ∧ (∀ n, n < ag_N Γ → s.1 62 n = nI (ao_DP (ag_N Γ) (ag_nx Γ) n)) ∧ s.1 58 4 = nI (ao_HN (ag_N Γ) (ag_nx Γ))
theorem ag_LA_fr {s s' : aw_S} {Γ : ag_T} (h : ag_LA s Γ) (e1 : s'.2.1 59 = s.2.1 59) (e2 : s'.2.1 60 = s.2.1 60) (e3 : s'.1 62 = s.1 62) (e4 : s'.1 58 4 = s.1 58 4) : ag_LA s' Γ :=
  ⟨fun v hv n hn => by
    have : ag_ov s' v n ↔ ag_ov s v n := by unfold ag_ov; rw [e1, e2]
    exact this.trans (h.1 v hv n hn), fun n hn => by rw [e3]; exact h.2.1 n hn, e4.trans h.2.2⟩
set_option maxHeartbeats 4000000 in
theorem ag_LoBuild {σ : aw_S} {Γ : ag_T} (hw : ag_wf Γ) (h : ag_A σ Γ) : ao_ok (m_Lo_build σ) (fun s => s.2.2 = σ.2.2 ∧ (∀ k, k ≠ 59 → k ≠ 60 → s.2.1 k = σ.2.1 k) ∧ (∀ k, k < 58 ∨ 62 < k → s.1 k = σ.1 k) ∧ ag_LA s Γ) := by
  have hN := hw.1.1
  unfold m_Lo_build
  refine ao_bd (ao_imp (ag_findOver hw h) ?_)
  rintro s1 ⟨l1, o1⟩
  refine ao_bd (ao_imp (ao_fill (by omega)) ?_)
  rintro s2 ⟨c2, p2, z2⟩
  refine ao_lt (fun s3 e3 => ?_)
  have f3 : ∀ k, k ≠ 62 → k ≠ 58 → s3.1 k = σ.1 k := fun k h1 h2 => by rw [e3, ao_sI_o h2, ao_ch_row c2 k (by simp; exact h1) (fun q hq => absurd hq List.not_mem_nil), l1.1]
  have g3 : s3.2 = s1.2 := by rw [e3]; exact p2
  have d3 : ∀ n, n < ag_N Γ → s3.1 62 n = nI 0 := fun n hn => by rw [e3, ao_sI_o (by decide)]; exact z2 n (by omega)
  have h3 : s3.1 58 4 = nI 0 := by rw [e3]; exact ao_sI_s _ _ _ _
  clear e3
  refine ao_bd (ao_for (Q := fun (s : aw_S) => ao_ok (some s) (fun (s : aw_S) => s.2.2 = σ.2.2 ∧ (∀ k, k ≠ 59 → k ≠ 60 → s.2.1 k = σ.2.1 k) ∧ (∀ k, k < 58 ∨ 62 < k → s.1 k = σ.1 k) ∧ ag_LA s Γ)) (ag_N Γ) (fun k (s : Int32 × aw_S) => s.1 = nI k ∧ s.2.2 = s1.2 ∧ (∀ k, k < 58 ∨ 62 < k → s.2.1 k = σ.1 k) ∧ (∀ n, n < ag_N Γ → s.2.1 62 n = nI (ao_n (fun v => ao_HD (ag_N Γ) (ag_nx Γ) v ∧ ao_IN (ag_N Γ) (ag_nx Γ) v n) k)) ∧ s.2.1 58 4 = nI (ao_n (ao_HD (ag_N Γ) (ag_nx Γ)) k)) (a := 0) ⟨rfl, g3, fun k hk => f3 k (by omega) (by omega), d3, h3⟩ (Nat.zero_le _) (by omega) ?_ ?_)
  · rintro k ⟨x, s⟩ hk ⟨e1, g, f, hd, hh⟩
    have e1 : x = nI k := e1
    subst e1
    have g : s.2 = s1.2 := g
    have f : ∀ k, k < 58 ∨ 62 < k → s.1 k = σ.1 k := f
    have hA : ag_A s Γ := ag_A_fr h (fun c h1 h2 => f c (by omega))
    have hO : ag_LO s Γ := fun v hv n hn => by
      have : ag_ov s v n ↔ ag_ov s1 v n := by unfold ag_ov; rw [g]
      exact this.trans (o1 v hv n hn)
    show ao_ok (m_Lo_build_B20 s (nI k)) _
    unfold m_Lo_build_B20
    rw [hA.1.2.1, if_neg (nI_ge hk (by omega))]
    refine ao_bde (ag_isHeadA hw hA hO hk) ?_
    by_cases q : ao_HD (ag_N Γ) (ag_nx Γ) k
    · refine ao_ifn (by rw [ao_b1 q]; decide) (ao_let ?_)
      have hA' : ag_A (aw_sI s 58 4 (s.1 58 4 + 1)) Γ := ag_A_fr hA (fun c h1 h2 => ao_sI_o (by omega))
      have hO' : ag_LO (aw_sI s 58 4 (s.1 58 4 + 1)) Γ := hO
      refine ao_bd (ao_imp (ag_addLoop hw hA' hO' hk (fun n => ao_n (fun v => ao_HD (ag_N Γ) (ag_nx Γ) v ∧ ao_IN (ag_N Γ) (ag_nx Γ) v n) k) (fun n hn => (congrFun (ao_sI_o (by decide)) n).trans (hd n hn))) ?_)
      rintro t ⟨gt, ft, dt⟩
      refine ao_let (ao_inr ⟨nI_1 k, gt.trans g, fun c hc => ?_, fun n hn => ?_, ?_⟩)
      · show t.1 c = _
        rw [ft c (by omega) (by omega), ao_sI_o (by omega)]
        exact f c hc
      · show t.1 62 n = _
        rw [dt n hn]
        by_cases q2 : ao_IN (ag_N Γ) (ag_nx Γ) k n
        · rw [if_pos q2, ao_n_s1 (X := fun v => ao_HD (ag_N Γ) (ag_nx Γ) v ∧ ao_IN (ag_N Γ) (ag_nx Γ) v n) ⟨q, q2⟩]
        · rw [if_neg q2, ao_n_s0 (X := fun v => ao_HD (ag_N Γ) (ag_nx Γ) v ∧ ao_IN (ag_N Γ) (ag_nx Γ) v n) (fun z => q2 z.2)]
          rfl
      · show t.1 58 4 = _
        have hh : s.1 58 4 = nI (ao_n (ao_HD (ag_N Γ) (ag_nx Γ)) k) := hh
        rw [ft 58 (by decide) (by decide), ao_sI_s, hh, nI_1, ao_n_s1 q]
    · refine ao_ifp (ao_b0 q) (ao_let (ao_inr ⟨nI_1 k, g, f, fun n hn => ?_, ?_⟩))
      · rw [ao_n_s0 (X := fun v => ao_HD (ag_N Γ) (ag_nx Γ) v ∧ ao_IN (ag_N Γ) (ag_nx Γ) v n) (fun z => q z.1)]
        exact hd n hn
      · rw [ao_n_s0 q]
        exact hh
  · rintro ⟨x, s⟩ ⟨e1, g, f, hd, hh⟩
    have e1 : x = nI (ag_N Γ) := e1
    subst e1
    have g : s.2 = s1.2 := g
    have f : ∀ k, k < 58 ∨ 62 < k → s.1 k = σ.1 k := f
    show ao_ok (m_Lo_build_B20 s (nI (ag_N Γ))) _
    unfold m_Lo_build_B20
    rw [show s.1 24 13 = nI (ag_N Γ) from (congrFun (f 24 (by omega)) 13).trans h.1.2.1, if_pos (nI_le (Nat.le_refl _) (by omega))]
    refine ao_inl (ao_some ⟨?_, fun k h1 h2 => ?_, f, fun v hv n hn => ?_, hd, hh⟩)
    · rw [g]; exact l1.2.1
    · rw [g]; exact l1.2.2 k h1 h2
    · have : ag_ov s v n ↔ ag_ov s1 v n := by unfold ag_ov; rw [g]
      exact this.trans (o1 v hv n hn)

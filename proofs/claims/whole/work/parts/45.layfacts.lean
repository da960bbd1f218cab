/-! ===== the reference: all facts and placements of one expression ===== -/
/-- the rows of one expression may have moved; nothing else -/
def ao_fe (e : Nat) (σ σ' : aw_S) : Prop := (∀ k, k ≠ 12 → k ≠ 13 → σ'.1 k = σ.1 k) ∧ (∀ j, (∀ w n, w < 8 → n < 112 → j ≠ ao_c w e + n) → σ'.1 12 j = σ.1 12 j) ∧ (∀ j, (∀ w n, w < 6 → n < 112 → j ≠ ao_c w e + n) → σ'.1 13 j = σ.1 13 j) ∧ σ'.2 = σ.2
theorem ao_fe_rf {e : Nat} {σ : aw_S} : ao_fe e σ σ := ⟨fun _ _ _ => rfl, fun _ _ => rfl, fun _ _ => rfl, rfl⟩
theorem ao_fe_tr {e : Nat} {σ σ1 σ2 : aw_S} (h : ao_fe e σ σ1) (h' : ao_fe e σ1 σ2) : ao_fe e σ σ2 := ⟨fun k hk hk' => (h'.1 k hk hk').trans (h.1 k hk hk'), fun j hj => (h'.2.1 j hj).trans (h.2.1 j hj), fun j hj => (h'.2.2.1 j hj).trans (h.2.2.1 j hj), h'.2.2.2.trans h.2.2.2⟩
theorem ao_fe_fw {w e : Nat} {σ σ' : aw_S} (hw : w < 8) (h : ao_fw w e σ σ') : ao_fe e σ σ' := ⟨fun k hk _ => h.1 k hk, fun j hj => h.2.1 j (fun n hn => hj w n hw hn), fun j _ => congrFun (h.1 13 (by decide)) j, h.2.2⟩
theorem ao_fe_pw {w e : Nat} {σ σ' : aw_S} (hw : w < 6) (h : ao_pw w e σ σ') : ao_fe e σ σ' := ⟨fun k _ hk => h.1 k hk, fun j _ => congrFun (h.1 12 (by decide)) j, fun j hj => h.2.1 j (fun n hn => hj w n hw hn), h.2.2⟩
theorem ao_fe_B {e : Nat} {σ σ' : aw_S} {Γ : ag_T} (h : ao_fe e σ σ') (hB : ag_B σ Γ) : ag_B σ' Γ := ag_B_fr hB (congrFun (h.1 0 (by decide) (by decide)) 14) (h.1 1 (by decide) (by decide)) (h.1 4 (by decide) (by decide)) (h.1 5 (by decide) (by decide)) (h.1 6 (by decide) (by decide)) (h.1 7 (by decide) (by decide))
theorem ao_row_pw {w e w' e' N : Nat} {σ σ' : aw_S} {X : Nat → Prop} (h : ao_row σ N w e X) (hf : ao_pw w' e' σ σ') : ao_row σ' N w e X := fun n hn => (congrFun (hf.1 12 (by decide)) _).trans (h n hn)
theorem ao_rp_fw {w e w' e' N : Nat} {σ σ' : aw_S} {X : Nat → Prop} (h : ao_rp σ N w e X) (hf : ao_fw w' e' σ σ') : ao_rp σ' N w e X := fun n hn => (congrFun (hf.1 13 (by decide)) _).trans (h n hn)
theorem ao_row_fe {w e e' N : Nat} {σ σ' : aw_S} {X : Nat → Prop} (h : ao_row σ N w e X) (hf : ao_fe e' σ σ') (hN : N ≤ 112) (he : e < 24) (he' : e' < 24) (hne : e ≠ e') : ao_row σ' N w e X := fun n hn => (hf.2.1 _ (fun w' m _ hm q => hne (ao_c_ne (by omega) hm he he' q).2.1)).trans (h n hn)
theorem ao_rp_fe {w e e' N : Nat} {σ σ' : aw_S} {X : Nat → Prop} (h : ao_rp σ N w e X) (hf : ao_fe e' σ σ') (hN : N ≤ 112) (he : e < 24) (he' : e' < 24) (hne : e ≠ e') : ao_rp σ' N w e X := fun n hn => (hf.2.2.1 _ (fun w' m _ hm q => hne (ao_c_ne (by omega) hm he he' q).2.1)).trans (h n hn)
def ag_hi (how : Bool) : Nat := if how then 0 else 1
def ag_FB (σ : aw_S) (Γ : ag_T) (e : Nat) : Prop := (∀ w, w < 8 → ao_row σ (ag_N Γ) w e (ag_F Γ e w)) ∧ ∀ how w, w < 3 → ao_rp σ (ag_N Γ) (3 * ag_hi how + w) e (ag_P Γ e how w)

/-- two rows of the placements of e have been laid as far as n -/
def ag_PL (σ0 : aw_S) (Γ : ag_T) (e : Nat) (how : Bool) (k : Nat) (s : aw_S) : Prop :=
  (∀ c, c ≠ 13 → s.1 c = σ0.1 c) ∧ s.2 = σ0.2 ∧ (∀ j, (∀ w n, w < 2 → n < 112 → j ≠ ao_c (3 * ag_hi how + w) e + n) → s.1 13 j = σ0.1 13 j) ∧ ∀ n, n < k → s.1 13 (ao_c (3 * ag_hi how + 0) e + n) = ao_b (ag_P Γ e how 0 n) ∧ s.1 13 (ao_c (3 * ag_hi how + 1) e + n) = ao_b (ag_P Γ e how 1 n)
theorem ag_hi_lt (how : Bool) : ag_hi how < 2 := by cases how <;> decide
set_option maxHeartbeats 4000000 in
/-- one placement -/
theorem ag_layPlaced {σ : aw_S} {Γ : ag_T} (hw : ag_wf Γ) (h : ag_B σ Γ) {e : Nat} (he : e < 24) (how : Bool) (hr : ∀ w, w < 8 → ao_row σ (ag_N Γ) w e (ag_F Γ e w)) :
    ao_ok (aw_lp (fun s => m_Rf_layFacts_B86 s.2 (nI e) (nI (ag_hi how)) s.1) aw_fu ((0 : Int32), σ)) (fun s => ag_PL σ Γ e how (ag_N Γ) s) := by
  have hN := hw.1.1
  have hh := ag_hi_lt how
  refine ao_for (ag_N Γ) (fun k s => s.1 = nI k ∧ ag_PL σ Γ e how k s.2) (a := 0) ⟨rfl, fun _ _ => rfl, rfl, fun _ _ => rfl, fun n hn => absurd hn (Nat.not_lt_zero _)⟩ (Nat.zero_le _) (by omega) ?_ ?_
  · rintro n ⟨v, s⟩ hn ⟨e1, hc, h2, hj, hv⟩
    have e1 : v = nI n := e1
    subst e1
    show ao_ok (m_Rf_layFacts_B86 s (nI e) (nI (ag_hi how)) (nI n)) _
    have e14 : s.1 0 14 = nI (ag_N Γ) := (congrFun (hc 0 (by decide)) 14).trans h.1.2.1
    have rw_ : ∀ t : aw_S, (∀ c, c ≠ 13 → t.1 c = σ.1 c) → ∀ w, w < 8 → ao_row t (ag_N Γ) w e (ag_F Γ e w) := fun t ht w hw' m hm => (congrFun (ht 12 (by decide)) _).trans (hr w hw' m hm)
    have rs := rw_ s hc
    have so_ : ∀ w, w < 8 → m_Rf_so s (nI w) (nI e) (nI n) = some (ao_b (ag_F Γ e w n)) := fun w hw' => ao_so_r (rs w hw') hN hw' he hn
    have b0 := ao_d_lt (w := 3 * ag_hi how + 0) (by omega) he (show n < 112 by omega)
    have b1 := ao_d_lt (w := 3 * ag_hi how + 1) (by omega) he (show n < 112 by omega)
    have n0 : ∀ s, m_Rf_at s (nI (ag_hi how)) ((0 : Int32)) (nI e) (nI n) = some (nI (ao_c (3 * ag_hi how + 0) e + n)) := fun s => ao_at (what := 0)
    have n1 : ∀ s, m_Rf_at s (nI (ag_hi how)) ((1 : Int32)) (nI e) (nI n) = some (nI (ao_c (3 * ag_hi how + 1) e + n)) := fun s => ao_at (what := 1)
    have h01 : (nI (ag_hi how) = (0 : Int32)) ↔ how = true := by cases how <;> decide
    -- the end: both are laid
    have hE : ∀ t x, (∀ c, c ≠ 13 → t.1 c = s.1 c) → t.2 = s.2 → (∀ j, j ≠ ao_c (3 * ag_hi how + 0) e + n → t.1 13 j = s.1 13 j) → t.1 13 (ao_c (3 * ag_hi how + 0) e + n) = ao_b (ag_P Γ e how 0 n) → x = ao_b (ag_P Γ e how 1 n) → ao_ok (m_Rf_layFacts_J205 t (nI e) (nI (ag_hi how)) (nI n) (nI (ao_c (3 * ag_hi how + 1) e + n)) x) (Sum.elim (fun s => ag_PL σ Γ e how (ag_N Γ) s) (fun s => s.1 = nI (n + 1) ∧ ag_PL σ Γ e how (n + 1) s.2)) := by
      intro t x ht ht2 htj ht0 hx
      unfold m_Rf_layFacts_J205
      rw [ao_gdn b1 (by omega), nI_clamp (by omega), ao_nar (by rw [hx]; exact ao_01_b _)]
      refine ao_let (ao_let (ao_inr ⟨nI_1 n, fun c hc' => (ao_sI_o hc').trans ((ht c hc').trans (hc c hc')), ht2.trans h2, fun j hj' => ?_, fun m hm => ?_⟩))
      · show (aw_sI t 13 (ao_c (3 * ag_hi how + 1) e + n) x).1 13 j = _
        rw [ao_sI_i (hj' 1 n (by omega) (by omega)), htj j (hj' 0 n (by omega) (by omega))]
        exact hj j hj'
      · show (aw_sI t 13 (ao_c (3 * ag_hi how + 1) e + n) x).1 13 _ = _ ∧ (aw_sI t 13 (ao_c (3 * ag_hi how + 1) e + n) x).1 13 _ = _
        have d1 : ∀ m, m < 112 → ao_c (3 * ag_hi how + 0) e + m ≠ ao_c (3 * ag_hi how + 1) e + n := fun m hm q => absurd (ao_c_ne hm (by omega) he he q).1 (by omega)
        have d2 : ∀ m, m < 112 → ao_c (3 * ag_hi how + 1) e + m ≠ ao_c (3 * ag_hi how + 0) e + n := fun m hm q => absurd (ao_c_ne hm (by omega) he he q).1 (by omega)
        rw [ao_sI_i (d1 m (by omega))]
        by_cases hmn : m = n
        · subst hmn
          rw [ao_sI_s]
          exact ⟨ht0, hx⟩
        · rw [ao_sI_i (by omega), htj _ (by omega), htj _ (d2 m (by omega))]
          exact hv m (by omega)
    -- the first is laid
    have hM : ∀ x k0, x = ao_b (ag_P Γ e how 0 n) → k0 = ao_b (ag_F Γ e 6 n ∧ ag_F Γ e 7 n) → ao_ok (m_Rf_layFacts_J169 s (nI e) (nI (ag_hi how)) (nI n) k0 (nI (ao_c (3 * ag_hi how + 0) e + n)) x) (Sum.elim (fun s => ag_PL σ Γ e how (ag_N Γ) s) (fun s => s.1 = nI (n + 1) ∧ ag_PL σ Γ e how (n + 1) s.2)) := by
      intro x k0 hx hk0
      unfold m_Rf_layFacts_J169
      rw [ao_gdn b0 (by omega), nI_clamp (by omega), ao_nar (by rw [hx]; exact ao_01_b _)]
      refine ao_let ?_
      have ht : ∀ c, c ≠ 13 → (aw_sI s 13 (ao_c (3 * ag_hi how + 0) e + n) x).1 c = s.1 c := fun c hc' => ao_sI_o hc'
      have hz := fun x' => hE (aw_sI s 13 (ao_c (3 * ag_hi how + 0) e + n) x) x' ht rfl (fun j hj' => ao_sI_i hj') (by rw [ao_sI_s, hx])
      refine ao_bde (n1 _) (ao_bde (ao_so_r (w := 0) (rw_ _ (fun c hc' => (ht c hc').trans (hc c hc')) 0 (by omega)) hN (by omega) he hn) ?_)
      by_cases q0 : ag_F Γ e 0 n
      · refine ao_ifn (by rw [ao_b1 q0]; decide) (ao_if (fun q => ?_) (fun q => ?_))
        · exact hz 1 (ao_b1 ⟨q0, Or.inl (h01.mp q)⟩).symm
        · have hf : ¬ how = true := fun z => q (h01.mpr z)
          rw [hk0]
          by_cases q6 : ag_F Γ e 6 n ∧ ag_F Γ e 7 n
          · exact ao_ifn (by rw [ao_b1 q6]; decide) (hz 0 (ao_b0 (fun z => z.2.elim hf (fun y => y q6))).symm)
          · exact ao_ifp (ao_b0 q6) (hz 1 (ao_b1 ⟨q0, Or.inr q6⟩).symm)
      · exact ao_ifp (ao_b0 q0) (hz 0 (ao_b0 (fun z => q0 z.1)).symm)
    have hL : ∀ k0, k0 = ao_b (ag_F Γ e 6 n ∧ ag_F Γ e 7 n) → ao_ok (m_Rf_layFacts_J121 s (nI e) (nI (ag_hi how)) (nI n) k0) (Sum.elim (fun s => ag_PL σ Γ e how (ag_N Γ) s) (fun s => s.1 = nI (n + 1) ∧ ag_PL σ Γ e how (n + 1) s.2)) := by
      intro k0 hk0
      unfold m_Rf_layFacts_J121
      refine ao_bde (n0 _) (ao_if (fun q => ?_) (fun q => ?_))
      · have hf := h01.mp q
        refine ao_bde (so_ 4 (by omega)) (hM _ _ (ao_b_c ?_) hk0)
        rw [hf]
        exact Iff.rfl
      · have hf : how = false := by
          cases how
          · rfl
          · exact absurd (h01.mpr rfl) q
        have hP : ag_P Γ e how 0 n ↔ (ag_F Γ e 6 n ∧ ¬ ag_F Γ e 7 n) := by
          rw [hf]
          exact Iff.rfl
        refine ao_bde (so_ 6 (by omega)) ?_
        by_cases q6 : ag_F Γ e 6 n
        · refine ao_ifn (by rw [ao_b1 q6]; decide) ?_
          by_cases q7 : ag_F Γ e 7 n
          · exact ao_ifn (by rw [hk0, ao_b1 ⟨q6, q7⟩]; decide) (hM 0 k0 (ao_b0 (fun z => (hP.mp z).2 q7)).symm hk0)
          · exact ao_ifp (by rw [hk0]; exact ao_b0 (fun z => q7 z.2)) (hM 1 k0 (ao_b1 (hP.mpr ⟨q6, q7⟩)).symm hk0)
        · exact ao_ifp (ao_b0 q6) (hM 0 k0 (ao_b0 (fun z => q6 (hP.mp z).1)).symm hk0)
    unfold m_Rf_layFacts_B86
    rw [e14, if_neg (nI_ge hn (by omega))]
    refine ao_bde (so_ 6 (by omega)) ?_
    by_cases q6 : ag_F Γ e 6 n
    · refine ao_ifn (by rw [ao_b1 q6]; decide) (ao_bde (so_ 7 (by omega)) ?_)
      by_cases q7 : ag_F Γ e 7 n
      · exact ao_ifn (by rw [ao_b1 q7]; decide) (hL 1 (ao_b1 ⟨q6, q7⟩).symm)
      · exact ao_ifp (ao_b0 q7) (hL 0 (ao_b0 (fun z => q7 z.2)).symm)
    · exact ao_ifp (ao_b0 q6) (hL 0 (ao_b0 (fun z => q6 z.1)).symm)
  · rintro ⟨v, s⟩ ⟨e1, hs⟩
    have e1 : v = nI (ag_N Γ) := e1
    subst e1
    show ao_ok (m_Rf_layFacts_B86 s (nI e) (nI (ag_hi how)) (nI (ag_N Γ))) _
    have e14 : s.1 0 14 = nI (ag_N Γ) := (congrFun (hs.1 0 (by decide)) 14).trans h.1.2.1
    unfold m_Rf_layFacts_B86
    rw [e14, if_pos (nI_le (Nat.le_refl _) (by omega))]
    exact ao_inl hs
theorem ag_PL_fe {σ s : aw_S} {Γ : ag_T} {e : Nat} {how : Bool} {k : Nat} (h : ag_PL σ Γ e how k s) : ao_fe e σ s := ⟨fun c _ hc => h.1 c hc, fun j _ => congrFun (h.1 12 (by decide)) j, fun j hj => h.2.2.1 j (fun w n hw hn => hj (3 * ag_hi how + w) n (by have := ag_hi_lt how; omega) hn), h.2.1⟩
set_option maxHeartbeats 4000000 in
theorem ag_layFacts {σ : aw_S} {Γ : ag_T} (hw : ag_wf Γ) (h : ag_B σ Γ) {e : Nat} (he : e < ag_X Γ) : ao_ok (m_Rf_layFacts σ (nI e)) (fun s => ao_fe e σ s ∧ ag_FB s Γ e) := by
  have hN := hw.1.1
  have h1 := hw.2.1
  have hz := hw.2.2.1
  have hX := hw.2.2.2.2.2.2.1
  have he24 : e < 24 := by omega
  unfold m_Rf_layFacts
  refine ao_bd (ao_imp (ao_for (Q := fun s => ao_fe e σ s ∧ ao_row s (ag_N Γ) 0 e (ag_US Γ e) ∧ ao_row s (ag_N Γ) 1 e (ag_KE Γ e)) (ag_N Γ) (fun k s => s.1 = nI k ∧ ao_fe e σ s.2 ∧ (∀ n, n < k → s.2.1 12 (ao_c 0 e + n) = ao_b (ag_US Γ e n)) ∧ ∀ n, n < k → s.2.1 12 (ao_c 1 e + n) = ao_b (ag_KE Γ e n)) (a := 0) ⟨rfl, ao_fe_rf, fun n hn => absurd hn (Nat.not_lt_zero _), fun n hn => absurd hn (Nat.not_lt_zero _)⟩ (Nat.zero_le _) (by omega) ?_ ?_) ?_)
  · rintro k ⟨v, s⟩ hk ⟨e1, hf, hu, hv⟩
    have e1 : v = nI k := e1
    subst e1
    show ao_ok (m_Rf_layFacts_B2 s (nI e) (nI k)) _
    have hB := ao_fe_B hf h
    unfold m_Rf_layFacts_B2
    rw [hB.1.2.1, if_neg (nI_ge hk (by omega))]
    refine ao_bde (ag_doesUse hw hB he24 hk) (ao_bde (ao_set (w := 0) (by omega) he24 (by omega) (ao_01_b _)) ?_)
    have hf1 : ao_fe e s (aw_sI s 12 (ao_c 0 e + k) (ao_b (ag_US Γ e k))) := ao_fe_fw (w := 0) (by omega) (ao_fw_s (by omega))
    refine ao_bde (ag_doesKeep hw (ao_fe_B hf1 hB) he hk) (ao_bde (ao_set (w := 1) (by omega) he24 (by omega) (ao_01_b _)) (ao_let (ao_inr ⟨nI_1 k, ao_fe_tr (ao_fe_tr hf hf1) (ao_fe_fw (w := 1) (by omega) (ao_fw_s (by omega))), fun n hn => ?_, fun n hn => ?_⟩)))
    · show (aw_sI (aw_sI s 12 (ao_c 0 e + k) _) 12 (ao_c 1 e + k) _).1 12 (ao_c 0 e + n) = _
      rw [ao_sI_i (fun q => absurd (ao_c_ne (by omega) (by omega) he24 he24 q).1 (by omega))]
      by_cases hnk : n = k
      · subst hnk; rw [ao_sI_s]
      · rw [ao_sI_i (by omega)]; exact hu n (by omega)
    · show (aw_sI (aw_sI s 12 (ao_c 0 e + k) _) 12 (ao_c 1 e + k) _).1 12 (ao_c 1 e + n) = _
      by_cases hnk : n = k
      · subst hnk; rw [ao_sI_s]
      · rw [ao_sI_i (by omega), ao_sI_i (fun q => absurd (ao_c_ne (by omega) (by omega) he24 he24 q).1 (by omega))]; exact hv n (by omega)
  · rintro ⟨v, s⟩ ⟨e1, hf, hu, hv⟩
    have e1 : v = nI (ag_N Γ) := e1
    subst e1
    show ao_ok (m_Rf_layFacts_B2 s (nI e) (nI (ag_N Γ))) _
    unfold m_Rf_layFacts_B2
    rw [(ao_fe_B hf h).1.2.1, if_pos (nI_le (Nat.le_refl _) (by omega))]
    exact ao_inl ⟨hf, hu, hv⟩
  · rintro s1 ⟨f1, u1, k1⟩
    have T1 := (ao_fe_B f1 h).1
    refine ao_bd (ao_imp (ao_layNeeded T1 h1 he24 u1 k1) ?_)
    rintro s2 ⟨g2, n2⟩
    have T2 := ao_fw_TB g2 T1
    have u2 := ao_row_fw u1 g2 hN he24 he24 (Or.inl (by omega))
    have k2 := ao_row_fw k1 g2 hN he24 he24 (Or.inl (by omega))
    refine ao_bd (ao_imp (ao_layAtHand T2 h1 hz he24 u2 k2) ?_)
    rintro s3 ⟨g3, a3⟩
    have T3 := ao_fw_TB g3 T2
    have u3 := ao_row_fw u2 g3 hN he24 he24 (Or.inl (by omega))
    have k3 := ao_row_fw k2 g3 hN he24 he24 (Or.inl (by omega))
    have n3 := ao_row_fw n2 g3 hN he24 he24 (Or.inl (by omega))
    refine ao_bd (ao_imp (ao_layEarly T3 h1 he24 k3 n3 a3) ?_)
    rintro s4 ⟨g4, e4⟩
    have T4 := ao_fw_TB g4 T3
    have u4 := ao_row_fw u3 g4 hN he24 he24 (Or.inl (by omega))
    have k4 := ao_row_fw k3 g4 hN he24 he24 (Or.inl (by omega))
    have n4 := ao_row_fw n3 g4 hN he24 he24 (Or.inl (by omega))
    have a4 := ao_row_fw a3 g4 hN he24 he24 (Or.inl (by omega))
    refine ao_bd (ao_imp (ao_layDelayed T4 h1 hz he24 u4 e4) ?_)
    rintro s5 ⟨g5, d5⟩
    have T5 := ao_fw_TB g5 T4
    have u5 := ao_row_fw u4 g5 hN he24 he24 (Or.inl (by omega))
    have k5 := ao_row_fw k4 g5 hN he24 he24 (Or.inl (by omega))
    have n5 := ao_row_fw n4 g5 hN he24 he24 (Or.inl (by omega))
    have a5 := ao_row_fw a4 g5 hN he24 he24 (Or.inl (by omega))
    have e5 := ao_row_fw e4 g5 hN he24 he24 (Or.inl (by omega))
    refine ao_bd (ao_imp (ao_layLate T5 he24 u5 d5) ?_)
    rintro s6 ⟨g6, l6⟩
    have T6 := ao_fw_TB g6 T5
    have u6 := ao_row_fw u5 g6 hN he24 he24 (Or.inl (by omega))
    have k6 := ao_row_fw k5 g6 hN he24 he24 (Or.inl (by omega))
    have n6 := ao_row_fw n5 g6 hN he24 he24 (Or.inl (by omega))
    have a6 := ao_row_fw a5 g6 hN he24 he24 (Or.inl (by omega))
    have e6 := ao_row_fw e5 g6 hN he24 he24 (Or.inl (by omega))
    have d6 := ao_row_fw d5 g6 hN he24 he24 (Or.inl (by omega))
    refine ao_bd (ao_imp (ao_layAlone T6 h1 he24 u6 l6) ?_)
    rintro s7 ⟨g7, al7⟩
    have F7 : ao_fe e σ s7 := ao_fe_tr (ao_fe_tr (ao_fe_tr (ao_fe_tr (ao_fe_tr (ao_fe_tr f1 (ao_fe_fw (by omega) g2)) (ao_fe_fw (by omega) g3)) (ao_fe_fw (by omega) g4)) (ao_fe_fw (by omega) g5)) (ao_fe_fw (by omega) g6)) (ao_fe_fw (by omega) g7)
    have R7 : ∀ w, w < 8 → ao_row s7 (ag_N Γ) w e (ag_F Γ e w) := by
      intro w hw8
      rcases (show w = 0 ∨ w = 1 ∨ w = 2 ∨ w = 3 ∨ w = 4 ∨ w = 5 ∨ w = 6 ∨ w = 7 by omega) with rfl | rfl | rfl | rfl | rfl | rfl | rfl | rfl
      · exact ao_row_fw u6 g7 hN he24 he24 (Or.inl (by omega))
      · exact ao_row_fw k6 g7 hN he24 he24 (Or.inl (by omega))
      · exact ao_row_fw n6 g7 hN he24 he24 (Or.inl (by omega))
      · exact ao_row_fw a6 g7 hN he24 he24 (Or.inl (by omega))
      · exact ao_row_fw e6 g7 hN he24 he24 (Or.inl (by omega))
      · exact ao_row_fw d6 g7 hN he24 he24 (Or.inl (by omega))
      · exact ao_row_fw l6 g7 hN he24 he24 (Or.inl (by omega))
      · exact al7
    clear g2 g3 g4 g5 g6 g7 T1 T2 T3 T4 T5 T6 u1 u2 u3 u4 u5 u6 k1 k2 k3 k4 k5 k6 n2 n3 n4 n5 n6 a3 a4 a5 a6 e4 e5 e6 d5 d6 l6 al7
    refine ao_bd (ao_imp (ao_for (Q := fun s => ao_fe e σ s ∧ ag_FB s Γ e) 2 (fun k s => s.1 = nI k ∧ ao_fe e σ s.2 ∧ (∀ w, w < 8 → ao_row s.2 (ag_N Γ) w e (ag_F Γ e w)) ∧ ∀ how, ag_hi how < k → ∀ w, w < 3 → ao_rp s.2 (ag_N Γ) (3 * ag_hi how + w) e (ag_P Γ e how w)) (a := 0) ⟨rfl, F7, R7, fun how hk => absurd hk (Nat.not_lt_zero _)⟩ (Nat.zero_le _) (by omega) ?_ ?_) (fun s hs => ao_some hs))
    · rintro k ⟨v, s⟩ hk ⟨e1, hf, hr, hp⟩
      have e1 : v = nI k := e1
      subst e1
      have hr : ∀ w, w < 8 → ao_row s (ag_N Γ) w e (ag_F Γ e w) := hr
      obtain ⟨how, hh⟩ : ∃ how, ag_hi how = k := by
        rcases (show k = 0 ∨ k = 1 by omega) with rfl | rfl
        · exact ⟨true, rfl⟩
        · exact ⟨false, rfl⟩
      subst hh
      show ao_ok (m_Rf_layFacts_B79 s (nI e) (nI (ag_hi how))) _
      unfold m_Rf_layFacts_B79
      rw [if_neg (show ¬ (2 : Int32) ≤ nI (ag_hi how) from nI_ge (b := 2) hk (by omega))]
      refine ao_bd (ao_imp (ag_layPlaced hw (ao_fe_B hf h) he24 how hr) ?_)
      intro t ht
      have hft := ag_PL_fe ht
      refine ao_bd (ao_imp (ao_layAlive (ao_fe_B hft (ao_fe_B hf h)).1 hk he24 (PU := ag_P Γ e how 0) (RE := ag_P Γ e how 1) (fun n hn => (ht.2.2.2 n hn).1) (fun n hn => (ht.2.2.2 n hn).2)) ?_)
      rintro u ⟨gu, lu⟩
      refine ao_let (ao_inr ⟨nI_1 _, ao_fe_tr (ao_fe_tr hf hft) (ao_fe_pw (by omega) gu), fun w hw8 => ?_, fun how' hk' w hw3 => ?_⟩)
      · exact ao_row_pw (fun n hn => (congrFun (ht.1 12 (by decide)) _).trans (hr w hw8 n hn)) gu
      · by_cases hhe : how' = how
        · subst hhe
          rcases (show w = 0 ∨ w = 1 ∨ w = 2 by omega) with rfl | rfl | rfl
          · exact ao_rp_pw (fun n hn => (ht.2.2.2 n hn).1) gu hN he24 he24 (Or.inl (by omega))
          · exact ao_rp_pw (fun n hn => (ht.2.2.2 n hn).2) gu hN he24 he24 (Or.inl (by omega))
          · exact lu
        · have hlt : ag_hi how' < ag_hi how := by
            have h1' : ag_hi how' < ag_hi how + 1 := hk'
            have : ag_hi how' ≠ ag_hi how := by
              intro q
              cases how <;> cases how' <;> first | exact hhe rfl | exact absurd q (by decide)
            omega
          have hh1 := ag_hi_lt how
          refine ao_rp_pw ?_ gu hN he24 he24 (Or.inl (by omega))
          intro n hn
          refine (ht.2.2.1 _ (fun w' m hw' hm q => ?_)).trans (hp how' hlt w hw3 n hn)
          have := (ao_c_ne (by omega) hm he24 he24 q).1
          omega
    · rintro ⟨v, s⟩ ⟨e1, hf, hr, hp⟩
      have e1 : v = nI 2 := e1
      subst e1
      show ao_ok (m_Rf_layFacts_B79 s (nI e) (nI 2)) _
      unfold m_Rf_layFacts_B79
      rw [if_pos (by decide)]
      exact ao_inl ⟨hf, hr, fun how w hw3 => hp how (ag_hi_lt how) w hw3⟩

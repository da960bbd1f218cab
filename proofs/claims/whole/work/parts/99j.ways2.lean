/-! ===== WAYS: the class ===== -/
def wa_q (c l h c' l' h' : Nat) : Prop := (c = 99 ∧ l = 100 ∧ h = 101 ∧ c' = 102 ∧ l' = 103 ∧ h' = 104) ∨ (c = 102 ∧ l = 103 ∧ h = 104 ∧ c' = 99 ∧ l' = 100 ∧ h' = 101)
/-- where its rows are now -/
def wa_r (s : aw_S) (c l h c' l' h' : Nat) : Prop := s.2.2 97 1 = some c ∧ s.2.2 97 2 = some l ∧ s.2.2 97 3 = some h ∧ s.2.2 97 4 = some c' ∧ s.2.2 97 5 = some l' ∧ s.2.2 97 6 = some h'
def wa_yA (σ s : aw_S) : Prop := (∀ k, (k < 97 ∨ 104 < k) → s.1 k = σ.1 k) ∧ (∀ k, (k < 97 ∨ 104 < k) → s.2.1 k = σ.2.1 k) ∧ ∀ k, k ≠ 97 → s.2.2 k = σ.2.2 k
theorem wa_yA_rf {σ : aw_S} : wa_yA σ σ := ⟨fun _ _ => rfl, fun _ _ => rfl, fun _ _ => rfl⟩
theorem wa_yA_I {σ t : aw_S} (h : wa_yA σ t) {c j : Nat} {v : Int32} (hc : 97 ≤ c ∧ c ≤ 104) : wa_yA σ (aw_sI t c j v) := ⟨fun k hk => by rw [ao_sI_o (by omega)]; exact h.1 k hk, h.2⟩
theorem wa_yA_L {σ t : aw_S} (h : wa_yA σ t) {c j : Nat} {v : Int64} (hc : 97 ≤ c ∧ c ≤ 104) : wa_yA σ (aw_sL t c j v) := ⟨h.1, fun k hk => by rw [wa_sL_o (by omega)]; exact h.2.1 k hk, h.2.2⟩
theorem wa_yA_R {σ t : aw_S} (h : wa_yA σ t) {j : Nat} {v : Option Nat} : wa_yA σ (aw_sR t 97 j v) := ⟨h.1, h.2.1, fun k hk => by
  have : (aw_sR t 97 j v).2.2 k = t.2.2 k := funext fun i => if_neg (fun e => hk e.1)
  rw [this]; exact h.2.2 k hk⟩
theorem wa_yA_A {a s : aw_S} {Γ : ag_T} (h : wa_yA a s) (A : ag_A a Γ) : ag_A s Γ := ag_A_fr A (fun k _ _ => h.1 k (by omega))
theorem wa_yA_M {a s : aw_S} {Γ : ag_T} {how : Option Bool} (h : wa_yA a s) (M : ru_M a Γ how) : ru_M s Γ how := fun w hw => ag_bt_c (M w hw) (h.1 _ (by have := ru_by_lt how; omega))
set_option maxHeartbeats 2000000 in
theorem wa_extend {s : aw_S} {N n m w c l h c' l' h' : Nat} (hN : N ≤ 112) (eN : s.1 24 13 = nI N) (hn : n < N) (hm : m < N) {M : Nat} (hM : M + 100 < 2 ^ 31) (hc : w ≤ 25) (ew : s.1 98 m = nI w) {z y : wa_T} (hz : wa_b M z) (hy : wa_b (M + 25) y) (hq : wa_q c l h c' l' h') (hr : wa_r s c l h c' l' h') (Hz : wa_H s c l h N z) (Hy : wa_H s c' l' h' N y) (q : z.1 n ≠ 0) {σ : aw_S} (Y : wa_yA σ s) : ao_ok (m_Wa_extend s (nI n) (nI m)) (fun t => wa_yA σ t ∧ t.2.2 = s.2.2 ∧ t.1 98 = s.1 98 ∧ t.1 97 = s.1 97 ∧ t.2.1 97 = s.2.1 97 ∧ wa_H t c l h N z ∧ wa_H t c' l' h' N (pz_u y.1 m (min wa_many (y.1 m + z.1 n)), pz_u y.2.1 m (if y.1 m = 0 then z.2.1 n + w else min (y.2.1 m) (z.2.1 n + w)), pz_u y.2.2 m (if y.1 m = 0 then z.2.2 n + w else max (y.2.2 m) (z.2.2 n + w)))) := by
  unfold wa_q at hq
  obtain ⟨r1, r2, r3, r4, r5, r6⟩ := hr
  have hzn := hz n
  have hym := hy m
  obtain ⟨ec, hz2⟩ := Hz n hn
  obtain ⟨z1, z2⟩ := hz2 q
  obtain ⟨ec', hy2⟩ := Hy m hm
  have fin : ∀ u v : Nat, u = (if y.1 m = 0 then z.2.1 n + w else min (y.2.1 m) (z.2.1 n + w)) → v = (if y.1 m = 0 then z.2.2 n + w else max (y.2.2 m) (z.2.2 n + w)) → ao_ok (m_Wa_extend_J110 (aw_sI s l' m (nI u)) (nI n) (nI m) h' (nI m) (nI v)) (fun t => wa_yA σ t ∧ t.2.2 = s.2.2 ∧ t.1 98 = s.1 98 ∧ t.1 97 = s.1 97 ∧ t.2.1 97 = s.2.1 97 ∧ wa_H t c l h N z ∧ wa_H t c' l' h' N (pz_u y.1 m (min wa_many (y.1 m + z.1 n)), pz_u y.2.1 m (if y.1 m = 0 then z.2.1 n + w else min (y.2.1 m) (z.2.1 n + w)), pz_u y.2.2 m (if y.1 m = 0 then z.2.2 n + w else max (y.2.2 m) (z.2.2 n + w)))) := by
    intro u v hu hv
    unfold m_Wa_extend_J110
    rw [ao_gdn (by omega) (by omega), nI_clamp (by omega)]
    refine ao_let ?_
    have e1 : (aw_sI (aw_sI s l' m (nI u)) h' m (nI v)).2.2 97 1 = some c := r1
    have e4 : (aw_sI (aw_sI s l' m (nI u)) h' m (nI v)).2.2 97 4 = some c' := r4
    have x1 : (aw_sI (aw_sI s l' m (nI u)) h' m (nI v)).2.1 c' m = lN (y.1 m) := ec'
    have x2 : (aw_sI (aw_sI s l' m (nI u)) h' m (nI v)).2.1 c n = lN (z.1 n) := ec
    rw [aw_bd_s e4, aw_gd_t (show c' = 99 ∨ c' = 102 by omega), aw_bd_s e4, aw_gd_t (show c' = 99 ∨ c' = 102 by omega), ao_gdn (by omega) (by omega), aw_bd_s e1, aw_gd_t (show c = 99 ∨ c = 102 by omega), ao_gdn (by omega) (by omega), ao_gdn (by omega) (by omega), nI_clamp (by omega), x1, x2, lN_add, wa_mnL (by omega)]
    refine ao_let (ao_some ⟨wa_yA_L (wa_yA_I (wa_yA_I Y (by omega)) (by omega)) (by omega), rfl, ?_, ?_, ?_, fun i hi => ⟨?_, fun h0 => ⟨?_, ?_⟩⟩, fun i hi => ?_⟩)
    · show (aw_sI (aw_sI s l' m (nI u)) h' m (nI v)).1 98 = s.1 98
      rw [ao_sI_o (by omega), ao_sI_o (by omega)]
    · show (aw_sI (aw_sI s l' m (nI u)) h' m (nI v)).1 97 = s.1 97
      rw [ao_sI_o (by omega), ao_sI_o (by omega)]
    · rw [wa_sL_o (by omega)]
      rfl
    · rw [wa_sL_o (by omega)]; exact (Hz i hi).1
    · show (aw_sI (aw_sI s l' m (nI u)) h' m (nI v)).1 l i = _
      rw [ao_sI_o (by omega), ao_sI_o (by omega)]; exact ((Hz i hi).2 h0).1
    · show (aw_sI (aw_sI s l' m (nI u)) h' m (nI v)).1 h i = _
      rw [ao_sI_o (by omega), ao_sI_o (by omega)]; exact ((Hz i hi).2 h0).2
    · show (aw_sL (aw_sI (aw_sI s l' m (nI u)) h' m (nI v)) c' m (lN (min wa_many (y.1 m + z.1 n)))).2.1 c' i = lN (pz_u y.1 m (min wa_many (y.1 m + z.1 n)) i) ∧ (pz_u y.1 m (min wa_many (y.1 m + z.1 n)) i ≠ 0 → (aw_sI (aw_sI s l' m (nI u)) h' m (nI v)).1 l' i = nI (pz_u y.2.1 m (if y.1 m = 0 then z.2.1 n + w else min (y.2.1 m) (z.2.1 n + w)) i) ∧ (aw_sI (aw_sI s l' m (nI u)) h' m (nI v)).1 h' i = nI (pz_u y.2.2 m (if y.1 m = 0 then z.2.2 n + w else max (y.2.2 m) (z.2.2 n + w)) i))
      rw [ao_sI_o (show l' ≠ h' by omega)]
      by_cases g : i = m
      · rw [g, wa_sL_s, pz_u_s, pz_u_s, pz_u_s, ao_sI_s, ao_sI_s, hu, hv]
        exact ⟨rfl, fun _ => ⟨rfl, rfl⟩⟩
      · rw [wa_sL_i g, pz_u_i g, pz_u_i g, pz_u_i g, ao_sI_i g, ao_sI_i g, ao_sI_o (show h' ≠ l' by omega)]
        exact Hy i hi
  unfold m_Wa_extend
  rw [aw_bd_s (ao_isNode eN hN hm), if_neg ao_n10, aw_bd_s r2, aw_gd_t (show l = 100 ∨ l = 103 by omega), ao_gdn (by omega) (by omega), ao_gdn (by omega) (by omega), nI_clamp (by omega), nI_clamp (by omega), z1, ew, nI_add, ao_ltr, aw_bd_s r3, aw_gd_t (show h = 101 ∨ h = 104 by omega), ao_gdn (by omega) (by omega), ao_gdn (by omega) (by omega), z2, nI_add, ao_ltr, aw_bd_s r4, aw_gd_t (show c' = 99 ∨ c' = 102 by omega), ao_gdn (by omega) (by omega), ec']
  have r6' : ∀ x : Int32, (aw_sI s l' m x).2.2 97 6 = some h' := fun x => r6
  by_cases g : y.1 m = 0
  · rw [if_pos ((wa_l0 (by omega)).mpr g)]
    unfold m_Wa_extend_J55 m_Wa_extend_J83
    rw [aw_bd_s r5, aw_gd_t (show l' = 100 ∨ l' = 103 by omega), if_neg ao_n10, ao_gdn (by omega) (by omega), nI_clamp (by omega), ao_ltr, aw_bd_s (r6' _), aw_gd_t (show h' = 101 ∨ h' = 104 by omega), if_neg ao_n10]
    exact fin _ _ (by rw [if_pos g]) (by rw [if_pos g])
  · obtain ⟨y1, y2⟩ := hy2 g
    rw [if_neg (fun v => g ((wa_l0 (by omega)).mp v))]
    unfold m_Wa_extend_J55 m_Wa_extend_J83
    rw [aw_bd_s r5, aw_gd_t (show l' = 100 ∨ l' = 103 by omega), if_pos rfl, aw_bd_s r5, aw_gd_t (show l' = 100 ∨ l' = 103 by omega), ao_gdn (by omega) (by omega), ao_gdn (by omega) (by omega), nI_clamp (by omega), y1, wa_mn (by omega) (by omega), ao_ltr, aw_bd_s (r6' _), aw_gd_t (show h' = 101 ∨ h' = 104 by omega), if_pos rfl, aw_bd_s (r6' _), aw_gd_t (show h' = 101 ∨ h' = 104 by omega), ao_gdn (by omega) (by omega), ao_sI_o (show h' ≠ l' by omega), y2, ag_mx_I (by omega) (by omega)]
    exact fin _ _ (by rw [if_neg g]) (by rw [if_neg g])
theorem wa_fl {N : Nat} {nx : Nat → Option Nat} (hT : ao_tp N nx) {n : Nat} (hn : n < N) (w : Nat → Nat) (z : wa_T) : wa_f nx w z (2 * n + (ao_sl nx n).length) = wa_f nx w z (2 * n + 2) ∧ ∀ k t, (ao_sl nx n)[k]? = some t → nx (2 * n + k) = some t := by
  have hz := hT.2.2 n hn
  have s0 : wa_f nx w z (2 * n + 1) = wa_e nx w z (2 * n) (wa_f nx w z (2 * n)) := rfl
  have s1 : wa_f nx w z (2 * n + 2) = wa_e nx w z (2 * n + 1) (wa_f nx w z (2 * n + 1)) := rfl
  unfold ao_sl
  cases e1 : nx (2 * n) with
  | none =>
    rw [hz e1]
    refine ⟨?_, fun k t h => by cases h⟩
    show wa_f nx w z (2 * n) = _
    rw [s1, s0]
    unfold wa_e
    rw [e1, hz e1]
  | some t =>
    cases e2 : nx (2 * n + 1) with
    | none =>
      refine ⟨?_, fun k u h => ?_⟩
      · show wa_f nx w z (2 * n + 1) = _
        rw [s1]
        unfold wa_e
        rw [e2]
      · match k, h with
        | 0, h => cases h; exact e1
    | some u =>
      refine ⟨rfl, fun k v h => ?_⟩
      match k, h with
      | 0, h => cases h; exact e1
      | 1, h => cases h; exact e2
/-- the state of the class between two lengths -/
def wa_K (a : aw_S) (Γ : ag_T) (how : Option Bool) (z : wa_T) (s : aw_S) (c l h c' l' h' : Nat) : Prop := wa_yA a s ∧ wa_q c l h c' l' h' ∧ wa_r s c l h c' l' h' ∧ (∀ n, n < ag_N Γ → s.1 98 n = nI (ru_w Γ how n)) ∧ wa_H s c l h (ag_N Γ) z
set_option maxHeartbeats 2000000 in
theorem wa_goOnA {a : aw_S} {Γ : ag_T} (G : ag_wf Γ) (A : ag_A a Γ) {how : Option Bool} {M : Nat} (hM : M + 100 < 2 ^ 31) {z : wa_T} (hz : wa_b M z) {s : aw_S} {c l h c' l' h' : Nat} (K : wa_K a Γ how z s c l h c' l' h') : ao_ok (m_Wa_goOnByOneEdge s) (fun t => wa_K a Γ how (wa_f (ag_nx Γ) (ru_w Γ how) z (2 * ag_N Γ)) t c' l' h' c l h ∧ t.1 97 = s.1 97 ∧ t.2.1 97 = s.2.1 97) := by
  have hN := G.1.1
  have hw := ru_w_le G how
  have hb := wa_f_b (nx := ag_nx Γ) hw hz
  obtain ⟨Y, hq, hr, W, H⟩ := K
  have hq' := hq
  unfold wa_q at hq'
  have eN : ∀ u, wa_yA a u → u.1 24 13 = nI (ag_N Γ) := fun u y => (congrFun (y.1 24 (by omega)) 13).trans A.1.2.1
  unfold m_Wa_goOnByOneEdge
  refine ao_bd (ao_imp (ao_for (ag_N Γ) (fun k (u : Int32 × aw_S) => u.1 = nI k ∧ wa_yA a u.2 ∧ u.2.2.2 = s.2.2 ∧ u.2.1 = s.1 ∧ (∀ i, i ≠ c' → u.2.2.1 i = s.2.1 i) ∧ ∀ i, i < k → u.2.2.1 c' i = 0) (Q := fun u => wa_yA a u ∧ u.2.2 = s.2.2 ∧ u.1 = s.1 ∧ (∀ i, i ≠ c' → u.2.1 i = s.2.1 i) ∧ ∀ i, i < ag_N Γ → u.2.1 c' i = 0) (a := 0) ⟨rfl, Y, rfl, rfl, fun _ _ => rfl, fun i hi => absurd hi (Nat.not_lt_zero _)⟩ (Nat.zero_le _) (by omega) ?_ ?_) ?_)
  · rintro k ⟨x, u⟩ hk ⟨e1, y, f1, f2, f3, d⟩
    have e1 : x = nI k := e1
    subst e1
    have y : wa_yA a u := y
    have f1 : u.2.2 = s.2.2 := f1
    have f3 : ∀ i, i ≠ c' → u.2.1 i = s.2.1 i := f3
    have d : ∀ i, i < k → u.2.1 c' i = 0 := d
    show ao_ok (m_Wa_goOnByOneEdge_B2 u (nI k)) _
    unfold m_Wa_goOnByOneEdge_B2
    rw [eN u y, if_neg (nI_ge hk (by omega)), aw_bd_s (show u.2.2 97 4 = some c' by rw [f1]; exact hr.2.2.2.1), aw_gd_t (show c' = 99 ∨ c' = 102 by omega), ao_gdn (by omega) (by omega), nI_clamp (by omega)]
    refine ao_let (ao_let (ao_inr ⟨nI_1 k, wa_yA_L y (by omega), f1, f2, fun i hi => by rw [wa_sL_o hi]; exact f3 i hi, fun i hi => ?_⟩))
    show (aw_sL u c' k 0).2.1 c' i = 0
    by_cases q : i = k
    · rw [q, wa_sL_s]
    · rw [wa_sL_i q]; exact d i (by omega)
  · rintro ⟨x, u⟩ ⟨e1, y, hh⟩
    have e1 : x = nI (ag_N Γ) := e1
    subst e1
    show ao_ok (m_Wa_goOnByOneEdge_B2 u (nI (ag_N Γ))) _
    unfold m_Wa_goOnByOneEdge_B2
    rw [eN u y, if_pos (nI_le (Nat.le_refl _) (by omega))]
    exact ao_inl ⟨y, hh⟩
  · rintro s1 ⟨y1, f1, f2, f3, d1⟩
    have H1 : wa_H s1 c l h (ag_N Γ) z := wa_H_c H (f3 c (by omega)) (by rw [f2]) (by rw [f2])
    -- what the outer loop holds
    refine ao_bd (ao_imp (ao_for (ag_N Γ) (fun k (u : Int32 × aw_S) => u.1 = nI k ∧ wa_yA a u.2 ∧ u.2.2.2 = s.2.2 ∧ u.2.1 98 = s.1 98 ∧ u.2.1 97 = s.1 97 ∧ u.2.2.1 97 = s.2.1 97 ∧ wa_H u.2 c l h (ag_N Γ) z ∧ wa_H u.2 c' l' h' (ag_N Γ) (wa_f (ag_nx Γ) (ru_w Γ how) z (2 * k))) (Q := fun u => wa_yA a u ∧ u.2.2 = s.2.2 ∧ u.1 98 = s.1 98 ∧ u.1 97 = s.1 97 ∧ u.2.1 97 = s.2.1 97 ∧ wa_H u c' l' h' (ag_N Γ) (wa_f (ag_nx Γ) (ru_w Γ how) z (2 * ag_N Γ))) (a := 0) ⟨rfl, y1, f1, by rw [f2], by rw [f2], f3 97 (by omega), H1, fun i hi => ⟨d1 i hi, fun h => absurd rfl h⟩⟩ (Nat.zero_le _) (by omega) ?_ ?_) ?_)
    · rintro n ⟨x, u⟩ hn ⟨e1, y, g1, g2, g3, g4, Hu, F⟩
      have e1 : x = nI n := e1
      subst e1
      have y : wa_yA a u := y
      have g1 : u.2.2 = s.2.2 := g1
      have g2 : u.1 98 = s.1 98 := g2
      have Hu : wa_H u c l h (ag_N Γ) z := Hu
      have F : wa_H u c' l' h' (ag_N Γ) (wa_f (ag_nx Γ) (ru_w Γ how) z (2 * n)) := F
      obtain ⟨fl1, fl2⟩ := wa_fl G.1 hn (ru_w Γ how) z
      have len2 := ao_sl_len2 (ag_nx Γ) n
      have zn := hz n
      show ao_ok (m_Wa_goOnByOneEdge_B25 u (nI n)) _
      unfold m_Wa_goOnByOneEdge_B25
      rw [eN u y, if_neg (nI_ge hn (by omega))]
      by_cases q : z.1 n = 0
      · -- nothing is there
        have same : wa_f (ag_nx Γ) (ru_w Γ how) z (2 * (n + 1)) = wa_f (ag_nx Γ) (ru_w Γ how) z (2 * n) := by
          have e : ∀ k y', k / 2 = n → wa_e (ag_nx Γ) (ru_w Γ how) z k y' = y' := fun k y' hk => by
            unfold wa_e
            cases ag_nx Γ k with
            | none => rfl
            | some t => show (if z.1 (k / 2) = 0 then y' else _) = y'; rw [if_pos (by rw [hk]; exact q)]
          show wa_e _ _ z (2 * n + 1) (wa_e _ _ z (2 * n) _) = _
          rw [e _ _ (by omega), e _ _ (by omega)]
          rfl
        refine ao_bd (ao_imp (Q := fun v => v = u) (ao_lpu1 (n := 1) (by omega) (fun m hm => ?_)) ?_)
        · obtain ⟨m, rfl⟩ : ∃ k, m = k + 1 := ⟨m - 1, by omega⟩
          refine ao_lpS ?_
          show ao_ok (m_Wa_goOnByOneEdge_B35 u (nI n) 0) _
          unfold m_Wa_goOnByOneEdge_B35
          rw [aw_bd_s (show u.2.2 97 1 = some c by rw [g1]; exact hr.1), aw_gd_t (show c = 99 ∨ c = 102 by omega), ao_gdn (by omega) (by omega), nI_clamp (by omega), (Hu n hn).1, if_pos ((wa_le0 (by omega)).mpr q)]
          exact ao_inl rfl
        · rintro v rfl
          refine ao_let (ao_inr ⟨nI_1 n, y, g1, g2, g3, g4, Hu, ?_⟩)
          rw [same]; exact F
      · refine ao_bd (ao_imp (ao_for (ao_sl (ag_nx Γ) n).length (fun k (v : Int32 × aw_S) => v.1 = nI k ∧ wa_yA a v.2 ∧ v.2.2.2 = s.2.2 ∧ v.2.1 98 = s.1 98 ∧ v.2.1 97 = s.1 97 ∧ v.2.2.1 97 = s.2.1 97 ∧ wa_H v.2 c l h (ag_N Γ) z ∧ wa_H v.2 c' l' h' (ag_N Γ) (wa_f (ag_nx Γ) (ru_w Γ how) z (2 * n + k))) (Q := fun v => wa_yA a v ∧ v.2.2 = s.2.2 ∧ v.1 98 = s.1 98 ∧ v.1 97 = s.1 97 ∧ v.2.1 97 = s.2.1 97 ∧ wa_H v c l h (ag_N Γ) z ∧ wa_H v c' l' h' (ag_N Γ) (wa_f (ag_nx Γ) (ru_w Γ how) z (2 * n + (ao_sl (ag_nx Γ) n).length))) (a := 0) ⟨rfl, y, g1, g2, g3, g4, Hu, F⟩ (Nat.zero_le _) (by omega) ?_ ?_) ?_)
        · rintro k ⟨x, v⟩ hk ⟨e1, yv, i1, i2, i3, i4, Hv, Fv⟩
          have e1 : x = nI k := e1
          subst e1
          have yv : wa_yA a v := yv
          have i1 : v.2.2 = s.2.2 := i1
          have i2 : v.1 98 = s.1 98 := i2
          have Hv : wa_H v c l h (ag_N Γ) z := Hv
          have Fv : wa_H v c' l' h' (ag_N Γ) (wa_f (ag_nx Γ) (ru_w Γ how) z (2 * n + k)) := Fv
          obtain ⟨t, et⟩ : ∃ t, (ao_sl (ag_nx Γ) n)[k]? = some t := ⟨_, List.getElem?_eq_getElem hk⟩
          have htN := ao_ed_lt G.1 hn (ao_sl_mem.mp (List.mem_of_getElem? et))
          have Tv := (wa_yA_A yv A).1
          show ao_ok (m_Wa_goOnByOneEdge_B35 v (nI n) (nI k)) _
          unfold m_Wa_goOnByOneEdge_B35
          rw [aw_bd_s (show v.2.2 97 1 = some c by rw [i1]; exact hr.1), aw_gd_t (show c = 99 ∨ c = 102 by omega), ao_gdn (by omega) (by omega), nI_clamp (by omega), (Hv n hn).1, if_neg (fun w => q ((wa_le0 (by omega)).mp w)), aw_bd_s (ao_leads Tv hn), if_neg (nI_ge hk (by omega)), aw_bd_s (ao_next Tv hn et)]
          have rv : wa_r v c l h c' l' h' := by unfold wa_r; rw [i1]; exact hr
          refine ao_bd (ao_imp (wa_extend hN (eN v yv) hn htN hM (hw t) (by rw [i2]; exact W t htN) hz (hb (2 * n + k)) hq rv Hv Fv q yv) ?_)
          rintro v' ⟨j1, j2, j3, j4, j5, j6, j7⟩
          refine ao_let (ao_inr ⟨nI_1 k, j1, j2.trans i1, j3.trans i2, j4.trans i3, j5.trans i4, j6, ?_⟩)
          have step : wa_f (ag_nx Γ) (ru_w Γ how) z (2 * n + (k + 1)) = wa_e (ag_nx Γ) (ru_w Γ how) z (2 * n + k) (wa_f (ag_nx Γ) (ru_w Γ how) z (2 * n + k)) := rfl
          rw [step]
          unfold wa_e
          rw [fl2 k t et]
          show wa_H v' c' l' h' (ag_N Γ) (if z.1 ((2 * n + k) / 2) = 0 then _ else _)
          rw [show (2 * n + k) / 2 = n by omega, if_neg q]
          exact j7
        · rintro ⟨x, v⟩ ⟨e1, yv, i1, hh⟩
          have e1 : x = nI (ao_sl (ag_nx Γ) n).length := e1
          subst e1
          have i1 : v.2.2 = s.2.2 := i1
          have Tv := (wa_yA_A yv A).1
          show ao_ok (m_Wa_goOnByOneEdge_B35 v (nI n) (nI (ao_sl (ag_nx Γ) n).length)) _
          unfold m_Wa_goOnByOneEdge_B35
          have hhz : wa_H v c l h (ag_N Γ) z := hh.2.2.2.1
          rw [aw_bd_s (show v.2.2 97 1 = some c by rw [i1]; exact hr.1), aw_gd_t (show c = 99 ∨ c = 102 by omega), ao_gdn (by omega) (by omega), nI_clamp (by omega), (hhz n hn).1, if_neg (fun w => q ((wa_le0 (by omega)).mp w)), aw_bd_s (ao_leads Tv hn), if_pos (nI_le (Nat.le_refl _) (by omega))]
          exact ao_inl ⟨yv, i1, hh⟩
        · rintro v ⟨yv, i1, i2, i3, i4, Hv, Fv⟩
          rw [fl1] at Fv
          exact ao_let (ao_inr ⟨nI_1 n, yv, i1, i2, i3, i4, Hv, Fv⟩)
    · rintro ⟨x, u⟩ ⟨e1, y, g1, g2, g3, g4, Hu, F⟩
      have e1 : x = nI (ag_N Γ) := e1
      subst e1
      show ao_ok (m_Wa_goOnByOneEdge_B25 u (nI (ag_N Γ))) _
      unfold m_Wa_goOnByOneEdge_B25
      rw [eN u y, if_pos (nI_le (Nat.le_refl _) (by omega))]
      exact ao_inl ⟨y, g1, g2, g3, g4, F⟩
    · rintro u ⟨y, g1, g2, g3, g4, F⟩
      obtain ⟨r1, r2, r3, r4, r5, r6⟩ := hr
      unfold m_Wa_swap
      rw [aw_bd_s (show u.2.2 97 1 = some c by rw [g1]; exact r1), aw_gd_t (show c = 99 ∨ c = 102 by omega), aw_bd_s (show u.2.2 97 2 = some l by rw [g1]; exact r2), aw_gd_t (show l = 100 ∨ l = 103 by omega), aw_bd_s (show u.2.2 97 3 = some h by rw [g1]; exact r3), aw_gd_t (show h = 101 ∨ h = 104 by omega), aw_bd_s (show u.2.2 97 4 = some c' by rw [g1]; exact r4), aw_gd_t (show c' = 99 ∨ c' = 102 by omega), ao_ltr]
      have k5 : (aw_sR u 97 1 (some c')).2.2 97 5 = some l' := by
        show (if 97 = 97 ∧ 5 = 1 then some c' else u.2.2 97 5) = some l'
        rw [if_neg (by decide), g1]; exact r5
      rw [aw_bd_s k5, aw_gd_t (show l' = 100 ∨ l' = 103 by omega), ao_ltr]
      have k6 : (aw_sR (aw_sR u 97 1 (some c')) 97 2 (some l')).2.2 97 6 = some h' := by
        show (if 97 = 97 ∧ 6 = 2 then some l' else if 97 = 97 ∧ 6 = 1 then some c' else u.2.2 97 6) = some h'
        rw [if_neg (by decide), if_neg (by decide), g1]; exact r6
      rw [aw_bd_s k6, aw_gd_t (show h' = 101 ∨ h' = 104 by omega), ao_ltr, ao_ltr, ao_ltr, ao_ltr]
      refine ao_bd (ao_some (ao_some ⟨⟨wa_yA_R (wa_yA_R (wa_yA_R (wa_yA_R (wa_yA_R (wa_yA_R y))))), ?_, ⟨rfl, rfl, rfl, rfl, rfl, rfl⟩, fun n hn => ?_, F⟩, g3, g4⟩))
      · unfold wa_q; omega
      · show u.1 98 n = _
        rw [g2]; exact W n hn

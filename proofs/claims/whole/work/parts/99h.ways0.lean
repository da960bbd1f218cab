/-! ===== WAYS: in mathematics ===== -/
def wa_many : Nat := 1000000000000
/-- of each node: how many ways are there, the least, the most -/
abbrev wa_T : Type := (Nat → Nat) × (Nat → Nat) × (Nat → Nat)
/-- over an edge -/
noncomputable def wa_e (nx : Nat → Option Nat) (w : Nat → Nat) (z : wa_T) (k : Nat) (y : wa_T) : wa_T := match nx k with
  | none => y
  | some t => if z.1 (k / 2) = 0 then y else (pz_u y.1 t (min wa_many (y.1 t + z.1 (k / 2))), pz_u y.2.1 t (if y.1 t = 0 then z.2.1 (k / 2) + w t else min (y.2.1 t) (z.2.1 (k / 2) + w t)), pz_u y.2.2 t (if y.1 t = 0 then z.2.2 (k / 2) + w t else max (y.2.2 t) (z.2.2 (k / 2) + w t)))
noncomputable def wa_f (nx : Nat → Option Nat) (w : Nat → Nat) (z : wa_T) : Nat → wa_T
  | 0 => (fun _ => 0, fun _ => 0, fun _ => 0)
  | k + 1 => wa_e nx w z k (wa_f nx w z k)
/-- ended at a last one -/
noncomputable def wa_a (nx : Nat → Option Nat) (z : wa_T) : Nat → Nat × Nat × Nat → Nat × Nat × Nat
  | 0, y => y
  | n + 1, y => if z.1 n = 0 ∨ nx (2 * n) ≠ none then wa_a nx z n y else (min wa_many ((wa_a nx z n y).1 + z.1 n), if (wa_a nx z n y).1 = 0 then z.2.1 n else min (wa_a nx z n y).2.1 (z.2.1 n), if (wa_a nx z n y).1 = 0 then z.2.2 n else max (wa_a nx z n y).2.2 (z.2.2 n))
def wa_b (M : Nat) (z : wa_T) : Prop := ∀ n, z.1 n ≤ wa_many ∧ z.2.1 n ≤ M ∧ z.2.2 n ≤ M
def wa_ab (M : Nat) (y : Nat × Nat × Nat) : Prop := y.1 ≤ wa_many ∧ y.2.1 ≤ M ∧ y.2.2 ≤ M
theorem wa_e_b {nx : Nat → Option Nat} {w : Nat → Nat} {z y : wa_T} {M : Nat} (hw : ∀ n, w n ≤ 25) (hz : wa_b M z) (hy : wa_b (M + 25) y) (k : Nat) : wa_b (M + 25) (wa_e nx w z k y) := by
  unfold wa_e
  cases nx k with
  | none => exact hy
  | some t =>
    have hzk := hz (k / 2)
    have hwt := hw t
    by_cases q : z.1 (k / 2) = 0
    · show wa_b (M + 25) (if z.1 (k / 2) = 0 then y else _)
      rw [if_pos q]; exact hy
    · show wa_b (M + 25) (if z.1 (k / 2) = 0 then y else _)
      rw [if_neg q]
      intro n
      have hyt := hy t
      show pz_u y.1 t _ n ≤ _ ∧ pz_u y.2.1 t _ n ≤ _ ∧ pz_u y.2.2 t _ n ≤ _
      by_cases h : n = t
      · rw [h, pz_u_s, pz_u_s, pz_u_s]
        refine ⟨Nat.min_le_left _ _, ?_, ?_⟩
        · by_cases g : y.1 t = 0
          · rw [if_pos g]; omega
          · rw [if_neg g]; omega
        · by_cases g : y.1 t = 0
          · rw [if_pos g]; omega
          · rw [if_neg g]; omega
      · rw [pz_u_i h, pz_u_i h, pz_u_i h]
        exact hy n
theorem wa_f_b {nx : Nat → Option Nat} {w : Nat → Nat} {z : wa_T} {M : Nat} (hw : ∀ n, w n ≤ 25) (hz : wa_b M z) : ∀ k, wa_b (M + 25) (wa_f nx w z k) := by
  intro k
  induction k with
  | zero => exact fun n => ⟨Nat.zero_le _, Nat.zero_le _, Nat.zero_le _⟩
  | succ k ih => exact wa_e_b hw hz ih k
theorem wa_a_b {nx : Nat → Option Nat} {z : wa_T} {M : Nat} (hz : wa_b M z) {y : Nat × Nat × Nat} (hy : wa_ab M y) : ∀ n, wa_ab M (wa_a nx z n y) := by
  intro n
  induction n with
  | zero => exact hy
  | succ n ih =>
    show wa_ab M (if _ then _ else _)
    by_cases q : z.1 n = 0 ∨ nx (2 * n) ≠ none
    · rw [if_pos q]; exact ih
    · rw [if_neg q]
      have hzn := hz n
      obtain ⟨i1, i2, i3⟩ := ih
      refine ⟨Nat.min_le_left _ _, ?_, ?_⟩
      · show (if _ then _ else _) ≤ M
        by_cases g : (wa_a nx z n y).1 = 0
        · rw [if_pos g]; exact hzn.2.1
        · rw [if_neg g]; omega
      · show (if _ then _ else _) ≤ M
        by_cases g : (wa_a nx z n y).1 = 0
        · rw [if_pos g]; exact hzn.2.2
        · rw [if_neg g]; omega
theorem wa_ab_m {M M' : Nat} (h : M ≤ M') {y : Nat × Nat × Nat} (hy : wa_ab M y) : wa_ab M' y := ⟨hy.1, by have := hy.2.1; omega, by have := hy.2.2; omega⟩
/-! numbers -/
theorem wa_l0 {v : Nat} (hv : v ≤ 2 * wa_many) : lg_cmp (lN v) 0 = 0 ↔ v = 0 := by
  unfold wa_many at hv
  rw [lg_cmp_eq, show (0 : Int64) = lN 0 from rfl, pk_lEQ (by omega) (by omega)]
theorem wa_le0 {v : Nat} (hv : v ≤ 2 * wa_many) : lg_cmp (lN v) 0 ≤ 0 ↔ v = 0 := by
  unfold wa_many at hv
  rw [lg_cmp_le, show (0 : Int64) = lN 0 from rfl, pk_lLE (by omega) (by omega)]
  omega
theorem wa_lem {v : Nat} (hv : v ≤ 2 * wa_many) : lg_cmp (lN v) 1000000000000 ≤ 0 ↔ v ≤ wa_many := by
  unfold wa_many at hv ⊢
  rw [lg_cmp_le, show (1000000000000 : Int64) = lN 1000000000000 from rfl, pk_lLE (by omega) (by omega)]
theorem wa_mnL {v : Nat} (hv : v ≤ 2 * wa_many) : aw_mnL 1000000000000 (lN v) = lN (min wa_many v) := by
  unfold wa_many at hv ⊢
  unfold aw_mnL
  by_cases q : v < 1000000000000
  · rw [if_pos (show lN v < (1000000000000 : Int64) from (pk_lLT (b := 1000000000000) (by omega) (by omega)).mpr q), Nat.min_eq_right (by omega)]
  · rw [if_neg (show ¬ lN v < (1000000000000 : Int64) from fun z => q ((pk_lLT (b := 1000000000000) (by omega) (by omega)).mp z)), Nat.min_eq_left (by omega)]
    rfl
theorem wa_mn {a b : Nat} (ha : a < 2 ^ 31) (hb : b < 2 ^ 31) : aw_mn (nI a) (nI b) = nI (min a b) := by
  unfold aw_mn
  by_cases q : b < a
  · rw [if_pos (nI_lt q ha), Nat.min_eq_right (by omega)]
  · rw [if_neg (nI_nlt (by omega) hb), Nat.min_eq_left (by omega)]
/-! ===== the reference ===== -/
/-- what it may move -/
def wa_yB (σ t : aw_S) : Prop := t.2.2 = σ.2.2 ∧ (∀ k, k ≠ 27 → k ≠ 28 → t.2.1 k = σ.2.1 k) ∧ ∀ k, (k < 29 ∨ 32 < k) → t.1 k = σ.1 k
theorem wa_yB_rf {σ : aw_S} : wa_yB σ σ := ⟨rfl, fun _ _ _ => rfl, fun _ _ => rfl⟩
theorem wa_yB_I {σ t : aw_S} (h : wa_yB σ t) {c j : Nat} {v : Int32} (hc : 29 ≤ c ∧ c ≤ 32) : wa_yB σ (aw_sI t c j v) := ⟨h.1, h.2.1, fun k hk => by rw [ao_sI_o (by omega)]; exact h.2.2 k hk⟩
theorem wa_yB_L {σ t : aw_S} (h : wa_yB σ t) {c j : Nat} {v : Int64} (hc : c = 27 ∨ c = 28) : wa_yB σ (aw_sL t c j v) := ⟨h.1, fun k h1 h2 => by
  have : (aw_sL t c j v).2.1 k = t.2.1 k := funext fun i => if_neg (fun e => by omega)
  rw [this]; exact h.2.1 k h1 h2, h.2.2⟩
theorem wa_sL_s (σ : aw_S) (o j : Nat) (v : Int64) : (aw_sL σ o j v).2.1 o j = v := if_pos ⟨rfl, rfl⟩
theorem wa_sL_i {σ : aw_S} {o j : Nat} {v : Int64} {a i : Nat} (h : i ≠ j) : (aw_sL σ o j v).2.1 a i = σ.2.1 a i := if_neg (fun e => h e.2)
theorem wa_sL_o {σ : aw_S} {o j : Nat} {v : Int64} {a : Nat} (h : a ≠ o) : (aw_sL σ o j v).2.1 a = σ.2.1 a := funext fun i => if_neg (fun e => h e.1)
/-- rows hold z -/
def wa_H (s : aw_S) (c l h : Nat) (N : Nat) (z : wa_T) : Prop := ∀ n, n < N → s.2.1 c n = lN (z.1 n) ∧ (z.1 n ≠ 0 → s.1 l n = nI (z.2.1 n) ∧ s.1 h n = nI (z.2.2 n))
set_option maxHeartbeats 2000000 in
theorem wa_goOnB {t : aw_S} {N n m c : Nat} (hN : N ≤ 112) (hn : n < N) (hm : m < N) {M : Nat} (hM : M + 100 < 2 ^ 31) (hc : c ≤ 25) {z y : wa_T} (hz : wa_b M z) (hy : wa_b (M + 25) y) (Hz : wa_H t 27 29 31 N z) (Hy : wa_H t 28 30 32 N y) {σ : aw_S} (Y : wa_yB σ t) : ao_ok (m_Rf_goOn t (nI n) (nI m) (nI c)) (fun t' => wa_yB σ t' ∧ wa_H t' 27 29 31 N z ∧ wa_H t' 28 30 32 N (if z.1 n = 0 then y else (pz_u y.1 m (min wa_many (y.1 m + z.1 n)), pz_u y.2.1 m (if y.1 m = 0 then z.2.1 n + c else min (y.2.1 m) (z.2.1 n + c)), pz_u y.2.2 m (if y.1 m = 0 then z.2.2 n + c else max (y.2.2 m) (z.2.2 n + c))))) := by
  have hzn := hz n
  have hym := hy m
  have e27 := (Hz n hn).1
  have e28 := (Hy m hm).1
  unfold m_Rf_goOn
  rw [ao_gdn (by omega) (by omega), ao_gdn (by omega) (by omega), nI_clamp (by omega), nI_clamp (by omega), e27, e28]
  by_cases q : z.1 n = 0
  · rw [if_pos ((wa_l0 (by omega)).mpr q), if_pos q]
    exact ao_some ⟨Y, Hz, Hy⟩
  · rw [if_neg (fun w => q ((wa_l0 (by omega)).mp w)), if_neg q]
    obtain ⟨z1, z2⟩ := (Hz n hn).2 q
    -- the ways are in: the least and the most
    have J74 : ∀ k0 : Int32, (k0 = 0 ∨ k0 = 1) → (k0 = 0 ↔ y.1 m ≠ 0) → ∀ t1 : aw_S, t1 = aw_sL t 28 m (lN (min wa_many (y.1 m + z.1 n))) → ao_ok (m_Rf_goOn_J74 t (nI n) (nI m) (nI c) k0 (nI m) (lN (min wa_many (y.1 m + z.1 n)))) (fun t' => wa_yB σ t' ∧ wa_H t' 27 29 31 N z ∧ wa_H t' 28 30 32 N (pz_u y.1 m (min wa_many (y.1 m + z.1 n)), pz_u y.2.1 m (if y.1 m = 0 then z.2.1 n + c else min (y.2.1 m) (z.2.1 n + c)), pz_u y.2.2 m (if y.1 m = 0 then z.2.2 n + c else max (y.2.2 m) (z.2.2 n + c)))) := by
      intro k0 hk hk0 t1 ht1
      have fin : ∀ u v : Nat, (u = if y.1 m = 0 then z.2.1 n + c else min (y.2.1 m) (z.2.1 n + c)) → (v = if y.1 m = 0 then z.2.2 n + c else max (y.2.2 m) (z.2.2 n + c)) → wa_yB σ (aw_sI (aw_sI t1 30 m (nI u)) 32 m (nI v)) ∧ wa_H (aw_sI (aw_sI t1 30 m (nI u)) 32 m (nI v)) 27 29 31 N z ∧ wa_H (aw_sI (aw_sI t1 30 m (nI u)) 32 m (nI v)) 28 30 32 N (pz_u y.1 m (min wa_many (y.1 m + z.1 n)), pz_u y.2.1 m (if y.1 m = 0 then z.2.1 n + c else min (y.2.1 m) (z.2.1 n + c)), pz_u y.2.2 m (if y.1 m = 0 then z.2.2 n + c else max (y.2.2 m) (z.2.2 n + c))) := by
        intro u v hu hv
        subst ht1
        refine ⟨wa_yB_I (wa_yB_I (wa_yB_L Y (Or.inr rfl)) (by omega)) (by omega), fun i hi => ⟨?_, fun h0 => ⟨?_, ?_⟩⟩, fun i hi => ?_⟩
        · show (aw_sL t 28 m _).2.1 27 i = _
          rw [wa_sL_o (by omega)]; exact (Hz i hi).1
        · rw [ao_sI_o (by omega), ao_sI_o (by omega)]; exact ((Hz i hi).2 h0).1
        · rw [ao_sI_o (by omega), ao_sI_o (by omega)]; exact ((Hz i hi).2 h0).2
        · show (aw_sL t 28 m (lN (min wa_many (y.1 m + z.1 n)))).2.1 28 i = lN (pz_u y.1 m (min wa_many (y.1 m + z.1 n)) i) ∧ (pz_u y.1 m (min wa_many (y.1 m + z.1 n)) i ≠ 0 → (aw_sI (aw_sI (aw_sL t 28 m (lN (min wa_many (y.1 m + z.1 n)))) 30 m (nI u)) 32 m (nI v)).1 30 i = nI (pz_u y.2.1 m (if y.1 m = 0 then z.2.1 n + c else min (y.2.1 m) (z.2.1 n + c)) i) ∧ (aw_sI (aw_sI (aw_sL t 28 m (lN (min wa_many (y.1 m + z.1 n)))) 30 m (nI u)) 32 m (nI v)).1 32 i = nI (pz_u y.2.2 m (if y.1 m = 0 then z.2.2 n + c else max (y.2.2 m) (z.2.2 n + c)) i))
          rw [ao_sI_o (show 30 ≠ 32 by omega)]
          by_cases g : i = m
          · rw [g, wa_sL_s, pz_u_s, pz_u_s, pz_u_s, ao_sI_s, ao_sI_s, hu, hv]
            exact ⟨rfl, fun _ => ⟨rfl, rfl⟩⟩
          · rw [wa_sL_i g, pz_u_i g, pz_u_i g, pz_u_i g, ao_sI_i g, ao_sI_i g]
            refine ⟨(Hy i hi).1, fun h0 => ?_⟩
            have := (Hy i hi).2 h0
            rw [ao_sI_o (show 32 ≠ 30 by omega)]
            exact this
      unfold m_Rf_goOn_J74 m_Rf_goOn_J116 m_Rf_goOn_J127 m_Rf_goOn_J149 m_Rf_goOn_J160
      simp (disch := omega) only [ao_gdn, nI_clamp, ao_ltr]
      rw [← ht1]
      have c29 : t1.1 29 n = nI (z.2.1 n) := by rw [ht1]; exact z1
      have c31 : t1.1 31 n = nI (z.2.2 n) := by rw [ht1]; exact z2
      have c30 : ∀ i, t1.1 30 i = t.1 30 i := fun i => by rw [ht1]; rfl
      have c32 : ∀ i (x : Int32), (aw_sI t1 30 m x).1 32 i = t.1 32 i := fun i x => by rw [ao_sI_o (by omega), ht1]; rfl
      rw [c29, c31, nI_add, nI_add]
      by_cases g : y.1 m = 0
      · have k1 : ¬ k0 = 0 := fun w => hk0.mp w g
        simp only [if_neg k1]
        exact ao_some (fin _ _ (by rw [if_pos g]) (by rw [if_pos g]))
      · have k1 : k0 = 0 := hk0.mpr g
        obtain ⟨y1, y2⟩ := (Hy m hm).2 g
        simp only [if_pos k1, c30, c32, y1, y2]
        have R : ∀ u : Nat, (u = min (y.2.1 m) (z.2.1 n + c)) → ao_ok (if nI (z.2.2 n + c) ≤ nI (y.2.2 m) then some (aw_sI (aw_sI t1 30 m (nI u)) 32 m (nI (y.2.2 m))) else some (aw_sI (aw_sI t1 30 m (nI u)) 32 m (nI (z.2.2 n + c)))) (fun t' => wa_yB σ t' ∧ wa_H t' 27 29 31 N z ∧ wa_H t' 28 30 32 N (pz_u y.1 m (min wa_many (y.1 m + z.1 n)), pz_u y.2.1 m (if y.1 m = 0 then z.2.1 n + c else min (y.2.1 m) (z.2.1 n + c)), pz_u y.2.2 m (if y.1 m = 0 then z.2.2 n + c else max (y.2.2 m) (z.2.2 n + c)))) := by
          intro u hu
          refine ao_if (fun w => ao_some (fin u _ (by rw [if_neg g]; exact hu) ?_)) (fun w => ao_some (fin u _ (by rw [if_neg g]; exact hu) ?_))
          · have w := (nI_leI (by omega) (by omega)).mp w
            rw [if_neg g, Nat.max_eq_left w]
          · have w : ¬ z.2.2 n + c ≤ y.2.2 m := fun v => w ((nI_leI (by omega) (by omega)).mpr v)
            rw [if_neg g, Nat.max_eq_right (by omega)]
        by_cases w : y.2.1 m ≤ z.2.1 n + c
        · rw [if_pos (nI_le w (by omega))]
          exact R _ (Nat.min_eq_left w).symm
        · rw [if_neg (nI_ge (by omega) (by omega))]
          exact R _ (Nat.min_eq_right (by omega)).symm
    have J28 : ∀ k0 : Int32, (k0 = 0 ∨ k0 = 1) → (k0 = 0 ↔ y.1 m ≠ 0) → ao_ok (m_Rf_goOn_J28 t (nI n) (nI m) (nI c) k0) (fun t' => wa_yB σ t' ∧ wa_H t' 27 29 31 N z ∧ wa_H t' 28 30 32 N (pz_u y.1 m (min wa_many (y.1 m + z.1 n)), pz_u y.2.1 m (if y.1 m = 0 then z.2.1 n + c else min (y.2.1 m) (z.2.1 n + c)), pz_u y.2.2 m (if y.1 m = 0 then z.2.2 n + c else max (y.2.2 m) (z.2.2 n + c)))) := by
      intro k0 hk hk0
      have := J74 k0 hk hk0 _ rfl
      unfold m_Rf_goOn_J28
      rw [ao_gdn (by omega) (by omega), ao_gdn (by omega) (by omega), nI_clamp (by omega), nI_clamp (by omega), e27, e28, lN_add]
      by_cases w : y.1 m + z.1 n ≤ wa_many
      · rw [if_pos ((wa_lem (by omega)).mpr w), ao_gdn (by omega) (by omega), ao_gdn (by omega) (by omega)]
        rw [Nat.min_eq_right w] at this
        rw [Nat.min_eq_right w]
        exact this
      · rw [if_neg (fun v => w ((wa_lem (by omega)).mp v))]
        rw [Nat.min_eq_left (by omega)] at this
        rw [Nat.min_eq_left (by omega)]
        exact this
    by_cases w : y.1 m = 0
    · rw [if_pos ((wa_l0 (by omega)).mpr w)]
      exact J28 1 (Or.inr rfl) ⟨fun v => absurd v ao_n10, fun v => absurd w v⟩
    · rw [if_neg (fun v => w ((wa_l0 (by omega)).mp v))]
      exact J28 0 (Or.inl rfl) ⟨fun _ => w, fun _ => rfl⟩

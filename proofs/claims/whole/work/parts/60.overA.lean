/-! ===== loops: what is over what ===== -/
section
variable (N : Nat) (nx : Nat → Option Nat)
def ao_fOV (v : Nat) (Y : Nat → Prop) (n : Nat) : Prop := n = v ∨ (n ≠ 0 ∧ ∀ p, p < N → ao_ed nx p n → Y p)
/-- v is over n -/
def ao_OV (v : Nat) : Nat → Prop := ao_G N (ao_fOV N nx v)
def ao_HD (v : Nat) : Prop := ∃ p, p < N ∧ ao_ed nx p v ∧ ao_OV N nx v p
def ao_fIN (v : Nat) (Y : Nat → Prop) (n : Nat) : Prop := n = v ∨ (ao_OV N nx v n ∧ ∃ t, ao_ed nx n t ∧ Y t)
def ao_IN (v : Nat) : Nat → Prop := ao_L N (ao_fIN N nx v)
noncomputable def ao_DP (n : Nat) : Nat := ao_n (fun v => ao_HD N nx v ∧ ao_IN N nx v n) N
noncomputable def ao_HN : Nat := ao_n (ao_HD N nx) N
end
/-! ===== Int64 by its bits ===== -/
def aL_t (x : Int64) (i : Nat) : Prop := x.toBitVec.getLsbD i = true
theorem aL_or {x y : Int64} {i : Nat} : aL_t (x ||| y) i ↔ aL_t x i ∨ aL_t y i := by unfold aL_t; rw [Int64.toBitVec_or, BitVec.getLsbD_or, Bool.or_eq_true]
theorem aL_and {x y : Int64} {i : Nat} : aL_t (x &&& y) i ↔ aL_t x i ∧ aL_t y i := by unfold aL_t; rw [Int64.toBitVec_and, BitVec.getLsbD_and, Bool.and_eq_true]
theorem aL_0 {i : Nat} : ¬ aL_t 0 i := by
  unfold aL_t
  rw [show (0 : Int64).toBitVec = 0#64 from rfl, BitVec.getLsbD_zero]; decide
theorem aL_m1' : ∀ i, i < 64 → (-1 : Int64).toBitVec.getLsbD i = true := by decide +kernel
theorem aL_m1 {i : Nat} (h : i < 64) : aL_t (-1) i := aL_m1' i h
theorem aL_sh : ∀ v, v < 64 → (aw_lshl' (1 : Int64) (nI v)).toBitVec = BitVec.twoPow 64 v := by decide +kernel
theorem aL_one {v i : Nat} (hv : v < 64) (hi : i < 64) : aL_t (aw_lshl' (1 : Int64) (nI v)) i ↔ i = v := by
  unfold aL_t
  rw [aL_sh v hv, BitVec.getLsbD_twoPow]
  simp [hv]
  exact ⟨fun h => h.symm, fun h => h.symm⟩
theorem aL_ext {x y : Int64} (h : ∀ i, i < 64 → (aL_t x i ↔ aL_t y i)) : x = y := by
  apply Int64.toBitVec_inj.mp
  apply BitVec.eq_of_getLsbD_eq
  intro i hi
  have := h i hi
  unfold aL_t at this
  cases hx : x.toBitVec.getLsbD i <;> cases hy : y.toBitVec.getLsbD i <;> simp_all
theorem aL_wb_cu : ∀ k, k < 64 → ((nI k).toInt64.toUInt64 &&& Int64.toUInt64 63).toNat = k := by decide +kernel
theorem aL_ushr {x : Int64} {v i : Nat} (hv : v < 64) : aL_t (aw_lushr' x (nI v)) i ↔ aL_t x (v + i) := by
  unfold aL_t aw_lushr'
  have e : (x.toUInt64 >>> ((nI v).toInt64.toUInt64 &&& Int64.toUInt64 63)).toInt64.toBitVec = x.toBitVec >>> v := by
    apply BitVec.eq_of_toNat_eq
    show (x.toUInt64 >>> ((nI v).toInt64.toUInt64 &&& Int64.toUInt64 63)).toNat = _
    rw [UInt64.toNat_shiftRight, aL_wb_cu v hv, Nat.mod_eq_of_lt hv, BitVec.toNat_ushiftRight]
    rfl
  rw [e, BitVec.getLsbD_ushiftRight]
theorem aL_1 {i : Nat} (hi : i < 64) : aL_t 1 i ↔ i = 0 := by
  have h := aL_one (v := 0) (by omega) hi
  rw [show aw_lshl' (1 : Int64) (nI 0) = 1 by decide] at h
  exact h
theorem aL_bit {x : Int64} {v : Nat} (hv : v < 64) : lg_cmp (aw_lushr' x (nI v) &&& 1) 1 = 0 ↔ aL_t x v := by
  rw [lg_cmp_eq]
  refine ⟨fun h => ?_, fun h => aL_ext fun i hi => ?_⟩
  · have h1 : aL_t (aw_lushr' x (nI v) &&& 1) 0 := by rw [h, aL_1 (by omega)]
    rw [aL_and, aL_ushr hv] at h1
    exact h1.1
  · rw [aL_and, aL_ushr hv, aL_1 hi]
    exact ⟨fun z => z.2, fun z => by subst z; exact ⟨h, rfl⟩⟩
/-! ===== rows of longs ===== -/
theorem ao_sL1 (σ : aw_S) (o j : Nat) (v : Int64) : (aw_sL σ o j v).1 = σ.1 := rfl
theorem ao_sL_s (σ : aw_S) (o j : Nat) (v : Int64) : (aw_sL σ o j v).2.1 o j = v := if_pos ⟨rfl, rfl⟩
theorem ao_sL_i {σ : aw_S} {o j : Nat} {v : Int64} {a i : Nat} (h : i ≠ j) : (aw_sL σ o j v).2.1 a i = σ.2.1 a i := if_neg (fun e => h e.2)
theorem ao_sL_o {σ : aw_S} {o j : Nat} {v : Int64} {a : Nat} (h : a ≠ o) : (aw_sL σ o j v).2.1 a = σ.2.1 a := funext fun i => if_neg (fun e => h e.1)
/-- the bit v of what is over n -/
def ag_ov (s : aw_S) (v n : Nat) : Prop := if v < 64 then aL_t (s.2.1 59 n) v else aL_t (s.2.1 60 n) (v - 64)
/-- the rows of longs alone may have moved -/
def ag_lo (σ s : aw_S) : Prop := s.1 = σ.1 ∧ s.2.2 = σ.2.2 ∧ ∀ k, k ≠ 59 → k ≠ 60 → s.2.1 k = σ.2.1 k
theorem ag_lo_A {σ s : aw_S} {Γ : ag_T} (h : ag_lo σ s) (hA : ag_A σ Γ) : ag_A s Γ := ag_A_fr hA (fun k _ _ => by rw [h.1])
theorem ag_lo_tr {σ s t : aw_S} (h : ag_lo σ s) (h' : ag_lo s t) : ag_lo σ t := ⟨h'.1.trans h.1, h'.2.1.trans h.2.1, fun k h1 h2 => (h'.2.2 k h1 h2).trans (h.2.2 k h1 h2)⟩
theorem ag_fillJ {σ : aw_S} {c n : Nat} {v : Int64} (hn : n < 2 ^ 31) : ao_ok (m_Ar_fillJ σ c n v) (fun s => s.1 = σ.1 ∧ s.2.2 = σ.2.2 ∧ (∀ k, k ≠ c → s.2.1 k = σ.2.1 k) ∧ ∀ j, j < n → s.2.1 c j = v) := by
  unfold m_Ar_fillJ
  refine ao_let (ao_bd (ao_for (Q := fun (s : aw_S) => ao_ok (some s) (fun (s : aw_S) => s.1 = σ.1 ∧ s.2.2 = σ.2.2 ∧ (∀ k, k ≠ c → s.2.1 k = σ.2.1 k) ∧ ∀ j, j < n → s.2.1 c j = v)) n (fun k (s : Int32 × aw_S) => s.1 = nI k ∧ s.2.1 = σ.1 ∧ s.2.2.2 = σ.2.2 ∧ (∀ k, k ≠ c → s.2.2.1 k = σ.2.1 k) ∧ ∀ j, j < k → s.2.2.1 c j = v) (a := 0) ⟨rfl, rfl, rfl, fun _ _ => rfl, fun j hj => absurd hj (Nat.not_lt_zero _)⟩ (Nat.zero_le _) (by omega) ?_ ?_))
  · rintro k ⟨x, s⟩ hk ⟨e1, h1, h2, h3, hv⟩
    have e1 : x = nI k := e1
    subst e1
    show ao_ok (m_Ar_fillJ_B6 s c v (nI n) n (nI k)) _
    unfold m_Ar_fillJ_B6
    rw [if_neg (nI_ge hk hn), ao_gdn hk hn, nI_clamp (by omega)]
    refine ao_let (ao_let (ao_inr ⟨nI_1 k, h1, h2, fun a ha => (ao_sL_o ha).trans (h3 a ha), fun j hj => ?_⟩))
    show (aw_sL s c k v).2.1 c j = v
    by_cases hjk : j = k
    · subst hjk; exact ao_sL_s _ _ _ _
    · rw [ao_sL_i hjk]; exact hv j (by omega)
  · rintro ⟨x, s⟩ ⟨e1, h1, h2, h3, hv⟩
    have e1 : x = nI n := e1
    subst e1
    show ao_ok (m_Ar_fillJ_B6 s c v (nI n) n (nI n)) _
    unfold m_Ar_fillJ_B6
    rw [if_pos (nI_le (Nat.le_refl _) hn)]
    exact ao_inl (ao_some ⟨h1, h2, h3, hv⟩)
theorem ag_ov_s {s t : aw_S} {n : Nat} {lo hi : Int64} (h59 : t.2.1 59 n = lo) (h60 : t.2.1 60 n = hi) (v : Nat) : ag_ov t v n ↔ if v < 64 then aL_t lo v else aL_t hi (v - 64) := by unfold ag_ov; rw [h59, h60]
set_option maxHeartbeats 4000000 in
theorem ag_narrow {σ : aw_S} {Γ : ag_T} (hw : ag_wf Γ) (h : ag_A σ Γ) {n : Nat} (hn : n < ag_N Γ) : ao_ok (m_Lo_narrowsAt σ (nI n)) (fun r => ag_lo σ r.2 ∧ (∀ m, m ≠ n → r.2.2.1 59 m = σ.2.1 59 m ∧ r.2.2.1 60 m = σ.2.1 60 m) ∧ (∀ v, v < 128 → (ag_ov r.2 v n ↔ ao_fOV (ag_N Γ) (ag_nx Γ) v (ag_ov σ v) n)) ∧ (r.1 = 0 ∨ r.1 = 1) ∧ (r.1 = 0 → r.2.2.1 59 n = σ.2.1 59 n ∧ r.2.2.1 60 n = σ.2.1 60 n)) := by
  have hN := hw.1.1
  have hL := ao_nb_len (ag_N Γ) (ag_nx Γ) 0 n
  have eL : ao_nb (ag_N Γ) (ag_nx Γ) 0 n = ao_pl (ag_N Γ) (ag_nx Γ) n := by unfold ao_nb; rw [if_pos rfl]
  rw [eL] at hL
  have fin : ∀ (lo hi : Int64) (k0 : Int32), (∀ v, v < 128 → ((if v < 64 then aL_t lo v else aL_t hi (v - 64)) ↔ ao_fOV (ag_N Γ) (ag_nx Γ) v (ag_ov σ v) n)) → (k0 = 0 ∨ k0 = 1) → (k0 = 0 → lo = σ.2.1 59 n ∧ hi = σ.2.1 60 n) → ao_ok (m_Lo_narrowsAt_J156 σ (nI n) lo hi k0) (fun r => ag_lo σ r.2 ∧ (∀ m, m ≠ n → r.2.2.1 59 m = σ.2.1 59 m ∧ r.2.2.1 60 m = σ.2.1 60 m) ∧ (∀ v, v < 128 → (ag_ov r.2 v n ↔ ao_fOV (ag_N Γ) (ag_nx Γ) v (ag_ov σ v) n)) ∧ (r.1 = 0 ∨ r.1 = 1) ∧ (r.1 = 0 → r.2.2.1 59 n = σ.2.1 59 n ∧ r.2.2.1 60 n = σ.2.1 60 n)) := by
    intro lo hi k0 hv hk h0
    unfold m_Lo_narrowsAt_J156
    rw [ao_gdn (by omega) (by omega), nI_clamp (by omega)]
    refine ao_let ?_
    rw [ao_gdn (by omega) (by omega)]
    have e59 : (aw_sL (aw_sL σ 59 n lo) 60 n hi).2.1 59 n = lo := by rw [ao_sL_o (by decide), ao_sL_s]
    have e60 : (aw_sL (aw_sL σ 59 n lo) 60 n hi).2.1 60 n = hi := ao_sL_s _ _ _ _
    refine ao_let (ao_gd hk (ao_some ⟨⟨rfl, rfl, fun c h1 h2 => (ao_sL_o h2).trans (ao_sL_o h1)⟩, fun m hm => ⟨?_, ?_⟩, fun v hv' => (ag_ov_s (s := σ) e59 e60 v).trans (hv v hv'), hk, fun q => ⟨e59.trans (h0 q).1, e60.trans (h0 q).2⟩⟩))
    · show (aw_sL (aw_sL σ 59 n lo) 60 n hi).2.1 59 m = _
      rw [ao_sL_i hm, ao_sL_i hm]
    · show (aw_sL (aw_sL σ 59 n lo) 60 n hi).2.1 60 m = _
      rw [ao_sL_i hm, ao_sL_i hm]
  have key : ∀ k0 : Int64, (∀ v, v < 64 → (aL_t k0 v ↔ n ≠ 0)) → ao_ok (m_Lo_narrowsAt_J11 σ (nI n) k0) (fun r => ag_lo σ r.2 ∧ (∀ m, m ≠ n → r.2.2.1 59 m = σ.2.1 59 m ∧ r.2.2.1 60 m = σ.2.1 60 m) ∧ (∀ v, v < 128 → (ag_ov r.2 v n ↔ ao_fOV (ag_N Γ) (ag_nx Γ) v (ag_ov σ v) n)) ∧ (r.1 = 0 ∨ r.1 = 1) ∧ (r.1 = 0 → r.2.2.1 59 n = σ.2.1 59 n ∧ r.2.2.1 60 n = σ.2.1 60 n)) := by
    intro k0 hk0
    unfold m_Lo_narrowsAt_J11
    refine ao_bd (ao_imp (ao_for (Q := fun (r : Int64 × Int64) => (∀ v, v < 64 → (aL_t r.1 v ↔ n ≠ 0 ∧ ∀ p, p ∈ ao_pl (ag_N Γ) (ag_nx Γ) n → aL_t (σ.2.1 59 p) v)) ∧ (∀ v, v < 64 → (aL_t r.2 v ↔ n ≠ 0 ∧ ∀ p, p ∈ ao_pl (ag_N Γ) (ag_nx Γ) n → aL_t (σ.2.1 60 p) v))) (ao_pl (ag_N Γ) (ag_nx Γ) n).length (fun j (t : Int64 × Int64 × Int32) => t.2.2 = nI j ∧ (∀ v, v < 64 → (aL_t t.1 v ↔ n ≠ 0 ∧ ∀ i p, i < j → (ao_pl (ag_N Γ) (ag_nx Γ) n)[i]? = some p → aL_t (σ.2.1 59 p) v)) ∧ (∀ v, v < 64 → (aL_t t.2.1 v ↔ n ≠ 0 ∧ ∀ i p, i < j → (ao_pl (ag_N Γ) (ag_nx Γ) n)[i]? = some p → aL_t (σ.2.1 60 p) v))) (a := 0) ⟨rfl, fun v hv => (hk0 v hv).trans ⟨fun q => ⟨q, fun i p hi => absurd hi (Nat.not_lt_zero _)⟩, fun q => q.1⟩, fun v hv => (hk0 v hv).trans ⟨fun q => ⟨q, fun i p hi => absurd hi (Nat.not_lt_zero _)⟩, fun q => q.1⟩⟩ (Nat.zero_le _) (by omega) ?_ ?_) ?_)
    · rintro j ⟨v3, v5, v7⟩ hj ⟨e2, hi1, hi2⟩
      have e2 : v7 = nI j := e2
      subst e2
      show ao_ok (m_Lo_narrowsAt_B18 σ (nI n) v3 v5 (nI j)) _
      obtain ⟨p, hp⟩ : ∃ p, (ao_pl (ag_N Γ) (ag_nx Γ) n)[j]? = some p := ⟨_, List.getElem?_eq_getElem hj⟩
      have hpN := (ao_pl_mem.mp (List.mem_of_getElem? hp)).1
      have step : ∀ (x : Int64) (c : Nat) (y : Int64), (∀ v, v < 64 → (aL_t x v ↔ n ≠ 0 ∧ ∀ i p, i < j → (ao_pl (ag_N Γ) (ag_nx Γ) n)[i]? = some p → aL_t (σ.2.1 c p) v)) → y = σ.2.1 c p → ∀ v, v < 64 → (aL_t (x &&& y) v ↔ n ≠ 0 ∧ ∀ i p, i < j + 1 → (ao_pl (ag_N Γ) (ag_nx Γ) n)[i]? = some p → aL_t (σ.2.1 c p) v) := by
        intro x c y hx hy v hv
        rw [aL_and, hx v hv, hy]
        refine ⟨fun q => ⟨q.1.1, fun i p' hi' q1 => ?_⟩, fun q => ⟨⟨q.1, fun i p' hi' q1 => q.2 i p' (by omega) q1⟩, q.2 j p (by omega) hp⟩⟩
        by_cases hij : i = j
        · subst hij
          rw [hp] at q1
          cases q1
          exact q.2
        · exact q.1.2 i p' (by omega) q1
      unfold m_Lo_narrowsAt_B18
      refine ao_bde (ao_comes h.1 hn) (ao_ifn (nI_ge hj (by omega)) (ao_bde (ao_before h.1 hn hp) (ao_bde (ao_isNode h.1.2.1 hN hpN) (ao_ifn (by decide) ?_))))
      rw [ao_gdn (by omega) (by omega), nI_clamp (by omega)]
      unfold m_Lo_narrowsAt_J58
      refine ao_let (ao_bde (ao_isNode h.1.2.1 hN hpN) (ao_ifn (by decide) ?_))
      rw [ao_gdn (by omega) (by omega), nI_clamp (by omega)]
      unfold m_Lo_narrowsAt_J82
      exact ao_let (ao_let (ao_inr ⟨nI_1 j, step v3 59 _ hi1 rfl, step v5 60 _ hi2 rfl⟩))
    · rintro ⟨v3, v5, v7⟩ ⟨e2, hi1, hi2⟩
      have e2 : v7 = nI _ := e2
      subst e2
      show ao_ok (m_Lo_narrowsAt_B18 σ (nI n) v3 v5 (nI _)) _
      have cv : ∀ c v, (∀ i p, i < (ao_pl (ag_N Γ) (ag_nx Γ) n).length → (ao_pl (ag_N Γ) (ag_nx Γ) n)[i]? = some p → aL_t (σ.2.1 c p) v) ↔ ∀ p, p ∈ ao_pl (ag_N Γ) (ag_nx Γ) n → aL_t (σ.2.1 c p) v := by
        intro c v
        refine ⟨fun q p hp => ?_, fun q i p _ hp => q p (List.mem_of_getElem? hp)⟩
        obtain ⟨i, hi⟩ := List.getElem?_of_mem hp
        exact q i p (List.getElem?_eq_some_iff.mp hi).1 hi
      unfold m_Lo_narrowsAt_B18
      refine ao_bde (ao_comes h.1 hn) (ao_ifp (nI_le (Nat.le_refl _) (by omega)) (ao_inl ⟨fun v hv => (hi1 v hv).trans (and_congr Iff.rfl (cv 59 v)), fun v hv => (hi2 v hv).trans (and_congr Iff.rfl (cv 60 v))⟩))
    · rintro ⟨x, y⟩ ⟨hx, hy⟩
      have hx : ∀ v, v < 64 → (aL_t x v ↔ n ≠ 0 ∧ ∀ p, p ∈ ao_pl (ag_N Γ) (ag_nx Γ) n → aL_t (σ.2.1 59 p) v) := hx
      have hy : ∀ v, v < 64 → (aL_t y v ↔ n ≠ 0 ∧ ∀ p, p ∈ ao_pl (ag_N Γ) (ag_nx Γ) n → aL_t (σ.2.1 60 p) v) := hy
      have last : ∀ a b : Int64, (∀ v, v < 64 → (aL_t a v ↔ v = n)) → (∀ v, v < 64 → (aL_t b v ↔ v + 64 = n)) → ao_ok (m_Lo_narrowsAt_J125 σ (nI n) (x ||| a) y b) (fun r => ag_lo σ r.2 ∧ (∀ m, m ≠ n → r.2.2.1 59 m = σ.2.1 59 m ∧ r.2.2.1 60 m = σ.2.1 60 m) ∧ (∀ v, v < 128 → (ag_ov r.2 v n ↔ ao_fOV (ag_N Γ) (ag_nx Γ) v (ag_ov σ v) n)) ∧ (r.1 = 0 ∨ r.1 = 1) ∧ (r.1 = 0 → r.2.2.1 59 n = σ.2.1 59 n ∧ r.2.2.1 60 n = σ.2.1 60 n)) := by
        intro a b ha hb
        have hv : ∀ v, v < 128 → ((if v < 64 then aL_t (x ||| a) v else aL_t (y ||| b) (v - 64)) ↔ ao_fOV (ag_N Γ) (ag_nx Γ) v (ag_ov σ v) n) := by
          intro v hv
          unfold ao_fOV
          by_cases q : v < 64
          · rw [if_pos q, aL_or, hx v q, ha v q, or_comm]
            refine or_congr ⟨fun z => z.symm, fun z => z.symm⟩ (and_congr Iff.rfl ⟨fun z p hp hed => ?_, fun z p hp => ?_⟩)
            · unfold ag_ov; rw [if_pos q]; exact z p (ao_pl_mem.mpr ⟨hp, hed⟩)
            · have := z p (ao_pl_mem.mp hp).1 (ao_pl_mem.mp hp).2
              unfold ag_ov at this; rw [if_pos q] at this; exact this
          · rw [if_neg q, aL_or, hy _ (by omega), hb _ (by omega), or_comm]
            refine or_congr ⟨fun z => by omega, fun z => by omega⟩ (and_congr Iff.rfl ⟨fun z p hp hed => ?_, fun z p hp => ?_⟩)
            · unfold ag_ov; rw [if_neg q]; exact z p (ao_pl_mem.mpr ⟨hp, hed⟩)
            · have := z p (ao_pl_mem.mp hp).1 (ao_pl_mem.mp hp).2
              unfold ag_ov at this; rw [if_neg q] at this; exact this
        unfold m_Lo_narrowsAt_J125
        refine ao_let ?_
        rw [ao_gdn (by omega) (by omega), nI_clamp (by omega)]
        refine ao_if (fun q1 => ?_) (fun q1 => fin _ _ 1 hv (Or.inr rfl) (fun z => absurd z (by decide)))
        rw [ao_gdn (by omega) (by omega)]
        refine ao_if (fun q2 => fin _ _ 0 hv (Or.inl rfl) (fun _ => ⟨(lg_cmp_eq _ _).mp q1, (lg_cmp_eq _ _).mp q2⟩)) (fun q2 => fin _ _ 1 hv (Or.inr rfl) (fun z => absurd z (by decide)))
      by_cases q : n < 64
      · refine ao_ifn (show ¬ (64 : Int32) ≤ nI n from nI_ge (b := 64) q (by omega)) ?_
        unfold m_Lo_narrowsAt_J105
        refine ao_let (ao_ifn (show ¬ (64 : Int32) ≤ nI n from nI_ge (b := 64) q (by omega)) (last _ _ (fun v hv => aL_one q hv) (fun v hv => ⟨fun z => absurd z aL_0, fun z => by omega⟩)))
      · refine ao_ifp (show (64 : Int32) ≤ nI n from nI_le (a := 64) (by omega) (by omega)) ?_
        unfold m_Lo_narrowsAt_J105
        refine ao_let (ao_ifp (show (64 : Int32) ≤ nI n from nI_le (a := 64) (by omega) (by omega)) (last _ _ (fun v hv => ⟨fun z => absurd z aL_0, fun z => by omega⟩) (fun v hv => ?_)))
        rw [show (64 : Int32) = nI 64 from rfl, pk_sub (by omega), aL_one (by omega) hv]
        omega
  unfold m_Lo_narrowsAt
  refine ao_if (fun q => ?_) (fun q => ?_)
  · have h0 : n = 0 := (nI_eq (by omega) (by omega)).mp (q.trans nI_0.symm)
    exact key 0 (fun v hv => ⟨fun z => absurd z aL_0, fun z => absurd h0 z⟩)
  · exact key (-1) (fun v hv => ⟨fun _ z => q (by rw [z]; rfl), fun _ => aL_m1 hv⟩)

/-! ===== OTHERS: all sets ===== -/
def ot_pc (n : Nat) : Nat → Nat
  | 0 => 0
  | k + 1 => ot_pc n k + n / 2 ^ k % 2
theorem ot_pc_n (n : Nat) : ∀ k, k ≤ 32 → ao_n (ao_t (nI n)) k = ot_pc n k := by
  intro k
  induction k with
  | zero => intro _; rfl
  | succ k ih =>
    intro hk
    rw [ap_n_s (by omega), ih (by omega)]
    rfl
theorem ot_kern' : ∀ a, a < 64 → ∀ b, b < 64 → 64 * a + b ≠ 0 → ot_pc ((64 * a + b) &&& (64 * a + b - 1)) 32 + 1 = ot_pc (64 * a + b) 32 := by decide +kernel
theorem ot_kern {n : Nat} (h : n < 4096) (h0 : n ≠ 0) : ot_pc (n &&& (n - 1)) 32 + 1 = ot_pc n 32 := by
  have := ot_kern' (n / 64) (by omega) (n % 64) (by omega)
  rw [show 64 * (n / 64) + n % 64 = n by omega] at this
  exact this h0
theorem ot_pc_le (n : Nat) : ∀ k, ot_pc n k ≤ k := by
  intro k
  induction k with
  | zero => exact Nat.le_refl _
  | succ k ih => show ot_pc n k + n / 2 ^ k % 2 ≤ k + 1; omega
theorem ot_bits (s : aw_S) {n : Nat} (hn : n < 4096) : m_Rf_bits s (nI n) = some (nI (ot_pc n 32)) := by
  unfold m_Rf_bits
  have key : ao_ok (aw_lp (fun t => m_Rf_bits_B4 s t.1 t.2) aw_fu ((0 : Int32), nI n)) (fun r => r = nI (ot_pc n 32)) := by
    refine ao_lpu (fun t => ∃ m c, m < 4096 ∧ t.1 = nI c ∧ t.2 = nI m ∧ c + ot_pc m 32 = ot_pc n 32) (fun t => ao_n (ao_t t.2) 32) ⟨n, 0, hn, rfl, rfl, by omega⟩ (by show ao_n (ao_t (nI n)) 32 < _; have := ao_n_le (ao_t (nI n)) 32; omega) ?_
    rintro ⟨v, w⟩ ⟨m, c, hm, e1, e2, h⟩
    have e1 : v = nI c := e1
    have e2 : w = nI m := e2
    subst e1
    subst e2
    show ao_ok (m_Rf_bits_B4 s (nI c) (nI m)) _
    unfold m_Rf_bits_B4
    by_cases q : m = 0
    · subst q
      rw [if_pos (show nI 0 = 0 from rfl)]
      refine ao_inl ?_
      have z : ot_pc 0 32 = 0 := by decide
      show nI c = nI (ot_pc n 32)
      rw [← h, z]
      rfl
    · have K := ot_kern hm q
      obtain ⟨p, rfl⟩ : ∃ p, m = p + 1 := ⟨m - 1, by omega⟩
      rw [if_neg (show ¬ nI (p + 1) = 0 from fun z => q ((nI_eq (by omega) (b := 0) (by omega)).mp z)), ao_ltr, ao_ltr, nI_1, nI_pred, nx_andI]
      rw [Nat.add_sub_cancel] at K
      have hle : (p + 1) &&& p ≤ p + 1 := Nat.and_le_left
      refine ao_inr ⟨⟨(p + 1) &&& p, c + 1, by omega, rfl, rfl, by omega⟩, ?_⟩
      show ao_n (ao_t (nI ((p + 1) &&& p))) 32 < ao_n (ao_t (nI (p + 1))) 32
      rw [ot_pc_n _ 32 (by omega), ot_pc_n _ 32 (by omega)]
      omega
  obtain ⟨r, e, h⟩ := key
  rw [aw_bd_s e, h]
theorem ot_pow : ∀ N, N < 13 → ((1 : Int32) <<< (nI N &&& 31)) = nI (2 ^ N) ∧ 2 ^ N ≤ 4096 := by decide +kernel
theorem ot_below {k N i : Nat} (hk : k < 2 ^ N) (hi : i < 32) (h : ao_t (nI k) i) : i < N := by
  have h := (ap_bt hi).mp h
  by_cases q : i < N
  · exact q
  · have : 2 ^ N ≤ 2 ^ i := Nat.pow_le_pow_right (by omega) (by omega)
    rw [Nat.div_eq_of_lt (by omega)] at h
    omega
def ot_les (a b : Int32) : Int32 := if a = -1 then b else aw_mn a b
noncomputable def ot_sp (Γ : ag_T) (e : Nat) (k : Nat) (s : Int32 × Int32 × Int32 × Int32) : Int32 × Int32 × Int32 × Int32 :=
  @ite _ (ot_RIB Γ e (ao_t (nI k))) (Classical.propDecidable _) (@ite _ (ot_FW Γ e (nI k)) (Classical.propDecidable _) (s.1 + 1, s.2.1 + 1, ot_les s.2.2.1 (nI (ao_n (ot_LF Γ e (ao_t (nI k))) (ag_N Γ))), ot_les s.2.2.2 (nI (ot_pc k 32))) (s.1 + 1, s.2.1, s.2.2.1, s.2.2.2)) s
noncomputable def ot_st (Γ : ag_T) (e : Nat) : Nat → Int32 × Int32 × Int32 × Int32
  | 0 => (0, 0, -1, -1)
  | k + 1 => ot_sp Γ e k (ot_st Γ e k)
theorem ot_sp1 {Γ : ag_T} {e k : Nat} {s : Int32 × Int32 × Int32 × Int32} (h1 : ot_RIB Γ e (ao_t (nI k))) (h2 : ot_FW Γ e (nI k)) : ot_sp Γ e k s = (s.1 + 1, s.2.1 + 1, ot_les s.2.2.1 (nI (ao_n (ot_LF Γ e (ao_t (nI k))) (ag_N Γ))), ot_les s.2.2.2 (nI (ot_pc k 32))) := by unfold ot_sp; rw [if_pos h1, if_pos h2]
theorem ot_sp2 {Γ : ag_T} {e k : Nat} {s : Int32 × Int32 × Int32 × Int32} (h1 : ot_RIB Γ e (ao_t (nI k))) (h2 : ¬ ot_FW Γ e (nI k)) : ot_sp Γ e k s = (s.1 + 1, s.2.1, s.2.2.1, s.2.2.2) := by unfold ot_sp; rw [if_pos h1, if_neg h2]
theorem ot_sp3 {Γ : ag_T} {e k : Nat} {s : Int32 × Int32 × Int32 × Int32} (h1 : ¬ ot_RIB Γ e (ao_t (nI k))) : ot_sp Γ e k s = s := by unfold ot_sp; rw [if_neg h1]
noncomputable def ot_v (Γ : ag_T) (e : Nat) (j : Nat) : Int32 := match j with
  | 0 => (ot_st Γ e (2 ^ ag_N Γ)).1
  | 1 => (ot_st Γ e (2 ^ ag_N Γ)).2.1
  | 2 => (ot_st Γ e (2 ^ ag_N Γ)).2.2.1
  | _ => (ot_st Γ e (2 ^ ag_N Γ)).2.2.2
/-! the class -/
set_option maxHeartbeats 2000000 in
theorem ot_tryA {σ : aw_S} {Γ : ag_T} {e : Nat} (G : ag_wf Γ) (T : ot_T σ Γ e) (hN : ag_N Γ ≤ 12) {w : Nat} (hw : w ≠ 135) : ao_ok (m_Ot_tryAll σ w) (fun s => s.2 = σ.2 ∧ (∀ c, c ≠ 135 → c ≠ w → s.1 c = σ.1 c) ∧ ∀ j, j < 4 → s.1 w j = ot_v Γ e j) := by
  have hT : ao_tp (ag_N Γ) (ag_nx Γ) := G.1
  obtain ⟨pw, pl⟩ := ot_pow (ag_N Γ) (by omega)
  unfold m_Ot_tryAll
  refine ao_bd (ao_imp (ao_for (Q := fun z => (z.1, z.2.1, z.2.2.1, z.2.2.2.1) = ot_st Γ e (2 ^ ag_N Γ) ∧ ot_q σ z.2.2.2.2) (2 ^ ag_N Γ) (fun k (t : Int32 × Int32 × Int32 × Int32 × Int32 × aw_S) => t.2.2.2.2.1 = nI k ∧ (t.1, t.2.1, t.2.2.1, t.2.2.2.1) = ot_st Γ e k ∧ ot_q σ t.2.2.2.2.2) (a := 0) ⟨rfl, rfl, rfl, fun _ _ => rfl⟩ (Nat.zero_le _) (by omega) ?_ ?_) ?_)
  · rintro k ⟨a, b, c, d, v, s⟩ hk ⟨e1, e2, y⟩
    have e1 : v = nI k := e1
    subst e1
    have e2 : (a, b, c, d) = ot_st Γ e k := e2
    have y : ot_q σ s := y
    have Ts := ot_q_T y T
    show ao_ok (m_Ot_tryAll_B13 s w a b c d (nI k)) _
    have fin : ∀ {a' b' c' d' s'}, (a', b', c', d') = ot_st Γ e (k + 1) → ot_q σ s' → ao_ok (m_Ot_tryAll_J85 s' w a' b' c' d' (nI k)) (Sum.elim (fun z => (z.1, z.2.1, z.2.2.1, z.2.2.2.1) = ot_st Γ e (2 ^ ag_N Γ) ∧ ot_q σ z.2.2.2.2) (fun (t : Int32 × Int32 × Int32 × Int32 × Int32 × aw_S) => t.2.2.2.2.1 = nI (k + 1) ∧ (t.1, t.2.1, t.2.2.1, t.2.2.2.1) = ot_st Γ e (k + 1) ∧ ot_q σ t.2.2.2.2.2)) := by
      intro a' b' c' d' s' h1 h2
      unfold m_Ot_tryAll_J85
      rw [ao_ltr, nI_1]
      exact ao_inr ⟨rfl, h1, h2⟩
    have nxt : ot_st Γ e (k + 1) = ot_sp Γ e k (a, b, c, d) := by rw [e2]; rfl
    unfold m_Ot_tryAll_B13
    rw [Ts.1.1, pw, if_neg (nI_ge hk (by omega))]
    have hz : (nI k &&& (s.1 105 10 ^^^ (-1 : Int32))) = 0 ↔ ∀ n, n < ag_N Γ → ao_t (nI k) n → ag_F Γ e 2 n := by
      rw [ao_t_nz]
      refine ⟨fun z n hn h => Classical.byContradiction fun q => z n (by omega) (ao_t_and.mpr ⟨h, (ao_t_not (by omega)).mpr (fun u => q ((Ts.2.2.2.1 n (by omega)).mp u).2)⟩), fun z i hi q => ?_⟩
      obtain ⟨q1, q2⟩ := ao_t_and.mp q
      have hiN := ot_below hk hi q1
      exact (ao_t_not hi).mp q2 ((Ts.2.2.2.1 i hi).mpr ⟨hiN, z i hiN q1⟩)
    by_cases q : (nI k &&& (s.1 105 10 ^^^ (-1 : Int32))) = 0
    · rw [if_pos q, aw_bd_s (ot_rightA hN Ts (nI k))]
      by_cases q1 : ot_RI Γ e (ao_t (nI k))
      · have R : ot_RIB Γ e (ao_t (nI k)) := ⟨hz.mp q, q1⟩
        rw [ao_b1 q1, if_neg ao_n10, ao_ltr]
        obtain ⟨⟨r8, s10⟩, ef, er, yr⟩ := ot_fewA G Ts hN (nI k)
        have y10 : ot_q σ s10 := ⟨yr.1.trans y.1, fun c hc => (yr.2 c hc).trans (y.2 c hc)⟩
        rw [aw_bd2_s ef, show r8 = _ from er]
        by_cases q2 : ot_FW Γ e (nI k)
        · rw [ao_b1 q2, if_neg ao_n10, ao_ltr, aw_bd_s (ot_lifeA hT hN (ot_q_T y10 T) (nI k))]
          have les : ∀ S p0 p1, m_Ot_lesser S p0 p1 = some (ot_les p0 p1) := fun S p0 p1 => by
            unfold m_Ot_lesser ot_les
            by_cases z : p0 = -1
            · rw [if_pos z, if_pos z]
            · rw [if_neg z, if_neg z]
          rw [aw_bd_s (les _ _ _), aw_bd_s (ap_bitCount _ _), aw_bd_s (les _ _ _), ot_pc_n k 32 (by omega)]
          exact fin (by rw [nxt, ot_sp1 R q2]) y10
        · rw [ao_b0 q2, if_pos rfl]
          exact fin (by rw [nxt, ot_sp2 R q2]) y10
      · rw [ao_b0 q1, if_pos rfl]
        exact fin (by rw [nxt, ot_sp3 (fun z => q1 z.2)]) y
    · rw [if_neg q]
      exact fin (by rw [nxt, ot_sp3 (fun z => q (hz.mpr z.1))]) y
  · rintro ⟨a, b, c, d, v, s⟩ ⟨e1, e2, y⟩
    have e1 : v = nI (2 ^ ag_N Γ) := e1
    subst e1
    show ao_ok (m_Ot_tryAll_B13 s w a b c d (nI (2 ^ ag_N Γ))) _
    unfold m_Ot_tryAll_B13
    rw [show s.1 105 7 = nI (ag_N Γ) from (ot_q_T y T).1.1, pw, if_pos (nI_le (Nat.le_refl _) (by omega))]
    exact ao_inl ⟨e2, y⟩
  · rintro ⟨a, b, c, d, s⟩ ⟨e2, y⟩
    have e2 : (a, b, c, d) = ot_st Γ e (2 ^ ag_N Γ) := e2
    have y : ot_q σ s := y
    have g : ∀ j, j < 4 → ∀ {α : Type} (z : Option α), aw_gd (vp_in (nI j) 4) z = z := fun j hj _ z => ao_gdn hj (by omega)
    have g0 : ∀ {α : Type} (z : Option α), aw_gd (vp_in (0 : Int32) 4) z = z := g 0 (by omega)
    have g1 : ∀ {α : Type} (z : Option α), aw_gd (vp_in (1 : Int32) 4) z = z := g 1 (by omega)
    have g2 : ∀ {α : Type} (z : Option α), aw_gd (vp_in (2 : Int32) 4) z = z := g 2 (by omega)
    have g3 : ∀ {α : Type} (z : Option α), aw_gd (vp_in (3 : Int32) 4) z = z := g 3 (by omega)
    rw [g0, ao_ltr, g1, ao_ltr, g2, ao_ltr, g3, ao_ltr]
    show ao_ok (some (aw_sI (aw_sI (aw_sI (aw_sI s w 0 a) w 1 b) w 2 c) w 3 d)) _
    refine ao_some ⟨y.1, fun x h1 h2 => by rw [ao_sI_o h2, ao_sI_o h2, ao_sI_o h2, ao_sI_o h2]; exact y.2 x h1, fun j hj => ?_⟩
    rcases (show j = 0 ∨ j = 1 ∨ j = 2 ∨ j = 3 by omega) with rfl | rfl | rfl | rfl
    · rw [ao_sI_i (by omega), ao_sI_i (by omega), ao_sI_i (by omega), ao_sI_s]; show a = (ot_st Γ e (2 ^ ag_N Γ)).1; rw [← e2]
    · rw [ao_sI_i (by omega), ao_sI_i (by omega), ao_sI_s]; show b = (ot_st Γ e (2 ^ ag_N Γ)).2.1; rw [← e2]
    · rw [ao_sI_i (by omega), ao_sI_s]; show c = (ot_st Γ e (2 ^ ag_N Γ)).2.2.1; rw [← e2]
    · rw [ao_sI_s]; show d = (ot_st Γ e (2 ^ ag_N Γ)).2.2.2; rw [← e2]
/-! the reference -/
set_option maxHeartbeats 2000000 in
theorem ot_tryB {b σ : aw_S} {Γ : ag_T} {e : Nat} (G : ag_wf Γ) (B : ag_BA b Γ) (hz : ot_z b σ) (he : e < ag_X Γ) (hN : ag_N Γ ≤ 12) (x : Int32) : ao_ok (aw_lp (fun s => m_Rf_others_B50 s.2.2.2.2.2 (nI e) x s.1 s.2.1 s.2.2.1 s.2.2.2.1 s.2.2.2.2.1) aw_fu ((0 : Int32), (0 : Int32), (-1 : Int32), (-1 : Int32), (0 : Int32), σ)) (fun z => (z.1, z.2.1, z.2.2.1, z.2.2.2.1) = ot_st Γ e (2 ^ ag_N Γ) ∧ ot_z b z.2.2.2.2) := by
  have cN : ∀ {s : aw_S}, ot_z b s → s.1 0 14 = nI (ag_N Γ) := fun {s} hs => (ot_z_TB hs B.1.1).2.1
  obtain ⟨pw, pl⟩ := ot_pow (ag_N Γ) (by omega)
  refine ao_for (2 ^ ag_N Γ) (fun k (t : Int32 × Int32 × Int32 × Int32 × Int32 × aw_S) => t.2.2.2.2.1 = nI k ∧ (t.1, t.2.1, t.2.2.1, t.2.2.2.1) = ot_st Γ e k ∧ ot_z b t.2.2.2.2.2) (a := 0) ⟨rfl, rfl, hz⟩ (Nat.zero_le _) (by omega) ?_ ?_
  · rintro k ⟨a, b', c, d, v, s⟩ hk ⟨e1, e2, y⟩
    have e1 : v = nI k := e1
    subst e1
    have e2 : (a, b', c, d) = ot_st Γ e k := e2
    have y : ot_z b s := y
    show ao_ok (m_Rf_others_B50 s (nI e) x a b' c d (nI k)) _
    have fin : ∀ {a' b'' c' d' s'}, (a', b'', c', d') = ot_st Γ e (k + 1) → ot_z b s' → ao_ok (m_Rf_others_J152 s' (nI e) x a' b'' c' d' (nI k)) (Sum.elim (fun z => (z.1, z.2.1, z.2.2.1, z.2.2.2.1) = ot_st Γ e (2 ^ ag_N Γ) ∧ ot_z b z.2.2.2.2) (fun (t : Int32 × Int32 × Int32 × Int32 × Int32 × aw_S) => t.2.2.2.2.1 = nI (k + 1) ∧ (t.1, t.2.1, t.2.2.1, t.2.2.2.1) = ot_st Γ e (k + 1) ∧ ot_z b t.2.2.2.2.2)) := by
      intro a' b'' c' d' s' h1 h2
      unfold m_Rf_others_J152
      rw [ao_ltr, nI_1]
      exact ao_inr ⟨rfl, h1, h2⟩
    have nxt : ot_st Γ e (k + 1) = ot_sp Γ e k (a, b', c, d) := by rw [e2]; rfl
    unfold m_Rf_others_B50
    rw [cN y, pw, if_neg (nI_ge hk (by omega))]
    obtain ⟨⟨r, s1⟩, E1, R1, Y1⟩ := ot_rightB G B y hN he (nI k)
    have Y1 : ot_z b s1 := Y1
    rw [aw_bd2_s E1, show r = _ from R1]
    by_cases q1 : ot_RIB Γ e (ao_t (nI k))
    · rw [ao_b1 q1, if_neg ao_n10, ao_ltr]
      obtain ⟨⟨r2, s2⟩, E2, R2, Y2⟩ := ot_fewB G B Y1 he hN (nI k)
      have Y2 : ot_z b s2 := Y2
      rw [aw_bd2_s E2, show r2 = _ from R2]
      by_cases q2 : ot_FW Γ e (nI k)
      · rw [ao_b1 q2, if_neg ao_n10, ao_ltr]
        obtain ⟨⟨r3, s3⟩, E3, R3, Y3⟩ := ot_lifeB G B Y2 hN he (nI k)
        have Y3 : ot_z b s3 := Y3
        have R3 : r3 = nI (ao_n (ot_LF Γ e (ao_t (nI k))) (ag_N Γ)) := R3
        rw [aw_bd2_s E3]
        have mn : ∀ p q : Int32, p ≤ q → aw_mn p q = p := fun p q h => by
          unfold aw_mn
          rw [if_neg (fun z => by
            have h := Int32.le_iff_toInt_le.mp h
            have z := Int32.lt_iff_toInt_lt.mp z
            omega)]
        have mn' : ∀ p q : Int32, ¬ p ≤ q → aw_mn p q = q := fun p q h => by
          unfold aw_mn
          rw [if_pos (Int32.lt_iff_toInt_lt.mpr (by have := mt Int32.le_iff_toInt_le.mpr h; omega))]
        have J122 : ∀ k0, ot_les c r3 = k0 → ao_ok (m_Rf_others_J122 s3 (nI e) x (a + 1) (b' + 1) d (nI k) k0) (Sum.elim (fun z => (z.1, z.2.1, z.2.2.1, z.2.2.2.1) = ot_st Γ e (2 ^ ag_N Γ) ∧ ot_z b z.2.2.2.2) (fun (t : Int32 × Int32 × Int32 × Int32 × Int32 × aw_S) => t.2.2.2.2.1 = nI (k + 1) ∧ (t.1, t.2.1, t.2.2.1, t.2.2.2.1) = ot_st Γ e (k + 1) ∧ ot_z b t.2.2.2.2.2)) := by
          intro k0 hk0
          have J152 : ∀ d', ot_les d (nI (ot_pc k 32)) = d' → ao_ok (m_Rf_others_J152 s3 (nI e) x (a + 1) (b' + 1) k0 d' (nI k)) (Sum.elim (fun z => (z.1, z.2.1, z.2.2.1, z.2.2.2.1) = ot_st Γ e (2 ^ ag_N Γ) ∧ ot_z b z.2.2.2.2) (fun (t : Int32 × Int32 × Int32 × Int32 × Int32 × aw_S) => t.2.2.2.2.1 = nI (k + 1) ∧ (t.1, t.2.1, t.2.2.1, t.2.2.2.1) = ot_st Γ e (k + 1) ∧ ot_z b t.2.2.2.2.2)) := fun d' hd' => fin (by rw [nxt, ot_sp1 q1 q2, ← hk0, ← hd', R3]) Y3
          unfold m_Rf_others_J122 m_Rf_others_J140 m_Rf_others_J150
          rw [aw_bd_s (ot_bits _ (by omega)), aw_bd_s (ot_bits _ (by omega))]
          by_cases z : d = -1
          · rw [if_pos z]
            exact J152 _ (by unfold ot_les; rw [if_pos z])
          · rw [if_neg z]
            by_cases u : d ≤ nI (ot_pc k 32)
            · rw [if_pos u]
              exact J152 _ (by unfold ot_les; rw [if_neg z, mn _ _ u])
            · rw [if_neg u]
              exact J152 _ (by unfold ot_les; rw [if_neg z, mn' _ _ u])
        unfold m_Rf_others_J115
        by_cases z : c = -1
        · rw [if_pos z]
          exact J122 _ (by unfold ot_les; rw [if_pos z])
        · rw [if_neg z]
          by_cases u : c ≤ r3
          · rw [if_pos u]
            exact J122 _ (by unfold ot_les; rw [if_neg z, mn _ _ u])
          · rw [if_neg u]
            exact J122 _ (by unfold ot_les; rw [if_neg z, mn' _ _ u])
      · rw [ao_b0 q2, if_pos rfl]
        exact fin (by rw [nxt, ot_sp2 q1 q2]) Y2
    · rw [ao_b0 q1, if_pos rfl]
      exact fin (by rw [nxt, ot_sp3 q1]) Y1
  · rintro ⟨a, b', c, d, v, s⟩ ⟨e1, e2, y⟩
    have e1 : v = nI (2 ^ ag_N Γ) := e1
    subst e1
    show ao_ok (m_Rf_others_B50 s (nI e) x a b' c d (nI (2 ^ ag_N Γ))) _
    unfold m_Rf_others_B50
    rw [cN y, pw, if_pos (nI_le (Nat.le_refl _) (by omega))]
    exact ao_inl ⟨e2, y⟩

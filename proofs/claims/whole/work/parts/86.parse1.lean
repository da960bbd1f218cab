/-! ===== THE PARSE: what is read so far; both hold it ===== -/
def pz_u {α : Type} (f : Nat → α) (i : Nat) (v : α) : Nat → α := fun j => if j = i then v else f j
theorem pz_u_s {α : Type} (f : Nat → α) (i : Nat) (v : α) : pz_u f i v i = v := if_pos rfl
theorem pz_u_i {α : Type} {f : Nat → α} {i j : Nat} {v : α} (h : j ≠ i) : pz_u f i v j = f j := if_neg h
/-- where it stands, what is read, where the targets stood -/
abbrev pz_Z : Type := Nat × ap_T × (Nat → Nat) × (Nat → Nat)
def pz_eok (Ψ : ap_T) (b : Nat) : Prop := (ap_ek Ψ b = 4 ∧ ap_ev Ψ b = none ∧ (∃ t, t < 100 ∧ ap_e1 Ψ b = some t) ∧ ap_e2 Ψ b = none) ∨ (ap_ek Ψ b = 5 ∧ (∃ v, v < 26 ∧ ap_ev Ψ b = some v) ∧ (∃ t, t < 100 ∧ ap_e1 Ψ b = some t) ∧ ∃ t, t < 100 ∧ ap_e2 Ψ b = some t) ∨ (ap_ek Ψ b = 6 ∧ ap_ev Ψ b = none ∧ ap_e1 Ψ b = none ∧ ap_e2 Ψ b = none)
def pz_pw (Ψ : ap_T) : Prop := ap_B Ψ ≤ 16 ∧ ap_S Ψ ≤ 60 ∧ ap_fr Ψ 0 = 0 ∧ (∀ b, b < ap_B Ψ → ap_fr Ψ b ≤ ap_fr Ψ (b + 1)) ∧ ap_fr Ψ (ap_B Ψ) ≤ ap_S Ψ ∧ (∀ s, s < ap_S Ψ → ap_sok Ψ s) ∧ (∀ b, b < ap_B Ψ → pz_eok Ψ b) ∧ ap_X Ψ ≤ 24 ∧ ∀ e, e < ap_X Ψ → ap_sg Ψ e ∈ ag_sgs ∧ ap_lf Ψ e < 1026 ∧ ap_rt Ψ e < 1026
def pz_wf (L : Nat) (z : pz_Z) : Prop := z.1 ≤ L ∧ pz_pw z.2.1 ∧ ∀ b, b < ap_B z.2.1 → z.2.2.1 b ≤ L ∧ z.2.2.2 b ≤ L
theorem pz_fr_le {Ψ : ap_T} (h : pz_pw Ψ) {b : Nat} (hb : b ≤ ap_B Ψ) : ap_fr Ψ b ≤ ap_S Ψ := by
  obtain ⟨h1, h2, h3, h4, h5, h6⟩ := h
  have key : ∀ d, d ≤ ap_B Ψ → ap_fr Ψ (ap_B Ψ - d) ≤ ap_S Ψ := by
    intro d
    induction d with
    | zero => intro _; exact h5
    | succ d ih =>
      intro hd
      have h7 := ih (by omega)
      have h8 := h4 (ap_B Ψ - (d + 1)) (by omega)
      rw [show ap_B Ψ - (d + 1) + 1 = ap_B Ψ - d by omega] at h8
      omega
  have := key (ap_B Ψ - b) (by omega)
  rwa [show ap_B Ψ - (ap_B Ψ - b) = b by omega] at this
/-! what the reading may move -/
def pz_yA (σ0 σ : aw_S) : Prop := σ.2 = σ0.2 ∧ ∀ k, k < 8 ∨ k = 9 ∨ k = 10 ∨ 23 < k → σ.1 k = σ0.1 k
def pz_yB (σ0 σ : aw_S) : Prop := σ.2 = σ0.2 ∧ (∀ k, k ≠ 0 → k ≠ 1 → k ≠ 3 → σ.1 k = σ0.1 k) ∧ (∀ j, j ≠ 3 → j ≠ 4 → j ≠ 5 → σ.1 0 j = σ0.1 0 j) ∧ ∀ j, j < 1360 → σ.1 1 j = σ0.1 1 j
/-- the class has read Ψ -/
def pz_Ac (σ0 : aw_S) (Ψ : ap_T) (q1 q2 : Nat → Nat) (σ : aw_S) : Prop :=
  pz_yA σ0 σ ∧ σ.1 8 15 = -1 ∧ σ.1 8 11 = nI (ap_S Ψ + ap_B Ψ) ∧ σ.1 8 12 = nI (ap_B Ψ) ∧ σ.1 11 3 = nI (ap_X Ψ) ∧
  (∀ b s, b ≤ ap_B Ψ → ap_fr Ψ b ≤ s → s < ap_S Ψ → (b < ap_B Ψ → s < ap_fr Ψ (b + 1)) → ap_rl σ Ψ (s + b) (b, some s)) ∧
  (∀ b, b < ap_B Ψ → ap_rl σ Ψ (ap_fr Ψ (b + 1) + b) (b, none) ∧ (ap_e1 Ψ b ≠ none → σ.1 22 (ap_fr Ψ (b + 1) + b) = nI (q1 b)) ∧ (ap_e2 Ψ b ≠ none → σ.1 23 (ap_fr Ψ (b + 1) + b) = nI (q2 b))) ∧
  ∀ e, e < ap_X Ψ → σ.1 12 e = nI (ap_sg Ψ e) ∧ σ.1 13 e = nI (ap_lf Ψ e) ∧ σ.1 14 e = nI (ap_rt Ψ e)
/-- the reference has read Ψ -/
def pz_Bc (σ0 : aw_S) (Ψ : ap_T) (q1 q2 : Nat → Nat) (σ : aw_S) : Prop :=
  pz_yB σ0 σ ∧ σ.1 0 4 = -1 ∧ ap_row σ 1360 Ψ ∧ ∀ b, b < ap_B Ψ → (ap_e1 Ψ b ≠ none → σ.1 3 (2 * b) = nI (q1 b)) ∧ (ap_e2 Ψ b ≠ none → σ.1 3 (2 * b + 1) = nI (q2 b))
def pz_A (σ0 : aw_S) (z : pz_Z) (σ : aw_S) : Prop := pz_Ac σ0 z.2.1 z.2.2.1 z.2.2.2 σ ∧ σ.1 8 14 = nI z.1 ∧ σ.1 8 13 = nI (ap_S z.2.1)
def pz_B (σ0 : aw_S) (z : pz_Z) (σ : aw_S) : Prop := pz_Bc σ0 z.2.1 z.2.2.1 z.2.2.2 σ ∧ σ.1 0 3 = nI z.1
/-- what a piece comes to, in the class, in the reference -/
def pz_oA (σ0 : aw_S) (o : Nat ⊕ pz_Z) (x : Int32 × aw_S) : Prop := match o with
  | .inl q => x.1 = 0 ∧ pz_yA σ0 x.2 ∧ x.2.1 8 15 = nI q
  | .inr z => x.1 = 1 ∧ pz_A σ0 z x.2
def pz_oB (σ0 : aw_S) (o : Nat ⊕ pz_Z) (x : Int32 × aw_S) : Prop := match o with
  | .inl q => x.1 = 0 ∧ pz_yB σ0 x.2 ∧ x.2.1 0 4 = nI q
  | .inr z => x.1 = 1 ∧ pz_B σ0 z x.2
def pz_ow (L p : Nat) (o : Nat ⊕ pz_Z) : Prop := match o with
  | .inl q => q ≤ L
  | .inr z => pz_wf L z ∧ p < z.1
theorem pz_Ac_fr {σ0 σ s : aw_S} {Ψ : ap_T} {q1 q2 : Nat → Nat} (h : pz_Ac σ0 Ψ q1 q2 σ) (e : s.2 = σ.2) (f : ∀ k, k ≠ 8 → s.1 k = σ.1 k) (g : ∀ j, j ≠ 13 → j ≠ 14 → s.1 8 j = σ.1 8 j) : pz_Ac σ0 Ψ q1 q2 s := by
  obtain ⟨⟨y1, y2⟩, h2⟩ := h
  refine ⟨⟨e.trans y1, fun k hk => (f k (by omega)).trans (y2 k hk)⟩, ?_⟩
  unfold ap_rl at h2 ⊢
  rw [f 11 (by omega), f 12 (by omega), f 13 (by omega), f 14 (by omega), f 15 (by omega), f 16 (by omega), f 17 (by omega), f 18 (by omega), f 19 (by omega), f 20 (by omega), f 21 (by omega), f 22 (by omega), f 23 (by omega), g 15 (by omega) (by omega), g 11 (by omega) (by omega), g 12 (by omega) (by omega)]
  exact h2
theorem pz_Ac_m {σ0 σ s : aw_S} {Ψ : ap_T} {q1 q2 : Nat → Nat} {p : Nat} (h : pz_Ac σ0 Ψ q1 q2 σ) (m : pz_mA σ p s) : pz_Ac σ0 Ψ q1 q2 s := pz_Ac_fr h m.1 m.2.1 (fun j _ hj => m.2.2.1 j hj)
theorem pz_Ac_f {σ0 σ s : aw_S} {Ψ : ap_T} {q1 q2 : Nat → Nat} {q : Nat} (h : pz_Ac σ0 Ψ q1 q2 σ) (m : pz_fA σ q s) : pz_yA σ0 s ∧ s.1 8 15 = nI q := ⟨⟨m.1.trans h.1.1, fun k hk => (m.2.1 k (by omega)).trans (h.1.2 k hk)⟩, m.2.2⟩
theorem pz_Bc_m {σ0 σ s : aw_S} {Ψ : ap_T} {q1 q2 : Nat → Nat} {p : Nat} (h : pz_Bc σ0 Ψ q1 q2 σ) (m : pz_mB σ p s) : pz_Bc σ0 Ψ q1 q2 s :=
  ⟨⟨m.1.trans h.1.1, fun k h1 h2 h3 => (m.2.1 k h1).trans (h.1.2.1 k h1 h2 h3), fun j h1 h2 h3 => (m.2.2.1 j h1 h3).trans (h.1.2.2.1 j h1 h2 h3), fun j hj => (congrFun (m.2.1 1 (by omega)) j).trans (h.1.2.2.2 j hj)⟩, (m.2.2.1 4 (by omega) (by omega)).trans h.2.1, ap_row_fr h.2.2.1 (m.2.1 1 (by omega)), fun b hb => by rw [m.2.1 3 (by omega)]; exact h.2.2.2 b hb⟩
theorem pz_Bc_f {σ0 σ s : aw_S} {Ψ : ap_T} {q1 q2 : Nat → Nat} {q : Nat} (h : pz_Bc σ0 Ψ q1 q2 σ) (m : pz_fB σ q s) : pz_yB σ0 s ∧ s.1 0 4 = nI q :=
  ⟨⟨m.1.trans h.1.1, fun k h1 h2 h3 => (m.2.1 k h1).trans (h.1.2.1 k h1 h2 h3), fun j h1 h2 h3 => (m.2.2.1 j h1 h2 h3).trans (h.1.2.2.1 j h1 h2 h3), fun j hj => (congrFun (m.2.1 1 (by omega)) j).trans (h.1.2.2.2 j hj)⟩, m.2.2.2⟩
theorem pz_TA_y {σ0 σ : aw_S} {L : Nat} {t : Nat → Nat} (h : pz_TA σ0 9 L t) (y : pz_yA σ0 σ) : pz_TA σ 9 L t := ⟨(congrFun (y.2 9 (by omega)) 1).trans h.1, fun i hi => by rw [y.2 (9 + 1) (by omega)]; exact h.2 i hi⟩
theorem pz_TB_y {σ0 σ : aw_S} {L : Nat} {t : Nat → Nat} (h : pz_TB σ0 L t) (y : pz_yB σ0 σ) : pz_TB σ L t := ⟨(y.2.2.1 2 (by omega) (by omega) (by omega)).trans h.1, fun i hi => by rw [y.2.1 2 (by omega) (by omega) (by omega)]; exact h.2 i hi⟩
/-! ===== a byte is taken ===== -/
theorem pz_o_eq {x : Option Nat} {c : Nat} (hx : ∀ c, x = some c → c < 256) (hc : c < 256) : ao_o x = nI c ↔ x = some c := ao_o_inj (t := x) (u := some c) (fun k hk => by have := hx k hk; omega) (fun k hk => by cases hk; omega)
theorem pz_take0A {σ : aw_S} {L p c : Nat} {t : Nat → Nat} (T : pz_T L t) (h : pz_TA σ 9 L t) (hp : p < 2 ^ 31) (ha : σ.1 8 14 = nI p) (hc : c < 256) : ao_ok (m_Re_take σ (nI c)) (fun x => (pz_h L t p = some c ∧ x.1 = 1 ∧ pz_mA σ (p + 1) x.2) ∨ (pz_h L t p ≠ some c ∧ x.1 = 0 ∧ pz_fA σ p x.2)) := by
  unfold m_Re_take
  rw [ha, aw_bd_s (pz_at T h hp)]
  by_cases q : pz_h L t p = some c
  · rw [if_pos ((pz_o_eq (pz_h_b T) hc).mpr q), nI_1]
    exact ao_let (ao_some (Or.inl ⟨q, rfl, pz_mA_1 (pz_mA_0 ha)⟩))
  · rw [if_neg (fun z => q ((pz_o_eq (pz_h_b T) hc).mp z))]
    unfold m_Re_refuse
    exact ao_bd2 (ao_let (ao_some (ao_gd (Or.inl rfl) (ao_some (Or.inr ⟨q, rfl, rfl, fun k hk => ao_sI_o hk, ao_sI_s _ _ _ _⟩)))))
theorem pz_take0B {σ : aw_S} {L p c : Nat} {t : Nat → Nat} (T : pz_T L t) (h : pz_TB σ L t) (hp : p < 2 ^ 31) (ha : σ.1 0 3 = nI p) (hc : c < 256) : ao_ok (m_Rf_takes σ (nI c)) (fun x => (pz_h L t p = some c ∧ x.1 = 1 ∧ pz_mB σ (p + 1) x.2) ∨ (pz_h L t p ≠ some c ∧ x.1 = 0 ∧ pz_fB σ p x.2)) := by
  unfold m_Rf_takes
  rw [aw_bd_s (pz_here T h ha hp), ha]
  by_cases q : pz_h L t p = some c
  · rw [if_pos ((pz_o_eq (pz_h_b T) hc).mpr q), nI_1]
    exact ao_let (ao_some (Or.inl ⟨q, rfl, pz_mB_3 (pz_mB_0 ha)⟩))
  · rw [if_neg (fun z => q ((pz_o_eq (pz_h_b T) hc).mp z))]
    unfold m_Rf_fails
    exact ao_bd2 (ao_let (ao_some (ao_gd (Or.inl rfl) (ao_some (Or.inr ⟨q, rfl, rfl, fun k hk => ao_sI_o hk, fun j _ hj _ => ao_sI_i hj, ao_sI_s _ _ _ _⟩)))))
/-- the byte c, and on -/
def pz_tk (L : Nat) (t : Nat → Nat) (c : Nat) (z : pz_Z) : Nat ⊕ pz_Z := if pz_h L t z.1 = some c then .inr (z.1 + 1, z.2) else .inl z.1
theorem pz_tk_w {L : Nat} {t : Nat → Nat} (T : pz_T L t) {c : Nat} {z : pz_Z} (hw : pz_wf L z) {p : Nat} (hp : p ≤ z.1) : pz_ow L p (pz_tk L t c z) := by
  unfold pz_tk
  by_cases q : pz_h L t z.1 = some c
  · rw [if_pos q]
    have := (pz_h_some T q).1
    exact ⟨⟨by show z.1 + 1 ≤ L; omega, hw.2⟩, by show p < z.1 + 1; omega⟩
  · rw [if_neg q]
    exact hw.1
theorem pz_takeA {σ0 σ : aw_S} {L c : Nat} {t : Nat → Nat} (T : pz_T L t) {z : pz_Z} (hz : z.1 ≤ L) (h : pz_TA σ0 9 L t) (R : pz_A σ0 z σ) (hc : c < 256) : ao_ok (m_Re_take σ (nI c)) (pz_oA σ0 (pz_tk L t c z)) := by
  have hL := T.1
  refine ao_imp (pz_take0A T (pz_TA_y h R.1.1) (by omega) R.2.1 hc) ?_
  rintro ⟨x, s⟩ (⟨q, e, m⟩ | ⟨q, e, m⟩)
  · unfold pz_tk
    rw [if_pos q]
    exact ⟨e, pz_Ac_m R.1 m, m.2.2.2, (m.2.2.1 13 (by omega)).trans R.2.2⟩
  · unfold pz_tk
    rw [if_neg q]
    exact ⟨e, pz_Ac_f R.1 m⟩
theorem pz_takeB {σ0 σ : aw_S} {L c : Nat} {t : Nat → Nat} (T : pz_T L t) {z : pz_Z} (hz : z.1 ≤ L) (h : pz_TB σ0 L t) (R : pz_B σ0 z σ) (hc : c < 256) : ao_ok (m_Rf_takes σ (nI c)) (pz_oB σ0 (pz_tk L t c z)) := by
  have hL := T.1
  refine ao_imp (pz_take0B T (pz_TB_y h R.1.1) (by omega) R.2 hc) ?_
  rintro ⟨x, s⟩ (⟨q, e, m⟩ | ⟨q, e, m⟩)
  · unfold pz_tk
    rw [if_pos q]
    exact ⟨e, pz_Bc_m R.1 m, m.2.2.2⟩
  · unfold pz_tk
    rw [if_neg q]
    exact ⟨e, pz_Bc_f R.1 m⟩
/-! ===== the reference: places of the row that is read ===== -/
theorem pz_put {σ : aw_S} {i : Nat} {v : Int32} (hi : i < 340) : m_Rf_put σ (nI i) v = some (aw_sI σ 1 (1360 + i) v) := by
  unfold m_Rf_put
  rw [show (1360 : Int32) = nI 1360 from rfl, nI_add, ao_gdn (by omega) (by omega), nI_clamp (by omega)]
  rfl
theorem pz_read {σ : aw_S} {i : Nat} (hi : i < 340) : m_Rf_read σ (nI i) = some (σ.1 1 (1360 + i)) := by
  unfold m_Rf_read
  rw [show (1360 : Int32) = nI 1360 from rfl, nI_add, ao_gdn (by omega) (by omega), nI_clamp (by omega)]
theorem pz_row_put {σ : aw_S} {Ψ : ap_T} {i : Nat} {v : Int32} (h : ap_row σ 1360 Ψ) (hX : ap_X Ψ ≤ 24) (hS : ap_S Ψ ≤ 60) (hB : ap_B Ψ ≤ 16)
    (hi : (4 + ap_S Ψ ≤ i ∧ i < 64) ∨ (64 + ap_S Ψ ≤ i ∧ i < 124) ∨ (124 + ap_S Ψ ≤ i ∧ i < 184) ∨ (184 + ap_B Ψ < i ∧ i < 204) ∨ (204 + ap_B Ψ ≤ i ∧ i < 220) ∨ (220 + ap_B Ψ ≤ i ∧ i < 236) ∨ (236 + 2 * ap_B Ψ ≤ i ∧ i < 268) ∨ (268 + ap_X Ψ ≤ i ∧ i < 292) ∨ (292 + 2 * ap_X Ψ ≤ i ∧ i < 340)) : ap_row (aw_sI σ 1 (1360 + i) v) 1360 Ψ := by
  obtain ⟨h0, h1, h2, h3, h4, h5, h6⟩ := h
  refine ⟨?_, ?_, ?_, fun s hs => ?_, fun b hb => ?_, fun b hb => ?_, fun e he => ?_⟩
  · rw [ao_sI_i (by omega)]; exact h0
  · rw [ao_sI_i (by omega)]; exact h1
  · rw [ao_sI_i (by omega)]; exact h2
  · rw [ao_sI_i (by omega), ao_sI_i (by omega), ao_sI_i (by omega)]; exact h3 s hs
  · rw [ao_sI_i (by omega)]; exact h4 b hb
  · rw [ao_sI_i (by omega), ao_sI_i (by omega), ao_sI_i (by omega), ao_sI_i (by omega)]; exact h5 b hb
  · rw [ao_sI_i (by omega), ao_sI_i (by omega), ao_sI_i (by omega)]; exact h6 e he
theorem pz_yB_put {σ0 σ : aw_S} {i : Nat} {v : Int32} (h : pz_yB σ0 σ) : pz_yB σ0 (aw_sI σ 1 (1360 + i) v) :=
  ⟨h.1, fun k h1 h2 h3 => by rw [ao_sI_o h2]; exact h.2.1 k h1 h2 h3, fun j h1 h2 h3 => by rw [ao_sI_o (by omega)]; exact h.2.2.1 j h1 h2 h3, fun j hj => by rw [ao_sI_i (by omega)]; exact h.2.2.2 j hj⟩
/-- a place that Ψ doesn't speak of -/
theorem pz_Bc_put {σ0 σ : aw_S} {Ψ : ap_T} {q1 q2 : Nat → Nat} {i : Nat} {v : Int32} (h : pz_Bc σ0 Ψ q1 q2 σ) (hw : pz_pw Ψ)
    (hi : (4 + ap_S Ψ ≤ i ∧ i < 64) ∨ (64 + ap_S Ψ ≤ i ∧ i < 124) ∨ (124 + ap_S Ψ ≤ i ∧ i < 184) ∨ (184 + ap_B Ψ < i ∧ i < 204) ∨ (204 + ap_B Ψ ≤ i ∧ i < 220) ∨ (220 + ap_B Ψ ≤ i ∧ i < 236) ∨ (236 + 2 * ap_B Ψ ≤ i ∧ i < 268) ∨ (268 + ap_X Ψ ≤ i ∧ i < 292) ∨ (292 + 2 * ap_X Ψ ≤ i ∧ i < 340)) : pz_Bc σ0 Ψ q1 q2 (aw_sI σ 1 (1360 + i) v) :=
  ⟨pz_yB_put h.1, by rw [ao_sI_o (by omega)]; exact h.2.1, pz_row_put h.2.2.1 hw.2.2.2.2.2.2.2.1 hw.2.1 hw.1 hi, fun b hb => by rw [ao_sI_o (by omega)]; exact h.2.2.2 b hb⟩
/-! ===== the class: a line more ===== -/
theorem pz_addLine {σ : aw_S} {l : Nat} (e : σ.1 8 11 = nI l) (hl : l < 76) (x : Int32) : ao_ok (m_Re_addLine σ x) (fun y => y.1 = 1 ∧ y.2.2 = σ.2 ∧ (∀ k, k ≠ 8 → (k < 15 ∨ 21 < k) → y.2.1 k = σ.1 k) ∧ (∀ j, j ≠ 11 → y.2.1 8 j = σ.1 8 j) ∧ y.2.1 8 11 = nI (l + 1) ∧ y.2.1 15 l = x ∧ y.2.1 16 l = σ.1 8 12 ∧ (∀ c, 17 ≤ c → c ≤ 21 → y.2.1 c l = -1) ∧ ∀ c j, 15 ≤ c → c ≤ 21 → j ≠ l → y.2.1 c j = σ.1 c j) := by
  unfold m_Re_addLine
  rw [e, if_neg (nI_pos (by omega)), if_pos (show nI l < (76 : Int32) from nI_lt (b := 76) hl (by omega))]
  simp (disch := omega) only [ao_ltr, ao_sI_o, e, ao_gdn, nI_clamp, nI_1]
  refine ao_some ⟨rfl, rfl, fun k h1 h2 => ?_, fun j hj => ?_, ao_sI_s _ _ _ _, ?_, ?_, fun c h1 h2 => ?_, fun c j h1 h2 hj => ?_⟩
  · simp (disch := omega) only [ao_sI_o]
  · simp (disch := omega) only [ao_sI_o, ao_sI_i]
  · simp (disch := omega) only [ao_sI_o, ao_sI_s]
  · simp (disch := omega) only [ao_sI_o, ao_sI_s]
  · rcases (show c = 17 ∨ c = 18 ∨ c = 19 ∨ c = 20 ∨ c = 21 by omega) with rfl | rfl | rfl | rfl | rfl <;> simp (disch := omega) only [ao_sI_o, ao_sI_s]
  · rcases (show c = 15 ∨ c = 16 ∨ c = 17 ∨ c = 18 ∨ c = 19 ∨ c = 20 ∨ c = 21 by omega) with rfl | rfl | rfl | rfl | rfl | rfl | rfl <;> simp (disch := omega) only [ao_sI_o, ao_sI_i]
/-! ===== a statement more ===== -/
def pz_addS (Ψ : ap_T) (k : Nat) (v : Option Nat) (r : Nat) : ap_T := ((ap_B Ψ, ap_S Ψ + 1, ap_fr Ψ), (pz_u (ap_sk Ψ) (ap_S Ψ) k, pz_u (ap_sl Ψ) (ap_S Ψ) v, pz_u (ap_sr Ψ) (ap_S Ψ) r), Ψ.2.2.1, Ψ.2.2.2)
theorem pz_addS_w {Ψ : ap_T} (hw : pz_pw Ψ) (hS : ap_S Ψ < 60) {k r : Nat} {v : Option Nat} (h : (k = 1 ∧ (∃ w, w < 26 ∧ v = some w) ∧ r < 1026) ∨ (k = 2 ∧ (∃ w, w < 26 ∧ v = some w) ∧ r < ap_X Ψ) ∨ (k = 3 ∧ v = none ∧ r < 1026)) : pz_pw (pz_addS Ψ k v r) := by
  obtain ⟨h1, h2, h3, h4, h5, h6, h7, h8, h9⟩ := hw
  refine ⟨h1, hS, h3, h4, Nat.le_succ_of_le h5, fun s hs => ?_, h7, h8, h9⟩
  by_cases q : s = ap_S Ψ
  · subst q
    show (pz_u (ap_sk Ψ) (ap_S Ψ) k (ap_S Ψ) = 1 ∧ (∃ w, w < 26 ∧ pz_u (ap_sl Ψ) (ap_S Ψ) v (ap_S Ψ) = some w) ∧ pz_u (ap_sr Ψ) (ap_S Ψ) r (ap_S Ψ) < 1026) ∨ (pz_u (ap_sk Ψ) (ap_S Ψ) k (ap_S Ψ) = 2 ∧ (∃ w, w < 26 ∧ pz_u (ap_sl Ψ) (ap_S Ψ) v (ap_S Ψ) = some w) ∧ pz_u (ap_sr Ψ) (ap_S Ψ) r (ap_S Ψ) < ap_X Ψ) ∨ (pz_u (ap_sk Ψ) (ap_S Ψ) k (ap_S Ψ) = 3 ∧ pz_u (ap_sl Ψ) (ap_S Ψ) v (ap_S Ψ) = none ∧ pz_u (ap_sr Ψ) (ap_S Ψ) r (ap_S Ψ) < 1026)
    rw [pz_u_s, pz_u_s, pz_u_s]
    exact h
  · have hs : s < ap_S Ψ + 1 := hs
    have := h6 s (by omega)
    show (pz_u (ap_sk Ψ) (ap_S Ψ) k s = 1 ∧ (∃ w, w < 26 ∧ pz_u (ap_sl Ψ) (ap_S Ψ) v s = some w) ∧ pz_u (ap_sr Ψ) (ap_S Ψ) r s < 1026) ∨ (pz_u (ap_sk Ψ) (ap_S Ψ) k s = 2 ∧ (∃ w, w < 26 ∧ pz_u (ap_sl Ψ) (ap_S Ψ) v s = some w) ∧ pz_u (ap_sr Ψ) (ap_S Ψ) r s < ap_X Ψ) ∨ (pz_u (ap_sk Ψ) (ap_S Ψ) k s = 3 ∧ pz_u (ap_sl Ψ) (ap_S Ψ) v s = none ∧ pz_u (ap_sr Ψ) (ap_S Ψ) r s < 1026)
    rw [pz_u_i q, pz_u_i q, pz_u_i q]
    exact this
theorem pz_rl_c {σ s : aw_S} {Ψ Ψ' : ap_T} {l : Nat} {q : Nat × Option Nat} (h : ap_rl σ Ψ l q) (hs : ∀ c, 15 ≤ c → c ≤ 21 → s.1 c l = σ.1 c l) (e1 : ap_nk Ψ' (some q) = ap_nk Ψ (some q)) (e2 : ap_nl Ψ' (some q) = ap_nl Ψ (some q)) (e3 : ap_nop Ψ' (some q) = ap_nop Ψ (some q)) (e4 : ap_nex Ψ' (some q) = ap_nex Ψ (some q)) (e5 : ap_n1 Ψ' (some q) = ap_n1 Ψ (some q)) (e6 : ap_n2 Ψ' (some q) = ap_n2 Ψ (some q)) : ap_rl s Ψ' l q := by
  unfold ap_rl
  rw [e1, e2, e3, e4, e5, e6, hs 15 (by omega) (by omega), hs 16 (by omega) (by omega), hs 17 (by omega) (by omega), hs 18 (by omega) (by omega), hs 19 (by omega) (by omega), hs 20 (by omega) (by omega), hs 21 (by omega) (by omega)]
  exact h
set_option maxHeartbeats 1000000 in
theorem pz_addSA {σ0 σ : aw_S} {Ψ : ap_T} {q1 q2 : Nat → Nat} (hw : pz_pw Ψ) (hS : ap_S Ψ < 60) (hB : ap_B Ψ < 16) (h : pz_Ac σ0 Ψ q1 q2 σ) {k r : Nat} {v : Option Nat} {xk xv xa xe : Int32} (ek : xk = nI k) (ev : xv = ao_o v) (ea : xa = ao_o (if k = 2 then none else some r)) (ee : xe = ao_o (if k = 2 then some r else none)) :
    ao_ok (m_Re_addStatement σ xk xv xa xe) (fun y => y.1 = 1 ∧ pz_Ac σ0 (pz_addS Ψ k v r) q1 q2 y.2 ∧ y.2.1 8 14 = σ.1 8 14 ∧ y.2.1 8 13 = σ.1 8 13) := by
  obtain ⟨⟨y1, y2⟩, w, eL, eB, eX, hl, hE, hx⟩ := h
  have hfr := fun b (hb : b ≤ ap_B Ψ) => pz_fr_le hw hb
  unfold m_Re_addStatement
  refine ao_bd2 (ao_imp (pz_addLine eL (by omega) xk) ?_)
  rintro ⟨x, s⟩ ⟨e1, l1, f1, g1, n1, k1, b1, z1, o1⟩
  have e1 : x = 1 := e1
  subst e1
  have n1 : s.1 8 11 = nI (ap_S Ψ + ap_B Ψ + 1) := n1
  have f1 : ∀ k, k ≠ 8 → (k < 15 ∨ 21 < k) → s.1 k = σ.1 k := f1
  have g1 : ∀ j, j ≠ 11 → s.1 8 j = σ.1 8 j := g1
  have k1 : s.1 15 (ap_S Ψ + ap_B Ψ) = xk := k1
  have b1 : s.1 16 (ap_S Ψ + ap_B Ψ) = σ.1 8 12 := b1
  have z1 : ∀ c, 17 ≤ c → c ≤ 21 → s.1 c (ap_S Ψ + ap_B Ψ) = -1 := z1
  have o1 : ∀ c j, 15 ≤ c → c ≤ 21 → j ≠ ap_S Ψ + ap_B Ψ → s.1 c j = σ.1 c j := o1
  show ao_ok (if (1 : Int32) = 0 then _ else _) _
  rw [if_neg (by decide)]
  simp (disch := omega) only [ao_ltr, ao_sI_o, n1, nI_pred, ao_gdn, nI_clamp]
  have hc : ∀ c j, 15 ≤ c → c ≤ 21 → j ≠ ap_S Ψ + ap_B Ψ → (aw_sI (aw_sI (aw_sI s 17 (ap_S Ψ + ap_B Ψ) xv) 18 (ap_S Ψ + ap_B Ψ) xa) 19 (ap_S Ψ + ap_B Ψ) xe).1 c j = σ.1 c j := fun c j h1 h2 hj => by
    rw [ao_sI_i hj, ao_sI_i hj, ao_sI_i hj]; exact o1 c j h1 h2 hj
  have hk : ∀ c, c ≠ 8 → (c < 15 ∨ 21 < c) → (aw_sI (aw_sI (aw_sI s 17 (ap_S Ψ + ap_B Ψ) xv) 18 (ap_S Ψ + ap_B Ψ) xa) 19 (ap_S Ψ + ap_B Ψ) xe).1 c = σ.1 c := fun c h1 h2 => by
    rw [ao_sI_o (by omega), ao_sI_o (by omega), ao_sI_o (by omega)]; exact f1 c h1 h2
  have h8 : ∀ j, (aw_sI (aw_sI (aw_sI s 17 (ap_S Ψ + ap_B Ψ) xv) 18 (ap_S Ψ + ap_B Ψ) xa) 19 (ap_S Ψ + ap_B Ψ) xe).1 8 j = s.1 8 j := fun j => by
    rw [ao_sI_o (by omega), ao_sI_o (by omega), ao_sI_o (by omega)]
  refine ao_some ⟨rfl, ⟨⟨l1.trans y1, fun c hc' => (hk c (by omega) (by omega)).trans (y2 c hc')⟩, ?_, ?_, ?_, ?_, fun b s' hb h1 h2 h3 => ?_, fun b hb => ⟨?_, ?_, ?_⟩, fun e he => ?_⟩, (h8 14).trans (g1 14 (by omega)), (h8 13).trans (g1 13 (by omega))⟩
  · exact (h8 15).trans ((g1 15 (by omega)).trans w)
  · refine (h8 11).trans (n1.trans (congrArg nI ?_))
    show _ = ap_S Ψ + 1 + ap_B Ψ
    omega
  · exact (h8 12).trans ((g1 12 (by omega)).trans eB)
  · exact (congrFun (hk 11 (by omega) (by omega)) 3).trans eX
  · have h2 : s' < ap_S Ψ + 1 := h2
    have hb : b ≤ ap_B Ψ := hb
    have h1 : ap_fr Ψ b ≤ s' := h1
    have h3 : b < ap_B Ψ → s' < ap_fr Ψ (b + 1) := h3
    by_cases q : s' = ap_S Ψ
    · have hbB : b = ap_B Ψ := by
        refine Nat.le_antisymm hb (Nat.le_of_not_lt fun z => ?_)
        have := h3 z
        have := hfr (b + 1) (by omega)
        omega
      subst q hbB
      unfold ap_rl
      show _ = nI (pz_u (ap_sk Ψ) (ap_S Ψ) k (ap_S Ψ)) ∧ _ ∧ _ = ao_o (pz_u (ap_sl Ψ) (ap_S Ψ) v (ap_S Ψ)) ∧ _ = ao_o (if pz_u (ap_sk Ψ) (ap_S Ψ) k (ap_S Ψ) = 2 then none else some (pz_u (ap_sr Ψ) (ap_S Ψ) r (ap_S Ψ))) ∧ _ = ao_o (if pz_u (ap_sk Ψ) (ap_S Ψ) k (ap_S Ψ) = 2 then some (pz_u (ap_sr Ψ) (ap_S Ψ) r (ap_S Ψ)) else none) ∧ _ = ao_o none ∧ _ = ao_o none
      rw [pz_u_s, pz_u_s, pz_u_s, ← ek, ← ev, ← ea, ← ee]
      refine ⟨?_, ?_, ?_, ?_, ?_, ?_, ?_⟩
      · simp (disch := omega) only [ao_sI_o]; exact k1
      · simp (disch := omega) only [ao_sI_o]; exact b1.trans eB
      · simp (disch := omega) only [ao_sI_o, ao_sI_s]
      · simp (disch := omega) only [ao_sI_o, ao_sI_s]
      · simp (disch := omega) only [ao_sI_o, ao_sI_s]
      · simp (disch := omega) only [ao_sI_o]; exact z1 20 (by omega) (by omega)
      · simp (disch := omega) only [ao_sI_o]; exact z1 21 (by omega) (by omega)
    · refine pz_rl_c (hl b s' hb h1 (by omega) h3) (fun c h4 h5 => hc c _ h4 h5 (by omega)) ?_ ?_ ?_ ?_ rfl rfl
      · show pz_u (ap_sk Ψ) (ap_S Ψ) k s' = ap_sk Ψ s'
        exact pz_u_i q
      · show pz_u (ap_sl Ψ) (ap_S Ψ) v s' = ap_sl Ψ s'
        exact pz_u_i q
      · show (if pz_u (ap_sk Ψ) (ap_S Ψ) k s' = 2 then none else some (pz_u (ap_sr Ψ) (ap_S Ψ) r s')) = if ap_sk Ψ s' = 2 then none else some (ap_sr Ψ s')
        rw [pz_u_i q, pz_u_i q]
      · show (if pz_u (ap_sk Ψ) (ap_S Ψ) k s' = 2 then some (pz_u (ap_sr Ψ) (ap_S Ψ) r s') else none) = if ap_sk Ψ s' = 2 then some (ap_sr Ψ s') else none
        rw [pz_u_i q, pz_u_i q]
  · have hb : b < ap_B Ψ := hb
    have := hfr (b + 1) (by omega)
    exact pz_rl_c (Ψ := Ψ) (hE b hb).1 (fun c h4 h5 => hc c _ h4 h5 (by show ap_fr Ψ (b + 1) + b ≠ _; omega)) rfl rfl rfl rfl rfl rfl
  · intro z
    exact (congrFun (hk 22 (by omega) (by omega)) _).trans ((hE b hb).2.1 z)
  · intro z
    exact (congrFun (hk 23 (by omega) (by omega)) _).trans ((hE b hb).2.2 z)
  · have he : e < ap_X Ψ := he
    have H := hx e he
    exact ⟨(congrFun (hk 12 (by omega) (by omega)) e).trans H.1, (congrFun (hk 13 (by omega) (by omega)) e).trans H.2.1, (congrFun (hk 14 (by omega) (by omega)) e).trans H.2.2⟩

/-! ===== THE PARSE: targets, the end of a block ===== -/
theorem pz_num2 {L p : Nat} {t : Nat → Nat} (T : pz_T L t) (hp : p ≤ L) : ∃ o : Nat ⊕ (Nat × Nat), (match o with
    | .inl q => q ≤ L
    | .inr y => p < y.1 ∧ y.1 ≤ L ∧ y.2 < 100) ∧
    (∀ σ : aw_S, pz_TA σ 9 L t → σ.1 8 14 = nI p → ao_ok (m_Re_readNumber σ (nI 2)) (fun x => match o with
    | .inl q => x.1 = -1 ∧ pz_fA σ q x.2
    | .inr y => x.1 = nI y.2 ∧ pz_mA σ y.1 x.2)) ∧
    ∀ σ : aw_S, pz_TB σ L t → σ.1 0 3 = nI p → ao_ok (m_Rf_readDigits σ (nI 2)) (fun x => match o with
    | .inl q => x.1 = 0 ∧ pz_fB σ q x.2
    | .inr y => x.1 = 1 ∧ pz_mB σ y.1 x.2 ∧ x.2.1 0 5 = nI y.2) := by
  obtain ⟨d, h1, h2, h3⟩ := pz_dx L t p 2
  have hv := pz_v_lt T d h2
  have hv3 : 10 ^ d ≤ 100 := by
    rcases (show d = 0 ∨ d = 1 ∨ d = 2 by omega) with rfl | rfl | rfl <;> decide
  have hpd := pz_dL T hp h2
  by_cases z : d = 0
  · refine ⟨.inl p, hp, fun σ h ha => ao_imp (pz_numA T hp (show 2 ≤ 3 by omega) h1 h2 h3 h ha) (fun x hx => ?_), fun σ h ha => ao_imp (pz_numB T hp (show 2 ≤ 3 by omega) (by omega) h1 h2 h3 h ha) (fun x hx => ?_)⟩
    · rw [if_pos z] at hx; exact hx
    · rw [if_pos z] at hx; exact hx
  · refine ⟨.inr (p + d, pz_v t p d), ⟨by show p < p + d; omega, hpd, by show pz_v t p d < 100; omega⟩, fun σ h ha => ao_imp (pz_numA T hp (show 2 ≤ 3 by omega) h1 h2 h3 h ha) (fun x hx => ?_), fun σ h ha => ao_imp (pz_numB T hp (show 2 ≤ 3 by omega) (by omega) h1 h2 h3 h ha) (fun x hx => ?_)⟩
    · rw [if_neg z] at hx; exact hx
    · rw [if_neg z] at hx; exact hx
/-- the line of the class that is being made -/
def pz_ln (σ : aw_S) (l B p k : Nat) (v e1 e2 : Option Nat) (a1 a2 : Nat) (s : aw_S) : Prop :=
  s.2 = σ.2 ∧ (∀ c, c ≠ 8 → (c < 15 ∨ 23 < c) → s.1 c = σ.1 c) ∧ (∀ j, j ≠ 11 → j ≠ 14 → s.1 8 j = σ.1 8 j) ∧ s.1 8 11 = nI (l + 1) ∧ s.1 8 14 = nI p ∧ (∀ c j, 15 ≤ c → c ≤ 23 → j ≠ l → s.1 c j = σ.1 c j) ∧
  s.1 15 l = nI k ∧ s.1 16 l = nI B ∧ s.1 17 l = ao_o v ∧ s.1 18 l = -1 ∧ s.1 19 l = -1 ∧ s.1 20 l = ao_o e1 ∧ s.1 21 l = ao_o e2 ∧ (e1 ≠ none → s.1 22 l = nI a1) ∧ (e2 ≠ none → s.1 23 l = nI a2)
theorem pz_ln_new {σ σ1 : aw_S} {l B p k : Nat} (m : pz_mA σ p σ1) (e : σ.1 8 11 = nI l) (hl : l < 76) (eB : σ.1 8 12 = nI B) : ao_ok (m_Re_addLine σ1 (nI k)) (fun x => x.1 = 1 ∧ pz_ln σ l B p k none none none 0 0 x.2) := by
  refine ao_imp (pz_addLine ((m.2.2.1 11 (by omega)).trans e) hl (nI k)) ?_
  rintro ⟨x, s⟩ ⟨e1, l1, f1, g1, n1, k1, b1, z1, o1⟩
  refine ⟨e1, l1.trans m.1, fun c h1 h2 => (f1 c h1 (by omega)).trans (m.2.1 c h1), fun j h1 h2 => (g1 j h1).trans (m.2.2.1 j h2), n1, (g1 14 (by omega)).trans m.2.2.2, fun c j h1 h2 hj => ?_, k1, b1.trans ((m.2.2.1 12 (by omega)).trans eB), z1 17 (by omega) (by omega), z1 18 (by omega) (by omega), z1 19 (by omega) (by omega), z1 20 (by omega) (by omega), z1 21 (by omega) (by omega), fun y => absurd rfl y, fun y => absurd rfl y⟩
  by_cases q : c ≤ 21
  · exact (o1 c j h1 q hj).trans (congrFun (m.2.1 c (by omega)) j)
  · exact (congrFun (f1 c (by omega) (by omega)) j).trans (congrFun (m.2.1 c (by omega)) j)
theorem pz_ln_m {σ s u : aw_S} {l B p q k a1 a2 : Nat} {v e1 e2 : Option Nat} (h : pz_ln σ l B p k v e1 e2 a1 a2 s) (m : pz_mA s q u) : pz_ln σ l B q k v e1 e2 a1 a2 u := by
  obtain ⟨h1, h2, h3, h4, h5, h6, h7⟩ := h
  refine ⟨m.1.trans h1, fun c y1 y2 => (m.2.1 c y1).trans (h2 c y1 y2), fun j y1 y2 => (m.2.2.1 j y2).trans (h3 j y1 y2), (m.2.2.1 11 (by omega)).trans h4, m.2.2.2, fun c j y1 y2 y3 => (congrFun (m.2.1 c (by omega)) j).trans (h6 c j y1 y2 y3), ?_⟩
  rw [m.2.1 15 (by omega), m.2.1 16 (by omega), m.2.1 17 (by omega), m.2.1 18 (by omega), m.2.1 19 (by omega), m.2.1 20 (by omega), m.2.1 21 (by omega), m.2.1 22 (by omega), m.2.1 23 (by omega)]
  exact h7
theorem pz_ln_v {σ s : aw_S} {l B p k a1 a2 w : Nat} {v e1 e2 : Option Nat} (h : pz_ln σ l B p k v e1 e2 a1 a2 s) : pz_ln σ l B p k (some w) e1 e2 a1 a2 (aw_sI s 17 l (nI w)) := by
  obtain ⟨h1, h2, h3, h4, h5, h6, h7, h8, h9, h10⟩ := h
  refine ⟨h1, fun c y1 y2 => by rw [ao_sI_o (by omega)]; exact h2 c y1 y2, fun j y1 y2 => by rw [ao_sI_o (by omega)]; exact h3 j y1 y2, by rw [ao_sI_o (by omega)]; exact h4, by rw [ao_sI_o (by omega)]; exact h5, fun c j y1 y2 y3 => by rw [ao_sI_i y3]; exact h6 c j y1 y2 y3, ?_⟩
  simp (disch := omega) only [ao_sI_o, ao_sI_s]
  exact ⟨h7, h8, rfl, h10⟩
theorem pz_ln_1 {σ s : aw_S} {l B p k a1 a2 w a : Nat} {v e1 e2 : Option Nat} (h : pz_ln σ l B p k v e1 e2 a1 a2 s) : pz_ln σ l B p k v (some w) e2 a a2 (aw_sI (aw_sI s 20 l (nI w)) 22 l (nI a)) := by
  obtain ⟨h1, h2, h3, h4, h5, h6, h7, h8, h9, h10, h11, h12, h13, h14, h15⟩ := h
  refine ⟨h1, fun c y1 y2 => by rw [ao_sI_o (by omega), ao_sI_o (by omega)]; exact h2 c y1 y2, fun j y1 y2 => by rw [ao_sI_o (by omega), ao_sI_o (by omega)]; exact h3 j y1 y2, by rw [ao_sI_o (by omega), ao_sI_o (by omega)]; exact h4, by rw [ao_sI_o (by omega), ao_sI_o (by omega)]; exact h5, fun c j y1 y2 y3 => by rw [ao_sI_i y3, ao_sI_i y3]; exact h6 c j y1 y2 y3, ?_⟩
  simp (disch := omega) only [ao_sI_o, ao_sI_s]
  exact ⟨h7, h8, h9, h10, h11, rfl, h13, fun _ => trivial, h15⟩
theorem pz_ln_2 {σ s : aw_S} {l B p k a1 a2 w a : Nat} {v e1 e2 : Option Nat} (h : pz_ln σ l B p k v e1 e2 a1 a2 s) : pz_ln σ l B p k v e1 (some w) a1 a (aw_sI (aw_sI s 21 l (nI w)) 23 l (nI a)) := by
  obtain ⟨h1, h2, h3, h4, h5, h6, h7, h8, h9, h10, h11, h12, h13, h14, h15⟩ := h
  refine ⟨h1, fun c y1 y2 => by rw [ao_sI_o (by omega), ao_sI_o (by omega)]; exact h2 c y1 y2, fun j y1 y2 => by rw [ao_sI_o (by omega), ao_sI_o (by omega)]; exact h3 j y1 y2, by rw [ao_sI_o (by omega), ao_sI_o (by omega)]; exact h4, by rw [ao_sI_o (by omega), ao_sI_o (by omega)]; exact h5, fun c j y1 y2 y3 => by rw [ao_sI_i y3, ao_sI_i y3]; exact h6 c j y1 y2 y3, ?_⟩
  simp (disch := omega) only [ao_sI_o, ao_sI_s]
  exact ⟨h7, h8, h9, h10, h11, h12, rfl, h14, fun _ => trivial⟩
theorem pz_targetA {σ s : aw_S} {L l B p k a1 a2 q1 v1 ρ1 ρ2 : Nat} {t : Nat → Nat} {v e1 e2 : Option Nat} (h : pz_ln σ l B p k v e1 e2 a1 a2 s) (hl : l < 76) (H : ∀ σ : aw_S, pz_TA σ 9 L t → σ.1 8 14 = nI p → ao_ok (m_Re_readNumber σ (nI 2)) (fun x => x.1 = nI v1 ∧ pz_mA σ q1 x.2)) (hT : pz_TA s 9 L t) (hv : v1 < 100) : ao_ok (m_Re_readTarget s ρ1 ρ2) (fun x => x.1 = 1 ∧ ∃ u, pz_ln σ l B q1 k v e1 e2 a1 a2 u ∧ x.2 = aw_sI (aw_sI u ρ1 l (nI v1)) ρ2 l (nI p)) := by
  unfold m_Re_readTarget
  rw [ao_ltr, show (2 : Int32) = nI 2 from rfl, h.2.2.2.2.1]
  refine ao_bd2 (ao_imp (H s hT h.2.2.2.2.1) ?_)
  rintro ⟨x, u⟩ ⟨e1, m⟩
  have e1 : x = nI v1 := e1
  subst e1
  have hu := pz_ln_m h m
  rw [ao_ltr, hu.2.2.2.1, nI_pred, if_neg (ao_m1 (by omega)), if_neg (nI_pos (by omega)), if_pos (show nI l < (76 : Int32) from nI_lt (b := 76) hl (by omega)), ao_gdn hl (by omega), nI_clamp (by omega), ao_ltr, ao_gdn hl (by omega)]
  exact ao_let (ao_some ⟨rfl, u, hu, rfl⟩)
theorem pz_targetAf {s : aw_S} {L p q ρ1 ρ2 : Nat} {t : Nat → Nat} (H : ∀ σ : aw_S, pz_TA σ 9 L t → σ.1 8 14 = nI p → ao_ok (m_Re_readNumber σ (nI 2)) (fun x => x.1 = -1 ∧ pz_fA σ q x.2)) (hT : pz_TA s 9 L t) (e : s.1 8 14 = nI p) : ao_ok (m_Re_readTarget s ρ1 ρ2) (fun x => x.1 = 0 ∧ pz_fA s q x.2) := by
  unfold m_Re_readTarget
  rw [ao_ltr, show (2 : Int32) = nI 2 from rfl]
  refine ao_bd2 (ao_imp (H s hT e) ?_)
  rintro ⟨x, u⟩ ⟨e1, m⟩
  have e1 : x = -1 := e1
  subst e1
  rw [ao_ltr, if_pos rfl]
  exact ao_some ⟨rfl, m⟩
theorem pz_numberB {s : aw_S} {L p q1 v1 b k : Nat} {t : Nat → Nat} (H : ∀ σ : aw_S, pz_TB σ L t → σ.1 0 3 = nI p → ao_ok (m_Rf_readDigits σ (nI 2)) (fun x => x.1 = 1 ∧ pz_mB σ q1 x.2 ∧ x.2.1 0 5 = nI v1)) (hT : pz_TB s L t) (e : s.1 0 3 = nI p) (hb : b < 16) (hk : k < 2) : ao_ok (m_Rf_readNumber s (nI b) (nI k)) (fun x => x.1 = 1 ∧ ∃ u, pz_mB s q1 u ∧ x.2 = aw_sI (aw_sI u 1 (1360 + (236 + 2 * b + k)) (nI v1)) 3 (2 * b + k) (nI p)) := by
  unfold m_Rf_readNumber
  rw [ao_ltr, show (2 : Int32) = nI 2 from rfl, e]
  refine ao_bd2 (ao_imp (H s hT e) ?_)
  rintro ⟨x, u⟩ ⟨e1, m, e5⟩
  have e1 : x = 1 := e1
  subst e1
  have e5 : u.1 0 5 = nI v1 := e5
  rw [if_neg ao_n10, pk_mul, show (236 : Int32) = nI 236 from rfl, nI_add, nI_add, aw_bd_s (pz_put (by omega)), e5, nI_add, ao_gdn (by omega) (by omega), nI_clamp (by omega)]
  exact ao_let (ao_some ⟨rfl, u, m, rfl⟩)
theorem pz_numberBf {s : aw_S} {L p q b k : Nat} {t : Nat → Nat} (H : ∀ σ : aw_S, pz_TB σ L t → σ.1 0 3 = nI p → ao_ok (m_Rf_readDigits σ (nI 2)) (fun x => x.1 = 0 ∧ pz_fB σ q x.2)) (hT : pz_TB s L t) (e : s.1 0 3 = nI p) : ao_ok (m_Rf_readNumber s (nI b) (nI k)) (fun x => x.1 = 0 ∧ pz_fB s q x.2) := by
  unfold m_Rf_readNumber
  rw [ao_ltr, show (2 : Int32) = nI 2 from rfl]
  refine ao_bd2 (ao_imp (H s hT e) ?_)
  rintro ⟨x, u⟩ ⟨e1, m⟩
  have e1 : x = 0 := e1
  subst e1
  rw [if_pos rfl]
  exact ao_some ⟨rfl, m⟩
/-! ===== an end more ===== -/
def pz_addE (Ψ : ap_T) (k : Nat) (v e1 e2 : Option Nat) : ap_T := ((ap_B Ψ + 1, ap_S Ψ, pz_u (ap_fr Ψ) (ap_B Ψ + 1) (ap_S Ψ)), Ψ.2.1, (pz_u (ap_ek Ψ) (ap_B Ψ) k, pz_u (ap_ev Ψ) (ap_B Ψ) v, pz_u (ap_e1 Ψ) (ap_B Ψ) e1, pz_u (ap_e2 Ψ) (ap_B Ψ) e2), Ψ.2.2.2)
theorem pz_addE_w {L p : Nat} {Ψ : ap_T} {q1 q2 : Nat → Nat} (hw : pz_wf L (p, Ψ, q1, q2)) (hB : ap_B Ψ < 16) {k : Nat} {v e1 e2 : Option Nat} (h : (k = 4 ∧ v = none ∧ (∃ t, t < 100 ∧ e1 = some t) ∧ e2 = none) ∨ (k = 5 ∧ (∃ w, w < 26 ∧ v = some w) ∧ (∃ t, t < 100 ∧ e1 = some t) ∧ ∃ t, t < 100 ∧ e2 = some t) ∨ (k = 6 ∧ v = none ∧ e1 = none ∧ e2 = none)) {p' a1 a2 : Nat} (hp : p' ≤ L) (h1 : a1 ≤ L) (h2 : a2 ≤ L) : pz_wf L (p', pz_addE Ψ k v e1 e2, pz_u q1 (ap_B Ψ) a1, pz_u q2 (ap_B Ψ) a2) := by
  obtain ⟨_, hP, hq⟩ := hw
  have hP : pz_pw Ψ := hP
  have hfr := pz_fr_le hP (Nat.le_refl (ap_B Ψ))
  obtain ⟨g1, g2, g3, g4, g5, g6, g7, g8, g9⟩ := hP
  refine ⟨hp, ⟨hB, g2, ?_, fun b hb => ?_, ?_, g6, fun b hb => ?_, g8, g9⟩, fun b hb => ?_⟩
  · show pz_u (ap_fr Ψ) (ap_B Ψ + 1) (ap_S Ψ) 0 = 0
    rw [pz_u_i (by omega)]; exact g3
  · have hb : b < ap_B Ψ + 1 := hb
    show pz_u (ap_fr Ψ) (ap_B Ψ + 1) (ap_S Ψ) b ≤ pz_u (ap_fr Ψ) (ap_B Ψ + 1) (ap_S Ψ) (b + 1)
    rw [pz_u_i (by omega)]
    by_cases q : b = ap_B Ψ
    · subst q; rw [pz_u_s]; exact hfr
    · rw [pz_u_i (by omega)]; exact g4 b (by omega)
  · show pz_u (ap_fr Ψ) (ap_B Ψ + 1) (ap_S Ψ) (ap_B Ψ + 1) ≤ ap_S Ψ
    rw [pz_u_s]; exact Nat.le_refl _
  · have hb : b < ap_B Ψ + 1 := hb
    show (pz_u (ap_ek Ψ) (ap_B Ψ) k b = 4 ∧ pz_u (ap_ev Ψ) (ap_B Ψ) v b = none ∧ (∃ t, t < 100 ∧ pz_u (ap_e1 Ψ) (ap_B Ψ) e1 b = some t) ∧ pz_u (ap_e2 Ψ) (ap_B Ψ) e2 b = none) ∨ (pz_u (ap_ek Ψ) (ap_B Ψ) k b = 5 ∧ (∃ v', v' < 26 ∧ pz_u (ap_ev Ψ) (ap_B Ψ) v b = some v') ∧ (∃ t, t < 100 ∧ pz_u (ap_e1 Ψ) (ap_B Ψ) e1 b = some t) ∧ ∃ t, t < 100 ∧ pz_u (ap_e2 Ψ) (ap_B Ψ) e2 b = some t) ∨ (pz_u (ap_ek Ψ) (ap_B Ψ) k b = 6 ∧ pz_u (ap_ev Ψ) (ap_B Ψ) v b = none ∧ pz_u (ap_e1 Ψ) (ap_B Ψ) e1 b = none ∧ pz_u (ap_e2 Ψ) (ap_B Ψ) e2 b = none)
    by_cases q : b = ap_B Ψ
    · subst q
      rw [pz_u_s, pz_u_s, pz_u_s, pz_u_s]
      exact h
    · rw [pz_u_i q, pz_u_i q, pz_u_i q, pz_u_i q]
      exact g7 b (by omega)
  · have hb : b < ap_B Ψ + 1 := hb
    show pz_u q1 (ap_B Ψ) a1 b ≤ L ∧ pz_u q2 (ap_B Ψ) a2 b ≤ L
    by_cases q : b = ap_B Ψ
    · subst q; rw [pz_u_s, pz_u_s]; exact ⟨h1, h2⟩
    · rw [pz_u_i q, pz_u_i q]; exact hq b (by show b < ap_B Ψ; omega)
theorem pz_addEA {σ0 σ s : aw_S} {Ψ : ap_T} {q1 q2 : Nat → Nat} (hw : pz_pw Ψ) (h : pz_Ac σ0 Ψ q1 q2 σ) {p k a1 a2 : Nat} {v e1 e2 : Option Nat} (H : pz_ln σ (ap_S Ψ + ap_B Ψ) (ap_B Ψ) p k v e1 e2 a1 a2 s) : pz_Ac σ0 (pz_addE Ψ k v e1 e2) (pz_u q1 (ap_B Ψ) a1) (pz_u q2 (ap_B Ψ) a2) (aw_sI s 8 12 (nI (ap_B Ψ + 1))) := by
  obtain ⟨⟨y1, y2⟩, w, eL, eB, eX, hl, hE, hx⟩ := h
  obtain ⟨h1, h2, h3, h4, h5, h6, h7, h8, h9, h10, h11, h12, h13, h14, h15⟩ := H
  have hfr := fun b (hb : b ≤ ap_B Ψ) => pz_fr_le hw hb
  have hk : ∀ c, c ≠ 8 → (aw_sI s 8 12 (nI (ap_B Ψ + 1))).1 c = s.1 c := fun c hc => ao_sI_o hc
  refine ⟨⟨h1.trans y1, fun c hc => by rw [hk c (by omega)]; exact (h2 c (by omega) (by omega)).trans (y2 c hc)⟩, ?_, ?_, ao_sI_s _ _ _ _, ?_, fun b s' hb z1 z2 z3 => ?_, fun b hb => ?_, fun e he => ?_⟩
  · rw [ao_sI_i (by omega)]; exact (h3 15 (by omega) (by omega)).trans w
  · rw [ao_sI_i (by omega), h4]
    refine congrArg nI ?_
    show ap_S Ψ + ap_B Ψ + 1 = ap_S Ψ + (ap_B Ψ + 1)
    omega
  · rw [hk 11 (by omega)]; exact (congrFun (h2 11 (by omega) (by omega)) 3).trans eX
  · have hb : b ≤ ap_B Ψ + 1 := hb
    have z1 : pz_u (ap_fr Ψ) (ap_B Ψ + 1) (ap_S Ψ) b ≤ s' := z1
    have z2 : s' < ap_S Ψ := z2
    have z3 : b < ap_B Ψ + 1 → s' < pz_u (ap_fr Ψ) (ap_B Ψ + 1) (ap_S Ψ) (b + 1) := z3
    by_cases q : b = ap_B Ψ + 1
    · subst q; rw [pz_u_s] at z1; omega
    · rw [pz_u_i q] at z1
      have z4 : b < ap_B Ψ → s' < ap_fr Ψ (b + 1) := fun y => by
        have := z3 (by omega)
        rw [pz_u_i (by omega)] at this
        exact this
      exact pz_rl_c (Ψ := Ψ) (hl b s' (by omega) z1 z2 z4) (fun c z5 z6 => by rw [hk c (by omega)]; exact h6 c _ z5 (by omega) (by omega)) rfl rfl rfl rfl rfl rfl
  · have hb : b < ap_B Ψ + 1 := hb
    show ap_rl (aw_sI s 8 12 (nI (ap_B Ψ + 1))) (pz_addE Ψ k v e1 e2) (pz_u (ap_fr Ψ) (ap_B Ψ + 1) (ap_S Ψ) (b + 1) + b) (b, none) ∧ (pz_u (ap_e1 Ψ) (ap_B Ψ) e1 b ≠ none → (aw_sI s 8 12 (nI (ap_B Ψ + 1))).1 22 (pz_u (ap_fr Ψ) (ap_B Ψ + 1) (ap_S Ψ) (b + 1) + b) = nI (pz_u q1 (ap_B Ψ) a1 b)) ∧ (pz_u (ap_e2 Ψ) (ap_B Ψ) e2 b ≠ none → (aw_sI s 8 12 (nI (ap_B Ψ + 1))).1 23 (pz_u (ap_fr Ψ) (ap_B Ψ + 1) (ap_S Ψ) (b + 1) + b) = nI (pz_u q2 (ap_B Ψ) a2 b))
    rw [hk 22 (by omega), hk 23 (by omega)]
    by_cases q : b = ap_B Ψ
    · subst q
      rw [pz_u_s, pz_u_s, pz_u_s, pz_u_s, pz_u_s]
      refine ⟨?_, h14, h15⟩
      unfold ap_rl
      show _ = nI (pz_u (ap_ek Ψ) (ap_B Ψ) k (ap_B Ψ)) ∧ _ ∧ _ = ao_o (pz_u (ap_ev Ψ) (ap_B Ψ) v (ap_B Ψ)) ∧ _ ∧ _ ∧ _ = ao_o (pz_u (ap_e1 Ψ) (ap_B Ψ) e1 (ap_B Ψ)) ∧ _ = ao_o (pz_u (ap_e2 Ψ) (ap_B Ψ) e2 (ap_B Ψ))
      rw [pz_u_s, pz_u_s, pz_u_s, pz_u_s, hk 15 (by omega), hk 16 (by omega), hk 17 (by omega), hk 18 (by omega), hk 19 (by omega), hk 20 (by omega), hk 21 (by omega)]
      exact ⟨h7, h8, h9, h10, h11, h12, h13⟩
    · have H := hE b (by omega)
      have := hfr (b + 1) (by omega)
      rw [pz_u_i (show b + 1 ≠ ap_B Ψ + 1 by omega), pz_u_i q, pz_u_i q, pz_u_i q, pz_u_i q]
      refine ⟨pz_rl_c (Ψ := Ψ) H.1 (fun c z5 z6 => by rw [hk c (by omega)]; exact h6 c _ z5 (by omega) (by omega)) ?_ ?_ rfl rfl ?_ ?_, fun y => (h6 22 _ (by omega) (by omega) (by omega)).trans (H.2.1 y), fun y => (h6 23 _ (by omega) (by omega) (by omega)).trans (H.2.2 y)⟩
      · exact pz_u_i q
      · exact pz_u_i q
      · exact pz_u_i q
      · exact pz_u_i q
  · rw [hk 12 (by omega), hk 13 (by omega), hk 14 (by omega), h2 12 (by omega) (by omega), h2 13 (by omega) (by omega), h2 14 (by omega) (by omega)]
    exact hx e he
theorem pz_addEB {σ0 σ : aw_S} {Ψ : ap_T} {q1 q2 : Nat → Nat} (hw : pz_pw Ψ) (hB : ap_B Ψ < 16) (h : pz_Bc σ0 Ψ q1 q2 σ) {k a1 a2 : Nat} {v e1 e2 : Option Nat} (c1 : σ.1 1 (1360 + (204 + ap_B Ψ)) = nI k) (c2 : σ.1 1 (1360 + (220 + ap_B Ψ)) = ao_o v) (c3 : σ.1 1 (1360 + (236 + 2 * ap_B Ψ)) = ao_o e1) (c4 : σ.1 1 (1360 + (237 + 2 * ap_B Ψ)) = ao_o e2) (d1 : e1 ≠ none → σ.1 3 (2 * ap_B Ψ) = nI a1) (d2 : e2 ≠ none → σ.1 3 (2 * ap_B Ψ + 1) = nI a2) :
    pz_Bc σ0 (pz_addE Ψ k v e1 e2) (pz_u q1 (ap_B Ψ) a1) (pz_u q2 (ap_B Ψ) a2) (aw_sI (aw_sI σ 1 (1360 + 0) (nI (ap_B Ψ + 1))) 1 (1360 + (184 + ap_B Ψ + 1)) (nI (ap_S Ψ))) := by
  have hS := hw.2.1
  have hX := hw.2.2.2.2.2.2.2.1
  refine ⟨pz_yB_put (pz_yB_put h.1), by rw [ao_sI_o (by omega), ao_sI_o (by omega)]; exact h.2.1, ?_, fun b hb => ?_⟩
  · obtain ⟨r0, r1, r2, r3, r4, r5, r6⟩ := h.2.2.1
    refine ⟨?_, ?_, ?_, fun s hs => ?_, fun b hb => ?_, fun b hb => ?_, fun e he => ?_⟩
    · simp (disch := omega) only [ao_sI_i]
      exact ao_sI_s _ _ _ _
    · simp (disch := omega) only [ao_sI_i]; exact r1
    · simp (disch := omega) only [ao_sI_i]; exact r2
    · have hs : s < ap_S Ψ := hs
      simp (disch := omega) only [ao_sI_i]; exact r3 s hs
    · have hb : b ≤ ap_B Ψ + 1 := hb
      show _ = nI (pz_u (ap_fr Ψ) (ap_B Ψ + 1) (ap_S Ψ) b)
      by_cases q : b = ap_B Ψ + 1
      · subst q
        rw [pz_u_s]
        exact ao_sI_s _ _ _ _
      · rw [pz_u_i q]
        simp (disch := omega) only [ao_sI_i]
        exact r4 b (by omega)
    · have hb : b < ap_B Ψ + 1 := hb
      show _ = nI (pz_u (ap_ek Ψ) (ap_B Ψ) k b) ∧ _ = ao_o (pz_u (ap_ev Ψ) (ap_B Ψ) v b) ∧ _ = ao_o (pz_u (ap_e1 Ψ) (ap_B Ψ) e1 b) ∧ _ = ao_o (pz_u (ap_e2 Ψ) (ap_B Ψ) e2 b)
      simp (disch := omega) only [ao_sI_i]
      by_cases q : b = ap_B Ψ
      · subst q
        rw [pz_u_s, pz_u_s, pz_u_s, pz_u_s]
        exact ⟨c1, c2, c3, c4⟩
      · rw [pz_u_i q, pz_u_i q, pz_u_i q, pz_u_i q]
        exact r5 b (by omega)
    · have he : e < ap_X Ψ := he
      simp (disch := omega) only [ao_sI_i]; exact r6 e he
  · have hb : b < ap_B Ψ + 1 := hb
    show (pz_u (ap_e1 Ψ) (ap_B Ψ) e1 b ≠ none → _ = nI (pz_u q1 (ap_B Ψ) a1 b)) ∧ (pz_u (ap_e2 Ψ) (ap_B Ψ) e2 b ≠ none → _ = nI (pz_u q2 (ap_B Ψ) a2 b))
    rw [ao_sI_o (by omega), ao_sI_o (by omega)]
    by_cases q : b = ap_B Ψ
    · subst q
      rw [pz_u_s, pz_u_s, pz_u_s, pz_u_s]
      exact ⟨d1, d2⟩
    · rw [pz_u_i q, pz_u_i q, pz_u_i q, pz_u_i q]
      exact h.2.2.2 b (by omega)
theorem pz_Bc_pl {σ0 σ : aw_S} {Ψ : ap_T} {q1 q2 : Nat → Nat} {j : Nat} {v : Int32} (h : pz_Bc σ0 Ψ q1 q2 σ) (hj : 2 * ap_B Ψ ≤ j) : pz_Bc σ0 Ψ q1 q2 (aw_sI σ 3 j v) :=
  ⟨⟨h.1.1, fun k h1 h2 h3 => by rw [ao_sI_o h3]; exact h.1.2.1 k h1 h2 h3, fun j h1 h2 h3 => by rw [ao_sI_o (by omega)]; exact h.1.2.2.1 j h1 h2 h3, fun j hj => by rw [ao_sI_o (by omega)]; exact h.1.2.2.2 j hj⟩, by rw [ao_sI_o (by omega)]; exact h.2.1, ap_row_fr h.2.2.1 (ao_sI_o (by omega)), fun b hb => by rw [ao_sI_i (by omega), ao_sI_i (by omega)]; exact h.2.2.2 b hb⟩

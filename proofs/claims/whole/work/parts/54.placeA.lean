/-! ===== the class: placements, their names ===== -/
theorem ag_bitOf (σ : aw_S) (x : Int32) {e : Nat} (he : e < 32) : m_Mo_bitOf σ x (nI e) = some (ao_b (ao_t x e)) := by
  unfold m_Mo_bitOf
  rw [ao_bit he]
def ag_po (how : Bool) : Nat := if how then 69 else 75
theorem ag_po_c (how : Bool) : ag_po how = 69 ∨ ag_po how = 75 := by cases how; exact Or.inr rfl; exact Or.inl rfl
def ag_CL (Γ : ag_T) (how : Bool) (e f : Nat) : Prop := ∃ n, n < ag_N Γ ∧ ag_P Γ e how 2 n ∧ ag_P Γ f how 2 n
/-- a name is taken for e, by one ahead that clashes -/
def ag_tk (Γ : ag_T) (how : Bool) (nm : Nat → Option Nat) (e v : Nat) : Prop := ∃ f, f < e ∧ nm f = some v ∧ ag_CL Γ how e f
/-- names of those that are put in: each the first that is free -/
def ag_nm (Γ : ag_T) (how : Bool) (k : Nat) (nm : Nat → Option Nat) : Prop := ∀ e, e < k → ((∀ n, n < ag_N Γ → ¬ ag_P Γ e how 0 n) → nm e = none) ∧ ((∃ n, n < ag_N Γ ∧ ag_P Γ e how 0 n) → ∃ v, nm e = some v ∧ v ≤ e ∧ ¬ ag_tk Γ how nm e v ∧ ∀ u, u < v → ag_tk Γ how nm e u)
theorem ag_nm_u {Γ : ag_T} {how : Bool} {k : Nat} {nm nm' : Nat → Option Nat} (h : ag_nm Γ how k nm) (h' : ag_nm Γ how k nm') : ∀ e, e < k → nm e = nm' e := by
  intro e
  induction e using Nat.strongRecOn with
  | _ e ih =>
    intro he
    have htk : ∀ v, ag_tk Γ how nm e v ↔ ag_tk Γ how nm' e v := fun v => ⟨fun ⟨f, hf, q, c⟩ => ⟨f, hf, (ih f hf (by omega)) ▸ q, c⟩, fun ⟨f, hf, q, c⟩ => ⟨f, hf, (ih f hf (by omega)).symm ▸ q, c⟩⟩
    by_cases hp : ∃ n, n < ag_N Γ ∧ ag_P Γ e how 0 n
    · obtain ⟨v, e1, _, a1, b1⟩ := (h e he).2 hp
      obtain ⟨v', e2, _, a2, b2⟩ := (h' e he).2 hp
      have : v = v' := by
        rcases Nat.lt_trichotomy v v' with q | q | q
        · exact absurd ((htk v).mpr (b2 v q)) a1
        · exact q
        · exact absurd ((htk v').mp (b1 v' q)) a2
      rw [e1, e2, this]
    · have hp' : ∀ n, n < ag_N Γ → ¬ ag_P Γ e how 0 n := fun n hn q => hp ⟨n, hn, q⟩
      rw [(h e he).1 hp', (h' e he).1 hp']
theorem ap_or {A B : Nat → Prop} (M : Nat) : ao_n (fun v => A v ∨ B v) M ≤ ao_n A M + ao_n B M := by
  induction M with
  | zero => exact Nat.le_refl _
  | succ M ih =>
    by_cases ha : A M
    · rw [ao_n_s1 (X := fun v => A v ∨ B v) (Or.inl ha), ao_n_s1 ha]
      by_cases hb : B M
      · rw [ao_n_s1 hb]; omega
      · rw [ao_n_s0 hb]; omega
    · by_cases hb : B M
      · rw [ao_n_s1 (X := fun v => A v ∨ B v) (Or.inr hb), ao_n_s0 ha, ao_n_s1 hb]; omega
      · rw [ao_n_s0 (X := fun v => A v ∨ B v) (by rintro (q | q); exact ha q; exact hb q), ao_n_s0 ha, ao_n_s0 hb]; omega
theorem ap_one {x : Option Nat} (M : Nat) : ao_n (fun v => x = some v) M ≤ 1 := by
  induction M with
  | zero => exact Nat.zero_le _
  | succ M ih =>
    by_cases h : x = some M
    · rw [ao_n_s1 (X := fun v => x = some v) h]
      have : ao_n (fun v => x = some v) M = 0 := by
        have q : ao_n (fun v => x = some v) M ≤ ao_n (fun _ => False) M := ao_n_mono (fun k hk z => by
          have z : x = some k := z
          rw [h] at z
          cases z
          exact absurd hk (Nat.lt_irrefl _))
        have q2 : ∀ m, ao_n (fun _ => False) m = 0 := by
          intro m
          induction m with
          | zero => rfl
          | succ m ih => rw [ao_n_s0 (X := fun _ => False) id, ih]
        rw [q2] at q
        omega
      omega
    · rw [ao_n_s0 (X := fun v => x = some v) h]; exact ih
theorem ap_pig (nm : Nat → Option Nat) (M : Nat) : ∀ e, ao_n (fun v => ∃ f, f < e ∧ nm f = some v) M ≤ e := by
  intro e
  induction e with
  | zero =>
    refine Nat.le_of_eq ?_
    have q : ao_n (fun v => ∃ f, f < 0 ∧ nm f = some v) M ≤ ao_n (fun v => (none : Option Nat) = some v) M := ao_n_mono (fun k hk ⟨f, hf, _⟩ => absurd hf (Nat.not_lt_zero _))
    have q2 : ∀ m, ao_n (fun v => (none : Option Nat) = some v) m = 0 := by
      intro m
      induction m with
      | zero => rfl
      | succ m ih => rw [ao_n_s0 (X := fun v => (none : Option Nat) = some v) (fun z => by cases z), ih]
    rw [q2] at q
    omega
  | succ e ih =>
    have q : ao_n (fun v => ∃ f, f < e + 1 ∧ nm f = some v) M ≤ ao_n (fun v => (∃ f, f < e ∧ nm f = some v) ∨ nm e = some v) M := ao_n_mono (fun k hk ⟨f, hf, z⟩ => by
      by_cases hfe : f = e
      · subst hfe; exact Or.inr z
      · exact Or.inl ⟨f, by omega, z⟩)
    have q2 := ap_or (A := fun v => ∃ f, f < e ∧ nm f = some v) (B := fun v => nm e = some v) M
    have q3 := ap_one (x := nm e) M
    omega
theorem ag_tk_free (Γ : ag_T) (how : Bool) (nm : Nat → Option Nat) (e : Nat) : ∃ v, v ≤ e ∧ ¬ ag_tk Γ how nm e v := by
  refine Classical.byContradiction fun q => ?_
  have h1 : ∀ v, v < e + 1 → ∃ f, f < e ∧ nm f = some v := fun v hv => Classical.byContradiction fun z => q ⟨v, by omega, fun ⟨f, hf, y, _⟩ => z ⟨f, hf, y⟩⟩
  have h2 := ao_n_all.mpr h1
  have h3 := ap_pig nm (e + 1) e
  omega
def ag_mxn (nm : Nat → Option Nat) : Nat → Nat
  | 0 => 0
  | k + 1 => max (ag_mxn nm k) (match nm k with | none => 0 | some v => v + 1)
theorem ag_mxn_s (nm : Nat → Option Nat) (k : Nat) : ag_mxn nm (k + 1) = max (ag_mxn nm k) (match nm k with | none => 0 | some v => v + 1) := rfl
theorem ag_mxn_c {nm nm' : Nat → Option Nat} {k : Nat} (h : ∀ e, e < k → nm e = nm' e) : ag_mxn nm k = ag_mxn nm' k := by
  induction k with
  | zero => rfl
  | succ k ih =>
    unfold ag_mxn
    rw [ih (fun e he => h e (by omega)), h k (by omega)]
theorem ag_mxn_le {nm : Nat → Option Nat} {k : Nat} (h : ∀ e v, e < k → nm e = some v → v ≤ e) : ag_mxn nm k ≤ k := by
  induction k with
  | zero => exact Nat.le_refl _
  | succ k ih =>
    have h1 := ih (fun e v he => h e v (by omega))
    unfold ag_mxn
    cases q : nm k with
    | none => show max _ 0 ≤ _; omega
    | some v =>
      have := h k v (by omega) q
      show max _ (v + 1) ≤ _
      omega
theorem ag_mx_I {a b : Nat} (ha : a < 2 ^ 31) (hb : b < 2 ^ 31) : aw_mx (nI a) (nI b) = nI (max a b) := by
  unfold aw_mx
  by_cases h : a < b
  · rw [if_pos (nI_lt h hb), Nat.max_eq_right (by omega)]
  · rw [if_neg (nI_nlt (by omega) ha), Nat.max_eq_left (by omega)]
def ag_PA (s : aw_S) (Γ : ag_T) (how : Bool) : Prop :=
  (∀ w, w < 3 → ag_bt s (ag_po how + 1 + w) Γ (fun e => ag_P Γ e how w)) ∧
  (∀ e, e < ag_X Γ → ∀ f, f < 32 → (ao_t (s.1 (ag_po how + 4) e) f ↔ f < ag_X Γ ∧ f ≠ e ∧ ag_CL Γ how e f)) ∧
  ∃ nm, ag_nm Γ how (ag_X Γ) nm ∧ (∀ e, e < ag_X Γ → s.1 (ag_po how + 5) e = ao_o (nm e)) ∧ s.1 (ag_po how) 5 = nI (ag_mxn nm (ag_X Γ))
theorem ag_PA_fr {s s' : aw_S} {Γ : ag_T} {how : Bool} (h : ag_PA s Γ how) (e : ∀ k, k < 6 → s'.1 (ag_po how + k) = s.1 (ag_po how + k)) : ag_PA s' Γ how := by
  obtain ⟨h1, h2, nm, h3, h4, h5⟩ := h
  refine ⟨fun w hw => ag_bt_c (h1 w hw) (by have := e (1 + w) (by omega); rw [show ag_po how + (1 + w) = ag_po how + 1 + w by omega] at this; exact this), fun k hk f hf => by rw [e 4 (by omega)]; exact h2 k hk f hf, nm, h3, fun k hk => by rw [e 5 (by omega)]; exact h4 k hk, (congrFun (e 0 (by omega)) 5).trans h5⟩
set_option maxHeartbeats 4000000 in
theorem ag_alive {σ : aw_S} {Γ : ag_T} (hw : ag_wf Γ) (h : ag_A σ Γ) (how : Bool) (hP : ag_bt σ (ag_po how + 1) Γ (fun e => ag_P Γ e how 0)) (hR : ag_bt σ (ag_po how + 2) Γ (fun e => ag_P Γ e how 1)) {k : aw_S → Option aw_S} {Q : aw_S → Prop}
    (hk : ∀ s, ag_fr (ag_po how + 3) σ s → ag_bt s (ag_po how + 3) Γ (fun e => ag_P Γ e how 2) → ao_ok (k s) Q) :
    ao_ok (aw_bd (aw_lp (fun s => m_Pl_build_B2 s.2 (ag_po how) s.1) aw_fu ((0 : Int32), σ)) (fun x8 => aw_bd (m_Fl_solve x8 (ag_po how + 3) ((-1 : Int32)) ((1 : Int32)) ((0 : Int32))) k)) Q := by
  have hN := hw.1.1
  have hpo := ag_po_c how
  refine ao_bd (ao_imp (ag_tells hN h.1.2.1 (fun n => σ.1 (ag_po how + 2) n) (fun n => -1) (fun n => 0) (fun n => σ.1 (ag_po how + 1) n ^^^ (-1)) ?_ ?_) ?_)
  · intro s i hi hc
    show m_Pl_build_B2 s (ag_po how) (nI i) = _
    have hA := ag_A_ch h hc (by decide) (fun q hq => absurd hq List.not_mem_nil)
    unfold m_Pl_build_B2
    rw [hA.1.2.1, if_neg (nI_ge hi (by omega)), ao_gdn (by omega) (by omega), ao_gdn (by omega) (by omega), nI_clamp (by omega), ag_ct hc (k := ag_po how + 2) (by simp; omega), ag_ct hc (k := ag_po how + 1) (by simp; omega)]
    rfl
  · intro s hc
    show m_Pl_build_B2 s (ag_po how) (nI (ag_N Γ)) = _
    unfold m_Pl_build_B2
    rw [show s.1 24 13 = nI (ag_N Γ) from (congrFun (ag_ct hc (by decide)) 13).trans h.1.2.1, if_pos (nI_le (Nat.le_refl _) (by omega))]
  · rintro s ⟨hc, h2, ht⟩
    have hA := ag_A_ch h hc (by decide) (fun q hq => absurd hq List.not_mem_nil)
    refine ao_bd (ao_imp (ag_solveL hA.1 ht (a := ag_po how + 3) (by simp; omega) 1 (-1)) (fun s' hs => hk s' ⟨hs.2.1.trans h2, fun k hk => ag_keep hc hs.1 hk⟩ (fun n hn e he => ?_)))
    by_cases he2 : e < ag_X Γ
    · refine (hs.2.2 e he (ao_fLI (ag_N Γ) (ag_nx Γ) (ag_US Γ e) (ag_KE Γ e) how) (fun Y m hm => ?_) n hn).trans ⟨fun q => ⟨he2, q⟩, fun q => q.2⟩
      rw [hR m hm e he]
      unfold ao_fLI
      refine or_congr ⟨fun q => q.2, fun q => ⟨he2, q⟩⟩ ⟨fun ⟨_, t, ht, q⟩ => ?_, fun ⟨t, ht, q1, q2⟩ => ⟨ao_t_m1 he, t, ao_nb1.mpr ht, Or.inr ⟨?_, q2⟩⟩⟩
      · have hed := ao_nb1.mp ht
        have htN := ao_ed_lt hw.1 hm hed
        rcases q with q | ⟨q1, q2⟩
        · exact absurd q ao_t_0
        · rw [ao_t_not he, hP t htN e he] at q1
          exact ⟨t, hed, fun z => q1 ⟨he2, z⟩, q2⟩
      · rw [ao_t_not he, hP t (ao_ed_lt hw.1 hm ht) e he]
        exact fun z => q1 z.2
    · refine (hs.2.2 e he (fun Y n => ∃ t, ao_ed (ag_nx Γ) n t ∧ Y t) (fun Y m hm => ?_) n hn).trans ⟨fun q => absurd (q (fun _ => False) (fun m hm ⟨t, _, z⟩ => z)) id, fun q => absurd q.1 he2⟩
      rw [hR m hm e he]
      refine ⟨fun q => ?_, fun ⟨t, ht, q⟩ => Or.inr ⟨ao_t_m1 he, t, ao_nb1.mpr ht, Or.inr ⟨?_, q⟩⟩⟩
      · rcases q with q | ⟨_, t, ht, q⟩
        · exact absurd q.1 he2
        · exact ⟨t, ao_nb1.mp ht, q.elim (fun z => absurd z ao_t_0) (fun z => z.2)⟩
      · rw [ao_t_not he, hP t (ao_ed_lt hw.1 hm ht) e he]
        exact fun z => he2 z.1
set_option maxHeartbeats 4000000 in
theorem ag_clashesA {σ : aw_S} {Γ : ag_T} (hw : ag_wf Γ) (h : ag_A σ Γ) (how : Bool) (hL : ag_bt σ (ag_po how + 3) Γ (fun e => ag_P Γ e how 2)) : ao_ok (m_Pl_findClashes σ (ag_po how)) (fun (s : aw_S) => s.2 = σ.2 ∧ (∀ k, k ≠ ag_po how + 4 → s.1 k = σ.1 k) ∧ ∀ e, e < ag_X Γ → ∀ f, f < 32 → (ao_t (s.1 (ag_po how + 4) e) f ↔ f < ag_X Γ ∧ f ≠ e ∧ ag_CL Γ how e f)) := by
  have hN := hw.1.1
  have hX := hw.2.2.2.2.2.2.1
  have hpo := ag_po_c how
  unfold m_Pl_findClashes
  refine ao_bd (ao_for (Q := fun (s : aw_S) => ao_ok (some s) (fun (s : aw_S) => s.2 = σ.2 ∧ (∀ k, k ≠ ag_po how + 4 → s.1 k = σ.1 k) ∧ ∀ e, e < ag_X Γ → ∀ f, f < 32 → (ao_t (s.1 (ag_po how + 4) e) f ↔ f < ag_X Γ ∧ f ≠ e ∧ ag_CL Γ how e f))) (ag_X Γ) (fun k (s : Int32 × aw_S) => s.1 = nI k ∧ s.2.2 = σ.2 ∧ (∀ k, k ≠ ag_po how + 4 → s.2.1 k = σ.1 k) ∧ ∀ e, e < k → ∀ f, f < 32 → (ao_t (s.2.1 (ag_po how + 4) e) f ↔ f < ag_X Γ ∧ f ≠ e ∧ ag_CL Γ how e f)) (a := 0) ⟨rfl, rfl, fun _ _ => rfl, fun n hn => absurd hn (Nat.not_lt_zero _)⟩ (Nat.zero_le _) (by omega) ?_ ?_)
  · rintro e ⟨v, s⟩ he ⟨e1, h2, hf, hv⟩
    have e1 : v = nI e := e1
    subst e1
    have hf : ∀ k, k ≠ ag_po how + 4 → s.1 k = σ.1 k := hf
    have hA : ag_A s Γ := ag_A_fr h (fun c h1 h2 => hf c (by omega))
    have hL' := ag_bt_c hL (hf (ag_po how + 3) (by omega))
    show ao_ok (m_Pl_findClashes_B2 s (ag_po how) (nI e)) _
    unfold m_Pl_findClashes_B2
    rw [hA.2.2.2.1, if_neg (nI_ge he (by omega))]
    refine ao_bd (ao_imp (ao_for (Q := fun r => ∀ f, f < 32 → (ao_t r f ↔ ∃ n, n < ag_N Γ ∧ ao_t (s.1 (ag_po how + 3) n) e ∧ ao_t (s.1 (ag_po how + 3) n) f)) (ag_N Γ) (fun k t => t.2 = nI k ∧ ∀ f, f < 32 → (ao_t t.1 f ↔ ∃ n, n < k ∧ ao_t (s.1 (ag_po how + 3) n) e ∧ ao_t (s.1 (ag_po how + 3) n) f)) (a := 0) ⟨rfl, fun f hf => ⟨fun q => absurd q ao_t_0, fun ⟨n, hn, _⟩ => absurd hn (Nat.not_lt_zero _)⟩⟩ (Nat.zero_le _) (by omega) ?_ ?_) ?_)
    · rintro k ⟨v3, v4⟩ hk ⟨e2, hi⟩
      have e2 : v4 = nI k := e2
      subst e2
      have hi : ∀ f, f < 32 → (ao_t v3 f ↔ ∃ n, n < k ∧ ao_t (s.1 (ag_po how + 3) n) e ∧ ao_t (s.1 (ag_po how + 3) n) f) := hi
      show ao_ok (m_Pl_findClashes_B18 s (ag_po how) (nI e) v3 (nI k)) _
      unfold m_Pl_findClashes_B18
      rw [hA.1.2.1, if_neg (nI_ge hk (by omega)), ao_gdn (by omega) (by omega), nI_clamp (by omega)]
      refine ao_bde (ag_bitOf s _ (by omega)) ?_
      by_cases q : ao_t (s.1 (ag_po how + 3) k) e
      · refine ao_ifp (ao_b1 q) ?_
        rw [ao_gdn (by omega) (by omega)]
        refine ao_let (ao_let (ao_inr ⟨nI_1 k, fun f hf => ?_⟩))
        show ao_t (v3 ||| _) f ↔ _
        rw [ao_t_or, hi f hf]
        refine ⟨fun z => z.elim (fun ⟨n, hn, y⟩ => ⟨n, by omega, y⟩) (fun z => ⟨k, by omega, q, z⟩), fun ⟨n, hn, y1, y2⟩ => ?_⟩
        by_cases hnk : n = k
        · subst hnk; exact Or.inr y2
        · exact Or.inl ⟨n, by omega, y1, y2⟩
      · refine ao_ifn (by rw [ao_b0 q]; decide) (ao_let (ao_let (ao_inr ⟨nI_1 k, fun f hf => ?_⟩)))
        show ao_t (v3 ||| 0) f ↔ _
        rw [ao_t_or, hi f hf]
        refine ⟨fun z => z.elim (fun ⟨n, hn, y⟩ => ⟨n, by omega, y⟩) (fun z => absurd z ao_t_0), fun ⟨n, hn, y1, y2⟩ => ?_⟩
        by_cases hnk : n = k
        · subst hnk; exact absurd y1 q
        · exact Or.inl ⟨n, by omega, y1, y2⟩
    · rintro ⟨v3, v4⟩ ⟨e2, hi⟩
      have e2 : v4 = nI (ag_N Γ) := e2
      subst e2
      show ao_ok (m_Pl_findClashes_B18 s (ag_po how) (nI e) v3 (nI (ag_N Γ))) _
      unfold m_Pl_findClashes_B18
      rw [hA.1.2.1, if_pos (nI_le (Nat.le_refl _) (by omega))]
      exact ao_inl hi
    · intro r hr
      rw [ao_gdn (by omega) (by omega), nI_clamp (by omega)]
      refine ao_let (ao_let (ao_inr ⟨nI_1 e, h2, fun c hc => (ao_sI_o hc).trans (hf c hc), fun e' he' f hf' => ?_⟩))
      show ao_t ((aw_sI s (ag_po how + 4) e _).1 (ag_po how + 4) e') f ↔ _
      by_cases hee : e' = e
      · subst hee
        rw [ao_sI_s, ao_t_and, ao_t_not hf', ao_t_one (by omega) hf', hr f hf']
        refine ⟨fun ⟨⟨n, hn, y1, y2⟩, q⟩ => ?_, fun ⟨q1, q2, n, hn, y1, y2⟩ => ⟨⟨n, hn, (hL' n hn e' (by omega)).mpr ⟨he, y1⟩, (hL' n hn f hf').mpr ⟨q1, y2⟩⟩, q2⟩⟩
        have z2 := (hL' n hn f hf').mp y2
        exact ⟨z2.1, q, n, hn, ((hL' n hn e' (by omega)).mp y1).2, z2.2⟩
      · rw [ao_sI_i hee]; exact hv e' (by omega) f hf'
  · rintro ⟨v, s⟩ ⟨e1, h2, hf, hv⟩
    have e1 : v = nI (ag_X Γ) := e1
    subst e1
    show ao_ok (m_Pl_findClashes_B2 s (ag_po how) (nI (ag_X Γ))) _
    unfold m_Pl_findClashes_B2
    rw [show s.1 25 3 = nI (ag_X Γ) from (congrFun (hf 25 (by omega)) 3).trans h.2.2.2.1, if_pos (nI_le (Nat.le_refl _) (by omega))]
    exact ao_inl (ao_some ⟨h2, hf, hv⟩)
set_option maxHeartbeats 4000000 in
theorem ag_firstFree {s : aw_S} {Γ : ag_T} (how : Bool) {nm : Nat → Option Nat} {e : Nat} (he : e < ag_X Γ) (hX : ag_X Γ ≤ 24) (hnm : ag_nm Γ how e nm) (hn : ∀ f, f < e → s.1 (ag_po how + 5) f = ao_o (nm f)) (hC : ∀ f, f < 32 → (ao_t (s.1 (ag_po how + 4) e) f ↔ f < ag_X Γ ∧ f ≠ e ∧ ag_CL Γ how e f)) :
    ao_ok (m_Pl_firstFreeName s (ag_po how) (nI e)) (fun r => ∃ v, r = nI v ∧ v ≤ e ∧ ¬ ag_tk Γ how nm e v ∧ ∀ u, u < v → ag_tk Γ how nm e u) := by
  have hlt : ∀ f v, f < e → nm f = some v → v ≤ f := by
    intro f v hf q
    by_cases hp : ∃ n, n < ag_N Γ ∧ ag_P Γ f how 0 n
    · obtain ⟨v', e1, q1, _⟩ := (hnm f hf).2 hp
      rw [q] at e1; cases e1; exact q1
    · rw [(hnm f hf).1 (fun n hn' z => hp ⟨n, hn', z⟩)] at q; cases q
  unfold m_Pl_firstFreeName
  refine ao_bd (ao_imp (ao_for (Q := fun r => ∀ u, u < 32 → (ao_t r u ↔ ag_tk Γ how nm e u)) e (fun k t => t.2 = nI k ∧ ∀ u, u < 32 → (ao_t t.1 u ↔ ∃ f, f < k ∧ nm f = some u ∧ ag_CL Γ how e f)) (a := 0) ⟨rfl, fun f hf => ⟨fun q => absurd q ao_t_0, fun ⟨n, hn, _⟩ => absurd hn (Nat.not_lt_zero _)⟩⟩ (Nat.zero_le _) (by omega) ?_ ?_) ?_)
  · rintro k ⟨v2, v3⟩ hk ⟨e2, hi⟩
    have e2 : v3 = nI k := e2
    subst e2
    have hi : ∀ u, u < 32 → (ao_t v2 u ↔ ∃ f, f < k ∧ nm f = some u ∧ ag_CL Γ how e f) := hi
    show ao_ok (m_Pl_firstFreeName_B4 s (ag_po how) (nI e) v2 (nI k)) _
    unfold m_Pl_firstFreeName_B4
    rw [if_neg (nI_ge hk (by omega)), ao_gdn (by omega) (by omega), nI_clamp (by omega)]
    have hno : (∀ u, ¬ (nm k = some u ∧ ag_CL Γ how e k)) → ao_ok (m_Pl_firstFreeName_J44 s (ag_po how) (nI e) v2 (nI k)) (Sum.elim (fun r => ∀ u, u < 32 → (ao_t r u ↔ ag_tk Γ how nm e u)) (fun t => t.2 = nI (k + 1) ∧ ∀ u, u < 32 → (ao_t t.1 u ↔ ∃ f, f < k + 1 ∧ nm f = some u ∧ ag_CL Γ how e f))) := by
      intro hq
      refine ao_let (ao_inr ⟨nI_1 k, fun u hu => (hi u hu).trans ⟨fun ⟨f, hf, q⟩ => ⟨f, by omega, q⟩, fun ⟨f, hf, q⟩ => ?_⟩⟩)
      by_cases hfk : f = k
      · subst hfk; exact absurd q (hq u)
      · exact ⟨f, by omega, q⟩
    refine ao_bde (ag_bitOf s _ (by omega)) ?_
    by_cases q : ao_t (s.1 (ag_po how + 4) e) k
    · have hcl := ((hC k (by omega)).mp q).2.2
      refine ao_ifp (ao_b1 q) ?_
      rw [ao_gdn (by omega) (by omega), nI_clamp (by omega), hn k hk]
      cases q2 : nm k with
      | none =>
        refine ao_ifp rfl (hno (fun u z => by rw [q2] at z; cases z.1))
      | some v =>
        have hv := hlt k v hk q2
        refine ao_ifn (ao_m1 (by omega)) ?_
        rw [ao_gdn (by omega) (by omega)]
        refine ao_let (ao_let (ao_inr ⟨nI_1 k, fun u hu => ?_⟩))
        show ao_t (v2 ||| ((1 : Int32) <<< (nI v &&& 31))) u ↔ _
        rw [ao_t_or, ao_t_one (by omega) hu, hi u hu]
        refine ⟨fun z => z.elim (fun ⟨f, hf, y⟩ => ⟨f, by omega, y⟩) (fun z => ⟨k, by omega, by rw [q2, z], hcl⟩), fun ⟨f, hf, y1, y2⟩ => ?_⟩
        by_cases hfk : f = k
        · subst hfk; rw [q2] at y1; cases y1; exact Or.inr rfl
        · exact Or.inl ⟨f, by omega, y1, y2⟩
    · refine ao_ifn (by rw [ao_b0 q]; decide) (hno (fun u z => q ((hC k (by omega)).mpr ⟨by omega, by omega, z.2⟩)))
  · rintro ⟨v2, v3⟩ ⟨e2, hi⟩
    have e2 : v3 = nI e := e2
    subst e2
    show ao_ok (m_Pl_firstFreeName_B4 s (ag_po how) (nI e) v2 (nI e)) _
    unfold m_Pl_firstFreeName_B4
    rw [if_pos (nI_le (Nat.le_refl _) (by omega))]
    exact ao_inl hi
  · intro tk htk
    refine ao_bd (ao_for (Q := fun r => ao_ok (some r) (fun r => ∃ v, r = nI v ∧ v ≤ e ∧ ¬ ag_tk Γ how nm e v ∧ ∀ u, u < v → ag_tk Γ how nm e u)) 24 (fun k t => t = nI k ∧ ∀ u, u < k → ag_tk Γ how nm e u) (a := 0) ⟨rfl, fun n hn => absurd hn (Nat.not_lt_zero _)⟩ (Nat.zero_le _) (by omega) ?_ ?_)
    · rintro k t hk ⟨e2, hi⟩
      subst e2
      show ao_ok (m_Pl_firstFreeName_B52 s tk (nI k)) _
      unfold m_Pl_firstFreeName_B52
      rw [if_neg (show ¬ (24 : Int32) ≤ nI k from nI_ge (b := 24) hk (by omega))]
      refine ao_bde (ag_bitOf s _ (by omega)) ?_
      by_cases q : ao_t tk k
      · refine ao_ifp (ao_b1 q) (ao_let (ao_inr ⟨nI_1 k, fun u hu => ?_⟩))
        by_cases huk : u = k
        · subst huk; exact (htk u (by omega)).mp q
        · exact hi u (by omega)
      · refine ao_ifn (by rw [ao_b0 q]; decide) (ao_inl (ao_some ⟨k, rfl, ?_, fun z => q ((htk k (by omega)).mpr z), hi⟩))
        obtain ⟨v, hv, z⟩ := ag_tk_free Γ how nm e
        refine Nat.le_of_not_lt fun y => z (hi v (by omega))
    · rintro t ⟨e2, hi⟩
      obtain ⟨v, hv, z⟩ := ag_tk_free Γ how nm e
      exact absurd (hi v (by omega)) z
set_option maxHeartbeats 4000000 in
theorem ag_shareNames {σ : aw_S} {Γ : ag_T} (hw : ag_wf Γ) (h : ag_A σ Γ) (how : Bool) (hP : ag_bt σ (ag_po how + 1) Γ (fun e => ag_P Γ e how 0)) (hC : ∀ e, e < ag_X Γ → ∀ f, f < 32 → (ao_t (σ.1 (ag_po how + 4) e) f ↔ f < ag_X Γ ∧ f ≠ e ∧ ag_CL Γ how e f)) : ao_ok (m_Pl_shareNames σ (ag_po how)) (fun (s : aw_S) => s.2 = σ.2 ∧ (∀ k, k ≠ ag_po how → k ≠ ag_po how + 5 → s.1 k = σ.1 k) ∧ ∃ nm, ag_nm Γ how (ag_X Γ) nm ∧ (∀ e, e < ag_X Γ → s.1 (ag_po how + 5) e = ao_o (nm e)) ∧ s.1 (ag_po how) 5 = nI (ag_mxn nm (ag_X Γ))) := by
  have hN := hw.1.1
  have hX := hw.2.2.2.2.2.2.1
  have hpo := ag_po_c how
  unfold m_Pl_shareNames
  refine ao_let (ao_bd (ao_for (Q := fun (s : aw_S) => ao_ok (some s) (fun (s : aw_S) => s.2 = σ.2 ∧ (∀ k, k ≠ ag_po how → k ≠ ag_po how + 5 → s.1 k = σ.1 k) ∧ ∃ nm, ag_nm Γ how (ag_X Γ) nm ∧ (∀ e, e < ag_X Γ → s.1 (ag_po how + 5) e = ao_o (nm e)) ∧ s.1 (ag_po how) 5 = nI (ag_mxn nm (ag_X Γ)))) (ag_X Γ) (fun k (s : Int32 × aw_S) => s.1 = nI k ∧ s.2.2 = σ.2 ∧ (∀ k, k ≠ ag_po how → k ≠ ag_po how + 5 → s.2.1 k = σ.1 k) ∧ ∃ nm, ag_nm Γ how k nm ∧ (∀ e, e < k → s.2.1 (ag_po how + 5) e = ao_o (nm e)) ∧ s.2.1 (ag_po how) 5 = nI (ag_mxn nm k)) (a := 0) ⟨rfl, rfl, fun k hk _ => ao_sI_o hk, fun _ => none, fun n hn => absurd hn (Nat.not_lt_zero _), fun n hn => absurd hn (Nat.not_lt_zero _), ao_sI_s _ _ _ _⟩ (Nat.zero_le _) (by omega) ?_ ?_))
  · rintro e ⟨v, s⟩ he ⟨e1, h2, hf, nm, h3, h4, h5⟩
    have e1 : v = nI e := e1
    subst e1
    have hf : ∀ k, k ≠ ag_po how → k ≠ ag_po how + 5 → s.1 k = σ.1 k := hf
    have hA : ag_A s Γ := ag_A_fr h (fun c h1 h2 => hf c (by omega) (by omega))
    have hP' := ag_bt_c hP (hf (ag_po how + 1) (by omega) (by omega))
    have hlt : ∀ f v, f < e → nm f = some v → v ≤ f := by
      intro f v hf q
      by_cases hp : ∃ n, n < ag_N Γ ∧ ag_P Γ f how 0 n
      · obtain ⟨v', e1, q1, _⟩ := (h3 f hf).2 hp
        rw [q] at e1; cases e1; exact q1
      · rw [(h3 f hf).1 (fun n hn' z => hp ⟨n, hn', z⟩)] at q; cases q
    have hmx := ag_mxn_le hlt
    show ao_ok (m_Pl_shareNames_B7 s (ag_po how) (nI e)) _
    unfold m_Pl_shareNames_B7
    rw [hA.2.2.2.1, if_neg (nI_ge he (by omega))]
    have hJ : ∀ x, (∀ v, x = some v → v ≤ e) → ((∀ n, n < ag_N Γ → ¬ ag_P Γ e how 0 n) → x = none) → ((∃ n, n < ag_N Γ ∧ ag_P Γ e how 0 n) → ∃ v, x = some v ∧ v ≤ e ∧ ¬ ag_tk Γ how nm e v ∧ ∀ u, u < v → ag_tk Γ how nm e u) → ao_ok (m_Pl_shareNames_J46 s (ag_po how) (nI e) (ag_po how + 5) (nI e) (ao_o x)) (Sum.elim (fun s => ao_ok (some s) (fun (s : aw_S) => s.2 = σ.2 ∧ (∀ k, k ≠ ag_po how → k ≠ ag_po how + 5 → s.1 k = σ.1 k) ∧ ∃ nm, ag_nm Γ how (ag_X Γ) nm ∧ (∀ e, e < ag_X Γ → s.1 (ag_po how + 5) e = ao_o (nm e)) ∧ s.1 (ag_po how) 5 = nI (ag_mxn nm (ag_X Γ)))) (fun s => s.1 = nI (e + 1) ∧ s.2.2 = σ.2 ∧ (∀ k, k ≠ ag_po how → k ≠ ag_po how + 5 → s.2.1 k = σ.1 k) ∧ ∃ nm, ag_nm Γ how (e + 1) nm ∧ (∀ f, f < e + 1 → s.2.1 (ag_po how + 5) f = ao_o (nm f)) ∧ s.2.1 (ag_po how) 5 = nI (ag_mxn nm (e + 1)))) := by
      intro x hx0 hx1 hx2
      obtain ⟨nm', hnm'⟩ : ∃ nm' : Nat → Option Nat, nm' = fun f => if f = e then x else nm f := ⟨_, rfl⟩
      have ne : nm' e = x := by rw [hnm']; exact if_pos rfl
      have no : ∀ f, f < e → nm' f = nm f := fun f hf' => by rw [hnm']; exact if_neg (by omega)
      have htk : ∀ f v, f ≤ e → (ag_tk Γ how nm' f v ↔ ag_tk Γ how nm f v) := fun f v hfe => ⟨fun ⟨g, hg, q, c⟩ => ⟨g, hg, (no g (by omega)) ▸ q, c⟩, fun ⟨g, hg, q, c⟩ => ⟨g, hg, (no g (by omega)).symm ▸ q, c⟩⟩
      unfold m_Pl_shareNames_J46
      rw [ao_gdn (by omega) (by omega), nI_clamp (by omega)]
      refine ao_let ?_
      rw [ao_gdn (by omega) (by omega), ao_sI_s, ao_sI_o (show ag_po how ≠ ag_po how + 5 by omega)]
      refine ao_let (ao_let (ao_inr ⟨nI_1 e, h2, fun c hc1 hc2 => (ao_sI_o hc1).trans ((ao_sI_o hc2).trans (hf c hc1 hc2)), nm', fun f hf' => ?_, fun f hf' => ?_, ?_⟩))
      · by_cases hfe : f = e
        · subst hfe
          rw [ne]
          exact ⟨hx1, fun hp => by
            obtain ⟨v, y1, y2, y3, y4⟩ := hx2 hp
            exact ⟨v, y1, y2, fun z => y3 ((htk f v (by omega)).mp z), fun u hu => (htk f u (by omega)).mpr (y4 u hu)⟩⟩
        · rw [no f (by omega)]
          refine ⟨(h3 f (by omega)).1, fun hp => ?_⟩
          obtain ⟨v, y1, y2, y3, y4⟩ := (h3 f (by omega)).2 hp
          exact ⟨v, y1, y2, fun z => y3 ((htk f v (by omega)).mp z), fun u hu => (htk f u (by omega)).mpr (y4 u hu)⟩
      · show (aw_sI (aw_sI s (ag_po how + 5) e (ao_o x)) (ag_po how) 5 _).1 (ag_po how + 5) f = _
        rw [ao_sI_o (by omega)]
        by_cases hfe : f = e
        · subst hfe; rw [ao_sI_s, ne]
        · rw [ao_sI_i hfe, no f (by omega)]; exact h4 f (by omega)
      · show (aw_sI (aw_sI s (ag_po how + 5) e (ao_o x)) (ag_po how) 5 _).1 (ag_po how) 5 = _
        have h5 : s.1 (ag_po how) 5 = nI (ag_mxn nm e) := h5
        rw [ao_sI_s, h5]
        rw [ag_mxn_s, ne, ag_mxn_c no]
        cases q : x with
        | none => rw [show ao_o none + 1 = nI 0 from by decide, ag_mx_I (by omega) (by omega)]
        | some v =>
          have := hx0 v q
          rw [show ao_o (some v) + 1 = nI (v + 1) from nI_1 v, ag_mx_I (by omega) (by omega)]
    refine ao_bde (ag_nodesWith hN hA.1.2.1) ?_
    have hcount : ∀ n, n < ag_N Γ → ((s.1 (ag_po how + 1) n &&& ((1 : Int32) <<< (nI e &&& 31))) ≠ 0 ↔ ag_P Γ e how 0 n) := by
      intro n hn
      rw [Ne, ao_and1 (by omega), Classical.not_not, hP' n hn e (by omega)]
      exact ⟨fun q => q.2, fun q => ⟨he, q⟩⟩
    have hle := ao_n_le (fun n => (s.1 (ag_po how + 1) n &&& ((1 : Int32) <<< (nI e &&& 31))) ≠ 0) (ag_N Γ)
    rw [ao_n_c hcount] at hle ⊢
    refine ao_if (fun q => ?_) (fun q => ?_)
    · have h0 : ao_n (ag_P Γ e how 0) (ag_N Γ) = 0 := (nI_eq (by omega) (by omega)).mp (q.trans nI_0.symm)
      have hnone : ∀ n, n < ag_N Γ → ¬ ag_P Γ e how 0 n := by
        intro n hn z
        have hlt' := ao_n_lt (X := fun _ => False) (Y := ag_P Γ e how 0) (n := ag_N Γ) (i := n) (fun k _ y => y.elim) hn z id
        omega
      exact hJ none (fun v z => by cases z) (fun _ => rfl) (fun ⟨n, hn, z⟩ => absurd z (hnone n hn))
    · have hsome : ∃ n, n < ag_N Γ ∧ ag_P Γ e how 0 n := Classical.byContradiction fun z => q (by
        have : ao_n (ag_P Γ e how 0) (ag_N Γ) ≤ ao_n (fun v => (none : Option Nat) = some v) (ag_N Γ) := ao_n_mono (fun k hk y => absurd ⟨k, hk, y⟩ z)
        have q2 : ∀ m, ao_n (fun v => (none : Option Nat) = some v) m = 0 := by
          intro m
          induction m with
          | zero => rfl
          | succ m ih => rw [ao_n_s0 (X := fun v => (none : Option Nat) = some v) (fun z => by cases z), ih]
        rw [q2] at this
        rw [show ao_n (ag_P Γ e how 0) (ag_N Γ) = 0 by omega]; rfl)
      refine ao_bd (ao_imp (ag_firstFree how he hX h3 h4 (by rw [hf (ag_po how + 4) (by omega) (by omega)]; exact hC e he)) ?_)
      rintro r ⟨v, rfl, hv1, hv2, hv3⟩
      exact hJ (some v) (fun v' z => by cases z; exact hv1) (fun z => absurd hsome (fun ⟨n, hn, y⟩ => z n hn y)) (fun _ => ⟨v, rfl, hv1, hv2, hv3⟩)
  · rintro ⟨v, s⟩ ⟨e1, h2, hf, hnm⟩
    have e1 : v = nI (ag_X Γ) := e1
    subst e1
    show ao_ok (m_Pl_shareNames_B7 s (ag_po how) (nI (ag_X Γ))) _
    unfold m_Pl_shareNames_B7
    rw [show s.1 25 3 = nI (ag_X Γ) from (congrFun (hf 25 (by omega) (by omega)) 3).trans h.2.2.2.1, if_pos (nI_le (Nat.le_refl _) (by omega))]
    exact ao_inl (ao_some ⟨h2, hf, hnm⟩)
theorem ag_plBuild {σ : aw_S} {Γ : ag_T} (hw : ag_wf Γ) (h : ag_A σ Γ) (how : Bool) (hP : ag_bt σ (ag_po how + 1) Γ (fun e => ag_P Γ e how 0)) (hR : ag_bt σ (ag_po how + 2) Γ (fun e => ag_P Γ e how 1)) : ao_ok (m_Pl_build σ (ag_po how)) (fun (s : aw_S) => s.2 = σ.2 ∧ (∀ k, k ≠ 43 ∧ k ≠ 44 ∧ k ≠ 45 ∧ k ≠ 46 → (k < ag_po how ∨ ag_po how + 5 < k) → s.1 k = σ.1 k) ∧ ag_PA s Γ how) := by
  have hpo := ag_po_c how
  unfold m_Pl_build
  refine ag_alive hw h how hP hR (fun s2 f2 l2 => ?_)
  have A2 := ag_fr_A f2 (by omega) h
  refine ao_bd (ao_imp (ag_clashesA hw A2 how l2) ?_)
  rintro s3 ⟨p3, f3, c3⟩
  have A3 : ag_A s3 Γ := ag_A_fr A2 (fun c h1 h2 => f3 c (by omega))
  have P3 := ag_bt_c hP ((f3 (ag_po how + 1) (by omega)).trans (f2.2 (ag_po how + 1) (by omega)))
  have R3 := ag_bt_c hR ((f3 (ag_po how + 2) (by omega)).trans (f2.2 (ag_po how + 2) (by omega)))
  refine ao_bd (ao_imp (ag_shareNames hw A3 how P3 c3) ?_)
  rintro s4 ⟨p4, f4, nm, n4⟩
  refine ao_some ⟨p4.trans (p3.trans f2.1), fun k hk hk2 => ?_, fun w hw3 => ?_, fun e he f hf => ?_, nm, n4⟩
  · rw [f4 k (by omega) (by omega), f3 k (by omega), f2.2 k (by omega)]
  · rcases (show w = 0 ∨ w = 1 ∨ w = 2 by omega) with rfl | rfl | rfl
    · exact ag_bt_c P3 (f4 (ag_po how + 1) (by omega) (by omega))
    · exact ag_bt_c R3 (f4 (ag_po how + 2) (by omega) (by omega))
    · exact ag_bt_c l2 ((f4 (ag_po how + 3) (by omega) (by omega)).trans (f3 (ag_po how + 3) (by omega)))
  · rw [f4 (ag_po how + 4) (by omega) (by omega)]
    exact c3 e he f hf

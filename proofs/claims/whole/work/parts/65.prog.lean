/-! ===== THE PROGRAM AS IT IS READ: blocks; statements (kind, left, right) by block; ends (kind, letter, targets); expressions ===== -/
abbrev ap_T : Type := (Nat × Nat × (Nat → Nat)) × ((Nat → Nat) × (Nat → Option Nat) × (Nat → Nat)) × ((Nat → Nat) × (Nat → Option Nat) × (Nat → Option Nat) × (Nat → Option Nat)) × (Nat × (Nat → Nat) × (Nat → Nat) × (Nat → Nat))
def ap_B (Ψ : ap_T) : Nat := Ψ.1.1
def ap_S (Ψ : ap_T) : Nat := Ψ.1.2.1
/-- the first statement of a block -/
def ap_fr (Ψ : ap_T) : Nat → Nat := Ψ.1.2.2
def ap_sk (Ψ : ap_T) : Nat → Nat := Ψ.2.1.1
def ap_sl (Ψ : ap_T) : Nat → Option Nat := Ψ.2.1.2.1
def ap_sr (Ψ : ap_T) : Nat → Nat := Ψ.2.1.2.2
def ap_ek (Ψ : ap_T) : Nat → Nat := Ψ.2.2.1.1
def ap_ev (Ψ : ap_T) : Nat → Option Nat := Ψ.2.2.1.2.1
def ap_e1 (Ψ : ap_T) : Nat → Option Nat := Ψ.2.2.1.2.2.1
def ap_e2 (Ψ : ap_T) : Nat → Option Nat := Ψ.2.2.1.2.2.2
def ap_X (Ψ : ap_T) : Nat := Ψ.2.2.2.1
def ap_sg (Ψ : ap_T) : Nat → Nat := Ψ.2.2.2.2.1
def ap_lf (Ψ : ap_T) : Nat → Nat := Ψ.2.2.2.2.2.1
def ap_rt (Ψ : ap_T) : Nat → Nat := Ψ.2.2.2.2.2.2
def ap_sok (Ψ : ap_T) (s : Nat) : Prop := (ap_sk Ψ s = 1 ∧ (∃ v, v < 26 ∧ ap_sl Ψ s = some v) ∧ ap_sr Ψ s < 1026) ∨ (ap_sk Ψ s = 2 ∧ (∃ v, v < 26 ∧ ap_sl Ψ s = some v) ∧ ap_sr Ψ s < ap_X Ψ) ∨ (ap_sk Ψ s = 3 ∧ ap_sl Ψ s = none ∧ ap_sr Ψ s < 1026)
def ap_eok (Ψ : ap_T) (b : Nat) : Prop := (ap_ek Ψ b = 4 ∧ ap_ev Ψ b = none ∧ (∃ t, t < ap_B Ψ ∧ ap_e1 Ψ b = some t) ∧ ap_e2 Ψ b = none) ∨ (ap_ek Ψ b = 5 ∧ (∃ v, v < 26 ∧ ap_ev Ψ b = some v) ∧ (∃ t, t < ap_B Ψ ∧ ap_e1 Ψ b = some t) ∧ ∃ t, t < ap_B Ψ ∧ ap_e2 Ψ b = some t) ∨ (ap_ek Ψ b = 6 ∧ ap_ev Ψ b = none ∧ ap_e1 Ψ b = none ∧ ap_e2 Ψ b = none)
def ap_wf (Ψ : ap_T) : Prop :=
  0 < ap_B Ψ ∧ ap_B Ψ ≤ 16 ∧ ap_S Ψ ≤ 60 ∧ ap_fr Ψ 0 = 0 ∧ (∀ b, b < ap_B Ψ → ap_fr Ψ b ≤ ap_fr Ψ (b + 1)) ∧ ap_fr Ψ (ap_B Ψ) = ap_S Ψ ∧ (∀ s, s < ap_S Ψ → ap_sok Ψ s) ∧ (∀ b, b < ap_B Ψ → ap_eok Ψ b) ∧ ap_X Ψ ≤ 24 ∧ ∀ e, e < ap_X Ψ → ap_sg Ψ e ∈ ag_sgs ∧ ap_lf Ψ e < 1026 ∧ ap_rt Ψ e < 1026
/-- a block that can be come to -/
def ap_fRB (Ψ : ap_T) (Y : Nat → Prop) (b : Nat) : Prop := b = 0 ∨ ∃ a, a < ap_B Ψ ∧ Y a ∧ (ap_e1 Ψ a = some b ∨ ap_e2 Ψ a = some b)
def ap_RB (Ψ : ap_T) : Nat → Prop := ao_L (ap_B Ψ) (ap_fRB Ψ)
/-- the node at which a block begins -/
noncomputable def ap_bg (Ψ : ap_T) : Nat → Nat
  | 0 => 1
  | b + 1 => ap_bg Ψ b + @ite _ (ap_RB Ψ b) (Classical.propDecidable _) (ap_fr Ψ (b + 1) - ap_fr Ψ b + 1) 0
theorem ap_bg_s1 {Ψ : ap_T} {b : Nat} (h : ap_RB Ψ b) : ap_bg Ψ (b + 1) = ap_bg Ψ b + (ap_fr Ψ (b + 1) - ap_fr Ψ b + 1) := by show ap_bg Ψ b + _ = _; rw [if_pos h]
theorem ap_bg_s0 {Ψ : ap_T} {b : Nat} (h : ¬ ap_RB Ψ b) : ap_bg Ψ (b + 1) = ap_bg Ψ b := by show ap_bg Ψ b + _ = _; rw [if_neg h]; rfl
theorem ap_bg_mono {Ψ : ap_T} {a b : Nat} (h : a ≤ b) : ap_bg Ψ a ≤ ap_bg Ψ b := by
  induction b with
  | zero => rw [show a = 0 by omega]; exact Nat.le_refl _
  | succ b ih =>
    by_cases q : a = b + 1
    · rw [q]; exact Nat.le_refl _
    · exact Nat.le_trans (ih (by omega)) (by show _ ≤ ap_bg Ψ b + _; omega)
theorem ap_bg_pos {Ψ : ap_T} {b : Nat} : 1 ≤ ap_bg Ψ b := ap_bg_mono (a := 0) (Nat.zero_le b)
theorem ap_RB_0 (Ψ : ap_T) : 0 < ap_B Ψ → ap_RB Ψ 0 := fun h Y hY => hY 0 h (Or.inl rfl)
theorem ap_RB_s {Ψ : ap_T} {a b : Nat} (ha : a < ap_B Ψ) (hb : b < ap_B Ψ) (h : ap_RB Ψ a) (he : ap_e1 Ψ a = some b ∨ ap_e2 Ψ a = some b) : ap_RB Ψ b := fun Y hY => hY b hb (Or.inr ⟨a, ha, h Y hY, he⟩)
/-- the block of a node, among the first k -/
noncomputable def ap_at (Ψ : ap_T) (n : Nat) : Nat → Option Nat
  | 0 => none
  | k + 1 => @ite _ (ap_RB Ψ k ∧ ap_bg Ψ k ≤ n ∧ n < ap_bg Ψ (k + 1)) (Classical.propDecidable _) (some k) (ap_at Ψ n k)
theorem ap_at_some {Ψ : ap_T} {n k b : Nat} (h : ap_at Ψ n k = some b) : b < k ∧ ap_RB Ψ b ∧ ap_bg Ψ b ≤ n ∧ n < ap_bg Ψ (b + 1) := by
  induction k with
  | zero => cases h
  | succ k ih =>
    unfold ap_at at h
    by_cases q : ap_RB Ψ k ∧ ap_bg Ψ k ≤ n ∧ n < ap_bg Ψ (k + 1)
    · rw [if_pos q] at h; cases h; exact ⟨by omega, q⟩
    · rw [if_neg q] at h
      obtain ⟨h1, h2⟩ := ih h
      exact ⟨by omega, h2⟩
theorem ap_at_of {Ψ : ap_T} {n k b : Nat} (hb : b < k) (hr : ap_RB Ψ b) (h1 : ap_bg Ψ b ≤ n) (h2 : n < ap_bg Ψ (b + 1)) : ap_at Ψ n k = some b := by
  induction k with
  | zero => omega
  | succ k ih =>
    unfold ap_at
    by_cases q : b = k
    · subst q; rw [if_pos ⟨hr, h1, h2⟩]
    · rw [if_neg (fun z => by have := ap_bg_mono (Ψ := Ψ) (show b + 1 ≤ k by omega); omega)]
      exact ih (by omega)
theorem ap_at_none {Ψ : ap_T} {n k : Nat} (h : n = 0 ∨ ap_bg Ψ k ≤ n) : ap_at Ψ n k = none := by
  cases q : ap_at Ψ n k with
  | none => rfl
  | some b =>
    obtain ⟨h1, h2, h3, h4⟩ := ap_at_some q
    have := ap_bg_mono (Ψ := Ψ) (show b + 1 ≤ k by omega)
    have := ap_bg_pos (Ψ := Ψ) (b := b)
    omega
theorem ap_at_ex {Ψ : ap_T} {n k : Nat} (h0 : 0 < n) (h : n < ap_bg Ψ k) : ∃ b, ap_at Ψ n k = some b := by
  induction k with
  | zero => exact absurd h (by show ¬ n < 1; omega)
  | succ k ih =>
    by_cases q : ap_RB Ψ k ∧ ap_bg Ψ k ≤ n ∧ n < ap_bg Ψ (k + 1)
    · exact ⟨k, ap_at_of (by omega) q.1 q.2.1 q.2.2⟩
    · have hlt : n < ap_bg Ψ k := by
        refine Nat.lt_of_not_le fun z => ?_
        by_cases hr : ap_RB Ψ k
        · exact q ⟨hr, z, h⟩
        · rw [ap_bg_s0 hr] at h; omega
      obtain ⟨b, hb⟩ := ih hlt
      obtain ⟨h1, h2, h3, h4⟩ := ap_at_some hb
      exact ⟨b, ap_at_of (by omega) h2 h3 h4⟩
/-- how many statements a block has -/
def ap_len (Ψ : ap_T) (b : Nat) : Nat := ap_fr Ψ (b + 1) - ap_fr Ψ b
/-- the line of a node: none (a skip), a statement, the end of a block -/
noncomputable def ap_li (Ψ : ap_T) (n : Nat) : Option (Nat × Option Nat) := match ap_at Ψ n (ap_B Ψ) with
  | none => none
  | some b => some (b, if n - ap_bg Ψ b < ap_len Ψ b then some (ap_fr Ψ b + (n - ap_bg Ψ b)) else none)
def ap_nk (Ψ : ap_T) : Option (Nat × Option Nat) → Nat
  | none => 0
  | some (_, some s) => ap_sk Ψ s
  | some (b, none) => ap_ek Ψ b
def ap_nl (Ψ : ap_T) : Option (Nat × Option Nat) → Option Nat
  | none => none
  | some (_, some s) => ap_sl Ψ s
  | some (b, none) => ap_ev Ψ b
def ap_nop (Ψ : ap_T) : Option (Nat × Option Nat) → Option Nat
  | none => none
  | some (_, some s) => if ap_sk Ψ s = 2 then none else some (ap_sr Ψ s)
  | some (_, none) => none
def ap_nex (Ψ : ap_T) : Option (Nat × Option Nat) → Option Nat
  | none => none
  | some (_, some s) => if ap_sk Ψ s = 2 then some (ap_sr Ψ s) else none
  | some (_, none) => none
def ap_n1 (Ψ : ap_T) : Option (Nat × Option Nat) → Option Nat
  | some (b, none) => ap_e1 Ψ b
  | _ => none
def ap_n2 (Ψ : ap_T) : Option (Nat × Option Nat) → Option Nat
  | some (b, none) => ap_e2 Ψ b
  | _ => none
/-- edges ahead of the splitting -/
noncomputable def ap_x0 (Ψ : ap_T) (k : Nat) : Option Nat :=
  if k / 2 = 0 then (if k = 0 then some 1 else none) else match ap_li Ψ (k / 2) with
  | none => none
  | some (_, some _) => if k % 2 = 0 then some (k / 2 + 1) else none
  | some (b, none) => if k % 2 = 0 then (ap_e1 Ψ b).map (ap_bg Ψ) else if ap_e2 Ψ b = ap_e1 Ψ b then none else (ap_e2 Ψ b).map (ap_bg Ψ)
/-- how many nodes there are ahead of the splitting -/
noncomputable def ap_N0 (Ψ : ap_T) : Nat := ap_bg Ψ (ap_B Ψ)
/-- two edges or more come there -/
def ap_ct (N : Nat) (nx : Nat → Option Nat) (t : Nat) : Prop := ∃ i j, i < j ∧ j < 2 * N ∧ nx i = some t ∧ nx j = some t
/-- the splitting, place by place -/
noncomputable def ap_sp (N0 : Nat) (nx0 : Nat → Option Nat) : Nat → Nat × (Nat → Option Nat)
  | 0 => (N0, nx0)
  | k + 1 => match nx0 k with
    | none => ap_sp N0 nx0 k
    | some t => @ite _ (nx0 (2 * (k / 2) + 1) ≠ none ∧ ap_ct N0 nx0 t) (Classical.propDecidable _) ((ap_sp N0 nx0 k).1 + 1, fun j => if j = k then some (ap_sp N0 nx0 k).1 else if j = 2 * (ap_sp N0 nx0 k).1 then some t else if j = 2 * (ap_sp N0 nx0 k).1 + 1 then none else (ap_sp N0 nx0 k).2 j) (ap_sp N0 nx0 k)
noncomputable def ap_gr (Ψ : ap_T) : ag_T := (ap_sp (ap_N0 Ψ) (ap_x0 Ψ) (2 * ap_N0 Ψ), (fun n => ap_nk Ψ (ap_li Ψ n), fun n => (ap_li Ψ n).map (fun q => q.1), fun n => ap_nl Ψ (ap_li Ψ n), fun n => ap_nop Ψ (ap_li Ψ n), fun n => ap_nex Ψ (ap_li Ψ n), fun n => ap_n1 Ψ (ap_li Ψ n), fun n => ap_n2 Ψ (ap_li Ψ n)), (ap_X Ψ, ap_sg Ψ, ap_lf Ψ, ap_rt Ψ), ap_B Ψ)
/-! ===== it is a sound graph ===== -/
theorem ap_fr_mono {Ψ : ap_T} (hw : ap_wf Ψ) {a b : Nat} (h : a ≤ b) (hb : b ≤ ap_B Ψ) : ap_fr Ψ a ≤ ap_fr Ψ b := by
  induction b with
  | zero => rw [show a = 0 by omega]; exact Nat.le_refl _
  | succ b ih =>
    by_cases q : a = b + 1
    · rw [q]; exact Nat.le_refl _
    · exact Nat.le_trans (ih (by omega) (by omega)) (hw.2.2.2.2.1 b (by omega))
theorem ap_bg_le {Ψ : ap_T} (hw : ap_wf Ψ) {b : Nat} (hb : b ≤ ap_B Ψ) : ap_bg Ψ b ≤ 1 + ap_fr Ψ b + b := by
  induction b with
  | zero => show 1 ≤ _; omega
  | succ b ih =>
    have h1 := ih (by omega)
    have h2 := hw.2.2.2.2.1 b (by omega)
    by_cases q : ap_RB Ψ b
    · rw [ap_bg_s1 q]; omega
    · rw [ap_bg_s0 q]; omega
theorem ap_N0_le {Ψ : ap_T} (hw : ap_wf Ψ) : ap_N0 Ψ ≤ 77 := by
  have := ap_bg_le hw (Nat.le_refl (ap_B Ψ))
  obtain ⟨h1, h2, h3, h4, h5, h6, h7⟩ := hw
  unfold ap_N0
  rw [h6] at this
  omega
theorem ap_li_none {Ψ : ap_T} {n : Nat} (h : n = 0 ∨ ap_N0 Ψ ≤ n) : ap_li Ψ n = none := by
  unfold ap_li
  rw [ap_at_none h]
/-- a statement's node -/
theorem ap_li_s {Ψ : ap_T} (hw : ap_wf Ψ) {b s : Nat} (hb : b < ap_B Ψ) (hr : ap_RB Ψ b) (h1 : ap_fr Ψ b ≤ s) (h2 : s < ap_fr Ψ (b + 1)) : ap_li Ψ (ap_bg Ψ b + (s - ap_fr Ψ b)) = some (b, some s) := by
  unfold ap_li
  rw [ap_at_of hb hr (by omega) (by rw [ap_bg_s1 hr]; omega)]
  show some (b, if _ then _ else _) = _
  rw [if_pos (by unfold ap_len; omega), show ap_fr Ψ b + (ap_bg Ψ b + (s - ap_fr Ψ b) - ap_bg Ψ b) = s by omega]
/-- an end's node -/
theorem ap_li_e {Ψ : ap_T} {b : Nat} (hb : b < ap_B Ψ) (hr : ap_RB Ψ b) : ap_li Ψ (ap_bg Ψ b + ap_len Ψ b) = some (b, none) := by
  unfold ap_li
  rw [ap_at_of hb hr (by omega) (by rw [ap_bg_s1 hr]; unfold ap_len; omega)]
  show some (b, if _ then _ else _) = _
  rw [if_neg (by omega)]
/-- every node is one of them -/
theorem ap_li_ex {Ψ : ap_T} (hw : ap_wf Ψ) {n : Nat} (h0 : 0 < n) (h : n < ap_N0 Ψ) : (∃ b s, b < ap_B Ψ ∧ ap_RB Ψ b ∧ ap_fr Ψ b ≤ s ∧ s < ap_fr Ψ (b + 1) ∧ n = ap_bg Ψ b + (s - ap_fr Ψ b) ∧ ap_li Ψ n = some (b, some s)) ∨ (∃ b, b < ap_B Ψ ∧ ap_RB Ψ b ∧ n = ap_bg Ψ b + ap_len Ψ b ∧ ap_li Ψ n = some (b, none)) := by
  obtain ⟨b, hb⟩ := ap_at_ex h0 h
  obtain ⟨h1, h2, h3, h4⟩ := ap_at_some hb
  rw [ap_bg_s1 h2] at h4
  by_cases q : n - ap_bg Ψ b < ap_len Ψ b
  · have q' := q
    unfold ap_len at q'
    refine Or.inl ⟨b, ap_fr Ψ b + (n - ap_bg Ψ b), h1, h2, by omega, by omega, by omega, ?_⟩
    unfold ap_li
    rw [hb]
    show some (b, if _ then _ else _) = _
    rw [if_pos q]
  · have q' := q
    unfold ap_len at q'
    refine Or.inr ⟨b, h1, h2, by unfold ap_len; omega, ?_⟩
    unfold ap_li
    rw [hb]
    show some (b, if _ then _ else _) = _
    rw [if_neg q]
theorem ap_s_lt {Ψ : ap_T} (hw : ap_wf Ψ) {b s : Nat} (hb : b < ap_B Ψ) (h : s < ap_fr Ψ (b + 1)) : s < ap_S Ψ := by
  have := ap_fr_mono hw (show b + 1 ≤ ap_B Ψ by omega) (Nat.le_refl _)
  rw [hw.2.2.2.2.2.1] at this
  omega
theorem ap_x0_0 (Ψ : ap_T) : ap_x0 Ψ 0 = some 1 ∧ ap_x0 Ψ 1 = none := ⟨rfl, rfl⟩
theorem ap_x0_s {Ψ : ap_T} {n : Nat} (h0 : 0 < n) {b s : Nat} (h : ap_li Ψ n = some (b, some s)) : ap_x0 Ψ (2 * n) = some (n + 1) ∧ ap_x0 Ψ (2 * n + 1) = none := by
  have e : n ≠ 0 := by omega
  refine ⟨?_, ?_⟩
  · unfold ap_x0
    rw [show 2 * n / 2 = n by omega, if_neg e, h]
    exact if_pos (by omega)
  · unfold ap_x0
    rw [show (2 * n + 1) / 2 = n by omega, if_neg e, h]
    exact if_neg (by omega)
theorem ap_x0_e {Ψ : ap_T} {n : Nat} (h0 : 0 < n) {b : Nat} (h : ap_li Ψ n = some (b, none)) : ap_x0 Ψ (2 * n) = (ap_e1 Ψ b).map (ap_bg Ψ) ∧ ap_x0 Ψ (2 * n + 1) = if ap_e2 Ψ b = ap_e1 Ψ b then none else (ap_e2 Ψ b).map (ap_bg Ψ) := by
  have e : n ≠ 0 := by omega
  refine ⟨?_, ?_⟩
  · unfold ap_x0
    rw [show 2 * n / 2 = n by omega, if_neg e, h]
    exact if_pos (by omega)
  · unfold ap_x0
    rw [show (2 * n + 1) / 2 = n by omega, if_neg e, h]
    exact if_neg (by omega)
theorem ap_bg_lt {Ψ : ap_T} {b : Nat} (hb : b < ap_B Ψ) (hr : ap_RB Ψ b) : ap_bg Ψ b < ap_N0 Ψ := by
  have := ap_bg_mono (Ψ := Ψ) (show b + 1 ≤ ap_B Ψ by omega)
  rw [ap_bg_s1 hr] at this
  unfold ap_N0
  omega
theorem ap_bg_inj {Ψ : ap_T} {a b : Nat} (ha : ap_RB Ψ a) (hb : ap_RB Ψ b) (h : ap_bg Ψ a = ap_bg Ψ b) : a = b := by
  rcases Nat.lt_trichotomy a b with q | q | q
  · have := ap_bg_mono (Ψ := Ψ) (show a + 1 ≤ b by omega)
    rw [ap_bg_s1 ha] at this
    omega
  · exact q
  · have := ap_bg_mono (Ψ := Ψ) (show b + 1 ≤ a by omega)
    rw [ap_bg_s1 hb] at this
    omega
/-- edges ahead of the splitting are sound -/
theorem ap_x0_lt {Ψ : ap_T} (hw : ap_wf Ψ) {k t : Nat} (hk : k < 2 * ap_N0 Ψ) (h : ap_x0 Ψ k = some t) : 0 < t ∧ t < ap_N0 Ψ := by
  have h1 := ap_bg_lt hw.1 (ap_RB_0 Ψ hw.1)
  have h2 : ap_bg Ψ 0 = 1 := rfl
  by_cases q0 : k / 2 = 0
  · rcases (show k = 0 ∨ k = 1 by omega) with rfl | rfl
    · rw [(ap_x0_0 Ψ).1] at h; cases h; omega
    · rw [(ap_x0_0 Ψ).2] at h; cases h
  · have hpos : ∀ b, 0 < ap_bg Ψ b := fun b => ap_bg_pos
    rcases ap_li_ex hw (n := k / 2) (by omega) (by omega) with ⟨b, s, hb, hr, hs1, hs2, hn, hl⟩ | ⟨b, hb, hr, hn, hl⟩
    · obtain ⟨x1, x2⟩ := ap_x0_s (by omega) hl
      rcases (show k = 2 * (k / 2) ∨ k = 2 * (k / 2) + 1 by omega) with q | q
      · rw [q, x1] at h
        cases h
        have := ap_bg_mono (Ψ := Ψ) (show b + 1 ≤ ap_B Ψ by omega)
        rw [ap_bg_s1 hr] at this
        unfold ap_N0
        omega
      · rw [q, x2] at h; cases h
    · obtain ⟨x1, x2⟩ := ap_x0_e (by omega) hl
      have tgt : ∀ x, (x = ap_e1 Ψ b ∨ x = ap_e2 Ψ b) → x.map (ap_bg Ψ) = some t → 0 < t ∧ t < ap_N0 Ψ := by
        intro x hx hm
        cases x with
        | none => cases hm
        | some c =>
          cases hm
          have hcB : c < ap_B Ψ := by
            rcases hw.2.2.2.2.2.2.2.1 b hb with z | z | z
            · rcases hx with hx | hx
              · obtain ⟨t', ht', e'⟩ := z.2.2.1; rw [e'] at hx; cases hx; exact ht'
              · rw [z.2.2.2] at hx; cases hx
            · rcases hx with hx | hx
              · obtain ⟨t', ht', e'⟩ := z.2.2.1; rw [e'] at hx; cases hx; exact ht'
              · obtain ⟨t', ht', e'⟩ := z.2.2.2; rw [e'] at hx; cases hx; exact ht'
            · rcases hx with hx | hx
              · rw [z.2.2.1] at hx; cases hx
              · rw [z.2.2.2] at hx; cases hx
          exact ⟨hpos c, ap_bg_lt hcB (ap_RB_s hb hcB hr (hx.imp (fun q => q.symm) (fun q => q.symm)))⟩
      rcases (show k = 2 * (k / 2) ∨ k = 2 * (k / 2) + 1 by omega) with q | q
      · rw [q, x1] at h
        exact tgt _ (Or.inl rfl) h
      · rw [q, x2] at h
        by_cases z : ap_e2 Ψ b = ap_e1 Ψ b
        · rw [if_pos z] at h; cases h
        · rw [if_neg z] at h
          exact tgt _ (Or.inr rfl) h

/-! ===== PURE: what a model comes to ===== -/
/-- it comes to an answer, and Q holds of it -/
def ao_ok {α : Type} (m : Option α) (Q : α → Prop) : Prop := ∃ a, m = some a ∧ Q a
theorem ao_some {α : Type} {a : α} {Q : α → Prop} (h : Q a) : ao_ok (some a) Q := ⟨a, rfl, h⟩
theorem ao_of {α : Type} {m : Option α} {a : α} {Q : α → Prop} (e : m = some a) (h : Q a) : ao_ok m Q := ⟨a, e, h⟩
theorem ao_gd {α : Type} {P : Prop} {x : Option α} {Q : α → Prop} (hp : P) (h : ao_ok x Q) : ao_ok (aw_gd P x) Q := by
  rw [aw_gd_t hp]; exact h
theorem ao_bd {α β : Type} {m : Option α} {k : α → Option β} {Q : β → Prop} (h : ao_ok m (fun a => ao_ok (k a) Q)) : ao_ok (aw_bd m k) Q := by
  obtain ⟨a, e, h⟩ := h
  rw [aw_bd_s e]; exact h
theorem ao_bde {α β : Type} {m : Option α} {k : α → Option β} {Q : β → Prop} {a : α} (e : m = some a) (h : ao_ok (k a) Q) : ao_ok (aw_bd m k) Q := by
  rw [aw_bd_s e]; exact h
theorem ao_bd2 {α β γ : Type} {m : Option (α × β)} {k : α → β → Option γ} {Q : γ → Prop} (h : ao_ok m (fun p => ao_ok (k p.1 p.2) Q)) : ao_ok (aw_bd2 m k) Q := by
  obtain ⟨⟨a, b⟩, e, h⟩ := h
  rw [aw_bd2_s e]; exact h
theorem ao_bd2e {α β γ : Type} {m : Option (α × β)} {k : α → β → Option γ} {Q : γ → Prop} {a : α} {b : β} (e : m = some (a, b)) (h : ao_ok (k a b) Q) : ao_ok (aw_bd2 m k) Q := by
  rw [aw_bd2_s e]; exact h
theorem ao_lt {α β : Type} {e : α} {k : α → Option β} {Q : β → Prop} (h : ∀ x, x = e → ao_ok (k x) Q) : ao_ok (aw_lt e k) Q := h e rfl
theorem ao_let {α β : Type} {e : α} {k : α → Option β} {Q : β → Prop} (h : ao_ok (k e) Q) : ao_ok (aw_lt e k) Q := h
theorem ao_if {α : Type} {c : Prop} {i : Decidable c} {a b : Option α} {Q : α → Prop} (h1 : c → ao_ok a Q) (h2 : ¬ c → ao_ok b Q) : ao_ok (@ite _ c i a b) Q := by
  by_cases h : c
  · rw [if_pos h]; exact h1 h
  · rw [if_neg h]; exact h2 h
theorem ao_ifp {α : Type} {c : Prop} {i : Decidable c} {a b : Option α} {Q : α → Prop} (hc : c) (h : ao_ok a Q) : ao_ok (@ite _ c i a b) Q := by rw [if_pos hc]; exact h
theorem ao_ifn {α : Type} {c : Prop} {i : Decidable c} {a b : Option α} {Q : α → Prop} (hc : ¬ c) (h : ao_ok b Q) : ao_ok (@ite _ c i a b) Q := by rw [if_neg hc]; exact h
theorem ao_imp {α : Type} {m : Option α} {Q Q' : α → Prop} (h : ao_ok m Q) (hq : ∀ a, Q a → Q' a) : ao_ok m Q' := by
  obtain ⟨a, e, h⟩ := h
  exact ⟨a, e, hq a h⟩
theorem ao_and {α : Type} {m : Option α} {Q Q' : α → Prop} (h : ao_ok m Q) (h' : ao_ok m Q') : ao_ok m (fun a => Q a ∧ Q' a) := by
  obtain ⟨a, e, h⟩ := h
  obtain ⟨b, e', h'⟩ := h'
  rw [e] at e'
  cases e'
  exact ⟨a, e, h, h'⟩
/-- a loop with what falls -/
theorem ao_lp {S R : Type} {f : S → Option (R ⊕ S)} {Q : R → Prop} (I : S → Prop) (μ : S → Nat) (hf : ∀ s, I s → ao_ok (f s) (Sum.elim Q (fun s' => I s' ∧ μ s' < μ s))) : ∀ n s, I s → μ s < n → ao_ok (aw_lp f n s) Q := by
  intro n
  induction n with
  | zero => intro s _ h; omega
  | succ n ih =>
    intro s hi hm
    obtain ⟨t, e, h⟩ := hf s hi
    unfold aw_lp
    rw [e]
    cases t with
    | inl r => exact ⟨r, rfl, h⟩
    | inr s' => exact ih s' h.1 (by have := h.2; omega)
theorem ao_lpu {S R : Type} {f : S → Option (R ⊕ S)} {Q : R → Prop} (I : S → Prop) (μ : S → Nat) {s : S} (h0 : I s) (hm : μ s < 4294967296) (hf : ∀ s, I s → ao_ok (f s) (Sum.elim Q (fun s' => I s' ∧ μ s' < μ s))) : ao_ok (aw_lp f aw_fu s) Q :=
  ao_lp I μ hf aw_fu s h0 (Nat.lt_of_lt_of_le hm aw_fu_le)
/-- a loop that counts up to n -/
theorem ao_for {S R : Type} {f : S → Option (R ⊕ S)} {Q : R → Prop} (n : Nat) (I : Nat → S → Prop) {a : Nat} {s : S} (h0 : I a s) (ha : a ≤ n) (hn : n < 4294967295) (hs : ∀ k s, k < n → I k s → ao_ok (f s) (Sum.elim Q (fun s' => I (k + 1) s'))) (he : ∀ s, I n s → ao_ok (f s) (Sum.elim Q (fun _ => False))) : ao_ok (aw_lp f aw_fu s) Q := by
  have key : ∀ d m s k, k + d = n → I k s → d < m → ao_ok (aw_lp f m s) Q := by
    intro d
    induction d with
    | zero =>
      intro m s k hk hi hm
      cases m with
      | zero => omega
      | succ m =>
        have : k = n := by omega
        subst this
        obtain ⟨t, e, h⟩ := he s hi
        unfold aw_lp
        rw [e]
        cases t with
        | inl r => exact ⟨r, rfl, h⟩
        | inr s' => exact h.elim
    | succ d ih =>
      intro m s k hk hi hm
      cases m with
      | zero => omega
      | succ m =>
        obtain ⟨t, e, h⟩ := hs k s (by omega) hi
        unfold aw_lp
        rw [e]
        cases t with
        | inl r => exact ⟨r, rfl, h⟩
        | inr s' => exact ih m s' (k + 1) (by omega) h (by omega)
  exact key (n - a) aw_fu s a (by omega) h0 (by have := aw_fu_le; omega)
/-! ===== states ===== -/
theorem ao_sI (σ : aw_S) (o j : Nat) (v : Int32) (a i : Nat) : (aw_sI σ o j v).1 a i = if a = o ∧ i = j then v else σ.1 a i := rfl
theorem ao_sI2 (σ : aw_S) (o j : Nat) (v : Int32) : (aw_sI σ o j v).2 = σ.2 := rfl
theorem ao_sI_o {σ : aw_S} {o j : Nat} {v : Int32} {a : Nat} (h : a ≠ o) : (aw_sI σ o j v).1 a = σ.1 a := funext fun i => if_neg (fun e => h e.1)
theorem ao_sI_s (σ : aw_S) (o j : Nat) (v : Int32) : (aw_sI σ o j v).1 o j = v := if_pos ⟨rfl, rfl⟩
theorem ao_sI_i {σ : aw_S} {o j : Nat} {v : Int32} {a i : Nat} (h : i ≠ j) : (aw_sI σ o j v).1 a i = σ.1 a i := if_neg (fun e => h e.2)
theorem ao_cp1 (σ : aw_S) (a b n c j : Nat) : (aw_cp σ a b n).1 c j = if c = b ∧ j < n then σ.1 a j else σ.1 c j := rfl
theorem ao_cp2 (σ : aw_S) (a b n : Nat) : (aw_cp σ a b n).2 = σ.2 := rfl
/-- cells K and places J may have moved, nothing else -/
def ao_ch (K : List Nat) (J : List (Nat × Nat)) (σ σ' : aw_S) : Prop := ∀ k j, k ∉ K → (k, j) ∉ J → σ'.1 k j = σ.1 k j
theorem ao_ch_rf {K : List Nat} {J : List (Nat × Nat)} {σ : aw_S} : ao_ch K J σ σ := fun _ _ _ _ => rfl
theorem ao_ch_tr {K : List Nat} {J : List (Nat × Nat)} {σ σ1 σ2 : aw_S} (h1 : ao_ch K J σ σ1) (h2 : ao_ch K J σ1 σ2) : ao_ch K J σ σ2 := fun k j hk hj => (h2 k j hk hj).trans (h1 k j hk hj)
theorem ao_ch_mono {K K' : List Nat} {J J' : List (Nat × Nat)} {σ σ' : aw_S} (h : ao_ch K J σ σ') (hK : ∀ k, k ∈ K → k ∈ K') (hJ : ∀ q, q ∈ J → q ∈ J' ∨ q.1 ∈ K') : ao_ch K' J' σ σ' := fun k j hk hj => h k j (fun hm => hk (hK k hm)) (fun hm => (hJ _ hm).elim hj hk)
theorem ao_ch_I {K : List Nat} {J : List (Nat × Nat)} {σ : aw_S} {o j : Nat} {v : Int32} (h : o ∈ K ∨ (o, j) ∈ J) : ao_ch K J σ (aw_sI σ o j v) := by
  intro k i hk hj
  refine if_neg (fun e => ?_)
  obtain ⟨rfl, rfl⟩ := e
  exact h.elim hk hj
theorem ao_ch_c {K : List Nat} {J : List (Nat × Nat)} {σ : aw_S} {a b n : Nat} (h : b ∈ K) : ao_ch K J σ (aw_cp σ a b n) := by
  intro k i hk hj
  refine if_neg (fun e => ?_)
  obtain ⟨rfl, _⟩ := e
  exact hk h
theorem ao_ch_at {K : List Nat} {J : List (Nat × Nat)} {σ σ' : aw_S} (h : ao_ch K J σ σ') (k j : Nat) (hk : k ∉ K) (hj : (k, j) ∉ J) : σ'.1 k j = σ.1 k j := h k j hk hj
theorem ao_ch_row {K : List Nat} {J : List (Nat × Nat)} {σ σ' : aw_S} (h : ao_ch K J σ σ') (k : Nat) (hk : k ∉ K) (hj : ∀ q ∈ J, q.1 ≠ k) : σ'.1 k = σ.1 k := funext fun j => h k j hk (fun hm => hj _ hm rfl)
/-! ===== numbers ===== -/
theorem ao_gdn {α : Type} {n N : Nat} {x : Option α} (h : n < N) (hN : N < 2 ^ 31) : aw_gd (vp_in (nI n) N) x = x := aw_gd_t (vp_in_nI h hN)
/-- a place or none -/
def ao_o : Option Nat → Int32
  | none => -1
  | some t => nI t
/-- 1 or 0 -/
noncomputable def ao_b (p : Prop) : Int32 := @ite _ p (Classical.propDecidable p) 1 0
theorem ao_b1 {p : Prop} (h : p) : ao_b p = 1 := if_pos h
theorem ao_b0 {p : Prop} (h : ¬ p) : ao_b p = 0 := if_neg h
theorem ao_b_eq0 {p : Prop} : ao_b p = 0 ↔ ¬ p := by
  by_cases h : p
  · rw [ao_b1 h]; exact ⟨fun e => absurd e (by decide), fun e => absurd h e⟩
  · rw [ao_b0 h]; exact ⟨fun _ => h, fun _ => rfl⟩
theorem ao_b_eq1 {p : Prop} : ao_b p = 1 ↔ p := by
  by_cases h : p
  · rw [ao_b1 h]; exact ⟨fun _ => h, fun _ => rfl⟩
  · rw [ao_b0 h]; exact ⟨fun e => absurd e (by decide), fun e => absurd e h⟩
theorem ao_b_01 (p : Prop) : ao_b p = 0 ∨ ao_b p = 1 := by
  by_cases h : p
  · exact Or.inr (ao_b1 h)
  · exact Or.inl (ao_b0 h)
theorem ao_b_c {p q : Prop} (h : p ↔ q) : ao_b p = ao_b q := by rw [propext h]
theorem ao_b_n {p : Prop} : ao_b p = nI (@ite _ p (Classical.propDecidable p) 1 0) := by
  by_cases h : p
  · rw [ao_b1 h, if_pos h]; rfl
  · rw [ao_b0 h, if_neg h]; rfl
theorem ao_m1 {n : Nat} (h : n < 2 ^ 31) : ¬ nI n = -1 := by
  intro e
  have := nI_pos (n := n) h
  rw [e] at this
  exact this (by decide)
theorem ao_o_m1 {t : Option Nat} (h : ∀ k, t = some k → k < 2 ^ 31) : ao_o t = -1 ↔ t = none := by
  cases t with
  | none => exact ⟨fun _ => rfl, fun _ => rfl⟩
  | some k => exact ⟨fun e => absurd e (ao_m1 (h k rfl)), fun e => by cases e⟩
theorem ao_o_inj {t u : Option Nat} (ht : ∀ k, t = some k → k < 2 ^ 31) (hu : ∀ k, u = some k → k < 2 ^ 31) : ao_o t = ao_o u ↔ t = u := by
  refine ⟨fun e => ?_, fun e => by rw [e]⟩
  cases t with
  | none =>
    cases u with
    | none => rfl
    | some k => exact absurd e.symm (ao_m1 (hu k rfl))
  | some j =>
    cases u with
    | none => exact absurd e (ao_m1 (ht j rfl))
    | some k => exact congrArg some ((nI_eq (ht j rfl) (hu k rfl)).mp e)
theorem ao_neg1 : (-1 : Int32) < 0 := by decide
/-! ===== greatest and least answers ===== -/
/-- X is the greatest of those that hold by F alone -/
def ao_gf (N : Nat) (F : (Nat → Prop) → Nat → Prop) (X : Nat → Prop) : Prop := (∀ n, n < N → X n → F X n) ∧ ∀ Y : Nat → Prop, (∀ n, n < N → Y n → F Y n) → ∀ n, n < N → Y n → X n
theorem ao_gf_u {N : Nat} {F F' : (Nat → Prop) → Nat → Prop} {X X' : Nat → Prop} (h : ao_gf N F X) (h' : ao_gf N F' X') (he : ∀ Y n, n < N → (F Y n ↔ F' Y n)) : ∀ n, n < N → (X n ↔ X' n) := fun n hn =>
  ⟨h'.2 X (fun m hm hx => (he X m hm).mp (h.1 m hm hx)) n hn, h.2 X' (fun m hm hx => (he X' m hm).mpr (h'.1 m hm hx)) n hn⟩
/-- X is the least of those that F closes -/
def ao_lf (N : Nat) (F : (Nat → Prop) → Nat → Prop) (X : Nat → Prop) : Prop := (∀ n, n < N → F X n → X n) ∧ ∀ Y : Nat → Prop, (∀ n, n < N → F Y n → Y n) → ∀ n, n < N → X n → Y n
theorem ao_lf_u {N : Nat} {F F' : (Nat → Prop) → Nat → Prop} {X X' : Nat → Prop} (h : ao_lf N F X) (h' : ao_lf N F' X') (he : ∀ Y n, n < N → (F Y n ↔ F' Y n)) : ∀ n, n < N → (X n ↔ X' n) := fun n hn =>
  ⟨h.2 X' (fun m hm hx => h'.1 m hm ((he X' m hm).mp hx)) n hn, h'.2 X (fun m hm hx => h.1 m hm ((he X m hm).mpr hx)) n hn⟩
/-- the other side of a least one is a greatest one -/
theorem ao_lf_n {N : Nat} {F : (Nat → Prop) → Nat → Prop} {X : Nat → Prop} (h : ao_lf N F X) : ao_gf N (fun Y n => ¬ F (fun m => ¬ Y m) n) (fun n => ¬ X n) := by
  refine ⟨fun n hn hx hf => hx (h.1 n hn ?_), fun Y hY n hn hy hx => ?_⟩
  · have e : (fun m => ¬ ¬ X m) = X := funext fun m => propext ⟨fun h => Classical.byContradiction h, fun h h' => h' h⟩
    rw [e] at hf
    exact hf
  · exact h.2 (fun m => ¬ Y m) (fun m hm hf hy' => hY m hm hy' hf) n hn hx hy
/-- how many of the first n have it -/
noncomputable def ao_n (X : Nat → Prop) : Nat → Nat
  | 0 => 0
  | n + 1 => ao_n X n + @ite _ (X n) (Classical.propDecidable _) 1 0
theorem ao_n_le (X : Nat → Prop) (n : Nat) : ao_n X n ≤ n := by
  induction n with
  | zero => exact Nat.le_refl _
  | succ n ih =>
    show ao_n X n + _ ≤ _
    by_cases h : X n
    · rw [if_pos h]; omega
    · rw [if_neg h]; omega
theorem ao_n_mono {X Y : Nat → Prop} {n : Nat} (h : ∀ k, k < n → X k → Y k) : ao_n X n ≤ ao_n Y n := by
  induction n with
  | zero => exact Nat.le_refl _
  | succ n ih =>
    have := ih (fun k hk => h k (by omega))
    show ao_n X n + _ ≤ ao_n Y n + _
    by_cases hx : X n
    · rw [if_pos hx, if_pos (h n (by omega) hx)]; omega
    · rw [if_neg hx]; omega
theorem ao_n_c {X Y : Nat → Prop} {n : Nat} (h : ∀ k, k < n → (X k ↔ Y k)) : ao_n X n = ao_n Y n := Nat.le_antisymm (ao_n_mono (fun k hk => (h k hk).mp)) (ao_n_mono (fun k hk => (h k hk).mpr))
theorem ao_n_lt {X Y : Nat → Prop} {n i : Nat} (h : ∀ k, k < n → X k → Y k) (hi : i < n) (hy : Y i) (hx : ¬ X i) : ao_n X n < ao_n Y n := by
  induction n with
  | zero => omega
  | succ n ih =>
    show ao_n X n + _ < ao_n Y n + _
    by_cases he : i = n
    · subst he
      have := ao_n_mono (n := i) (fun k hk => h k (by omega))
      rw [if_pos hy, if_neg hx]; omega
    · have := ih (fun k hk => h k (by omega)) (by omega)
      by_cases hx : X n
      · rw [if_pos hx, if_pos (h n (by omega) hx)]; omega
      · rw [if_neg hx]; omega
theorem ao_n_s1 {X : Nat → Prop} {n : Nat} (h : X n) : ao_n X (n + 1) = ao_n X n + 1 := by show ao_n X n + _ = _; rw [if_pos h]
theorem ao_n_s0 {X : Nat → Prop} {n : Nat} (h : ¬ X n) : ao_n X (n + 1) = ao_n X n := by show ao_n X n + _ = _; rw [if_neg h]; rfl
theorem ao_inr {R S : Type} {Q : R → Prop} {P : S → Prop} {x : S} (h : P x) : ao_ok (some (.inr x : R ⊕ S)) (Sum.elim Q P) := ⟨_, rfl, h⟩
theorem ao_inl {R S : Type} {Q : R → Prop} {P : S → Prop} {x : R} (h : Q x) : ao_ok (some (.inl x : R ⊕ S)) (Sum.elim Q P) := ⟨_, rfl, h⟩

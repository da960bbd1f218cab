/-! ===== RUNS: both at once ===== -/
def ao_2 {α β : Type} (a : Option α) (b : Option β) (Q : α → β → Prop) : Prop := ∃ x y, a = some x ∧ b = some y ∧ Q x y
theorem ao_2s {α β : Type} {x : α} {y : β} {Q : α → β → Prop} (h : Q x y) : ao_2 (some x) (some y) Q := ⟨x, y, rfl, rfl, h⟩
theorem ao_2i {α β : Type} {a : Option α} {b : Option β} {Q Q' : α → β → Prop} (h : ao_2 a b Q) (hq : ∀ x y, Q x y → Q' x y) : ao_2 a b Q' := by
  obtain ⟨x, y, e1, e2, h⟩ := h
  exact ⟨x, y, e1, e2, hq x y h⟩
theorem ao_2of {α β : Type} {a : Option α} {b : Option β} {P : α → Prop} {P' : β → Prop} {Q : α → β → Prop} (h : ao_ok a P) (h' : ao_ok b P') (hq : ∀ x y, P x → P' y → Q x y) : ao_2 a b Q := by
  obtain ⟨x, e1, h⟩ := h
  obtain ⟨y, e2, h'⟩ := h'
  exact ⟨x, y, e1, e2, hq x y h h'⟩
/-- both go on -/
theorem ao_2b {α β γ δ : Type} {m : Option α} {m' : Option β} {k : α → Option γ} {k' : β → Option δ} {Q : γ → δ → Prop} (h : ao_2 m m' (fun x y => ao_2 (k x) (k' y) Q)) : ao_2 (aw_bd m k) (aw_bd m' k') Q := by
  obtain ⟨x, y, e1, e2, h⟩ := h
  rw [aw_bd_s e1, aw_bd_s e2]; exact h
theorem ao_2b2 {α α' β β' γ δ : Type} {m : Option (α × α')} {m' : Option (β × β')} {k : α → α' → Option γ} {k' : β → β' → Option δ} {Q : γ → δ → Prop} (h : ao_2 m m' (fun x y => ao_2 (k x.1 x.2) (k' y.1 y.2) Q)) : ao_2 (aw_bd2 m k) (aw_bd2 m' k') Q := by
  obtain ⟨⟨x, x'⟩, ⟨y, y'⟩, e1, e2, h⟩ := h
  rw [aw_bd2_s e1, aw_bd2_s e2]; exact h
theorem ao_2l {α β δ : Type} {m : Option α} {k : α → Option β} {b : Option δ} {Q : β → δ → Prop} {v : α} (e : m = some v) (h : ao_2 (k v) b Q) : ao_2 (aw_bd m k) b Q := by rw [aw_bd_s e]; exact h
theorem ao_2r {α β δ : Type} {m : Option α} {k : α → Option β} {a : Option δ} {Q : δ → β → Prop} {v : α} (e : m = some v) (h : ao_2 a (k v) Q) : ao_2 a (aw_bd m k) Q := by rw [aw_bd_s e]; exact h
theorem ao_2gl {α β : Type} {P : Prop} {a : Option α} {b : Option β} {Q : α → β → Prop} (hp : P) (h : ao_2 a b Q) : ao_2 (aw_gd P a) b Q := by rw [aw_gd_t hp]; exact h
theorem ao_2gr {α β : Type} {P : Prop} {a : Option α} {b : Option β} {Q : α → β → Prop} (hp : P) (h : ao_2 a b Q) : ao_2 a (aw_gd P b) Q := by rw [aw_gd_t hp]; exact h
theorem ao_2lp {α β : Type} {c : Prop} {i : Decidable c} {a a' : Option α} {b : Option β} {Q : α → β → Prop} (hc : c) (h : ao_2 a b Q) : ao_2 (@ite _ c i a a') b Q := by rw [if_pos hc]; exact h
theorem ao_2ln {α β : Type} {c : Prop} {i : Decidable c} {a a' : Option α} {b : Option β} {Q : α → β → Prop} (hc : ¬ c) (h : ao_2 a' b Q) : ao_2 (@ite _ c i a a') b Q := by rw [if_neg hc]; exact h
theorem ao_2rp {α β : Type} {c : Prop} {i : Decidable c} {a : Option α} {b b' : Option β} {Q : α → β → Prop} (hc : c) (h : ao_2 a b Q) : ao_2 a (@ite _ c i b b') Q := by rw [if_pos hc]; exact h
theorem ao_2rn {α β : Type} {c : Prop} {i : Decidable c} {a : Option α} {b b' : Option β} {Q : α → β → Prop} (hc : ¬ c) (h : ao_2 a b' Q) : ao_2 a (@ite _ c i b b') Q := by rw [if_neg hc]; exact h
theorem ao_2if {α β : Type} {c : Prop} {i j : Decidable c} {a a' : Option α} {b b' : Option β} {Q : α → β → Prop} (h1 : c → ao_2 a b Q) (h2 : ¬ c → ao_2 a' b' Q) : ao_2 (@ite _ c i a a') (@ite _ c j b b') Q := by
  by_cases h : c
  · rw [if_pos h, if_pos h]; exact h1 h
  · rw [if_neg h, if_neg h]; exact h2 h
/-- two loops, side by side -/
theorem ao_2lpm {S T R R' : Type} {f : S → Option (R ⊕ S)} {g : T → Option (R' ⊕ T)} {Q : R → R' → Prop} (I : Nat → S → T → Prop) (hs : ∀ d s t, I d s t → ao_2 (f s) (g t) (fun x y => match x, y with
    | .inl r, .inl r' => Q r r'
    | .inr s', .inr t' => ∃ d', d' < d ∧ I d' s' t'
    | _, _ => False)) : ∀ m d s t, I d s t → d < m → ao_2 (aw_lp f m s) (aw_lp g m t) Q := by
  intro m
  induction m with
  | zero => intro d s t _ h; omega
  | succ m ih =>
    intro d s t hI hd
    obtain ⟨x, y, e1, e2, h⟩ := hs d s t hI
    unfold aw_lp
    rw [e1, e2]
    cases x with
    | inl r =>
      cases y with
      | inl r' => exact ao_2s h
      | inr t' => exact h.elim
    | inr s' =>
      cases y with
      | inl r' => exact h.elim
      | inr t' =>
        obtain ⟨d', h1, h2⟩ := h
        exact ih d' s' t' h2 (by omega)
theorem ao_2lp' {S T R R' : Type} {f : S → Option (R ⊕ S)} {g : T → Option (R' ⊕ T)} {Q : R → R' → Prop} (I : Nat → S → T → Prop) {d : Nat} {s : S} {t : T} (h0 : I d s t) (hd : d < 4294967296) (hs : ∀ d s t, I d s t → ao_2 (f s) (g t) (fun x y => match x, y with
    | .inl r, .inl r' => Q r r'
    | .inr s', .inr t' => ∃ d', d' < d ∧ I d' s' t'
    | _, _ => False)) : ao_2 (aw_lp f aw_fu s) (aw_lp g aw_fu t) Q := ao_2lpm I hs aw_fu d s t h0 (by have := aw_fu_le; omega)
theorem ao_lp1 {S R : Type} {f : S → Option (R ⊕ S)} {m : Nat} {s : S} {x : R ⊕ S} (h : f s = some x) : aw_lp f (m + 1) s = Sum.elim some (aw_lp f m) x := by
  rw [aw_lp, h]
  cases x <;> rfl
/-! what a run may move -/
def ru_yA (o : Nat) (σ s : aw_S) : Prop := s.2 = σ.2 ∧ ∀ k, k < o ∨ o + 4 < k → s.1 k = σ.1 k
def ru_yB (σ t : aw_S) : Prop := t.2 = σ.2 ∧ (∀ k, k ≠ 0 → (k < 16 ∨ 19 < k) → t.1 k = σ.1 k) ∧ ∀ j, j ≠ 26 → j ≠ 27 → j ≠ 28 → j ≠ 29 → j ≠ 35 → t.1 0 j = σ.1 0 j
def ru_S (f : Nat → Int32) : Nat → Int32
  | 0 => 0
  | n + 1 => ru_S f n + f n
theorem ru_S_c {f g : Nat → Int32} {n : Nat} (h : ∀ k, k < n → f k = g k) : ru_S f n = ru_S g n := by
  induction n with
  | zero => rfl
  | succ n ih => show ru_S f n + f n = ru_S g n + g n; rw [ih (fun k hk => h k (by omega)), h n (by omega)]
theorem ru_S_up {f g : Nat → Int32} {e : Nat} (h1 : g e = f e + 1) (h2 : ∀ k, k ≠ e → g k = f k) : ∀ n, e < n → ru_S g n = ru_S f n + 1 := by
  intro n
  induction n with
  | zero => intro h; omega
  | succ n ih =>
    intro h
    show ru_S g n + g n = ru_S f n + f n + 1
    by_cases q : e = n
    · subst q
      rw [ru_S_c (g := f) (fun k hk => h2 k (by omega)), h1, Int32.add_assoc]
    · rw [ih (by omega), h2 n (fun z => q z.symm), Int32.add_assoc, Int32.add_assoc, Int32.add_comm 1 (f n)]
/-- letters, names, counts alike -/
def ru_C (o : Nat) (σa σb : aw_S) (w : Nat) (s t : aw_S) : Prop :=
  ru_yA o σa s ∧ ru_yB σb t ∧ (∀ v, v < 26 → s.1 (o + 1) v = t.1 16 v) ∧ (∀ e, e < 24 → s.1 (o + 4) e = t.1 17 e) ∧ (∀ e, e < 24 → s.1 (o + 3) e = t.1 18 e) ∧ s.1 o 6 = ru_S (t.1 18) 24 ∧ s.1 o 7 = nI w ∧ t.1 0 26 = nI w ∧ ∀ k, k < 40 → k < w → s.1 (o + 2) k = t.1 19 k
theorem ru_A {o : Nat} {σ s : aw_S} {Γ : ag_T} (h : ru_yA o σ s) (ho : 82 ≤ o) (A : ag_A σ Γ) : ag_A s Γ := ag_A_fr A (fun k _ _ => h.2 k (by omega))
theorem ru_B {σ t : aw_S} {Γ : ag_T} (h : ru_yB σ t) (B : ag_B σ Γ) : ag_B t Γ := ag_B_fr B (h.2.2 14 (by omega) (by omega) (by omega) (by omega) (by omega)) (h.2.1 1 (by omega) (by omega)) (h.2.1 4 (by omega) (by omega)) (h.2.1 5 (by omega) (by omega)) (h.2.1 6 (by omega) (by omega)) (h.2.1 7 (by omega) (by omega))
/-- fields that the likeness doesn't speak of -/
theorem ru_C_fA {o : Nat} {σa σb : aw_S} {w : Nat} {s t : aw_S} (h : ru_C o σa σb w s t) {j : Nat} {v : Int32} (hj : j ≠ 6 ∧ j ≠ 7) : ru_C o σa σb w (aw_sI s o j v) t := by
  obtain ⟨⟨y1, y2⟩, yB, c1, c2, c3, c4, c5, c6, c7⟩ := h
  refine ⟨⟨y1, fun k hk => by rw [ao_sI_o (by omega)]; exact y2 k hk⟩, yB, fun v hv => by rw [ao_sI_o (by omega)]; exact c1 v hv, fun v hv => by rw [ao_sI_o (by omega)]; exact c2 v hv, fun v hv => by rw [ao_sI_o (by omega)]; exact c3 v hv, by rw [ao_sI_i (by omega)]; exact c4, by rw [ao_sI_i (by omega)]; exact c5, c6, fun k h1 h2 => by rw [ao_sI_o (by omega)]; exact c7 k h1 h2⟩
theorem ru_C_fB {o : Nat} {σa σb : aw_S} {w : Nat} {s t : aw_S} (h : ru_C o σa σb w s t) {j : Nat} {v : Int32} (hj : j = 27 ∨ j = 28 ∨ j = 29 ∨ j = 35) : ru_C o σa σb w s (aw_sI t 0 j v) := by
  obtain ⟨yA, ⟨y1, y2, y3⟩, c1, c2, c3, c4, c5, c6, c7⟩ := h
  refine ⟨yA, ⟨y1, fun k h1 h2 => by rw [ao_sI_o h1]; exact y2 k h1 h2, fun i h1 h2 h3 h4 h5 => by rw [ao_sI_i (by omega)]; exact y3 i h1 h2 h3 h4 h5⟩, fun v hv => by rw [ao_sI_o (by omega)]; exact c1 v hv, fun v hv => by rw [ao_sI_o (by omega)]; exact c2 v hv, fun v hv => by rw [ao_sI_o (by omega)]; exact c3 v hv, by rw [ao_sI_o (by omega)]; exact c4, c5, by rw [ao_sI_i (by omega)]; exact c6, fun k h1 h2 => by rw [ao_sI_o (by omega)]; exact c7 k h1 h2⟩
theorem ru_val {o : Nat} {σa σb : aw_S} {w : Nat} {s t : aw_S} (h : ru_C o σa σb w s t) {x : Nat} (hx : x < 1026) : ∃ r, m_Ru_valueOf s o (nI x) = some r ∧ m_Rf_worthOf t (nI x) = some r := by
  unfold m_Ru_valueOf m_Rf_worthOf
  rw [if_pos (nI_pos' (by omega))]
  by_cases q : x < 26
  · rw [if_neg (show ¬ (26 : Int32) ≤ nI x from nI_ge (b := 26) q (by omega)), if_neg (show ¬ (26 : Int32) ≤ nI x from nI_ge (b := 26) q (by omega)), ao_gdn (by omega) (by omega), ao_gdn (by omega) (by omega), nI_clamp (by omega)]
    exact ⟨_, rfl, by rw [h.2.2.1 x q]⟩
  · rw [if_pos (show (26 : Int32) ≤ nI x from nI_le (a := 26) (by omega) (by omega)), if_pos (show (26 : Int32) ≤ nI x from nI_le (a := 26) (by omega) (by omega))]
    exact ⟨_, rfl, rfl⟩
/-- an expression is worked, in both -/
def ru_cQ (o : Nat) (σa σb : aw_S) (w : Nat) (s0 t0 : aw_S) (x : Int32 × aw_S) (y : Int32 × aw_S) : Prop := ((x.1 = 0 ∧ y.1 = 0) ∨ (x.1 = 1 ∧ y.1 = 1 ∧ x.2.1 o 9 = y.2.1 0 35)) ∧ ru_C o σa σb w x.2 y.2 ∧ (∀ j, j ≠ 6 → j ≠ 9 → x.2.1 o j = s0.1 o j) ∧ ∀ j, j ≠ 35 → y.2.1 0 j = t0.1 0 j
set_option maxHeartbeats 2000000 in
theorem ru_compute {o : Nat} (ho : 82 ≤ o) {σa σb : aw_S} {Γ : ag_T} (G : ag_wf Γ) (A : ag_A σa Γ) (B : ag_B σb Γ) {w : Nat} {s t : aw_S} (C : ru_C o σa σb w s t) {e : Nat} (he : e < ag_X Γ) : ao_2 (m_Ru_compute s o 25 (nI e)) (m_Rf_works t (nI e)) (ru_cQ o σa σb w s t) := by
  have hX := G.2.2.2.2.2.2.1
  obtain ⟨sg, lf, rt⟩ := G.2.2.2.2.2.2.2.1 e he
  have hsl := ag_sgl sg
  obtain ⟨a1, a2, a3⟩ := (ru_A C.1 ho A).2.2.2.2.1 e he
  obtain ⟨b1, b2, b3⟩ := (ru_B C.2.1 B).2.2.2.2.2.2.2.1 e he
  unfold m_Ru_compute m_Rf_works
  rw [ao_gdn (by omega) (by omega), ao_gdn (by omega) (by omega), ao_gdn (by omega) (by omega), ao_gdn (by omega) (by omega), nI_clamp (by omega), ao_ltr, ao_ltr, ao_ltr]
  have C1 : ru_C o σa σb w (aw_sI (aw_sI s (o + 3) e (s.1 (o + 3) e + 1)) o 6 ((aw_sI s (o + 3) e (s.1 (o + 3) e + 1)).1 o 6 + 1)) (aw_sI t 18 e (t.1 18 e + 1)) := by
    obtain ⟨⟨y1, y2⟩, ⟨z1, z2, z3⟩, c1, c2, c3, c4, c5, c6, c7⟩ := C
    refine ⟨⟨y1, fun k hk => by rw [ao_sI_o (by omega), ao_sI_o (by omega)]; exact y2 k hk⟩, ⟨z1, fun k h1 h2 => by rw [ao_sI_o (by omega)]; exact z2 k h1 h2, fun j h1 h2 h3 h4 h5 => by rw [ao_sI_o (by omega)]; exact z3 j h1 h2 h3 h4 h5⟩, fun v hv => ?_, fun f hf => ?_, fun f hf => ?_, ?_, ?_, ?_, fun k h1 h2 => ?_⟩
    · rw [ao_sI_o (by omega), ao_sI_o (by omega), ao_sI_o (by omega)]; exact c1 v hv
    · rw [ao_sI_o (by omega), ao_sI_o (by omega), ao_sI_o (by omega)]; exact c2 f hf
    · rw [ao_sI_o (by omega)]
      by_cases q : f = e
      · rw [q, ao_sI_s, ao_sI_s, c3 e (by omega)]
      · rw [ao_sI_i q, ao_sI_i q]; exact c3 f hf
    · rw [ao_sI_s, ao_sI_o (by omega), c4]
      exact (ru_S_up (ao_sI_s _ _ _ _) (fun k hk => ao_sI_i hk) 24 (by omega)).symm
    · rw [ao_sI_i (by omega), ao_sI_o (by omega)]; exact c5
    · rw [ao_sI_o (by omega)]; exact c6
    · rw [ao_sI_o (by omega), ao_sI_o (by omega), ao_sI_o (by omega)]; exact c7 k h1 h2
  generalize hs4 : aw_sI (aw_sI s (o + 3) e (s.1 (o + 3) e + 1)) o 6 ((aw_sI s (o + 3) e (s.1 (o + 3) e + 1)).1 o 6 + 1) = s4 at C1 ⊢
  generalize ht3 : aw_sI t 18 e (t.1 18 e + 1) = t3 at C1 ⊢
  have fs : ∀ j, j ≠ 6 → s4.1 o j = s.1 o j := fun j hj => by rw [← hs4, ao_sI_i hj, ao_sI_o (by omega)]
  have ft : ∀ j, t3.1 0 j = t.1 0 j := fun j => by rw [← ht3, ao_sI_o (by omega)]
  have r25 : ∀ k, 25 ≤ k → k ≤ 28 → s4.1 k = s.1 k := fun k h1 h2 => by rw [← hs4, ao_sI_o (by omega), ao_sI_o (by omega)]
  have t1 : t3.1 1 = t.1 1 := by rw [← ht3, ao_sI_o (by omega)]
  clear hs4 ht3
  obtain ⟨x, vx, wx⟩ := ru_val C1 lf
  obtain ⟨y, vy, wy⟩ := ru_val C1 rt
  have g1 : m_Rf_get t3 (292 + 2 * nI e) = some (nI (ag_lf Γ e)) := by rw [ao_mul2, show (292 : Int32) = nI 292 from rfl, nI_add, ag_get (by omega), t1, b2]
  have g2 : m_Rf_get t3 (292 + 2 * nI e + 1) = some (nI (ag_rt Γ e)) := by rw [ao_mul2, show (292 : Int32) = nI 292 from rfl, nI_add, nI_1, ag_get (by omega), t1, show 292 + 2 * e + 1 = 293 + 2 * e by omega, b3]
  have g3 : m_Rf_get t3 (268 + nI e) = some (nI (ag_sg Γ e)) := by rw [show (268 : Int32) = nI 268 from rfl, nI_add, ag_get (by omega), t1, b1]
  show ao_2 (aw_gd (vp_in (nI e) 24) (aw_bd (m_Ru_valueOf s4 o (s4.1 27 e)) _)) _ _
  rw [ao_gdn (by omega) (by omega), r25 27 (by omega) (by omega), a2]
  refine ao_2l vx (ao_2r g1 (ao_2r wx (ao_2r g2 (ao_2r wy (ao_2r g3 ?_)))))
  show ao_2 (aw_gd (vp_in (nI e) 24) (aw_bd (m_Ru_valueOf s4 o (s4.1 28 e)) _)) _ _
  rw [ao_gdn (by omega) (by omega), r25 28 (by omega) (by omega), a3]
  refine ao_2l vy ?_
  show ao_2 (aw_gd (vp_in (nI e) 24) (if s4.1 26 e = 38 then _ else _)) _ _
  rw [ao_gdn (by omega) (by omega), r25 26 (by omega) (by omega), a1]
  have fin : ∀ (u : Int32), ru_cQ o σa σb w s t (1, aw_sI s4 o 9 u) (1, aw_sI t3 0 35 u) := fun u => ⟨Or.inr ⟨rfl, rfl, by rw [ao_sI_s, ao_sI_s]⟩, ru_C_fB (ru_C_fA C1 (by omega)) (by omega), fun j h1 h2 => by rw [ao_sI_i h2]; exact fs j h1, fun j h1 => by rw [ao_sI_i h1]; exact ft j⟩
  refine ao_2if (fun _ => ao_2s (fin _)) (fun _ => ao_2if (fun _ => ao_2s (fin _)) (fun _ => ao_2if (fun _ => ao_2s (fin _)) (fun _ => ao_2if (fun _ => ao_2s (fin _)) (fun _ => ao_2if (fun _ => ?_) (fun _ => ?_)))))
  · unfold m_Ru_compute_J152 m_Rf_works_J155 m_Mo_oneIf
    refine ao_2if (fun _ => ao_2l (if_pos rfl) (ao_2s (fin _))) (fun _ => ao_2l (if_neg ao_n10) (ao_2s (fin _)))
  · rw [ao_gdn (by omega) (by omega)]
    unfold m_Ru_divide m_Ru_divide_J22 m_Rf_works_J191
    by_cases q : y = 0
    · rw [if_pos q, if_pos q, aw_bd2_s rfl]
      exact ao_2gl (Or.inl rfl) (ao_2s ⟨Or.inl ⟨rfl, rfl⟩, C1, fun j h1 _ => fs j h1, fun j _ => ft j⟩)
    · rw [if_neg q, if_neg q, aw_bd_s g3]
      by_cases z : nI (ag_sg Γ e) = 47
      · rw [if_pos z, if_pos z, aw_gd_t q, aw_gd_t q, ao_ltr, aw_bd2_s rfl]
        exact ao_2gl (Or.inr rfl) (ao_2s (fin _))
      · rw [if_neg z, if_neg z, aw_gd_t q, aw_gd_t q, ao_ltr, aw_bd2_s rfl]
        exact ao_2gl (Or.inr rfl) (ao_2s (fin _))

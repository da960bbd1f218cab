
/-! ===== the models' words ===== -/
noncomputable def aw_gd {α : Type} (P : Prop) (x : Option α) : Option α := @ite _ P (Classical.propDecidable P) x none
def aw_bd {α β : Type} (m : Option α) (k : α → Option β) : Option β := m.bind k
def aw_bd2 {α β γ : Type} (m : Option (α × β)) (k : α → β → Option γ) : Option γ := m.bind (fun p => k p.1 p.2)
def aw_lt {α β : Type} (e : α) (k : α → β) : β := k e
def aw_lp {S R : Type} (f : S → Option (R ⊕ S)) : Nat → S → Option R
  | 0, _ => none
  | n + 1, s => match f s with
    | none => none
    | some (.inl r) => some r
    | some (.inr s') => aw_lp f n s'
theorem aw_fu_ex : ∃ n : Nat, 4294967296 ≤ n := ⟨4294967296, Nat.le_refl _⟩
/-- more than any loop needs; no program looks into it -/
noncomputable def aw_fu : Nat := Classical.choose aw_fu_ex
theorem aw_fu_le : 4294967296 ≤ aw_fu := Classical.choose_spec aw_fu_ex
theorem aw_gde {α : Type} {P : Prop} {x : Option α} {y : α} (h : aw_gd P x = some y) : P ∧ x = some y := by
  unfold aw_gd at h
  by_cases hp : P
  · rw [if_pos hp] at h; exact ⟨hp, h⟩
  · rw [if_neg hp] at h; cases h
theorem aw_gd_t {α : Type} {P : Prop} {x : Option α} (hp : P) : aw_gd P x = x := if_pos hp
theorem aw_bde {α β : Type} {m : Option α} {k : α → Option β} {y : β} (h : aw_bd m k = some y) : ∃ a, m = some a ∧ k a = some y := by
  cases m with
  | none => cases h
  | some a => exact ⟨a, rfl, h⟩
theorem aw_bd2e {α β γ : Type} {m : Option (α × β)} {k : α → β → Option γ} {y : γ} (h : aw_bd2 m k = some y) : ∃ a b, m = some (a, b) ∧ k a b = some y := by
  cases m with
  | none => cases h
  | some a => exact ⟨a.1, a.2, rfl, h⟩
theorem aw_bd_s {α β : Type} {m : Option α} {k : α → Option β} {a : α} (h : m = some a) : aw_bd m k = k a := by rw [h]; rfl
theorem aw_bd2_s {α β γ : Type} {m : Option (α × β)} {k : α → β → Option γ} {a : α} {b : β} (h : m = some (a, b)) : aw_bd2 m k = k a b := by rw [h]; rfl
theorem aw_lte {α β : Type} {e : α} {k : α → β} {y : β} (h : aw_lt e k = y) : ∀ x, x = e → k x = y := fun x hx => by rw [hx]; exact h
theorem aw_ifp {α : Type} {c : Prop} {i : Decidable c} {a b y : α} (hc : c) (h : @ite α c i a b = y) : a = y := by rw [if_pos hc] at h; exact h
theorem aw_ifn {α : Type} {c : Prop} {i : Decidable c} {a b y : α} (hc : ¬ c) (h : @ite α c i a b = y) : b = y := by rw [if_neg hc] at h; exact h
theorem aw_eL {α β γ : Type} {f : α → γ} {g : β → γ} {a : α} {y : γ} (h : Sum.elim f g (.inl a) = y) : f a = y := h
theorem aw_eR {α β γ : Type} {f : α → γ} {g : β → γ} {b : β} {y : γ} (h : Sum.elim f g (.inr b) = y) : g b = y := h
theorem aw_lp_W {S R : Type} {f : S → Option (R ⊕ S)} {Xp : S → Prop} {Y : R → Prop} (h : ∀ s t, f s = some t → Sum.elim Y Xp t → Xp s) : ∀ n s r, aw_lp f n s = some r → Y r → Xp s := by
  intro n
  induction n with
  | zero => intro s r hs; cases hs
  | succ n ih =>
    intro s r hs hy
    unfold aw_lp at hs
    cases hf : f s with
    | none => rw [hf] at hs; cases hs
    | some t =>
      rw [hf] at hs
      cases t with
      | inl r' =>
        cases hs
        exact h s _ hf hy
      | inr s' => exact h s _ hf (ih s' r hs hy)
theorem aw_lp_X {S R : Type} {f : S → Option (R ⊕ S)} {n : Nat} {s : S} {r : R} {Xp : S → Prop} {Y : R → Prop} (hl : aw_lp f n s = some r) (K : Y r) (h : ∀ s t, f s = some t → Sum.elim Y Xp t → Xp s) : Xp s := aw_lp_W h n s r hl K
theorem aw_or2 {sh : List aw_H} {w a b : Nat} {x : aw_H} (h : w = a ∨ w = b) (ha : sh[a]? = some x) (hb : sh[b]? = some x) : sh[w]? = some x := by
  rcases h with rfl | rfl
  · exact ha
  · exact hb
theorem aw_ni {v : Int32} : narrow .int (.int v) = .int v := rfl
theorem aw_n0 : narrow .boolean (.int 0) = .int 0 := by decide
theorem aw_n1 : narrow .boolean (.int 1) = .int 1 := by decide
theorem aw_nz {v : Int32} (h : v = 0 ∨ v = 1) : narrow .boolean (.int v) = .int v := by rcases h with rfl | rfl <;> decide
theorem aw_fz {v : Int32} (h : v = 0 ∨ v = 1) : fits .boolean (.int v) = true := by rcases h with rfl | rfl <;> decide
theorem aw_tout {x : Int32} (lo hi : Int) (h : ∀ k : Int, lo ≤ k → k ≤ hi → ¬ x = Int32.ofInt k) : x.toInt < lo ∨ hi < x.toInt := by
  by_cases h1 : x.toInt < lo
  · exact Or.inl h1
  · by_cases h2 : hi < x.toInt
    · exact Or.inr h2
    · exact absurd (Int32.ofInt_toInt x).symm (h x.toInt (by omega) (by omega))
theorem aw_nmI {l : Launch} {M : aw_M} {G : aw_G} {B : aw_B} {E : aw_E} {pc : Nat} {loc : List (Nat × Value)} {st : List Value} {sh : List aw_H} {σ : aw_S} {kc ks : Nat} {x : Int32} (k : ∀ y, y = x → aw_W l M G B E pc loc (.int y :: st) sh σ kc ks) : aw_W l M G B E pc loc (.int x :: st) sh σ kc ks := k x rfl
theorem aw_nmL {l : Launch} {M : aw_M} {G : aw_G} {B : aw_B} {E : aw_E} {pc : Nat} {loc : List (Nat × Value)} {st : List Value} {sh : List aw_H} {σ : aw_S} {kc ks : Nat} {x : Int64} (k : ∀ y, y = x → aw_W l M G B E pc loc (.long y :: st) sh σ kc ks) : aw_W l M G B E pc loc (.long x :: st) sh σ kc ks := k x rfl
theorem aw_nmS {l : Launch} {M : aw_M} {G : aw_G} {B : aw_B} {E : aw_E} {pc : Nat} {loc : List (Nat × Value)} {st : List Value} {sh : List aw_H} {σ : aw_S} {kc ks : Nat} (k : ∀ τ, τ = σ → aw_W l M G B E pc loc st sh τ kc ks) : aw_W l M G B E pc loc st sh σ kc ks := k σ rfl
/-! ===== Math, arraycopy ===== -/
def aw_mx (x y : Int32) : Int32 := if x < y then y else x
def aw_mn (x y : Int32) : Int32 := if y < x then y else x
def aw_mnL (x y : Int64) : Int64 := if y < x then y else x
theorem aw_mem {w : Cond} (i : Nat) (h : wsL_law[i]? = some w) : w ∈ wsL_law := List.mem_of_getElem? h
theorem aw_catl {b : Nat} (st : List Value) : ((st.map (aw_v b)).map fun v => v.category) = st.map fun v => v.category := by rw [List.map_map]; exact List.map_congr_left (fun v _ => aw_catv _ v)
theorem aw_mmax_1 : Cond.static Lib.Math.max.name ∈ wsL_law := (aw_mem 636 (by decide +kernel))
theorem aw_mmax_2 : Cond.initialized "java/lang/Math" ∈ wsL_law := (aw_mem 637 (by decide +kernel))
theorem aw_mmax_3 : Cond.code Lib.Math.max.name Lib.Math.max.code 2 (some .int) ∈ wsL_law := (aw_mem 638 (by decide +kernel))
theorem aw_mmax {l : Launch} {M : aw_M} {G : aw_G} {B : aw_B} {E : aw_E} {pc : Nat} {loc : List (Nat × Value)} {st : List Value} {sh : List aw_H} {σ : aw_S} {kc ks : Nat} {idx : Nat} {x y : Int32} (hl : Cond.methodLink M.1 idx Lib.Math.max.name ∈ wsL_law) (hr : 1 ≤ B.1 ∧ 8 + 13 ≤ B.2.1) (hc : kc ≤ B.2.2.1 ∧ ks ≤ B.2.2.2) (hst : (st.map fun v => v.category).sum ≤ 8) (hd : decode M.2.1 pc = .ok (.invokestatic idx, 3)) (k : aw_W l M G B E (pc + 3) loc (.int (aw_mx x y) :: st) sh σ kc ks) : aw_W l M G B E pc loc (.int y :: .int x :: st) sh σ kc ks := by
  intro p e R s m args below meth c A H locs ls C P L
  have hts := C.2.2.2.2.2.2.1
  have hR := C.2.2.2.2.2.2.2.1
  exact va_mmax C.1 C.2.1 (C.2.2.1.trans L.1.symm) C.2.2.2.2.1 (hts _ hl) (hts _ aw_mmax_1) (hts _ aw_mmax_2) (hts _ aw_mmax_3) (Nat.le_trans hr.1 hR.1) (by rw [aw_catl]; have := hr.2; have := hR.2.1; omega) (Nat.le_trans hc.1 hR.2.2.1) (Nat.le_trans hc.2 hR.2.2.2) hd (k p e R s m args below meth c A H locs ls C P L)
theorem aw_mmin_1 : Cond.static Lib.Math.min.name ∈ wsL_law := (aw_mem 1400 (by decide +kernel))
theorem aw_mmin_2 : Cond.initialized "java/lang/Math" ∈ wsL_law := (aw_mem 637 (by decide +kernel))
theorem aw_mmin_3 : Cond.code Lib.Math.min.name Lib.Math.min.code 2 (some .int) ∈ wsL_law := (aw_mem 1401 (by decide +kernel))
theorem aw_mmin {l : Launch} {M : aw_M} {G : aw_G} {B : aw_B} {E : aw_E} {pc : Nat} {loc : List (Nat × Value)} {st : List Value} {sh : List aw_H} {σ : aw_S} {kc ks : Nat} {idx : Nat} {x y : Int32} (hl : Cond.methodLink M.1 idx Lib.Math.min.name ∈ wsL_law) (hr : 1 ≤ B.1 ∧ 8 + 13 ≤ B.2.1) (hc : kc ≤ B.2.2.1 ∧ ks ≤ B.2.2.2) (hst : (st.map fun v => v.category).sum ≤ 8) (hd : decode M.2.1 pc = .ok (.invokestatic idx, 3)) (k : aw_W l M G B E (pc + 3) loc (.int (aw_mn x y) :: st) sh σ kc ks) : aw_W l M G B E pc loc (.int y :: .int x :: st) sh σ kc ks := by
  intro p e R s m args below meth c A H locs ls C P L
  have hts := C.2.2.2.2.2.2.1
  have hR := C.2.2.2.2.2.2.2.1
  exact va_mmin C.1 C.2.1 (C.2.2.1.trans L.1.symm) C.2.2.2.2.1 (hts _ hl) (hts _ aw_mmin_1) (hts _ aw_mmin_2) (hts _ aw_mmin_3) (Nat.le_trans hr.1 hR.1) (by rw [aw_catl]; have := hr.2; have := hR.2.1; omega) (Nat.le_trans hc.1 hR.2.2.1) (Nat.le_trans hc.2 hR.2.2.2) hd (k p e R s m args below meth c A H locs ls C P L)
theorem aw_mminL_1 : Cond.static Lib.MathLoose.min_long.x ∈ wsL_law := (aw_mem 1452 (by decide +kernel))
theorem aw_mminL_2 : Cond.initialized "java/lang/Math" ∈ wsL_law := (aw_mem 637 (by decide +kernel))
theorem aw_mminL_3 : Cond.code Lib.MathLoose.min_long.x Lib.MathLoose.min_long.code 4 (some .long) ∈ wsL_law := (aw_mem 1453 (by decide +kernel))
theorem aw_mminL {l : Launch} {M : aw_M} {G : aw_G} {B : aw_B} {E : aw_E} {pc : Nat} {loc : List (Nat × Value)} {st : List Value} {sh : List aw_H} {σ : aw_S} {kc ks : Nat} {idx : Nat} {x y : Int64} (hl : Cond.methodLink M.1 idx Lib.MathLoose.min_long.x ∈ wsL_law) (hr : 1 ≤ B.1 ∧ 8 + 15 ≤ B.2.1) (hc : kc ≤ B.2.2.1 ∧ ks ≤ B.2.2.2) (hst : (st.map fun v => v.category).sum ≤ 8) (hd : decode M.2.1 pc = .ok (.invokestatic idx, 3)) (k : aw_W l M G B E (pc + 3) loc (.long (aw_mnL x y) :: st) sh σ kc ks) : aw_W l M G B E pc loc (.long y :: .long x :: st) sh σ kc ks := by
  intro p e R s m args below meth c A H locs ls C P L
  have hts := C.2.2.2.2.2.2.1
  have hR := C.2.2.2.2.2.2.2.1
  exact va_mmin_long C.1 C.2.1 (C.2.2.1.trans L.1.symm) C.2.2.2.2.1 (hts _ hl) (hts _ aw_mminL_1) (hts _ aw_mminL_2) (hts _ aw_mminL_3) (Nat.le_trans hr.1 hR.1) (by rw [aw_catl]; have := hr.2; have := hR.2.1; omega) (Nat.le_trans hc.1 hR.2.2.1) (Nat.le_trans hc.2 hR.2.2.2) hd (k p e R s m args below meth c A H locs ls C P L)
/-- n places of one row into another -/
def aw_cp (σ : aw_S) (a b n : Nat) : aw_S := (fun c j => if c = b ∧ j < n then σ.1 a j else σ.1 c j, σ.2)
theorem aw_cp_1 : Cond.native arraycopyName ∈ wsL_law := (aw_mem 278 (by decide +kernel))
theorem aw_cp_2 : Cond.static arraycopyName ∈ wsL_law := (aw_mem 279 (by decide +kernel))
theorem aw_cp_3 : Cond.initialized "java/lang/System" ∈ wsL_law := (aw_mem 280 (by decide +kernel))
theorem aw_w_cp {b : Nat} {dA : Nat → ClassId} {sh : List aw_H} {σ : aw_S} {a o kd n N : Nat} {f : Nat → Option Nat} (hs : sh[o]? = some (.inr (kd, n, f))) (hk : kd < 3) :
    (aw_w b dA sh σ).set o (b + o, .inl (dA kd, n, .inl (va_cpy (σ.1 a) (σ.1 o) (0 : Int32).toNatClampNeg (0 : Int32).toNatClampNeg N))) = aw_w b dA sh (aw_cp σ a o N) := by
  refine aw_w_set rfl (fun _ => ?_) (fun _ _ => rfl) (fun k hk => ⟨funext fun i => if_neg (fun e => hk e.1), rfl, rfl⟩)
  rw [aw_w_get hs, aw_ar_i hk]
  refine congrArg (fun z => some (b + o, Sum.inl (dA kd, n, Sum.inl z))) (funext fun k => ?_)
  show (if o = o ∧ k < N then σ.1 a k else σ.1 o k) = va_cpy (σ.1 a) (σ.1 o) 0 0 N k
  unfold va_cpy
  by_cases h : k < N
  · rw [if_pos ⟨rfl, h⟩, if_pos ⟨Nat.zero_le _, by omega⟩]
    rw [Nat.zero_add, Nat.sub_zero]
  · rw [if_neg (fun e => h e.2), if_neg (fun e => h (by omega))]
theorem aw_copyI {l : Launch} {M : aw_M} {G : aw_G} {B : aw_B} {E : aw_E} {pc : Nat} {loc : List (Nat × Value)} {st : List Value} {sh : List aw_H} {σ : aw_S} {kc ks : Nat} {idx n0 n1 o1 o2 N : Nat} {f0 f1 : Nat → Option Nat} {n : Int32} (hl : Cond.methodLink M.1 idx arraycopyName ∈ wsL_law) (hs : sh[o1]? = some (.inr (0, n0, f0))) (hs2 : sh[o2]? = some (.inr (0, n1, f1))) (hn : ¬ n < 0 ∧ n.toNatClampNeg = N) (h4 : N ≤ n0) (h5 : N ≤ n1) (hfit : ∀ i, i < N → fits .int (.int (σ.1 o1 i)) = true) (hr : 1 ≤ B.1 ∧ 8 + (nativeFrameWords "java/lang/System" "arraycopy" 5 + 11) ≤ B.2.1) (hst : (st.map fun v => v.category).sum ≤ 8) (hd : decode M.2.1 pc = .ok (.invokestatic idx, 3)) (k : aw_W l M G B E (pc + 3) loc st sh (aw_cp σ o1 o2 N) kc ks) : aw_W l M G B E pc loc (.int n :: .int 0 :: .ref o2 :: .int 0 :: .ref o1 :: st) sh σ kc ks := by
  intro p e R s m args below meth c A H locs ls C P L
  have hts := C.2.2.2.2.2.2.1
  have hR := C.2.2.2.2.2.2.2.1
  obtain ⟨hn0, rfl⟩ := hn
  refine va_copyi (D := (G.1, G.2.1)) C.1 C.2.1 (C.2.2.1.trans L.1.symm) C.2.2.2.2.1 (hts _ hl) (hts _ aw_cp_1) (hts _ aw_cp_2) (hts _ aw_cp_3) C.2.2.2.2.2.2.2.2.1 P.1 (aw_w_D P.2.2.1) P.2.1 o1 o2 0 0 ((aw_w_get hs).trans (congrArg (fun z => some (G.2.2.2.1 + o1, z)) (aw_ar_i (by decide)))) ((aw_w_get hs2).trans (congrArg (fun z => some (G.2.2.2.1 + o2, z)) (aw_ar_i (by decide)))) rfl rfl rfl (sp := 0) (dp := 0) (n := n) (by decide) (by decide) hn0 (by show 0 + _ ≤ _; omega) (by show 0 + _ ≤ _; omega) (fun i hi => by show fits .int (.int (σ.1 o1 (0 + i))) = true; rw [Nat.zero_add]; exact hfit i hi) (Nat.le_trans hr.1 hR.1) (by rw [aw_catl]; have := hr.2; have := hR.2.1; omega) hd (fun H1 locs1 hP1 hD1 hS1 => ?_)
  rw [aw_w_cp hs2 (by decide)] at hP1
  exact k p e R s m args below meth c A H1 locs1 ls C (aw_Hp_st P hP1 hS1 rfl) L
theorem aw_copyB {l : Launch} {M : aw_M} {G : aw_G} {B : aw_B} {E : aw_E} {pc : Nat} {loc : List (Nat × Value)} {st : List Value} {sh : List aw_H} {σ : aw_S} {kc ks : Nat} {idx n0 n1 o1 o2 N : Nat} {f0 f1 : Nat → Option Nat} {n : Int32} (hl : Cond.methodLink M.1 idx arraycopyName ∈ wsL_law) (hs : sh[o1]? = some (.inr (1, n0, f0))) (hs2 : sh[o2]? = some (.inr (1, n1, f1))) (hn : ¬ n < 0 ∧ n.toNatClampNeg = N) (h4 : N ≤ n0) (h5 : N ≤ n1) (hfit : ∀ i, i < N → fits .byte (.int (σ.1 o1 i)) = true) (hr : 1 ≤ B.1 ∧ 8 + (nativeFrameWords "java/lang/System" "arraycopy" 5 + 11) ≤ B.2.1) (hst : (st.map fun v => v.category).sum ≤ 8) (hd : decode M.2.1 pc = .ok (.invokestatic idx, 3)) (k : aw_W l M G B E (pc + 3) loc st sh (aw_cp σ o1 o2 N) kc ks) : aw_W l M G B E pc loc (.int n :: .int 0 :: .ref o2 :: .int 0 :: .ref o1 :: st) sh σ kc ks := by
  intro p e R s m args below meth c A H locs ls C P L
  have hts := C.2.2.2.2.2.2.1
  have hR := C.2.2.2.2.2.2.2.1
  obtain ⟨hn0, rfl⟩ := hn
  refine va_copyi (D := (G.1, G.2.1)) C.1 C.2.1 (C.2.2.1.trans L.1.symm) C.2.2.2.2.1 (hts _ hl) (hts _ aw_cp_1) (hts _ aw_cp_2) (hts _ aw_cp_3) C.2.2.2.2.2.2.2.2.1 P.1 (aw_w_D P.2.2.1) P.2.1 o1 o2 1 1 ((aw_w_get hs).trans (congrArg (fun z => some (G.2.2.2.1 + o1, z)) (aw_ar_i (by decide)))) ((aw_w_get hs2).trans (congrArg (fun z => some (G.2.2.2.1 + o2, z)) (aw_ar_i (by decide)))) rfl rfl rfl (sp := 0) (dp := 0) (n := n) (by decide) (by decide) hn0 (by show 0 + _ ≤ _; omega) (by show 0 + _ ≤ _; omega) (fun i hi => by show fits .byte (.int (σ.1 o1 (0 + i))) = true; rw [Nat.zero_add]; exact hfit i hi) (Nat.le_trans hr.1 hR.1) (by rw [aw_catl]; have := hr.2; have := hR.2.1; omega) hd (fun H1 locs1 hP1 hD1 hS1 => ?_)
  rw [aw_w_cp hs2 (by decide)] at hP1
  exact k p e R s m args below meth c A H1 locs1 ls C (aw_Hp_st P hP1 hS1 rfl) L
/-- the default of a switch on keys -/
theorem aw_lkout {x : Int32} {d : Int} (ps : List (Int × Int)) (h : ∀ k ∈ ps.map Prod.fst, ¬ x.toInt = k) : Op.lookupswitch.offset ps d x.toInt = d := by
  induction ps with
  | nil => rfl
  | cons p t ih =>
    obtain ⟨a, b⟩ := p
    have h1 : ¬ x.toInt = a := h a List.mem_cons_self
    have h2 := ih (fun k hk => h k (List.mem_cons_of_mem _ hk))
    show (if a = x.toInt then b else Op.lookupswitch.offset t d x.toInt) = d
    rw [if_neg (fun e => h1 e.symm)]
    exact h2

/-! ===== rounds over all nodes: towards the greatest (g) or the least answer ===== -/
def ao_le (g p q : Prop) : Prop := (g → p → q) ∧ (¬ g → q → p)
theorem ao_le_rf {g p : Prop} : ao_le g p p := ⟨fun _ h => h, fun _ h => h⟩
theorem ao_le_tr {g p q r : Prop} (h : ao_le g p q) (h' : ao_le g q r) : ao_le g p r := ⟨fun hg hp => h'.1 hg (h.1 hg hp), fun hg hr => h.2 hg (h'.2 hg hr)⟩
theorem ao_le_as {g p q : Prop} (h : ao_le g p q) (h' : ao_le g q p) : p ↔ q := by
  by_cases hg : g
  · exact ⟨h.1 hg, h'.1 hg⟩
  · exact ⟨h'.2 hg, h.2 hg⟩
theorem ao_le_of {g p q : Prop} (h : p ↔ q) : ao_le g p q := ⟨fun _ => h.mp, fun _ => h.mpr⟩
def ao_mono (N : Nat) (F : (Nat → Prop) → Nat → Prop) : Prop := ∀ (Y Z : Nat → Prop), (∀ m, m < N → Y m → Z m) → ∀ n, n < N → F Y n → F Z n
theorem ao_le_F {g : Prop} {N : Nat} {F : (Nat → Prop) → Nat → Prop} (hF : ao_mono N F) {Y Z : Nat → Prop} (h : ∀ m, m < N → ao_le g (Y m) (Z m)) : ∀ n, n < N → ao_le g (F Y n) (F Z n) := fun n hn =>
  ⟨fun hg => hF Y Z (fun m hm => (h m hm).1 hg) n hn, fun hg => hF Z Y (fun m hm => (h m hm).2 hg) n hn⟩
theorem ao_F_c {N : Nat} {F : (Nat → Prop) → Nat → Prop} (hF : ao_mono N F) {Y Z : Nat → Prop} (h : ∀ m, m < N → (Y m ↔ Z m)) : ∀ n, n < N → (F Y n ↔ F Z n) := fun n hn =>
  ⟨hF Y Z (fun m hm => (h m hm).mp) n hn, hF Z Y (fun m hm => (h m hm).mpr) n hn⟩
def ao_D (g : Prop) (N : Nat) (F : (Nat → Prop) → Nat → Prop) (st : Nat → Prop) : Prop := ∀ n, n < N → ao_le g (F st n) (st n)
def ao_U (g : Prop) (N : Nat) (F : (Nat → Prop) → Nat → Prop) (st : Nat → Prop) : Prop := ∀ Y : Nat → Prop, (∀ n, n < N → ao_le g (Y n) (F Y n)) → ∀ n, n < N → ao_le g (Y n) (st n)
def ao_fx (N : Nat) (F : (Nat → Prop) → Nat → Prop) (st : Nat → Prop) : Prop := ∀ n, n < N → (st n ↔ F st n)
def ao_mv (g : Prop) (st : Nat → Prop) : Nat → Prop := fun n => (g ∧ st n) ∨ (¬ g ∧ ¬ st n)
noncomputable def ao_cn (g : Prop) (N : Nat) (st : Nat → Prop) : Nat := ao_n (ao_mv g st) N
theorem ao_mv_le {g : Prop} {st st' : Nat → Prop} {n : Nat} (h : ao_le g (st n) (st' n)) : ao_mv g st n → ao_mv g st' n := by
  intro hm
  rcases hm with ⟨hg, hs⟩ | ⟨hg, hs⟩
  · exact Or.inl ⟨hg, h.1 hg hs⟩
  · exact Or.inr ⟨hg, fun q => hs (h.2 hg q)⟩
theorem ao_cn_le {g : Prop} {N : Nat} {st st' : Nat → Prop} (h : ∀ n, n < N → ao_le g (st n) (st' n)) : ao_cn g N st ≤ ao_cn g N st' := ao_n_mono (fun k hk => ao_mv_le (h k hk))
theorem ao_cn_lt {g : Prop} {N : Nat} {st st' : Nat → Prop} (h : ∀ n, n < N → ao_le g (st n) (st' n)) {i : Nat} (hi : i < N) (hne : ¬ (st i ↔ st' i)) : ao_cn g N st < ao_cn g N st' := by
  refine ao_n_lt (i := i) (fun k hk => ao_mv_le (h k hk)) hi ?_ ?_
  · by_cases hg : g
    · refine Or.inl ⟨hg, Classical.byContradiction fun hq => hne ⟨(h i hi).1 hg, fun q => absurd q hq⟩⟩
    · refine Or.inr ⟨hg, fun hq => hne ⟨fun _ => hq, (h i hi).2 hg⟩⟩
  · rintro (⟨hg, hs⟩ | ⟨hg, hs⟩)
    · exact hne ⟨fun q => (h i hi).1 hg q, fun _ => hs⟩
    · exact hne ⟨fun q => absurd q hs, fun q => (h i hi).2 hg q⟩
theorem ao_cn_c {g : Prop} {N : Nat} {st st' : Nat → Prop} (h : ∀ n, n < N → (st n ↔ st' n)) : ao_cn g N st = ao_cn g N st' := Nat.le_antisymm (ao_cn_le fun n hn => ao_le_of (h n hn)) (ao_cn_le fun n hn => ao_le_of (h n hn).symm)
theorem ao_cn_N (g : Prop) (N : Nat) (st : Nat → Prop) : ao_cn g N st ≤ N := ao_n_le _ _
/-- within a round that began at st0, those of vis looked at -/
def ao_in (g : Prop) (N : Nat) (F : (Nat → Prop) → Nat → Prop) (st0 : Nat → Prop) (vis st : Nat → Prop) : Prop :=
  ao_D g N F st ∧ ao_U g N F st ∧ (∀ m, m < N → ao_le g (st m) (st0 m)) ∧ (ao_cn g N st < ao_cn g N st0 ∨ ((∀ m, m < N → (st m ↔ st0 m)) ∧ ∀ m, m < N → vis m → (st0 m ↔ F st0 m)))
theorem ao_in_0 {g : Prop} {N : Nat} {F : (Nat → Prop) → Nat → Prop} {st0 : Nat → Prop} (hD : ao_D g N F st0) (hU : ao_U g N F st0) : ao_in g N F st0 (fun _ => False) st0 := ⟨hD, hU, fun _ _ => ao_le_rf, Or.inr ⟨fun _ _ => Iff.rfl, fun _ _ h => h.elim⟩⟩
theorem ao_in_s {g : Prop} {N : Nat} {F : (Nat → Prop) → Nat → Prop} (hF : ao_mono N F) {st0 vis st st' : Nat → Prop} {n : Nat} (h : ao_in g N F st0 vis st) (hn : n < N) (h1 : st' n ↔ F st n) (h2 : ∀ m, m < N → m ≠ n → (st' m ↔ st m)) : ao_in g N F st0 (fun m => vis m ∨ m = n) st' := by
  obtain ⟨hD, hU, hA, hB⟩ := h
  have hle : ∀ m, m < N → ao_le g (st' m) (st m) := by
    intro m hm
    by_cases e : m = n
    · subst e; exact ao_le_tr (ao_le_of h1) (hD m hm)
    · exact ao_le_of (h2 m hm e)
  refine ⟨fun m hm => ?_, fun Y hY m hm => ?_, fun m hm => ao_le_tr (hle m hm) (hA m hm), ?_⟩
  · have hf := ao_le_F hF hle m hm
    by_cases e : m = n
    · subst e; exact ao_le_tr hf (ao_le_of h1.symm)
    · exact ao_le_tr hf (ao_le_tr (hD m hm) (ao_le_of (h2 m hm e).symm))
  · have hy := hU Y hY
    by_cases e : m = n
    · subst e
      exact ao_le_tr (hY m hm) (ao_le_tr (ao_le_F hF hy m hm) (ao_le_of h1.symm))
    · exact ao_le_tr (hy m hm) (ao_le_of (h2 m hm e).symm)
  · rcases hB with hB | ⟨hB, hv⟩
    · exact Or.inl (Nat.lt_of_le_of_lt (ao_cn_le hle) hB)
    · by_cases hc : st' n ↔ st n
      · refine Or.inr ⟨fun m hm => ?_, fun m hm hvm => ?_⟩
        · by_cases e : m = n
          · subst e; exact hc.trans (hB m hm)
          · exact (h2 m hm e).trans (hB m hm)
        · rcases hvm with hvm | e
          · exact hv m hm hvm
          · subst e
            exact (hB m hm).symm.trans (hc.symm.trans (h1.trans (ao_F_c hF hB m hm)))
      · refine Or.inl ?_
        rw [← ao_cn_c hB]
        exact ao_cn_lt hle hn hc
/-- a round is through -/
theorem ao_in_e {g : Prop} {N : Nat} {F : (Nat → Prop) → Nat → Prop} (hF : ao_mono N F) {st0 vis st : Nat → Prop} (h : ao_in g N F st0 vis st) (hv : ∀ n, n < N → vis n) : ao_D g N F st ∧ ao_U g N F st ∧ (ao_cn g N st < ao_cn g N st0 ∨ ao_fx N F st) ∧ (ao_fx N F st0 → ao_fx N F st) := by
  obtain ⟨hD, hU, hA, hB⟩ := h
  have key : (∀ m, m < N → (st m ↔ st0 m)) → ao_fx N F st0 → ao_fx N F st := fun he hf n hn => (he n hn).trans ((hf n hn).trans (ao_F_c hF he n hn).symm)
  refine ⟨hD, hU, ?_, fun hf => key (fun m hm => ao_le_as (hA m hm) (hU st0 (fun n hn => ao_le_of (hf n hn)) m hm)) hf⟩
  rcases hB with hB | ⟨hB, hv'⟩
  · exact Or.inl hB
  · exact Or.inr (key hB fun n hn => hv' n hn (hv n hn))
theorem ao_in_same {g : Prop} {N : Nat} {F : (Nat → Prop) → Nat → Prop} (hF : ao_mono N F) {st0 vis st : Nat → Prop} (h : ao_in g N F st0 vis st) (hv : ∀ n, n < N → vis n) (hs : ∀ m, m < N → (st m ↔ st0 m)) : ao_fx N F st := by
  rcases (ao_in_e hF h hv).2.2.1 with hl | hf
  · rw [ao_cn_c hs] at hl; exact absurd hl (Nat.lt_irrefl _)
  · exact hf
/-- what stands and lets nothing better be -/
theorem ao_gf_of {N : Nat} {F : (Nat → Prop) → Nat → Prop} {st : Nat → Prop} (hU : ao_U True N F st) (hf : ao_fx N F st) : ao_gf N F st := ⟨fun n hn => (hf n hn).mp, fun Y hY n hn => (hU Y (fun m hm => ⟨fun _ => hY m hm, fun h => absurd trivial h⟩) n hn).1 trivial⟩
theorem ao_lf_of {N : Nat} {F : (Nat → Prop) → Nat → Prop} {st : Nat → Prop} (hU : ao_U False N F st) (hf : ao_fx N F st) : ao_lf N F st := ⟨fun n hn => (hf n hn).mpr, fun Y hY n hn => (hU Y (fun m hm => ⟨fun h => h.elim, fun _ => hY m hm⟩) n hn).2 not_false⟩

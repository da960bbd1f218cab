/-! ===== OTHERS: right, life: in the class ===== -/
theorem ot_rounds {g : Prop} {N : Nat} {F : (Nat → Prop) → Nat → Prop} (hN : N ≤ 12) (hF : ao_mono N F) {fo : Int32 × Int32 × Int32 → Option (Int32 ⊕ (Int32 × Int32 × Int32))} (Z : Int32 → Prop) (h0 : ∀ x r, fo (x, 0, r) = some (.inl x)) (h1 : ∀ x, fo (x, 1, nI 13) = some (.inl x)) (h2 : ∀ x r, r ≤ 12 → Z x → ao_D g N F (ao_t x) → ao_U g N F (ao_t x) → ∃ x', Z x' ∧ ao_in g N F (ao_t x) (fun n => n < N) (ao_t x') ∧ fo (x, 1, nI r) = some (.inr (x', (if x' = x then 0 else 1), nI (r + 1)))) {x0 : Int32} (hZ : Z x0) (hD : ao_D g N F (ao_t x0)) (hU : ao_U g N F (ao_t x0)) : ao_ok (aw_lp fo aw_fu (x0, (1 : Int32), (0 : Int32))) (fun x => Z x ∧ ao_U g N F (ao_t x) ∧ ao_fx N F (ao_t x)) := by
  refine ao_for 13 (fun k s => s.2.2 = nI k ∧ Z s.1 ∧ ao_D g N F (ao_t s.1) ∧ ao_U g N F (ao_t s.1) ∧ ((s.2.1 = 0 ∧ ao_fx N F (ao_t s.1)) ∨ (s.2.1 = 1 ∧ (ao_fx N F (ao_t s.1) ∨ ao_cn g N (ao_t s.1) + k ≤ N)))) (a := 0) ⟨rfl, hZ, hD, hU, Or.inr ⟨rfl, Or.inr (ao_cn_N g N _)⟩⟩ (Nat.zero_le _) (by omega) ?_ ?_
  · rintro k ⟨x, v, r⟩ hk ⟨e1, z, d, u, c⟩
    have e1 : r = nI k := e1
    subst e1
    have z : Z x := z
    have d : ao_D g N F (ao_t x) := d
    have u : ao_U g N F (ao_t x) := u
    have c : (v = 0 ∧ ao_fx N F (ao_t x)) ∨ (v = 1 ∧ (ao_fx N F (ao_t x) ∨ ao_cn g N (ao_t x) + k ≤ N)) := c
    rcases c with ⟨e, c⟩ | ⟨e, c⟩
    · rw [e, h0]; exact ao_inl ⟨z, u, c⟩
    · obtain ⟨x', z', i', e'⟩ := h2 x k (by omega) z d u
      rw [e, e']
      obtain ⟨d1, u1, c1, c2⟩ := ao_in_e hF i' (fun n hn => hn)
      refine ao_inr ⟨rfl, z', d1, u1, ?_⟩
      show ((if x' = x then (0 : Int32) else 1) = 0 ∧ _) ∨ ((if x' = x then (0 : Int32) else 1) = 1 ∧ _)
      by_cases q : x' = x
      · rw [if_pos q]
        exact Or.inl ⟨rfl, ao_in_same hF i' (fun n hn => hn) (fun m hm => by rw [q])⟩
      · rw [if_neg q]
        refine Or.inr ⟨rfl, ?_⟩
        rcases c1 with c1 | c1
        · rcases c with c | c
          · exact Or.inl (c2 c)
          · exact Or.inr (by show ao_cn g N (ao_t x') + (k + 1) ≤ N; omega)
        · exact Or.inl c1
  · rintro ⟨x, v, r⟩ ⟨e1, z, d, u, c⟩
    have e1 : r = nI 13 := e1
    subst e1
    have c : (v = 0 ∧ ao_fx N F (ao_t x)) ∨ (v = 1 ∧ (ao_fx N F (ao_t x) ∨ ao_cn g N (ao_t x) + 13 ≤ N)) := c
    rcases c with ⟨e, c⟩ | ⟨e, c⟩
    · rw [e, h0]; exact ao_inl ⟨z, u, c⟩
    · rw [e, h1]
      exact ao_inl ⟨z, u, c.elim id (fun c => by omega)⟩
/-- held: what a set, put in, gives -/
def ot_fR (N : Nat) (nx : Nat → Option Nat) (KE S : Nat → Prop) (Y : Nat → Prop) (n : Nat) : Prop := S n ∨ (n ≠ 0 ∧ ∀ p, p < N → ao_ed nx p n → Y p ∧ KE p)
theorem ot_fR_m (N : Nat) (nx : Nat → Option Nat) (KE S : Nat → Prop) : ao_mono N (ot_fR N nx KE S) := fun Y Z h n hn hf => hf.imp id (fun z => ⟨z.1, fun p hp he => ⟨h p hp (z.2 p hp he).1, (z.2 p hp he).2⟩⟩)
def ot_RI (Γ : ag_T) (e : Nat) (S : Nat → Prop) : Prop := ∀ n, n < ag_N Γ → ag_F Γ e 0 n → ao_G (ag_N Γ) (ot_fR (ag_N Γ) (ag_nx Γ) (ag_F Γ e 1) S) n
set_option maxHeartbeats 2000000 in
theorem ot_rightA {s : aw_S} {Γ : ag_T} {e : Nat} (hN : ag_N Γ ≤ 12) (T : ot_T s Γ e) (x : Int32) : m_Ot_isRight s x = some (ao_b (ot_RI Γ e (ao_t x))) := by
  obtain ⟨⟨h7, h12, hg⟩, h8, h9, h10, h11⟩ := T
  have hF := ot_fR_m (ag_N Γ) (ag_nx Γ) (ag_F Γ e 1) (ao_t x)
  unfold m_Ot_isRight
  rw [ao_ltr, h7]
  have key := ot_rounds (g := True) hN hF (fo := fun t => m_Ot_isRight_B14 s x t.1 t.2.1 t.2.2) (fun _ => True) (fun y r => by show m_Ot_isRight_B14 s x y 0 r = _; unfold m_Ot_isRight_B14; rw [if_pos rfl]) (fun y => by show m_Ot_isRight_B14 s x y 1 (nI 13) = _; unfold m_Ot_isRight_B14; rw [if_neg ao_n10, if_pos (by decide)]) ?_ (x0 := ((1 : Int32) <<< (nI (ag_N Γ) &&& 31)) - 1) trivial (fun n hn => ⟨fun _ _ => (ao_t_all (by omega) (by omega)).mpr hn, fun h => absurd trivial h⟩) (fun Y hY n hn => ⟨fun _ _ => (ao_t_all (by omega) (by omega)).mpr hn, fun h => absurd trivial h⟩)
  · obtain ⟨r, er, _, hU, hfx⟩ := key
    rw [aw_bd_s er]
    have G := ao_gf_G (ao_gf_of hU hfx) (F' := ot_fR (ag_N Γ) (ag_nx Γ) (ag_F Γ e 1) (ao_t x)) (fun _ _ _ => Iff.rfl)
    have hz : (s.1 105 8 &&& (r ^^^ (-1 : Int32))) = 0 ↔ ot_RI Γ e (ao_t x) := by
      rw [ao_t_nz]
      refine ⟨fun z n hn hu => (G n hn).mp (Classical.byContradiction fun q => z n (by omega) (ao_t_and.mpr ⟨(h8 n (by omega)).mpr ⟨hn, hu⟩, (ao_t_not (by omega)).mpr q⟩)), fun z i hi q => ?_⟩
      obtain ⟨q1, q2⟩ := ao_t_and.mp q
      obtain ⟨q3, q4⟩ := (h8 i hi).mp q1
      exact (ao_t_not hi).mp q2 ((G i q3).mpr (z i q3 q4))
    by_cases q : (s.1 105 8 &&& (r ^^^ (-1 : Int32))) = 0
    · rw [if_pos q, ao_b1 (hz.mp q)]
    · rw [if_neg q, ao_b0 (fun z => q (hz.mpr z))]
  · intro y r hr _ hD hU
    show ∃ x', True ∧ _ ∧ m_Ot_isRight_B14 s x y 1 (nI r) = _
    unfold m_Ot_isRight_B14
    rw [if_neg ao_n10, if_neg (show ¬ (12 : Int32) < nI r from nI_nlt (a := 12) hr (by omega))]
    have inner : ao_ok (aw_lp (fun t => m_Ot_isRight_B31 s x (nI r) y t.1 t.2) aw_fu (y, (0 : Int32))) (fun y' => ao_in True (ag_N Γ) (ot_fR (ag_N Γ) (ag_nx Γ) (ag_F Γ e 1) (ao_t x)) (ao_t y) (fun n => n < ag_N Γ) (ao_t y')) := by
      refine ao_for (ag_N Γ) (fun k (t : Int32 × Int32) => t.2 = nI k ∧ ao_in True (ag_N Γ) (ot_fR (ag_N Γ) (ag_nx Γ) (ag_F Γ e 1) (ao_t x)) (ao_t y) (fun n => n < k) (ao_t t.1)) (a := 0) ⟨rfl, ao_in_v (ao_in_0 hD hU) (fun m hm => absurd hm (Nat.not_lt_zero _))⟩ (Nat.zero_le _) (by omega) ?_ ?_
      · rintro k ⟨z, v⟩ hk ⟨e1, hi⟩
        have e1 : v = nI k := e1
        subst e1
        have hi : ao_in True (ag_N Γ) (ot_fR (ag_N Γ) (ag_nx Γ) (ag_F Γ e 1) (ao_t x)) (ao_t y) (fun n => n < k) (ao_t z) := hi
        show ao_ok (m_Ot_isRight_B31 s x (nI r) y z (nI k)) _
        have fin : ∀ z', (∀ i, i < 32 → i ≠ k → (ao_t z' i ↔ ao_t z i)) → (ao_t z' k ↔ ot_fR (ag_N Γ) (ag_nx Γ) (ag_F Γ e 1) (ao_t x) (ao_t z) k) → ao_ok (m_Ot_isRight_J94 s x z' (nI r) y (nI k)) (Sum.elim (fun y' => ao_in True (ag_N Γ) (ot_fR (ag_N Γ) (ag_nx Γ) (ag_F Γ e 1) (ao_t x)) (ao_t y) (fun n => n < ag_N Γ) (ao_t y')) (fun (t : Int32 × Int32) => t.2 = nI (k + 1) ∧ ao_in True (ag_N Γ) (ot_fR (ag_N Γ) (ag_nx Γ) (ag_F Γ e 1) (ao_t x)) (ao_t y) (fun n => n < k + 1) (ao_t t.1))) := by
          intro z' q1 q2
          unfold m_Ot_isRight_J94
          rw [ao_ltr, nI_1]
          exact ao_inr ⟨rfl, ao_in_v (ao_in_s hF hi hk q2 (fun m hm hne => q1 m (by omega) hne)) (fun m hm => by by_cases q : m = k; exact Or.inr q; exact Or.inl (by omega))⟩
        have keep : ot_fR (ag_N Γ) (ag_nx Γ) (ag_F Γ e 1) (ao_t x) (ao_t z) k → (ao_t z k ↔ ot_fR (ag_N Γ) (ag_nx Γ) (ag_F Γ e 1) (ao_t x) (ao_t z) k) := fun h => ⟨fun _ => h, fun _ => (hi.1 k hk).1 trivial h⟩
        have J68 : ¬ (k ≠ 0 ∧ ∀ p, p < ag_N Γ → ao_ed (ag_nx Γ) p k → ao_t z p ∧ ag_F Γ e 1 p) → ao_ok (m_Ot_isRight_J68 s x z (nI r) y (nI k)) (Sum.elim (fun y' => ao_in True (ag_N Γ) (ot_fR (ag_N Γ) (ag_nx Γ) (ag_F Γ e 1) (ao_t x)) (ao_t y) (fun n => n < ag_N Γ) (ao_t y')) (fun (t : Int32 × Int32) => t.2 = nI (k + 1) ∧ ao_in True (ag_N Γ) (ot_fR (ag_N Γ) (ag_nx Γ) (ag_F Γ e 1) (ao_t x)) (ao_t y) (fun n => n < k + 1) (ao_t t.1))) := by
          intro hn
          unfold m_Ot_isRight_J68 m_Ot_isRight_J69
          rw [if_pos rfl, aw_bd_s (ag_bitOf s x (by omega))]
          by_cases q : ao_t x k
          · rw [ao_b1 q, if_neg ao_n10]
            exact fin z (fun _ _ _ => Iff.rfl) (keep (Or.inl q))
          · rw [ao_b0 q, if_pos rfl, ao_ltr]
            refine fin _ (fun i hi' hne => ?_) ⟨fun w => ?_, fun w => w.elim (fun w => absurd w q) (fun w => absurd w hn)⟩
            · rw [ao_t_and, ao_t_not hi', ao_t_one (by omega) hi']
              exact ⟨fun w => w.1, fun w => ⟨w, hne⟩⟩
            · rw [ao_t_and, ao_t_not (by omega), ao_t_one (by omega) (by omega)] at w
              exact absurd rfl w.2
        unfold m_Ot_isRight_B31
        rw [h7, if_neg (nI_ge hk (by omega))]
        by_cases k0 : k = 0
        · rw [if_pos (show nI k ≤ 0 by rw [k0]; decide)]
          exact J68 (fun w => w.1 k0)
        · rw [if_neg (nI_nle (by omega) (by omega)), ao_gdn (by omega) (by omega), nI_clamp (by omega)]
          have hz : (s.1 133 k &&& ((z &&& s.1 105 9) ^^^ (-1 : Int32))) = 0 ↔ ∀ p, p < ag_N Γ → ao_ed (ag_nx Γ) p k → ao_t z p ∧ ag_F Γ e 1 p := by
            rw [ao_t_nz]
            refine ⟨fun w p hp he => Classical.byContradiction fun q => w p (by omega) (ao_t_and.mpr ⟨((hg k hk).2.2.1 p (by omega)).mpr ⟨hp, he⟩, (ao_t_not (by omega)).mpr (fun u => q ⟨(ao_t_and.mp u).1, ((h9 p (by omega)).mp (ao_t_and.mp u).2).2⟩)⟩), fun w i hi' q => ?_⟩
            obtain ⟨q1, q2⟩ := ao_t_and.mp q
            obtain ⟨q3, q4⟩ := ((hg k hk).2.2.1 i hi').mp q1
            obtain ⟨q5, q6⟩ := w i q3 q4
            exact (ao_t_not hi').mp q2 (ao_t_and.mpr ⟨q5, (h9 i hi').mpr ⟨q3, q6⟩⟩)
          by_cases q : (s.1 133 k &&& ((z &&& s.1 105 9) ^^^ (-1 : Int32))) = 0
          · rw [if_pos q]
            unfold m_Ot_isRight_J69
            rw [if_neg ao_n10]
            exact fin z (fun _ _ _ => Iff.rfl) (keep (Or.inr ⟨k0, hz.mp q⟩))
          · rw [if_neg q]
            exact J68 (fun w => q (hz.mpr w.2))
      · rintro ⟨z, v⟩ ⟨e1, hi⟩
        have e1 : v = nI (ag_N Γ) := e1
        subst e1
        show ao_ok (m_Ot_isRight_B31 s x (nI r) y z (nI (ag_N Γ))) _
        unfold m_Ot_isRight_B31
        rw [h7, if_pos (nI_le (Nat.le_refl _) (by omega))]
        exact ao_inl hi
    obtain ⟨y', e', h'⟩ := inner
    refine ⟨y', trivial, h', ?_⟩
    rw [aw_bd_s e']
    unfold m_Ot_isRight_J111
    by_cases q : y' = y
    · rw [if_pos q, if_pos q, ao_ltr, nI_1]
    · rw [if_neg q, if_neg q, ao_ltr, nI_1]
/-- alive -/
def ot_fL (nx : Nat → Option Nat) (US S : Nat → Prop) (Y : Nat → Prop) (n : Nat) : Prop := US n ∨ ∃ t, ao_ed nx n t ∧ Y t ∧ ¬ S t
def ot_LF (Γ : ag_T) (e : Nat) (S : Nat → Prop) : Nat → Prop := ao_L (ag_N Γ) (ot_fL (ag_nx Γ) (ag_F Γ e 0) S)
theorem ot_fL_m {N : Nat} {nx : Nat → Option Nat} (h : ao_tp N nx) (US S : Nat → Prop) : ao_mono N (ot_fL nx US S) := fun Y Z hY n hn hf => hf.imp id (fun ⟨t, h1, h2, h3⟩ => ⟨t, h1, hY t (ao_ed_lt h hn h1) h2, h3⟩)
set_option maxHeartbeats 2000000 in
theorem ot_lifeA {s : aw_S} {Γ : ag_T} {e : Nat} (hT : ao_tp (ag_N Γ) (ag_nx Γ)) (hN : ag_N Γ ≤ 12) (T : ot_T s Γ e) (x : Int32) : m_Ot_lifeOf s x = some (nI (ao_n (ot_LF Γ e (ao_t x)) (ag_N Γ))) := by
  obtain ⟨⟨h7, h12, hg⟩, h8, h9, h10, h11⟩ := T
  have hF := ot_fL_m hT (ag_F Γ e 0) (ao_t x)
  unfold m_Ot_lifeOf
  rw [ao_ltr]
  have key := ot_rounds (g := False) hN hF (fo := fun t => m_Ot_lifeOf_B10 s x t.1 t.2.1 t.2.2) (fun y => (∀ i, i < 32 → ao_t y i → i < ag_N Γ) ∧ ∀ n, n < ag_N Γ → ag_F Γ e 0 n → ao_t y n) (fun y r => by show m_Ot_lifeOf_B10 s x y 0 r = _; unfold m_Ot_lifeOf_B10; rw [if_pos rfl]) (fun y => by show m_Ot_lifeOf_B10 s x y 1 (nI 13) = _; unfold m_Ot_lifeOf_B10; rw [if_neg ao_n10, if_pos (by decide)]) ?_ (x0 := s.1 105 8) ⟨fun i hi q => ((h8 i hi).mp q).1, fun n hn q => (h8 n (by omega)).mpr ⟨hn, q⟩⟩ (fun n hn => ⟨fun h => h.elim, fun _ q => Or.inl ((h8 n (by omega)).mp q).2⟩) (fun Y hY n hn => ⟨fun h => h.elim, fun _ q => (hY n hn).2 id (Or.inl ((h8 n (by omega)).mp q).2)⟩)
  · obtain ⟨r, er, ⟨hb, _⟩, hU, hfx⟩ := key
    rw [aw_bd_s er]
    have L := ao_lf_L (ao_lf_of hU hfx) (F' := ot_fL (ag_nx Γ) (ag_F Γ e 0) (ao_t x)) (fun _ _ _ => Iff.rfl)
    rw [aw_bd_s (iq_bc s (by omega) (fun i hi => ⟨fun z => ⟨hb i hi z, (L i (hb i hi z)).mp z⟩, fun z => (L i z.1).mpr z.2⟩))]
    rfl
  · intro y r hr hZ hD hU
    show ∃ x', _ ∧ _ ∧ m_Ot_lifeOf_B10 s x y 1 (nI r) = _
    unfold m_Ot_lifeOf_B10
    rw [if_neg ao_n10, if_neg (show ¬ (12 : Int32) < nI r from nI_nlt (a := 12) hr (by omega)), ao_ltr, h7]
    have inner : ao_ok (aw_lp (fun t => m_Ot_lifeOf_B32 s x (nI r) y t.1 t.2) aw_fu (y, nI (ag_N Γ) - 1)) (fun y' => ((∀ i, i < 32 → ao_t y' i → i < ag_N Γ) ∧ ∀ n, n < ag_N Γ → ag_F Γ e 0 n → ao_t y' n) ∧ ao_in False (ag_N Γ) (ot_fL (ag_nx Γ) (ag_F Γ e 0) (ao_t x)) (ao_t y) (fun n => n < ag_N Γ) (ao_t y')) := by
      refine ao_for (ag_N Γ) (fun k (t : Int32 × Int32) => t.2 = nI (ag_N Γ - k) - 1 ∧ ((∀ i, i < 32 → ao_t t.1 i → i < ag_N Γ) ∧ ∀ n, n < ag_N Γ → ag_F Γ e 0 n → ao_t t.1 n) ∧ ao_in False (ag_N Γ) (ot_fL (ag_nx Γ) (ag_F Γ e 0) (ao_t x)) (ao_t y) (fun n => ag_N Γ - k ≤ n) (ao_t t.1)) (a := 0) ⟨rfl, hZ, by
        have I0 := ao_in_0 hD hU
        exact ⟨I0.1, I0.2.1, I0.2.2.1, Or.inr ⟨fun _ _ => Iff.rfl, fun m hm hv => by omega⟩⟩⟩ (Nat.zero_le _) (by omega) ?_ ?_
      · rintro k ⟨z, v⟩ hk ⟨e1, hZ', hi⟩
        obtain ⟨m, hm⟩ : ∃ m, ag_N Γ - k = m + 1 := ⟨ag_N Γ - k - 1, by omega⟩
        have e1 : v = nI m := by
          have e1 : v = nI (ag_N Γ - k) - 1 := e1
          rw [e1, hm, nI_pred]
        subst e1
        have hmN : m < ag_N Γ := by omega
        have hi : ao_in False (ag_N Γ) (ot_fL (ag_nx Γ) (ag_F Γ e 0) (ao_t x)) (ao_t y) (fun n => ag_N Γ - k ≤ n) (ao_t z) := hi
        obtain ⟨hb, hu⟩ := hZ'
        have hb : ∀ i, i < 32 → ao_t z i → i < ag_N Γ := hb
        have hu : ∀ n, n < ag_N Γ → ag_F Γ e 0 n → ao_t z n := hu
        show ao_ok (m_Ot_lifeOf_B32 s x (nI r) y z (nI m)) _
        have fin : ∀ w, (∀ i, i < 32 → (ao_t w i ↔ i = m ∧ ∃ t, ao_ed (ag_nx Γ) m t ∧ ao_t z t ∧ ¬ ao_t x t)) → ao_ok (m_Ot_lifeOf_J62 s x (nI r) y (nI m) z w) (Sum.elim (fun y' => ((∀ i, i < 32 → ao_t y' i → i < ag_N Γ) ∧ ∀ n, n < ag_N Γ → ag_F Γ e 0 n → ao_t y' n) ∧ ao_in False (ag_N Γ) (ot_fL (ag_nx Γ) (ag_F Γ e 0) (ao_t x)) (ao_t y) (fun n => n < ag_N Γ) (ao_t y')) (fun (t : Int32 × Int32) => t.2 = nI (ag_N Γ - (k + 1)) - 1 ∧ ((∀ i, i < 32 → ao_t t.1 i → i < ag_N Γ) ∧ ∀ n, n < ag_N Γ → ag_F Γ e 0 n → ao_t t.1 n) ∧ ao_in False (ag_N Γ) (ot_fL (ag_nx Γ) (ag_F Γ e 0) (ao_t x)) (ao_t y) (fun n => ag_N Γ - (k + 1) ≤ n) (ao_t t.1))) := by
          intro w hw
          unfold m_Ot_lifeOf_J62
          rw [ao_ltr, ao_ltr]
          refine ao_inr ⟨?_, ⟨fun i hi' q => ?_, fun n hn q => ao_t_or.mpr (Or.inl (hu n hn q))⟩, ao_in_v (ao_in_s hF hi hmN (st' := ao_t (z ||| w)) ?_ (fun i hi' hne => ?_)) (fun i hi' => ?_)⟩
          · show nI m + (-1 : Int32) = nI (ag_N Γ - (k + 1)) - 1
            rw [show ag_N Γ - (k + 1) = m by omega]
            exact (Int32.sub_eq_add_neg _ _).symm
          · have q : ao_t (z ||| w) i := q
            rcases ao_t_or.mp q with q | q
            · exact hb i hi' q
            · have := ((hw i hi').mp q).1
              omega
          · show ao_t (z ||| w) m ↔ _
            rw [ao_t_or, hw m (by omega)]
            refine ⟨fun q => q.elim (fun q => (hi.1 m hmN).2 id q) (fun q => Or.inr q.2), fun q => ?_⟩
            rcases q with q | q
            · exact Or.inl (hu m hmN q)
            · exact Or.inr ⟨rfl, q⟩
          · rw [ao_t_or, hw i (by omega)]
            exact ⟨fun q => q.elim id (fun q => absurd q.1 hne), Or.inl⟩
          · have hi' : ag_N Γ - (k + 1) ≤ i := hi'
            by_cases q : i = m
            · exact Or.inr q
            · exact Or.inl (by show ag_N Γ - k ≤ i; omega)
        unfold m_Ot_lifeOf_B32
        rw [if_neg (nI_pos (by omega)), ao_gdn (by omega) (by omega), nI_clamp (by omega)]
        have hz : ((s.1 134 m &&& z) &&& (x ^^^ (-1 : Int32))) = 0 ↔ ¬ ∃ t, ao_ed (ag_nx Γ) m t ∧ ao_t z t ∧ ¬ ao_t x t := by
          rw [ao_t_nz]
          refine ⟨fun w ⟨t, h1, h2, h3⟩ => ?_, fun w i hi' q => ?_⟩
          · have ht := ao_ed_lt hT hmN h1
            exact w t (by omega) (ao_t_and.mpr ⟨ao_t_and.mpr ⟨((hg m hmN).2.2.2 t (by omega)).mpr h1, h2⟩, (ao_t_not (by omega)).mpr h3⟩)
          · obtain ⟨q1, q2⟩ := ao_t_and.mp q
            obtain ⟨q3, q4⟩ := ao_t_and.mp q1
            exact w ⟨i, ((hg m hmN).2.2.2 i hi').mp q3, q4, (ao_t_not hi').mp q2⟩
        by_cases q : ((s.1 134 m &&& z) &&& (x ^^^ (-1 : Int32))) = 0
        · rw [if_pos q]
          exact fin 0 (fun i hi' => ⟨fun w => absurd w ao_t_0, fun w => absurd w.2 (hz.mp q)⟩)
        · rw [if_neg q]
          exact fin _ (fun i hi' => (ao_t_one (by omega) hi').trans ⟨fun w => ⟨w, Classical.byContradiction fun u => q (hz.mpr u)⟩, fun w => w.1⟩)
      · rintro ⟨z, v⟩ ⟨e1, hZ', hi⟩
        have e1 : v = nI (ag_N Γ - ag_N Γ) - 1 := e1
        show ao_ok (m_Ot_lifeOf_B32 s x (nI r) y z v) _
        unfold m_Ot_lifeOf_B32
        rw [if_pos (show v < 0 by rw [e1, Nat.sub_self]; decide)]
        exact ao_inl ⟨hZ', ao_in_v hi (fun m hm => by show ag_N Γ - ag_N Γ ≤ m; omega)⟩
    obtain ⟨y', e', h1, h2⟩ := inner
    refine ⟨y', h1, h2, ?_⟩
    rw [aw_bd_s e']
    unfold m_Ot_lifeOf_J81
    by_cases q : y' = y
    · rw [if_pos q, if_pos q, ao_ltr, nI_1]
    · rw [if_neg q, if_neg q, ao_ltr, nI_1]

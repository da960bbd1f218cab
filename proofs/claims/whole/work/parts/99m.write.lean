/-! ===== WRITING: both, byte by byte ===== -/
theorem aw_bd_as {α β γ : Type} {m : Option α} {k : α → Option β} {k' : β → Option γ} : aw_bd (aw_bd m k) k' = aw_bd m (fun x => aw_bd (k x) k') := by cases m <;> rfl
def wt_C (σa σb : aw_S) (k : Nat) (s t : aw_S) : Prop :=
  (s.2 = σa.2 ∧ (∀ c, c ≠ 5 → c ≠ 6 → s.1 c = σa.1 c) ∧ ∀ j, j ≠ 1 → s.1 5 j = σa.1 5 j) ∧ (t.2 = σb.2 ∧ (∀ c, c ≠ 0 → c ≠ 34 → t.1 c = σb.1 c) ∧ ∀ j, j ≠ 48 → t.1 0 j = σb.1 0 j) ∧ s.1 5 1 = nI k ∧ t.1 0 48 = nI k ∧ ∀ i, i < k → ∃ c, c < 128 ∧ s.1 6 i = nI c ∧ t.1 34 i = nI c
/-- at most d bytes more -/
def wt_Q (σa σb : aw_S) (k d : Nat) (s t : aw_S) : Prop := ∃ k', k' ≤ k + d ∧ wt_C σa σb k' s t
theorem wt_b : ∀ c, c < 128 → (nI c).toInt8.toInt32 = nI c := by decide +kernel
theorem wt_put {σa σb : aw_S} {k : Nat} (hk : k < 590) {s t : aw_S} (C : wt_C σa σb k s t) {c : Nat} (hc : c < 128) : ao_2 (m_Te_put s 5 (nI c)) (m_Rf_lay1 t (nI c)) (fun s' t' => wt_C σa σb (k + 1) s' t') := by
  obtain ⟨⟨a1, a2, a3⟩, ⟨b1, b2, b3⟩, e1, e2, d⟩ := C
  unfold m_Te_put m_Rf_lay1
  rw [e1, e2, if_neg (nI_pos (by omega)), if_neg (show ¬ (800 : Int32) ≤ nI k from nI_ge (b := 800) (by omega) (by omega)), ao_gdn (by omega) (by omega), ao_gdn (by omega) (by omega), nI_clamp (by omega), wt_b c hc]
  simp only [ao_ltr]
  have hv : vp_nar .byte (nI c) = nI c := by
    have := pk_vb (nI c)
    rwa [wt_b c hc] at this
  rw [hv, ao_sI_o (show 5 ≠ 5 + 1 by omega), ao_sI_o (show 0 ≠ 34 by omega), e1, e2, nI_1]
  refine ao_2s ⟨⟨a1, fun x h1 h2 => by rw [ao_sI_o h1, ao_sI_o h2]; exact a2 x h1 h2, fun j hj => by rw [ao_sI_i hj, ao_sI_o (by omega)]; exact a3 j hj⟩, ⟨b1, fun x h1 h2 => by rw [ao_sI_o h1, ao_sI_o h2]; exact b2 x h1 h2, fun j hj => by rw [ao_sI_i hj, ao_sI_o (by omega)]; exact b3 j hj⟩, ao_sI_s _ _ _ _, ao_sI_s _ _ _ _, fun i hi => ?_⟩
  rw [ao_sI_o (show 6 ≠ 5 by omega), ao_sI_o (show 34 ≠ 0 by omega)]
  by_cases q : i = k
  · refine ⟨c, hc, ?_, ?_⟩
    · rw [q]; exact ao_sI_s _ _ _ _
    · rw [q]; exact ao_sI_s _ _ _ _
  · obtain ⟨x, hx, h1, h2⟩ := d i (by omega)
    exact ⟨x, hx, (ao_sI_i q).trans h1, (ao_sI_i q).trans h2⟩
theorem wt_rem {a : Nat} (ha : a < 2 ^ 31) : nI a - nI a / (10 : Int32) * (10 : Int32) = nI (a % 10) := by
  rw [show (10 : Int32) = nI 10 from rfl, pk_div ha (by omega) (by omega), pk_mul, pk_sub (by omega)]
  exact congrArg nI (by omega)
theorem wt_num {σa σb : aw_S} {k : Nat} (hk : k < 500) {s t : aw_S} (C : wt_C σa σb k s t) {v : Nat} (hv : v < 1000) : ao_2 (m_Te_putNumber s 5 (nI v)) (m_Rf_writeNumber t (nI v)) (wt_Q σa σb k 3) := by
  have J1 : ∀ k s t, k < 550 → wt_C σa σb k s t → ao_2 (m_Te_putNumber_J40 s 5 (nI v)) (m_Rf_writeNumber_J37 t (nI v)) (wt_C σa σb (k + 1)) := by
    intro k s t hk C
    unfold m_Te_putNumber_J40 m_Rf_writeNumber_J37
    rw [wt_rem (by omega), show (48 : Int32) = nI 48 from rfl, nI_add]
    exact ao_2b (ao_2i (wt_put (by omega) C (by omega)) (fun s' t' h => ao_2s h))
  have J2 : ∀ k s t, k < 540 → wt_C σa σb k s t → ao_2 (m_Te_putNumber_J20 s 5 (nI v)) (m_Rf_writeNumber_J17 t (nI v)) (wt_Q σa σb k 2) := by
    intro k s t hk C
    unfold m_Te_putNumber_J20 m_Rf_writeNumber_J17
    by_cases q : v < 10
    · rw [if_pos (show nI v < (10 : Int32) from nI_lt (b := 10) q (by omega)), if_pos (show nI v ≤ (9 : Int32) from nI_le (b := 9) (by omega) (by omega))]
      exact ao_2i (J1 k s t (by omega) C) (fun s' t' h => ⟨k + 1, by omega, h⟩)
    · rw [if_neg (show ¬ nI v < (10 : Int32) from nI_nlt (b := 10) (by omega) (by omega)), if_neg (show ¬ nI v ≤ (9 : Int32) from nI_ge (a := 9) (by omega) (by omega)), show nI v / (10 : Int32) = nI (v / 10) from pk_div (d := 10) (by omega) (by omega) (by omega), wt_rem (by omega), show (48 : Int32) = nI 48 from rfl, nI_add]
      exact ao_2b (ao_2i (wt_put (by omega) C (by omega)) (fun s' t' h => ao_2i (J1 (k + 1) s' t' (by omega) h) (fun s'' t'' h' => ⟨k + 1 + 1, by omega, h'⟩)))
  unfold m_Te_putNumber m_Rf_writeNumber
  by_cases q : v < 100
  · rw [if_pos (show nI v < (100 : Int32) from nI_lt (b := 100) q (by omega)), if_pos (show nI v ≤ (99 : Int32) from nI_le (b := 99) (by omega) (by omega))]
    exact ao_2i (J2 k s t (by omega) C) (fun s' t' ⟨k', h1, h2⟩ => ⟨k', by omega, h2⟩)
  · rw [if_neg (show ¬ nI v < (100 : Int32) from nI_nlt (b := 100) (by omega) (by omega)), if_neg (show ¬ nI v ≤ (99 : Int32) from nI_ge (a := 99) (by omega) (by omega)), show nI v / (100 : Int32) = nI (v / 100) from pk_div (d := 100) (by omega) (by omega) (by omega), wt_rem (by omega), show (48 : Int32) = nI 48 from rfl, nI_add, nI_add, show v / 100 % 10 = v / 100 by omega]
    exact ao_2b (ao_2i (wt_put (by omega) C (by omega)) (fun s' t' h => ao_2i (J2 (k + 1) s' t' (by omega) h) (fun s'' t'' ⟨k', h1, h2⟩ => ⟨k', by omega, h2⟩)))
theorem wt_A {σa σb : aw_S} {k : Nat} (hk : k < 500) {s t : aw_S} (C : wt_C σa σb k s t) {a : Nat} (ha : a < 1026) : ao_2 (m_Mo_writeOperand s (nI a)) (m_Rf_writeA t (nI a)) (wt_Q σa σb k 3) := by
  unfold m_Mo_writeOperand m_Rf_writeA
  by_cases q : 26 ≤ a
  · rw [if_pos (show (26 : Int32) ≤ nI a from nI_le (a := 26) q (by omega)), if_pos (show (26 : Int32) ≤ nI a from nI_le (a := 26) q (by omega)), show (26 : Int32) = nI 26 from rfl, pk_sub q]
    exact ao_2b (ao_2i (wt_num hk C (by omega)) (fun s' t' h => ao_2s h))
  · rw [if_neg (show ¬ (26 : Int32) ≤ nI a from nI_ge (b := 26) (by omega) (by omega)), if_neg (show ¬ (26 : Int32) ≤ nI a from nI_ge (b := 26) (by omega) (by omega)), show (97 : Int32) = nI 97 from rfl, nI_add]
    exact ao_2b (ao_2i (wt_put (by omega) C (by omega)) (fun s' t' h => ao_2s ⟨k + 1, by omega, h⟩))
theorem wt_AA {a s t b : aw_S} {k : Nat} {Γ : ag_T} (C : wt_C a b k s t) (A : ag_A a Γ) : ag_A s Γ := ag_A_fr A (fun c h1 h2 => C.1.2.1 c (by omega) (by omega))
theorem wt_BB {a s t b : aw_S} {k : Nat} {Γ : ag_T} (C : wt_C a b k s t) (B : ag_B b Γ) : ag_B t Γ := ag_B_fr B (C.2.1.2.2 14 (by omega)) (C.2.1.2.1 1 (by omega) (by omega)) (C.2.1.2.1 4 (by omega) (by omega)) (C.2.1.2.1 5 (by omega) (by omega)) (C.2.1.2.1 6 (by omega) (by omega)) (C.2.1.2.1 7 (by omega) (by omega))
theorem wt_name {σa σb : aw_S} {k : Nat} (hk : k < 490) {s t : aw_S} (C : wt_C σa σb k s t) {e : Nat} (he : e < 24) : ao_2 (m_Mo_writeName s (nI e)) (m_Rf_writeName t (nI e)) (wt_Q σa σb k 4) := by
  unfold m_Mo_writeName m_Rf_writeName
  refine ao_2b (ao_2i (wt_put (c := 35) (by omega) C (by omega)) (fun s' t' h => ao_2b (ao_2i (wt_num (by omega) h (by omega)) (fun s'' t'' ⟨k', h1, h2⟩ => ao_2s ⟨k', by omega, h2⟩))))
theorem wt_expr {σa σb : aw_S} {Γ : ag_T} (G : ag_wf Γ) (A : ag_A σa Γ) (B : ag_B σb Γ) {k : Nat} (hk : k < 480) {s t : aw_S} (C : wt_C σa σb k s t) {e : Nat} (he : e < ag_X Γ) : ao_2 (m_Mo_writeExpression s (nI e)) (m_Rf_writeExpression t (nI e)) (wt_Q σa σb k 7) := by
  have hX := G.2.2.2.2.2.2.1
  obtain ⟨sg, lf, rt⟩ := G.2.2.2.2.2.2.2.1 e he
  have hs128 : ag_sg Γ e < 128 := by
    unfold ag_sgs at sg
    simp only [List.mem_cons, List.not_mem_nil, or_false] at sg
    omega
  have As := wt_AA C A
  have g : ∀ {k' s' t'}, wt_C σa σb k' s' t' → s'.1 26 e = nI (ag_sg Γ e) ∧ s'.1 27 e = nI (ag_lf Γ e) ∧ s'.1 28 e = nI (ag_rt Γ e) ∧ m_Rf_get t' (292 + 2 * nI e) = some (nI (ag_lf Γ e)) ∧ m_Rf_get t' (268 + nI e) = some (nI (ag_sg Γ e)) ∧ m_Rf_get t' (292 + 2 * nI e + 1) = some (nI (ag_rt Γ e)) := by
    intro k' s' t' C'
    obtain ⟨a1, a2, a3⟩ := (wt_AA C' A).2.2.2.2.1 e he
    obtain ⟨b1, b2, b3⟩ := (wt_BB C' B).2.2.2.2.2.2.2.1 e he
    refine ⟨a1, a2, a3, ?_, ?_, ?_⟩
    · rw [ao_mul2, show (292 : Int32) = nI 292 from rfl, nI_add, ag_get (by omega), b2]
    · rw [show (268 : Int32) = nI 268 from rfl, nI_add, ag_get (by omega), b1]
    · rw [ao_mul2, show (292 : Int32) = nI 292 from rfl, nI_add, nI_1, ag_get (by omega), show 292 + 2 * e + 1 = 293 + 2 * e by omega, b3]
  unfold m_Mo_writeExpression m_Rf_writeExpression
  rw [aw_bd_s (ag_isOne As.2.2.2.1 hX he), if_neg ao_n10]
  simp (disch := omega) only [ao_gdn, nI_clamp]
  obtain ⟨_, a2, _, g1, _, _⟩ := g C
  rw [a2]
  refine ao_2r g1 (ao_2b (ao_2i (wt_A (by omega) C lf) ?_))
  rintro s1 t1 ⟨k1, hk1, C1⟩
  obtain ⟨a1, _, _, _, g2, _⟩ := g C1
  rw [a1]
  refine ao_2r g2 (ao_2b (ao_2i (wt_put (by omega) C1 hs128) ?_))
  intro s2 t2 C2
  obtain ⟨_, _, a3, _, _, g3⟩ := g C2
  rw [a3]
  refine ao_2r g3 (ao_2b (ao_2i (wt_A (by omega) C2 rt) ?_))
  rintro s3 t3 ⟨k3, hk3, C3⟩
  exact ao_2s ⟨k3, by omega, C3⟩
set_option maxHeartbeats 2000000 in
theorem wt_stm {σa σb : aw_S} {Γ : ag_T} (G : ag_wf Γ) (A : ag_A σa Γ) (B : ag_BA σb Γ) {how : Option Bool} (M : ru_M σa Γ how) {n : Nat} (hn : n < ag_N Γ) {k : Nat} (hk : k < 400) {s t : aw_S} (C : wt_C σa σb k s t) {f : Int32} (hf : f = if σa.1 (ru_by how + 2) n = 0 then 0 else 1) (h4 : ag_kd Γ n = 1 ∨ ag_kd Γ n = 2 ∨ ag_kd Γ n = 3) : ao_2 (m_Mo_writeNode s (nI n) f) (aw_bd (m_Rf_writeStatement t (nI n) (ru_hI how)) (fun s44 => m_Rf_write_J123 s44)) (fun s' y => wt_Q σa σb k 20 s' y.2 ∧ y.1 = y.2.1 0 48) := by
  have hN := G.1.1
  have hX := G.2.2.2.2.2.2.1
  have As := fun {k' s' t'} (C' : wt_C σa σb k' s' t') => (wt_AA C' A).2.1 n hn
  have Bs := fun {k' s' t'} (C' : wt_C σa σb k' s' t') => wt_BB C' B.1
  -- the ; behind it
  have fin : ∀ {k' s' t'}, k' ≤ k + 15 → wt_C σa σb k' s' t' → ao_2 (m_Mo_writeNode_J69 s') (m_Rf_write_J123 t') (fun s' y => wt_Q σa σb k 20 s' y.2 ∧ y.1 = y.2.1 0 48) := by
    intro k' s' t' hk' C'
    unfold m_Mo_writeNode_J69 m_Rf_write_J123
    exact ao_2b (ao_2i (wt_put (c := 59) (by omega) C' (by omega)) (fun s'' t'' h => ao_2s ⟨⟨k' + 1, by omega, h⟩, rfl⟩))
  obtain ⟨st, hst, s6, sl, sr, sx⟩ := (Bs C).2.2.1 n hn h4
  have get64 : ∀ {k' s' t'}, wt_C σa σb k' s' t' → m_Rf_get t' (64 + nI st) = some (ao_o (ag_le Γ n)) := fun {k' s' t'} C' => by
    rw [show (64 : Int32) = nI 64 from rfl, nI_add, ag_get (by omega), C'.2.1.2.1 1 (by omega) (by omega), ← C.2.1.2.1 1 (by omega) (by omega)]
    exact congrArg some sl
  have get124 : ∀ {k' s' t'}, wt_C σa σb k' s' t' → ag_kd Γ n ≠ 2 → m_Rf_get t' (124 + nI st) = some (ao_o (ag_op Γ n)) := fun {k' s' t'} C' h => by
    rw [show (124 : Int32) = nI 124 from rfl, nI_add, ag_get (by omega), C'.2.1.2.1 1 (by omega) (by omega), ← C.2.1.2.1 1 (by omega) (by omega)]
    exact congrArg some (sr h)
  unfold m_Mo_writeNode m_Rf_writeStatement
  simp (disch := omega) only [ao_gdn, nI_clamp, ao_ltr]
  rw [(As C).1, s6, ((Bs C).2.1 n hn).1]
  have hk7 := ag_kd_lt (G.2.2.2.2.2.1 n hn)
  have kI : ∀ j, j < 7 → (nI (ag_kd Γ n) = nI j ↔ ag_kd Γ n = j) := fun j hj => ag_kI hk7 hj
  rw [if_neg (show ¬ nI (ag_kd Γ n) = 0 from fun z => by have := (kI 0 (by omega)).mp z; omega)]
  by_cases k3 : ag_kd Γ n = 3
  · rw [if_neg (show ¬ nI (ag_kd Γ n) = (1 : Int32) from fun z => by have := (kI 1 (by omega)).mp z; omega), if_neg (show ¬ nI (ag_kd Γ n) = (2 : Int32) from fun z => by have := (kI 2 (by omega)).mp z; omega), if_pos (show nI (ag_kd Γ n) = (3 : Int32) from (kI 3 (by omega)).mpr k3), if_pos (show nI (ag_kd Γ n) = (3 : Int32) from (kI 3 (by omega)).mpr k3)]
    rcases G.2.2.2.2.2.1 n hn with z | z | z | z | z | z | z
    · omega
    · omega
    · omega
    · obtain ⟨x, hx, ex⟩ := z.2.2.2.1
      rw [aw_bd_as]
      refine ao_2b (ao_2i (wt_put (c := 33) (by omega) C (by omega)) ?_)
      intro s1 t1 C1
      unfold m_Rf_writeStatement_J47
      rw [ao_gdn (by omega) (by omega), nI_clamp (by omega), ((Bs C1).2.1 n hn).1, if_neg (show ¬ nI (ag_kd Γ n) = (2 : Int32) from fun z => by have := (kI 2 (by omega)).mp z; omega), aw_bd_s (get124 C1 (by omega)), (As C1).2.2.2.1, ex, aw_bd_as]
      refine ao_2b (ao_2i (wt_A (by omega) C1 hx) ?_)
      rintro s2 t2 ⟨k2, hk2, C2⟩
      exact fin (by omega) C2
    · omega
    · omega
    · omega
  · have k3' : ¬ nI (ag_kd Γ n) = (3 : Int32) := fun z => k3 ((kI 3 (by omega)).mp z)
    rw [if_neg k3', if_neg k3']
    have hv : ∃ v, v < 26 ∧ ag_le Γ n = some v := by
      rcases G.2.2.2.2.2.1 n hn with z | z | z | z | z | z | z
      · omega
      · exact z.2.2.1
      · exact z.2.2.1
      · omega
      · omega
      · omega
      · omega
    obtain ⟨v, hv, ev⟩ := hv
    have body : ao_2 (m_Mo_writeNode_J25 s (nI n) f) (aw_bd (aw_bd (m_Rf_get t (64 + nI st)) (fun r5 => aw_bd (m_Rf_lay1 t (97 + r5)) (fun s9 => aw_bd (m_Rf_lay1 s9 61) (fun s12 => m_Rf_writeStatement_J47 s12 (nI n) (ru_hI how) (nI st))))) (fun s44 => m_Rf_write_J123 s44)) (fun s' y => wt_Q σa σb k 20 s' y.2 ∧ y.1 = y.2.1 0 48) := by
      unfold m_Mo_writeNode_J25 m_Mo_writeAssignment
      rw [ao_gdn (by omega) (by omega), nI_clamp (by omega), (As C).2.2.1, aw_bd_s (get64 C), ev, show ao_o (some v) = nI v from rfl, show (97 : Int32) = nI 97 from rfl, nI_add, aw_bd_as, aw_bd_as]
      refine ao_2b (ao_2i (wt_put (by omega) C (by omega)) ?_)
      intro s1 t1 C1
      rw [aw_bd_as, aw_bd_as]
      refine ao_2b (ao_2i (wt_put (c := 61) (by omega) C1 (by omega)) ?_)
      intro s2 t2 C2
      unfold m_Rf_writeStatement_J47 m_Rf_writeStatement_J107
      simp (disch := omega) only [ao_gdn, nI_clamp]
      rw [(As C2).1, ((Bs C2).2.1 n hn).1, (As C2).2.2.2.1, (As C2).2.2.2.2]
      rcases G.2.2.2.2.2.1 n hn with z | z | z | z | z | z | z
      · omega
      · obtain ⟨x, hx, ex⟩ := z.2.2.2.1
        rw [if_pos (show nI (ag_kd Γ n) = (1 : Int32) from (kI 1 (by omega)).mpr z.1), if_neg (show ¬ nI (ag_kd Γ n) = (2 : Int32) from fun y => by have := (kI 2 (by omega)).mp y; omega), aw_bd_s (get124 C2 (by omega)), ex, aw_bd_as, aw_bd_as]
        refine ao_2b (ao_2i (wt_A (by omega) C2 hx) ?_)
        rintro s3 t3 ⟨k3', hk3, C3⟩
        exact fin (by omega) C3
      · obtain ⟨e, he, ee⟩ := z.2.2.2.2.1
        have rep := ru_rep M hn he hX ee
        rw [if_neg (show ¬ nI (ag_kd Γ n) = (1 : Int32) from fun y => by have := (kI 1 (by omega)).mp y; omega), if_pos (show nI (ag_kd Γ n) = (2 : Int32) from (kI 2 (by omega)).mpr z.1), aw_bd_s (ag_expressionOf G (Bs C2) hn), ee, show ao_o (some e) = nI e from rfl]
        have asE : ao_2 (aw_bd (aw_bd (m_Mo_writeExpression s2 (nI e)) (fun s14 => some s14)) (fun s7 => m_Mo_writeNode_J69 s7)) (aw_bd (aw_bd (m_Rf_writeExpression t2 (nI e)) (fun s20 => some s20)) (fun s44 => m_Rf_write_J123 s44)) (fun s' y => wt_Q σa σb k 20 s' y.2 ∧ y.1 = y.2.1 0 48) := by
          rw [aw_bd_as, aw_bd_as]
          refine ao_2b (ao_2i (wt_expr G A B.1 (by omega) C2 he) ?_)
          rintro s3 t3 ⟨k3', hk3, C3⟩
          exact fin (by omega) C3
        by_cases q : σa.1 (ru_by how + 2) n = 0
        · rw [if_pos q] at hf
          rw [hf, if_pos rfl]
          cases how with
          | none =>
            rw [if_pos (show ru_hI none = -1 from rfl)]
            exact asE
          | some h =>
            obtain ⟨p1, p2, p3⟩ := iq_plB (how := h) (w := 1) G B (by omega) he hn
            have p1' : m_Rf_at t2 (ru_hI (some h)) 1 (nI e) (nI n) = some (nI (ao_c (3 * ag_hi h + 1) e + n)) := p1
            rw [if_neg (show ¬ ru_hI (some h) = -1 by cases h <;> decide), aw_bd_s p1', ao_gdn p2 (by omega), nI_clamp (by omega), C2.2.1.2.1 13 (by omega) (by omega), p3, ao_b0 (show ¬ ag_P Γ e h 1 n from rep.mp q), if_pos rfl]
            exact asE
        · rw [if_neg q] at hf
          rw [hf, if_neg ao_n10]
          cases how with
          | none => exact absurd (rep.mpr id) q
          | some h =>
            obtain ⟨p1, p2, p3⟩ := iq_plB (how := h) (w := 1) G B (by omega) he hn
            have p1' : m_Rf_at t2 (ru_hI (some h)) 1 (nI e) (nI n) = some (nI (ao_c (3 * ag_hi h + 1) e + n)) := p1
            have hp : ag_P Γ e h 1 n := Classical.byContradiction fun y => q (rep.mpr y)
            rw [if_neg (show ¬ ru_hI (some h) = -1 by cases h <;> decide), aw_bd_s p1', ao_gdn p2 (by omega), nI_clamp (by omega), C2.2.1.2.1 13 (by omega) (by omega), p3, ao_b1 hp, if_neg ao_n10, aw_bd_as, aw_bd_as]
            refine ao_2b (ao_2i (wt_name (by omega) C2 (by omega)) ?_)
            rintro s3 t3 ⟨k3', hk3, C3⟩
            exact fin (by omega) C3
      · omega
      · omega
      · omega
      · omega
    by_cases k1 : ag_kd Γ n = 1
    · rw [if_pos (show nI (ag_kd Γ n) = (1 : Int32) from (kI 1 (by omega)).mpr k1)]
      exact body
    · rw [if_neg (show ¬ nI (ag_kd Γ n) = (1 : Int32) from fun z => k1 ((kI 1 (by omega)).mp z)), if_pos (show nI (ag_kd Γ n) = (2 : Int32) from (kI 2 (by omega)).mpr (by omega))]
      exact body

/-! ===== RUNS: what is put in ahead of a node ===== -/
def ru_by (how : Option Bool) : Nat := match how with
  | none => 63
  | some h => ag_po h
def ru_hI (how : Option Bool) : Int32 := match how with
  | none => -1
  | some h => iq_hI h
def ru_PU (Γ : ag_T) (how : Option Bool) (w e n : Nat) : Prop := match how with
  | none => False
  | some h => ag_P Γ e h w n
/-- the class's rows of a placement, the source's too -/
def ru_M (a : aw_S) (Γ : ag_T) (how : Option Bool) : Prop := ∀ w, w < 2 → ag_bt a (ru_by how + 1 + w) Γ (fun e => ru_PU Γ how w e)
theorem ru_by_lt (how : Option Bool) : 63 ≤ ru_by how ∧ ru_by how ≤ 75 := by
  cases how with
  | none => exact ⟨Nat.le_refl _, by decide⟩
  | some h => cases h <;> exact ⟨by decide, by decide⟩
theorem ru_M_of {a : aw_S} {Γ : ag_T} (A : ag_AA a Γ) (h0 : ∀ n, n < 128 → a.1 64 n = 0 ∧ a.1 65 n = 0) (hN : ag_N Γ ≤ 112) (how : Option Bool) : ru_M a Γ how := by
  cases how with
  | none =>
    intro w hw n hn e he
    have : a.1 (ru_by none + 1 + w) n = 0 := by
      rcases (show w = 0 ∨ w = 1 by omega) with rfl | rfl
      · exact (h0 n (by omega)).1
      · exact (h0 n (by omega)).2
    rw [this]
    exact ⟨fun z => absurd z ao_t_0, fun z => z.2.elim⟩
  | some h => exact fun w hw => (iq_PA A h).1 w (by omega)
theorem ru_M_fr {a s : aw_S} {Γ : ag_T} {how : Option Bool} (h : ru_M a Γ how) {o : Nat} (ho : 82 ≤ o) (y : ru_yA o a s) : ru_M s Γ how := fun w hw => ag_bt_c (h w hw) (y.2 _ (by have := ru_by_lt how; omega))
theorem ru_C_nm {o : Nat} {σa σb : aw_S} {w : Nat} {s t : aw_S} (h : ru_C o σa σb w s t) {e : Nat} {u v : Int32} (huv : u = v) : ru_C o σa σb w (aw_sI s (o + 4) e u) (aw_sI t 17 e v) := by
  subst huv
  obtain ⟨⟨y1, y2⟩, ⟨z1, z2, z3⟩, c1, c2, c3, c4, c5, c6, c7⟩ := h
  refine ⟨⟨y1, fun k hk => by rw [ao_sI_o (by omega)]; exact y2 k hk⟩, ⟨z1, fun k h1 h2 => by rw [ao_sI_o (by omega)]; exact z2 k h1 h2, fun j h1 h2 h3 h4 h5 => by rw [ao_sI_o (by omega)]; exact z3 j h1 h2 h3 h4 h5⟩, fun v hv => by rw [ao_sI_o (by omega), ao_sI_o (by omega)]; exact c1 v hv, fun f hf => ?_, fun f hf => by rw [ao_sI_o (by omega), ao_sI_o (by omega)]; exact c3 f hf, by rw [ao_sI_o (by omega), ao_sI_o (by omega)]; exact c4, by rw [ao_sI_o (by omega)]; exact c5, by rw [ao_sI_o (by omega)]; exact c6, fun k h1 h2 => by rw [ao_sI_o (by omega), ao_sI_o (by omega)]; exact c7 k h1 h2⟩
  by_cases q : f = e
  · rw [q, ao_sI_s, ao_sI_s]
  · rw [ao_sI_i q, ao_sI_i q]; exact c2 f hf
theorem ru_C_le {o : Nat} {σa σb : aw_S} {w : Nat} {s t : aw_S} (h : ru_C o σa σb w s t) {e : Nat} {u v : Int32} (huv : u = v) : ru_C o σa σb w (aw_sI s (o + 1) e u) (aw_sI t 16 e v) := by
  subst huv
  obtain ⟨⟨y1, y2⟩, ⟨z1, z2, z3⟩, c1, c2, c3, c4, c5, c6, c7⟩ := h
  refine ⟨⟨y1, fun k hk => by rw [ao_sI_o (by omega)]; exact y2 k hk⟩, ⟨z1, fun k h1 h2 => by rw [ao_sI_o (by omega)]; exact z2 k h1 h2, fun j h1 h2 h3 h4 h5 => by rw [ao_sI_o (by omega)]; exact z3 j h1 h2 h3 h4 h5⟩, fun f hf => ?_, fun v hv => by rw [ao_sI_o (by omega), ao_sI_o (by omega)]; exact c2 v hv, fun f hf => by rw [ao_sI_o (by omega), ao_sI_o (by omega)]; exact c3 f hf, by rw [ao_sI_o (by omega), ao_sI_o (by omega)]; exact c4, by rw [ao_sI_o (by omega)]; exact c5, by rw [ao_sI_o (by omega)]; exact c6, fun k h1 h2 => by rw [ao_sI_o (by omega), ao_sI_o (by omega)]; exact c7 k h1 h2⟩
  by_cases q : f = e
  · rw [q, ao_sI_s, ao_sI_s]
  · rw [ao_sI_i q, ao_sI_i q]; exact c1 f hf
/-- what a piece comes to: alike, whether it is well -/
def ru_Q (o : Nat) (σa σb : aw_S) (w : Nat) (s0 t0 : aw_S) (x : Int32 × aw_S) (y : Int32 × aw_S) : Prop := x.1 = y.1 ∧ (x.1 = 0 ∨ x.1 = 1) ∧ ru_C o σa σb w x.2 y.2 ∧ (∀ j, j ≠ 6 → j ≠ 7 → j ≠ 9 → x.2.1 o j = s0.1 o j) ∧ ∀ j, j ≠ 26 → j ≠ 35 → y.2.1 0 j = t0.1 0 j
/-- the reference passes by what isn't put in -/
theorem ru_skip {σb : aw_S} {Γ : ag_T} (G : ag_wf Γ) (B : ag_BA σb Γ) {h : Bool} {n : Nat} (hn : n < ag_N Γ) {t : aw_S} (e1 : t.1 1 = σb.1 1) (e13 : t.1 13 = σb.1 13) : ∀ d e m, e + d = ag_X Γ → d < m → (∀ f, e ≤ f → f < ag_X Γ → ¬ ag_P Γ f h 0 n) → ao_ok (aw_lp (fun s => m_Rf_putsIn_B2 s.2 (nI n) (iq_hI h) s.1) m (nI e, t)) (fun y => y = .inr t) := by
  have hX := G.2.2.2.2.2.2.1
  have g2 : m_Rf_get t 2 = some (nI (ag_X Γ)) := by rw [show (2 : Int32) = nI 2 from rfl, ag_get (by omega), e1, B.1.2.2.2.2.2.2.1]
  intro d
  induction d with
  | zero =>
    intro e m he hm hP
    obtain ⟨m, rfl⟩ : ∃ k, m = k + 1 := ⟨m - 1, by omega⟩
    refine ao_lpS ?_
    show ao_ok (m_Rf_putsIn_B2 t (nI n) (iq_hI h) (nI e)) _
    unfold m_Rf_putsIn_B2
    rw [aw_bd_s g2, if_pos (nI_le (by omega) (by omega))]
    exact ao_inl rfl
  | succ d ih =>
    intro e m he hm hP
    obtain ⟨m, rfl⟩ : ∃ k, m = k + 1 := ⟨m - 1, by omega⟩
    obtain ⟨p1, p2, p3⟩ := iq_plB (how := h) (w := 0) G B (by omega) (show e < ag_X Γ by omega) hn
    have p1' : m_Rf_at t (iq_hI h) 0 (nI e) (nI n) = some (nI (ao_c (3 * ag_hi h + 0) e + n)) := p1
    refine ao_lpS ?_
    show ao_ok (m_Rf_putsIn_B2 t (nI n) (iq_hI h) (nI e)) _
    unfold m_Rf_putsIn_B2 m_Rf_putsIn_J49
    rw [aw_bd_s g2, if_neg (nI_ge (by omega) (by omega)), aw_bd_s p1', ao_gdn p2 (by omega), nI_clamp (by omega), e13, p3, ao_b0 (hP e (Nat.le_refl _) (by omega)), if_pos rfl, nI_1]
    exact ao_let (ao_inr (ih (e + 1) m (by omega) (by omega) (fun f h1 h2 => hP f (by omega) h2)))
set_option maxHeartbeats 2000000 in
theorem ru_puts {o : Nat} (ho : 82 ≤ o) {σa σb : aw_S} {Γ : ag_T} (G : ag_wf Γ) (A : ag_A σa Γ) (B : ag_BA σb Γ) {h : Bool} (M : ru_M σa Γ (some h)) {n : Nat} (hn : n < ag_N Γ) {w : Nat} {s0 t0 : aw_S} : ∀ d e mA mB s t, e + d = ag_X Γ → d < mA → d < mB → ru_C o σa σb w s t → (∀ j, j ≠ 6 → j ≠ 7 → j ≠ 9 → s.1 o j = s0.1 o j) → (∀ j, j ≠ 26 → j ≠ 35 → t.1 0 j = t0.1 0 j) →
    ao_2 (aw_lp (fun s => m_Ru_putIn_B13 s.2 o (σa.1 (ag_po h + 1) n) s.1) mA (nI e, s)) (aw_lp (fun s => m_Rf_putsIn_B2 s.2 (nI n) (iq_hI h) s.1) mB (nI e, t)) (fun x y => ∃ x' y', ru_Q o σa σb w s0 t0 x' y' ∧ ((x = .inl x' ∧ y = .inl y' ∧ x'.1 = 0) ∨ (x = .inr x'.2 ∧ y = .inr y'.2 ∧ x'.1 = 1))) := by
  have hN := G.1.1
  have hX := G.2.2.2.2.2.2.1
  have hbit : ∀ f, f < 32 → (ao_t (σa.1 (ag_po h + 1) n) f ↔ f < ag_X Γ ∧ ag_P Γ f h 0 n) := fun f hf => M 0 (by omega) n hn f hf
  intro d
  induction d with
  | zero =>
    intro e mA mB s t he hA hB C fs ft
    obtain ⟨mA, rfl⟩ : ∃ k, mA = k + 1 := ⟨mA - 1, by omega⟩
    refine ao_2of (P := fun x => x = .inr s) (ao_lpS ?_) (ru_skip (h := h) G B hn (C.2.1.2.1 1 (by omega) (by omega)) (C.2.1.2.1 13 (by omega) (by omega)) 0 e mB he hB (fun f h1 h2 => by omega)) (fun x y ex ey => ⟨(1, s), (1, t), ⟨rfl, Or.inr rfl, C, fs, ft⟩, Or.inr ⟨ex, ey, rfl⟩⟩)
    show ao_ok (m_Ru_putIn_B13 s o (σa.1 (ag_po h + 1) n) (nI e)) _
    unfold m_Ru_putIn_B13
    rw [(ru_A C.1 ho A).2.2.2.1, if_pos (nI_le (by omega) (by omega))]
    exact ao_inl rfl
  | succ d ih =>
    intro e mA mB s t he hA hB C fs ft
    obtain ⟨mA, rfl⟩ : ∃ k, mA = k + 1 := ⟨mA - 1, by omega⟩
    have heX : e < ag_X Γ := by omega
    have t1 : t.1 1 = σb.1 1 := C.2.1.2.1 1 (by omega) (by omega)
    have t13 : t.1 13 = σb.1 13 := C.2.1.2.1 13 (by omega) (by omega)
    by_cases z : aw_ushr (σa.1 (ag_po h + 1) n) (nI e) = 0
    · refine ao_2of (P := fun x => x = .inr s) (ao_lpS ?_) (ru_skip (h := h) G B hn t1 t13 (d + 1) e mB he hB (fun f h1 h2 hp => ?_)) (fun x y ex ey => ⟨(1, s), (1, t), ⟨rfl, Or.inr rfl, C, fs, ft⟩, Or.inr ⟨ex, ey, rfl⟩⟩)
      · show ao_ok (m_Ru_putIn_B13 s o (σa.1 (ag_po h + 1) n) (nI e)) _
        unfold m_Ru_putIn_B13
        rw [(ru_A C.1 ho A).2.2.2.1, if_neg (nI_ge heX (by omega)), if_pos z]
        exact ao_inl rfl
      · have := ao_t_nz.mp z (f - e) (by omega)
        rw [ao_t_ushr (by omega), show e + (f - e) = f by omega] at this
        exact this ((hbit f (by omega)).mpr ⟨h2, hp⟩)
    · obtain ⟨mB, rfl⟩ : ∃ k, mB = k + 1 := ⟨mB - 1, by omega⟩
      obtain ⟨p1, p2, p3⟩ := iq_plB (how := h) (w := 0) G B (by omega) heX hn
      have p1' : m_Rf_at t (iq_hI h) 0 (nI e) (nI n) = some (nI (ao_c (3 * ag_hi h + 0) e + n)) := p1
      have g2 : m_Rf_get t 2 = some (nI (ag_X Γ)) := by rw [show (2 : Int32) = nI 2 from rfl, ag_get (by omega), t1, B.1.2.2.2.2.2.2.1]
      have eA : m_Ru_putIn_B13 s o (σa.1 (ag_po h + 1) n) (nI e) = if ao_b (ag_P Γ e h 0 n) = (1 : Int32) then aw_bd2 (m_Ru_compute s o 25 (nI e)) (fun r9 s11 => if r9 = 0 then some (.inl ((.inl (((0 : Int32), s11))))) else aw_gd (vp_in (nI e) 24) (aw_lt (aw_sI s11 (o + 4) (nI e).toNatClampNeg ((s11.1 o 9))) (fun s14 => m_Ru_putIn_J68 s14 o (σa.1 (ag_po h + 1) n) (nI e)))) else m_Ru_putIn_J68 s o (σa.1 (ag_po h + 1) n) (nI e) := by
        unfold m_Ru_putIn_B13
        rw [(ru_A C.1 ho A).2.2.2.1, if_neg (nI_ge heX (by omega)), if_neg z, aw_bd_s (ag_bitOf s _ (by omega)), iq_ao_b (hbit e (by omega)) heX]
      have eB : m_Rf_putsIn_B2 t (nI n) (iq_hI h) (nI e) = if ao_b (ag_P Γ e h 0 n) = 0 then m_Rf_putsIn_J49 t (nI n) (iq_hI h) (nI e) else aw_bd2 (m_Rf_works t (nI e)) (fun r8 s10 => if r8 = 0 then some (.inl ((.inl (((0 : Int32), s10))))) else aw_gd (vp_in (nI e) 24) (aw_lt (aw_sI s10 17 (nI e).toNatClampNeg ((s10.1 0 35))) (fun s13 => m_Rf_putsIn_J49 s13 (nI n) (iq_hI h) (nI e)))) := by
        unfold m_Rf_putsIn_B2
        rw [aw_bd_s g2, if_neg (nI_ge heX (by omega)), aw_bd_s p1', ao_gdn p2 (by omega), nI_clamp (by omega), t13, p3]
      have stepA : ∀ {x : ((Int32 × aw_S) ⊕ aw_S) ⊕ (Int32 × aw_S)}, m_Ru_putIn_B13 s o (σa.1 (ag_po h + 1) n) (nI e) = some x → aw_lp (fun s => m_Ru_putIn_B13 s.2 o (σa.1 (ag_po h + 1) n) s.1) (mA + 1) (nI e, s) = Sum.elim some (aw_lp (fun s => m_Ru_putIn_B13 s.2 o (σa.1 (ag_po h + 1) n) s.1) mA) x := fun hx => ao_lp1 (f := fun (s : Int32 × aw_S) => m_Ru_putIn_B13 s.2 o (σa.1 (ag_po h + 1) n) s.1) (s := (nI e, s)) hx
      have stepB : ∀ {x : ((Int32 × aw_S) ⊕ aw_S) ⊕ (Int32 × aw_S)}, m_Rf_putsIn_B2 t (nI n) (iq_hI h) (nI e) = some x → aw_lp (fun s => m_Rf_putsIn_B2 s.2 (nI n) (iq_hI h) s.1) (mB + 1) (nI e, t) = Sum.elim some (aw_lp (fun s => m_Rf_putsIn_B2 s.2 (nI n) (iq_hI h) s.1) mB) x := fun hx => ao_lp1 (f := fun (s : Int32 × aw_S) => m_Rf_putsIn_B2 s.2 (nI n) (iq_hI h) s.1) (s := (nI e, t)) hx
      by_cases q : ag_P Γ e h 0 n
      · rw [ao_b1 q, if_pos rfl] at eA
        rw [ao_b1 q, if_neg ao_n10] at eB
        obtain ⟨⟨r, s1⟩, ⟨r', t1'⟩, ex, ey, hr, C1, f1, f2⟩ := ru_compute ho G A B.1 C heX
        rw [aw_bd2_s ex] at eA
        rw [aw_bd2_s ey] at eB
        have C1 : ru_C o σa σb w s1 t1' := C1
        have f1 : ∀ j, j ≠ 6 → j ≠ 9 → s1.1 o j = s.1 o j := f1
        have f2 : ∀ j, j ≠ 35 → t1'.1 0 j = t.1 0 j := f2
        rcases hr with ⟨r0, r0'⟩ | ⟨r1, r1', hv⟩
        · have r0 : r = 0 := r0
          have r0' : r' = 0 := r0'
          rw [if_pos r0] at eA
          rw [if_pos r0'] at eB
          rw [stepA eA, stepB eB]
          exact ao_2s ⟨(0, s1), (0, t1'), ⟨rfl, Or.inl rfl, C1, fun j h1 h2 h3 => (f1 j h1 h3).trans (fs j h1 h2 h3), fun j h1 h2 => (f2 j h2).trans (ft j h1 h2)⟩, Or.inl ⟨rfl, rfl, rfl⟩⟩
        · have r1 : r = 1 := r1
          have r1' : r' = 1 := r1'
          have hv : s1.1 o 9 = t1'.1 0 35 := hv
          unfold m_Ru_putIn_J68 at eA
          unfold m_Rf_putsIn_J49 at eB
          rw [if_neg (by rw [r1]; decide), ao_gdn (by omega) (by omega), nI_clamp (by omega), ao_ltr, ao_ltr, nI_1] at eA
          rw [if_neg (by rw [r1']; decide), ao_gdn (by omega) (by omega), nI_clamp (by omega), ao_ltr, ao_ltr, nI_1] at eB
          rw [stepA eA, stepB eB]
          exact ih (e + 1) mA mB _ _ (by omega) (by omega) (by omega) (ru_C_nm C1 hv) (fun j h1 h2 h3 => by rw [ao_sI_o (by omega)]; exact (f1 j h1 h3).trans (fs j h1 h2 h3)) (fun j h1 h2 => by rw [ao_sI_o (by omega)]; exact (f2 j h2).trans (ft j h1 h2))
      · unfold m_Ru_putIn_J68 at eA
        unfold m_Rf_putsIn_J49 at eB
        rw [ao_b0 q, if_neg (by decide), ao_ltr, nI_1] at eA
        rw [ao_b0 q, if_pos rfl, ao_ltr, nI_1] at eB
        rw [stepA eA, stepB eB]
        exact ih (e + 1) mA mB s t (by omega) (by omega) (by omega) C fs ft
/-- what is put in, by whatever placement -/
theorem ru_putIn {o : Nat} (ho : 82 ≤ o) {σa σb : aw_S} {Γ : ag_T} (G : ag_wf Γ) (A : ag_A σa Γ) (B : ag_BA σb Γ) {how : Option Bool} (M : ru_M σa Γ how) {n : Nat} (hn : n < ag_N Γ) {w : Nat} {s t : aw_S} (C : ru_C o σa σb w s t) (e8 : s.1 o 8 = nI n) : ao_2 (m_Ru_putIn s o (ru_by how)) (if ru_hI how = -1 then some ((1 : Int32), t) else m_Rf_putsIn t (nI n) (ru_hI how)) (ru_Q o σa σb w s t) := by
  have hN := G.1.1
  have hX := G.2.2.2.2.2.2.1
  have hby := ru_by_lt how
  unfold m_Ru_putIn
  rw [e8, ao_gdn (by omega) (by omega), nI_clamp (by omega), ao_ltr, C.1.2 (ru_by how + 1) (by omega)]
  cases how with
  | none =>
    rw [if_pos (show ru_hI none = -1 from rfl)]
    have z : σa.1 (ru_by none + 1) n = 0 := ao_t_nz.mpr (fun e he y => ((M 0 (by omega) n hn e he).mp y).2)
    have key : ao_ok (aw_lp (fun s => m_Ru_putIn_B13 s.2 o (σa.1 (ru_by none + 1) n) s.1) aw_fu ((0 : Int32), s)) (fun x => x = .inr s) := by
      refine ao_lpu1 (n := 1) (by omega) (fun m hm => ?_)
      obtain ⟨m, rfl⟩ : ∃ k, m = k + 1 := ⟨m - 1, by omega⟩
      refine ao_lpS ?_
      show ao_ok (m_Ru_putIn_B13 s o (σa.1 (ru_by none + 1) n) 0) _
      unfold m_Ru_putIn_B13
      refine ao_if (fun _ => ao_inl rfl) (fun _ => ao_ifp ?_ (ao_inl rfl))
      rw [z]
      decide
    obtain ⟨x, e1, e2⟩ := key
    subst e2
    rw [aw_bd_s e1]
    exact ao_2s ⟨rfl, Or.inr rfl, C, fun _ _ _ _ => rfl, fun _ _ _ => rfl⟩
  | some h =>
    rw [if_neg (show ¬ ru_hI (some h) = -1 by cases h <;> decide)]
    unfold m_Rf_putsIn
    have fu : ag_X Γ < aw_fu := by have := aw_fu_le; omega
    obtain ⟨x, y, ex, ey, x', y', hQ, hd⟩ := ru_puts (s0 := s) (t0 := t) (w := w) ho G A B M hn (ag_X Γ) 0 aw_fu aw_fu s t (by omega) fu fu C (fun _ _ _ _ => rfl) (fun _ _ _ => rfl)
    have ex : aw_lp (fun s => m_Ru_putIn_B13 s.2 o (σa.1 (ru_by (some h) + 1) n) s.1) aw_fu ((0 : Int32), s) = some x := ex
    have ey : aw_lp (fun s => m_Rf_putsIn_B2 s.2 (nI n) (ru_hI (some h)) s.1) aw_fu ((0 : Int32), t) = some y := ey
    rw [aw_bd_s ex, aw_bd_s ey]
    rcases hd with ⟨e1, e2, e3⟩ | ⟨e1, e2, e3⟩
    · subst e1 e2
      exact ao_2s hQ
    · subst e1 e2
      refine ao_2s ⟨rfl, Or.inr rfl, hQ.2.2⟩

/-! ===== RUNS: what is done at a node; where it goes ===== -/
theorem ru_rep {a : aw_S} {Γ : ag_T} {how : Option Bool} (M : ru_M a Γ how) {n e : Nat} (hn : n < ag_N Γ) (he : e < ag_X Γ) (hX : ag_X Γ ≤ 24) (ex : ag_ex Γ n = some e) : a.1 (ru_by how + 2) n = 0 ↔ ¬ ru_PU Γ how 1 e n := by
  have H := M 1 (by omega) n hn
  rw [show ru_by how + 1 + 1 = ru_by how + 2 from rfl] at H
  constructor
  · intro z y
    rw [z] at H
    exact ao_t_0 ((H e (by omega)).mpr ⟨he, y⟩)
  · intro z
    refine ao_t_nz.mpr (fun f hf y => ?_)
    have h2 := (H f hf).mp y
    have hfe : f = e := by
      cases how with
      | none => exact h2.2.elim
      | some h =>
        have h3 : ao_RE _ _ (ag_US Γ f) (ag_KE Γ f) h n := h2.2
        have h4 : ag_ex Γ n = some f := h3.1
        rw [ex] at h4
        exact (Option.some.inj h4).symm
    rw [hfe] at h2
    exact z h2.2
def ru_QQ (o : Nat) (σa σb : aw_S) (w : Nat) (s t : aw_S) (x y : Int32 × aw_S) : Prop := ∃ w', w ≤ w' ∧ w' ≤ w + 1 ∧ ru_Q o σa σb w' s t x y
theorem ru_C_out {o : Nat} {σa σb : aw_S} {w : Nat} {s t : aw_S} (h : ru_C o σa σb w s t) (hw : w < 1000) {u : Int32} : ao_2 (m_Ru_writeOut s o u) (if (40 : Int32) ≤ t.1 0 26 then some (aw_sI t 0 26 (nI (w + 1))) else some (aw_sI (aw_sI t 19 w u) 0 26 (nI (w + 1)))) (fun s' t' => ru_C o σa σb (w + 1) s' t' ∧ (∀ j, j ≠ 7 → s'.1 o j = s.1 o j) ∧ ∀ j, j ≠ 26 → t'.1 0 j = t.1 0 j) := by
  obtain ⟨⟨y1, y2⟩, ⟨z1, z2, z3⟩, c1, c2, c3, c4, c5, c6, c7⟩ := h
  unfold m_Ru_writeOut m_Ru_writeOut_J19
  rw [c5, c6]
  by_cases q : 40 ≤ w
  · rw [if_pos (show (40 : Int32) ≤ nI w from nI_le (a := 40) q (by omega)), if_pos (show (40 : Int32) ≤ nI w from nI_le (a := 40) q (by omega)), ao_ltr, nI_1]
    refine ao_2s ⟨⟨⟨y1, fun k hk => by rw [ao_sI_o (by omega)]; exact y2 k hk⟩, ⟨z1, fun k h1 h2 => by rw [ao_sI_o h1]; exact z2 k h1 h2, fun j h1 h2 h3 h4 h5 => by rw [ao_sI_i h1]; exact z3 j h1 h2 h3 h4 h5⟩, fun v hv => by rw [ao_sI_o (by omega), ao_sI_o (by omega)]; exact c1 v hv, fun v hv => by rw [ao_sI_o (by omega), ao_sI_o (by omega)]; exact c2 v hv, fun v hv => by rw [ao_sI_o (by omega), ao_sI_o (by omega)]; exact c3 v hv, by rw [ao_sI_i (by omega), ao_sI_o (by omega)]; exact c4, ao_sI_s _ _ _ _, ao_sI_s _ _ _ _, fun k h1 h2 => by rw [ao_sI_o (by omega), ao_sI_o (by omega)]; exact c7 k h1 (by omega)⟩, fun j hj => ao_sI_i hj, fun j hj => ao_sI_i hj⟩
  · rw [if_neg (show ¬ (40 : Int32) ≤ nI w from nI_ge (b := 40) (by omega) (by omega)), if_neg (show ¬ (40 : Int32) ≤ nI w from nI_ge (b := 40) (by omega) (by omega)), ao_gdn (by omega) (by omega), nI_clamp (by omega), ao_ltr, ao_sI_o (show o ≠ o + 2 by omega), c5, ao_ltr, nI_1]
    refine ao_2s ⟨⟨⟨y1, fun k hk => by rw [ao_sI_o (by omega), ao_sI_o (by omega)]; exact y2 k hk⟩, ⟨z1, fun k h1 h2 => by rw [ao_sI_o h1, ao_sI_o (by omega)]; exact z2 k h1 h2, fun j h1 h2 h3 h4 h5 => by rw [ao_sI_i h1, ao_sI_o (by omega)]; exact z3 j h1 h2 h3 h4 h5⟩, fun v hv => by rw [ao_sI_o (by omega), ao_sI_o (by omega), ao_sI_o (by omega), ao_sI_o (by omega)]; exact c1 v hv, fun v hv => by rw [ao_sI_o (by omega), ao_sI_o (by omega), ao_sI_o (by omega), ao_sI_o (by omega)]; exact c2 v hv, fun v hv => by rw [ao_sI_o (by omega), ao_sI_o (by omega), ao_sI_o (by omega), ao_sI_o (by omega)]; exact c3 v hv, by rw [ao_sI_i (by omega), ao_sI_o (by omega), ao_sI_o (by omega), ao_sI_o (by omega)]; exact c4, ao_sI_s _ _ _ _, ao_sI_s _ _ _ _, fun k h1 h2 => ?_⟩, fun j hj => by rw [ao_sI_i hj, ao_sI_o (by omega)], fun j hj => by rw [ao_sI_i hj, ao_sI_o (by omega)]⟩
    rw [ao_sI_o (show o + 2 ≠ o by omega), ao_sI_o (show 19 ≠ 0 by omega)]
    by_cases y : k = w
    · rw [y, ao_sI_s, ao_sI_s]
    · rw [ao_sI_i y, ao_sI_i y]; exact c7 k h1 (by omega)
set_option maxHeartbeats 4000000 in
theorem ru_doNode {o : Nat} (ho : 82 ≤ o) {σa σb : aw_S} {Γ : ag_T} (G : ag_wf Γ) (A : ag_A σa Γ) (B : ag_BA σb Γ) {how : Option Bool} (M : ru_M σa Γ how) {n : Nat} (hn : n < ag_N Γ) {w : Nat} (hw : w < 500) {s t : aw_S} (C : ru_C o σa σb w s t) (e8 : s.1 o 8 = nI n) : ao_2 (m_Ru_doNode s o (ru_by how)) (m_Rf_does t (nI n) (ru_hI how)) (ru_QQ o σa σb w s t) := by
  have hN := G.1.1
  have hX := G.2.2.2.2.2.2.1
  have hby := ru_by_lt how
  have As := ru_A C.1 ho A
  have Bt := ru_B C.2.1 B.1
  obtain ⟨a1, a2, a3, a4, a5⟩ := As.2.1 n hn
  obtain ⟨b1, b2⟩ := Bt.2.1 n hn
  have hk7 := ag_kd_lt (G.2.2.2.2.2.1 n hn)
  have kI : ∀ k, k < 7 → (nI (ag_kd Γ n) = nI k ↔ ag_kd Γ n = k) := fun k hk => ag_kI hk7 hk
  have same : ∀ r : Int32, (r = 0 ∨ r = 1) → ru_QQ o σa σb w s t (r, s) (r, t) := fun r hr => ⟨w, by omega, by omega, rfl, hr, C, fun _ _ _ _ => rfl, fun _ _ _ => rfl⟩
  unfold m_Ru_doNode m_Rf_does
  rw [e8]
  simp (disch := omega) only [ao_gdn, nI_clamp, ao_ltr]
  rw [a1, b1, aw_bd_s (ag_expressionOf G Bt hn)]
  -- the reference, at a node that is neither a copy nor writes nor works
  have J99 : ∀ t', ag_kd Γ n ≠ 2 → t'.1 4 = t.1 4 → ∀ v3 v4, m_Rf_does_J99 t' (nI n) (ru_hI how) v3 v4 = some (1, t') := by
    intro t' q e4 v3 v4
    unfold m_Rf_does_J99
    rw [ao_gdn (by omega) (by omega), nI_clamp (by omega), e4, b1, if_neg (show ¬ nI (ag_kd Γ n) = (2 : Int32) from fun z => q ((kI 2 (by omega)).mp z))]
  have J49 : ∀ t', ag_kd Γ n ≠ 3 → t'.1 4 = t.1 4 → ∀ v3 v4, m_Rf_does_J49 t' (nI n) (ru_hI how) v3 v4 = m_Rf_does_J99 t' (nI n) (ru_hI how) v3 v4 := by
    intro t' q e4 v3 v4
    unfold m_Rf_does_J49
    rw [ao_gdn (by omega) (by omega), nI_clamp (by omega), e4, b1, if_neg (show ¬ nI (ag_kd Γ n) = (3 : Int32) from fun z => q ((kI 3 (by omega)).mp z))]
  by_cases k1 : ag_kd Γ n = 1
  · rw [if_pos (show nI (ag_kd Γ n) = (1 : Int32) from (kI 1 (by omega)).mpr k1), if_pos (show nI (ag_kd Γ n) = (1 : Int32) from (kI 1 (by omega)).mpr k1)]
    obtain ⟨st, hst, s6, sl, sr, _⟩ := Bt.2.2.1 n hn (Or.inl k1)
    rcases G.2.2.2.2.2.1 n hn with z | z | z | z | z | z | z
    · omega
    · obtain ⟨v, hv, ev⟩ := z.2.2.1
      obtain ⟨x, hx, exx⟩ := z.2.2.2.1
      have sr := sr (by omega)
      rw [ev] at sl a3
      rw [exx] at sr a4
      obtain ⟨r, r1, r2⟩ := ru_val C hx
      rw [s6, a3, a4]
      refine ao_2r (show m_Rf_get t (64 + nI st) = some (nI v) by rw [show (64 : Int32) = nI 64 from rfl, nI_add, ag_get (by omega), sl]; rfl) (ao_2r (show m_Rf_get t (124 + nI st) = some (nI x) by rw [show (124 : Int32) = nI 124 from rfl, nI_add, ag_get (by omega), sr]; rfl) ?_)
      refine ao_2l (show m_Ru_valueOf s o (ao_o (some x)) = some r from r1) (ao_2r r2 ?_)
      refine ao_2l (show m_Ru_setLetter s o (ao_o (some v)) r = some (aw_sI s (o + 1) v r) by
        unfold m_Ru_setLetter
        rw [show ao_o (some v) = nI v from rfl, if_neg (nI_pos (by omega)), if_neg (show ¬ (26 : Int32) ≤ nI v from nI_ge (b := 26) hv (by omega)), ao_gdn (by omega) (by omega), nI_clamp (by omega)]
        rfl) ?_
      rw [ao_gdn hv (by omega), nI_clamp (by omega), J49 _ (by omega) (ao_sI_o (by omega)), J99 _ (by omega) (ao_sI_o (by omega))]
      exact ao_2s ⟨w, by omega, by omega, rfl, Or.inr rfl, ru_C_le C rfl, fun j _ _ _ => ao_sI_o_at (by omega), fun j _ _ => ao_sI_o_at (by omega)⟩
    · omega
    · omega
    · omega
    · omega
    · omega
  · rw [if_neg (show ¬ nI (ag_kd Γ n) = (1 : Int32) from fun z => k1 ((kI 1 (by omega)).mp z)), if_neg (show ¬ nI (ag_kd Γ n) = (1 : Int32) from fun z => k1 ((kI 1 (by omega)).mp z))]
    by_cases k2 : ag_kd Γ n = 2
    · rw [if_pos (show nI (ag_kd Γ n) = (2 : Int32) from (kI 2 (by omega)).mpr k2), J49 _ (by omega) rfl]
      obtain ⟨st, hst, s6, sl, _, sr⟩ := Bt.2.2.1 n hn (Or.inr (Or.inl k2))
      rcases G.2.2.2.2.2.1 n hn with z | z | z | z | z | z | z
      · omega
      · omega
      · obtain ⟨v, hv, ev⟩ := z.2.2.1
        obtain ⟨e, he, ee⟩ := z.2.2.2.2.1
        rw [ev] at sl a3
        rw [ee] at a5
        have gl : ∀ t', t'.1 1 = t.1 1 → m_Rf_get t' (64 + nI st) = some (nI v) := fun t' h1 => by rw [show (64 : Int32) = nI 64 from rfl, nI_add, ag_get (by omega), h1, sl]; rfl
        have sL : ∀ s' r, m_Ru_setLetter s' o (nI v) r = some (aw_sI s' (o + 1) v r) := fun s' r => by
          unfold m_Ru_setLetter
          rw [if_neg (nI_pos (by omega)), if_neg (show ¬ (26 : Int32) ≤ nI v from nI_ge (b := 26) hv (by omega)), ao_gdn (by omega) (by omega), nI_clamp (by omega)]
          rfl
        have J62 : ∀ s', s'.1 31 = s.1 31 → s'.1 o 8 = nI n → m_Ru_assign_J62 s' o = some (1, aw_sI s' (o + 1) v (s'.1 o 9)) := fun s' h31 h8 => by
          unfold m_Ru_assign_J62
          rw [h8, ao_gdn (by omega) (by omega), nI_clamp (by omega), h31, a3, show ao_o (some v) = nI v from rfl, aw_bd_s (sL _ _)]
        -- worked here
        have work : ao_2 (aw_bd2 (m_Ru_compute s o 25 (nI e)) (fun r8 s10 => if r8 = 0 then some (((0 : Int32), s10)) else m_Ru_assign_J62 s10 o)) (m_Rf_does_J154 t (nI st) (nI e)) (ru_QQ o σa σb w s t) := by
          unfold m_Rf_does_J154
          refine ao_2b2 (ao_2i (ru_compute ho G A B.1 C he) ?_)
          rintro ⟨r, s1⟩ ⟨r', t1⟩ ⟨hr, C1, f1, f2⟩
          have C1 : ru_C o σa σb w s1 t1 := C1
          have f1 : ∀ j, j ≠ 6 → j ≠ 9 → s1.1 o j = s.1 o j := f1
          have f2 : ∀ j, j ≠ 35 → t1.1 0 j = t.1 0 j := f2
          rcases hr with ⟨q1, q2⟩ | ⟨q1, q2, hv9⟩
          · exact ao_2lp q1 (ao_2rp q2 (ao_2s ⟨w, by omega, by omega, rfl, Or.inl rfl, C1, fun j h1 _ h3 => f1 j h1 h3, fun j _ h2 => f2 j h2⟩))
          · have q1 : r = 1 := q1
            have q2 : r' = 1 := q2
            have hv9 : s1.1 o 9 = t1.1 0 35 := hv9
            subst q1 q2
            refine ao_2ln ao_n10 (ao_2rn ao_n10 (ao_2r (gl t1 ((C1.2.1.2.1 1 (by omega) (by omega)).trans (C.2.1.2.1 1 (by omega) (by omega)).symm)) ?_))
            show ao_2 (m_Ru_assign_J62 s1 o) _ _
            rw [J62 s1 ((C1.1.2 31 (by omega)).trans (C.1.2 31 (by omega)).symm) ((f1 8 (by omega) (by omega)).trans e8), ao_gdn hv (by omega), nI_clamp (by omega)]
            exact ao_2s ⟨w, by omega, by omega, rfl, Or.inr rfl, ru_C_le C1 hv9, fun j h1 _ h3 => (ao_sI_o_at (by omega)).trans (f1 j h1 h3), fun j _ h2 => (ao_sI_o_at (by omega)).trans (f2 j h2)⟩
        unfold m_Ru_assign m_Rf_does_J99
        rw [e8]
        simp (disch := omega) only [ao_gdn, nI_clamp, ao_ltr]
        rw [a5, b1, if_pos (show nI (ag_kd Γ n) = (2 : Int32) from (kI 2 (by omega)).mpr k2), s6, ee, show ao_o (some e) = nI e from rfl, aw_bd_s (ag_isOne As.2.2.2.1 hX he), if_neg ao_n10, C.1.2 (ru_by how + 2) (by omega)]
        have rep := ru_rep M hn he hX ee
        have finA : ∀ {m : Option (Int32 × aw_S)} {m' : Option (Int32 × aw_S)}, ao_2 m m' (ru_QQ o σa σb w s t) → ao_2 (aw_bd2 m (fun r11 s13 => aw_gd (r11 = 0 ∨ r11 = 1) (some (r11, s13)))) m' (ru_QQ o σa σb w s t) := by
          rintro m m' ⟨x, y, h1, h2, h3⟩
          rw [h1, h2]
          show ao_2 (aw_gd (x.1 = 0 ∨ x.1 = 1) (some (x.1, x.2))) (some y) _
          obtain ⟨w', _, _, h4⟩ := id h3
          exact ao_2gl h4.2.1 (ao_2s h3)
        refine finA ?_
        cases how with
        | none =>
          rw [if_pos (rep.mpr id), if_pos (show ru_hI none = (-1 : Int32) from rfl)]
          exact work
        | some h =>
          rw [if_neg (show ¬ ru_hI (some h) = -1 by cases h <;> decide)]
          obtain ⟨p1, p2, p3⟩ := iq_plB (how := h) (w := 1) G B (by omega) he hn
          have p1' : m_Rf_at t (ru_hI (some h)) 1 (nI e) (nI n) = some (nI (ao_c (3 * ag_hi h + 1) e + n)) := p1
          rw [aw_bd_s p1', ao_gdn p2 (by omega), nI_clamp (show ao_c (3 * ag_hi h + 1) e + n < 2 ^ 31 by omega), C.2.1.2.1 13 (by omega) (by omega), p3]
          by_cases q : ag_P Γ e h 1 n
          · rw [if_neg (fun y => rep.mp y q), ao_b1 q, if_neg ao_n10, aw_bd_s (gl t rfl), ao_gdn (by omega) (by omega), ao_gdn (by omega) (by omega), ao_gdn (by omega) (by omega), nI_clamp (show v < 2 ^ 31 by omega), nI_clamp (show e < 2 ^ 31 by omega)]
            rw [J62 _ (ao_sI_o (by omega)) ((ao_sI_i (by omega)).trans e8), ao_sI_s]
            exact ao_2s ⟨w, by omega, by omega, rfl, Or.inr rfl, ru_C_le (ru_C_fA (j := 9) C (by omega)) (C.2.2.2.1 e (by omega)), fun j _ _ h3 => by rw [ao_sI_o (by omega), ao_sI_i h3], fun j _ _ => ao_sI_o_at (by omega)⟩
          · rw [if_pos (rep.mpr q), ao_b0 q, if_pos rfl]
            exact work
      · omega
      · omega
      · omega
      · omega
    · rw [if_neg (show ¬ nI (ag_kd Γ n) = (2 : Int32) from fun z => k2 ((kI 2 (by omega)).mp z))]
      by_cases k3 : ag_kd Γ n = 3
      · rw [if_pos (show nI (ag_kd Γ n) = (3 : Int32) from (kI 3 (by omega)).mpr k3)]
        obtain ⟨st, hst, s6, sl, sr, _⟩ := Bt.2.2.1 n hn (Or.inr (Or.inr k3))
        rcases G.2.2.2.2.2.1 n hn with z | z | z | z | z | z | z
        · omega
        · omega
        · omega
        · obtain ⟨x, hx, exx⟩ := z.2.2.2.1
          have sr := sr (by omega)
          rw [exx] at sr a4
          obtain ⟨r, r1, r2⟩ := ru_val C hx
          rw [s6, a4]
          refine ao_2l (show m_Ru_valueOf s o (ao_o (some x)) = some r from r1) ?_
          have eB : m_Rf_does_J49 t (nI n) (ru_hI how) (nI st) (ao_o (ag_ex Γ n)) = aw_bd (if (40 : Int32) ≤ t.1 0 26 then some (aw_sI t 0 26 (nI (w + 1))) else some (aw_sI (aw_sI t 19 w r) 0 26 (nI (w + 1)))) (fun t' => some (1, t')) := by
            have e26 : t.1 0 26 = nI w := C.2.2.2.2.2.2.2.1
            unfold m_Rf_does_J49 m_Rf_does_J89
            rw [ao_gdn (by omega) (by omega), nI_clamp (by omega), b1, if_pos (show nI (ag_kd Γ n) = (3 : Int32) from (kI 3 (by omega)).mpr k3)]
            by_cases q : (40 : Int32) ≤ t.1 0 26
            · rw [if_pos q, if_pos q, ao_ltr, J99 _ (by omega) (ao_sI_o (by omega)), e26, nI_1]
              rfl
            · rw [if_neg q, if_neg q, aw_bd_s (show m_Rf_get t (124 + nI st) = some (nI x) by rw [show (124 : Int32) = nI 124 from rfl, nI_add, ag_get (by omega), sr]; rfl), aw_bd_s r2, e26]
              have q40 : w < 40 := Nat.lt_of_not_le fun y => q (by rw [e26]; exact nI_le (a := 40) y (by omega))
              rw [ao_gdn q40 (by omega), nI_clamp (by omega), ao_ltr, ao_ltr, J99 _ (by omega) (by rw [ao_sI_o (by omega), ao_sI_o (by omega)]), ao_sI_o (show (0 : Nat) ≠ 19 by omega), e26, nI_1]
              rfl
          rw [eB]
          refine ao_2b (ao_2i (ru_C_out C (by omega)) ?_)
          rintro s' t' ⟨C', f1, f2⟩
          exact ao_2s ⟨w + 1, by omega, by omega, rfl, Or.inr rfl, C', fun j _ h2 _ => f1 j h2, fun j h1 _ => f2 j h1⟩
        · omega
        · omega
        · omega
      · rw [if_neg (show ¬ nI (ag_kd Γ n) = (3 : Int32) from fun z => k3 ((kI 3 (by omega)).mp z)), J49 _ k3 rfl, J99 _ k2 rfl]
        exact ao_2s (same 1 (Or.inr rfl))
/-- where it goes on -/
theorem ru_next {o : Nat} (ho : 82 ≤ o) {σa σb : aw_S} {Γ : ag_T} (G : ag_wf Γ) (A : ag_A σa Γ) (B : ag_B σb Γ) {n : Nat} (hn : n < ag_N Γ) (hl : ag_nx Γ (2 * n) ≠ none) {w : Nat} {s t : aw_S} (C : ru_C o σa σb w s t) (e8 : s.1 o 8 = nI n) : ∃ m, m < ag_N Γ ∧ m_Ru_nextNode s o = some (nI m) ∧ m_Rf_goesTo t (nI n) = some (nI m) := by
  have hN := G.1.1
  have As := ru_A C.1 ho A
  have Bt := ru_B C.2.1 B
  have hk7 := ag_kd_lt (G.2.2.2.2.2.1 n hn)
  obtain ⟨a1, a2, a3, a4, a5⟩ := As.2.1 n hn
  obtain ⟨b1, b2⟩ := Bt.2.1 n hn
  obtain ⟨f1, f2⟩ := As.1.2.2.1 n hn
  have g1 := Bt.1.2.2 (2 * n) (by omega)
  have g2 := Bt.1.2.2 (2 * n + 1) (by omega)
  obtain ⟨m, em⟩ : ∃ m, ag_nx Γ (2 * n) = some m := by
    cases q : ag_nx Γ (2 * n) with
    | none => exact absurd q hl
    | some m => exact ⟨m, rfl⟩
  have hm := G.1.2.1 _ (by omega) m em
  rw [em] at f1 g1
  have JA : m_Ru_nextNode_J39 s o = some (nI m) := by
    unfold m_Ru_nextNode_J39
    rw [e8, ao_gdn (by omega) (by omega), nI_clamp (by omega), f1]
    rfl
  have JB : m_Rf_goesTo_J24 t (nI n) = some (nI m) := by
    unfold m_Rf_goesTo_J24
    rw [ao_mul2, ao_gdn (by omega) (by omega), nI_clamp (by omega), g1]
    rfl
  unfold m_Ru_nextNode m_Rf_goesTo m_Ru_nextNode_J18
  rw [e8]
  simp (disch := omega) only [ao_mul2, nI_1, ao_gdn, nI_clamp]
  rw [f2, b1, g2, g1]
  cases q : ag_nx Γ (2 * n + 1) with
  | none =>
    refine ⟨m, hm, ?_, ?_⟩
    · rw [if_pos (show ao_o none = (-1 : Int32) from rfl), if_neg ao_n10, JA]
    · by_cases k5 : nI (ag_kd Γ n) = 5
      · rw [if_pos k5, if_pos (show ao_o none = (-1 : Int32) from rfl), JB]
      · rw [if_neg k5, JB]
  | some u =>
    have hu := G.1.2.1 _ (by omega) u q
    have k5 : ag_kd Γ n = 5 ∧ (∃ b, b < 16 ∧ ag_bl Γ n = some b) ∧ ∃ v, v < 26 ∧ ag_le Γ n = some v := by
      rcases G.2.2.2.2.2.1 n hn with z | z | z | z | z | z | z
      · exact absurd (z.2.2.2.2.2.2.symm.trans q) (by simp)
      · exact absurd (z.2.2.2.2.2.2.symm.trans q) (by simp)
      · exact absurd (z.2.2.2.2.2.2.symm.trans q) (by simp)
      · exact absurd (z.2.2.2.2.2.2.symm.trans q) (by simp)
      · exact absurd (z.2.2.2.2.2.2.1.symm.trans q) (by simp)
      · exact ⟨z.1, z.2.1, z.2.2.1⟩
      · exact absurd (z.2.2.2.2.2.2.symm.trans q) (by simp)
    obtain ⟨k5, ⟨b, hb, eb⟩, v, hv, ev⟩ := k5
    have hg : m_Rf_get t (220 + t.1 5 n) = some (nI v) := by
      have := Bt.2.2.2.2.1 n b hn k5 eb
      rw [b2, eb, show ao_o (some b) = nI b from rfl, show (220 : Int32) = nI 220 from rfl, nI_add, ag_get (by omega), this, ev]
      rfl
    have hvA : m_Ru_valueOf s o (ao_o (some v)) = some (t.1 16 v) := by
      unfold m_Ru_valueOf
      rw [show ao_o (some v) = nI v from rfl, if_pos (nI_pos' (by omega)), if_neg (show ¬ (26 : Int32) ≤ nI v from nI_ge (b := 26) hv (by omega)), ao_gdn (by omega) (by omega), nI_clamp (by omega), C.2.2.1 v hv]
    rw [if_neg (show ¬ ao_o (some u) = (-1 : Int32) from ao_m1 (by omega)), if_pos trivial, a3, ev, aw_bd_s hvA, if_pos (show nI (ag_kd Γ n) = (5 : Int32) by rw [k5]; rfl), if_neg (show ¬ ao_o (some u) = (-1 : Int32) from ao_m1 (by omega)), aw_bd_s hg, ao_gdn hv (by omega), nI_clamp (by omega)]
    by_cases z : t.1 16 v = 0
    · rw [if_pos z, if_pos z]
      exact ⟨u, hu, rfl, rfl⟩
    · rw [if_neg z, if_neg z, JA]
      exact ⟨m, hm, rfl, rfl⟩

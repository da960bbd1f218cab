/-! ===== WRITING: an end, and all of it ===== -/
set_option maxHeartbeats 2000000 in
theorem wt_end {σa σb : aw_S} {Γ : ag_T} (G : ag_wf Γ) (A : ag_A σa Γ) (B : ag_BA σb Γ) {n : Nat} (hn : n < ag_N Γ) {k : Nat} (hk : k < 400) {s t : aw_S} (C : wt_C σa σb k s t) {f : Int32} (h4 : ag_kd Γ n = 4 ∨ ag_kd Γ n = 5 ∨ ag_kd Γ n = 6) : ao_2 (m_Mo_writeNode s (nI n) f) (aw_bd (m_Rf_writeEnd t (nI n)) (fun s38 => m_Rf_write_J123 s38)) (fun s' y => wt_Q σa σb k 20 s' y.2 ∧ y.1 = y.2.1 0 48) := by
  have hN := G.1.1
  have As := fun {k' s' t'} (C' : wt_C σa σb k' s' t') => (wt_AA C' A).2.1 n hn
  have At := fun {k' s' t'} (C' : wt_C σa σb k' s' t') => (wt_AA C' A).2.2.1 n hn
  have Bs := fun {k' s' t'} (C' : wt_C σa σb k' s' t') => wt_BB C' B.1
  have fin : ∀ {k' s' t'}, k' ≤ k + 15 → wt_C σa σb k' s' t' → ao_2 (m_Mo_writeNode_J69 s') (m_Rf_write_J123 t') (fun s' y => wt_Q σa σb k 20 s' y.2 ∧ y.1 = y.2.1 0 48) := by
    intro k' s' t' hk' C'
    unfold m_Mo_writeNode_J69 m_Rf_write_J123
    exact ao_2b (ao_2i (wt_put (c := 59) (by omega) C' (by omega)) (fun s'' t'' h => ao_2s ⟨⟨k' + 1, by omega, h⟩, rfl⟩))
  have hk7 := ag_kd_lt (G.2.2.2.2.2.1 n hn)
  have kI : ∀ j, j < 7 → (nI (ag_kd Γ n) = nI j ↔ ag_kd Γ n = j) := fun j hj => ag_kI hk7 hj
  unfold m_Mo_writeNode m_Mo_writeEnd m_Rf_writeEnd m_Rf_writeEnd_J40 m_Rf_writeEnd_J69 m_Rf_writeEnd_J95
  simp (disch := omega) only [ao_gdn, nI_clamp, ao_ltr]
  rw [(As C).1, ((Bs C).2.1 n hn).1, ((Bs C).2.1 n hn).2]
  rw [if_neg (show ¬ nI (ag_kd Γ n) = 0 from fun z => by have := (kI 0 (by omega)).mp z; omega), if_neg (show ¬ nI (ag_kd Γ n) = (1 : Int32) from fun z => by have := (kI 1 (by omega)).mp z; omega), if_neg (show ¬ nI (ag_kd Γ n) = (2 : Int32) from fun z => by have := (kI 2 (by omega)).mp z; omega), if_neg (show ¬ nI (ag_kd Γ n) = (3 : Int32) from fun z => by have := (kI 3 (by omega)).mp z; omega)]
  have kB : ∀ {k' s' t'}, wt_C σa σb k' s' t' → t'.1 4 n = nI (ag_kd Γ n) := fun {k' s' t'} C' => ((Bs C').2.1 n hn).1
  rcases G.2.2.2.2.2.1 n hn with z | z | z | z | z | z | z
  · omega
  · omega
  · omega
  · omega
  · obtain ⟨k4, ⟨b, hb, eb⟩, _, _, _, _, _, t1, ht1, et1⟩ := z
    have n6 : ¬ nI (ag_kd Γ n) = (6 : Int32) := fun z => by have := (kI 6 (by omega)).mp z; omega
    have n5 : ¬ nI (ag_kd Γ n) = (5 : Int32) := fun z => by have := (kI 5 (by omega)).mp z; omega
    have p4 : nI (ag_kd Γ n) = (4 : Int32) := (kI 4 (by omega)).mpr k4
    rw [if_neg n6, if_pos p4, if_pos p4, eb, show ao_o (some b) = nI b from rfl, aw_bd_as, aw_bd_as]
    refine ao_2b (ao_2i (wt_put (c := 62) (by omega) C (by omega)) ?_)
    intro s1 t1' C1
    have g1 : m_Rf_get t1' (236 + 2 * nI b) = some (nI t1) := by
      rw [ao_mul2, show (236 : Int32) = nI 236 from rfl, nI_add, ag_get (by omega), ((Bs C1).2.2.2.2.2.1 n b hn (Or.inl k4) eb).1, et1]
      rfl
    rw [kB C1, if_neg n5, if_neg n6, (At C1 (Or.inl k4)).1, et1, show ao_o (some t1) = nI t1 from rfl, aw_bd_s g1, aw_bd_as, aw_bd_as]
    refine ao_2b (ao_2i (wt_num (by omega) C1 (by omega)) ?_)
    rintro s2 t2 ⟨k2, hk2, C2⟩
    rw [kB C2, if_neg n5]
    exact fin (by omega) C2
  · obtain ⟨k5, ⟨b, hb, eb⟩, ⟨v, hv, ev⟩, _, _, _, ⟨t1, ht1, et1⟩, ⟨t2, ht2, et2⟩⟩ := z
    have n6 : ¬ nI (ag_kd Γ n) = (6 : Int32) := fun z => by have := (kI 6 (by omega)).mp z; omega
    have n4 : ¬ nI (ag_kd Γ n) = (4 : Int32) := fun z => by have := (kI 4 (by omega)).mp z; omega
    have p5 : nI (ag_kd Γ n) = (5 : Int32) := (kI 5 (by omega)).mpr k5
    rw [if_neg n6, if_neg n4, if_neg n4, if_pos p5, eb, show ao_o (some b) = nI b from rfl, aw_bd_as, aw_bd_as]
    refine ao_2b (ao_2i (wt_put (c := 63) (by omega) C (by omega)) ?_)
    intro s1 t1' C1
    have g0 : m_Rf_get t1' (220 + nI b) = some (nI v) := by
      rw [show (220 : Int32) = nI 220 from rfl, nI_add, ag_get (by omega), (Bs C1).2.2.2.2.1 n b hn k5 eb, ev]
      rfl
    rw [kB C1, if_pos p5, (As C1).2.2.1, ev, show ao_o (some v) = nI v from rfl, aw_bd_s g0, show (97 : Int32) = nI 97 from rfl, nI_add, aw_bd_as, aw_bd_as]
    refine ao_2b (ao_2i (wt_put (by omega) C1 (by omega)) ?_)
    intro s2 t2' C2
    have g1 : m_Rf_get t2' (236 + 2 * nI b) = some (nI t1) := by
      rw [ao_mul2, show (236 : Int32) = nI 236 from rfl, nI_add, ag_get (by omega), ((Bs C2).2.2.2.2.2.1 n b hn (Or.inr k5) eb).1, et1]
      rfl
    rw [kB C2, if_neg n6, (At C2 (Or.inr k5)).1, et1, show ao_o (some t1) = nI t1 from rfl, aw_bd_s g1, aw_bd_as, aw_bd_as]
    refine ao_2b (ao_2i (wt_num (by omega) C2 (by omega)) ?_)
    rintro s3 t3 ⟨k3, hk3, C3⟩
    rw [kB C3, if_pos p5, aw_bd_as, aw_bd_as]
    refine ao_2b (ao_2i (wt_put (c := 44) (by omega) C3 (by omega)) ?_)
    intro s4 t4 C4
    have g2 : m_Rf_get t4 (236 + 2 * nI b + 1) = some (nI t2) := by
      rw [ao_mul2, show (236 : Int32) = nI 236 from rfl, nI_add, nI_1, ag_get (by omega), show 236 + 2 * b + 1 = 237 + 2 * b by omega, ((Bs C4).2.2.2.2.2.1 n b hn (Or.inr k5) eb).2 k5, et2]
      rfl
    rw [(At C4 (Or.inr k5)).2 k5, et2, show ao_o (some t2) = nI t2 from rfl, aw_bd_s g2, aw_bd_as, aw_bd_as]
    refine ao_2b (ao_2i (wt_num (by omega) C4 (by omega)) ?_)
    rintro s5 t5 ⟨k5', hk5, C5⟩
    exact fin (by omega) C5
  · obtain ⟨k6, _⟩ := z
    have p6 : nI (ag_kd Γ n) = (6 : Int32) := (kI 6 (by omega)).mpr k6
    have n5 : ¬ nI (ag_kd Γ n) = (5 : Int32) := fun z => by have := (kI 5 (by omega)).mp z; omega
    have n4 : ¬ nI (ag_kd Γ n) = (4 : Int32) := fun z => by have := (kI 4 (by omega)).mp z; omega
    rw [if_pos p6, if_neg n4, if_neg n5, aw_bd_as, aw_bd_as]
    refine ao_2b (ao_2i (wt_put (c := 46) (by omega) C (by omega)) ?_)
    intro s1 t1' C1
    rw [kB C1, if_neg n5, if_pos p6, if_neg n5]
    exact fin (by omega) C1
/-- a class's loop that moves nothing -/
theorem wt_lp0 {f : Int32 × aw_S → Option (aw_S ⊕ (Int32 × aw_S))} {s : aw_S} {N : Nat} (hN : N < 4294967295) (hs : ∀ k, k < N → f (nI k, s) = some (.inr (nI (k + 1), s))) (he : f (nI N, s) = some (.inl s)) : aw_lp f aw_fu ((0 : Int32), s) = some s := by
  have key : ao_ok (aw_lp f aw_fu ((0 : Int32), s)) (fun r => r = s) := by
    refine ao_for N (fun k (x : Int32 × aw_S) => x = (nI k, s)) (a := 0) rfl (Nat.zero_le _) hN (fun k x hk e => ?_) (fun x e => ?_)
    · subst e; rw [hs k hk]; exact ao_inr rfl
    · subst e; rw [he]; exact ao_inl rfl
  obtain ⟨r, e, h⟩ := key
  rw [e, h]
set_option maxHeartbeats 2000000 in
/-- the names put in ahead of a node -/
theorem wt_names {a b : aw_S} {Γ : ag_T} (G : iq_G a b Γ) {how : Option Bool} (M : ru_M a Γ how) {n : Nat} (hn : n < ag_N Γ) {s t : aw_S} (C : wt_C a b 0 s t) : ao_2 (aw_lp (fun s => m_Mo_write_B38 s.2 (nI n) (ru_by how) s.1) aw_fu ((0 : Int32), s)) (aw_lp (fun s => m_Rf_write_B25 s.2 (nI n) (ru_hI how) s.1) aw_fu ((0 : Int32), t)) (wt_Q a b 0 320) := by
  have hN := G.1.1.1
  have hX := G.1.2.2.2.2.2.2.1
  have hby := ru_by_lt how
  have A := G.2.1.1
  have B := G.2.2.1
  have cell : ∀ {k' s' t'}, wt_C a b k' s' t' → s'.1 25 3 = nI (ag_X Γ) ∧ s'.1 (ru_by how + 1) n = a.1 (ru_by how + 1) n := fun {k' s' t'} C' => ⟨(wt_AA C' A).2.2.2.1, congrFun (C'.1.2.1 _ (by omega) (by omega)) n⟩
  have bit : ∀ e, e < 24 → ∀ S : aw_S, m_Mo_bitOf S (a.1 (ru_by how + 1) n) (nI e) = some (ao_b (e < ag_X Γ ∧ ru_PU Γ how 0 e n)) := fun e he S => by
    rw [ag_bitOf S _ (by omega)]
    exact congrArg some (ao_b_c (M 0 (by omega) n hn e (by omega)))
  have getX : ∀ {k' s' t'}, wt_C a b k' s' t' → m_Rf_get t' 2 = some (nI (ag_X Γ)) := fun {k' s' t'} C' => by rw [show (2 : Int32) = nI 2 from rfl, ag_get (by omega), (wt_BB C' B).2.2.2.2.2.2.1]
  cases how with
  | none =>
    refine ao_2of (P := fun r => r = s) (P' := fun r => r = t) ⟨s, wt_lp0 (N := ag_X Γ) (by omega) (fun k hk => ?_) ?_, rfl⟩ ⟨t, ?_, rfl⟩ (fun x y e1 e2 => by rw [e1, e2]; exact ⟨0, by omega, C⟩)
    · show m_Mo_write_B38 s (nI n) (ru_by none) (nI k) = _
      unfold m_Mo_write_B38 m_Mo_write_J98
      rw [(cell C).1, if_neg (nI_ge hk (by omega)), ao_gdn (by omega) (by omega), nI_clamp (by omega), (cell C).2, aw_bd_s (bit k (by omega) s), ao_b0 (fun z => z.2), if_neg (by decide), ao_ltr, nI_1]
    · show m_Mo_write_B38 s (nI n) (ru_by none) (nI (ag_X Γ)) = _
      unfold m_Mo_write_B38
      rw [(cell C).1, if_pos (nI_le (Nat.le_refl _) (by omega))]
    · have : m_Rf_write_B25 t (nI n) (ru_hI none) 0 = some (.inl t) := by
        unfold m_Rf_write_B25
        rw [aw_bd_s (getX C)]
        by_cases q : nI (ag_X Γ) ≤ 0
        · rw [if_pos q]
        · rw [if_neg q, if_pos (show ru_hI none = -1 from rfl)]
      exact wt_lp0 (N := 0) (by omega) (fun k hk => absurd hk (Nat.not_lt_zero _)) this
  | some h =>
    refine ao_2lp' (fun d (x y : Int32 × aw_S) => ∃ e k, d = ag_X Γ - e ∧ e ≤ ag_X Γ ∧ k ≤ 13 * e ∧ x.1 = nI e ∧ y.1 = nI e ∧ wt_C a b k x.2 y.2) (d := ag_X Γ) ⟨0, 0, rfl, by omega, by omega, rfl, rfl, C⟩ (by omega) ?_
    rintro d ⟨v, x⟩ ⟨v', y⟩ ⟨e, k, hd, he, hk, h1, h2, Ck⟩
    have h1 : v = nI e := h1
    have h2 : v' = nI e := h2
    have Ck : wt_C a b k x y := Ck
    subst h1
    subst h2
    have ne : ¬ ru_hI (some h) = -1 := by cases h <;> decide
    show ao_2 (m_Mo_write_B38 x (nI n) (ru_by (some h)) (nI e)) (m_Rf_write_B25 y (nI n) (ru_hI (some h)) (nI e)) _
    unfold m_Mo_write_B38 m_Rf_write_B25
    rw [(cell Ck).1, aw_bd_s (getX Ck)]
    by_cases q : e = ag_X Γ
    · subst q
      rw [if_pos (nI_le (Nat.le_refl _) (by omega)), if_pos (nI_le (Nat.le_refl _) (by omega))]
      exact ao_2s ⟨k, by omega, Ck⟩
    · have heX : e < ag_X Γ := by omega
      have fin : ∀ {k' s' t'}, k' ≤ k + 13 → wt_C a b k' s' t' → m_Mo_write_J98 s' (nI n) (ru_by (some h)) (nI e) = some (.inr (nI (e + 1), s')) ∧ m_Rf_write_J79 t' (nI n) (ru_hI (some h)) (nI e) = some (.inr (nI (e + 1), t')) ∧ (∃ d', d' < d ∧ ∃ e' k'', d' = ag_X Γ - e' ∧ e' ≤ ag_X Γ ∧ k'' ≤ 13 * e' ∧ nI (e + 1) = nI e' ∧ nI (e + 1) = nI e' ∧ wt_C a b k'' s' t') := by
        intro k' s' t' hk' C'
        unfold m_Mo_write_J98 m_Rf_write_J79
        rw [ao_ltr, ao_ltr, nI_1]
        exact ⟨rfl, rfl, ag_X Γ - (e + 1), by omega, e + 1, k', rfl, by omega, by omega, rfl, rfl, C'⟩
      obtain ⟨p1, p2, p3⟩ := iq_plB (how := h) (w := 0) G.1 G.2.2 (by omega) heX hn
      have p1' : m_Rf_at y (ru_hI (some h)) 0 (nI e) (nI n) = some (nI (ao_c (3 * ag_hi h + 0) e + n)) := p1
      rw [if_neg (nI_ge heX (by omega)), if_neg (nI_ge heX (by omega)), if_neg ne, ao_gdn (by omega) (by omega), nI_clamp (by omega), (cell Ck).2, aw_bd_s (bit e (by omega) x), aw_bd_s p1', ao_gdn p2 (by omega), nI_clamp (by omega), Ck.2.1.2.1 13 (by omega) (by omega), p3]
      by_cases w : ag_P Γ e h 0 n
      · rw [ao_b1 ⟨heX, w⟩, if_pos rfl, ao_b1 w, if_neg ao_n10]
        refine ao_2b (ao_2i (wt_name (by omega) Ck (by omega)) ?_)
        rintro s1 t1 ⟨k1, hk1, C1⟩
        refine ao_2b (ao_2i (wt_put (c := 61) (by omega) C1 (by omega)) ?_)
        intro s2 t2 C2
        refine ao_2b (ao_2i (wt_expr G.1 A B (by omega) C2 heX) ?_)
        rintro s3 t3 ⟨k3, hk3, C3⟩
        refine ao_2b (ao_2i (wt_put (c := 59) (by omega) C3 (by omega)) ?_)
        intro s4 t4 C4
        have F := fin (by omega) C4
        exact ⟨_, _, F.1, F.2.1, F.2.2⟩
      · rw [ao_b0 (fun z => w z.2), if_neg (by decide), ao_b0 w, if_pos rfl]
        have F := fin (by omega) Ck
        exact ⟨_, _, F.1, F.2.1, F.2.2⟩
set_option maxHeartbeats 2000000 in
theorem q_write {a b : aw_S} (h : iq_P a b) (h0 : ∀ n, n < 128 → a.1 64 n = 0 ∧ a.1 65 n = 0) (hw : ∃ k, k < 1000 ∧ a.1 5 1 = nI k) (x y : Int32) : ao_2 (m_Mo_write a x y) (m_Rf_write b x y) (fun p q => p.1 = q.1 ∧ ((p.2 = a ∧ q.2 = b) ∨ ∃ k, k ≤ 600 ∧ wt_C a b k p.2 q.2)) := by
  unfold m_Mo_write m_Rf_write
  have same : ao_2 (some ((-1 : Int32), a)) (some ((-1 : Int32), b)) (fun p q => p.1 = q.1 ∧ ((p.2 = a ∧ q.2 = b) ∨ ∃ k, k ≤ 600 ∧ wt_C a b k p.2 q.2)) := ao_2s ⟨rfl, Or.inl ⟨rfl, rfl⟩⟩
  rcases iq_nd h x with ⟨Γ0, n, G0, hn0, rfl, e1, e2⟩ | ⟨e1, e2⟩
  · rw [aw_bd_s e1, if_neg ao_n10, aw_bd_s e2, if_neg ao_n10]
    have hN0 := G0.1.1.1
    rcases iq_runs h y with ⟨Γ, how, G, rfl, e3, e4, e5⟩ | ⟨e3, e4⟩
    · have hN := G.1.1.1
      have hk7 := fun hn => ag_kd_lt (G.1.2.2.2.2.2.1 n hn)
      have M := ru_M_of G.2.1 h0 hN how
      have A := G.2.1.1
      have hn : n < ag_N Γ := by
        have z : m_Gr_isNode a (nI n) = some 1 := e1
        unfold m_Gr_isNode at z
        rw [A.1.2.1] at z
        by_cases q : n < ag_N Γ
        · exact q
        · rw [if_neg (nI_pos (by omega)), if_pos (nI_le (by omega) (by omega))] at z
          exact absurd z (by decide)
      rw [aw_bd_s e3, if_neg ao_n10, aw_bd_s e4, if_neg ao_n10, aw_bd_s e5, ao_ltr]
      have cut : m_Te_cut a 5 0 = some (aw_sI a 5 1 0) := by
        obtain ⟨k, hk, ek⟩ := hw
        unfold m_Te_cut
        rw [if_neg (by decide), ek, if_neg (nI_pos (by omega)), ao_ltr]
      rw [aw_bd_s cut]
      have C0 : wt_C a b 0 (aw_sI a 5 1 0) (aw_sI b 0 48 0) := ⟨⟨rfl, fun c h1 h2 => ao_sI_o h1, fun j hj => ao_sI_i hj⟩, ⟨rfl, fun c h1 h2 => ao_sI_o h1, fun j hj => ao_sI_i hj⟩, ao_sI_s _ _ _ _, ao_sI_s _ _ _ _, fun i hi => absurd hi (Nat.not_lt_zero _)⟩
      refine ao_2b (ao_2i (wt_names G M hn C0) ?_)
      rintro s t ⟨k, hk, C⟩
      rw [ao_gdn (by omega) (by omega), ao_gdn (by omega) (by omega), ao_gdn (by omega) (by omega), nI_clamp (by omega), ((wt_BB C G.2.2.1).2.1 n hn).1]
      have es : s.1 (ru_by how + 2) n = a.1 (ru_by how + 2) n := congrFun (C.1.2.1 _ (by have := ru_by_lt how; omega) (by have := ru_by_lt how; omega)) n
      rw [es]
      have J : (if a.1 (ru_by how + 2) n = 0 then m_Mo_write_J120 s (nI n) 0 else m_Mo_write_J120 s (nI n) 1) = m_Mo_write_J120 s (nI n) (if a.1 (ru_by how + 2) n = 0 then 0 else 1) := by
        by_cases q : a.1 (ru_by how + 2) n = 0
        · rw [if_pos q, if_pos q]
        · rw [if_neg q, if_neg q]
      rw [J]
      unfold m_Mo_write_J120
      have last : ∀ {z : Option (Int32 × aw_S)}, ao_2 (m_Mo_writeNode s (nI n) (if a.1 (ru_by how + 2) n = 0 then 0 else 1)) z (fun s' y => wt_Q a b k 20 s' y.2 ∧ y.1 = y.2.1 0 48) → ao_2 (aw_bd (m_Mo_writeNode s (nI n) (if a.1 (ru_by how + 2) n = 0 then 0 else 1)) (fun s37 => aw_bd (m_Te_size s37 5) (fun r38 => some ((r38, s37))))) z (fun p q => p.1 = q.1 ∧ ((p.2 = a ∧ q.2 = b) ∨ ∃ k, k ≤ 600 ∧ wt_C a b k p.2 q.2)) := by
        rintro z ⟨s', y', h1, h2, ⟨k', hk', C'⟩, h3⟩
        rw [aw_bd_s h1, h2]
        exact ao_2l rfl (ao_2s ⟨by show s'.1 5 1 = y'.1; rw [h3, C'.2.2.1, C'.2.2.2.1], Or.inr ⟨k', by omega, C'⟩⟩)
      have kI : ∀ j, j < 7 → (nI (ag_kd Γ n) = nI j ↔ ag_kd Γ n = j) := fun j hj => ag_kI (hk7 hn) hj
      by_cases q0 : ag_kd Γ n = 0
      · rw [if_pos (show nI (ag_kd Γ n) = 0 from (kI 0 (by omega)).mpr q0)]
        refine last ?_
        unfold m_Mo_writeNode
        rw [ao_gdn (by omega) (by omega), nI_clamp (by omega), ao_ltr, ((wt_AA C A).2.1 n hn).1, if_pos (show nI (ag_kd Γ n) = 0 from (kI 0 (by omega)).mpr q0)]
        exact ao_2s ⟨⟨k, by omega, C⟩, rfl⟩
      · rw [if_neg (show ¬ nI (ag_kd Γ n) = 0 from fun z => q0 ((kI 0 (by omega)).mp z))]
        have := hk7 hn
        by_cases q4 : 4 ≤ ag_kd Γ n
        · rw [if_pos (show (4 : Int32) ≤ nI (ag_kd Γ n) from nI_le (a := 4) q4 (by omega))]
          exact last (wt_end G.1 A G.2.2 hn (by omega) C (by omega))
        · rw [if_neg (show ¬ (4 : Int32) ≤ nI (ag_kd Γ n) from nI_ge (b := 4) (by omega) (by omega))]
          exact last (wt_stm G.1 A G.2.2 M hn (by omega) C rfl (by omega))
    · rw [aw_bd_s e3, if_pos rfl, aw_bd_s e4, if_pos rfl]
      exact same
  · rw [aw_bd_s e1, if_pos rfl, aw_bd_s e2, if_pos rfl]
    exact same

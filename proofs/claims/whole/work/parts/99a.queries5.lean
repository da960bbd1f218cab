/-! ===== QUERIES that write to the reference's own rows: shared, again ===== -/
def iq_x (c : Nat) (b : aw_S) (m : Option Int32) (m' : Option (Int32 × aw_S)) : Prop := ∃ r s, m = some r ∧ m' = some (r, s) ∧ ag_one c b s
theorem iq_x0 {c : Nat} {b : aw_S} {r : Int32} : iq_x c b (some r) (some (r, b)) := ⟨r, b, rfl, rfl, ag_one_rf⟩
theorem iq_xl {α : Type} {c : Nat} {b : aw_S} {m : Option α} {k : α → Option Int32} {m' : Option (Int32 × aw_S)} {v : α} (e : m = some v) (h : iq_x c b (k v) m') : iq_x c b (aw_bd m k) m' := by rw [aw_bd_s e]; exact h
theorem iq_xr {α : Type} {c : Nat} {b : aw_S} {m : Option α} {k : α → Option (Int32 × aw_S)} {a : Option Int32} {v : α} (e : m = some v) (h : iq_x c b a (k v)) : iq_x c b a (aw_bd m k) := by rw [aw_bd_s e]; exact h
theorem iq_xlp {q : Prop} {i : Decidable q} {c : Nat} {b : aw_S} {m n : Option Int32} {m' : Option (Int32 × aw_S)} (hq : q) (h : iq_x c b m m') : iq_x c b (@ite _ q i m n) m' := by rw [if_pos hq]; exact h
theorem iq_xln {q : Prop} {i : Decidable q} {c : Nat} {b : aw_S} {m n : Option Int32} {m' : Option (Int32 × aw_S)} (hq : ¬ q) (h : iq_x c b n m') : iq_x c b (@ite _ q i m n) m' := by rw [if_neg hq]; exact h
theorem iq_xrp {q : Prop} {i : Decidable q} {c : Nat} {b : aw_S} {m : Option Int32} {m' n' : Option (Int32 × aw_S)} (hq : q) (h : iq_x c b m m') : iq_x c b m (@ite _ q i m' n') := by rw [if_pos hq]; exact h
theorem iq_xrn {q : Prop} {i : Decidable q} {c : Nat} {b : aw_S} {m : Option Int32} {m' n' : Option (Int32 × aw_S)} (hq : ¬ q) (h : iq_x c b m n') : iq_x c b m (@ite _ q i m' n') := by rw [if_neg hq]; exact h
set_option maxHeartbeats 2000000 in
theorem iq_layNames {b : aw_S} {Γ : ag_T} (G : ag_wf Γ) (B : ag_BA b Γ) (how : Bool) {nm : Nat → Option Nat} (hnm : ag_nm Γ how (ag_X Γ) nm) : ao_ok (m_Rf_layNames b (iq_hI how)) (fun x => x.1 = nI (ag_mxn nm (ag_X Γ)) ∧ ag_one 14 b x.2 ∧ ∀ e, e < ag_X Γ → x.2.1 14 e = ao_o (nm e)) := by
  have hN := G.1.1
  have hX := G.2.2.2.2.2.2.1
  have nmle : ∀ e v, e < ag_X Γ → nm e = some v → v ≤ e := by
    intro e v he ev
    obtain ⟨h1, h2⟩ := hnm e he
    by_cases q : ∃ n, n < ag_N Γ ∧ ag_P Γ e how 0 n
    · obtain ⟨w, ew, hw, _⟩ := h2 q
      rw [ev] at ew; cases ew; exact hw
    · rw [h1 (fun n hn z => q ⟨n, hn, z⟩)] at ev; cases ev
  have mxle : ∀ k, k ≤ ag_X Γ → ag_mxn nm k ≤ k := fun k hk => ag_mxn_le (fun e v he ev => nmle e v (by omega) ev)
  unfold m_Rf_layNames
  refine ao_bd (ao_imp (Q := fun (x : Int32 × aw_S) => x.1 = nI (ag_mxn nm (ag_X Γ)) ∧ ag_one 14 b x.2 ∧ ∀ e, e < ag_X Γ → x.2.1 14 e = ao_o (nm e)) (ao_for (ag_X Γ) (fun k (s : Int32 × Int32 × aw_S) => s.1 = nI (ag_mxn nm k) ∧ s.2.1 = nI k ∧ ag_one 14 b s.2.2 ∧ ∀ e, e < k → s.2.2.1 14 e = ao_o (nm e)) (a := 0) ⟨rfl, rfl, ag_one_rf, fun e he => absurd he (Nat.not_lt_zero _)⟩ (Nat.zero_le _) (by omega) ?_ ?_) (fun x hx => ao_some hx))
  · rintro k ⟨m, x, s⟩ hk ⟨e1, e2, f, d⟩
    have e1 : m = nI (ag_mxn nm k) := e1
    have e2 : x = nI k := e2
    have f : ag_one 14 b s := f
    have d : ∀ e, e < k → s.1 14 e = ao_o (nm e) := d
    subst e1 e2
    have hmk := mxle k (by omega)
    obtain ⟨n1, n2⟩ := hnm k hk
    have g2 : m_Rf_get s 2 = some (nI (ag_X Γ)) := by rw [show (2 : Int32) = nI 2 from rfl, ag_get (by omega), f.2 1 (by omega), B.1.2.2.2.2.2.2.1]
    show ao_ok (m_Rf_layNames_B4 s (iq_hI how) (nI (ag_mxn nm k)) (nI k)) _
    unfold m_Rf_layNames_B4
    rw [aw_bd_s g2, if_neg (nI_ge hk (by omega)), ao_gdn (by omega) (by omega), nI_clamp (by omega)]
    refine ao_let ?_
    generalize hs5 : aw_sI s 14 k (-1) = s5
    have f5 : ag_one 14 b s5 := by rw [← hs5]; exact ag_one_tr f ag_one_s
    have d5 : ∀ e, e < k → s5.1 14 e = ao_o (nm e) := fun e he => by rw [← hs5, ao_sI_i (by omega)]; exact d e he
    have z5 : s5.1 14 k = -1 := by rw [← hs5]; exact ao_sI_s _ _ _ _
    clear hs5
    have c5 := iq_cp G B how (w := 0) (e := k) (by omega) hk (s := s5) (congrFun (f5.2 0 (by omega)) 14) (f5.2 13 (by omega))
    rw [show (0 : Int32) = nI 0 from rfl, aw_bd_s c5]
    by_cases q : ∃ n, n < ag_N Γ ∧ ag_P Γ k how 0 n
    · obtain ⟨v, ev, hv, v1, v2⟩ := n2 q
      have hpos : 0 < ao_n (ag_P Γ k how 0) (ag_N Γ) := by
        obtain ⟨n, hn, hp⟩ := q
        have := ao_n_lt (X := fun _ => False) (Y := ag_P Γ k how 0) (n := ag_N Γ) (i := n) (fun _ _ z => z.elim) hn hp id
        omega
      have hle := ao_n_le (ag_P Γ k how 0) (ag_N Γ)
      rw [if_neg (show ¬ nI (ao_n (ag_P Γ k how 0) (ag_N Γ)) = nI 0 from nI_ne0 hpos (by omega))]
      refine ao_bd (ao_imp (Q := fun t => ∀ u, u < 32 → (ao_t t u ↔ ag_tk Γ how nm k u)) (ao_for k (fun j (t : Int32 × Int32) => t.2 = nI j ∧ ∀ u, u < 32 → (ao_t t.1 u ↔ ∃ f, f < j ∧ nm f = some u ∧ ag_CL Γ how k f)) (a := 0) ⟨rfl, fun u hu => ⟨fun y => absurd y ao_t_0, fun ⟨f, hf, _⟩ => absurd hf (Nat.not_lt_zero _)⟩⟩ (Nat.zero_le _) (by omega) ?_ ?_) ?_)
      · rintro j ⟨t, y⟩ hj ⟨e3, hi⟩
        have e3 : y = nI j := e3
        subst e3
        have hi : ∀ u, u < 32 → (ao_t t u ↔ ∃ f, f < j ∧ nm f = some u ∧ ag_CL Γ how k f) := hi
        show ao_ok (m_Rf_layNames_B39 s5 (iq_hI how) (nI (ag_mxn nm k)) (nI k) t (nI j)) _
        unfold m_Rf_layNames_B39 m_Rf_layNames_J81
        rw [if_neg (nI_ge hj (by omega)), ao_gdn (by omega) (by omega), ao_gdn (by omega) (by omega), nI_clamp (by omega), d5 j hj, aw_bd_s (iq_dc G B how (e := k) (f := j) hk (by omega) (s := s5) (congrFun (f5.2 0 (by omega)) 14) (f5.2 13 (by omega)))]
        cases ej : nm j with
        | none =>
          rw [if_pos (show ao_o none = (-1 : Int32) from rfl)]
          refine ao_let (ao_inr ⟨nI_1 j, fun u hu => (hi u hu).trans ⟨fun ⟨f, h1, h2⟩ => ⟨f, by omega, h2⟩, fun ⟨f, h1, h2, h3⟩ => ⟨f, ?_, h2, h3⟩⟩⟩)
          by_cases w : f = j
          · rw [w, ej] at h2; cases h2
          · omega
        | some w =>
          have hw := nmle j w (by omega) ej
          rw [if_neg (show ¬ ao_o (some w) = (-1 : Int32) from ao_m1 (by omega))]
          by_cases cl : ag_CL Γ how k j
          · rw [ao_b1 cl, if_neg ao_n10]
            refine ao_let (ao_let (ao_inr ⟨nI_1 j, fun u hu => ?_⟩))
            show ao_t (t ||| ((1 : Int32) <<< (nI w &&& 31))) u ↔ _
            rw [ao_t_or, hi u hu, ao_t_one (by omega) hu]
            constructor
            · rintro (⟨f, h1, h2⟩ | h1)
              · exact ⟨f, by omega, h2⟩
              · subst h1; exact ⟨j, by omega, ej, cl⟩
            · rintro ⟨f, h1, h2, h3⟩
              by_cases y : f = j
              · rw [y, ej] at h2; cases h2; exact Or.inr rfl
              · exact Or.inl ⟨f, by omega, h2, h3⟩
          · rw [ao_b0 cl, if_pos rfl]
            refine ao_let (ao_inr ⟨nI_1 j, fun u hu => (hi u hu).trans ⟨fun ⟨f, h1, h2⟩ => ⟨f, by omega, h2⟩, fun ⟨f, h1, h2, h3⟩ => ⟨f, ?_, h2, h3⟩⟩⟩)
            by_cases y : f = j
            · rw [y] at h3; exact absurd h3 cl
            · omega
      · rintro ⟨t, y⟩ ⟨e3, hi⟩
        have e3 : y = nI k := e3
        subst e3
        show ao_ok (m_Rf_layNames_B39 s5 (iq_hI how) (nI (ag_mxn nm k)) (nI k) t (nI k)) _
        unfold m_Rf_layNames_B39
        rw [if_pos (nI_le (Nat.le_refl _) (by omega))]
        exact ao_inl hi
      · intro t ht
        refine ao_bd (ao_imp (Q := fun y => y = nI v) (ao_for v (fun u (y : Int32) => y = nI u) (a := 0) rfl (Nat.zero_le _) (by omega) ?_ ?_) ?_)
        · rintro u y hu rfl
          show ao_ok (m_Rf_layNames_B90 s5 (iq_hI how) (nI (ag_mxn nm k)) (nI k) t (nI u)) _
          unfold m_Rf_layNames_B90
          rw [iq_sshr_b (by omega), ao_b1 ((ht u (by omega)).mpr (v2 u hu)), if_pos rfl]
          exact ao_let (ao_inr (nI_1 u))
        · rintro y rfl
          show ao_ok (m_Rf_layNames_B90 s5 (iq_hI how) (nI (ag_mxn nm k)) (nI k) t (nI v)) _
          unfold m_Rf_layNames_B90
          rw [iq_sshr_b (by omega), ao_b0 (fun z => v1 ((ht v (by omega)).mp z)), if_neg (by decide)]
          exact ao_inl rfl
        · rintro y rfl
          unfold m_Rf_layNames_J131 m_Rf_layNames_J132
          rw [ao_gdn (by omega) (by omega)]
          refine ao_let ?_
          have fin : ∀ e, e < k + 1 → (aw_sI s5 14 k (nI v)).1 14 e = ao_o (nm e) := fun e he => by
            by_cases w : e = k
            · rw [w, ao_sI_s, ev]; rfl
            · rw [ao_sI_i w]; exact d5 e (by omega)
          have mx : ag_mxn nm (k + 1) = max (ag_mxn nm k) (v + 1) := by rw [ag_mxn_s, ev]
          rw [nI_1]
          refine ao_if (fun y => ao_let (ao_inr ⟨?_, nI_1 k, ag_one_tr f5 ag_one_s, fin⟩)) (fun y => ao_let (ao_inr ⟨?_, nI_1 k, ag_one_tr f5 ag_one_s, fin⟩))
          · have y := (nI_leI (by omega) (by omega)).mp y
            rw [mx, Nat.max_eq_left y]
          · have y : ¬ v + 1 ≤ ag_mxn nm k := fun z => y ((nI_leI (by omega) (by omega)).mpr z)
            rw [mx, Nat.max_eq_right (show ag_mxn nm k ≤ v + 1 by omega)]
    · have hz : ao_n (ag_P Γ k how 0) (ag_N Γ) = 0 := by
        have h1 := ao_n_mono (X := ag_P Γ k how 0) (Y := fun _ => False) (n := ag_N Γ) (fun n hn z => q ⟨n, hn, z⟩)
        have h2 : ∀ m, ao_n (fun _ => False) m = 0 := fun m => by
          induction m with
          | zero => rfl
          | succ m ih => rw [ao_n_s0 id, ih]
        rw [h2] at h1
        omega
      have ek := n1 (fun n hn z => q ⟨n, hn, z⟩)
      unfold m_Rf_layNames_J132
      rw [hz, if_pos rfl]
      refine ao_let (ao_inr ⟨?_, nI_1 k, f5, fun e he => ?_⟩)
      · rw [ag_mxn_s, ek, Nat.max_eq_left (Nat.zero_le _)]
      · by_cases w : e = k
        · rw [w, ek]; exact z5
        · exact d5 e (by omega)
  · rintro ⟨m, x, s⟩ ⟨e1, e2, f, d⟩
    have e1 : m = nI (ag_mxn nm (ag_X Γ)) := e1
    have e2 : x = nI (ag_X Γ) := e2
    have f : ag_one 14 b s := f
    subst e1 e2
    show ao_ok (m_Rf_layNames_B4 s (iq_hI how) (nI (ag_mxn nm (ag_X Γ))) (nI (ag_X Γ))) _
    unfold m_Rf_layNames_B4
    rw [show (2 : Int32) = nI 2 from rfl, aw_bd_s (ag_get (by omega)), f.2 1 (by omega), B.1.2.2.2.2.2.2.1, if_pos (nI_le (Nat.le_refl _) (by omega))]
    exact ao_inl ⟨rfl, f, d⟩
theorem q_shared {a b : aw_S} (h : iq_P a b) (x y : Int32) : iq_x 14 b (m_Mo_shared a x y) (m_Rf_shared b x y) := by
  unfold m_Mo_shared m_Rf_shared
  rcases iq_so h with ⟨h1, h2⟩ | ⟨Γ, G, s, h1, h2⟩
  · exact iq_xl (iq_isMoved0 (Or.inl h1)) (iq_xlp rfl (iq_xrp h2 iq_x0))
  · have hX := G.1.2.2.2.2.2.2.1
    have e3 := G.2.1.1.2.2.2.1
    have e4 := G.2.2.1.2.2.2.2.2.2.1
    refine iq_xrn (by rw [h2]; decide) ?_
    rcases iq_how y with ⟨how, rfl⟩ | ⟨u0, u1⟩
    · refine iq_xl (iq_isMoved1 h1 how) (iq_xln ao_n10 (iq_xl (iq_by a how) ?_))
      obtain ⟨nm, hnm, r1, r2⟩ := (iq_PA G.2.1 how).2.2
      obtain ⟨⟨r, s'⟩, el, e5, f, d⟩ := iq_layNames G.1 G.2.2 how hnm
      have e5 : r = nI (ag_mxn nm (ag_X Γ)) := e5
      have f : ag_one 14 b s' := f
      have d : ∀ e, e < ag_X Γ → s'.1 14 e = ao_o (nm e) := d
      by_cases q : x = -1
      · refine iq_xlp q (iq_xrp q ?_)
        unfold m_Rf_shared_J20
        refine iq_xr (iq_isHow1 b how) (iq_xrn ao_n10 ?_)
        rw [aw_bd2_s el, if_pos q, e5, r2]
        exact ⟨_, s', rfl, rfl, f⟩
      · refine iq_xln q (iq_xrn q ?_)
        by_cases w : ∃ e, e < ag_X Γ ∧ x = nI e
        · obtain ⟨e, he, rfl⟩ := w
          refine iq_xl (ag_isOne e3 hX he) (iq_xr (iq_exp1 e4 he hX) (iq_xln ao_n10 (iq_xrn ao_n10 ?_)))
          unfold m_Rf_shared_J20
          refine iq_xr (iq_isHow1 b how) (iq_xrn ao_n10 ?_)
          rw [aw_bd2_s el, if_neg q, ao_gdn (by omega) (by omega), ao_gdn (by omega) (by omega), nI_clamp (by omega), r1 e he, d e he]
          exact ⟨_, s', rfl, rfl, f⟩
        · exact iq_xl (ag_isOne0 e3 hX w) (iq_xr (iq_exp0 e4 w hX) (iq_xlp rfl (iq_xrp rfl iq_x0)))
    · refine iq_xl (iq_isMoved0 (Or.inr ⟨u0, u1⟩)) (iq_xlp rfl ?_)
      have J : iq_x 14 b (some (-1)) (m_Rf_shared_J20 b x y) := by
        unfold m_Rf_shared_J20
        exact iq_xr (iq_isHow0 b u0 u1) (iq_xrp rfl iq_x0)
      by_cases q : x = -1
      · exact iq_xrp q J
      · refine iq_xrn q ?_
        by_cases w : ∃ e, e < ag_X Γ ∧ x = nI e
        · obtain ⟨e, he, rfl⟩ := w
          exact iq_xr (iq_exp1 e4 he hX) (iq_xrn ao_n10 J)
        · exact iq_xr (iq_exp0 e4 w hX) (iq_xrp rfl iq_x0)

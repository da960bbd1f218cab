/-! ===== the reference: how many come; the splitting ===== -/
theorem ap_n_two {X : Nat → Prop} {M : Nat} : 2 ≤ ao_n X M ↔ ∃ i j, i < j ∧ j < M ∧ X i ∧ X j := by
  have one : ∀ {M : Nat}, 1 ≤ ao_n X M ↔ ∃ i, i < M ∧ X i := by
    intro M
    induction M with
    | zero => exact ⟨fun q => absurd q (by show ¬ 1 ≤ 0; omega), fun ⟨i, hi, _⟩ => absurd hi (Nat.not_lt_zero _)⟩
    | succ M ih =>
      by_cases h : X M
      · rw [ao_n_s1 h]
        exact ⟨fun _ => ⟨M, by omega, h⟩, fun _ => by omega⟩
      · rw [ao_n_s0 h]
        refine ih.trans ⟨fun ⟨i, hi, q⟩ => ⟨i, by omega, q⟩, fun ⟨i, hi, q⟩ => ⟨i, ?_, q⟩⟩
        refine Nat.lt_of_le_of_ne (by omega) fun z => h (z ▸ q)
  induction M with
  | zero => exact ⟨fun q => absurd q (by show ¬ 2 ≤ 0; omega), fun ⟨i, j, _, hj, _⟩ => absurd hj (Nat.not_lt_zero _)⟩
  | succ M ih =>
    by_cases h : X M
    · rw [ao_n_s1 h]
      refine ⟨fun q => ?_, fun ⟨i, j, hij, hj, qi, qj⟩ => ?_⟩
      · obtain ⟨i, hi, z⟩ := one.mp (show 1 ≤ ao_n X M by omega)
        exact ⟨i, M, hi, by omega, z, h⟩
      · have := one.mpr ⟨i, show i < M by omega, qi⟩
        omega
    · rw [ao_n_s0 h]
      refine ih.trans ⟨fun ⟨i, j, hij, hj, q⟩ => ⟨i, j, hij, by omega, q⟩, fun ⟨i, j, hij, hj, qi, qj⟩ => ⟨i, j, hij, ?_, qi, qj⟩⟩
      exact Nat.lt_of_le_of_ne (by omega) fun z => h (z ▸ qj)
set_option maxHeartbeats 4000000 in
theorem ap_countCome {σ : aw_S} {N : Nat} {nx : Nat → Option Nat} (hN : N ≤ 112) (h14 : σ.1 0 14 = nI N) (h7 : ∀ k, k < 2 * N → σ.1 7 k = ao_o (nx k)) (hb : ∀ k t, k < 2 * N → nx k = some t → t < N) : ao_ok (m_Rf_countCome σ) (fun s => ag_one 8 σ s ∧ ∀ n, n < N → s.1 8 n = nI (ao_n (fun k => nx k = some n) (2 * N))) := by
  unfold m_Rf_countCome
  refine ao_bd (ao_imp (ao_for (Q := fun s => ag_one 8 σ s ∧ ∀ n, n < N → s.1 8 n = nI 0) N (fun k s => s.1 = nI k ∧ ag_one 8 σ s.2 ∧ ∀ n, n < k → s.2.1 8 n = nI 0) (a := 0) ⟨rfl, ag_one_rf, fun n hn => absurd hn (Nat.not_lt_zero _)⟩ (Nat.zero_le _) (by omega) ?_ ?_) ?_)
  · rintro i ⟨x, s⟩ hi ⟨e1, hf, hv'⟩
    have e1 : x = nI i := e1
    subst e1
    show ao_ok (m_Rf_countCome_B2 s (nI i)) _
    unfold m_Rf_countCome_B2
    rw [(congrFun (hf.2 0 (by omega)) 14).trans h14, if_neg (nI_ge hi (by omega)), ao_gdn (by omega) (by omega), nI_clamp (by omega)]
    refine ao_let (ao_let (ao_inr ⟨nI_1 i, ag_one_tr hf ag_one_s, fun n hn => ?_⟩))
    show (aw_sI s 8 i _).1 8 n = _
    by_cases hnk : n = i
    · subst hnk; rw [ao_sI_s]; rfl
    · rw [ao_sI_i hnk]; exact hv' n (by omega)
  · rintro ⟨x, s⟩ ⟨e1, hf, hv'⟩
    have e1 : x = nI N := e1
    subst e1
    show ao_ok (m_Rf_countCome_B2 s (nI N)) _
    unfold m_Rf_countCome_B2
    rw [(congrFun (hf.2 0 (by omega)) 14).trans h14, if_pos (nI_le (Nat.le_refl _) (by omega))]
    exact ao_inl ⟨hf, hv'⟩
  · rintro s ⟨hf, hv⟩
    refine ao_bd (ao_for (Q := fun (s : aw_S) => ao_ok (some s) (fun s => ag_one 8 σ s ∧ ∀ n, n < N → s.1 8 n = nI (ao_n (fun k => nx k = some n) (2 * N)))) (2 * N) (fun i (t : Int32 × aw_S) => t.1 = nI i ∧ ag_one 8 σ t.2 ∧ ∀ n, n < N → t.2.1 8 n = nI (ao_n (fun k => nx k = some n) i)) (a := 0) ⟨rfl, hf, hv⟩ (Nat.zero_le _) (by omega) ?_ ?_)
    · rintro i ⟨x, t⟩ hi ⟨e1, hf, hv⟩
      have e1 : x = nI i := e1
      subst e1
      have hf : ag_one 8 σ t := hf
      have hv : ∀ n, n < N → t.1 8 n = nI (ao_n (fun k => nx k = some n) i) := hv
      show ao_ok (m_Rf_countCome_B25 t (nI i)) _
      unfold m_Rf_countCome_B25
      rw [(congrFun (hf.2 0 (by omega)) 14).trans h14, ao_mul2, if_neg (nI_ge hi (by omega)), ao_gdn (by omega) (by omega), nI_clamp (by omega), (congrFun (hf.2 7 (by omega)) i).trans (h7 i hi)]
      cases q : nx i with
      | none =>
        refine ao_ifp rfl (ao_let (ao_inr ⟨nI_1 i, hf, fun n hn => ?_⟩))
        show t.1 8 n = _
        rw [hv n hn, ao_n_s0 (X := fun k => nx k = some n) (fun z => by rw [q] at z; cases z)]
      | some u =>
        have hu := hb i u hi q
        refine ao_ifn (ao_m1 (by omega)) ?_
        rw [show ao_o (some u) = nI u from rfl, ao_gdn (by omega) (by omega), ao_gdn (by omega) (by omega), ao_gdn (by omega) (by omega), nI_clamp (by omega), hv u hu, nI_1]
        refine ao_let (ao_let (ao_inr ⟨nI_1 i, ag_one_tr hf ag_one_s, fun n hn => ?_⟩))
        show (aw_sI t 8 u _).1 8 n = _
        by_cases hnu : n = u
        · subst hnu
          rw [ao_sI_s, ao_n_s1 (X := fun k => nx k = some n) q]
        · rw [ao_sI_i hnu, hv n hn, ao_n_s0 (X := fun k => nx k = some n) (fun z => by rw [q] at z; cases z; exact hnu rfl)]
    · rintro ⟨x, t⟩ ⟨e1, hf, hv⟩
      have e1 : x = nI (2 * N) := e1
      subst e1
      show ao_ok (m_Rf_countCome_B25 t (nI (2 * N))) _
      unfold m_Rf_countCome_B25
      rw [(congrFun (hf.2 0 (by omega)) 14).trans h14, ao_mul2, if_pos (nI_le (Nat.le_refl _) (by omega))]
      exact ao_inl (ao_some ⟨hf, hv⟩)
theorem ao_n_le2 {X : Nat → Prop} {a b : Nat} (h : a ≤ b) : ao_n X a ≤ ao_n X b := by
  induction b with
  | zero => rw [show a = 0 by omega]; exact Nat.le_refl _
  | succ b ih =>
    by_cases q : a = b + 1
    · rw [q]; exact Nat.le_refl _
    · refine Nat.le_trans (ih (by omega)) ?_
      show _ ≤ ao_n X b + _
      omega
theorem ap_sp_le {Ψ : ap_T} (hw : ap_wf Ψ) {k : Nat} (hk : k ≤ 2 * ap_N0 Ψ) : (ap_sp (ap_N0 Ψ) (ap_x0 Ψ) k).1 ≤ 109 := by
  obtain ⟨a1, a2, _⟩ := ap_sp_i (N0 := ap_N0 Ψ) (nx0 := ap_x0 Ψ) (fun k t hk e => ap_x0_lt hw hk e) k hk
  have h1 := ap_ask_le hw (Nat.le_refl (ap_B Ψ))
  have h2 := ap_two_le (X := fun n => ap_x0 Ψ (2 * n + 1) ≠ none) (ap_N0 Ψ)
  have h3 := ap_N0_le hw
  have h4 := hw.2.1
  have h5 := ao_n_le2 (X := fun j => ap_x0 Ψ (2 * (j / 2) + 1) ≠ none) hk
  unfold ap_N0 at h2 h3 h5 a1 a2 ⊢
  omega
theorem ap_x0_both {Ψ : ap_T} (hw : ap_wf Ψ) {n : Nat} (hn : n < ap_N0 Ψ) (h : ap_x0 Ψ (2 * n + 1) ≠ none) : ap_x0 Ψ (2 * n) ≠ none := by
  by_cases h0 : n = 0
  · subst h0; exact absurd (ap_x0_0 Ψ).2 h
  · rcases ap_li_ex hw (n := n) (by omega) hn with ⟨b, s, _, _, _, _, _, hl⟩ | ⟨b, hb, _, _, hl⟩
    · exact absurd (ap_x0_s (by omega) hl).2 h
    · obtain ⟨x1, x2⟩ := ap_x0_e (show 0 < n by omega) hl
      intro z
      rw [x1, Option.map_eq_none_iff] at z
      refine h ?_
      rw [x2]
      rcases hw.2.2.2.2.2.2.2.1 b hb with y | y | y
      · rw [y.2.2.2, z, if_pos rfl]
      · obtain ⟨t, _, et⟩ := y.2.2.1; rw [et] at z; cases z
      · rw [y.2.2.2, z, if_pos rfl]
/-- the splitting, at place k -/
def ap_SI (σ s : aw_S) (Ψ : ap_T) (k : Nat) : Prop :=
  ap_fg σ s ∧ s.1 10 = σ.1 10 ∧ s.1 0 14 = nI (ap_sp (ap_N0 Ψ) (ap_x0 Ψ) k).1 ∧ (∀ m, m < (ap_sp (ap_N0 Ψ) (ap_x0 Ψ) k).1 → ap_nd s Ψ m) ∧ ∀ m, m < 2 * (ap_sp (ap_N0 Ψ) (ap_x0 Ψ) k).1 → s.1 7 m = ao_o ((ap_sp (ap_N0 Ψ) (ap_x0 Ψ) k).2 m)
set_option maxHeartbeats 4000000 in
theorem ap_split1 {σ s : aw_S} {Ψ : ap_T} (hw : ap_wf Ψ) (hc : ∀ t, t < ap_N0 Ψ → σ.1 8 t = nI (ao_n (fun k => ap_x0 Ψ k = some t) (2 * ap_N0 Ψ))) {n k : Nat} (hn : n < ap_N0 Ψ) (hk : k / 2 = n) (hx : ap_x0 Ψ (2 * n + 1) ≠ none) (hI : ap_SI σ s Ψ k) (v1 : Int32) : ao_ok (m_Rf_split_B33 s v1 (nI n) (nI k)) (Sum.elim (fun _ => False) (fun t => t.1 = nI (k + 1) ∧ ap_SI σ t.2 Ψ (k + 1))) := by
  obtain ⟨f, h10, h14, hd, h7⟩ := hI
  have h77 := ap_N0_le hw
  have hle := ap_sp_le hw (show k ≤ 2 * ap_N0 Ψ by omega)
  have hle' := ap_sp_le hw (show k + 1 ≤ 2 * ap_N0 Ψ by omega)
  obtain ⟨a1, a2, a3, a4, a5, a6⟩ := ap_sp_i (N0 := ap_N0 Ψ) (nx0 := ap_x0 Ψ) (fun k t hk e => ap_x0_lt hw hk e) k (by omega)
  obtain ⟨t, et⟩ : ∃ t, ap_x0 Ψ k = some t := by
    rcases (show k = 2 * n ∨ k = 2 * n + 1 by omega) with q | q
    · have := ap_x0_both hw hn hx
      rw [q]
      cases z : ap_x0 Ψ (2 * n) with
      | none => exact absurd z this
      | some t => exact ⟨t, rfl⟩
    · rw [q]
      cases z : ap_x0 Ψ (2 * n + 1) with
      | none => exact absurd z hx
      | some t => exact ⟨t, rfl⟩
  have ht := ap_x0_lt hw (show k < 2 * ap_N0 Ψ by omega) et
  have e7k : s.1 7 k = nI t := by rw [h7 k (by omega), a3 k (Nat.le_refl _) (by omega), et]; rfl
  have hx' : ap_x0 Ψ (2 * (k / 2) + 1) ≠ none := by rw [hk]; exact hx
  have hcome : s.1 8 t = nI (ao_n (fun k => ap_x0 Ψ k = some t) (2 * ap_N0 Ψ)) := (congrFun (f.2.1 8 (by omega) (by omega) (by omega) (by omega) (by omega) (by omega)) t).trans (hc t ht.2)
  have hcl := ao_n_le (fun k => ap_x0 Ψ k = some t) (2 * ap_N0 Ψ)
  unfold m_Rf_split_B33
  rw [ao_mul2, show (2 : Int32) = nI 2 from rfl, nI_add, if_neg (nI_ge (by omega) (by omega)), ao_gdn (by omega) (by omega), nI_clamp (by omega), e7k, ao_gdn (by omega) (by omega), nI_clamp (by omega), hcome]
  by_cases q : ap_ct (ap_N0 Ψ) (ap_x0 Ψ) t
  · have h2 : 2 ≤ ao_n (fun k => ap_x0 Ψ k = some t) (2 * ap_N0 Ψ) := ap_n_two.mpr q
    have es := ap_sp_s1 (N0 := ap_N0 Ψ) (nx0 := ap_x0 Ψ) et ⟨hx', q⟩
    rw [es] at hle'
    unfold ap_SI
    rw [es]
    generalize hP : ap_sp (ap_N0 Ψ) (ap_x0 Ψ) k = P at h14 hd h7 hle hle' a1 a2 a3 a4 a5 a6 ⊢
    obtain ⟨N, nx⟩ := P
    have h14 : s.1 0 14 = nI N := h14
    have hd : ∀ m, m < N → ap_nd s Ψ m := hd
    have h7 : ∀ m, m < 2 * N → s.1 7 m = ao_o (nx m) := h7
    have hle : N ≤ 109 := hle
    have a1 : ap_N0 Ψ ≤ N := a1
    have hl : ap_li Ψ N = none := ap_li_none (Or.inr a1)
    refine ao_ifp (nI_le h2 (by omega)) (ao_bde (ap_layNode (n := N) (by omega) h14 _ _ _) ?_)
    generalize hu : aw_sI (aw_sI (aw_sI (aw_sI (aw_sI (aw_sI s 4 N 0) 5 N (-1)) 6 N (-1)) 7 (2 * N) (-1)) 7 (2 * N + 1) (-1)) 0 14 (nI (N + 1)) = u
    have u14 : u.1 0 14 = nI (N + 1) := by rw [← hu]; exact ao_sI_s _ _ _ _
    have uf : ap_fg s u := by rw [← hu]; exact ap_fg_tr (ap_fg_tr (ap_fg_tr (ap_fg_tr (ap_fg_tr (ap_fg_s (by omega)) (ap_fg_s (by omega))) (ap_fg_s (by omega))) (ap_fg_s (by omega))) (ap_fg_s (by omega))) ap_fg_n
    have u10 : u.1 10 = s.1 10 := by rw [← hu, ao_sI_o (by omega), ao_sI_o (by omega), ao_sI_o (by omega), ao_sI_o (by omega), ao_sI_o (by omega), ao_sI_o (by omega)]
    have u7 : ∀ m, u.1 7 m = if m = 2 * N + 1 then -1 else if m = 2 * N then -1 else s.1 7 m := by
      intro m
      rw [← hu, ao_sI_o (by omega)]
      by_cases q1 : m = 2 * N + 1
      · rw [q1, ao_sI_s, if_pos rfl]
      · rw [ao_sI_i q1, if_neg q1]
        by_cases q2 : m = 2 * N
        · rw [q2, ao_sI_s, if_pos rfl]
        · rw [ao_sI_i q2, if_neg q2, ao_sI_o (by omega), ao_sI_o (by omega), ao_sI_o (by omega)]
    have ud : ∀ m, m < N + 1 → ap_nd u Ψ m := by
      intro m hm
      have e4 : u.1 4 = (aw_sI s 4 N 0).1 4 := by rw [← hu, ao_sI_o (by omega), ao_sI_o (by omega), ao_sI_o (by omega), ao_sI_o (by omega), ao_sI_o (by omega)]
      have e5 : u.1 5 = (aw_sI (aw_sI s 4 N 0) 5 N (-1)).1 5 := by rw [← hu, ao_sI_o (by omega), ao_sI_o (by omega), ao_sI_o (by omega), ao_sI_o (by omega)]
      have e6 : u.1 6 = (aw_sI (aw_sI (aw_sI s 4 N 0) 5 N (-1)) 6 N (-1)).1 6 := by rw [← hu, ao_sI_o (by omega), ao_sI_o (by omega), ao_sI_o (by omega)]
      unfold ap_nd
      rw [e4, e5, e6]
      by_cases qm : m = N
      · subst qm
        rw [ao_sI_s, ao_sI_s, ao_sI_s, hl]
        exact ⟨rfl, rfl, rfl⟩
      · simp only [ao_sI_i qm]
        exact hd m (by omega)
    clear hu
    rw [ao_gdn (by omega) (by omega), u14, show nI 2 * nI (N + 1) - nI 2 = nI (2 * N) from by rw [pk_mul, pk_sub (by omega)]; rfl, ao_gdn (by omega) (by omega), nI_clamp (by omega)]
    have u7k : u.1 7 k = nI t := by rw [u7, if_neg (by omega), if_neg (by omega)]; exact e7k
    rw [u7k]
    refine ao_let ?_
    have w14 : (aw_sI u 7 (2 * N) (nI t)).1 0 14 = nI (N + 1) := (congrFun (ao_sI_o (by omega)) 14).trans u14
    rw [ao_gdn (by omega) (by omega), w14, show nI (N + 1) - 1 = nI N from nI_pred N]
    refine ao_let (ao_let (ao_inr ⟨nI_1 k, ap_fg_tr (ap_fg_tr f uf) (ap_fg_tr (ap_fg_s (by omega)) (ap_fg_s (by omega))), ?_, ?_, fun m hm => ?_, fun m hm => ?_⟩))
    · show (aw_sI (aw_sI u 7 (2 * N) _) 7 k _).1 10 = _
      rw [ao_sI_o (by omega), ao_sI_o (by omega), u10, h10]
    · exact (congrFun (ao_sI_o (by omega)) 14).trans w14
    · have := ud m hm
      unfold ap_nd at this ⊢
      show (aw_sI (aw_sI u 7 (2 * N) _) 7 k _).1 4 m = _ ∧ (aw_sI (aw_sI u 7 (2 * N) _) 7 k _).1 5 m = _ ∧ (aw_sI (aw_sI u 7 (2 * N) _) 7 k _).1 6 m = _
      rw [ao_sI_o (show (4 : Nat) ≠ 7 by omega), ao_sI_o (show (4 : Nat) ≠ 7 by omega), ao_sI_o (show (5 : Nat) ≠ 7 by omega), ao_sI_o (show (5 : Nat) ≠ 7 by omega), ao_sI_o (show (6 : Nat) ≠ 7 by omega), ao_sI_o (show (6 : Nat) ≠ 7 by omega)]
      exact this
    · have hm : m < 2 * (N + 1) := hm
      show (aw_sI (aw_sI u 7 (2 * N) _) 7 k _).1 7 m = ao_o (if m = k then some N else if m = 2 * N then some t else if m = 2 * N + 1 then none else nx m)
      by_cases qk : m = k
      · subst qk; rw [ao_sI_s, if_pos rfl]; rfl
      · rw [ao_sI_i qk, if_neg qk]
        by_cases q2 : m = 2 * N
        · rw [q2, ao_sI_s, if_pos rfl]; rfl
        · rw [ao_sI_i q2, if_neg q2, u7]
          by_cases q3 : m = 2 * N + 1
          · rw [if_pos q3, if_pos q3]; rfl
          · rw [if_neg q3, if_neg q2, if_neg q3]; exact h7 m (by omega)
  · have h2 : ¬ 2 ≤ ao_n (fun k => ap_x0 Ψ k = some t) (2 * ap_N0 Ψ) := fun z => q (ap_n_two.mp z)
    have es := ap_sp_s0 (N0 := ap_N0 Ψ) (nx0 := ap_x0 Ψ) (k := k) (fun t' e' hc' => by rw [et] at e'; cases e'; exact q hc'.2)
    unfold ap_SI
    rw [es]
    exact ao_ifn (nI_ge (by omega) (by omega)) (ao_let (ao_inr ⟨nI_1 k, f, h10, h14, hd, h7⟩))
set_option maxHeartbeats 4000000 in
theorem ap_split {σ : aw_S} {Ψ : ap_T} (hw : ap_wf Ψ) (h14 : σ.1 0 14 = nI (ap_N0 Ψ)) (hd : ∀ m, m < ap_N0 Ψ → ap_nd σ Ψ m) (h7 : ∀ m, m < 2 * ap_N0 Ψ → σ.1 7 m = ao_o (ap_x0 Ψ m)) (hc : ∀ t, t < ap_N0 Ψ → σ.1 8 t = nI (ao_n (fun k => ap_x0 Ψ k = some t) (2 * ap_N0 Ψ))) : ao_ok (m_Rf_split σ) (fun s => ap_SI σ s Ψ (2 * ap_N0 Ψ)) := by
  have h77 := ap_N0_le hw
  unfold m_Rf_split
  rw [h14]
  refine ao_let (ao_bd (ao_for (Q := fun (s : aw_S) => ao_ok (some s) (fun s => ap_SI σ s Ψ (2 * ap_N0 Ψ))) (ap_N0 Ψ) (fun n (s : Int32 × aw_S) => s.1 = nI n ∧ ap_SI σ s.2 Ψ (2 * n)) (a := 0) ⟨rfl, ⟨rfl, fun _ _ _ _ _ _ _ => rfl, fun _ _ => rfl⟩, rfl, h14, hd, h7⟩ (Nat.zero_le _) (by omega) ?_ ?_))
  · rintro n ⟨x, s⟩ hn ⟨e1, hI⟩
    have e1 : x = nI n := e1
    subst e1
    have hI : ap_SI σ s Ψ (2 * n) := hI
    obtain ⟨a1, a2, a3, a4, a5, a6⟩ := ap_sp_i (N0 := ap_N0 Ψ) (nx0 := ap_x0 Ψ) (fun k t hk e => ap_x0_lt hw hk e) (2 * n) (by omega)
    have e7 : s.1 7 (2 * n + 1) = ao_o (ap_x0 Ψ (2 * n + 1)) := by rw [hI.2.2.2.2 (2 * n + 1) (by omega), a3 (2 * n + 1) (by omega) (by omega)]
    show ao_ok (m_Rf_split_B7 s (nI (ap_N0 Ψ)) (nI n)) _
    unfold m_Rf_split_B7
    rw [if_neg (nI_ge hn (by omega)), ao_mul2, nI_1, ao_gdn (by omega) (by omega), nI_clamp (by omega), e7]
    cases q : ap_x0 Ψ (2 * n + 1) with
    | none =>
      have e0 : ap_sp (ap_N0 Ψ) (ap_x0 Ψ) (2 * n + 1) = ap_sp (ap_N0 Ψ) (ap_x0 Ψ) (2 * n) := ap_sp_s0 (fun t _ hc' => hc'.1 (by rw [show 2 * n / 2 = n by omega]; exact q))
      have e1 : ap_sp (ap_N0 Ψ) (ap_x0 Ψ) (2 * n + 1 + 1) = ap_sp (ap_N0 Ψ) (ap_x0 Ψ) (2 * n + 1) := ap_sp_s0 (fun t z _ => by rw [q] at z; cases z)
      refine ao_ifp rfl (ao_let (ao_inr ⟨nI_1 n, ?_⟩))
      have hI' := hI
      unfold ap_SI at hI' ⊢
      rw [show 2 * (n + 1) = 2 * n + 1 + 1 by omega, e1, e0]
      exact hI'
    | some t =>
      have hx : ap_x0 Ψ (2 * n + 1) ≠ none := by rw [q]; simp
      have ht := ap_x0_lt hw (show 2 * n + 1 < 2 * ap_N0 Ψ by omega) q
      refine ao_ifn (ao_m1 (by omega)) (ao_let (ao_bd (ao_imp (ao_for (Q := fun s => ap_SI σ s Ψ (2 * n + 2)) (2 * n + 2) (fun k (t : Int32 × aw_S) => t.1 = nI k ∧ 2 * n ≤ k ∧ ap_SI σ t.2 Ψ k) (a := 2 * n) ⟨rfl, Nat.le_refl _, hI⟩ (by omega) (by omega) ?_ ?_) ?_)))
      · rintro k ⟨y, u⟩ hk ⟨e1, hlo, hu⟩
        have e1 : y = nI k := e1
        subst e1
        show ao_ok (m_Rf_split_B33 u (nI (ap_N0 Ψ)) (nI n) (nI k)) _
        refine ao_imp (ap_split1 hw hc hn (by omega) hx hu _) (fun r hr => ?_)
        cases r with
        | inl r => exact hr.elim
        | inr r => exact ⟨hr.1, by omega, hr.2⟩
      · rintro ⟨y, u⟩ ⟨e1, hlo, hu⟩
        have e1 : y = nI (2 * n + 2) := e1
        subst e1
        show ao_ok (m_Rf_split_B33 u (nI (ap_N0 Ψ)) (nI n) (nI (2 * n + 2))) _
        unfold m_Rf_split_B33
        rw [ao_mul2, show (2 : Int32) = nI 2 from rfl, nI_add, if_pos (nI_le (Nat.le_refl _) (by omega))]
        exact ao_inl hu
      · intro u hu
        exact ao_let (ao_inr ⟨nI_1 n, hu⟩)
  · rintro ⟨x, s⟩ ⟨e1, hI⟩
    have e1 : x = nI (ap_N0 Ψ) := e1
    subst e1
    show ao_ok (m_Rf_split_B7 s (nI (ap_N0 Ψ)) (nI (ap_N0 Ψ))) _
    unfold m_Rf_split_B7
    rw [if_pos (nI_le (Nat.le_refl _) (by omega))]
    exact ao_inl (ao_some hI)

/-! ===== the class: one edge split ===== -/
set_option maxHeartbeats 4000000 in
theorem ap_splitA1 {σ s : aw_S} {Ψ : ap_T} (hw : ap_wf Ψ) {n k c : Nat} (hn : n < ap_N0 Ψ) (hck : (c = 36 ∧ k = 2 * n) ∨ (c = 37 ∧ k = 2 * n + 1)) (hx : ap_x0 Ψ (2 * n + 1) ≠ none) (hI : ap_SA σ s Ψ k) : ∃ t, ap_x0 Ψ k = some t ∧ s.1 c n = nI t ∧ ao_ok (m_Gr_splitIfOthersCome s (nI t)) (fun r => ap_SA σ (aw_sI r.2 c n r.1) Ψ (k + 1)) := by
  have h77 := ap_N0_le hw
  have hle := ap_sp_le hw (show k ≤ 2 * ap_N0 Ψ by omega)
  have hle' := ap_sp_le hw (show k + 1 ≤ 2 * ap_N0 Ψ by omega)
  obtain ⟨a1, a2, a3, a4, a5, a6⟩ := ap_sp_i (N0 := ap_N0 Ψ) (nx0 := ap_x0 Ψ) (fun k t hk e => ap_x0_lt hw hk e) k (by omega)
  obtain ⟨t, et⟩ : ∃ t, ap_x0 Ψ k = some t := by
    rcases (show k = 2 * n ∨ k = 2 * n + 1 by omega) with q | q
    · have := ap_x0_both hw hn hx
      rw [q]
      cases z : ap_x0 Ψ (2 * n) with
      | none => exact absurd z this
      | some t => exact ⟨t, rfl⟩
    · rw [q]
      cases z : ap_x0 Ψ (2 * n + 1) with
      | none => exact absurd z hx
      | some t => exact ⟨t, rfl⟩
  have ht := ap_x0_lt hw (show k < 2 * ap_N0 Ψ by omega) et
  have ek : (ap_sp (ap_N0 Ψ) (ap_x0 Ψ) k).2 k = some t := (a3 k (Nat.le_refl _) (by omega)).trans et
  have ecn : s.1 c n = nI t := by
    rcases hck with ⟨q1, q2⟩ | ⟨q1, q2⟩
    · rw [q1, (hI.2.2.2 n (by omega)).1, ← q2, ek]; rfl
    · rw [q1, (hI.2.2.2 n (by omega)).2, ← q2, ek]; rfl
  have come := ap_come hw (show k ≤ 2 * ap_N0 Ψ by omega) hI ht.2
  have hx' : ap_x0 Ψ (2 * (k / 2) + 1) ≠ none := by rw [show k / 2 = n by omega]; exact hx
  have hcl := ao_n_le (fun j => ap_x0 Ψ j = some t) (2 * ap_N0 Ψ)
  refine ⟨t, et, ecn, ?_⟩
  unfold m_Gr_splitIfOthersCome
  refine ao_bde come ?_
  by_cases q : ap_ct (ap_N0 Ψ) (ap_x0 Ψ) t
  · have h2 : 2 ≤ ao_n (fun k => ap_x0 Ψ k = some t) (2 * ap_N0 Ψ) := ap_n_two.mpr q
    have es := ap_sp_s1 (N0 := ap_N0 Ψ) (nx0 := ap_x0 Ψ) et ⟨hx', q⟩
    rw [es] at hle'
    obtain ⟨g, h13, hd, hr⟩ := hI
    unfold ap_SA
    rw [es]
    generalize (ap_sp (ap_N0 Ψ) (ap_x0 Ψ) k).1 = N at h13 hd hr hle hle' a1 ⊢
    generalize (ap_sp (ap_N0 Ψ) (ap_x0 Ψ) k).2 = nx at hr ⊢
    have hl : ap_li Ψ N = none := ap_li_none (Or.inr a1)
    refine ao_ifp (show (2 : Int32) ≤ nI _ from nI_le (a := 2) h2 (by omega)) ?_
    refine ao_bd2 (ao_imp (ap_add (n := N) (by omega) h13) ?_)
    rintro ⟨x, s2⟩ ⟨e, g2, n2, o2, k2, z2, r2⟩
    have e : x = nI N := e
    subst e
    have g2 : ap_ga s s2 := g2
    have n2 : s2.1 24 13 = nI (N + 1) := n2
    have o2 : ∀ c m, 29 ≤ c → c ≤ 40 → m ≠ N → s2.1 c m = s.1 c m := o2
    have k2 : s2.1 29 N = 0 := k2
    have z2 : ∀ c, 30 ≤ c → c ≤ 37 → s2.1 c N = -1 := z2
    refine ao_ifn (ao_m1 (by omega)) ?_
    show ao_ok (aw_gd (vp_in (nI N) 128) (aw_lt (aw_sI s2 36 (nI N).toNatClampNeg (nI t)) (fun s9 => some (nI N, s9)))) _
    rw [ao_gdn (by omega) (by omega), nI_clamp (show N < 2 ^ 31 by omega)]
    have E : ∀ c', 29 ≤ c' → c' ≤ 35 → (aw_sI (aw_sI s2 36 N (nI t)) c n (nI N)).1 c' = s2.1 c' := fun c' h1 h2 => (ao_sI_o (by omega)).trans (ao_sI_o (by omega))
    have T : ∀ c' m, m ≠ n → (aw_sI (aw_sI s2 36 N (nI t)) c n (nI N)).1 c' m = (aw_sI s2 36 N (nI t)).1 c' m := fun c' m hm => ao_sI_i hm
    have U : ∀ c' m, 36 ≤ c' → c' ≤ 37 → m ≠ N → (aw_sI s2 36 N (nI t)).1 c' m = s.1 c' m := fun c' m h1 h2 hm => (ao_sI_i hm).trans (o2 c' m (by omega) (by omega) hm)
    have hnN : n ≠ N := by omega
    refine ao_let (ao_some ⟨ap_ga_tr g (ap_ga_tr g2 (ap_ga_tr (ap_ga_s (by omega)) (ap_ga_s (by omega)))), (congrFun (ao_sI_o (by omega)) 13).trans ((congrFun (ao_sI_o (by omega)) 13).trans n2), fun m hm => ?_, fun m hm => ?_⟩)
    · have hm : m < N + 1 := hm
      show ap_na (aw_sI (aw_sI s2 36 N (nI t)) c n (nI N)) Ψ m
      by_cases qm : m = N
      · rw [qm]
        unfold ap_na
        rw [hl]
        exact ⟨(congrFun (E 29 (by omega) (by omega)) N).trans k2, (congrFun (E 30 (by omega) (by omega)) N).trans (z2 30 (by omega) (by omega)), (congrFun (E 31 (by omega) (by omega)) N).trans (z2 31 (by omega) (by omega)), (congrFun (E 32 (by omega) (by omega)) N).trans (z2 32 (by omega) (by omega)), (congrFun (E 33 (by omega) (by omega)) N).trans (z2 33 (by omega) (by omega)), (congrFun (E 34 (by omega) (by omega)) N).trans (z2 34 (by omega) (by omega)), (congrFun (E 35 (by omega) (by omega)) N).trans (z2 35 (by omega) (by omega))⟩
      · exact ap_na_fr (hd m (by omega)) (fun c' h1 h2 => (congrFun (E c' h1 h2) m).trans (o2 c' m (by omega) (by omega) qm))
    · have hm : m < N + 1 := hm
      show (aw_sI (aw_sI s2 36 N (nI t)) c n (nI N)).1 36 m = ao_o (if 2 * m = k then some N else if 2 * m = 2 * N then some t else if 2 * m = 2 * N + 1 then none else nx (2 * m)) ∧ (aw_sI (aw_sI s2 36 N (nI t)) c n (nI N)).1 37 m = ao_o (if 2 * m + 1 = k then some N else if 2 * m + 1 = 2 * N then some t else if 2 * m + 1 = 2 * N + 1 then none else nx (2 * m + 1))
      by_cases qm : m = N
      · rw [qm, T 36 N hnN.symm, T 37 N hnN.symm, ao_sI_s, ao_sI_o (show (37 : Nat) ≠ 36 by omega), z2 37 (by omega) (by omega), if_neg (by omega), if_pos rfl, if_neg (by omega), if_neg (by omega), if_pos rfl]
        exact ⟨rfl, rfl⟩
      · by_cases qn : m = n
        · rw [qn]
          have hrn := hr n (by omega)
          rcases hck with ⟨q1, q2⟩ | ⟨q1, q2⟩
          · rw [q1, ao_sI_s, ao_sI_o (show (37 : Nat) ≠ 36 by omega), U 37 n (by omega) (by omega) hnN, if_pos q2.symm, if_neg (by omega), if_neg (by omega), if_neg (by omega)]
            exact ⟨rfl, hrn.2⟩
          · rw [q1, ao_sI_s, ao_sI_o (show (36 : Nat) ≠ 37 by omega), U 36 n (by omega) (by omega) hnN, if_neg (by omega), if_neg (by omega), if_neg (by omega), if_pos q2.symm]
            exact ⟨hrn.1, rfl⟩
        · rw [T 36 m qn, T 37 m qn, U 36 m (by omega) (by omega) qm, U 37 m (by omega) (by omega) qm, if_neg (by omega), if_neg (by omega), if_neg (by omega), if_neg (by omega), if_neg (by omega), if_neg (by omega)]
          exact hr m (by omega)
  · have h2 : ¬ 2 ≤ ao_n (fun k => ap_x0 Ψ k = some t) (2 * ap_N0 Ψ) := fun z => q (ap_n_two.mp z)
    have es := ap_sp_s0 (N0 := ap_N0 Ψ) (nx0 := ap_x0 Ψ) (k := k) (fun t' e' hc' => by rw [et] at e'; cases e'; exact q hc'.2)
    have same : aw_sI s c n (nI t) = s := by
      refine Prod.ext (funext fun a => funext fun i => ?_) rfl
      rw [ao_sI]
      by_cases z : a = c ∧ i = n
      · rw [if_pos z, z.1, z.2, ecn]
      · rw [if_neg z]
    refine ao_ifn (show ¬ (2 : Int32) ≤ nI _ from nI_ge (b := 2) (by omega) (by omega)) (ao_some ?_)
    show ap_SA σ (aw_sI s c n (nI t)) Ψ (k + 1)
    rw [same]
    unfold ap_SA at hI ⊢
    rw [es]
    exact hI

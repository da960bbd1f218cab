/-! ===== the class: facts by bits ===== -/
theorem ag_FFt {s : aw_S} {N : Nat} {nx : Nat → Option Nat} (hT : ao_tp N nx) {o l g p : Nat → Int32} (ht : ag_told s N o l g p) (d all : Int32) (G : Prop) (e : Nat) (Y : Nat → Prop) {n : Nat} (hn : n < N) : ao_FF s N nx d all G e Y n ↔ (ao_t (o n) e ∨ (ao_t (l n) e ∧ ((G ∧ ao_t all e ∧ ∀ m ∈ ao_nb N nx d n, ao_t (g m) e ∨ ao_t (p m) e ∧ Y m) ∨ (¬ G ∧ ∃ m, m ∈ ao_nb N nx d n ∧ (ao_t (g m) e ∨ ao_t (p m) e ∧ Y m))))) := by
  have hgp : ∀ m, m ∈ ao_nb N nx d n → (ao_gp s e m (Y m) ↔ (ao_t (g m) e ∨ ao_t (p m) e ∧ Y m)) := fun m hm => by
    obtain ⟨_, _, h3, h4⟩ := ht m (ao_nb_lt hT hn hm)
    unfold ao_gp; rw [h3, h4]
  unfold ao_FF
  obtain ⟨h1, h2, _⟩ := ht n hn
  rw [h1, h2]
  refine or_congr Iff.rfl (and_congr Iff.rfl (or_congr (and_congr Iff.rfl (and_congr Iff.rfl ⟨fun q m hm => (hgp m hm).mp (q m hm), fun q m hm => (hgp m hm).mpr (q m hm)⟩)) (and_congr Iff.rfl ⟨fun ⟨m, hm, q⟩ => ⟨m, hm, (hgp m hm).mp q⟩, fun ⟨m, hm, q⟩ => ⟨m, hm, (hgp m hm).mpr q⟩⟩)))
theorem ag_solveG {s : aw_S} {N : Nat} {nx : Nat → Option Nat} (hT : ao_TA s N nx) {o l g p : Nat → Int32} (ht : ag_told s N o l g p) {a : Nat} (ha : a ∉ [24, 36, 37, 38, 39, 43, 44, 45, 46]) (d all : Int32) (hown : ∀ n, n < N → ∀ e, e < 32 → ao_t (o n) e → ao_t all e) :
    ao_ok (m_Fl_solve s a all d 1) (fun s' => ao_ch [a] [] s s' ∧ s'.2 = s.2 ∧ ∀ e, e < 32 → ∀ F : (Nat → Prop) → Nat → Prop, (∀ Y n, n < N → ((ao_t (o n) e ∨ (ao_t (l n) e ∧ ao_t all e ∧ ∀ m ∈ ao_nb N nx d n, ao_t (g m) e ∨ ao_t (p m) e ∧ Y m)) ↔ F Y n)) → ∀ n, n < N → (ao_t (s'.1 a n) e ↔ ao_G N F n)) := by
  refine ao_imp (ao_solve hT ha (g := 1) (fun _ n hn e he q => hown n hn e he (by rw [(ht n hn).1] at q; exact q))) (fun s' hs => ⟨hs.1, hs.2.1, fun e he F hF => ?_⟩)
  refine ao_gf_G ((hs.2.2 e he).1 (by decide)) (fun Y n hn => (ag_FFt hT.1 ht d all True e Y hn).trans (Iff.trans ?_ (hF Y n hn)))
  refine or_congr Iff.rfl (and_congr Iff.rfl ⟨fun q => q.elim (fun z => z.2) (fun z => absurd trivial z.1), fun q => Or.inl ⟨trivial, q⟩⟩)
theorem ag_solveL {s : aw_S} {N : Nat} {nx : Nat → Option Nat} (hT : ao_TA s N nx) {o l g p : Nat → Int32} (ht : ag_told s N o l g p) {a : Nat} (ha : a ∉ [24, 36, 37, 38, 39, 43, 44, 45, 46]) (d all : Int32) :
    ao_ok (m_Fl_solve s a all d 0) (fun s' => ao_ch [a] [] s s' ∧ s'.2 = s.2 ∧ ∀ e, e < 32 → ∀ F : (Nat → Prop) → Nat → Prop, (∀ Y n, n < N → ((ao_t (o n) e ∨ (ao_t (l n) e ∧ ∃ m, m ∈ ao_nb N nx d n ∧ (ao_t (g m) e ∨ ao_t (p m) e ∧ Y m))) ↔ F Y n)) → ∀ n, n < N → (ao_t (s'.1 a n) e ↔ ao_L N F n)) := by
  refine ao_imp (ao_solve hT ha (g := 0) (fun q => absurd rfl q)) (fun s' hs => ⟨hs.1, hs.2.1, fun e he F hF => ?_⟩)
  refine ao_lf_L ((hs.2.2 e he).2 rfl) (fun Y n hn => (ag_FFt hT.1 ht d all False e Y hn).trans (Iff.trans ?_ (hF Y n hn)))
  refine or_congr Iff.rfl (and_congr Iff.rfl ⟨fun q => q.elim (fun z => z.1.elim) (fun z => z.2), fun q => Or.inr ⟨not_false, q⟩⟩)
theorem ao_G_and {N : Nat} {F : (Nat → Prop) → Nat → Prop} {c : Prop} {n : Nat} (hn : n < N) : ao_G N (fun Y n => c ∧ F Y n) n ↔ c ∧ ao_G N F n :=
  ⟨fun ⟨Y, hY, hy⟩ => ⟨(hY n hn hy).1, Y, fun m hm q => (hY m hm q).2, hy⟩, fun ⟨hc, Y, hY, hy⟩ => ⟨Y, fun m hm q => ⟨hc, hY m hm q⟩, hy⟩⟩
theorem ao_L_and {N : Nat} {F : (Nat → Prop) → Nat → Prop} {c : Prop} {n : Nat} (hn : n < N) (hX : ao_L N F n → True) : ao_L N (fun Y n => c ∧ F Y n) n ↔ c ∧ ao_L N F n := by
  refine ⟨fun h => ?_, fun ⟨hc, h⟩ Y hY => h Y (fun m hm q => hY m hm ⟨hc, q⟩)⟩
  by_cases hc : c
  · exact ⟨hc, fun Y hY => h Y (fun m hm q => hY m hm q.2)⟩
  · exact absurd (h (fun _ => False) (fun m hm q => hc q.1)) id
theorem ao_L_c {N : Nat} {F F' : (Nat → Prop) → Nat → Prop} (h : ∀ Y n, n < N → (F Y n ↔ F' Y n)) (n : Nat) : ao_L N F n ↔ ao_L N F' n :=
  ⟨fun q Y hY => q Y (fun m hm z => hY m hm ((h Y m hm).mp z)), fun q Y hY => q Y (fun m hm z => hY m hm ((h Y m hm).mpr z))⟩
/-- a row of bits, one for each expression -/
def ag_bt (s : aw_S) (c : Nat) (Γ : ag_T) (P : Nat → Nat → Prop) : Prop := ∀ n, n < ag_N Γ → ∀ e, e < 32 → (ao_t (s.1 c n) e ↔ e < ag_X Γ ∧ P e n)
theorem ag_bt_c {s s' : aw_S} {c : Nat} {Γ : ag_T} {P : Nat → Nat → Prop} (h : ag_bt s c Γ P) (e : s'.1 c = s.1 c) : ag_bt s' c Γ P := fun n hn k hk => by rw [e]; exact h n hn k hk
def ag_all (s : aw_S) (Γ : ag_T) : Prop := ∀ e, e < 32 → (ao_t (s.1 41 13) e ↔ e < ag_X Γ)
theorem ao_sl_0 {N : Nat} {nx : Nat → Option Nat} (h : ao_tp N nx) {n : Nat} (hn : n < N) : (ao_sl nx n).length = 0 ↔ nx (2 * n) = none := by
  unfold ao_sl
  rw [List.length_append]
  cases e : nx (2 * n) with
  | none => rw [h.2.2 n hn e]; exact ⟨fun _ => rfl, fun _ => rfl⟩
  | some t => exact ⟨fun q => absurd q (by show ¬ 1 + _ = 0; omega), fun q => by cases q⟩
theorem ao_sl_len2 (nx : Nat → Option Nat) (n : Nat) : (ao_sl nx n).length ≤ 2 := by
  unfold ao_sl
  rw [List.length_append]
  cases nx (2 * n) <;> cases nx (2 * n + 1) <;> simp [Option.toList]
theorem ao_nb1 {N : Nat} {nx : Nat → Option Nat} {n m : Nat} : m ∈ ao_nb N nx 1 n ↔ ao_ed nx n m := by
  unfold ao_nb
  rw [if_neg (by decide)]
  exact ao_sl_mem
theorem ao_nb0 {N : Nat} {nx : Nat → Option Nat} {n m : Nat} : m ∈ ao_nb N nx 0 n ↔ m < N ∧ ao_ed nx m n := by
  unfold ao_nb
  rw [if_pos rfl]
  exact ao_pl_mem
def ag_KT : List Nat := [43, 44, 45, 46]
theorem ag_keep {a k : Nat} {σ s s' : aw_S} (h1 : ao_ch [43, 44, 45, 46] [] σ s) (h2 : ao_ch [a] [] s s') (hk : k ≠ 43 ∧ k ≠ 44 ∧ k ≠ 45 ∧ k ≠ 46 ∧ k ≠ a) : s'.1 k = σ.1 k :=
  (ao_ch_row h2 k (by simp; exact hk.2.2.2.2) (fun q hq => absurd hq List.not_mem_nil)).trans (ao_ch_row h1 k (by simp; exact ⟨hk.1, hk.2.1, hk.2.2.1, hk.2.2.2.1⟩) (fun q hq => absurd hq List.not_mem_nil))
theorem ag_ct {σ s : aw_S} (h1 : ao_ch [43, 44, 45, 46] [] σ s) {k : Nat} (hk : k ∉ [43, 44, 45, 46]) : s.1 k = σ.1 k := ao_ch_row h1 k hk (fun q hq => absurd hq List.not_mem_nil)
/-- what a find leaves: all rows but those of Flow and its own as they were -/
def ag_fr (a : Nat) (σ s : aw_S) : Prop := s.2 = σ.2 ∧ ∀ k, k ≠ 43 ∧ k ≠ 44 ∧ k ≠ 45 ∧ k ≠ 46 ∧ k ≠ a → s.1 k = σ.1 k
theorem ag_fr_A {a : Nat} {σ s : aw_S} {Γ : ag_T} (h : ag_fr a σ s) (ha : 40 < a) (hA : ag_A σ Γ) : ag_A s Γ := ag_A_fr hA (fun k h1 h2 => h.2 k (by omega))
theorem ag_fr_all {a : Nat} {σ s : aw_S} {Γ : ag_T} (h : ag_fr a σ s) (ha : 41 < a) (hA : ag_all σ Γ) : ag_all s Γ := by
  unfold ag_all
  rw [h.2 41 (by omega)]
  exact hA
theorem ag_loopN {f : Int32 × aw_S → Option (aw_S ⊕ (Int32 × aw_S))} {σ s : aw_S} {N : Nat} (hN : σ.1 24 13 = nI N) (hc : ao_ch [43, 44, 45, 46] [] σ s) : s.1 24 13 = nI N := (congrFun (ag_ct hc (by decide)) 13).trans hN
set_option maxHeartbeats 4000000 in
theorem ag_findNeeded {σ : aw_S} {Γ : ag_T} (hw : ag_wf Γ) (h : ag_A σ Γ) (hall : ag_all σ Γ) (h47 : ag_bt σ 47 Γ (fun e => ag_F Γ e 0)) (h48 : ag_bt σ 48 Γ (fun e => ag_F Γ e 1)) : ao_ok (m_Fa_findNeeded σ) (fun s => ag_fr 49 σ s ∧ ag_bt s 49 Γ (fun e => ag_F Γ e 2)) := by
  have hN := hw.1.1
  unfold m_Fa_findNeeded
  refine ao_bd (ao_imp (ag_tells hN h.1.2.1 (fun n => σ.1 47 n) (fun n => if (ao_sl (ag_nx Γ) n).length = 0 then 0 else σ.1 48 n) (fun _ => 0) (fun _ => σ.1 41 13) ?_ ?_) ?_)
  · intro s k hk hc
    show m_Fa_findNeeded_B2 s (nI k) = _
    have hA := ag_A_ch h hc (by decide) (fun q hq => absurd hq List.not_mem_nil)
    have hl := ao_sl_len2 (ag_nx Γ) k
    unfold m_Fa_findNeeded_B2
    rw [hA.1.2.1, if_neg (nI_ge hk (by omega)), ao_gdn (by omega) (by omega), aw_bd_s (ao_leads hA.1 hk), ao_gdn (by omega) (by omega), nI_clamp (by omega), ag_ct hc (k := 47) (by decide), ag_ct hc (k := 48) (by decide)]
    have e41 : s.1 41 13 = σ.1 41 13 := congrFun (ag_ct hc (by decide)) 13
    by_cases q : (ao_sl (ag_nx Γ) k).length = 0
    · rw [if_pos (show nI (ao_sl (ag_nx Γ) k).length ≤ 0 by rw [q]; decide), if_pos q, ← e41]; rfl
    · rw [if_neg (nI_nle (by omega) (by omega)), if_neg q, ← e41]; rfl
  · intro s hc
    show m_Fa_findNeeded_B2 s (nI (ag_N Γ)) = _
    unfold m_Fa_findNeeded_B2
    rw [show s.1 24 13 = nI (ag_N Γ) from (congrFun (ag_ct hc (by decide)) 13).trans h.1.2.1, if_pos (nI_le (Nat.le_refl _) (by omega))]
  · rintro s ⟨hc, h2, ht⟩
    have hA := ag_A_ch h hc (by decide) (fun q hq => absurd hq List.not_mem_nil)
    have e41 : s.1 41 13 = σ.1 41 13 := congrFun (ag_ct hc (by decide)) 13
    refine ao_bd (ao_imp (ag_solveG hA.1 ht (a := 49) (by decide) 1 (s.1 41 13) (fun n hn e he q => ?_)) (fun s' hs => ao_some ⟨⟨hs.2.1.trans h2, fun k hk => ag_keep hc hs.1 hk⟩, fun n hn e he => ?_⟩))
    · rw [e41, hall e he]
      exact ((h47 n hn e he).mp q).1
    · refine (hs.2.2 e he (fun Y n => e < ag_X Γ ∧ ao_fNE (ag_nx Γ) (ag_US Γ e) (ag_KE Γ e) Y n) (fun Y m hm => ?_) n hn).trans (ao_G_and hn)
      rw [e41, hall e he, h47 m hm e he]
      by_cases he2 : e < ag_X Γ
      · refine ⟨fun q => ⟨he2, ?_⟩, fun q => ?_⟩
        · rcases q with q | ⟨q1, _, q3⟩
          · exact Or.inl q.2
          · by_cases z : (ao_sl (ag_nx Γ) m).length = 0
            · rw [if_pos z] at q1; exact absurd q1 ao_t_0
            · rw [if_neg z] at q1
              refine Or.inr ⟨((h48 m hm e he).mp q1).2, fun y => z ((ao_sl_0 hw.1 hm).mpr y), fun t hed => ?_⟩
              rcases q3 t (ao_nb1.mpr hed) with y | y
              · exact absurd y ao_t_0
              · exact y.2
        · rcases q.2 with q | ⟨q1, q2, q3⟩
          · exact Or.inl ⟨he2, q⟩
          · refine Or.inr ⟨?_, he2, fun t ht' => Or.inr ⟨he2, q3 t (ao_nb1.mp ht')⟩⟩
            rw [if_neg (fun z => q2 ((ao_sl_0 hw.1 hm).mp z))]
            exact (h48 m hm e he).mpr ⟨he2, q1⟩
      · exact ⟨fun q => absurd (q.elim (fun z => z.1) (fun z => z.2.1)) he2, fun q => absurd q.1 he2⟩
set_option maxHeartbeats 4000000 in
theorem ag_findAtHand {σ : aw_S} {Γ : ag_T} (hw : ag_wf Γ) (h : ag_A σ Γ) (hall : ag_all σ Γ) (h47 : ag_bt σ 47 Γ (fun e => ag_F Γ e 0)) (h48 : ag_bt σ 48 Γ (fun e => ag_F Γ e 1)) : ao_ok (m_Fa_findAtHand σ) (fun s => ag_fr 50 σ s ∧ ag_bt s 50 Γ (fun e => ag_F Γ e 3)) := by
  have hN := hw.1.1
  unfold m_Fa_findAtHand
  refine ao_bd (ao_imp (ag_tells hN h.1.2.1 (fun _ => 0) (fun n => if n = 0 then 0 else σ.1 41 13) (fun n => σ.1 48 n &&& σ.1 47 n) (fun n => σ.1 48 n) ?_ ?_) ?_)
  · intro s k hk hc
    show m_Fa_findAtHand_B2 s (nI k) = _
    have hA := ag_A_ch h hc (by decide) (fun q hq => absurd hq List.not_mem_nil)
    have e41 : s.1 41 13 = σ.1 41 13 := congrFun (ag_ct hc (by decide)) 13
    unfold m_Fa_findAtHand_B2
    rw [hA.1.2.1, if_neg (nI_ge hk (by omega))]
    unfold m_Fa_findAtHand_J28
    rw [ao_gdn (by omega) (by omega), ao_gdn (by omega) (by omega), ao_gdn (by omega) (by omega), ao_gdn (by omega) (by omega), ao_gdn (by omega) (by omega), ao_gdn (by omega) (by omega), nI_clamp (by omega), ag_ct hc (k := 47) (by decide), ag_ct hc (k := 48) (by decide)]
    by_cases q : k = 0
    · rw [if_pos (show nI k = 0 by rw [q]; rfl), if_pos q]; rfl
    · rw [if_neg (nI_ne0 (by omega) (by omega)), if_neg q, ← e41]; rfl
  · intro s hc
    show m_Fa_findAtHand_B2 s (nI (ag_N Γ)) = _
    unfold m_Fa_findAtHand_B2
    rw [show s.1 24 13 = nI (ag_N Γ) from (congrFun (ag_ct hc (by decide)) 13).trans h.1.2.1, if_pos (nI_le (Nat.le_refl _) (by omega))]
  · rintro s ⟨hc, h2, ht⟩
    have hA := ag_A_ch h hc (by decide) (fun q hq => absurd hq List.not_mem_nil)
    have e41 : s.1 41 13 = σ.1 41 13 := congrFun (ag_ct hc (by decide)) 13
    refine ao_bd (ao_imp (ag_solveG hA.1 ht (a := 50) (by decide) 0 (s.1 41 13) (fun n hn e he q => absurd q ao_t_0)) (fun s' hs => ao_some ⟨⟨hs.2.1.trans h2, fun k hk => ag_keep hc hs.1 hk⟩, fun n hn e he => ?_⟩))
    refine (hs.2.2 e he (fun Y n => e < ag_X Γ ∧ ao_fAH (ag_N Γ) (ag_nx Γ) (ag_US Γ e) (ag_KE Γ e) Y n) (fun Y m hm => ?_) n hn).trans (ao_G_and hn)
    rw [e41, hall e he]
    by_cases he2 : e < ag_X Γ
    · refine ⟨fun q => ⟨he2, ?_⟩, fun q => Or.inr ⟨?_, he2, fun p hp => ?_⟩⟩
      · rcases q with q | ⟨q1, _, q3⟩
        · exact absurd q ao_t_0
        · refine ⟨fun z => ?_, fun p hp hed => ?_⟩
          · rw [if_pos z] at q1; exact absurd q1 ao_t_0
          · rcases q3 p (ao_nb0.mpr ⟨hp, hed⟩) with y | y
            · rw [ao_t_and, h48 p hp e he, h47 p hp e he] at y
              exact ⟨y.1.2, Or.inl y.2.2⟩
            · rw [h48 p hp e he] at y
              exact ⟨y.1.2, Or.inr y.2⟩
      · rw [if_neg q.2.1]; exact (hall e he).mpr he2
      · obtain ⟨hp, hed⟩ := ao_nb0.mp hp
        obtain ⟨z1, z2⟩ := q.2.2 p hp hed
        rw [ao_t_and, h48 p hp e he, h47 p hp e he]
        rcases z2 with z2 | z2
        · exact Or.inl ⟨⟨he2, z1⟩, he2, z2⟩
        · exact Or.inr ⟨⟨he2, z1⟩, z2⟩
    · exact ⟨fun q => absurd (q.elim (fun z => absurd z ao_t_0) (fun z => z.2.1)) he2, fun q => absurd q.1 he2⟩
set_option maxHeartbeats 4000000 in
theorem ag_findMaybe {σ : aw_S} {Γ : ag_T} (hw : ag_wf Γ) (h : ag_A σ Γ) (hall : ag_all σ Γ) (h47 : ag_bt σ 47 Γ (fun e => ag_F Γ e 0)) (h48 : ag_bt σ 48 Γ (fun e => ag_F Γ e 1)) : ao_ok (m_Fa_findMaybe σ) (fun s => ag_fr 55 σ s ∧ ag_bt s 55 Γ (fun e => ao_MB (ag_N Γ) (ag_nx Γ) (ag_US Γ e) (ag_KE Γ e))) := by
  have hN := hw.1.1
  unfold m_Fa_findMaybe
  refine ao_bd (ao_imp (ag_tells hN h.1.2.1 (fun _ => 0) (fun n => σ.1 41 13) (fun n => σ.1 48 n &&& σ.1 47 n) (fun n => σ.1 48 n) ?_ ?_) ?_)
  · intro s k hk hc
    show m_Fa_findMaybe_B2 s (nI k) = _
    have hA := ag_A_ch h hc (by decide) (fun q hq => absurd hq List.not_mem_nil)
    have e41 : s.1 41 13 = σ.1 41 13 := congrFun (ag_ct hc (by decide)) 13
    unfold m_Fa_findMaybe_B2
    rw [hA.1.2.1, if_neg (nI_ge hk (by omega)), ao_gdn (by omega) (by omega), ao_gdn (by omega) (by omega), ao_gdn (by omega) (by omega), nI_clamp (by omega), ag_ct hc (k := 47) (by decide), ag_ct hc (k := 48) (by decide), e41]
    rfl
  · intro s hc
    show m_Fa_findMaybe_B2 s (nI (ag_N Γ)) = _
    unfold m_Fa_findMaybe_B2
    rw [show s.1 24 13 = nI (ag_N Γ) from (congrFun (ag_ct hc (by decide)) 13).trans h.1.2.1, if_pos (nI_le (Nat.le_refl _) (by omega))]
  · rintro s ⟨hc, h2, ht⟩
    have hA := ag_A_ch h hc (by decide) (fun q hq => absurd hq List.not_mem_nil)
    refine ao_bd (ao_imp (ag_solveL hA.1 ht (a := 55) (by decide) 0 (s.1 41 13)) (fun s' hs => ao_some ⟨⟨hs.2.1.trans h2, fun k hk => ag_keep hc hs.1 hk⟩, fun n hn e he => ?_⟩))
    refine (hs.2.2 e he (fun Y n => e < ag_X Γ ∧ ao_fMB (ag_N Γ) (ag_nx Γ) (ag_US Γ e) (ag_KE Γ e) Y n) (fun Y m hm => ?_) n hn).trans (ao_L_and hn (fun _ => trivial))
    rw [hall e he]
    refine ⟨fun q => ?_, fun q => Or.inr ⟨q.1, ?_⟩⟩
    · rcases q with q | ⟨q1, p, hp, q3⟩
      · exact absurd q ao_t_0
      · obtain ⟨hp, hed⟩ := ao_nb0.mp hp
        refine ⟨q1, p, hp, hed, ?_⟩
        rcases q3 with y | y
        · rw [ao_t_and, h48 p hp e he, h47 p hp e he] at y
          exact ⟨y.1.2, Or.inl y.2.2⟩
        · rw [h48 p hp e he] at y
          exact ⟨y.1.2, Or.inr y.2⟩
    · obtain ⟨he2, p, hp, hed, z1, z2⟩ := q
      refine ⟨p, ao_nb0.mpr ⟨hp, hed⟩, ?_⟩
      rw [ao_t_and, h48 p hp e he, h47 p hp e he]
      rcases z2 with z2 | z2
      · exact Or.inl ⟨⟨he2, z1⟩, he2, z2⟩
      · exact Or.inr ⟨⟨he2, z1⟩, z2⟩
set_option maxHeartbeats 4000000 in
theorem ag_findDelayed {σ : aw_S} {Γ : ag_T} (hw : ag_wf Γ) (h : ag_A σ Γ) (hall : ag_all σ Γ) (h47 : ag_bt σ 47 Γ (fun e => ag_F Γ e 0)) (h51 : ag_bt σ 51 Γ (fun e => ag_F Γ e 4)) : ao_ok (m_Fa_findDelayed σ) (fun s => ag_fr 52 σ s ∧ ag_bt s 52 Γ (fun e => ag_F Γ e 5)) := by
  have hN := hw.1.1
  unfold m_Fa_findDelayed
  refine ao_bd (ao_imp (ag_tells hN h.1.2.1 (fun n => σ.1 51 n) (fun n => if n = 0 then 0 else σ.1 41 13) (fun n => 0) (fun n => σ.1 47 n ^^^ (-1)) ?_ ?_) ?_)
  · intro s k hk hc
    show m_Fa_findDelayed_B2 s (nI k) = _
    have hA := ag_A_ch h hc (by decide) (fun q hq => absurd hq List.not_mem_nil)
    have e41 : s.1 41 13 = σ.1 41 13 := congrFun (ag_ct hc (by decide)) 13
    unfold m_Fa_findDelayed_B2
    rw [hA.1.2.1, if_neg (nI_ge hk (by omega)), ao_gdn (by omega) (by omega)]
    unfold m_Fa_findDelayed_J33
    rw [ao_gdn (by omega) (by omega), ao_gdn (by omega) (by omega), nI_clamp (by omega), ag_ct hc (k := 47) (by decide), ag_ct hc (k := 51) (by decide)]
    by_cases q : k = 0
    · rw [if_pos (show nI k = 0 by rw [q]; rfl), if_pos q]; rfl
    · rw [if_neg (nI_ne0 (by omega) (by omega)), if_neg q, ← e41]; rfl
  · intro s hc
    show m_Fa_findDelayed_B2 s (nI (ag_N Γ)) = _
    unfold m_Fa_findDelayed_B2
    rw [show s.1 24 13 = nI (ag_N Γ) from (congrFun (ag_ct hc (by decide)) 13).trans h.1.2.1, if_pos (nI_le (Nat.le_refl _) (by omega))]
  · rintro s ⟨hc, h2, ht⟩
    have hA := ag_A_ch h hc (by decide) (fun q hq => absurd hq List.not_mem_nil)
    have e41 : s.1 41 13 = σ.1 41 13 := congrFun (ag_ct hc (by decide)) 13
    refine ao_bd (ao_imp (ag_solveG hA.1 ht (a := 52) (by decide) 0 (s.1 41 13) (fun n hn e he q => ?_)) (fun s' hs => ao_some ⟨⟨hs.2.1.trans h2, fun k hk => ag_keep hc hs.1 hk⟩, fun n hn e he => ?_⟩))
    · rw [e41, hall e he]
      exact ((h51 n hn e he).mp q).1
    · refine (hs.2.2 e he (fun Y n => e < ag_X Γ ∧ ao_fDE (ag_N Γ) (ag_nx Γ) (ag_US Γ e) (ag_KE Γ e) Y n) (fun Y m hm => ?_) n hn).trans (ao_G_and hn)
      rw [e41, hall e he, h51 m hm e he]
      by_cases he2 : e < ag_X Γ
      · refine ⟨fun q => ⟨he2, ?_⟩, fun q => ?_⟩
        · rcases q with q | ⟨q1, _, q3⟩
          · exact Or.inl q.2
          · refine Or.inr ⟨fun z => ?_, fun p hp hed => ?_⟩
            · rw [if_pos z] at q1; exact absurd q1 ao_t_0
            · rcases q3 p (ao_nb0.mpr ⟨hp, hed⟩) with y | y
              · exact absurd y ao_t_0
              · rw [ao_t_not he, h47 p hp e he] at y
                exact ⟨y.2, fun u => y.1 ⟨he2, u⟩⟩
        · rcases q.2 with q | ⟨q1, q3⟩
          · exact Or.inl ⟨he2, q⟩
          · refine Or.inr ⟨?_, he2, fun p hp => ?_⟩
            · rw [if_neg q1]; exact (hall e he).mpr he2
            · obtain ⟨hp, hed⟩ := ao_nb0.mp hp
              obtain ⟨z1, z2⟩ := q3 p hp hed
              rw [ao_t_not he, h47 p hp e he]
              exact Or.inr ⟨fun u => z2 u.2, z1⟩
      · exact ⟨fun q => absurd (q.elim (fun z => z.1) (fun z => z.2.1)) he2, fun q => absurd q.1 he2⟩
set_option maxHeartbeats 4000000 in
theorem ag_findAlone {σ : aw_S} {Γ : ag_T} (hw : ag_wf Γ) (h : ag_A σ Γ) (hall : ag_all σ Γ) (h47 : ag_bt σ 47 Γ (fun e => ag_F Γ e 0)) (h53 : ag_bt σ 53 Γ (fun e => ag_F Γ e 6)) : ao_ok (m_Fa_findAlone σ) (fun s => ag_fr 54 σ s ∧ ag_bt s 54 Γ (fun e => ag_F Γ e 7)) := by
  have hN := hw.1.1
  unfold m_Fa_findAlone
  refine ao_bd (ao_imp (ag_tells hN h.1.2.1 (fun n => 0) (fun n => σ.1 41 13) (fun n => σ.1 53 n) (fun n => σ.1 47 n ^^^ (-1)) ?_ ?_) ?_)
  · intro s k hk hc
    show m_Fa_findAlone_B2 s (nI k) = _
    have hA := ag_A_ch h hc (by decide) (fun q hq => absurd hq List.not_mem_nil)
    have e41 : s.1 41 13 = σ.1 41 13 := congrFun (ag_ct hc (by decide)) 13
    unfold m_Fa_findAlone_B2
    rw [hA.1.2.1, if_neg (nI_ge hk (by omega)), ao_gdn (by omega) (by omega), ao_gdn (by omega) (by omega), nI_clamp (by omega), ag_ct hc (k := 47) (by decide), ag_ct hc (k := 53) (by decide), e41]
    rfl
  · intro s hc
    show m_Fa_findAlone_B2 s (nI (ag_N Γ)) = _
    unfold m_Fa_findAlone_B2
    rw [show s.1 24 13 = nI (ag_N Γ) from (congrFun (ag_ct hc (by decide)) 13).trans h.1.2.1, if_pos (nI_le (Nat.le_refl _) (by omega))]
  · rintro s ⟨hc, h2, ht⟩
    have hA := ag_A_ch h hc (by decide) (fun q hq => absurd hq List.not_mem_nil)
    have e41 : s.1 41 13 = σ.1 41 13 := congrFun (ag_ct hc (by decide)) 13
    refine ao_bd (ao_imp (ag_solveG hA.1 ht (a := 54) (by decide) 1 (s.1 41 13) (fun n hn e he q => absurd q ao_t_0)) (fun s' hs => ao_some ⟨⟨hs.2.1.trans h2, fun k hk => ag_keep hc hs.1 hk⟩, fun n hn e he => ?_⟩))
    refine (hs.2.2 e he (fun Y n => e < ag_X Γ ∧ ao_fAL (ag_N Γ) (ag_nx Γ) (ag_US Γ e) (ag_KE Γ e) Y n) (fun Y m hm => ?_) n hn).trans (ao_G_and hn)
    rw [e41, hall e he]
    by_cases he2 : e < ag_X Γ
    · refine ⟨fun q => ⟨he2, fun t hed => ?_⟩, fun q => Or.inr ⟨he2, he2, fun t hed => ?_⟩⟩
      · rcases q with q | ⟨_, _, q3⟩
        · exact absurd q ao_t_0
        · have htN := ao_ed_lt hw.1 hm hed
          rcases q3 t (ao_nb1.mpr hed) with y | y
          · exact Or.inl ((h53 t htN e he).mp y).2
          · rw [ao_t_not he, h47 t htN e he] at y
            exact Or.inr ⟨fun u => y.1 ⟨he2, u⟩, y.2⟩
      · have hed := ao_nb1.mp hed
        have htN := ao_ed_lt hw.1 hm hed
        rcases q.2 t hed with y | y
        · exact Or.inl ((h53 t htN e he).mpr ⟨he2, y⟩)
        · rw [ao_t_not he, h47 t htN e he]
          exact Or.inr ⟨fun u => y.1 u.2, y.2⟩
    · exact ⟨fun q => absurd (q.elim (fun z => absurd z ao_t_0) (fun z => z.2.1)) he2, fun q => absurd q.1 he2⟩

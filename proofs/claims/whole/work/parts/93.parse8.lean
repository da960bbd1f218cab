/-! ===== THE PARSE: a target that is no block's; the whole ===== -/
/-- the target j (two of each block) -/
def pz_tg (Ψ : ap_T) (j : Nat) : Option Nat := if j % 2 = 0 then ap_e1 Ψ (j / 2) else ap_e2 Ψ (j / 2)
/-- it is no block's -/
def pz_st (Ψ : ap_T) (j : Nat) : Prop := ∃ u, pz_tg Ψ j = some u ∧ ap_B Ψ ≤ u
theorem pz_tg0 (Ψ : ap_T) (b : Nat) : pz_tg Ψ (2 * b) = ap_e1 Ψ b := by
  unfold pz_tg
  rw [if_pos (by omega), show 2 * b / 2 = b by omega]
theorem pz_tg1 (Ψ : ap_T) (b : Nat) : pz_tg Ψ (2 * b + 1) = ap_e2 Ψ b := by
  unfold pz_tg
  rw [if_neg (by omega), show (2 * b + 1) / 2 = b by omega]
theorem pz_tg_b {Ψ : ap_T} (hw : pz_pw Ψ) {j : Nat} (hj : j < 2 * ap_B Ψ) : ∀ u, pz_tg Ψ j = some u → u < 100 := by
  intro u hu
  have H := hw.2.2.2.2.2.2.1 (j / 2) (by omega)
  unfold pz_tg at hu
  by_cases q : j % 2 = 0
  · rw [if_pos q] at hu
    rcases H with z | z | z
    · obtain ⟨t, ht, e⟩ := z.2.2.1; rw [e] at hu; cases hu; exact ht
    · obtain ⟨t, ht, e⟩ := z.2.2.1; rw [e] at hu; cases hu; exact ht
    · rw [z.2.2.1] at hu; cases hu
  · rw [if_neg q] at hu
    rcases H with z | z | z
    · rw [z.2.2.2] at hu; cases hu
    · obtain ⟨t, ht, e⟩ := z.2.2.2; rw [e] at hu; cases hu; exact ht
    · rw [z.2.2.2] at hu; cases hu
/-- a target held against the number of blocks -/
theorem pz_lt_B {x : Option Nat} (hx : ∀ u, x = some u → u < 100) {B : Nat} (hB0 : 0 < B) (hB : B ≤ 16) : (ao_o x < nI B) ↔ ¬ ∃ u, x = some u ∧ B ≤ u := by
  cases x with
  | none =>
    refine ⟨fun _ h => (by obtain ⟨u, e, _⟩ := h; cases e), fun _ => ?_⟩
    show (-1 : Int32) < nI B
    rw [Int32.lt_iff_toInt_lt, nI_toInt (n := B) (by omega)]
    show (-1 : Int) < _
    omega
  | some u =>
    have hu := hx u rfl
    show nI u < nI B ↔ _
    rw [nI_ltI (by omega) (by omega)]
    exact ⟨fun h h' => (by obtain ⟨v, e, hv⟩ := h'; cases e; omega), fun h => Nat.lt_of_not_le fun y => h ⟨u, rfl, y⟩⟩
def pz_pl (q1 q2 : Nat → Nat) (j : Nat) : Nat := if j % 2 = 0 then q1 (j / 2) else q2 (j / 2)
/-- the first such one -/
theorem pz_stray {L : Nat} {z : pz_Z} (hw : pz_wf L z) (hf : pz_fz z) (hB0 : 0 < ap_B z.2.1) : ∃ k, k ≤ 2 * ap_B z.2.1 ∧ (∀ j, j < k → ¬ pz_st z.2.1 j) ∧ (k < 2 * ap_B z.2.1 → pz_st z.2.1 k) := pz_first _ _
set_option maxHeartbeats 2000000 in
theorem pz_strayB {L k : Nat} {z : pz_Z} (hw : pz_wf L z) (hL : L ≤ 800) (hB0 : 0 < ap_B z.2.1) (hk : k ≤ 2 * ap_B z.2.1) (h1 : ∀ j, j < k → ¬ pz_st z.2.1 j) (h2 : k < 2 * ap_B z.2.1 → pz_st z.2.1 k) {σ0 σ : aw_S} (R : pz_B σ0 z σ) :
    ao_ok (aw_lp (fun s => m_Rf_readProgram_B71 s.2 s.1) aw_fu ((0 : Int32), σ)) (fun x => if k < 2 * ap_B z.2.1 then ∃ s, x = .inl (0, s) ∧ pz_yB σ0 s ∧ s.1 0 4 = nI (pz_pl z.2.2.1 z.2.2.2 k) else x = .inr σ) := by
  obtain ⟨p, Ψ, q1, q2⟩ := z
  have hP : pz_pw Ψ := hw.2.1
  have hB16 := hP.1
  have hB0 : 0 < ap_B Ψ := hB0
  have hk : k ≤ 2 * ap_B Ψ := hk
  have R0 : σ.1 1 (1360 + 0) = nI (ap_B Ψ) := R.1.2.2.1.1
  have RT : ∀ j, j < 2 * ap_B Ψ → σ.1 1 (1360 + (236 + j)) = ao_o (pz_tg Ψ j) := by
    intro j hj
    have H := R.1.2.2.1.2.2.2.2.2.1 (j / 2) (by show j / 2 < ap_B Ψ; omega)
    rcases (show j = 2 * (j / 2) ∨ j = 2 * (j / 2) + 1 by omega) with e | e
    · rw [e, pz_tg0]; exact H.2.2.1
    · rw [e, pz_tg1, show 236 + (2 * (j / 2) + 1) = 237 + 2 * (j / 2) by omega]; exact H.2.2.2
  refine ao_for k (fun j (s : Int32 × aw_S) => s = (nI j, σ)) (a := 0) rfl (Nat.zero_le _) (by omega) ?_ ?_
  · rintro j s hj rfl
    show ao_ok (m_Rf_readProgram_B71 σ (nI j)) _
    unfold m_Rf_readProgram_B71
    rw [show (0 : Int32) = nI 0 from rfl, aw_bd_s (pz_read (by omega)), R0, ao_mul2, if_neg (nI_ge (by omega) (by omega)), show (236 : Int32) = nI 236 from rfl, nI_add, aw_bd_s (pz_read (by omega)), aw_bd_s (pz_read (by omega)), RT j (by omega), R0, if_pos ((pz_lt_B (pz_tg_b hP (by omega)) hB0 hB16).mpr (h1 j hj)), nI_1]
    exact ao_let (ao_inr rfl)
  · rintro s rfl
    show ao_ok (m_Rf_readProgram_B71 σ (nI k)) _
    unfold m_Rf_readProgram_B71
    by_cases q : k < 2 * ap_B Ψ
    · rw [show (0 : Int32) = nI 0 from rfl, aw_bd_s (pz_read (by omega)), R0, ao_mul2, if_neg (nI_ge (by omega) (by omega)), show (236 : Int32) = nI 236 from rfl, nI_add, aw_bd_s (pz_read (by omega)), aw_bd_s (pz_read (by omega)), RT k q, R0, if_neg (fun y => (pz_lt_B (pz_tg_b hP (by omega)) hB0 hB16).mp y (h2 q)), ao_gdn (by omega) (by omega), nI_clamp (by omega)]
      have e3 : σ.1 3 k = nI (pz_pl q1 q2 k) := by
        have H := R.1.2.2.2 (k / 2) (by show k / 2 < ap_B Ψ; omega)
        obtain ⟨u, hu, _⟩ := h2 q
        have hu : pz_tg Ψ k = some u := hu
        unfold pz_pl
        unfold pz_tg at hu
        by_cases w : k % 2 = 0
        · rw [if_pos w] at hu ⊢
          have := H.1 (show ap_e1 Ψ (k / 2) ≠ none from fun y => by rw [y] at hu; cases hu)
          rw [show 2 * (k / 2) = k by omega] at this
          exact this
        · rw [if_neg w] at hu ⊢
          have := H.2 (show ap_e2 Ψ (k / 2) ≠ none from fun y => by rw [y] at hu; cases hu)
          rw [show 2 * (k / 2) + 1 = k by omega] at this
          exact this
      rw [e3]
      unfold m_Rf_fails
      refine ao_bd2 (ao_let (ao_some (ao_gd (Or.inl rfl) (ao_inl ?_))))
      rw [if_pos q]
      exact ⟨_, rfl, ⟨R.1.1.1, fun k h1 h2 h3 => by rw [ao_sI_o h1]; exact R.1.1.2.1 k h1 h2 h3, fun j h1 h2 h3 => by rw [ao_sI_i h2]; exact R.1.1.2.2.1 j h1 h2 h3, fun j hj => by rw [ao_sI_o (by omega)]; exact R.1.1.2.2.2 j hj⟩, ao_sI_s _ _ _ _⟩
    · rw [show (0 : Int32) = nI 0 from rfl, aw_bd_s (pz_read (by omega)), R0, ao_mul2, if_pos (nI_le (by omega) (by omega))]
      refine ao_inl ?_
      rw [if_neg q]
set_option maxHeartbeats 2000000 in
theorem pz_strayA {L k : Nat} {z : pz_Z} (hw : pz_wf L z) (hL : L ≤ 800) (hf : pz_fz z) (hB0 : 0 < ap_B z.2.1) (hk : k ≤ 2 * ap_B z.2.1) (h1 : ∀ j, j < k → ¬ pz_st z.2.1 j) (h2 : k < 2 * ap_B z.2.1 → pz_st z.2.1 k) {σ0 σ : aw_S} (R : pz_A σ0 z σ) :
    ao_ok (m_Re_findStrayNumber σ) (fun s => if k < 2 * ap_B z.2.1 then pz_yA σ0 s ∧ s.1 8 15 = nI (pz_pl z.2.2.1 z.2.2.2 k) else s = σ) := by
  obtain ⟨p, Ψ, q1, q2⟩ := z
  have hP : pz_pw Ψ := hw.2.1
  have hB16 := hP.1
  have hS60 := hP.2.1
  have hB0 : 0 < ap_B Ψ := hB0
  have hk : k ≤ 2 * ap_B Ψ := hk
  have hf : ap_fr Ψ (ap_B Ψ) = ap_S Ψ := hf
  have hfr := fun b (hb : b ≤ ap_B Ψ) => pz_fr_le hP hb
  have h1 : ∀ j, j < k → ¬ pz_st Ψ j := h1
  have h2 : k < 2 * ap_B Ψ → pz_st Ψ k := h2
  have eL : σ.1 8 11 = nI (ap_S Ψ + ap_B Ψ) := R.1.2.2.1
  have eB : σ.1 8 12 = nI (ap_B Ψ) := R.1.2.2.2.1
  have e15 : σ.1 8 15 = -1 := R.1.2.1
  have hl : ∀ b s, b ≤ ap_B Ψ → ap_fr Ψ b ≤ s → s < ap_S Ψ → (b < ap_B Ψ → s < ap_fr Ψ (b + 1)) → ap_rl σ Ψ (s + b) (b, some s) := R.1.2.2.2.2.2.1
  have hE : ∀ b, b < ap_B Ψ → ap_rl σ Ψ (ap_fr Ψ (b + 1) + b) (b, none) ∧ (ap_e1 Ψ b ≠ none → σ.1 22 (ap_fr Ψ (b + 1) + b) = nI (q1 b)) ∧ (ap_e2 Ψ b ≠ none → σ.1 23 (ap_fr Ψ (b + 1) + b) = nI (q2 b)) := R.1.2.2.2.2.2.2.1
  have mono : ∀ d b, b + d ≤ ap_B Ψ → ap_fr Ψ b ≤ ap_fr Ψ (b + d) := by
    intro d
    induction d with
    | zero => intro b _; exact Nat.le_refl _
    | succ d ih => intro b hb; exact Nat.le_trans (ih b (by omega)) (hP.2.2.2.1 (b + d) (by omega))
  have monoI : ∀ a b, a ≤ b → b ≤ ap_B Ψ → ap_fr Ψ a ≤ ap_fr Ψ b := fun a b h h' => by
    have := mono (b - a) a (by omega)
    rwa [show a + (b - a) = b by omega] at this
  -- a line that isn't the first stray one's
  have row : ∀ l, l < ap_S Ψ + ap_B Ψ → (∃ b, b < ap_B Ψ ∧ l = ap_fr Ψ (b + 1) + b) ∨ (σ.1 20 l = -1 ∧ σ.1 21 l = -1) := by
    intro l hl'
    obtain ⟨b, o, hb, hd⟩ := ap_ln (Ψ := Ψ) l (ap_B Ψ) (by rw [hf]; exact hl') hP.2.2.1
    rcases hd with ⟨s, rfl, g1, g2, rfl⟩ | ⟨rfl, rfl⟩
    · have := hl b s (by omega) g1 (by have := hfr (b + 1) (by omega); omega) (fun _ => g2)
      exact Or.inr ⟨this.2.2.2.2.2.1, this.2.2.2.2.2.2⟩
    · exact Or.inl ⟨b, hb, rfl⟩
  have tg0 : ∀ b, b < ap_B Ψ → ∀ u, ap_e1 Ψ b = some u → u < 100 := fun b hb u hu => pz_tg_b hP (j := 2 * b) (by omega) u (by rw [pz_tg0]; exact hu)
  have tg1 : ∀ b, b < ap_B Ψ → ∀ u, ap_e2 Ψ b = some u → u < 100 := fun b hb u hu => pz_tg_b hP (j := 2 * b + 1) (by omega) u (by rw [pz_tg1]; exact hu)
  have n1B : (-1 : Int32) < nI (ap_B Ψ) := (pz_lt_B (x := none) (fun u e => by cases e) hB0 hB16).mpr (fun h => by obtain ⟨u, e, _⟩ := h; cases e)
  -- one line that is well
  have good : ∀ l, l < ap_S Ψ + ap_B Ψ → (∀ b, b < ap_B Ψ → l = ap_fr Ψ (b + 1) + b → ¬ pz_st Ψ (2 * b) ∧ ¬ pz_st Ψ (2 * b + 1)) → m_Re_findStrayNumber_B2 σ (nI l) = some (.inr (nI (l + 1), σ)) := by
    intro l hl' hg
    unfold m_Re_findStrayNumber_B2 m_Re_findStrayNumber_J67
    rw [eL, if_neg (nI_ge hl' (by omega)), if_pos e15, ao_gdn (by omega) (by omega), nI_clamp (by omega), eB]
    rcases row l hl' with ⟨b, hb, e⟩ | ⟨x1, x2⟩
    · have H := (hE b hb).1
      have r1 : σ.1 20 l = ao_o (ap_e1 Ψ b) := by rw [e]; exact H.2.2.2.2.2.1
      have r2 : σ.1 21 l = ao_o (ap_e2 Ψ b) := by rw [e]; exact H.2.2.2.2.2.2
      obtain ⟨g1, g2⟩ := hg b hb e
      unfold pz_st at g1 g2
      rw [pz_tg0] at g1
      rw [pz_tg1] at g2
      rw [r1, r2, if_pos ((pz_lt_B (tg0 b hb) hB0 hB16).mpr g1), ao_gdn (by omega) (by omega), if_pos ((pz_lt_B (tg1 b hb) hB0 hB16).mpr g2), ao_ltr, nI_1]
    · rw [x1, x2, if_pos n1B, ao_gdn (by omega) (by omega), if_pos n1B, ao_ltr, nI_1]
  unfold m_Re_findStrayNumber
  by_cases q : k < 2 * ap_B Ψ
  · -- one is stray: in block k / 2
    have hb0 : k / 2 < ap_B Ψ := by omega
    have hl0 : ap_fr Ψ (k / 2 + 1) + k / 2 < ap_S Ψ + ap_B Ψ := by have := hfr (k / 2 + 1) (by omega); omega
    have H := hE (k / 2) hb0
    have r1 : σ.1 20 (ap_fr Ψ (k / 2 + 1) + k / 2) = ao_o (ap_e1 Ψ (k / 2)) := H.1.2.2.2.2.2.1
    have r2 : σ.1 21 (ap_fr Ψ (k / 2 + 1) + k / 2) = ao_o (ap_e2 Ψ (k / 2)) := H.1.2.2.2.2.2.2
    have hpl : pz_pl q1 q2 k ≤ L := by
      have := hw.2.2 (k / 2) hb0
      unfold pz_pl
      by_cases w : k % 2 = 0
      · rw [if_pos w]; exact this.1
      · rw [if_neg w]; exact this.2
    have bad : m_Re_findStrayNumber_B2 σ (nI (ap_fr Ψ (k / 2 + 1) + k / 2)) = some (.inr (nI (ap_fr Ψ (k / 2 + 1) + k / 2 + 1), aw_sI σ 8 15 (nI (pz_pl q1 q2 k)))) := by
      unfold m_Re_findStrayNumber_B2 m_Re_findStrayNumber_J67
      rw [eL, if_neg (nI_ge hl0 (by omega)), if_pos e15, ao_gdn (by omega) (by omega), nI_clamp (by omega), eB, r1, r2]
      have hk2 := h2 q
      unfold pz_st at hk2
      unfold pz_pl
      by_cases w : k % 2 = 0
      · have ek : k = 2 * (k / 2) := by omega
        rw [ek, pz_tg0] at hk2
        rw [if_neg (fun y => (pz_lt_B (tg0 _ hb0) hB0 hB16).mp y hk2), ao_gdn (by omega) (by omega), H.2.1 (fun y => by obtain ⟨u, e, _⟩ := hk2; rw [y] at e; cases e), ao_ltr, ao_ltr, nI_1, if_pos w]
      · have ek : k = 2 * (k / 2) + 1 := by omega
        have h0 := h1 (2 * (k / 2)) (by omega)
        unfold pz_st at h0
        rw [pz_tg0] at h0
        have hk3 : ∃ u, ap_e2 Ψ (k / 2) = some u ∧ ap_B Ψ ≤ u := by
          obtain ⟨u, e, hu⟩ := hk2
          refine ⟨u, ?_, hu⟩
          rw [← pz_tg1, ← ek]; exact e
        rw [if_pos ((pz_lt_B (tg0 _ hb0) hB0 hB16).mpr h0), ao_gdn (by omega) (by omega), if_neg (fun y => (pz_lt_B (tg1 _ hb0) hB0 hB16).mp y hk3), ao_gdn (by omega) (by omega), H.2.2 (fun y => by obtain ⟨u, e, _⟩ := hk3; rw [y] at e; cases e), ao_ltr, ao_ltr, nI_1, if_neg w]
    refine ao_bd (ao_imp (ao_for (ap_fr Ψ (k / 2 + 1) + k / 2 + 1) (fun l (s : Int32 × aw_S) => s = (nI l, if l = ap_fr Ψ (k / 2 + 1) + k / 2 + 1 then aw_sI σ 8 15 (nI (pz_pl q1 q2 k)) else σ)) (Q := fun s => s = aw_sI σ 8 15 (nI (pz_pl q1 q2 k))) (a := 0) (by rw [if_neg (by omega)]; rfl) (Nat.zero_le _) (by omega) ?_ ?_) ?_)
    · rintro l s hl' rfl
      rw [if_neg (by omega)]
      by_cases w : l = ap_fr Ψ (k / 2 + 1) + k / 2
      · show ao_ok (m_Re_findStrayNumber_B2 σ (nI l)) _
        rw [w, bad]
        exact ao_inr (by rw [if_pos rfl])
      · show ao_ok (m_Re_findStrayNumber_B2 σ (nI l)) _
        rw [good l (by omega) (fun b hb e => by
          have hlt : b < k / 2 := by
            refine Nat.lt_of_not_le fun y => ?_
            have := monoI (k / 2 + 1) (b + 1) (by omega) (by omega)
            omega
          exact ⟨h1 _ (by omega), h1 _ (by omega)⟩)]
        exact ao_inr (by rw [if_neg (by omega)])
    · rintro s rfl
      rw [if_pos rfl]
      show ao_ok (m_Re_findStrayNumber_B2 (aw_sI σ 8 15 (nI (pz_pl q1 q2 k))) (nI (ap_fr Ψ (k / 2 + 1) + k / 2 + 1))) _
      unfold m_Re_findStrayNumber_B2
      refine ao_if (fun _ => ao_inl rfl) (fun _ => ao_ifn (fun y => ?_) (ao_inl rfl))
      rw [ao_sI_s] at y
      exact ao_m1 (by omega) y
    · rintro s rfl
      refine ao_some ?_
      rw [if_pos q]
      exact ⟨⟨R.1.1.1, fun k hk => by rw [ao_sI_o (by omega)]; exact R.1.1.2 k hk⟩, ao_sI_s _ _ _ _⟩
  · refine ao_bd (ao_imp (ao_for (ap_S Ψ + ap_B Ψ) (fun l (s : Int32 × aw_S) => s = (nI l, σ)) (Q := fun s => s = σ) (a := 0) rfl (Nat.zero_le _) (by omega) ?_ ?_) ?_)
    · rintro l s hl' rfl
      show ao_ok (m_Re_findStrayNumber_B2 σ (nI l)) _
      rw [good l hl' (fun b hb e => ⟨h1 _ (by omega), h1 _ (by omega)⟩)]
      exact ao_inr rfl
    · rintro s rfl
      show ao_ok (m_Re_findStrayNumber_B2 σ (nI (ap_S Ψ + ap_B Ψ))) _
      unfold m_Re_findStrayNumber_B2
      rw [eL, if_pos (nI_le (Nat.le_refl _) (by omega))]
      exact ao_inl rfl
    · rintro s rfl
      refine ao_some ?_
      rw [if_neg q]

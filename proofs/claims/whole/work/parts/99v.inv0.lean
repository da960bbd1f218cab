/-! ===== ONE INVARIANT OF BOTH ===== -/
def iv_ft (a : aw_S) (c : Nat) : Prop := ∀ i, i < 800 → fits .byte (.int (a.1 c i)) = true
def iv_txt (a b : aw_S) (c p : Nat) (Ψ : ap_T) : Prop := ap_row b p Ψ ∧ ∃ L t, pz_T L t ∧ pz_TA a c L t ∧ pz_to L t (.inr Ψ)
def iv_kept (a b : aw_S) (i : Nat) : Prop := (b.1 33 i = 0 ∧ a.1 (136 + 2 * i) 1 = 0) ∨ (b.1 33 i = 1 ∧ ∃ Ψ, iv_txt a b (136 + 2 * i) (340 * (1 + i)) Ψ)
def iv_prog (a b : aw_S) : Prop := iq_0 a b ∨ ∃ Ψ, iv_txt a b 3 0 Ψ ∧ iq_G a b (ap_gr Ψ) ∧ ot_K a (ap_gr Ψ)
def iv_zero (a : aw_S) : Prop := ∀ n, n < 128 → a.1 64 n = 0 ∧ a.1 65 n = 0
def iv_core (a b : aw_S) : Prop := (iv_ft a 4 ∧ iv_ft a 137 ∧ iv_ft a 139 ∧ iv_ft a 141) ∧ (∀ i, i < 3 → iv_kept a b i) ∧ iv_prog a b ∧ iv_zero a ∧ wa_rr a
def iv_tape (a b : aw_S) : Prop := iv_ft a 2 ∧ ∃ L, L ≤ 800 ∧ a.1 1 1 = nI L ∧ b.1 0 2 = nI L ∧ ∀ i, i < L → a.1 2 i = b.1 2 i
def iv_wrote (a b : aw_S) : Prop := ∃ k, k ≤ 600 ∧ a.1 5 1 = nI k ∧ b.1 0 48 = nI k ∧ ∀ i, i < k → ∃ c, c < 128 ∧ a.1 6 i = nI c ∧ b.1 34 i = nI c
def iv_told (a b : aw_S) : Prop := ∀ v, v < 26 → a.1 81 v = b.1 15 v
def iv_ran (a b : aw_S) : Prop := (a.1 0 18 = 0 ∧ b.1 0 34 = 0) ∨ (a.1 0 18 = 1 ∧ b.1 0 34 = 1 ∧ (∀ v, v < 26 → a.1 83 v = b.1 20 v) ∧ (∀ e, e < 24 → a.1 85 e = b.1 21 e) ∧ ∃ w, w ≤ 400 ∧ a.1 82 7 = nI w ∧ b.1 0 33 = nI w ∧ ∀ k, k < 40 → k < w → a.1 84 k = b.1 22 k)
def iv_I (a b : aw_S) : Prop := iv_core a b ∧ iv_tape a b ∧ iv_wrote a b ∧ a.1 0 17 = b.1 0 4 ∧ iv_told a b ∧ iv_ran a b
/-! what may be moved beside it -/
theorem iv_AA {a a' : aw_S} {Γ : ag_T} (h : ag_AA a Γ) (e : ∀ c, 24 ≤ c → c ≤ 80 → a'.1 c = a.1 c) (e1 : a'.2.1 59 = a.2.1 59) (e2 : a'.2.1 60 = a.2.1 60) : ag_AA a' Γ :=
  ⟨ag_A_fr h.1 (fun k h1 h2 => e k h1 (by omega)), ag_FA_fr h.2.1 (fun k h1 h2 => e k (by omega) (by omega)) (congrFun (e 41 (by omega) (by omega)) 12), ag_LA_fr h.2.2.1 e1 e2 (e 62 (by omega) (by omega)) (congrFun (e 58 (by omega) (by omega)) 4), ag_PA_fr h.2.2.2.1 (fun k hk => e _ (by show 24 ≤ 69 + k; omega) (by show 69 + k ≤ 80; omega)), ag_PA_fr h.2.2.2.2 (fun k hk => e _ (by show 24 ≤ 75 + k; omega) (by show 75 + k ≤ 80; omega))⟩
/-- a row of the tape goes over -/
theorem iv_row {b b' : aw_S} {p p' : Nat} {Ψ : ap_T} (hw : ap_wf Ψ) (h : ap_row b p Ψ) (e : ∀ j, j < 340 → b'.1 1 (p' + j) = b.1 1 (p + j)) : ap_row b' p' Ψ := by
  obtain ⟨w1, w2, w3, w4, w5, w6, w7, w8, w9, w10⟩ := hw
  obtain ⟨r1, r2, r3, r4, r5, r6, r7⟩ := h
  refine ⟨(e 0 (by omega)).trans r1, (e 1 (by omega)).trans r2, (e 2 (by omega)).trans r3, fun s hs => ?_, fun c hc => ?_, fun c hc => ?_, fun x hx => ?_⟩
  · rw [e _ (by omega), e _ (by omega), e _ (by omega)]; exact r4 s hs
  · rw [e _ (by omega)]; exact r5 c hc
  · rw [e _ (by omega), e _ (by omega), e _ (by omega), e _ (by omega)]; exact r6 c hc
  · rw [e _ (by omega), e _ (by omega), e _ (by omega)]; exact r7 x hx
theorem iv_B {b b' : aw_S} {Γ : ag_T} (hw : ag_wf Γ) (h : ag_B b Γ) (e1 : ∀ j, j < 340 → b'.1 1 j = b.1 1 j) (e : ∀ c, 4 ≤ c → c ≤ 13 → b'.1 c = b.1 c) (e0 : b'.1 0 14 = b.1 0 14) : ag_B b' Γ := by
  obtain ⟨h1, h2, h3, h4, h5, h6, h7, h8, h9⟩ := h
  have hX := hw.2.2.2.2.2.2.1
  have bb : ∀ n c, n < ag_N Γ → ag_kd Γ n = 4 ∨ ag_kd Γ n = 5 → ag_bl Γ n = some c → c < 16 := fun n c hn hk hc => by
    rcases hw.2.2.2.2.2.1 n hn with z | z | z | z | z | z | z
    · omega
    · omega
    · omega
    · omega
    · obtain ⟨d, hd, ed⟩ := z.2.1; rw [hc] at ed; cases ed; exact hd
    · obtain ⟨d, hd, ed⟩ := z.2.1; rw [hc] at ed; cases ed; exact hd
    · omega
  refine ⟨ao_TB_fr h1 e0 (e 7 (by omega) (by omega)), fun n hn => ?_, fun n hn hk => ?_, fun n hn hk => ?_, fun n c hn hk hc => ?_, fun n c hn hk hc => ?_, (e1 2 (by omega)).trans h7, fun x hx => ?_, (e1 0 (by omega)).trans h9⟩
  · rw [e 4 (by omega) (by omega), e 5 (by omega) (by omega)]; exact h2 n hn
  · obtain ⟨s, hs, q1, q2, q3, q4⟩ := h3 n hn hk
    exact ⟨s, hs, by rw [e 6 (by omega) (by omega)]; exact q1, by rw [e1 _ (by omega)]; exact q2, fun z => by rw [e1 _ (by omega)]; exact q3 z, fun z => by rw [e1 _ (by omega)]; exact q4 z⟩
  · rw [e 6 (by omega) (by omega)]; exact h4 n hn hk
  · have := bb n c hn (Or.inr hk) hc
    rw [e1 _ (by omega)]; exact h5 n c hn hk hc
  · have := bb n c hn hk hc
    rw [e1 _ (by omega), e1 _ (by omega)]; exact h6 n c hn hk hc
  · rw [e1 _ (by omega), e1 _ (by omega), e1 _ (by omega)]; exact h8 x hx
def iv_b0 (b b' : aw_S) : Prop := (∀ j, j < 340 → b'.1 1 j = b.1 1 j) ∧ (∀ c, (4 ≤ c ∧ c ≤ 13) ∨ (36 ≤ c ∧ c ≤ 39) → b'.1 c = b.1 c) ∧ b'.1 0 14 = b.1 0 14 ∧ b'.1 0 15 = b.1 0 15 ∧ b'.1 0 16 = b.1 0 16 ∧ b'.1 0 54 = b.1 0 54
theorem iv_BA {b b' : aw_S} {Γ : ag_T} (hw : ag_wf Γ) (h : ag_BA b Γ) (e : iv_b0 b b') : ag_BA b' Γ := by
  obtain ⟨e1, e2, e14, e15, e16, e54⟩ := e
  obtain ⟨h1, h2, h3, h4, h5, h6, h7, h8, h9⟩ := h
  refine ⟨iv_B hw h1 e1 (fun c p q => e2 c (by omega)) e14, fun x hx => ⟨fun w hw n hn => ?_, fun how w hw n hn => ?_⟩, fun n hn v hv => ?_, fun v n hv hn => ?_, fun n hn => ?_, e54.trans h6, fun n hn => ?_, e16.trans h8, e15.trans h9⟩
  · rw [e2 12 (by omega)]; exact (h2 x hx).1 w hw n hn
  · rw [e2 13 (by omega)]; exact (h2 x hx).2 how w hw n hn
  · rw [e2 36 (by omega)]; exact h3 n hn v hv
  · rw [e2 37 (by omega)]; exact h4 v n hv hn
  · rw [e2 39 (by omega)]; exact h5 n hn
  · rw [e2 8 (by omega)]; exact h7 n hn
def iv_a0 (a a' : aw_S) : Prop := (∀ c, c = 3 ∨ c = 4 ∨ (24 ≤ c ∧ c ≤ 80) ∨ 136 ≤ c → a'.1 c = a.1 c) ∧ a'.2.1 59 = a.2.1 59 ∧ a'.2.1 60 = a.2.1 60 ∧ wa_rr a' ∧ ∀ Γ, ot_K a Γ → ot_K a' Γ
theorem iv_TA {a a' : aw_S} {c L : Nat} {t : Nat → Nat} (h : pz_TA a c L t) (e : a'.1 c = a.1 c) (e' : a'.1 (c + 1) = a.1 (c + 1)) : pz_TA a' c L t := by
  unfold pz_TA
  rw [e, e']
  exact h
theorem iv_G {a a' b b' : aw_S} {Γ : ag_T} (h : iq_G a b Γ) (ha : iv_a0 a a') (hb : iv_b0 b b') : iq_G a' b' Γ := ⟨h.1, iv_AA h.2.1 (fun c p q => ha.1 c (by omega)) ha.2.1 ha.2.2.1, iv_BA h.1 h.2.2 hb⟩
theorem iv_prog_fr {a a' b b' : aw_S} (h : iv_prog a b) (ha : iv_a0 a a') (hb : iv_b0 b b') : iv_prog a' b' := by
  rcases h with h | ⟨Ψ, ⟨r, L, t, T, TA, TO⟩, G, K⟩
  · refine Or.inl ⟨⟨?_, ?_, ?_, ?_, ?_⟩, ?_, ?_, ?_, ?_, ?_⟩
    · rw [ha.1 24 (by omega)]; exact h.1.1
    · rw [ha.1 24 (by omega)]; exact h.1.2.1
    · rw [ha.1 25 (by omega)]; exact h.1.2.2.1
    · rw [ha.1 41 (by omega)]; exact h.1.2.2.2.1
    · rw [ha.1 58 (by omega)]; exact h.1.2.2.2.2
    · rw [hb.2.2.1]; exact h.2.1
    · rw [hb.2.2.2.1]; exact h.2.2.1
    · rw [hb.2.2.2.2.1]; exact h.2.2.2.1
    · rw [hb.2.2.2.2.2]; exact h.2.2.2.2.1
    · rw [hb.1 2 (by omega)]; exact h.2.2.2.2.2
  · exact Or.inr ⟨Ψ, ⟨iv_row TO.1 r (fun j hj => by rw [Nat.zero_add]; exact hb.1 j hj), L, t, T, iv_TA TA (ha.1 3 (by omega)) (ha.1 4 (by omega)), TO⟩, iv_G G ha hb, ha.2.2.2.2 _ K⟩
theorem iv_kept_fr {a a' b b' : aw_S} {i : Nat} (hi : i < 3) (h : iv_kept a b i) (ha : ∀ c, 136 ≤ c → a'.1 c = a.1 c) (hb : ∀ j, 340 ≤ j → j < 1360 → b'.1 1 j = b.1 1 j) (h33 : b'.1 33 = b.1 33) : iv_kept a' b' i := by
  rcases h with ⟨h1, h2⟩ | ⟨h1, Ψ, r, L, t, T, TA, TO⟩
  · exact Or.inl ⟨by rw [h33]; exact h1, by rw [ha _ (by omega)]; exact h2⟩
  · exact Or.inr ⟨by rw [h33]; exact h1, Ψ, iv_row TO.1 r (fun j hj => hb _ (by omega) (by omega)), L, t, T, iv_TA TA (ha _ (by omega)) (ha _ (by omega)), TO⟩
theorem iv_core_fr {a a' b b' : aw_S} (h : iv_core a b) (ha : iv_a0 a a') (hb : iv_b0 b b') (hk : ∀ j, 340 ≤ j → j < 1360 → b'.1 1 j = b.1 1 j) (h33 : b'.1 33 = b.1 33) : iv_core a' b' := by
  obtain ⟨⟨f1, f2, f3, f4⟩, k, p, z, r⟩ := h
  refine ⟨⟨fun i hi => ?_, fun i hi => ?_, fun i hi => ?_, fun i hi => ?_⟩, fun i hi => iv_kept_fr hi (k i hi) (fun c hc => ha.1 c (by omega)) hk h33, iv_prog_fr p ha hb, fun n hn => ?_, ha.2.2.2.1⟩
  · rw [ha.1 4 (by omega)]; exact f1 i hi
  · rw [ha.1 137 (by omega)]; exact f2 i hi
  · rw [ha.1 139 (by omega)]; exact f3 i hi
  · rw [ha.1 141 (by omega)]; exact f4 i hi
  · rw [ha.1 64 (by omega), ha.1 65 (by omega)]; exact z n hn
/-- a class, a reference, that answer and move what nothing is said of -/
def iv_qa (a a' : aw_S) : Prop := (∀ c, c < 7 ∨ (24 ≤ c ∧ c ≤ 86) ∨ 136 ≤ c → a'.1 c = a.1 c) ∧ a'.2.1 59 = a.2.1 59 ∧ a'.2.1 60 = a.2.1 60 ∧ wa_rr a' ∧ ∀ Γ, ot_K a Γ → ot_K a' Γ
def iv_qb (b b' : aw_S) : Prop := (∀ c, c = 1 ∨ c = 2 ∨ (4 ≤ c ∧ c ≤ 13) ∨ c = 15 ∨ (20 ≤ c ∧ c ≤ 22) ∨ c = 33 ∨ c = 34 ∨ (36 ≤ c ∧ c ≤ 39) → b'.1 c = b.1 c) ∧ ∀ j, j = 2 ∨ j = 4 ∨ j = 14 ∨ j = 15 ∨ j = 16 ∨ j = 33 ∨ j = 34 ∨ j = 48 ∨ j = 54 → b'.1 0 j = b.1 0 j
theorem iv_qa0 {a a' : aw_S} (h : iv_qa a a') : iv_a0 a a' := ⟨fun c hc => h.1 c (by omega), h.2⟩
theorem iv_qb0 {b b' : aw_S} (h : iv_qb b b') : iv_b0 b b' := ⟨fun j _ => congrFun (h.1 1 (by omega)) j, fun c hc => h.1 c (by omega), h.2 14 (by omega), h.2 15 (by omega), h.2 16 (by omega), h.2 54 (by omega)⟩
theorem iv_core_q {a a' b b' : aw_S} (h : iv_core a b) (ha : iv_a0 a a') (hb : iv_qb b b') : iv_core a' b' := iv_core_fr h ha (iv_qb0 hb) (fun j _ _ => congrFun (hb.1 1 (by omega)) j) (hb.1 33 (by omega))
theorem iv_q {a a' b b' : aw_S} (h : iv_I a b) (ha : iv_qa a a') (hb : iv_qb b b') : iv_I a' b' := by
  obtain ⟨c, ⟨tf, L, hL, t1, t2, t3⟩, ⟨k, hk, w1, w2, w3⟩, e, told, ran⟩ := h
  refine ⟨iv_core_q c (iv_qa0 ha) hb, ⟨fun i hi => by rw [ha.1 2 (by omega)]; exact tf i hi, L, hL, by rw [ha.1 1 (by omega)]; exact t1, by rw [hb.2 2 (by omega)]; exact t2, fun i hi => by rw [ha.1 2 (by omega), hb.1 2 (by omega)]; exact t3 i hi⟩, ⟨k, hk, by rw [ha.1 5 (by omega)]; exact w1, by rw [hb.2 48 (by omega)]; exact w2, fun i hi => by rw [ha.1 6 (by omega), hb.1 34 (by omega)]; exact w3 i hi⟩, ?_, fun v hv => ?_, ?_⟩
  · rw [ha.1 0 (by omega), hb.2 4 (by omega)]; exact e
  · rw [ha.1 81 (by omega), hb.1 15 (by omega)]; exact told v hv
  · unfold iv_ran
    rw [ha.1 0 (by omega), ha.1 82 (by omega), ha.1 83 (by omega), ha.1 84 (by omega), ha.1 85 (by omega), hb.2 34 (by omega), hb.2 33 (by omega), hb.1 20 (by omega), hb.1 21 (by omega), hb.1 22 (by omega)]
    exact ran
theorem iv_P {a b : aw_S} (h : iv_I a b) : iq_P a b := by
  rcases h.1.2.2.1 with z | ⟨Ψ, _, G, _⟩
  · exact Or.inl z
  · exact Or.inr ⟨_, G⟩
theorem iv_qa_rf {a b : aw_S} (h : iv_I a b) : iv_qa a a := ⟨fun _ _ => rfl, rfl, rfl, h.1.2.2.2.2, fun _ z => z⟩
theorem iv_qb_rf {b : aw_S} : iv_qb b b := ⟨fun _ _ => rfl, fun _ _ => rfl⟩
theorem iv_one {a b b' : aw_S} {c : Nat} (h : iv_I a b) (hb : ag_one c b b') (hc : c = 14 ∨ c = 35) : iv_I a b' := iv_q h (iv_qa_rf h) ⟨fun k hk => hb.2 k (by omega), fun j _ => congrFun (hb.2 0 (by omega)) j⟩
/-- both answer alike, and it holds again -/
def iv_ok (m m' : Option (Int32 × aw_S)) : Prop := ao_2 m m' (fun p q => p.1 = q.1 ∧ iv_I p.2 q.2)

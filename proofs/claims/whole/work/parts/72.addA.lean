/-! ===== the class: a node for each line reached ===== -/
def ap_ga (σ s : aw_S) : Prop := s.2 = σ.2 ∧ (∀ k, k < 24 ∨ 40 < k ∨ (25 ≤ k ∧ k ≤ 28) → s.1 k = σ.1 k) ∧ ∀ j, j ≠ 13 → s.1 24 j = σ.1 24 j
theorem ap_ga_rf {σ : aw_S} : ap_ga σ σ := ⟨rfl, fun _ _ => rfl, fun _ _ => rfl⟩
theorem ap_ga_tr {σ s t : aw_S} (h : ap_ga σ s) (h' : ap_ga s t) : ap_ga σ t := ⟨h'.1.trans h.1, fun k hk => (h'.2.1 k hk).trans (h.2.1 k hk), fun j hj => (h'.2.2 j hj).trans (h.2.2 j hj)⟩
theorem ap_ga_s {σ : aw_S} {c n : Nat} {v : Int32} (h : 29 ≤ c ∧ c ≤ 40) : ap_ga σ (aw_sI σ c n v) := ⟨rfl, fun k hk => ao_sI_o (by omega), fun j _ => congrFun (ao_sI_o (by omega)) j⟩
theorem ap_ga_n {σ : aw_S} {v : Int32} : ap_ga σ (aw_sI σ 24 13 v) := ⟨rfl, fun k hk => ao_sI_o (by omega), fun j hj => ao_sI_i hj⟩
def ap_na (s : aw_S) (Ψ : ap_T) (n : Nat) : Prop := s.1 29 n = nI (ap_nk Ψ (ap_li Ψ n)) ∧ s.1 30 n = ao_o ((ap_li Ψ n).map (fun q => q.1)) ∧ s.1 31 n = ao_o (ap_nl Ψ (ap_li Ψ n)) ∧ s.1 32 n = ao_o (ap_nop Ψ (ap_li Ψ n)) ∧ s.1 33 n = ao_o (ap_nex Ψ (ap_li Ψ n)) ∧ s.1 34 n = ao_o (ap_n1 Ψ (ap_li Ψ n)) ∧ s.1 35 n = ao_o (ap_n2 Ψ (ap_li Ψ n))
theorem ap_na_fr {s t : aw_S} {Ψ : ap_T} {n : Nat} (h : ap_na s Ψ n) (e : ∀ c, 29 ≤ c → c ≤ 35 → t.1 c n = s.1 c n) : ap_na t Ψ n :=
  ⟨(e 29 (by omega) (by omega)).trans h.1, (e 30 (by omega) (by omega)).trans h.2.1, (e 31 (by omega) (by omega)).trans h.2.2.1, (e 32 (by omega) (by omega)).trans h.2.2.2.1, (e 33 (by omega) (by omega)).trans h.2.2.2.2.1, (e 34 (by omega) (by omega)).trans h.2.2.2.2.2.1, (e 35 (by omega) (by omega)).trans h.2.2.2.2.2.2⟩
theorem ap_rl_fr {s t : aw_S} {Ψ : ap_T} {l : Nat} {q : Nat × Option Nat} (h : ap_rl s Ψ l q) (e : ∀ k, k < 24 → t.1 k = s.1 k) : ap_rl t Ψ l q := by
  unfold ap_rl at h ⊢
  rw [e 15 (by omega), e 16 (by omega), e 17 (by omega), e 18 (by omega), e 19 (by omega), e 20 (by omega), e 21 (by omega)]
  exact h
set_option maxHeartbeats 2000000 in
theorem ap_add {s : aw_S} {n : Nat} {k : Int32} (hn : n < 128) (h : s.1 24 13 = nI n) : ao_ok (m_Gr_add s k) (fun r => r.1 = nI n ∧ ap_ga s r.2 ∧ r.2.1 24 13 = nI (n + 1) ∧ (∀ c m, 29 ≤ c → c ≤ 40 → m ≠ n → r.2.1 c m = s.1 c m) ∧ r.2.1 29 n = k ∧ (∀ c, 30 ≤ c → c ≤ 37 → r.2.1 c n = -1) ∧ ∀ c, 38 ≤ c → c ≤ 40 → r.2.1 c = s.1 c) := by
  unfold m_Gr_add
  rw [h]
  refine ao_let ?_
  rw [nI_clamp (show n < 2 ^ 31 by omega)]
  have v : ∀ {x : Option (Int32 × aw_S)} {Q : Int32 × aw_S → Prop}, ao_ok x Q → ao_ok (aw_gd (vp_in (nI n) 128) x) Q := fun h => ao_gd (vp_in_nI hn (by omega)) h
  refine ao_ifn (nI_pos (by omega)) (ao_ifp (nI_lt (b := 128) hn (by omega)) ?_)
  refine v (ao_let (v (ao_let (v (ao_let (v (ao_let (v (ao_let (v (ao_let (v (ao_let (v (ao_let (v (ao_let (ao_let (ao_some ?_)))))))))))))))))))
  refine ⟨rfl, ?_, ?_, ?_, ?_, ?_, ?_⟩
  · exact ap_ga_tr (ap_ga_tr (ap_ga_tr (ap_ga_tr (ap_ga_tr (ap_ga_tr (ap_ga_tr (ap_ga_tr (ap_ga_tr (ap_ga_s (by omega)) (ap_ga_s (by omega))) (ap_ga_s (by omega))) (ap_ga_s (by omega))) (ap_ga_s (by omega))) (ap_ga_s (by omega))) (ap_ga_s (by omega))) (ap_ga_s (by omega))) (ap_ga_s (by omega))) ap_ga_n
  · refine (ao_sI_s _ _ _ _).trans ?_
    rw [ao_sI_o (by omega), ao_sI_o (by omega), ao_sI_o (by omega), ao_sI_o (by omega), ao_sI_o (by omega), ao_sI_o (by omega), ao_sI_o (by omega), ao_sI_o (by omega), ao_sI_o (by omega), h, nI_1]
  · intro c m h1 h2 hm
    exact (congrFun (ao_sI_o (by omega)) m).trans ((ao_sI_i hm).trans ((ao_sI_i hm).trans ((ao_sI_i hm).trans ((ao_sI_i hm).trans ((ao_sI_i hm).trans ((ao_sI_i hm).trans ((ao_sI_i hm).trans ((ao_sI_i hm).trans (ao_sI_i hm)))))))))
  · simp [ao_sI]
  · intro c h1 h2
    have hc : c = 30 ∨ c = 31 ∨ c = 32 ∨ c = 33 ∨ c = 34 ∨ c = 35 ∨ c = 36 ∨ c = 37 := by omega
    rcases hc with rfl | rfl | rfl | rfl | rfl | rfl | rfl | rfl <;> simp [ao_sI]
  · intro c h1 h2
    show (aw_sI _ 24 13 _).1 c = _
    rw [ao_sI_o (by omega), ao_sI_o (by omega), ao_sI_o (by omega), ao_sI_o (by omega), ao_sI_o (by omega), ao_sI_o (by omega), ao_sI_o (by omega), ao_sI_o (by omega), ao_sI_o (by omega), ao_sI_o (by omega)]
set_option maxHeartbeats 2000000 in
theorem ap_fillN {s : aw_S} {Ψ : ap_T} {n l : Nat} {q : Nat × Option Nat} (hn : n < 128) (hl : l < 76) (hr : ap_rl s Ψ l q) : ao_ok (m_Gr_fill s (nI n) (nI l)) (fun t => ap_ga s t ∧ t.1 24 = s.1 24 ∧ (∀ c, 36 ≤ c → c ≤ 40 → t.1 c = s.1 c) ∧ t.1 29 = s.1 29 ∧ (∀ c m, m ≠ n → t.1 c m = s.1 c m) ∧ t.1 30 n = nI q.1 ∧ t.1 31 n = ao_o (ap_nl Ψ (some q)) ∧ t.1 32 n = ao_o (ap_nop Ψ (some q)) ∧ t.1 33 n = ao_o (ap_nex Ψ (some q)) ∧ t.1 34 n = ao_o (ap_n1 Ψ (some q)) ∧ t.1 35 n = ao_o (ap_n2 Ψ (some q))) := by
  obtain ⟨_, r16, r17, r18, r19, r20, r21⟩ := hr
  unfold m_Gr_fill
  rw [nI_clamp (show n < 2 ^ 31 by omega), nI_clamp (show l < 2 ^ 31 by omega)]
  have v : ∀ {x : Option aw_S} {Q : aw_S → Prop}, ao_ok x Q → ao_ok (aw_gd (vp_in (nI l) 76) (aw_gd (vp_in (nI n) 128) x)) Q := fun h => ao_gd (vp_in_nI hl (by omega)) (ao_gd (vp_in_nI hn (by omega)) h)
  refine v (ao_let (v (ao_let (v (ao_let (v (ao_let (v (ao_let (v (ao_let (ao_some ?_))))))))))))
  refine ⟨?_, ?_, ?_, ?_, ?_, ?_, ?_, ?_, ?_, ?_, ?_⟩
  · exact ap_ga_tr (ap_ga_tr (ap_ga_tr (ap_ga_tr (ap_ga_tr (ap_ga_s (by omega)) (ap_ga_s (by omega))) (ap_ga_s (by omega))) (ap_ga_s (by omega))) (ap_ga_s (by omega))) (ap_ga_s (by omega))
  · exact (ao_sI_o (by omega)).trans ((ao_sI_o (by omega)).trans ((ao_sI_o (by omega)).trans ((ao_sI_o (by omega)).trans ((ao_sI_o (by omega)).trans (ao_sI_o (by omega))))))
  · intro c h1 h2
    exact (ao_sI_o (by omega)).trans ((ao_sI_o (by omega)).trans ((ao_sI_o (by omega)).trans ((ao_sI_o (by omega)).trans ((ao_sI_o (by omega)).trans (ao_sI_o (by omega))))))
  · exact (ao_sI_o (by omega)).trans ((ao_sI_o (by omega)).trans ((ao_sI_o (by omega)).trans ((ao_sI_o (by omega)).trans ((ao_sI_o (by omega)).trans (ao_sI_o (by omega))))))
  · intro c m hm
    exact (ao_sI_i hm).trans ((ao_sI_i hm).trans ((ao_sI_i hm).trans ((ao_sI_i hm).trans ((ao_sI_i hm).trans (ao_sI_i hm)))))
  · simp [ao_sI, r16]
  · simp [ao_sI, r17]
  · simp [ao_sI, r18]
  · simp [ao_sI, r19]
  · simp [ao_sI, r20]
  · simp [ao_sI, r21]
def ap_AI (σ : aw_S) (Ψ : ap_T) (l : Nat) (s : aw_S) : Prop := ap_ga σ s ∧ ∃ b n, b ≤ ap_B Ψ ∧ ap_fr Ψ b + b ≤ l ∧ (b < ap_B Ψ → l ≤ ap_fr Ψ (b + 1) + b) ∧ (ap_RB Ψ b → n = ap_bg Ψ b + (l - (ap_fr Ψ b + b))) ∧ (¬ ap_RB Ψ b → n = ap_bg Ψ b) ∧ s.1 24 13 = nI n ∧ (∀ m, m < n → ap_na s Ψ m ∧ s.1 37 m = -1) ∧ (∀ a, a < ap_B Ψ → ap_RB Ψ a → (a < b ∨ (a = b ∧ ap_fr Ψ b + b < l)) → s.1 40 a = nI (ap_bg Ψ a)) ∧ ∀ a, a < ap_B Ψ → (b < a ∨ (a = b ∧ l = ap_fr Ψ b + b)) → s.1 40 a = -1
set_option maxHeartbeats 4000000 in
theorem ap_addReached {σ s0 : aw_S} {Ψ : ap_T} (hw : ap_wf Ψ) (h : ap_rd σ Ψ) (g0 : ap_ga σ s0) (n0 : s0.1 24 13 = nI 1) (d0 : ap_na s0 Ψ 0) (z0 : s0.1 37 0 = -1) : ao_ok (m_Gr_addReached s0) (fun s => ap_ga σ s ∧ s.1 24 13 = nI (ap_N0 Ψ) ∧ (∀ m, m < ap_N0 Ψ → ap_na s Ψ m ∧ s.1 37 m = -1) ∧ ∀ b, b < ap_B Ψ → ap_RB Ψ b → s.1 40 b = nI (ap_bg Ψ b)) := by
  have hB := hw.2.1
  have hS := hw.2.2.1
  have h77 := ap_N0_le hw
  have R_ : ∀ s, ap_ga σ s → ap_rd s Ψ := fun s hs => ap_rd_fr h (fun k hk => hs.2.1 k (Or.inl hk))
  obtain ⟨rb, hrb, hrt⟩ := ap_reached hw (R_ s0 g0)
  unfold m_Gr_addReached
  refine ao_bde hrb (ao_bd (ao_imp (ao_fill (c := 40) (n := 16) (by omega)) ?_))
  rintro s1 ⟨c1, l1, f1⟩
  have r1 : ∀ k, k ≠ 40 → s1.1 k = s0.1 k := fun k hk => ao_ch_row c1 k (fun hm => hk (List.mem_singleton.mp hm)) (fun q hq => by cases hq)
  have g1 : ap_ga σ s1 := ap_ga_tr g0 ⟨l1, fun k hk => r1 k (by omega), fun j _ => congrFun (r1 24 (by omega)) j⟩
  have b0 : ap_bg Ψ 0 = 1 := rfl
  have fr0 := hw.2.2.2.1
  refine ao_bd (ao_imp (ao_for (Q := fun s => ap_ga σ s ∧ s.1 24 13 = nI (ap_N0 Ψ) ∧ (∀ m, m < ap_N0 Ψ → ap_na s Ψ m ∧ s.1 37 m = -1) ∧ ∀ b, b < ap_B Ψ → ap_RB Ψ b → s.1 40 b = nI (ap_bg Ψ b)) (ap_S Ψ + ap_B Ψ) (fun l (s : Int32 × aw_S) => s.1 = nI l ∧ ap_AI σ Ψ l s.2) (a := 0) ⟨rfl, g1, 0, 1, Nat.zero_le _, by omega, fun _ => Nat.zero_le _, fun _ => by omega, fun _ => by omega, (congrFun (r1 24 (by omega)) 13).trans n0, fun m hm => ?_, fun a _ _ ha => ?_, fun a ha _ => f1 a (by omega)⟩ (Nat.zero_le _) (by omega) ?_ ?_) (fun s hs => ao_some hs))
  · rw [show m = 0 by omega]
    exact ⟨ap_na_fr d0 (fun c h1 h2 => congrFun (r1 c (by omega)) 0), (congrFun (r1 37 (by omega)) 0).trans z0⟩
  · omega
  · rintro l ⟨x, s⟩ hl ⟨e1, g, b, n, hbB, hlo, hhi, hn1, hn0, hN, hd, hst, hun⟩
    have e1 : x = nI l := e1
    subst e1
    have g : ap_ga σ s := g
    have hN : s.1 24 13 = nI n := hN
    have hd : ∀ m, m < n → ap_na s Ψ m ∧ s.1 37 m = -1 := hd
    have hst : ∀ a, a < ap_B Ψ → ap_RB Ψ a → (a < b ∨ (a = b ∧ ap_fr Ψ b + b < l)) → s.1 40 a = nI (ap_bg Ψ a) := hst
    have hun : ∀ a, a < ap_B Ψ → (b < a ∨ (a = b ∧ l = ap_fr Ψ b + b)) → s.1 40 a = -1 := hun
    have efB := hw.2.2.2.2.2.1
    have hb : b < ap_B Ψ := by
      refine Nat.lt_of_not_le (fun z => ?_)
      have : b = ap_B Ψ := by omega
      rw [this, efB] at hlo
      omega
    have hhi := hhi hb
    have hbg := ap_bg_mono (Ψ := Ψ) (show b + 1 ≤ ap_B Ψ by omega)
    unfold ap_N0 at h77
    have R := R_ s g
    obtain ⟨o, hr, ho, hli⟩ : ∃ o, ap_rl s Ψ l (b, o) ∧ (o = none ↔ l = ap_fr Ψ (b + 1) + b) ∧ (ap_RB Ψ b → ap_li Ψ (ap_bg Ψ b + (l - (ap_fr Ψ b + b))) = some (b, o)) := by
      by_cases ql : l = ap_fr Ψ (b + 1) + b
      · refine ⟨none, by rw [ql]; exact R.2.2.2.2.1 b hb, ⟨fun _ => ql, fun _ => rfl⟩, fun q => ?_⟩
        have := ap_li_e hb q
        unfold ap_len at this
        rw [show l - (ap_fr Ψ b + b) = ap_fr Ψ (b + 1) - ap_fr Ψ b by omega]
        exact this
      · refine ⟨some (l - b), ?_, ⟨fun z => (by cases z), fun z => absurd z ql⟩, fun q => ?_⟩
        · have := R.2.2.2.1 b (l - b) hb (by omega) (by omega)
          rw [show l - b + b = l by omega] at this
          exact this
        · have := ap_li_s hw hb q (s := l - b) (by omega) (by omega)
          rw [show l - (ap_fr Ψ b + b) = l - b - ap_fr Ψ b by omega]
          exact this
    have r15 : s.1 15 l = nI (ap_nk Ψ (some (b, o))) := hr.1
    have r16 : s.1 16 l = nI b := hr.2.1
    show ao_ok (m_Gr_addReached_B15 s rb (nI l)) _
    unfold m_Gr_addReached_B15
    rw [R.1, if_neg (nI_ge hl (by omega)), if_neg (show ¬ (76 : Int32) ≤ nI l from nI_ge (b := 76) (by omega) (by omega)), ao_gdn (by omega) (by omega), nI_clamp (show l < 2 ^ 31 by omega), r16]
    refine ao_let (ao_ifn (nI_pos (by omega)) (ao_ifn (nI_ge (b := 16) (by omega) (by omega)) ?_))
    rw [ao_bit (by omega)]
    by_cases q : ap_RB Ψ b
    · have en := hn1 q
      rw [ap_bg_s1 q] at hbg
      rw [← en] at hli
      have hli := hli q
      refine ao_ifp (ao_b1 ((hrt b hb).mpr q)) ?_
      rw [ao_gdn (by omega) (by omega), r15]
      refine ao_bd2 (ao_imp (ap_add (n := n) (by omega) hN) ?_)
      rintro ⟨x, s2⟩ ⟨e, g2, n2, o2, k2, z2, r2⟩
      have e : x = nI n := e
      subst e
      have g2 : ap_ga s s2 := g2
      have n2 : s2.1 24 13 = nI (n + 1) := n2
      have o2 : ∀ c m, 29 ≤ c → c ≤ 40 → m ≠ n → s2.1 c m = s.1 c m := o2
      have k2 : s2.1 29 n = nI (ap_nk Ψ (some (b, o))) := k2
      have z2 : ∀ c, 30 ≤ c → c ≤ 37 → s2.1 c n = -1 := z2
      have r2 : ∀ c, 38 ≤ c → c ≤ 40 → s2.1 c = s.1 c := r2
      refine ao_ifn (ao_m1 (by omega)) (ao_bd (ao_imp (ap_fillN (n := n) (l := l) (by omega) (by omega) (ap_rl_fr hr (fun k hk => g2.2.1 k (Or.inl hk)))) ?_))
      rintro s3 ⟨g3, n3, r3, k3, o3, v30, v31, v32, v33, v34, v35⟩
      have hna : ap_na s3 Ψ n := by
        unfold ap_na
        rw [hli]
        exact ⟨(congrFun k3 n).trans k2, v30, v31, v32, v33, v34, v35⟩
      have h40 : s3.1 40 = s.1 40 := (r3 40 (by omega) (by omega)).trans (r2 40 (by omega) (by omega))
      have fin : ∀ y, y = nI (ap_bg Ψ b) → ao_ok (m_Gr_addReached_J114 s3 rb (nI l) (nI b) y) (Sum.elim (fun s => ap_ga σ s ∧ s.1 24 13 = nI (ap_N0 Ψ) ∧ (∀ m, m < ap_N0 Ψ → ap_na s Ψ m ∧ s.1 37 m = -1) ∧ ∀ b, b < ap_B Ψ → ap_RB Ψ b → s.1 40 b = nI (ap_bg Ψ b)) (fun (s : Int32 × aw_S) => s.1 = nI (l + 1) ∧ ap_AI σ Ψ (l + 1) s.2)) := by
        intro y hy
        unfold m_Gr_addReached_J114
        rw [ao_gdn (by omega) (by omega), nI_clamp (show b < 2 ^ 31 by omega)]
        refine ao_let ?_
        have gt : ap_ga σ (aw_sI s3 40 b y) := ap_ga_tr (ap_ga_tr (ap_ga_tr g g2) g3) (ap_ga_s (by omega))
        have nt : (aw_sI s3 40 b y).1 24 13 = nI (n + 1) := (congrFun (ao_sI_o (by omega)) 13).trans ((congrFun n3 13).trans n2)
        have dt : ∀ m, m < n + 1 → ap_na (aw_sI s3 40 b y) Ψ m ∧ (aw_sI s3 40 b y).1 37 m = -1 := by
          intro m hm
          have e37 : (aw_sI s3 40 b y).1 37 m = s2.1 37 m := (congrFun (ao_sI_o (by omega)) m).trans (congrFun (r3 37 (by omega) (by omega)) m)
          by_cases qm : m = n
          · rw [qm] at e37 ⊢
            exact ⟨ap_na_fr hna (fun c h1 h2 => congrFun (ao_sI_o (by omega)) _), e37.trans (z2 37 (by omega) (by omega))⟩
          · have hdm := hd m (by omega)
            exact ⟨ap_na_fr hdm.1 (fun c h1 h2 => (congrFun (ao_sI_o (by omega)) m).trans ((o3 c m qm).trans (o2 c m (by omega) (by omega) qm))), e37.trans ((o2 37 m (by omega) (by omega) qm).trans hdm.2)⟩
        have tb : (aw_sI s3 40 b y).1 40 b = nI (ap_bg Ψ b) := (ao_sI_s _ _ _ _).trans hy
        have ta : ∀ a, a ≠ b → (aw_sI s3 40 b y).1 40 a = s.1 40 a := fun a ha => (ao_sI_i ha).trans (congrFun h40 a)
        show ao_ok (m_Gr_addReached_J115 (aw_sI s3 40 b y) rb (nI l)) _
        generalize aw_sI s3 40 b y = t at gt nt dt tb ta ⊢
        refine ao_let (ao_inr ⟨nI_1 l, gt, ?_⟩)
        by_cases ql : l = ap_fr Ψ (b + 1) + b
        · have e1' : ap_bg Ψ (b + 1) = n + 1 := by rw [ap_bg_s1 q]; omega
          refine ⟨b + 1, n + 1, by omega, by omega, fun z => ?_, fun _ => by omega, fun _ => e1'.symm, nt, dt, fun a ha hra hca => ?_, fun a ha hca => ?_⟩
          · have := hw.2.2.2.2.1 (b + 1) z; omega
          · by_cases qa : a = b
            · subst qa; exact tb
            · exact (ta a qa).trans (hst a ha hra (Or.inl (by omega)))
          · exact (ta a (by omega)).trans (hun a ha (Or.inl (by omega)))
        · refine ⟨b, n + 1, by omega, by omega, fun _ => by omega, fun _ => by omega, fun z => absurd q z, nt, dt, fun a ha hra hca => ?_, fun a ha hca => ?_⟩
          · by_cases qa : a = b
            · subst qa; exact tb
            · exact (ta a qa).trans (hst a ha hra (Or.inl (by omega)))
          · exact (ta a (by omega)).trans (hun a ha (Or.inl (by omega)))
      refine ao_gd (vp_in_nI (by omega) (by omega)) ?_
      rw [nI_clamp (show b < 2 ^ 31 by omega), h40]
      by_cases q1 : l = ap_fr Ψ b + b
      · exact ao_ifp (hun b hb (Or.inr ⟨rfl, q1⟩)) (fin _ (congrArg nI (show n = ap_bg Ψ b by omega)))
      · have hs40 := hst b hb q (Or.inr ⟨rfl, by omega⟩)
        refine ao_ifn (by rw [hs40]; exact ao_m1 (by omega)) (ao_gd (vp_in_nI (by omega) (by omega)) (fin _ hs40))
    · have en := hn0 q
      refine ao_ifn (by rw [ao_b0 (fun z => q ((hrt b hb).mp z))]; decide) ?_
      show ao_ok (m_Gr_addReached_J115 s rb (nI l)) _
      refine ao_let (ao_inr ⟨nI_1 l, g, ?_⟩)
      by_cases ql : l = ap_fr Ψ (b + 1) + b
      · have e1' : ap_bg Ψ (b + 1) = n := by rw [ap_bg_s0 q]; omega
        refine ⟨b + 1, n, by omega, by omega, fun z => ?_, fun _ => by omega, fun _ => e1'.symm, hN, hd, fun a ha hra hca => ?_, fun a ha hca => hun a ha (Or.inl (by omega))⟩
        · have := hw.2.2.2.2.1 (b + 1) z; omega
        · by_cases qa : a = b
          · rw [qa] at hra; exact absurd hra q
          · exact hst a ha hra (Or.inl (by omega))
      · refine ⟨b, n, by omega, by omega, fun _ => by omega, fun z => absurd z q, fun _ => en, hN, hd, fun a ha hra hca => ?_, fun a ha hca => hun a ha (by omega)⟩
        by_cases qa : a = b
        · rw [qa] at hra; exact absurd hra q
        · exact hst a ha hra (Or.inl (by omega))
  · rintro ⟨x, s⟩ ⟨e1, g, b, n, hbB, hlo, hhi, hn1, hn0, hN, hd, hst, hun⟩
    have e1 : x = nI (ap_S Ψ + ap_B Ψ) := e1
    subst e1
    have efB := hw.2.2.2.2.2.1
    have hb : b = ap_B Ψ := by
      refine Classical.byContradiction (fun z => ?_)
      have := hhi (by omega)
      have := ap_fr_mono hw (show b + 1 ≤ ap_B Ψ by omega) (Nat.le_refl _)
      omega
    subst hb
    have en : n = ap_N0 Ψ := by
      unfold ap_N0
      by_cases q : ap_RB Ψ (ap_B Ψ)
      · have := hn1 q; rw [efB] at this; omega
      · exact hn0 q
    subst en
    show ao_ok (m_Gr_addReached_B15 s rb (nI (ap_S Ψ + ap_B Ψ))) _
    unfold m_Gr_addReached_B15
    rw [(R_ s g).1, if_pos (nI_le (Nat.le_refl _) (by omega))]
    exact ao_inl ⟨g, hN, hd, fun a ha hra => hst a ha hra (Or.inl ha)⟩

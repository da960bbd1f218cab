/-! ===== THE CALLS: feed ===== -/
theorem ao_lp5 {S R : Type} {f : S → Option (R ⊕ S)} {s0 s1 s2 s3 s4 : S} {r : R} (h0 : f s0 = some (.inr s1)) (h1 : f s1 = some (.inr s2)) (h2 : f s2 = some (.inr s3)) (h3 : f s3 = some (.inr s4)) (h4 : f s4 = some (.inl r)) : aw_lp f aw_fu s0 = some r := by
  obtain ⟨m, hm⟩ : ∃ m, aw_fu = m + 5 := ⟨aw_fu - 5, by have := aw_fu_le; omega⟩
  rw [hm, ao_lp1 (m := m + 4) h0]
  show aw_lp f (m + 4) s1 = _
  rw [ao_lp1 (m := m + 3) h1]
  show aw_lp f (m + 3) s2 = _
  rw [ao_lp1 (m := m + 2) h2]
  show aw_lp f (m + 2) s3 = _
  rw [ao_lp1 (m := m + 1) h3]
  show aw_lp f (m + 1) s4 = _
  rw [ao_lp1 (m := m) h4]
  rfl
theorem iv_lo {x y : Int32} (h : ∀ i, i < 8 → bt x i = bt y i) : x.toInt8 = y.toInt8 := by
  refine Int8.toBitVec_inj.mp ?_
  rw [Int32.toBitVec_toInt8, Int32.toBitVec_toInt8]
  refine BitVec.eq_of_getLsbD_eq (fun i hi => ?_)
  rw [BitVec.getLsbD_signExtend, BitVec.getLsbD_signExtend, if_pos (by omega), if_pos (by omega)]
  exact congrArg _ (h i hi)
theorem iv_lo_u (x : Int32) {k : Nat} (hk : k ≤ 24) : (aw_ushr x (nI k)).toInt8 = (x >>> (nI k &&& 31)).toInt8 := iv_lo (fun i hi => by rw [ao_bt_ushr x (by omega), b_sshr k (by omega) x (by omega), if_pos (by omega)])
theorem iv_lo_0 (x : Int32) : x.toInt8 = (x >>> (nI 0 &&& 31)).toInt8 := iv_lo (fun i hi => by rw [b_sshr 0 (by omega) x (by omega), if_pos (by omega), Nat.zero_add])
/-- fed so far -/
def iv_T (L : Nat) (a b s t : aw_S) : Prop := (s.2 = a.2 ∧ (∀ c, c ≠ 1 → c ≠ 2 → s.1 c = a.1 c)) ∧ (t.2 = b.2 ∧ (∀ c, c ≠ 0 → c ≠ 2 → t.1 c = b.1 c) ∧ ∀ j, j ≠ 2 → t.1 0 j = b.1 0 j) ∧ iv_ft s 2 ∧ s.1 1 1 = nI L ∧ t.1 0 2 = nI L ∧ ∀ i, i < L → s.1 2 i = t.1 2 i
theorem iv_T_s {L : Nat} {a b s t : aw_S} (h : iv_T L a b s t) {z : Int32} (hz : fits .byte (.int z) = true) : iv_T (L + 1) a b (aw_sI (aw_sI s 2 L z) 1 1 (nI (L + 1))) (aw_sI (aw_sI t 2 L z) 0 2 (nI (L + 1))) := by
  obtain ⟨⟨a1, a2⟩, ⟨b1, b2, b3⟩, f, e1, e2, d⟩ := h
  refine ⟨⟨a1, fun c h1 h2 => by rw [ao_sI_o h1, ao_sI_o h2]; exact a2 c h1 h2⟩, ⟨b1, fun c h1 h2 => by rw [ao_sI_o h1, ao_sI_o h2]; exact b2 c h1 h2, fun j hj => by rw [ao_sI_i hj, ao_sI_o (by omega)]; exact b3 j hj⟩, fun i hi => ?_, ao_sI_s _ _ _ _, ao_sI_s _ _ _ _, fun i hi => ?_⟩
  · rw [ao_sI_o (by omega)]
    by_cases q : i = L
    · rw [q, ao_sI_s]; exact hz
    · rw [ao_sI_i q]; exact f i hi
  · rw [ao_sI_o (show 2 ≠ 1 by omega), ao_sI_o (show 2 ≠ 0 by omega)]
    by_cases q : i = L
    · rw [q, ao_sI_s, ao_sI_s]
    · rw [ao_sI_i q, ao_sI_i q]; exact d i (by omega)
theorem iv_put {L : Nat} {s : aw_S} (h : s.1 1 1 = nI L) (hL : L < 800) (x : Int32) : m_Te_put s 1 x = some (aw_sI (aw_sI s 2 L x.toInt8.toInt32) 1 1 (nI (L + 1))) := by
  unfold m_Te_put
  rw [h, if_neg (nI_pos (by omega)), if_neg (show ¬ (800 : Int32) ≤ nI L from nI_ge (b := 800) hL (by omega)), ao_gdn hL (by omega), nI_clamp (by omega), pk_vb, ao_ltr, ao_ltr, ao_sI_o (show 1 ≠ 1 + 1 by omega), h, nI_1]
theorem iv_B3 {L : Nat} {t : aw_S} (h : t.1 0 2 = nI L) (hL : L < 800) (x : Int32) {k : Nat} (hk : k < 32) : m_Rf_four_B3 t x (nI k) = some (.inr (nI k + (-8 : Int32), aw_sI (aw_sI t 2 L (x >>> (nI k &&& 31)).toInt8.toInt32) 0 2 (nI (L + 1)))) := by
  unfold m_Rf_four_B3
  rw [if_neg (nI_pos (by omega)), h, ao_gdn hL (by omega), nI_clamp (by omega), pk_vb, ao_ltr, ao_ltr, ao_ltr, ao_sI_o (show 0 ≠ 2 by omega), h, nI_1]
theorem iv_four {L : Nat} {a b s t : aw_S} (h : iv_T L a b s t) (hL : L + 4 ≤ 800) (x : Int32) : ao_2 (m_Te_putFour s 1 x) (m_Rf_four t x) (iv_T (L + 4) a b) := by
  have T1 := iv_T_s h (pk_fb (x >>> (nI 24 &&& 31)))
  have T2 := iv_T_s T1 (pk_fb (x >>> (nI 16 &&& 31)))
  have T3 := iv_T_s T2 (pk_fb (x >>> (nI 8 &&& 31)))
  have T4 := iv_T_s T3 (pk_fb (x >>> (nI 0 &&& 31)))
  have A : m_Te_putFour s 1 x = some (aw_sI (aw_sI (aw_sI (aw_sI (aw_sI (aw_sI (aw_sI (aw_sI s 2 L (x >>> (nI 24 &&& 31)).toInt8.toInt32) 1 1 (nI (L + 1))) 2 (L + 1) (x >>> (nI 16 &&& 31)).toInt8.toInt32) 1 1 (nI (L + 1 + 1))) 2 (L + 1 + 1) (x >>> (nI 8 &&& 31)).toInt8.toInt32) 1 1 (nI (L + 1 + 1 + 1))) 2 (L + 1 + 1 + 1) (x >>> (nI 0 &&& 31)).toInt8.toInt32) 1 1 (nI (L + 1 + 1 + 1 + 1))) := by
    unfold m_Te_putFour
    rw [show (24 : Int32) = nI 24 from rfl, show (16 : Int32) = nI 16 from rfl, show (8 : Int32) = nI 8 from rfl, aw_bd_s (iv_put h.2.2.2.1 (by omega) _), iv_lo_u x (by omega), aw_bd_s (iv_put T1.2.2.2.1 (by omega) _), iv_lo_u x (by omega), aw_bd_s (iv_put T2.2.2.2.1 (by omega) _), iv_lo_u x (by omega), aw_bd_s (iv_put T3.2.2.2.1 (by omega) _), iv_lo_0 x]
  have B : m_Rf_four t x = some (aw_sI (aw_sI (aw_sI (aw_sI (aw_sI (aw_sI (aw_sI (aw_sI t 2 L (x >>> (nI 24 &&& 31)).toInt8.toInt32) 0 2 (nI (L + 1))) 2 (L + 1) (x >>> (nI 16 &&& 31)).toInt8.toInt32) 0 2 (nI (L + 1 + 1))) 2 (L + 1 + 1) (x >>> (nI 8 &&& 31)).toInt8.toInt32) 0 2 (nI (L + 1 + 1 + 1))) 2 (L + 1 + 1 + 1) (x >>> (nI 0 &&& 31)).toInt8.toInt32) 0 2 (nI (L + 1 + 1 + 1 + 1))) := by
    unfold m_Rf_four
    refine (aw_bd_s (ao_lp5 (f := fun s => m_Rf_four_B3 s.2 x s.1) (iv_B3 h.2.2.2.2.1 (by omega) x (k := 24) (by omega)) (iv_B3 T1.2.2.2.2.1 (by omega) x (k := 16) (by omega)) (iv_B3 T2.2.2.2.2.1 (by omega) x (k := 8) (by omega)) (iv_B3 T3.2.2.2.2.1 (by omega) x (k := 0) (by omega)) ?_)).trans rfl
    show m_Rf_four_B3 _ x (-8) = _
    unfold m_Rf_four_B3
    rw [if_pos (by decide)]
  rw [A, B]
  exact ao_2s T4
theorem i_feed {a b : aw_S} (h : iv_I a b) (x1 x2 x3 x4 x5 : Int32) : iv_ok (m_Mo_feed a x1 x2 x3 x4 x5) (m_Rf_feed b x1 x2 x3 x4 x5) := by
  have h' := h
  obtain ⟨c, ⟨tf, L, hL, t1, t2, t3⟩, ⟨k, hk, w1, w2, w3⟩, e, told, ran⟩ := h
  unfold m_Mo_feed m_Rf_feed m_Te_size
  have sz : (some (a.1 1 1) : Option Int32) = some (nI L) := by rw [t1]
  rw [aw_bd_s sz, t2, show (20 : Int32) = nI 20 from rfl, nI_add, show (800 : Int32) = nI 800 from rfl]
  by_cases q : L + 20 ≤ 800
  · rw [if_pos (nI_le q (by omega)), if_pos (nI_le q (by omega))]
    have T0 : iv_T L a b a b := ⟨⟨rfl, fun _ _ _ => rfl⟩, ⟨rfl, fun _ _ _ => rfl, fun _ _ => rfl⟩, tf, t1, t2, t3⟩
    refine ao_2b (ao_2i (iv_four T0 (by omega) x1) ?_)
    intro s1 u1 T1
    refine ao_2b (ao_2i (iv_four T1 (by omega) x2) ?_)
    intro s2 u2 T2
    refine ao_2b (ao_2i (iv_four T2 (by omega) x3) ?_)
    intro s3 u3 T3
    refine ao_2b (ao_2i (iv_four T3 (by omega) x4) ?_)
    intro s4 u4 T4
    refine ao_2b (ao_2i (iv_four T4 (by omega) x5) ?_)
    intro s u T5
    obtain ⟨⟨f1, f2⟩, ⟨g1, g2, g3⟩, ff, e1, e2, d⟩ := T5
    refine ao_2l rfl (ao_2s ⟨by show s.1 1 1 = u.1 0 2; rw [e1, e2], iv_core_fr c ⟨fun c hc => f2 c (by omega) (by omega), by rw [f1], by rw [f1], iv_wr c.2.2.2.2 f1, fun Γ K => iv_oK K (fun c p q => f2 c (by omega) (by omega)) (fun c p => f2 c (by omega) (by omega))⟩ ⟨fun j _ => congrFun (g2 1 (by omega) (by omega)) j, fun c hc => g2 c (by omega) (by omega), g3 14 (by omega), g3 15 (by omega), g3 16 (by omega), g3 54 (by omega)⟩ (fun j _ _ => congrFun (g2 1 (by omega) (by omega)) j) (g2 33 (by omega) (by omega)), ⟨ff, _, by omega, e1, e2, d⟩, ⟨k, hk, ?_, ?_, fun i hi => ?_⟩, ?_, fun v hv => ?_, ?_⟩)
    · rw [f2 5 (by omega) (by omega)]; exact w1
    · rw [g3 48 (by omega)]; exact w2
    · rw [f2 6 (by omega) (by omega), g2 34 (by omega) (by omega)]; exact w3 i hi
    · rw [f2 0 (by omega) (by omega), g3 4 (by omega)]; exact e
    · rw [f2 81 (by omega) (by omega), g2 15 (by omega) (by omega)]; exact told v hv
    · unfold iv_ran
      rw [f2 0 (by omega) (by omega), f2 82 (by omega) (by omega), f2 83 (by omega) (by omega), f2 84 (by omega) (by omega), f2 85 (by omega) (by omega), g3 34 (by omega), g3 33 (by omega), g2 20 (by omega) (by omega), g2 21 (by omega) (by omega), g2 22 (by omega) (by omega)]
      exact ran
  · rw [if_neg (nI_ge (by omega) (by omega)), if_neg (nI_ge (by omega) (by omega))]
    exact ao_2s ⟨rfl, h'⟩

/-! ===== THE PARSE: bytes, digits, operands, in both ===== -/
theorem ao_n10 : ¬ (1 : Int32) = 0 := by decide
/-- the byte at p -/
def pz_h (L : Nat) (t : Nat → Nat) (p : Nat) : Option Nat := if p < L then some (t p) else none
def pz_T (L : Nat) (t : Nat → Nat) : Prop := L ≤ 800 ∧ ∀ i, i < L → t i < 256
def pz_TA (σ : aw_S) (o L : Nat) (t : Nat → Nat) : Prop := σ.1 o 1 = nI L ∧ ∀ i, i < L → σ.1 (o + 1) i &&& 255 = nI (t i)
def pz_TB (σ : aw_S) (L : Nat) (t : Nat → Nat) : Prop := σ.1 0 2 = nI L ∧ ∀ i, i < L → σ.1 2 i &&& 255 = nI (t i)
theorem pz_h_some {L : Nat} {t : Nat → Nat} {p c : Nat} (T : pz_T L t) (h : pz_h L t p = some c) : p < L ∧ c < 256 ∧ t p = c := by
  unfold pz_h at h
  by_cases q : p < L
  · rw [if_pos q] at h
    have h := Option.some.inj h
    exact ⟨q, by rw [← h]; exact T.2 p q, h⟩
  · rw [if_neg q] at h; cases h
theorem pz_h_b {L : Nat} {t : Nat → Nat} {p : Nat} (T : pz_T L t) : ∀ c, pz_h L t p = some c → c < 256 := fun c h => (pz_h_some T h).2.1
theorem pz_at {σ : aw_S} {o L p : Nat} {t : Nat → Nat} (T : pz_T L t) (h : pz_TA σ o L t) (hp : p < 2 ^ 31) : m_Te_at σ o (nI p) = some (ao_o (pz_h L t p)) := by
  have hL := T.1
  unfold m_Te_at pz_h
  rw [if_neg (nI_pos hp), h.1]
  by_cases q : p < L
  · rw [if_neg (nI_ge q (by omega)), if_neg (show ¬ (800 : Int32) ≤ nI p from nI_ge (b := 800) (by omega) (by omega)), ao_gdn (by omega) (by omega), nI_clamp hp, h.2 p q, if_pos q]
    rfl
  · rw [if_pos (nI_le (by omega) hp), if_neg q]
    rfl
theorem pz_here {σ : aw_S} {L p : Nat} {t : Nat → Nat} (T : pz_T L t) (h : pz_TB σ L t) (e : σ.1 0 3 = nI p) (hp : p < 2 ^ 31) : m_Rf_here σ = some (ao_o (pz_h L t p)) := by
  have hL := T.1
  unfold m_Rf_here pz_h
  rw [h.1, e]
  by_cases q : p < L
  · rw [if_neg (nI_ge q (by omega)), ao_gdn (by omega) (by omega), nI_clamp hp, h.2 p q, if_pos q]
    rfl
  · rw [if_pos (nI_le (by omega) hp), if_neg q]
    rfl
/-- a byte in a range -/
def pz_in (a b : Nat) (x : Option Nat) : Prop := ∃ c, x = some c ∧ a ≤ c ∧ c ≤ b
theorem pz_rng {x : Option Nat} (hx : ∀ c, x = some c → c < 256) {a b : Nat} (ha : a < 256) (hb : b < 256) : (if ao_o x < nI a then some (0 : Int32) else if nI b < ao_o x then some (0 : Int32) else some (1 : Int32)) = some (ao_b (pz_in a b x)) := by
  cases x with
  | none =>
    have h0 : ao_o none < nI a := by
      show (-1 : Int32) < nI a
      have h1 := nI_toInt (n := a) (by omega)
      rw [Int32.lt_iff_toInt_lt, h1]
      show (-1 : Int) < _
      omega
    rw [if_pos h0, ao_b0 (fun ⟨c, e, _⟩ => by cases e)]
  | some c =>
    have hc := hx c rfl
    show (if nI c < nI a then _ else if nI b < nI c then _ else _) = _
    by_cases h1 : c < a
    · rw [if_pos (nI_lt h1 (by omega)), ao_b0 (fun ⟨d, e, h2, _⟩ => by cases e; omega)]
    · rw [if_neg (nI_nlt (by omega) (by omega))]
      by_cases h2 : b < c
      · rw [if_pos (nI_lt h2 (by omega)), ao_b0 (fun ⟨d, e, _, h3⟩ => by cases e; omega)]
      · rw [if_neg (nI_nlt (by omega) (by omega)), ao_b1 ⟨c, rfl, by omega, by omega⟩]
theorem pz_isLetterA {σ : aw_S} {x : Option Nat} (hx : ∀ c, x = some c → c < 256) : m_Re_isLetter σ (ao_o x) = some (ao_b (pz_in 97 122 x)) := pz_rng hx (a := 97) (b := 122) (by omega) (by omega)
theorem pz_isLetterB {σ : aw_S} {x : Option Nat} (hx : ∀ c, x = some c → c < 256) : m_Rf_isLetter σ (ao_o x) = some (ao_b (pz_in 97 122 x)) := pz_rng hx (a := 97) (b := 122) (by omega) (by omega)
theorem pz_isDigitA {σ : aw_S} {x : Option Nat} (hx : ∀ c, x = some c → c < 256) : m_Re_isDigit σ (ao_o x) = some (ao_b (pz_in 48 57 x)) := pz_rng hx (a := 48) (b := 57) (by omega) (by omega)
theorem pz_isDigitB {σ : aw_S} {x : Option Nat} (hx : ∀ c, x = some c → c < 256) : m_Rf_isFigure σ (ao_o x) = some (ao_b (pz_in 48 57 x)) := pz_rng hx (a := 48) (b := 57) (by omega) (by omega)
/-- a sign of an expression -/
def pz_sg (x : Option Nat) : Prop := ∃ c, x = some c ∧ c ∈ ag_sgs
theorem pz_sgA' : ∀ c, c < 256 → (if nI c = (37 : Int32) then some ((1 : Int32)) else if nI c = (38 : Int32) then some ((1 : Int32)) else if nI c = (39 : Int32) then some ((0 : Int32)) else if nI c = (40 : Int32) then some ((0 : Int32)) else if nI c = (41 : Int32) then some ((0 : Int32)) else if nI c = (42 : Int32) then some ((1 : Int32)) else if nI c = (43 : Int32) then some ((1 : Int32)) else if nI c = (44 : Int32) then some ((0 : Int32)) else if nI c = (45 : Int32) then some ((1 : Int32)) else if nI c = (46 : Int32) then some ((0 : Int32)) else if nI c = (47 : Int32) then some ((1 : Int32)) else if nI c = (48 : Int32) then some ((0 : Int32)) else if nI c = (49 : Int32) then some ((0 : Int32)) else if nI c = (50 : Int32) then some ((0 : Int32)) else if nI c = (51 : Int32) then some ((0 : Int32)) else if nI c = (52 : Int32) then some ((0 : Int32)) else if nI c = (53 : Int32) then some ((0 : Int32)) else if nI c = (54 : Int32) then some ((0 : Int32)) else if nI c = (55 : Int32) then some ((0 : Int32)) else if nI c = (56 : Int32) then some ((0 : Int32)) else if nI c = (57 : Int32) then some ((0 : Int32)) else if nI c = (58 : Int32) then some ((0 : Int32)) else if nI c = (59 : Int32) then some ((0 : Int32)) else if nI c = (60 : Int32) then some ((1 : Int32)) else some ((0 : Int32))) = some (if c ∈ ag_sgs then 1 else 0) := by decide +kernel
theorem pz_sgB' : ∀ c, c < 256 → (if nI c = (43 : Int32) then some ((1 : Int32)) else if nI c = (45 : Int32) then some ((1 : Int32)) else if nI c = (42 : Int32) then some ((1 : Int32)) else if nI c = (47 : Int32) then some ((1 : Int32)) else if nI c = (37 : Int32) then some ((1 : Int32)) else if nI c = (38 : Int32) then some ((1 : Int32)) else if nI c = (60 : Int32) then some ((1 : Int32)) else some ((0 : Int32))) = some (if c ∈ ag_sgs then 1 else 0) := by decide +kernel
theorem pz_sgI {c : Nat} : (if c ∈ ag_sgs then (1 : Int32) else 0) = ao_b (pz_sg (some c)) := by
  by_cases h : c ∈ ag_sgs
  · rw [if_pos h, ao_b1 ⟨c, rfl, h⟩]
  · rw [if_neg h, ao_b0 (fun ⟨d, e, hd⟩ => by cases e; exact h hd)]
theorem pz_sgN : ¬ pz_sg none := fun ⟨c, e, _⟩ => by cases e
theorem pz_isSignA {σ : aw_S} {x : Option Nat} (hx : ∀ c, x = some c → c < 256) : m_Re_isOperator σ (ao_o x) = some (ao_b (pz_sg x)) := by
  cases x with
  | none =>
    rw [ao_b0 pz_sgN]
    unfold m_Re_isOperator
    show (if (-1 : Int32) = (37 : Int32) then _ else _) = _
    decide +kernel
  | some c =>
    rw [← pz_sgI]
    exact pz_sgA' c (hx c rfl)
theorem pz_isSignB {σ : aw_S} {x : Option Nat} (hx : ∀ c, x = some c → c < 256) : m_Rf_isSign σ (ao_o x) = some (ao_b (pz_sg x)) := by
  cases x with
  | none =>
    rw [ao_b0 pz_sgN]
    unfold m_Rf_isSign
    show (if (-1 : Int32) = (43 : Int32) then _ else _) = _
    decide +kernel
  | some c =>
    rw [← pz_sgI]
    exact pz_sgB' c (hx c rfl)
/-! ===== what a leaf may move ===== -/
/-- the class's reader stands at p -/
def pz_mA (σ : aw_S) (p : Nat) (s : aw_S) : Prop := s.2 = σ.2 ∧ (∀ k, k ≠ 8 → s.1 k = σ.1 k) ∧ (∀ j, j ≠ 14 → s.1 8 j = σ.1 8 j) ∧ s.1 8 14 = nI p
/-- it refuses at q -/
def pz_fA (σ : aw_S) (q : Nat) (s : aw_S) : Prop := s.2 = σ.2 ∧ (∀ k, k ≠ 8 → s.1 k = σ.1 k) ∧ s.1 8 15 = nI q
/-- the reference stands at p -/
def pz_mB (σ : aw_S) (p : Nat) (s : aw_S) : Prop := s.2 = σ.2 ∧ (∀ k, k ≠ 0 → s.1 k = σ.1 k) ∧ (∀ j, j ≠ 3 → j ≠ 5 → s.1 0 j = σ.1 0 j) ∧ s.1 0 3 = nI p
def pz_fB (σ : aw_S) (q : Nat) (s : aw_S) : Prop := s.2 = σ.2 ∧ (∀ k, k ≠ 0 → s.1 k = σ.1 k) ∧ (∀ j, j ≠ 3 → j ≠ 4 → j ≠ 5 → s.1 0 j = σ.1 0 j) ∧ s.1 0 4 = nI q
theorem pz_mA_1 {σ s : aw_S} {p q : Nat} (h : pz_mA σ p s) : pz_mA σ q (aw_sI s 8 14 (nI q)) := ⟨h.1, fun k hk => by rw [ao_sI_o hk]; exact h.2.1 k hk, fun j hj => by rw [ao_sI_i hj]; exact h.2.2.1 j hj, ao_sI_s _ _ _ _⟩
theorem pz_mA_tr {σ s u : aw_S} {p q : Nat} (h : pz_mA σ p s) (h' : pz_mA s q u) : pz_mA σ q u := ⟨h'.1.trans h.1, fun k hk => (h'.2.1 k hk).trans (h.2.1 k hk), fun j hj => (h'.2.2.1 j hj).trans (h.2.2.1 j hj), h'.2.2.2⟩
theorem pz_fA_tr {σ s u : aw_S} {p q : Nat} (h : pz_mA σ p s) (h' : pz_fA s q u) : pz_fA σ q u := ⟨h'.1.trans h.1, fun k hk => (h'.2.1 k hk).trans (h.2.1 k hk), h'.2.2⟩
theorem pz_mA_0 {σ : aw_S} {p : Nat} (h : σ.1 8 14 = nI p) : pz_mA σ p σ := ⟨rfl, fun _ _ => rfl, fun _ _ => rfl, h⟩
theorem pz_mB_0 {σ : aw_S} {p : Nat} (h : σ.1 0 3 = nI p) : pz_mB σ p σ := ⟨rfl, fun _ _ => rfl, fun _ _ _ => rfl, h⟩
theorem pz_mB_tr {σ s u : aw_S} {p q : Nat} (h : pz_mB σ p s) (h' : pz_mB s q u) : pz_mB σ q u := ⟨h'.1.trans h.1, fun k hk => (h'.2.1 k hk).trans (h.2.1 k hk), fun j hj hj' => (h'.2.2.1 j hj hj').trans (h.2.2.1 j hj hj'), h'.2.2.2⟩
theorem pz_fB_tr {σ s u : aw_S} {p q : Nat} (h : pz_mB σ p s) (h' : pz_fB s q u) : pz_fB σ q u := ⟨h'.1.trans h.1, fun k hk => (h'.2.1 k hk).trans (h.2.1 k hk), fun j hj hj1 hj' => (h'.2.2.1 j hj hj1 hj').trans (h.2.2.1 j hj hj'), h'.2.2.2⟩
theorem pz_mB_3 {σ s : aw_S} {p q : Nat} (h : pz_mB σ p s) : pz_mB σ q (aw_sI s 0 3 (nI q)) := ⟨h.1, fun k hk => by rw [ao_sI_o hk]; exact h.2.1 k hk, fun j hj hj' => by rw [ao_sI_i hj]; exact h.2.2.1 j hj hj', ao_sI_s _ _ _ _⟩
theorem pz_mB_5 {σ s : aw_S} {p : Nat} {v : Int32} (h : pz_mB σ p s) : pz_mB σ p (aw_sI s 0 5 v) := ⟨h.1, fun k hk => by rw [ao_sI_o hk]; exact h.2.1 k hk, fun j hj hj' => by rw [ao_sI_i hj']; exact h.2.2.1 j hj hj', (ao_sI_i (by omega)).trans h.2.2.2⟩
theorem pz_TA_m {σ s : aw_S} {p L : Nat} {t : Nat → Nat} (h : pz_TA σ 9 L t) (m : pz_mA σ p s) : pz_TA s 9 L t := ⟨(congrFun (m.2.1 9 (by omega)) 1).trans h.1, fun i hi => by rw [m.2.1 (9 + 1) (by omega)]; exact h.2 i hi⟩
theorem pz_TB_m {σ s : aw_S} {p L : Nat} {t : Nat → Nat} (h : pz_TB σ L t) (m : pz_mB σ p s) : pz_TB s L t := ⟨(m.2.2.1 2 (by omega) (by omega)).trans h.1, fun i hi => by rw [m.2.1 2 (by omega)]; exact h.2 i hi⟩
/-! ===== numbers ===== -/
def pz_v (t : Nat → Nat) (p : Nat) : Nat → Nat
  | 0 => 0
  | d + 1 => 10 * pz_v t p d + (t (p + d) - 48)
theorem pz_v_lt {L : Nat} {t : Nat → Nat} {p : Nat} (T : pz_T L t) : ∀ d, (∀ i, i < d → pz_in 48 57 (pz_h L t (p + i))) → pz_v t p d < 10 ^ d := by
  intro d
  induction d with
  | zero => intro _; exact Nat.one_pos
  | succ d ih =>
    intro h
    have h1 := ih (fun i hi => h i (by omega))
    obtain ⟨c, e, h2, h3⟩ := h d (by omega)
    have h4 := (pz_h_some T e).2.2
    show 10 * pz_v t p d + (t (p + d) - 48) < 10 ^ (d + 1)
    rw [Nat.pow_succ, h4]
    omega
theorem pz_dx (L : Nat) (t : Nat → Nat) (p m : Nat) : ∃ d, d ≤ m ∧ (∀ i, i < d → pz_in 48 57 (pz_h L t (p + i))) ∧ (d < m → ¬ pz_in 48 57 (pz_h L t (p + d))) := by
  induction m with
  | zero => exact ⟨0, by omega, fun i hi => by omega, fun h => by omega⟩
  | succ m ih =>
    obtain ⟨d, h1, h2, h3⟩ := ih
    by_cases q : d < m
    · exact ⟨d, by omega, h2, fun _ => h3 q⟩
    · have : d = m := by omega
      subst this
      by_cases z : pz_in 48 57 (pz_h L t (p + d))
      · exact ⟨d + 1, by omega, fun i hi => by
          by_cases w : i = d
          · rw [w]; exact z
          · exact h2 i (by omega), fun h => by omega⟩
      · exact ⟨d, by omega, h2, fun _ => z⟩
theorem pz_dL {L : Nat} {t : Nat → Nat} {p d : Nat} (T : pz_T L t) (hp : p ≤ L) (h : ∀ i, i < d → pz_in 48 57 (pz_h L t (p + i))) : p + d ≤ L := by
  cases d with
  | zero => exact hp
  | succ d =>
    obtain ⟨c, e, _⟩ := h d (by omega)
    have := (pz_h_some T e).1
    omega
theorem pz_step {v c : Nat} (hc : 48 ≤ c) : nI v * (10 : Int32) + nI c - (48 : Int32) = nI (10 * v + (c - 48)) := by
  rw [show (10 : Int32) = nI 10 from rfl, show (48 : Int32) = nI 48 from rfl, pk_mul, nI_add, pk_sub (by omega)]
  exact congrArg nI (by omega)
theorem pz_stepB {v c : Nat} (hc : 48 ≤ c) : (10 : Int32) * nI v + nI c - (48 : Int32) = nI (10 * v + (c - 48)) := by
  rw [show (10 : Int32) = nI 10 from rfl, show (48 : Int32) = nI 48 from rfl, pk_mul, nI_add, pk_sub (by omega)]
  exact congrArg nI (by omega)
set_option maxHeartbeats 1000000 in
theorem pz_numA {L p m d : Nat} {t : Nat → Nat} (T : pz_T L t) (hp : p ≤ L) (hm : m ≤ 3) (hd : d ≤ m) (h1 : ∀ i, i < d → pz_in 48 57 (pz_h L t (p + i))) (h2 : d < m → ¬ pz_in 48 57 (pz_h L t (p + d))) {σ : aw_S} (h : pz_TA σ 9 L t) (ha : σ.1 8 14 = nI p) :
    ao_ok (m_Re_readNumber σ (nI m)) (fun x => if d = 0 then x.1 = -1 ∧ pz_fA σ p x.2 else x.1 = nI (pz_v t p d) ∧ pz_mA σ (p + d) x.2) := by
  have hL := T.1
  have hpd := pz_dL T hp h1
  unfold m_Re_readNumber
  refine ao_bd (ao_imp (Q := fun x => x.1 = nI (pz_v t p d) ∧ x.2.1 = nI d ∧ pz_mA σ (p + d) x.2.2) (ao_for d (fun k (s : Int32 × Int32 × aw_S) => s.1 = nI (pz_v t p k) ∧ s.2.1 = nI k ∧ pz_mA σ (p + k) s.2.2) (a := 0) ⟨rfl, rfl, pz_mA_0 ha⟩ (Nat.zero_le _) (by omega) ?_ ?_) ?_)
  · rintro k ⟨v, x, s⟩ hk ⟨e1, e2, m1⟩
    have e1 : v = nI (pz_v t p k) := e1
    have e2 : x = nI k := e2
    have m1 : pz_mA σ (p + k) s := m1
    subst e1 e2
    obtain ⟨c, ec, hc1, hc2⟩ := h1 k hk
    have hcL := pz_h_some T ec
    show ao_ok (m_Re_readNumber_B4 s (nI m) (nI (pz_v t p k)) (nI k)) _
    unfold m_Re_readNumber_B4
    rw [if_neg (nI_ge (by omega) (by omega)), m1.2.2.2, aw_bd_s (pz_at T (pz_TA_m h m1) (by omega)), aw_bd_s (pz_isDigitA (pz_h_b T)), ao_b1 (h1 k hk), if_neg (by decide), aw_bd_s (pz_at T (pz_TA_m h m1) (by omega)), ec]
    show ao_ok (aw_lt (nI (pz_v t p k) * 10 + nI c - 48) _) _
    rw [pz_step hc1, ao_ltr, nI_1, nI_1]
    refine ao_let (ao_let (ao_inr ⟨?_, rfl, pz_mA_1 m1⟩))
    show nI _ = nI (10 * pz_v t p k + (t (p + k) - 48))
    rw [hcL.2.2]
  · rintro ⟨v, x, s⟩ ⟨e1, e2, m1⟩
    have e1 : v = nI (pz_v t p d) := e1
    have e2 : x = nI d := e2
    have m1 : pz_mA σ (p + d) s := m1
    subst e1 e2
    show ao_ok (m_Re_readNumber_B4 s (nI m) (nI (pz_v t p d)) (nI d)) _
    unfold m_Re_readNumber_B4
    by_cases q : d < m
    · rw [if_neg (nI_ge (by omega) (by omega)), m1.2.2.2, aw_bd_s (pz_at T (pz_TA_m h m1) (by omega)), aw_bd_s (pz_isDigitA (pz_h_b T)), ao_b0 (h2 q), if_pos rfl]
      exact ao_inl ⟨rfl, rfl, m1⟩
    · rw [if_pos (nI_le (by omega) (by omega))]
      exact ao_inl ⟨rfl, rfl, m1⟩
  · rintro ⟨v, x, s⟩ ⟨e1, e2, m1⟩
    have e1 : v = nI (pz_v t p d) := e1
    have e2 : x = nI d := e2
    have m1 : pz_mA σ (p + d) s := m1
    subst e1 e2
    show ao_ok (if nI d = 0 then _ else _) _
    by_cases q : d = 0
    · subst q
      refine ao_ifp nI_0 ?_
      unfold m_Re_refuse
      show ao_ok (aw_bd2 (aw_lt (aw_sI s 8 15 (s.1 8 14)) _) _) _
      rw [m1.2.2.2]
      exact ao_bd2 (ao_let (ao_some (ao_some (by
        rw [if_pos rfl]
        exact ⟨rfl, m1.1, fun k hk => by rw [ao_sI_o hk]; exact m1.2.1 k hk, ao_sI_s _ _ _ _⟩))))
    · rw [if_neg (nI_ne0 (by omega) (by omega))]
      exact ao_some (by rw [if_neg q]; exact ⟨rfl, m1⟩)
set_option maxHeartbeats 1000000 in
theorem pz_numB {L p m d : Nat} {t : Nat → Nat} (T : pz_T L t) (hp : p ≤ L) (hm : m ≤ 3) (hm0 : 0 < m) (hd : d ≤ m) (h1 : ∀ i, i < d → pz_in 48 57 (pz_h L t (p + i))) (h2 : d < m → ¬ pz_in 48 57 (pz_h L t (p + d))) {σ : aw_S} (h : pz_TB σ L t) (ha : σ.1 0 3 = nI p) :
    ao_ok (m_Rf_readDigits σ (nI m)) (fun x => if d = 0 then x.1 = 0 ∧ pz_fB σ p x.2 else x.1 = 1 ∧ pz_mB σ (p + d) x.2 ∧ x.2.1 0 5 = nI (pz_v t p d)) := by
  have hL := T.1
  have hpd := pz_dL T hp h1
  unfold m_Rf_readDigits
  rw [aw_bd_s (pz_here T h ha (by omega)), aw_bd_s (pz_isDigitB (pz_h_b T))]
  by_cases q : d = 0
  · subst q
    have hz : ¬ pz_in 48 57 (pz_h L t p) := h2 hm0
    rw [ao_b0 hz, if_pos rfl, ha]
    unfold m_Rf_fails
    exact ao_bd2 (ao_let (ao_some (ao_gd (Or.inl rfl) (ao_some (by
      rw [if_pos rfl]
      exact ⟨rfl, rfl, fun k hk => ao_sI_o hk, fun j hj1 hj2 hj3 => ao_sI_i hj2, ao_sI_s _ _ _ _⟩)))))
  · rw [ao_b1 (show pz_in 48 57 (pz_h L t p) from h1 0 (by omega)), if_neg (by decide)]
    refine ao_let ?_
    rw [ao_ltr, show (aw_sI σ 0 5 0).1 0 3 = nI p from (ao_sI_i (by omega)).trans ha]
    refine ao_bd (ao_imp (Q := fun x => pz_mB σ (p + d) x ∧ x.1 0 5 = nI (pz_v t p d)) (ao_for d (fun k (s : aw_S) => pz_mB σ (p + k) s ∧ s.1 0 5 = nI (pz_v t p k)) (a := 0) ⟨pz_mB_5 (pz_mB_0 ha), ao_sI_s _ _ _ _⟩ (Nat.zero_le _) (by omega) ?_ ?_) ?_)
    · rintro k s hk ⟨m1, e1⟩
      obtain ⟨c, ec, hc1, hc2⟩ := h1 k hk
      have hcL := pz_h_some T ec
      show ao_ok (m_Rf_readDigits_B29 s (nI m) (nI p)) _
      unfold m_Rf_readDigits_B29
      rw [aw_bd_s (pz_here T (pz_TB_m h m1) m1.2.2.2 (by omega)), aw_bd_s (pz_isDigitB (pz_h_b T)), ao_b1 (h1 k hk), if_neg (by decide), m1.2.2.2, pk_sub (by omega), if_neg (nI_ge (by omega) (by omega)), aw_bd_s (pz_here T (pz_TB_m h m1) m1.2.2.2 (by omega)), ec, e1]
      show ao_ok (aw_lt (aw_sI s 0 5 (10 * nI (pz_v t p k) + nI c - 48)) _) _
      rw [pz_stepB hc1]
      refine ao_let ?_
      rw [show (aw_sI s 0 5 (nI (10 * pz_v t p k + (c - 48)))).1 0 3 = nI (p + k) from (ao_sI_i (by omega)).trans m1.2.2.2, nI_1]
      refine ao_let (ao_inr ⟨pz_mB_3 (pz_mB_5 m1), ?_⟩)
      rw [ao_sI_i (by omega), ao_sI_s]
      show nI _ = nI (10 * pz_v t p k + (t (p + k) - 48))
      rw [hcL.2.2]
    · rintro s ⟨m1, e1⟩
      show ao_ok (m_Rf_readDigits_B29 s (nI m) (nI p)) _
      unfold m_Rf_readDigits_B29
      rw [aw_bd_s (pz_here T (pz_TB_m h m1) m1.2.2.2 (by omega)), aw_bd_s (pz_isDigitB (pz_h_b T))]
      by_cases z : pz_in 48 57 (pz_h L t (p + d))
      · rw [ao_b1 z, if_neg (by decide), m1.2.2.2, pk_sub (by omega), if_pos (nI_le (by
          refine Nat.le_of_not_lt fun y => h2 ?_ z
          omega) (by omega))]
        exact ao_inl ⟨m1, e1⟩
      · rw [ao_b0 z, if_pos rfl]
        exact ao_inl ⟨m1, e1⟩
    · rintro s ⟨m1, e1⟩
      exact ao_some (by rw [if_neg q]; exact ⟨rfl, m1, e1⟩)
/-! ===== an operand ===== -/
/-- what reading an operand at p comes to: where it fails, or where it goes on and what it is -/
def pz_opr (L : Nat) (t : Nat → Nat) (p : Nat) (o : Nat ⊕ (Nat × Nat)) : Prop :=
  (match o with
    | .inl q => q ≤ L
    | .inr x => p < x.1 ∧ x.1 ≤ L ∧ x.2 < 1026) ∧
  (∀ σ : aw_S, pz_TA σ 9 L t → σ.1 8 14 = nI p → ao_ok (m_Re_readOperand σ) (fun x => match o with
    | .inl q => x.1 = -1 ∧ pz_fA σ q x.2
    | .inr y => x.1 = nI y.2 ∧ pz_mA σ y.1 x.2)) ∧
  ∀ σ : aw_S, pz_TB σ L t → σ.1 0 3 = nI p → ao_ok (m_Rf_readA σ) (fun x => match o with
    | .inl q => x.1 = 0 ∧ pz_fB σ q x.2
    | .inr y => x.1 = 1 ∧ pz_mB σ y.1 x.2 ∧ x.2.1 0 5 = nI y.2)
set_option maxHeartbeats 1000000 in
theorem pz_operand {L p : Nat} {t : Nat → Nat} (T : pz_T L t) (hp : p ≤ L) : ∃ o, pz_opr L t p o := by
  have hL := T.1
  by_cases q : pz_in 97 122 (pz_h L t p)
  · obtain ⟨c, ec, hc1, hc2⟩ := id q
    have hcL := pz_h_some T ec
    refine ⟨.inr (p + 1, c - 97), ⟨by show p < p + 1; omega, by show p + 1 ≤ L; omega, by show c - 97 < 1026; omega⟩, fun σ h ha => ?_, fun σ h ha => ?_⟩
    · unfold m_Re_readOperand
      rw [ha, aw_bd_s (pz_at T h (by omega)), aw_bd_s (pz_isLetterA (pz_h_b T)), ao_b1 q, if_neg (by decide), nI_1, ec]
      refine ao_let (ao_some ⟨?_, pz_mA_1 (pz_mA_0 ha)⟩)
      show nI c - (97 : Int32) = nI (c - 97)
      rw [show (97 : Int32) = nI 97 from rfl, pk_sub (by omega)]
    · unfold m_Rf_readA
      rw [aw_bd_s (pz_here T h ha (by omega)), aw_bd_s (pz_isLetterB (pz_h_b T)), ao_b1 q, if_neg (by decide), aw_bd_s (pz_here T h ha (by omega)), ec]
      refine ao_let ?_
      rw [show (aw_sI σ 0 5 (ao_o (some c) - 97)).1 0 3 = nI p from (ao_sI_i (by omega)).trans ha, nI_1]
      refine ao_let (ao_some ⟨rfl, pz_mB_3 (pz_mB_5 (pz_mB_0 ha)), ?_⟩)
      rw [ao_sI_i (by omega), ao_sI_s]
      show nI c - (97 : Int32) = nI (c - 97)
      rw [show (97 : Int32) = nI 97 from rfl, pk_sub (by omega)]
  · obtain ⟨d, h1, h2, h3⟩ := pz_dx L t p 3
    have hv := pz_v_lt T d h2
    have hv3 : 10 ^ d ≤ 1000 := by
      rcases (show d = 0 ∨ d = 1 ∨ d = 2 ∨ d = 3 by omega) with rfl | rfl | rfl | rfl <;> decide
    have hpd := pz_dL T hp h2
    by_cases z : d = 0
    · refine ⟨.inl p, hp, fun σ h ha => ?_, fun σ h ha => ?_⟩
      · unfold m_Re_readOperand
        rw [ha, aw_bd_s (pz_at T h (by omega)), aw_bd_s (pz_isLetterA (pz_h_b T)), ao_b0 q, if_pos rfl]
        refine ao_bd2 (ao_imp (pz_numA T hp (Nat.le_refl 3) h1 h2 h3 h ha) ?_)
        rintro ⟨x, s⟩ hx
        rw [if_pos z] at hx
        obtain ⟨e, f⟩ := hx
        have e : x = -1 := e
        subst e
        show ao_ok (if (-1 : Int32) = -1 then _ else _) _
        rw [if_pos rfl]
        exact ao_some ⟨rfl, f⟩
      · unfold m_Rf_readA
        rw [aw_bd_s (pz_here T h ha (by omega)), aw_bd_s (pz_isLetterB (pz_h_b T)), ao_b0 q, if_pos rfl]
        refine ao_bd2 (ao_imp (pz_numB T hp (Nat.le_refl 3) (by omega) h1 h2 h3 h ha) ?_)
        rintro ⟨x, s⟩ hx
        rw [if_pos z] at hx
        obtain ⟨e, f⟩ := hx
        have e : x = 0 := e
        subst e
        show ao_ok (if (0 : Int32) = 0 then _ else _) _
        rw [if_pos rfl]
        exact ao_some ⟨rfl, f⟩
    · refine ⟨.inr (p + d, pz_v t p d + 26), ⟨by show p < p + d; omega, hpd, by show pz_v t p d + 26 < 1026; omega⟩, fun σ h ha => ?_, fun σ h ha => ?_⟩
      · unfold m_Re_readOperand
        rw [ha, aw_bd_s (pz_at T h (by omega)), aw_bd_s (pz_isLetterA (pz_h_b T)), ao_b0 q, if_pos rfl]
        refine ao_bd2 (ao_imp (pz_numA T hp (Nat.le_refl 3) h1 h2 h3 h ha) ?_)
        rintro ⟨x, s⟩ hx
        rw [if_neg z] at hx
        obtain ⟨e, f⟩ := hx
        have e : x = nI (pz_v t p d) := e
        subst e
        show ao_ok (if nI (pz_v t p d) = -1 then _ else _) _
        rw [if_neg (ao_m1 (by omega)), show (26 : Int32) = nI 26 from rfl, nI_add]
        exact ao_some ⟨rfl, f⟩
      · unfold m_Rf_readA
        rw [aw_bd_s (pz_here T h ha (by omega)), aw_bd_s (pz_isLetterB (pz_h_b T)), ao_b0 q, if_pos rfl]
        refine ao_bd2 (ao_imp (pz_numB T hp (Nat.le_refl 3) (by omega) h1 h2 h3 h ha) ?_)
        rintro ⟨x, s⟩ hx
        rw [if_neg z] at hx
        obtain ⟨e, f, g⟩ := hx
        have e : x = 1 := e
        have g : s.1 0 5 = nI (pz_v t p d) := g
        subst e
        show ao_ok (if (1 : Int32) = 0 then _ else _) _
        rw [if_neg (by decide), g, show (26 : Int32) = nI 26 from rfl, nI_add]
        exact ao_let (ao_some ⟨rfl, pz_mB_5 f, ao_sI_s _ _ _ _⟩)

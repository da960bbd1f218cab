/-! ===== how many bits: Integer.bitCount ===== -/
theorem ap_and (k n m r : Nat) (hr : r < 2 ^ k) : n &&& (m * 2 ^ k + r) = (n / 2 ^ k &&& m) * 2 ^ k + (n % 2 ^ k &&& r) := by
  have h1 : (n &&& (m * 2 ^ k + r)) / 2 ^ k = n / 2 ^ k &&& m := by
    rw [← Nat.shiftRight_eq_div_pow, Nat.shiftRight_and_distrib, Nat.shiftRight_eq_div_pow, Nat.shiftRight_eq_div_pow]
    rw [show (m * 2 ^ k + r) / 2 ^ k = m by rw [Nat.mul_comm, Nat.mul_add_div (Nat.two_pow_pos k), Nat.div_eq_of_lt hr, Nat.add_zero]]
  have h2 : (n &&& (m * 2 ^ k + r)) % 2 ^ k = n % 2 ^ k &&& r := by
    rw [Nat.and_mod_two_pow]
    rw [show (m * 2 ^ k + r) % 2 ^ k = r by rw [Nat.mul_comm, Nat.mul_add_mod, Nat.mod_eq_of_lt hr]]
  have h3 := Nat.div_add_mod (n &&& (m * 2 ^ k + r)) (2 ^ k)
  rw [h1, h2] at h3
  rw [Nat.mul_comm (n / 2 ^ k &&& m)]
  exact h3.symm
theorem ap_and8 (n m r : Nat) (hr : r < 256) : n &&& (m * 256 + r) = (n / 256 &&& m) * 256 + (n % 256 &&& r) := ap_and 8 n m r hr
/-- a mask on four bytes -/
theorem ap_and32 {a b c d r : Nat} (ha : a < 256) (hb : b < 256) (hc : c < 256) (hd : d < 256) (hr : r < 256) : (a + 256 * b + 65536 * c + 16777216 * d) &&& (((r * 256 + r) * 256 + r) * 256 + r) = (a &&& r) + 256 * (b &&& r) + 65536 * (c &&& r) + 16777216 * (d &&& r) := by
  rw [ap_and8 _ _ r hr, show (a + 256 * b + 65536 * c + 16777216 * d) / 256 = b + 256 * c + 65536 * d by omega, show (a + 256 * b + 65536 * c + 16777216 * d) % 256 = a by omega]
  rw [ap_and8 _ _ r hr, show (b + 256 * c + 65536 * d) / 256 = c + 256 * d by omega, show (b + 256 * c + 65536 * d) % 256 = b by omega]
  rw [ap_and8 _ _ r hr, show (c + 256 * d) / 256 = d by omega, show (c + 256 * d) % 256 = c by omega]
  omega
def ap_l1 (b : Nat) : Nat := b - (b / 2 &&& 85)
def ap_l2 (b : Nat) : Nat := (ap_l1 b &&& 51) + (ap_l1 b / 4 &&& 51)
def ap_l3 (b : Nat) : Nat := (ap_l2 b + ap_l2 b / 16) &&& 15
theorem ap_d1 : ∀ b, b < 256 → ∀ c, c < 2 → (b / 2 + 128 * c) &&& 85 = b / 2 &&& 85 := by decide +kernel
theorem ap_d2 : ∀ b, b < 256 → (b / 2 &&& 85) ≤ b := by decide +kernel
theorem ap_d3 : ∀ b, b < 256 → ∀ c, c < 4 → (b / 4 + 64 * c) &&& 51 = b / 4 &&& 51 := by decide +kernel
theorem ap_d4 : ∀ b, b < 256 → ap_l2 b ≤ 68 ∧ ap_l2 b % 16 ≤ 4 := by decide +kernel
theorem ap_d5 : ∀ b, b < 73 → ∀ c, c < 5 → (b + 16 * c) &&& 15 = b &&& 15 := by decide +kernel
theorem ap_d6 : ∀ b, b < 256 → ap_l3 b = b % 2 + b / 2 % 2 + b / 4 % 2 + b / 8 % 2 + b / 16 % 2 + b / 32 % 2 + b / 64 % 2 + b / 128 % 2 := by decide +kernel
theorem ap_fin {p q r s y3 y4 y5 : Nat} (hp : p ≤ 8) (hq : q ≤ 8) (hr : r ≤ 8) (hs : s ≤ 8) (h3 : y3 = p + 256 * q + 65536 * r + 16777216 * s) (h4 : y4 = y3 + y3 / 256) (h5 : y5 = y4 + y4 / 65536) : y4 < 4294967296 ∧ y5 < 4294967296 ∧ y5 % 64 = p + q + r + s := by
  have e1 : y3 / 256 = q + 256 * r + 65536 * s := by omega
  have e2 : y4 = (p + q) + 256 * (q + r) + 65536 * (r + s) + 16777216 * s := by omega
  have e3 : y4 / 65536 = (r + s) + 256 * s := by omega
  have e4 : y5 = (p + q + r + s) + 64 * (4 * (q + r + s) + 1024 * (r + s) + 262144 * s) := by omega
  refine ⟨by omega, by omega, ?_⟩
  rw [e4, Nat.add_mul_mod_self_left]
  exact Nat.mod_eq_of_lt (by omega)
theorem ap_nat {a b c d : Nat} (ha : a < 256) (hb : b < 256) (hc : c < 256) (hd : d < 256) (n y1 y2 y3 y4 y5 : Nat) (hn : n = a + 256 * b + 65536 * c + 16777216 * d)
    (h1 : y1 = n - (n / 2 &&& 1431655765)) (h2 : y2 = (y1 &&& 858993459) + (y1 / 4 &&& 858993459)) (h3 : y3 = (y2 + y2 / 16) &&& 252645135) (h4 : y4 = y3 + y3 / 256) (h5 : y5 = y4 + y4 / 65536) :
    (n / 2 &&& 1431655765) ≤ n ∧ y2 < 4294967296 ∧ y2 + y2 / 16 < 4294967296 ∧ y4 < 4294967296 ∧ y5 < 4294967296 ∧ y5 % 64 = ap_l3 a + ap_l3 b + ap_l3 c + ap_l3 d := by
  have e1 : n / 2 &&& 1431655765 = (a / 2 &&& 85) + 256 * (b / 2 &&& 85) + 65536 * (c / 2 &&& 85) + 16777216 * (d / 2 &&& 85) := by
    rw [show n / 2 = (a / 2 + 128 * (b % 2)) + 256 * (b / 2 + 128 * (c % 2)) + 65536 * (c / 2 + 128 * (d % 2)) + 16777216 * (d / 2) by omega, show (1431655765 : Nat) = ((85 * 256 + 85) * 256 + 85) * 256 + 85 by decide, ap_and32 (by omega) (by omega) (by omega) (by omega) (by omega), ap_d1 a ha _ (by omega), ap_d1 b hb _ (by omega), ap_d1 c hc _ (by omega)]
  have qa := ap_d2 a ha
  have qb := ap_d2 b hb
  have qc := ap_d2 c hc
  have qd := ap_d2 d hd
  have e2 : y1 = ap_l1 a + 256 * ap_l1 b + 65536 * ap_l1 c + 16777216 * ap_l1 d := by
    rw [h1, e1, hn]; unfold ap_l1; omega
  have la : ap_l1 a < 256 := by unfold ap_l1; omega
  have lb : ap_l1 b < 256 := by unfold ap_l1; omega
  have lc : ap_l1 c < 256 := by unfold ap_l1; omega
  have ld : ap_l1 d < 256 := by unfold ap_l1; omega
  have e3 : y1 &&& 858993459 = (ap_l1 a &&& 51) + 256 * (ap_l1 b &&& 51) + 65536 * (ap_l1 c &&& 51) + 16777216 * (ap_l1 d &&& 51) := by
    rw [e2, show (858993459 : Nat) = ((51 * 256 + 51) * 256 + 51) * 256 + 51 by decide, ap_and32 la lb lc ld (by omega)]
  have e4 : y1 / 4 &&& 858993459 = (ap_l1 a / 4 &&& 51) + 256 * (ap_l1 b / 4 &&& 51) + 65536 * (ap_l1 c / 4 &&& 51) + 16777216 * (ap_l1 d / 4 &&& 51) := by
    rw [show y1 / 4 = (ap_l1 a / 4 + 64 * (ap_l1 b % 4)) + 256 * (ap_l1 b / 4 + 64 * (ap_l1 c % 4)) + 65536 * (ap_l1 c / 4 + 64 * (ap_l1 d % 4)) + 16777216 * (ap_l1 d / 4) by omega, show (858993459 : Nat) = ((51 * 256 + 51) * 256 + 51) * 256 + 51 by decide, ap_and32 (by omega) (by omega) (by omega) (by omega) (by omega), ap_d3 _ la _ (by omega), ap_d3 _ lb _ (by omega), ap_d3 _ lc _ (by omega)]
  have e5 : y2 = ap_l2 a + 256 * ap_l2 b + 65536 * ap_l2 c + 16777216 * ap_l2 d := by
    rw [h2, e3, e4]; unfold ap_l2; omega
  obtain ⟨ma, na⟩ := ap_d4 a ha
  obtain ⟨mb, nb⟩ := ap_d4 b hb
  obtain ⟨mc, nc⟩ := ap_d4 c hc
  obtain ⟨md, nd⟩ := ap_d4 d hd
  have e6 : y2 + y2 / 16 = ((ap_l2 a + ap_l2 a / 16) + 16 * (ap_l2 b % 16)) + 256 * ((ap_l2 b + ap_l2 b / 16) + 16 * (ap_l2 c % 16)) + 65536 * ((ap_l2 c + ap_l2 c / 16) + 16 * (ap_l2 d % 16)) + 16777216 * (ap_l2 d + ap_l2 d / 16) := by omega
  have e7 : y3 = ap_l3 a + 256 * ap_l3 b + 65536 * ap_l3 c + 16777216 * ap_l3 d := by
    rw [h3, e6, show (252645135 : Nat) = ((15 * 256 + 15) * 256 + 15) * 256 + 15 by decide, ap_and32 (by omega) (by omega) (by omega) (by omega) (by omega), ap_d5 _ (by omega) _ (by omega), ap_d5 _ (by omega) _ (by omega), ap_d5 _ (by omega) _ (by omega)]
    rfl
  have p8 : ∀ x, x < 256 → ap_l3 x ≤ 8 := fun x hx => by rw [ap_d6 x hx]; omega
  obtain ⟨z4, z5, z6⟩ := ap_fin (p8 a ha) (p8 b hb) (p8 c hc) (p8 d hd) e7 h4 h5
  refine ⟨?_, ?_, ?_, z4, z5, z6⟩
  · rw [e1, hn]; clear e2 e3 e4 e5 e6 e7 h1 h2 h3 h4 h5 z4 z5 z6; omega
  · rw [e5]; clear e2 e3 e4 e5 e6 e7 h1 h2 h3 h4 h5 z4 z5 z6; omega
  · rw [e6]; clear e2 e3 e4 e5 e6 e7 h1 h2 h3 h4 h5 z4 z5 z6; omega
theorem nx_andI (a b : Nat) : nI a &&& nI b = nI (a &&& b) := by
  apply Int32.toBitVec_inj.1
  show BitVec.ofNat 32 a &&& BitVec.ofNat 32 b = BitVec.ofNat 32 (a &&& b)
  apply BitVec.eq_of_getLsbD_eq
  intro i hi
  simp [hi]
theorem ap_sub {a b : Nat} (h : b ≤ a) : nI a - nI b = nI (a - b) := pk_sub h
theorem ap_ushr {n k p : Nat} (hn : n < 4294967296) (hk : k < 32) (hp : 2 ^ k = p) : aw_ushr (nI n) (nI k) = nI (n / p) := by
  unfold aw_ushr
  have h := pk_ushrN (n := n) hn (nI k) k (s_u k hk)
  rw [hp] at h
  exact h
theorem ap_of (x : Int32) : ∃ n, n < 4294967296 ∧ x = nI n := ⟨x.toBitVec.toNat, x.toBitVec.isLt, by
  apply Int32.toBitVec_inj.mp
  show x.toBitVec = BitVec.ofNat 32 x.toBitVec.toNat
  rw [BitVec.ofNat_toNat, BitVec.setWidth_eq]⟩
theorem ap_bt {n i : Nat} (hi : i < 32) : ao_t (nI n) i ↔ n / 2 ^ i % 2 = 1 := by
  unfold ao_t bt
  show (BitVec.ofNat 32 n).getLsbD i = true ↔ _
  rw [BitVec.getLsbD_ofNat, Nat.testBit_eq_decide_div_mod_eq]
  simp [hi]
theorem ap_n_s {n k : Nat} (hk : k < 32) : ao_n (ao_t (nI n)) (k + 1) = ao_n (ao_t (nI n)) k + n / 2 ^ k % 2 := by
  by_cases h : ao_t (nI n) k
  · rw [ao_n_s1 h, (ap_bt hk).mp h]
  · rw [ao_n_s0 h]
    have : n / 2 ^ k % 2 ≠ 1 := fun q => h ((ap_bt hk).mpr q)
    omega
theorem ap_dd (n k i : Nat) : n / 2 ^ (k + i) = n / 2 ^ k / 2 ^ i := by rw [Nat.pow_add, Nat.div_div_eq_div_mul]
theorem ap_n8 {n k : Nat} (hk : k ≤ 24) : ao_n (ao_t (nI n)) (k + 8) = ao_n (ao_t (nI n)) k + ap_l3 (n / 2 ^ k % 256) := by
  rw [ap_d6 _ (by omega), ap_n_s (k := k + 7) (by omega), ap_n_s (k := k + 6) (by omega), ap_n_s (k := k + 5) (by omega), ap_n_s (k := k + 4) (by omega), ap_n_s (k := k + 3) (by omega), ap_n_s (k := k + 2) (by omega), ap_n_s (k := k + 1) (by omega), ap_n_s (k := k) (by omega)]
  rw [ap_dd n k 7, ap_dd n k 6, ap_dd n k 5, ap_dd n k 4, ap_dd n k 3, ap_dd n k 2, ap_dd n k 1]
  generalize n / 2 ^ k = m
  generalize ao_n (ao_t (nI n)) k = z
  simp only [Nat.reducePow]
  omega
theorem ap_bitCount (σ : aw_S) (x : Int32) : m_In_bitCount σ x = some (nI (ao_n (ao_t x) 32)) := by
  obtain ⟨n, hn, rfl⟩ := ap_of x
  have hs : ao_n (ao_t (nI n)) 32 = ap_l3 (n % 256) + ap_l3 (n / 256 % 256) + ap_l3 (n / 65536 % 256) + ap_l3 (n / 16777216) := by
    rw [ap_n8 (k := 24) (by omega), ap_n8 (k := 16) (by omega), ap_n8 (k := 8) (by omega), ap_n8 (k := 0) (by omega), show ao_n (ao_t (nI n)) 0 = 0 from rfl]
    simp only [Nat.reducePow, Nat.div_one, Nat.zero_add]
    rw [show n / 16777216 % 256 = n / 16777216 from Nat.mod_eq_of_lt (by omega)]
  obtain ⟨y1, h1⟩ : ∃ y, y = n - (n / 2 &&& 1431655765) := ⟨_, rfl⟩
  obtain ⟨y2, h2⟩ : ∃ y, y = (y1 &&& 858993459) + (y1 / 4 &&& 858993459) := ⟨_, rfl⟩
  obtain ⟨y3, h3⟩ : ∃ y, y = (y2 + y2 / 16) &&& 252645135 := ⟨_, rfl⟩
  obtain ⟨y4, h4⟩ : ∃ y, y = y3 + y3 / 256 := ⟨_, rfl⟩
  obtain ⟨y5, h5⟩ : ∃ y, y = y4 + y4 / 65536 := ⟨_, rfl⟩
  obtain ⟨g1, g2, g3, g4, g5, g6⟩ := ap_nat (a := n % 256) (b := n / 256 % 256) (c := n / 65536 % 256) (d := n / 16777216) (by omega) (by omega) (by omega) (by omega) n y1 y2 y3 y4 y5 (by omega) h1 h2 h3 h4 h5
  have hy1 : y1 < 4294967296 := by omega
  have hy3 : y3 < 4294967296 := by rw [h3]; exact Nat.lt_of_le_of_lt Nat.and_le_right (by omega)
  unfold m_In_bitCount
  rw [ao_ltr, show (1 : Int32) = nI 1 from rfl, show (1431655765 : Int32) = nI 1431655765 from rfl, ap_ushr hn (by omega) (p := 2) rfl, nx_andI, ap_sub g1, ← h1]
  rw [ao_ltr, show (2 : Int32) = nI 2 from rfl, show (858993459 : Int32) = nI 858993459 from rfl, ap_ushr hy1 (by omega) (p := 4) rfl, nx_andI, nx_andI, nI_add, ← h2]
  rw [ao_ltr, show (4 : Int32) = nI 4 from rfl, show (252645135 : Int32) = nI 252645135 from rfl, ap_ushr g2 (by omega) (p := 16) rfl, nI_add, nx_andI, ← h3]
  rw [ao_ltr, show (8 : Int32) = nI 8 from rfl, ap_ushr hy3 (by omega) (p := 256) rfl, nI_add, ← h4]
  rw [ao_ltr, show (16 : Int32) = nI 16 from rfl, ap_ushr g4 (by omega) (p := 65536) rfl, nI_add, ← h5]
  rw [pk_andN g5 6 (by decide), hs, ← g6]

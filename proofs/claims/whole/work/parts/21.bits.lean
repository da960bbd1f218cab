/-! ===== Int32 by its bits: bt x i ===== -/
def bt (x : Int32) (i : Nat) : Bool := x.toBitVec.getLsbD i
theorem b_ext {x y : Int32} (h : ∀ i, i < 32 → bt x i = bt y i) : x = y := Int32.toBitVec_inj.mp (BitVec.eq_of_getLsbD_eq (fun i hi => h i hi))
theorem b_or (x y : Int32) (i : Nat) : bt (x ||| y) i = (bt x i || bt y i) := by unfold bt; rw [Int32.toBitVec_or, BitVec.getLsbD_or]
theorem b_and (x y : Int32) (i : Nat) : bt (x &&& y) i = (bt x i && bt y i) := by unfold bt; rw [Int32.toBitVec_and, BitVec.getLsbD_and]
theorem b_xor (x y : Int32) (i : Nat) : bt (x ^^^ y) i = (bt x i ^^ bt y i) := by unfold bt; rw [Int32.toBitVec_xor, BitVec.getLsbD_xor]
theorem b_big {x : Int32} {i : Nat} (h : 32 ≤ i) : bt x i = false := BitVec.getLsbD_of_ge _ _ h
theorem b_255 (i : Nat) : bt 255 i = decide (i < 8) := by
  rcases Nat.lt_or_ge i 32 with h | h
  · exact (by decide +kernel : ∀ i, i < 32 → bt 255 i = decide (i < 8)) i h
  · rw [b_big h, decide_eq_false (by omega)]
theorem b_65535 (i : Nat) : bt 65535 i = decide (i < 16) := by
  rcases Nat.lt_or_ge i 32 with h | h
  · exact (by decide +kernel : ∀ i, i < 32 → bt 65535 i = decide (i < 16)) i h
  · rw [b_big h, decide_eq_false (by omega)]
theorem b_m1 : ∀ i, i < 32 → bt (-1) i = true := by decide +kernel
theorem b_0 (i : Nat) : bt 0 i = false := BitVec.getLsbD_zero
theorem s_l : ∀ n, n < 32 → ((nI n &&& 31).toBitVec.smod 32).toNat = n := by decide +kernel
theorem s_u : ∀ n, n < 32 → (((nI n).toUInt32 &&& Int32.toUInt32 31).toBitVec % 32).toNat = n := by decide +kernel
theorem b_shl (n : Nat) (hn : n < 32) (x : Int32) {i : Nat} (hi : i < 32) : bt (x <<< (nI n &&& 31)) i = (decide (n ≤ i) && bt x (i - n)) := by
  unfold bt
  rw [Int32.toBitVec_shiftLeft]
  show (x.toBitVec <<< ((nI n &&& 31).toBitVec.smod 32).toNat).getLsbD i = _
  rw [s_l n hn, BitVec.getLsbD_shiftLeft]
  rcases Nat.lt_or_ge i n with h | h
  · simp [h, Nat.not_le.mpr h]
  · simp [hi, h, Nat.not_lt.mpr h]
theorem b_ushr (n : Nat) (hn : n < 32) (x : Int32) (i : Nat) : bt ((x.toUInt32 >>> ((nI n).toUInt32 &&& Int32.toUInt32 31)).toInt32) i = bt x (n + i) := by
  show (x.toUInt32 >>> ((nI n).toUInt32 &&& Int32.toUInt32 31)).toBitVec.getLsbD i = x.toUInt32.toBitVec.getLsbD (n + i)
  rw [UInt32.toBitVec_shiftRight]
  show (x.toUInt32.toBitVec >>> (((nI n).toUInt32 &&& Int32.toUInt32 31).toBitVec % 32).toNat).getLsbD i = _
  rw [s_u n hn, BitVec.getLsbD_ushiftRight]
theorem b_sshr (n : Nat) (hn : n < 32) (x : Int32) {i : Nat} (hi : i < 32) : bt (x >>> (nI n &&& 31)) i = if n + i < 32 then bt x (n + i) else bt x 31 := by
  unfold bt
  rw [Int32.toBitVec_shiftRight]
  show (x.toBitVec.sshiftRight ((nI n &&& 31).toBitVec.smod 32).toNat).getLsbD i = _
  rw [s_l n hn, BitVec.getLsbD_sshiftRight, BitVec.msb_eq_getLsbD_last]
  simp [hi]

/-! ===== one bit, masks ===== -/
theorem ao_bt_ushr (x : Int32) {e : Nat} (he : e < 32) (i : Nat) : bt (aw_ushr x (nI e)) i = bt x (e + i) := b_ushr e he x i
theorem ao_bt_1 (i : Nat) : bt 1 i = decide (i = 0) := by
  rcases Nat.lt_or_ge i 32 with h | h
  · exact (by decide +kernel : ∀ i, i < 32 → bt 1 i = decide (i = 0)) i h
  · rw [b_big h, decide_eq_false (by omega)]
/-- the bit e of x -/
def ao_t (x : Int32) (e : Nat) : Prop := bt x e = true
theorem ao_t_or {x y : Int32} {e : Nat} : ao_t (x ||| y) e ↔ ao_t x e ∨ ao_t y e := by unfold ao_t; rw [b_or, Bool.or_eq_true]
theorem ao_t_and {x y : Int32} {e : Nat} : ao_t (x &&& y) e ↔ ao_t x e ∧ ao_t y e := by unfold ao_t; rw [b_and, Bool.and_eq_true]
theorem ao_t_not {x : Int32} {e : Nat} (he : e < 32) : ao_t (x ^^^ (-1)) e ↔ ¬ ao_t x e := by
  unfold ao_t
  rw [b_xor, b_m1 e he]
  cases bt x e <;> decide
theorem ao_t_0 {e : Nat} : ¬ ao_t 0 e := by unfold ao_t; rw [b_0]; decide
theorem ao_t_m1 {e : Nat} (he : e < 32) : ao_t (-1) e := b_m1 e he
theorem ao_t_big {x : Int32} {e : Nat} (h : 32 ≤ e) : ¬ ao_t x e := by unfold ao_t; rw [b_big h]; decide
theorem ao_t_ext {x y : Int32} (h : ∀ e, e < 32 → (ao_t x e ↔ ao_t y e)) : x = y := by
  refine b_ext (fun i hi => ?_)
  have := h i hi
  unfold ao_t at this
  cases hx : bt x i <;> cases hy : bt y i <;> simp_all
theorem ao_t_one {e : Nat} (he : e < 32) {i : Nat} (hi : i < 32) : ao_t ((1 : Int32) <<< (nI e &&& 31)) i ↔ i = e := by
  unfold ao_t
  rw [b_shl e he 1 hi, ao_bt_1, Bool.and_eq_true, decide_eq_true_iff, decide_eq_true_iff]
  omega
theorem ao_t_1 {i : Nat} : ao_t 1 i ↔ i = 0 := by unfold ao_t; rw [ao_bt_1, decide_eq_true_iff]
theorem ao_t_ushr {x : Int32} {e : Nat} (he : e < 32) {i : Nat} : ao_t (aw_ushr x (nI e)) i ↔ ao_t x (e + i) := by unfold ao_t; rw [ao_bt_ushr x he]
theorem ao_t_b {p : Prop} {i : Nat} : ao_t (ao_b p) i ↔ p ∧ i = 0 := by
  by_cases h : p
  · rw [ao_b1 h, ao_t_1]; exact ⟨fun e => ⟨h, e⟩, fun e => e.2⟩
  · rw [ao_b0 h]; exact ⟨fun e => absurd e ao_t_0, fun e => absurd e.1 h⟩
theorem ao_bit {x : Int32} {e : Nat} (he : e < 32) : (aw_ushr x (nI e) &&& 1) = ao_b (ao_t x e) := by
  refine ao_t_ext (fun i hi => ?_)
  rw [ao_t_and, ao_t_ushr he, ao_t_1, ao_t_b]
  refine ⟨fun h => ?_, fun h => ?_⟩
  · obtain ⟨h1, rfl⟩ := h
    exact ⟨h1, rfl⟩
  · obtain ⟨h1, rfl⟩ := h
    exact ⟨h1, rfl⟩
theorem ao_and1 {x : Int32} {e : Nat} (he : e < 32) : (x &&& ((1 : Int32) <<< (nI e &&& 31))) = 0 ↔ ¬ ao_t x e := by
  refine ⟨fun h ht => ?_, fun h => ao_t_ext (fun i hi => ?_)⟩
  · have : ao_t (x &&& ((1 : Int32) <<< (nI e &&& 31))) e := ao_t_and.mpr ⟨ht, (ao_t_one he he).mpr rfl⟩
    rw [h] at this
    exact ao_t_0 this
  · rw [ao_t_and, ao_t_one he hi]
    refine ⟨fun q => ?_, fun q => absurd q ao_t_0⟩
    obtain ⟨q, rfl⟩ := q
    exact absurd q h
theorem ao_t_nz {x : Int32} : x = 0 ↔ ∀ e, e < 32 → ¬ ao_t x e := ⟨fun h e _ => by rw [h]; exact ao_t_0, fun h => ao_t_ext (fun e he => ⟨fun q => absurd q (h e he), fun q => absurd q ao_t_0⟩)⟩
theorem ao_t_all' : ∀ c, c < 31 → ∀ i, i < 32 → bt (((1 : Int32) <<< (nI c &&& 31)) - 1) i = decide (i < c) := by decide +kernel
theorem ao_t_all {c i : Nat} (hc : c < 31) (hi : i < 32) : ao_t (((1 : Int32) <<< (nI c &&& 31)) - 1) i ↔ i < c := by unfold ao_t; rw [ao_t_all' c hc i hi, decide_eq_true_iff]

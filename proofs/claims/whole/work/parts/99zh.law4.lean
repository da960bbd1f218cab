/-! ===== THE LAW: its loop ===== -/
theorem lw_and31 (x : Int32) : ∃ n, n < 32 ∧ x &&& 31 = nI n := by
  obtain ⟨m, _, rfl⟩ := ap_of x
  refine ⟨m &&& 31, ?_, nx_andI m 31⟩
  have : m &&& 31 ≤ 31 := Nat.and_le_right
  omega
set_option maxHeartbeats 4000000 in
/-- the loop, at its head, with i ints read: both worlds alike -/
theorem law_loop {p : Program} {l : Launch} {e : Env} {s : State} {m : MethodId} {below : List Frame} {meth : Method} {c : Code} {b L : Nat} {xs : Nat → Int32} (C0 : lw_At p s m meth c b L xs) (hL : L ≤ 3072) {GA GB : aw_G} (h2 : lw_2 s GA GB) {kc ks : Nat} (hkc : kc ≤ room_1.cells ∧ ks ≤ room_1.slots) :
    ∀ (n i : Nat) (a0 b0 : aw_S) (H : Heap) (locs : List Loc) (ls : Array Slot), L + 6 ≤ i + n → i ≤ L → lw_H s GA GB a0 b0 H locs → iv_I a0 b0 → lv_has ls 4 (lw_loc b GA GB i) → W p l e room_1 s m #[Value.ref b] below meth c H locs kc ks (lw_Z below #[Value.ref b] s) (F0 m 18 ls []) := by
  intro n
  induction n with
  | zero => intro i a0 b0 H locs ls h1 h3; omega
  | succ n ih =>
    intro i a0 b0 H locs ls h1 h3 hH hI hl
    obtain ⟨hx, hb, hr, hml, hown, hts, hX, hbl, hlocks, hgv⟩ := id C0
    have hbA : ¬ (fun q : Nat => s.heap.size ≤ q) b := Nat.not_le.mpr hbl
    refine lv_iload_n hx hb dL_law_18 rfl (lv_at hl 3 rfl) ?_
    refine lv_aload_n hx hb dL_law_19 rfl (lv_at hl 0 rfl) ?_
    refine va_slen hx hb hX hbl hbA hH.2.2 dL_law_20 ?_
    refine lv_bipush (v := 6) hx hb dL_law_21 (by decide) ?_
    refine lv_isub hx hb dL_law_23 ?_
    refine lv_icmp_gt (tgt := 1100) hx hb dL_law_24 (by decide) (fun _ => ?_) (fun q => ?_)
    · refine lv_iconst (v := 1) hx hb dL_law_1100 (by decide) ?_
      refine va_forget (fun q hq => hH.2.2.2.2 q hq) ?_
      refine W.widen (k := 600000) (n := 7302250) hkc.1 hkc.2 ?_
      exact lw_ret hx hb hr hlocks dL_law_1101
    · have hi : i + 6 ≤ L := by
        refine Classical.byContradiction fun z => q ?_
        show (nI L - 6 : Int32) < nI i
        by_cases w : 6 ≤ L
        · rw [show (6 : Int32) = nI 6 from rfl, pk_sub w]
          exact nI_lt (by omega) (by omega)
        · have hl6 : L = 0 ∨ L = 1 ∨ L = 2 ∨ L = 3 ∨ L = 4 ∨ L = 5 := by omega
          have hneg : (nI L - 6 : Int32) < 0 := by rcases hl6 with rfl | rfl | rfl | rfl | rfl | rfl <;> decide
          have h0 : (0 : Int32) ≤ nI i := nI_pos' (by omega)
          have h0 := Int32.le_iff_toInt_le.mp h0
          have hneg := Int32.lt_iff_toInt_lt.mp hneg
          exact Int32.lt_iff_toInt_lt.mpr (by omega)
      refine lv_aload_n hx hb dL_law_27 rfl (lv_at hl 0 rfl) ?_
      refine lv_iload_n hx hb dL_law_28 rfl (lv_at hl 3 rfl) ?_
      refine va_sld hx hb hX hbl hbA hH.2.2 (vp_in_nI (show i < L by omega) (by omega)) dL_law_29 ?_
      refine lv_bipush (v := 31) hx hb dL_law_30 (by decide) ?_
      refine lv_iand hx hb dL_law_32 ?_
      obtain ⟨w, hw, ew⟩ := lw_and31 (xs (nI i).toNatClampNeg)
      rw [ew]
      have next : ∀ (H1 : Heap) (locs1 : List Loc) (a1 b1 : aw_S), lw_H s GA GB a1 b1 H1 locs1 → iv_I a1 b1 → W p l e room_1 s m #[Value.ref b] below meth c H1 locs1 kc ks (lw_Z below #[Value.ref b] s) (F0 m 1094 ls []) := by
        intro H1 locs1 a1 b1 hH1 hI1
        refine lv_iinc (v := nI (i + 6)) (lv' := [(3, .int (nI (i + 6))), (0, .ref b), (1, .ref GA.2.2.2.1), (2, .ref GB.2.2.2.1)]) hx hb dL_law_1094 hl (k := 3) rfl (by rw [show Int32.ofInt 6 = nI 6 from rfl, nI_add]) (by decide) rfl (fun ls hl => ?_)
        refine lv_goto (tgt := 18) hx hb dL_law_1097 (by decide) ?_
        exact ih (i + 6) a1 b1 H1 locs1 ls (by omega) hi hH1 hI1 (lv_sub hl [1, 2, 3, 0] rfl)
      have ti : (nI w).toInt = (w : Int) := nI_toInt (by omega)
      have lo : ¬ (nI w).toInt < 0 := by rw [ti]; omega
      have up : ¬ (31 : Int) < (nI w).toInt := by rw [ti]; omega
      by_cases w0 : w = 0
      · subst w0
        refine lv_tableIn (tgt := 176) hx hb dL_law_33 lo up rfl (by decide) ?_
        exact lw_c_feed C0 hL h2 hH hI hl hi hkc next
      by_cases w1 : w = 1
      · subst w1
        refine lv_tableIn (tgt := 239) hx hb dL_law_33 lo up rfl (by decide) ?_
        exact lw_c_end C0 hL h2 hH hI hl hi hkc next
      by_cases w2 : w = 2
      · subst w2
        refine lv_tableIn (tgt := 262) hx hb dL_law_33 lo up rfl (by decide) ?_
        exact lw_c_program C0 hL h2 hH hI hl hi hkc next
      by_cases w3 : w = 3
      · subst w3
        refine lv_tableIn (tgt := 275) hx hb dL_law_33 lo up rfl (by decide) ?_
        exact lw_c_fault C0 hL h2 hH hI hl hi hkc next
      by_cases w4 : w = 4
      · subst w4
        refine lv_tableIn (tgt := 288) hx hb dL_law_33 lo up rfl (by decide) ?_
        exact lw_c_is C0 hL h2 hH hI hl hi hkc next
      by_cases w5 : w = 5
      · subst w5
        refine lv_tableIn (tgt := 311) hx hb dL_law_33 lo up rfl (by decide) ?_
        exact lw_c_node C0 hL h2 hH hI hl hi hkc next
      by_cases w6 : w = 6
      · subst w6
        refine lv_tableIn (tgt := 344) hx hb dL_law_33 lo up rfl (by decide) ?_
        exact lw_c_expression C0 hL h2 hH hI hl hi hkc next
      by_cases w7 : w = 7
      · subst w7
        refine lv_tableIn (tgt := 377) hx hb dL_law_33 lo up rfl (by decide) ?_
        exact lw_c_risky C0 hL h2 hH hI hl hi hkc next
      by_cases w8 : w = 8
      · subst w8
        refine lv_tableIn (tgt := 390) hx hb dL_law_33 lo up rfl (by decide) ?_
        exact lw_c_fact C0 hL h2 hH hI hl hi hkc next
      by_cases w9 : w = 9
      · subst w9
        refine lv_tableIn (tgt := 433) hx hb dL_law_33 lo up rfl (by decide) ?_
        exact lw_c_placed C0 hL h2 hH hI hl hi hkc next
      by_cases w10 : w = 10
      · subst w10
        refine lv_tableIn (tgt := 486) hx hb dL_law_33 lo up rfl (by decide) ?_
        exact lw_c_placement C0 hL h2 hH hI hl hi hkc next
      by_cases w11 : w = 11
      · subst w11
        refine lv_tableIn (tgt := 529) hx hb dL_law_33 lo up rfl (by decide) ?_
        exact lw_c_shared C0 hL h2 hH hI hl hi hkc next
      by_cases w12 : w = 12
      · subst w12
        refine lv_tableIn (tgt := 562) hx hb dL_law_33 lo up rfl (by decide) ?_
        exact lw_c_most C0 hL h2 hH hI hl hi hkc next
      by_cases w13 : w = 13
      · subst w13
        refine lv_tableIn (tgt := 585) hx hb dL_law_33 lo up rfl (by decide) ?_
        exact lw_c_letter C0 hL h2 hH hI hl hi hkc next
      by_cases w14 : w = 14
      · subst w14
        refine lv_tableIn (tgt := 618) hx hb dL_law_33 lo up rfl (by decide) ?_
        exact lw_c_run C0 hL h2 hH hI hl hi hkc next
      by_cases w15 : w = 15
      · subst w15
        refine lv_tableIn (tgt := 651) hx hb dL_law_33 lo up rfl (by decide) ?_
        exact lw_c_computed C0 hL h2 hH hI hl hi hkc next
      by_cases w16 : w = 16
      · subst w16
        refine lv_tableIn (tgt := 674) hx hb dL_law_33 lo up rfl (by decide) ?_
        exact lw_c_output C0 hL h2 hH hI hl hi hkc next
      by_cases w17 : w = 17
      · subst w17
        refine lv_tableIn (tgt := 697) hx hb dL_law_33 lo up rfl (by decide) ?_
        exact lw_c_behind C0 hL h2 hH hI hl hi hkc next
      by_cases w18 : w = 18
      · subst w18
        refine lv_tableIn (tgt := 720) hx hb dL_law_33 lo up rfl (by decide) ?_
        exact lw_c_alike C0 hL h2 hH hI hl hi hkc next
      by_cases w19 : w = 19
      · subst w19
        refine lv_tableIn (tgt := 743) hx hb dL_law_33 lo up rfl (by decide) ?_
        exact lw_c_live C0 hL h2 hH hI hl hi hkc next
      by_cases w20 : w = 20
      · subst w20
        refine lv_tableIn (tgt := 766) hx hb dL_law_33 lo up rfl (by decide) ?_
        exact lw_c_dead C0 hL h2 hH hI hl hi hkc next
      by_cases w21 : w = 21
      · subst w21
        refine lv_tableIn (tgt := 789) hx hb dL_law_33 lo up rfl (by decide) ?_
        exact lw_c_again C0 hL h2 hH hI hl hi hkc next
      by_cases w22 : w = 22
      · subst w22
        refine lv_tableIn (tgt := 822) hx hb dL_law_33 lo up rfl (by decide) ?_
        exact lw_c_over C0 hL h2 hH hI hl hi hkc next
      by_cases w23 : w = 23
      · subst w23
        refine lv_tableIn (tgt := 855) hx hb dL_law_33 lo up rfl (by decide) ?_
        exact lw_c_depth C0 hL h2 hH hI hl hi hkc next
      by_cases w24 : w = 24
      · subst w24
        refine lv_tableIn (tgt := 878) hx hb dL_law_33 lo up rfl (by decide) ?_
        exact lw_c_heads C0 hL h2 hH hI hl hi hkc next
      by_cases w25 : w = 25
      · subst w25
        refine lv_tableIn (tgt := 891) hx hb dL_law_33 lo up rfl (by decide) ?_
        exact lw_c_weight C0 hL h2 hH hI hl hi hkc next
      by_cases w26 : w = 26
      · subst w26
        refine lv_tableIn (tgt := 915) hx hb dL_law_33 lo up rfl (by decide) ?_
        exact lw_c_others C0 hL h2 hH hI hl hi hkc next
      by_cases w27 : w = 27
      · subst w27
        refine lv_tableIn (tgt := 948) hx hb dL_law_33 lo up rfl (by decide) ?_
        exact lw_c_ways C0 hL h2 hH hI hl hi hkc next
      by_cases w28 : w = 28
      · subst w28
        refine lv_tableIn (tgt := 992) hx hb dL_law_33 lo up rfl (by decide) ?_
        exact lw_c_keep C0 hL h2 hH hI hl hi hkc next
      by_cases w29 : w = 29
      · subst w29
        refine lv_tableIn (tgt := 1015) hx hb dL_law_33 lo up rfl (by decide) ?_
        exact lw_c_back C0 hL h2 hH hI hl hi hkc next
      by_cases w30 : w = 30
      · subst w30
        refine lv_tableIn (tgt := 1038) hx hb dL_law_33 lo up rfl (by decide) ?_
        exact lw_c_write C0 hL h2 hH hI hl hi hkc next
      by_cases w31 : w = 31
      · subst w31
        refine lv_tableIn (tgt := 1071) hx hb dL_law_33 lo up rfl (by decide) ?_
        exact lw_c_octet C0 hL h2 hH hI hl hi hkc next
      omega

/-! ===== THE LAW: each case walked ===== -/
theorem lw_lcmp (r : Int64) : lg_cmp r r = 0 := by
  unfold lg_cmp
  simp
theorem lx_Mo_feed : aw_Y yX11_feed M_Mo_feed 5 ∧ Cond.instanceMethod yX11_feed ∈ wsL_law ∧ Cond.selects (yX11_feed).cls yX11_feed yX11_feed ∈ wsL_law := ⟨⟨aw_in_9 _ (List.mem_of_getElem? (i := 4) rfl), aw_in_0 _ (List.mem_of_getElem? (i := 2) rfl), by decide +kernel, by decide +kernel, by decide +kernel⟩, aw_in_9 _ (List.mem_of_getElem? (i := 2) rfl), aw_in_9 _ (List.mem_of_getElem? (i := 3) rfl)⟩
theorem lx_Rf_feed : aw_Y yX12_feed M_Rf_feed 5 ∧ Cond.instanceMethod yX12_feed ∈ wsL_law ∧ Cond.selects (yX12_feed).cls yX12_feed yX12_feed ∈ wsL_law := ⟨⟨aw_in_9 _ (List.mem_of_getElem? (i := 21) rfl), aw_in_0 _ (List.mem_of_getElem? (i := 5) rfl), by decide +kernel, by decide +kernel, by decide +kernel⟩, aw_in_9 _ (List.mem_of_getElem? (i := 19) rfl), aw_in_9 _ (List.mem_of_getElem? (i := 20) rfl)⟩
set_option maxHeartbeats 1000000 in
theorem lw_c_feed {p : Program} {l : Launch} {e : Env} {s : State} {m : MethodId} {below : List Frame} {meth : Method} {c : Code} {b L : Nat} {xs : Nat → Int32} (C0 : lw_At p s m meth c b L xs) (hL : L ≤ 3072) {GA GB : aw_G} (h2 : lw_2 s GA GB) {a0 b0 : aw_S} {H : Heap} {locs : List Loc} {kc ks i : Nat} {ls : Array Slot} (hH : lw_H s GA GB a0 b0 H locs) (hI : iv_I a0 b0) (hl : lv_has ls 4 (lw_loc b GA GB i)) (hi : i + 6 ≤ L) (hkc : kc ≤ room_1.cells ∧ ks ≤ room_1.slots) (k : ∀ (H1 : Heap) (locs1 : List Loc) (a1 b1 : aw_S), lw_H s GA GB a1 b1 H1 locs1 → iv_I a1 b1 → W p l e room_1 s m #[Value.ref b] below meth c H1 locs1 kc ks (lw_Z below #[Value.ref b] s) (F0 m 1094 ls [])) : W p l e room_1 s m #[Value.ref b] below meth c H locs kc ks (lw_Z below #[Value.ref b] s) (F0 m 176 ls []) := by
  obtain ⟨r, a1, b1, cA, cB, hI1⟩ := k_feed l GA GB hI (xs (i + 1)) (xs (i + 2)) (xs (i + 3)) (xs (i + 4)) (xs (i + 5))
  obtain ⟨hx, hb, hr, hml, hown, hts, hX, hbl, hlocks, hgv⟩ := id C0
  obtain ⟨nA, nB, KA, KB, z1, z2, hN⟩ := id h2
  refine lv_aload_n hx hb dL_law_176 rfl (lv_at hl 1 rfl) ?_
  refine lw_arg C0 hL (j := 1) hH.2.2 hl dL_law_177 dL_law_178 dL_law_179 dL_law_180 dL_law_181 (by decide) (by omega) ?_
  refine lw_arg C0 hL (j := 2) hH.2.2 hl dL_law_182 dL_law_183 dL_law_184 dL_law_185 dL_law_186 (by decide) (by omega) ?_
  refine lw_arg C0 hL (j := 3) hH.2.2 hl dL_law_187 dL_law_188 dL_law_189 dL_law_190 dL_law_191 (by decide) (by omega) ?_
  refine lw_arg C0 hL (j := 4) hH.2.2 hl dL_law_192 dL_law_193 dL_law_194 dL_law_195 dL_law_196 (by decide) (by omega) ?_
  refine lw_arg C0 hL (j := 5) hH.2.2 hl dL_law_197 dL_law_198 dL_law_199 dL_law_200 dL_law_201 (by decide) (by omega) ?_
  refine lw_call C0 hN (G := GA) (st := []) (av := [.int (xs (i + 1)), .int (xs (i + 2)), .int (xs (i + 3)), .int (xs (i + 4)), .int (xs (i + 5))]) nA KA z1 cA lx_Mo_feed.1 (aw_in_9 _ (List.mem_of_getElem? (i := 1) rfl)) lx_Mo_feed.2.1 lx_Mo_feed.2.2 xA_0 ⟨_, _, rfl⟩ rfl (by decide +kernel) ⟨rfl, rfl⟩ (Nat.le_of_ble_eq_true rfl) dL_law_202 hH.1 hH.2.2 hl.1 hkc (fun H1 locs1 hP1 hS1 hk1 => ?_)
  have hH1 := lw_HA h2 hH hP1 hS1 hk1
  refine lv_aload_n hx hb dL_law_205 rfl (lv_at hl 2 rfl) ?_
  refine lw_arg C0 hL (j := 1) hH1.2.2 hl dL_law_206 dL_law_207 dL_law_208 dL_law_209 dL_law_210 (by decide) (by omega) ?_
  refine lw_arg C0 hL (j := 2) hH1.2.2 hl dL_law_211 dL_law_212 dL_law_213 dL_law_214 dL_law_215 (by decide) (by omega) ?_
  refine lw_arg C0 hL (j := 3) hH1.2.2 hl dL_law_216 dL_law_217 dL_law_218 dL_law_219 dL_law_220 (by decide) (by omega) ?_
  refine lw_arg C0 hL (j := 4) hH1.2.2 hl dL_law_221 dL_law_222 dL_law_223 dL_law_224 dL_law_225 (by decide) (by omega) ?_
  refine lw_arg C0 hL (j := 5) hH1.2.2 hl dL_law_226 dL_law_227 dL_law_228 dL_law_229 dL_law_230 (by decide) (by omega) ?_
  refine lw_call C0 hN (G := GB) (st := [.int r]) (av := [.int (xs (i + 1)), .int (xs (i + 2)), .int (xs (i + 3)), .int (xs (i + 4)), .int (xs (i + 5))]) nB KB (by omega) cB lx_Rf_feed.1 (aw_in_9 _ (List.mem_of_getElem? (i := 18) rfl)) lx_Rf_feed.2.1 lx_Rf_feed.2.2 xB_0 ⟨_, _, rfl⟩ rfl (by decide +kernel) ⟨rfl, rfl⟩ (Nat.le_of_ble_eq_true rfl) dL_law_231 hH1.2.1 hH1.2.2 hl.1 hkc (fun H2 locs2 hP2 hS2 hk2 => ?_)
  have hH2 := lw_HB h2 hH1 hP2 hS2 hk2
  refine lv_icmp_eq (tgt := 1094) hx hb dL_law_234 (by decide) (fun _ => k H2 locs2 a1 b1 hH2 hI1) (fun z => absurd rfl z)
theorem lx_Mo_end : aw_Y yX11_end M_Mo_end 1 ∧ Cond.instanceMethod yX11_end ∈ wsL_law ∧ Cond.selects (yX11_end).cls yX11_end yX11_end ∈ wsL_law := ⟨⟨aw_in_10 _ (List.mem_of_getElem? (i := 6) rfl), aw_in_0 _ (List.mem_of_getElem? (i := 2) rfl), by decide +kernel, by decide +kernel, by decide +kernel⟩, aw_in_10 _ (List.mem_of_getElem? (i := 4) rfl), aw_in_10 _ (List.mem_of_getElem? (i := 5) rfl)⟩
theorem lx_Rf_end : aw_Y yX12_end M_Rf_end 1 ∧ Cond.instanceMethod yX12_end ∈ wsL_law ∧ Cond.selects (yX12_end).cls yX12_end yX12_end ∈ wsL_law := ⟨⟨aw_in_10 _ (List.mem_of_getElem? (i := 14) rfl), aw_in_0 _ (List.mem_of_getElem? (i := 5) rfl), by decide +kernel, by decide +kernel, by decide +kernel⟩, aw_in_10 _ (List.mem_of_getElem? (i := 12) rfl), aw_in_10 _ (List.mem_of_getElem? (i := 13) rfl)⟩
set_option maxHeartbeats 1000000 in
theorem lw_c_end {p : Program} {l : Launch} {e : Env} {s : State} {m : MethodId} {below : List Frame} {meth : Method} {c : Code} {b L : Nat} {xs : Nat → Int32} (C0 : lw_At p s m meth c b L xs) (hL : L ≤ 3072) {GA GB : aw_G} (h2 : lw_2 s GA GB) {a0 b0 : aw_S} {H : Heap} {locs : List Loc} {kc ks i : Nat} {ls : Array Slot} (hH : lw_H s GA GB a0 b0 H locs) (hI : iv_I a0 b0) (hl : lv_has ls 4 (lw_loc b GA GB i)) (hi : i + 6 ≤ L) (hkc : kc ≤ room_1.cells ∧ ks ≤ room_1.slots) (k : ∀ (H1 : Heap) (locs1 : List Loc) (a1 b1 : aw_S), lw_H s GA GB a1 b1 H1 locs1 → iv_I a1 b1 → W p l e room_1 s m #[Value.ref b] below meth c H1 locs1 kc ks (lw_Z below #[Value.ref b] s) (F0 m 1094 ls [])) : W p l e room_1 s m #[Value.ref b] below meth c H locs kc ks (lw_Z below #[Value.ref b] s) (F0 m 239 ls []) := by
  obtain ⟨r, a1, b1, cA, cB, hI1⟩ := k_end l GA GB hI (xs (i + 1))
  obtain ⟨hx, hb, hr, hml, hown, hts, hX, hbl, hlocks, hgv⟩ := id C0
  obtain ⟨nA, nB, KA, KB, z1, z2, hN⟩ := id h2
  refine lv_aload_n hx hb dL_law_239 rfl (lv_at hl 1 rfl) ?_
  refine lw_arg C0 hL (j := 1) hH.2.2 hl dL_law_240 dL_law_241 dL_law_242 dL_law_243 dL_law_244 (by decide) (by omega) ?_
  refine lw_call C0 hN (G := GA) (st := []) (av := [.int (xs (i + 1))]) nA KA z1 cA lx_Mo_end.1 (aw_in_10 _ (List.mem_of_getElem? (i := 3) rfl)) lx_Mo_end.2.1 lx_Mo_end.2.2 xA_0 ⟨_, _, rfl⟩ rfl (by decide +kernel) ⟨rfl, rfl⟩ (Nat.le_of_ble_eq_true rfl) dL_law_245 hH.1 hH.2.2 hl.1 hkc (fun H1 locs1 hP1 hS1 hk1 => ?_)
  have hH1 := lw_HA h2 hH hP1 hS1 hk1
  refine lv_aload_n hx hb dL_law_248 rfl (lv_at hl 2 rfl) ?_
  refine lw_arg C0 hL (j := 1) hH1.2.2 hl dL_law_249 dL_law_250 dL_law_251 dL_law_252 dL_law_253 (by decide) (by omega) ?_
  refine lw_call C0 hN (G := GB) (st := [.int r]) (av := [.int (xs (i + 1))]) nB KB (by omega) cB lx_Rf_end.1 (aw_in_10 _ (List.mem_of_getElem? (i := 11) rfl)) lx_Rf_end.2.1 lx_Rf_end.2.2 xB_0 ⟨_, _, rfl⟩ rfl (by decide +kernel) ⟨rfl, rfl⟩ (Nat.le_of_ble_eq_true rfl) dL_law_254 hH1.2.1 hH1.2.2 hl.1 hkc (fun H2 locs2 hP2 hS2 hk2 => ?_)
  have hH2 := lw_HB h2 hH1 hP2 hS2 hk2
  refine lv_icmp_eq (tgt := 1094) hx hb dL_law_257 (by decide) (fun _ => k H2 locs2 a1 b1 hH2 hI1) (fun z => absurd rfl z)
theorem lx_Mo_program : aw_Y yX11_program M_Mo_program 0 ∧ Cond.instanceMethod yX11_program ∈ wsL_law ∧ Cond.selects (yX11_program).cls yX11_program yX11_program ∈ wsL_law := ⟨⟨aw_in_10 _ (List.mem_of_getElem? (i := 21) rfl), aw_in_0 _ (List.mem_of_getElem? (i := 2) rfl), by decide +kernel, by decide +kernel, by decide +kernel⟩, aw_in_10 _ (List.mem_of_getElem? (i := 19) rfl), aw_in_10 _ (List.mem_of_getElem? (i := 20) rfl)⟩
theorem lx_Rf_program : aw_Y yX12_program M_Rf_program 0 ∧ Cond.instanceMethod yX12_program ∈ wsL_law ∧ Cond.selects (yX12_program).cls yX12_program yX12_program ∈ wsL_law := ⟨⟨aw_in_27 _ (List.mem_of_getElem? (i := 4) rfl), aw_in_0 _ (List.mem_of_getElem? (i := 5) rfl), by decide +kernel, by decide +kernel, by decide +kernel⟩, aw_in_27 _ (List.mem_of_getElem? (i := 2) rfl), aw_in_27 _ (List.mem_of_getElem? (i := 3) rfl)⟩
set_option maxHeartbeats 1000000 in
theorem lw_c_program {p : Program} {l : Launch} {e : Env} {s : State} {m : MethodId} {below : List Frame} {meth : Method} {c : Code} {b L : Nat} {xs : Nat → Int32} (C0 : lw_At p s m meth c b L xs) (hL : L ≤ 3072) {GA GB : aw_G} (h2 : lw_2 s GA GB) {a0 b0 : aw_S} {H : Heap} {locs : List Loc} {kc ks i : Nat} {ls : Array Slot} (hH : lw_H s GA GB a0 b0 H locs) (hI : iv_I a0 b0) (hl : lv_has ls 4 (lw_loc b GA GB i)) (hi : i + 6 ≤ L) (hkc : kc ≤ room_1.cells ∧ ks ≤ room_1.slots) (k : ∀ (H1 : Heap) (locs1 : List Loc) (a1 b1 : aw_S), lw_H s GA GB a1 b1 H1 locs1 → iv_I a1 b1 → W p l e room_1 s m #[Value.ref b] below meth c H1 locs1 kc ks (lw_Z below #[Value.ref b] s) (F0 m 1094 ls [])) : W p l e room_1 s m #[Value.ref b] below meth c H locs kc ks (lw_Z below #[Value.ref b] s) (F0 m 262 ls []) := by
  obtain ⟨r, a1, b1, cA, cB, hI1⟩ := k_program l GA GB hI
  obtain ⟨hx, hb, hr, hml, hown, hts, hX, hbl, hlocks, hgv⟩ := id C0
  obtain ⟨nA, nB, KA, KB, z1, z2, hN⟩ := id h2
  refine lv_aload_n hx hb dL_law_262 rfl (lv_at hl 1 rfl) ?_
  refine lw_call C0 hN (G := GA) (st := []) (av := []) nA KA z1 cA lx_Mo_program.1 (aw_in_10 _ (List.mem_of_getElem? (i := 18) rfl)) lx_Mo_program.2.1 lx_Mo_program.2.2 xA_0 ⟨_, _, rfl⟩ rfl (by decide +kernel) ⟨rfl, rfl⟩ (Nat.le_of_ble_eq_true rfl) dL_law_263 hH.1 hH.2.2 hl.1 hkc (fun H1 locs1 hP1 hS1 hk1 => ?_)
  have hH1 := lw_HA h2 hH hP1 hS1 hk1
  refine lv_aload_n hx hb dL_law_266 rfl (lv_at hl 2 rfl) ?_
  refine lw_call C0 hN (G := GB) (st := [.int r]) (av := []) nB KB (by omega) cB lx_Rf_program.1 (aw_in_27 _ (List.mem_of_getElem? (i := 1) rfl)) lx_Rf_program.2.1 lx_Rf_program.2.2 xB_0 ⟨_, _, rfl⟩ rfl (by decide +kernel) ⟨rfl, rfl⟩ (Nat.le_of_ble_eq_true rfl) dL_law_267 hH1.2.1 hH1.2.2 hl.1 hkc (fun H2 locs2 hP2 hS2 hk2 => ?_)
  have hH2 := lw_HB h2 hH1 hP2 hS2 hk2
  refine lv_icmp_eq (tgt := 1094) hx hb dL_law_270 (by decide) (fun _ => k H2 locs2 a1 b1 hH2 hI1) (fun z => absurd rfl z)
theorem lx_Mo_fault : aw_Y yX11_fault M_Mo_fault 0 ∧ Cond.instanceMethod yX11_fault ∈ wsL_law ∧ Cond.selects (yX11_fault).cls yX11_fault yX11_fault ∈ wsL_law := ⟨⟨aw_in_36 _ (List.mem_of_getElem? (i := 9) rfl), aw_in_0 _ (List.mem_of_getElem? (i := 2) rfl), by decide +kernel, by decide +kernel, by decide +kernel⟩, aw_in_36 _ (List.mem_of_getElem? (i := 7) rfl), aw_in_36 _ (List.mem_of_getElem? (i := 8) rfl)⟩
theorem lx_Rf_fault : aw_Y yX12_fault M_Rf_fault 0 ∧ Cond.instanceMethod yX12_fault ∈ wsL_law ∧ Cond.selects (yX12_fault).cls yX12_fault yX12_fault ∈ wsL_law := ⟨⟨aw_in_36 _ (List.mem_of_getElem? (i := 13) rfl), aw_in_0 _ (List.mem_of_getElem? (i := 5) rfl), by decide +kernel, by decide +kernel, by decide +kernel⟩, aw_in_36 _ (List.mem_of_getElem? (i := 11) rfl), aw_in_36 _ (List.mem_of_getElem? (i := 12) rfl)⟩
set_option maxHeartbeats 1000000 in
theorem lw_c_fault {p : Program} {l : Launch} {e : Env} {s : State} {m : MethodId} {below : List Frame} {meth : Method} {c : Code} {b L : Nat} {xs : Nat → Int32} (C0 : lw_At p s m meth c b L xs) (hL : L ≤ 3072) {GA GB : aw_G} (h2 : lw_2 s GA GB) {a0 b0 : aw_S} {H : Heap} {locs : List Loc} {kc ks i : Nat} {ls : Array Slot} (hH : lw_H s GA GB a0 b0 H locs) (hI : iv_I a0 b0) (hl : lv_has ls 4 (lw_loc b GA GB i)) (hi : i + 6 ≤ L) (hkc : kc ≤ room_1.cells ∧ ks ≤ room_1.slots) (k : ∀ (H1 : Heap) (locs1 : List Loc) (a1 b1 : aw_S), lw_H s GA GB a1 b1 H1 locs1 → iv_I a1 b1 → W p l e room_1 s m #[Value.ref b] below meth c H1 locs1 kc ks (lw_Z below #[Value.ref b] s) (F0 m 1094 ls [])) : W p l e room_1 s m #[Value.ref b] below meth c H locs kc ks (lw_Z below #[Value.ref b] s) (F0 m 275 ls []) := by
  obtain ⟨r, a1, b1, cA, cB, hI1⟩ := k_fault l GA GB hI
  obtain ⟨hx, hb, hr, hml, hown, hts, hX, hbl, hlocks, hgv⟩ := id C0
  obtain ⟨nA, nB, KA, KB, z1, z2, hN⟩ := id h2
  refine lv_aload_n hx hb dL_law_275 rfl (lv_at hl 1 rfl) ?_
  refine lw_call C0 hN (G := GA) (st := []) (av := []) nA KA z1 cA lx_Mo_fault.1 (aw_in_36 _ (List.mem_of_getElem? (i := 6) rfl)) lx_Mo_fault.2.1 lx_Mo_fault.2.2 xA_0 ⟨_, _, rfl⟩ rfl (by decide +kernel) ⟨rfl, rfl⟩ (Nat.le_of_ble_eq_true rfl) dL_law_276 hH.1 hH.2.2 hl.1 hkc (fun H1 locs1 hP1 hS1 hk1 => ?_)
  have hH1 := lw_HA h2 hH hP1 hS1 hk1
  refine lv_aload_n hx hb dL_law_279 rfl (lv_at hl 2 rfl) ?_
  refine lw_call C0 hN (G := GB) (st := [.int r]) (av := []) nB KB (by omega) cB lx_Rf_fault.1 (aw_in_36 _ (List.mem_of_getElem? (i := 10) rfl)) lx_Rf_fault.2.1 lx_Rf_fault.2.2 xB_0 ⟨_, _, rfl⟩ rfl (by decide +kernel) ⟨rfl, rfl⟩ (Nat.le_of_ble_eq_true rfl) dL_law_280 hH1.2.1 hH1.2.2 hl.1 hkc (fun H2 locs2 hP2 hS2 hk2 => ?_)
  have hH2 := lw_HB h2 hH1 hP2 hS2 hk2
  refine lv_icmp_eq (tgt := 1094) hx hb dL_law_283 (by decide) (fun _ => k H2 locs2 a1 b1 hH2 hI1) (fun z => absurd rfl z)
theorem lx_Mo_is : aw_Y yX11_is M_Mo_is 1 ∧ Cond.instanceMethod yX11_is ∈ wsL_law ∧ Cond.selects (yX11_is).cls yX11_is yX11_is ∈ wsL_law := ⟨⟨aw_in_36 _ (List.mem_of_getElem? (i := 17) rfl), aw_in_0 _ (List.mem_of_getElem? (i := 2) rfl), by decide +kernel, by decide +kernel, by decide +kernel⟩, aw_in_36 _ (List.mem_of_getElem? (i := 15) rfl), aw_in_36 _ (List.mem_of_getElem? (i := 16) rfl)⟩
theorem lx_Rf_is : aw_Y yX12_is M_Rf_is 1 ∧ Cond.instanceMethod yX12_is ∈ wsL_law ∧ Cond.selects (yX12_is).cls yX12_is yX12_is ∈ wsL_law := ⟨⟨aw_in_37 _ (List.mem_of_getElem? (i := 10) rfl), aw_in_0 _ (List.mem_of_getElem? (i := 5) rfl), by decide +kernel, by decide +kernel, by decide +kernel⟩, aw_in_37 _ (List.mem_of_getElem? (i := 8) rfl), aw_in_37 _ (List.mem_of_getElem? (i := 9) rfl)⟩
set_option maxHeartbeats 1000000 in
theorem lw_c_is {p : Program} {l : Launch} {e : Env} {s : State} {m : MethodId} {below : List Frame} {meth : Method} {c : Code} {b L : Nat} {xs : Nat → Int32} (C0 : lw_At p s m meth c b L xs) (hL : L ≤ 3072) {GA GB : aw_G} (h2 : lw_2 s GA GB) {a0 b0 : aw_S} {H : Heap} {locs : List Loc} {kc ks i : Nat} {ls : Array Slot} (hH : lw_H s GA GB a0 b0 H locs) (hI : iv_I a0 b0) (hl : lv_has ls 4 (lw_loc b GA GB i)) (hi : i + 6 ≤ L) (hkc : kc ≤ room_1.cells ∧ ks ≤ room_1.slots) (k : ∀ (H1 : Heap) (locs1 : List Loc) (a1 b1 : aw_S), lw_H s GA GB a1 b1 H1 locs1 → iv_I a1 b1 → W p l e room_1 s m #[Value.ref b] below meth c H1 locs1 kc ks (lw_Z below #[Value.ref b] s) (F0 m 1094 ls [])) : W p l e room_1 s m #[Value.ref b] below meth c H locs kc ks (lw_Z below #[Value.ref b] s) (F0 m 288 ls []) := by
  obtain ⟨r, a1, b1, cA, cB, hI1⟩ := k_is l GA GB hI (xs (i + 1))
  obtain ⟨hx, hb, hr, hml, hown, hts, hX, hbl, hlocks, hgv⟩ := id C0
  obtain ⟨nA, nB, KA, KB, z1, z2, hN⟩ := id h2
  refine lv_aload_n hx hb dL_law_288 rfl (lv_at hl 1 rfl) ?_
  refine lw_arg C0 hL (j := 1) hH.2.2 hl dL_law_289 dL_law_290 dL_law_291 dL_law_292 dL_law_293 (by decide) (by omega) ?_
  refine lw_call C0 hN (G := GA) (st := []) (av := [.int (xs (i + 1))]) nA KA z1 cA lx_Mo_is.1 (aw_in_36 _ (List.mem_of_getElem? (i := 14) rfl)) lx_Mo_is.2.1 lx_Mo_is.2.2 xA_0 ⟨_, _, rfl⟩ rfl (by decide +kernel) ⟨rfl, rfl⟩ (Nat.le_of_ble_eq_true rfl) dL_law_294 hH.1 hH.2.2 hl.1 hkc (fun H1 locs1 hP1 hS1 hk1 => ?_)
  have hH1 := lw_HA h2 hH hP1 hS1 hk1
  refine lv_aload_n hx hb dL_law_297 rfl (lv_at hl 2 rfl) ?_
  refine lw_arg C0 hL (j := 1) hH1.2.2 hl dL_law_298 dL_law_299 dL_law_300 dL_law_301 dL_law_302 (by decide) (by omega) ?_
  refine lw_call C0 hN (G := GB) (st := [.int r]) (av := [.int (xs (i + 1))]) nB KB (by omega) cB lx_Rf_is.1 (aw_in_37 _ (List.mem_of_getElem? (i := 7) rfl)) lx_Rf_is.2.1 lx_Rf_is.2.2 xB_0 ⟨_, _, rfl⟩ rfl (by decide +kernel) ⟨rfl, rfl⟩ (Nat.le_of_ble_eq_true rfl) dL_law_303 hH1.2.1 hH1.2.2 hl.1 hkc (fun H2 locs2 hP2 hS2 hk2 => ?_)
  have hH2 := lw_HB h2 hH1 hP2 hS2 hk2
  refine lv_icmp_eq (tgt := 1094) hx hb dL_law_306 (by decide) (fun _ => k H2 locs2 a1 b1 hH2 hI1) (fun z => absurd rfl z)
theorem lx_Mo_node : aw_Y yX11_node M_Mo_node 2 ∧ Cond.instanceMethod yX11_node ∈ wsL_law ∧ Cond.selects (yX11_node).cls yX11_node yX11_node ∈ wsL_law := ⟨⟨aw_in_37 _ (List.mem_of_getElem? (i := 22) rfl), aw_in_0 _ (List.mem_of_getElem? (i := 2) rfl), by decide +kernel, by decide +kernel, by decide +kernel⟩, aw_in_37 _ (List.mem_of_getElem? (i := 20) rfl), aw_in_37 _ (List.mem_of_getElem? (i := 21) rfl)⟩
theorem lx_Rf_node : aw_Y yX12_node M_Rf_node 2 ∧ Cond.instanceMethod yX12_node ∈ wsL_law ∧ Cond.selects (yX12_node).cls yX12_node yX12_node ∈ wsL_law := ⟨⟨aw_in_38 _ (List.mem_of_getElem? (i := 11) rfl), aw_in_0 _ (List.mem_of_getElem? (i := 5) rfl), by decide +kernel, by decide +kernel, by decide +kernel⟩, aw_in_38 _ (List.mem_of_getElem? (i := 9) rfl), aw_in_38 _ (List.mem_of_getElem? (i := 10) rfl)⟩
set_option maxHeartbeats 1000000 in
theorem lw_c_node {p : Program} {l : Launch} {e : Env} {s : State} {m : MethodId} {below : List Frame} {meth : Method} {c : Code} {b L : Nat} {xs : Nat → Int32} (C0 : lw_At p s m meth c b L xs) (hL : L ≤ 3072) {GA GB : aw_G} (h2 : lw_2 s GA GB) {a0 b0 : aw_S} {H : Heap} {locs : List Loc} {kc ks i : Nat} {ls : Array Slot} (hH : lw_H s GA GB a0 b0 H locs) (hI : iv_I a0 b0) (hl : lv_has ls 4 (lw_loc b GA GB i)) (hi : i + 6 ≤ L) (hkc : kc ≤ room_1.cells ∧ ks ≤ room_1.slots) (k : ∀ (H1 : Heap) (locs1 : List Loc) (a1 b1 : aw_S), lw_H s GA GB a1 b1 H1 locs1 → iv_I a1 b1 → W p l e room_1 s m #[Value.ref b] below meth c H1 locs1 kc ks (lw_Z below #[Value.ref b] s) (F0 m 1094 ls [])) : W p l e room_1 s m #[Value.ref b] below meth c H locs kc ks (lw_Z below #[Value.ref b] s) (F0 m 311 ls []) := by
  obtain ⟨r, a1, b1, cA, cB, hI1⟩ := k_node l GA GB hI (xs (i + 1)) (xs (i + 2))
  obtain ⟨hx, hb, hr, hml, hown, hts, hX, hbl, hlocks, hgv⟩ := id C0
  obtain ⟨nA, nB, KA, KB, z1, z2, hN⟩ := id h2
  refine lv_aload_n hx hb dL_law_311 rfl (lv_at hl 1 rfl) ?_
  refine lw_arg C0 hL (j := 1) hH.2.2 hl dL_law_312 dL_law_313 dL_law_314 dL_law_315 dL_law_316 (by decide) (by omega) ?_
  refine lw_arg C0 hL (j := 2) hH.2.2 hl dL_law_317 dL_law_318 dL_law_319 dL_law_320 dL_law_321 (by decide) (by omega) ?_
  refine lw_call C0 hN (G := GA) (st := []) (av := [.int (xs (i + 1)), .int (xs (i + 2))]) nA KA z1 cA lx_Mo_node.1 (aw_in_37 _ (List.mem_of_getElem? (i := 19) rfl)) lx_Mo_node.2.1 lx_Mo_node.2.2 xA_0 ⟨_, _, rfl⟩ rfl (by decide +kernel) ⟨rfl, rfl⟩ (Nat.le_of_ble_eq_true rfl) dL_law_322 hH.1 hH.2.2 hl.1 hkc (fun H1 locs1 hP1 hS1 hk1 => ?_)
  have hH1 := lw_HA h2 hH hP1 hS1 hk1
  refine lv_aload_n hx hb dL_law_325 rfl (lv_at hl 2 rfl) ?_
  refine lw_arg C0 hL (j := 1) hH1.2.2 hl dL_law_326 dL_law_327 dL_law_328 dL_law_329 dL_law_330 (by decide) (by omega) ?_
  refine lw_arg C0 hL (j := 2) hH1.2.2 hl dL_law_331 dL_law_332 dL_law_333 dL_law_334 dL_law_335 (by decide) (by omega) ?_
  refine lw_call C0 hN (G := GB) (st := [.int r]) (av := [.int (xs (i + 1)), .int (xs (i + 2))]) nB KB (by omega) cB lx_Rf_node.1 (aw_in_38 _ (List.mem_of_getElem? (i := 8) rfl)) lx_Rf_node.2.1 lx_Rf_node.2.2 xB_0 ⟨_, _, rfl⟩ rfl (by decide +kernel) ⟨rfl, rfl⟩ (Nat.le_of_ble_eq_true rfl) dL_law_336 hH1.2.1 hH1.2.2 hl.1 hkc (fun H2 locs2 hP2 hS2 hk2 => ?_)
  have hH2 := lw_HB h2 hH1 hP2 hS2 hk2
  refine lv_icmp_eq (tgt := 1094) hx hb dL_law_339 (by decide) (fun _ => k H2 locs2 a1 b1 hH2 hI1) (fun z => absurd rfl z)
theorem lx_Mo_expression : aw_Y yX11_expression M_Mo_expression 2 ∧ Cond.instanceMethod yX11_expression ∈ wsL_law ∧ Cond.selects (yX11_expression).cls yX11_expression yX11_expression ∈ wsL_law := ⟨⟨aw_in_38 _ (List.mem_of_getElem? (i := 23) rfl), aw_in_0 _ (List.mem_of_getElem? (i := 2) rfl), by decide +kernel, by decide +kernel, by decide +kernel⟩, aw_in_38 _ (List.mem_of_getElem? (i := 21) rfl), aw_in_38 _ (List.mem_of_getElem? (i := 22) rfl)⟩
theorem lx_Rf_expression : aw_Y yX12_expression M_Rf_expression 2 ∧ Cond.instanceMethod yX12_expression ∈ wsL_law ∧ Cond.selects (yX12_expression).cls yX12_expression yX12_expression ∈ wsL_law := ⟨⟨aw_in_39 _ (List.mem_of_getElem? (i := 10) rfl), aw_in_0 _ (List.mem_of_getElem? (i := 5) rfl), by decide +kernel, by decide +kernel, by decide +kernel⟩, aw_in_39 _ (List.mem_of_getElem? (i := 8) rfl), aw_in_39 _ (List.mem_of_getElem? (i := 9) rfl)⟩
set_option maxHeartbeats 1000000 in
theorem lw_c_expression {p : Program} {l : Launch} {e : Env} {s : State} {m : MethodId} {below : List Frame} {meth : Method} {c : Code} {b L : Nat} {xs : Nat → Int32} (C0 : lw_At p s m meth c b L xs) (hL : L ≤ 3072) {GA GB : aw_G} (h2 : lw_2 s GA GB) {a0 b0 : aw_S} {H : Heap} {locs : List Loc} {kc ks i : Nat} {ls : Array Slot} (hH : lw_H s GA GB a0 b0 H locs) (hI : iv_I a0 b0) (hl : lv_has ls 4 (lw_loc b GA GB i)) (hi : i + 6 ≤ L) (hkc : kc ≤ room_1.cells ∧ ks ≤ room_1.slots) (k : ∀ (H1 : Heap) (locs1 : List Loc) (a1 b1 : aw_S), lw_H s GA GB a1 b1 H1 locs1 → iv_I a1 b1 → W p l e room_1 s m #[Value.ref b] below meth c H1 locs1 kc ks (lw_Z below #[Value.ref b] s) (F0 m 1094 ls [])) : W p l e room_1 s m #[Value.ref b] below meth c H locs kc ks (lw_Z below #[Value.ref b] s) (F0 m 344 ls []) := by
  obtain ⟨r, a1, b1, cA, cB, hI1⟩ := k_expression l GA GB hI (xs (i + 1)) (xs (i + 2))
  obtain ⟨hx, hb, hr, hml, hown, hts, hX, hbl, hlocks, hgv⟩ := id C0
  obtain ⟨nA, nB, KA, KB, z1, z2, hN⟩ := id h2
  refine lv_aload_n hx hb dL_law_344 rfl (lv_at hl 1 rfl) ?_
  refine lw_arg C0 hL (j := 1) hH.2.2 hl dL_law_345 dL_law_346 dL_law_347 dL_law_348 dL_law_349 (by decide) (by omega) ?_
  refine lw_arg C0 hL (j := 2) hH.2.2 hl dL_law_350 dL_law_351 dL_law_352 dL_law_353 dL_law_354 (by decide) (by omega) ?_
  refine lw_call C0 hN (G := GA) (st := []) (av := [.int (xs (i + 1)), .int (xs (i + 2))]) nA KA z1 cA lx_Mo_expression.1 (aw_in_38 _ (List.mem_of_getElem? (i := 20) rfl)) lx_Mo_expression.2.1 lx_Mo_expression.2.2 xA_0 ⟨_, _, rfl⟩ rfl (by decide +kernel) ⟨rfl, rfl⟩ (Nat.le_of_ble_eq_true rfl) dL_law_355 hH.1 hH.2.2 hl.1 hkc (fun H1 locs1 hP1 hS1 hk1 => ?_)
  have hH1 := lw_HA h2 hH hP1 hS1 hk1
  refine lv_aload_n hx hb dL_law_358 rfl (lv_at hl 2 rfl) ?_
  refine lw_arg C0 hL (j := 1) hH1.2.2 hl dL_law_359 dL_law_360 dL_law_361 dL_law_362 dL_law_363 (by decide) (by omega) ?_
  refine lw_arg C0 hL (j := 2) hH1.2.2 hl dL_law_364 dL_law_365 dL_law_366 dL_law_367 dL_law_368 (by decide) (by omega) ?_
  refine lw_call C0 hN (G := GB) (st := [.int r]) (av := [.int (xs (i + 1)), .int (xs (i + 2))]) nB KB (by omega) cB lx_Rf_expression.1 (aw_in_39 _ (List.mem_of_getElem? (i := 7) rfl)) lx_Rf_expression.2.1 lx_Rf_expression.2.2 xB_0 ⟨_, _, rfl⟩ rfl (by decide +kernel) ⟨rfl, rfl⟩ (Nat.le_of_ble_eq_true rfl) dL_law_369 hH1.2.1 hH1.2.2 hl.1 hkc (fun H2 locs2 hP2 hS2 hk2 => ?_)
  have hH2 := lw_HB h2 hH1 hP2 hS2 hk2
  refine lv_icmp_eq (tgt := 1094) hx hb dL_law_372 (by decide) (fun _ => k H2 locs2 a1 b1 hH2 hI1) (fun z => absurd rfl z)
theorem lx_Mo_risky : aw_Y yX11_risky M_Mo_risky 0 ∧ Cond.instanceMethod yX11_risky ∈ wsL_law ∧ Cond.selects (yX11_risky).cls yX11_risky yX11_risky ∈ wsL_law := ⟨⟨aw_in_39 _ (List.mem_of_getElem? (i := 18) rfl), aw_in_0 _ (List.mem_of_getElem? (i := 2) rfl), by decide +kernel, by decide +kernel, by decide +kernel⟩, aw_in_39 _ (List.mem_of_getElem? (i := 16) rfl), aw_in_39 _ (List.mem_of_getElem? (i := 17) rfl)⟩
theorem lx_Rf_risky : aw_Y yX12_risky M_Rf_risky 0 ∧ Cond.instanceMethod yX12_risky ∈ wsL_law ∧ Cond.selects (yX12_risky).cls yX12_risky yX12_risky ∈ wsL_law := ⟨⟨aw_in_39 _ (List.mem_of_getElem? (i := 22) rfl), aw_in_0 _ (List.mem_of_getElem? (i := 5) rfl), by decide +kernel, by decide +kernel, by decide +kernel⟩, aw_in_39 _ (List.mem_of_getElem? (i := 20) rfl), aw_in_39 _ (List.mem_of_getElem? (i := 21) rfl)⟩
set_option maxHeartbeats 1000000 in
theorem lw_c_risky {p : Program} {l : Launch} {e : Env} {s : State} {m : MethodId} {below : List Frame} {meth : Method} {c : Code} {b L : Nat} {xs : Nat → Int32} (C0 : lw_At p s m meth c b L xs) (hL : L ≤ 3072) {GA GB : aw_G} (h2 : lw_2 s GA GB) {a0 b0 : aw_S} {H : Heap} {locs : List Loc} {kc ks i : Nat} {ls : Array Slot} (hH : lw_H s GA GB a0 b0 H locs) (hI : iv_I a0 b0) (hl : lv_has ls 4 (lw_loc b GA GB i)) (hi : i + 6 ≤ L) (hkc : kc ≤ room_1.cells ∧ ks ≤ room_1.slots) (k : ∀ (H1 : Heap) (locs1 : List Loc) (a1 b1 : aw_S), lw_H s GA GB a1 b1 H1 locs1 → iv_I a1 b1 → W p l e room_1 s m #[Value.ref b] below meth c H1 locs1 kc ks (lw_Z below #[Value.ref b] s) (F0 m 1094 ls [])) : W p l e room_1 s m #[Value.ref b] below meth c H locs kc ks (lw_Z below #[Value.ref b] s) (F0 m 377 ls []) := by
  obtain ⟨r, a1, b1, cA, cB, hI1⟩ := k_risky l GA GB hI
  obtain ⟨hx, hb, hr, hml, hown, hts, hX, hbl, hlocks, hgv⟩ := id C0
  obtain ⟨nA, nB, KA, KB, z1, z2, hN⟩ := id h2
  refine lv_aload_n hx hb dL_law_377 rfl (lv_at hl 1 rfl) ?_
  refine lw_call C0 hN (G := GA) (st := []) (av := []) nA KA z1 cA lx_Mo_risky.1 (aw_in_39 _ (List.mem_of_getElem? (i := 15) rfl)) lx_Mo_risky.2.1 lx_Mo_risky.2.2 xA_0 ⟨_, _, rfl⟩ rfl (by decide +kernel) ⟨rfl, rfl⟩ (Nat.le_of_ble_eq_true rfl) dL_law_378 hH.1 hH.2.2 hl.1 hkc (fun H1 locs1 hP1 hS1 hk1 => ?_)
  have hH1 := lw_HA h2 hH hP1 hS1 hk1
  refine lv_aload_n hx hb dL_law_381 rfl (lv_at hl 2 rfl) ?_
  refine lw_call C0 hN (G := GB) (st := [.int r]) (av := []) nB KB (by omega) cB lx_Rf_risky.1 (aw_in_39 _ (List.mem_of_getElem? (i := 19) rfl)) lx_Rf_risky.2.1 lx_Rf_risky.2.2 xB_0 ⟨_, _, rfl⟩ rfl (by decide +kernel) ⟨rfl, rfl⟩ (Nat.le_of_ble_eq_true rfl) dL_law_382 hH1.2.1 hH1.2.2 hl.1 hkc (fun H2 locs2 hP2 hS2 hk2 => ?_)
  have hH2 := lw_HB h2 hH1 hP2 hS2 hk2
  refine lv_icmp_eq (tgt := 1094) hx hb dL_law_385 (by decide) (fun _ => k H2 locs2 a1 b1 hH2 hI1) (fun z => absurd rfl z)
theorem lx_Mo_fact : aw_Y yX11_fact M_Mo_fact 3 ∧ Cond.instanceMethod yX11_fact ∈ wsL_law ∧ Cond.selects (yX11_fact).cls yX11_fact yX11_fact ∈ wsL_law := ⟨⟨aw_in_40 _ (List.mem_of_getElem? (i := 2) rfl), aw_in_0 _ (List.mem_of_getElem? (i := 2) rfl), by decide +kernel, by decide +kernel, by decide +kernel⟩, aw_in_40 _ (List.mem_of_getElem? (i := 0) rfl), aw_in_40 _ (List.mem_of_getElem? (i := 1) rfl)⟩
theorem lx_Rf_fact : aw_Y yX12_fact M_Rf_fact 3 ∧ Cond.instanceMethod yX12_fact ∈ wsL_law ∧ Cond.selects (yX12_fact).cls yX12_fact yX12_fact ∈ wsL_law := ⟨⟨aw_in_40 _ (List.mem_of_getElem? (i := 14) rfl), aw_in_0 _ (List.mem_of_getElem? (i := 5) rfl), by decide +kernel, by decide +kernel, by decide +kernel⟩, aw_in_40 _ (List.mem_of_getElem? (i := 12) rfl), aw_in_40 _ (List.mem_of_getElem? (i := 13) rfl)⟩
set_option maxHeartbeats 1000000 in
theorem lw_c_fact {p : Program} {l : Launch} {e : Env} {s : State} {m : MethodId} {below : List Frame} {meth : Method} {c : Code} {b L : Nat} {xs : Nat → Int32} (C0 : lw_At p s m meth c b L xs) (hL : L ≤ 3072) {GA GB : aw_G} (h2 : lw_2 s GA GB) {a0 b0 : aw_S} {H : Heap} {locs : List Loc} {kc ks i : Nat} {ls : Array Slot} (hH : lw_H s GA GB a0 b0 H locs) (hI : iv_I a0 b0) (hl : lv_has ls 4 (lw_loc b GA GB i)) (hi : i + 6 ≤ L) (hkc : kc ≤ room_1.cells ∧ ks ≤ room_1.slots) (k : ∀ (H1 : Heap) (locs1 : List Loc) (a1 b1 : aw_S), lw_H s GA GB a1 b1 H1 locs1 → iv_I a1 b1 → W p l e room_1 s m #[Value.ref b] below meth c H1 locs1 kc ks (lw_Z below #[Value.ref b] s) (F0 m 1094 ls [])) : W p l e room_1 s m #[Value.ref b] below meth c H locs kc ks (lw_Z below #[Value.ref b] s) (F0 m 390 ls []) := by
  obtain ⟨r, a1, b1, cA, cB, hI1⟩ := k_fact l GA GB hI (xs (i + 1)) (xs (i + 2)) (xs (i + 3))
  obtain ⟨hx, hb, hr, hml, hown, hts, hX, hbl, hlocks, hgv⟩ := id C0
  obtain ⟨nA, nB, KA, KB, z1, z2, hN⟩ := id h2
  refine lv_aload_n hx hb dL_law_390 rfl (lv_at hl 1 rfl) ?_
  refine lw_arg C0 hL (j := 1) hH.2.2 hl dL_law_391 dL_law_392 dL_law_393 dL_law_394 dL_law_395 (by decide) (by omega) ?_
  refine lw_arg C0 hL (j := 2) hH.2.2 hl dL_law_396 dL_law_397 dL_law_398 dL_law_399 dL_law_400 (by decide) (by omega) ?_
  refine lw_arg C0 hL (j := 3) hH.2.2 hl dL_law_401 dL_law_402 dL_law_403 dL_law_404 dL_law_405 (by decide) (by omega) ?_
  refine lw_call C0 hN (G := GA) (st := []) (av := [.int (xs (i + 1)), .int (xs (i + 2)), .int (xs (i + 3))]) nA KA z1 cA lx_Mo_fact.1 (aw_in_39 _ (List.mem_of_getElem? (i := 23) rfl)) lx_Mo_fact.2.1 lx_Mo_fact.2.2 xA_0 ⟨_, _, rfl⟩ rfl (by decide +kernel) ⟨rfl, rfl⟩ (Nat.le_of_ble_eq_true rfl) dL_law_406 hH.1 hH.2.2 hl.1 hkc (fun H1 locs1 hP1 hS1 hk1 => ?_)
  have hH1 := lw_HA h2 hH hP1 hS1 hk1
  refine lv_aload_n hx hb dL_law_409 rfl (lv_at hl 2 rfl) ?_
  refine lw_arg C0 hL (j := 1) hH1.2.2 hl dL_law_410 dL_law_411 dL_law_412 dL_law_413 dL_law_414 (by decide) (by omega) ?_
  refine lw_arg C0 hL (j := 2) hH1.2.2 hl dL_law_415 dL_law_416 dL_law_417 dL_law_418 dL_law_419 (by decide) (by omega) ?_
  refine lw_arg C0 hL (j := 3) hH1.2.2 hl dL_law_420 dL_law_421 dL_law_422 dL_law_423 dL_law_424 (by decide) (by omega) ?_
  refine lw_call C0 hN (G := GB) (st := [.int r]) (av := [.int (xs (i + 1)), .int (xs (i + 2)), .int (xs (i + 3))]) nB KB (by omega) cB lx_Rf_fact.1 (aw_in_40 _ (List.mem_of_getElem? (i := 11) rfl)) lx_Rf_fact.2.1 lx_Rf_fact.2.2 xB_0 ⟨_, _, rfl⟩ rfl (by decide +kernel) ⟨rfl, rfl⟩ (Nat.le_of_ble_eq_true rfl) dL_law_425 hH1.2.1 hH1.2.2 hl.1 hkc (fun H2 locs2 hP2 hS2 hk2 => ?_)
  have hH2 := lw_HB h2 hH1 hP2 hS2 hk2
  refine lv_icmp_eq (tgt := 1094) hx hb dL_law_428 (by decide) (fun _ => k H2 locs2 a1 b1 hH2 hI1) (fun z => absurd rfl z)
theorem lx_Mo_placed : aw_Y yX11_placed M_Mo_placed 4 ∧ Cond.instanceMethod yX11_placed ∈ wsL_law ∧ Cond.selects (yX11_placed).cls yX11_placed yX11_placed ∈ wsL_law := ⟨⟨aw_in_40 _ (List.mem_of_getElem? (i := 18) rfl), aw_in_0 _ (List.mem_of_getElem? (i := 2) rfl), by decide +kernel, by decide +kernel, by decide +kernel⟩, aw_in_40 _ (List.mem_of_getElem? (i := 16) rfl), aw_in_40 _ (List.mem_of_getElem? (i := 17) rfl)⟩
theorem lx_Rf_placed : aw_Y yX12_placed M_Rf_placed 4 ∧ Cond.instanceMethod yX12_placed ∈ wsL_law ∧ Cond.selects (yX12_placed).cls yX12_placed yX12_placed ∈ wsL_law := ⟨⟨aw_in_41 _ (List.mem_of_getElem? (i := 9) rfl), aw_in_0 _ (List.mem_of_getElem? (i := 5) rfl), by decide +kernel, by decide +kernel, by decide +kernel⟩, aw_in_41 _ (List.mem_of_getElem? (i := 7) rfl), aw_in_41 _ (List.mem_of_getElem? (i := 8) rfl)⟩
set_option maxHeartbeats 1000000 in
theorem lw_c_placed {p : Program} {l : Launch} {e : Env} {s : State} {m : MethodId} {below : List Frame} {meth : Method} {c : Code} {b L : Nat} {xs : Nat → Int32} (C0 : lw_At p s m meth c b L xs) (hL : L ≤ 3072) {GA GB : aw_G} (h2 : lw_2 s GA GB) {a0 b0 : aw_S} {H : Heap} {locs : List Loc} {kc ks i : Nat} {ls : Array Slot} (hH : lw_H s GA GB a0 b0 H locs) (hI : iv_I a0 b0) (hl : lv_has ls 4 (lw_loc b GA GB i)) (hi : i + 6 ≤ L) (hkc : kc ≤ room_1.cells ∧ ks ≤ room_1.slots) (k : ∀ (H1 : Heap) (locs1 : List Loc) (a1 b1 : aw_S), lw_H s GA GB a1 b1 H1 locs1 → iv_I a1 b1 → W p l e room_1 s m #[Value.ref b] below meth c H1 locs1 kc ks (lw_Z below #[Value.ref b] s) (F0 m 1094 ls [])) : W p l e room_1 s m #[Value.ref b] below meth c H locs kc ks (lw_Z below #[Value.ref b] s) (F0 m 433 ls []) := by
  obtain ⟨r, a1, b1, cA, cB, hI1⟩ := k_placed l GA GB hI (xs (i + 1)) (xs (i + 2)) (xs (i + 3)) (xs (i + 4))
  obtain ⟨hx, hb, hr, hml, hown, hts, hX, hbl, hlocks, hgv⟩ := id C0
  obtain ⟨nA, nB, KA, KB, z1, z2, hN⟩ := id h2
  refine lv_aload_n hx hb dL_law_433 rfl (lv_at hl 1 rfl) ?_
  refine lw_arg C0 hL (j := 1) hH.2.2 hl dL_law_434 dL_law_435 dL_law_436 dL_law_437 dL_law_438 (by decide) (by omega) ?_
  refine lw_arg C0 hL (j := 2) hH.2.2 hl dL_law_439 dL_law_440 dL_law_441 dL_law_442 dL_law_443 (by decide) (by omega) ?_
  refine lw_arg C0 hL (j := 3) hH.2.2 hl dL_law_444 dL_law_445 dL_law_446 dL_law_447 dL_law_448 (by decide) (by omega) ?_
  refine lw_arg C0 hL (j := 4) hH.2.2 hl dL_law_449 dL_law_450 dL_law_451 dL_law_452 dL_law_453 (by decide) (by omega) ?_
  refine lw_call C0 hN (G := GA) (st := []) (av := [.int (xs (i + 1)), .int (xs (i + 2)), .int (xs (i + 3)), .int (xs (i + 4))]) nA KA z1 cA lx_Mo_placed.1 (aw_in_40 _ (List.mem_of_getElem? (i := 15) rfl)) lx_Mo_placed.2.1 lx_Mo_placed.2.2 xA_0 ⟨_, _, rfl⟩ rfl (by decide +kernel) ⟨rfl, rfl⟩ (Nat.le_of_ble_eq_true rfl) dL_law_454 hH.1 hH.2.2 hl.1 hkc (fun H1 locs1 hP1 hS1 hk1 => ?_)
  have hH1 := lw_HA h2 hH hP1 hS1 hk1
  refine lv_aload_n hx hb dL_law_457 rfl (lv_at hl 2 rfl) ?_
  refine lw_arg C0 hL (j := 1) hH1.2.2 hl dL_law_458 dL_law_459 dL_law_460 dL_law_461 dL_law_462 (by decide) (by omega) ?_
  refine lw_arg C0 hL (j := 2) hH1.2.2 hl dL_law_463 dL_law_464 dL_law_465 dL_law_466 dL_law_467 (by decide) (by omega) ?_
  refine lw_arg C0 hL (j := 3) hH1.2.2 hl dL_law_468 dL_law_469 dL_law_470 dL_law_471 dL_law_472 (by decide) (by omega) ?_
  refine lw_arg C0 hL (j := 4) hH1.2.2 hl dL_law_473 dL_law_474 dL_law_475 dL_law_476 dL_law_477 (by decide) (by omega) ?_
  refine lw_call C0 hN (G := GB) (st := [.int r]) (av := [.int (xs (i + 1)), .int (xs (i + 2)), .int (xs (i + 3)), .int (xs (i + 4))]) nB KB (by omega) cB lx_Rf_placed.1 (aw_in_41 _ (List.mem_of_getElem? (i := 6) rfl)) lx_Rf_placed.2.1 lx_Rf_placed.2.2 xB_0 ⟨_, _, rfl⟩ rfl (by decide +kernel) ⟨rfl, rfl⟩ (Nat.le_of_ble_eq_true rfl) dL_law_478 hH1.2.1 hH1.2.2 hl.1 hkc (fun H2 locs2 hP2 hS2 hk2 => ?_)
  have hH2 := lw_HB h2 hH1 hP2 hS2 hk2
  refine lv_icmp_eq (tgt := 1094) hx hb dL_law_481 (by decide) (fun _ => k H2 locs2 a1 b1 hH2 hI1) (fun z => absurd rfl z)
theorem lx_Mo_placement : aw_Y yX11_placement M_Mo_placement 3 ∧ Cond.instanceMethod yX11_placement ∈ wsL_law ∧ Cond.selects (yX11_placement).cls yX11_placement yX11_placement ∈ wsL_law := ⟨⟨aw_in_41 _ (List.mem_of_getElem? (i := 16) rfl), aw_in_0 _ (List.mem_of_getElem? (i := 2) rfl), by decide +kernel, by decide +kernel, by decide +kernel⟩, aw_in_41 _ (List.mem_of_getElem? (i := 14) rfl), aw_in_41 _ (List.mem_of_getElem? (i := 15) rfl)⟩
theorem lx_Rf_placement : aw_Y yX12_placement M_Rf_placement 3 ∧ Cond.instanceMethod yX12_placement ∈ wsL_law ∧ Cond.selects (yX12_placement).cls yX12_placement yX12_placement ∈ wsL_law := ⟨⟨aw_in_42 _ (List.mem_of_getElem? (i := 18) rfl), aw_in_0 _ (List.mem_of_getElem? (i := 5) rfl), by decide +kernel, by decide +kernel, by decide +kernel⟩, aw_in_42 _ (List.mem_of_getElem? (i := 16) rfl), aw_in_42 _ (List.mem_of_getElem? (i := 17) rfl)⟩
set_option maxHeartbeats 1000000 in
theorem lw_c_placement {p : Program} {l : Launch} {e : Env} {s : State} {m : MethodId} {below : List Frame} {meth : Method} {c : Code} {b L : Nat} {xs : Nat → Int32} (C0 : lw_At p s m meth c b L xs) (hL : L ≤ 3072) {GA GB : aw_G} (h2 : lw_2 s GA GB) {a0 b0 : aw_S} {H : Heap} {locs : List Loc} {kc ks i : Nat} {ls : Array Slot} (hH : lw_H s GA GB a0 b0 H locs) (hI : iv_I a0 b0) (hl : lv_has ls 4 (lw_loc b GA GB i)) (hi : i + 6 ≤ L) (hkc : kc ≤ room_1.cells ∧ ks ≤ room_1.slots) (k : ∀ (H1 : Heap) (locs1 : List Loc) (a1 b1 : aw_S), lw_H s GA GB a1 b1 H1 locs1 → iv_I a1 b1 → W p l e room_1 s m #[Value.ref b] below meth c H1 locs1 kc ks (lw_Z below #[Value.ref b] s) (F0 m 1094 ls [])) : W p l e room_1 s m #[Value.ref b] below meth c H locs kc ks (lw_Z below #[Value.ref b] s) (F0 m 486 ls []) := by
  obtain ⟨r, a1, b1, cA, cB, hI1⟩ := k_placement l GA GB hI (xs (i + 1)) (xs (i + 2)) (xs (i + 3))
  obtain ⟨hx, hb, hr, hml, hown, hts, hX, hbl, hlocks, hgv⟩ := id C0
  obtain ⟨nA, nB, KA, KB, z1, z2, hN⟩ := id h2
  refine lv_aload_n hx hb dL_law_486 rfl (lv_at hl 1 rfl) ?_
  refine lw_arg C0 hL (j := 1) hH.2.2 hl dL_law_487 dL_law_488 dL_law_489 dL_law_490 dL_law_491 (by decide) (by omega) ?_
  refine lw_arg C0 hL (j := 2) hH.2.2 hl dL_law_492 dL_law_493 dL_law_494 dL_law_495 dL_law_496 (by decide) (by omega) ?_
  refine lw_arg C0 hL (j := 3) hH.2.2 hl dL_law_497 dL_law_498 dL_law_499 dL_law_500 dL_law_501 (by decide) (by omega) ?_
  refine lw_call C0 hN (G := GA) (st := []) (av := [.int (xs (i + 1)), .int (xs (i + 2)), .int (xs (i + 3))]) nA KA z1 cA lx_Mo_placement.1 (aw_in_41 _ (List.mem_of_getElem? (i := 13) rfl)) lx_Mo_placement.2.1 lx_Mo_placement.2.2 xA_0 ⟨_, _, rfl⟩ rfl (by decide +kernel) ⟨rfl, rfl⟩ (Nat.le_of_ble_eq_true rfl) dL_law_502 hH.1 hH.2.2 hl.1 hkc (fun H1 locs1 hP1 hS1 hk1 => ?_)
  have hH1 := lw_HA h2 hH hP1 hS1 hk1
  refine lv_aload_n hx hb dL_law_505 rfl (lv_at hl 2 rfl) ?_
  refine lw_arg C0 hL (j := 1) hH1.2.2 hl dL_law_506 dL_law_507 dL_law_508 dL_law_509 dL_law_510 (by decide) (by omega) ?_
  refine lw_arg C0 hL (j := 2) hH1.2.2 hl dL_law_511 dL_law_512 dL_law_513 dL_law_514 dL_law_515 (by decide) (by omega) ?_
  refine lw_arg C0 hL (j := 3) hH1.2.2 hl dL_law_516 dL_law_517 dL_law_518 dL_law_519 dL_law_520 (by decide) (by omega) ?_
  refine lw_call C0 hN (G := GB) (st := [.int r]) (av := [.int (xs (i + 1)), .int (xs (i + 2)), .int (xs (i + 3))]) nB KB (by omega) cB lx_Rf_placement.1 (aw_in_42 _ (List.mem_of_getElem? (i := 15) rfl)) lx_Rf_placement.2.1 lx_Rf_placement.2.2 xB_0 ⟨_, _, rfl⟩ rfl (by decide +kernel) ⟨rfl, rfl⟩ (Nat.le_of_ble_eq_true rfl) dL_law_521 hH1.2.1 hH1.2.2 hl.1 hkc (fun H2 locs2 hP2 hS2 hk2 => ?_)
  have hH2 := lw_HB h2 hH1 hP2 hS2 hk2
  refine lv_icmp_eq (tgt := 1094) hx hb dL_law_524 (by decide) (fun _ => k H2 locs2 a1 b1 hH2 hI1) (fun z => absurd rfl z)
theorem lx_Mo_shared : aw_Y yX11_shared M_Mo_shared 2 ∧ Cond.instanceMethod yX11_shared ∈ wsL_law ∧ Cond.selects (yX11_shared).cls yX11_shared yX11_shared ∈ wsL_law := ⟨⟨aw_in_43 _ (List.mem_of_getElem? (i := 10) rfl), aw_in_0 _ (List.mem_of_getElem? (i := 2) rfl), by decide +kernel, by decide +kernel, by decide +kernel⟩, aw_in_43 _ (List.mem_of_getElem? (i := 8) rfl), aw_in_43 _ (List.mem_of_getElem? (i := 9) rfl)⟩
theorem lx_Rf_shared : aw_Y yX12_shared M_Rf_shared 2 ∧ Cond.instanceMethod yX12_shared ∈ wsL_law ∧ Cond.selects (yX12_shared).cls yX12_shared yX12_shared ∈ wsL_law := ⟨⟨aw_in_43 _ (List.mem_of_getElem? (i := 16) rfl), aw_in_0 _ (List.mem_of_getElem? (i := 5) rfl), by decide +kernel, by decide +kernel, by decide +kernel⟩, aw_in_43 _ (List.mem_of_getElem? (i := 14) rfl), aw_in_43 _ (List.mem_of_getElem? (i := 15) rfl)⟩
set_option maxHeartbeats 1000000 in
theorem lw_c_shared {p : Program} {l : Launch} {e : Env} {s : State} {m : MethodId} {below : List Frame} {meth : Method} {c : Code} {b L : Nat} {xs : Nat → Int32} (C0 : lw_At p s m meth c b L xs) (hL : L ≤ 3072) {GA GB : aw_G} (h2 : lw_2 s GA GB) {a0 b0 : aw_S} {H : Heap} {locs : List Loc} {kc ks i : Nat} {ls : Array Slot} (hH : lw_H s GA GB a0 b0 H locs) (hI : iv_I a0 b0) (hl : lv_has ls 4 (lw_loc b GA GB i)) (hi : i + 6 ≤ L) (hkc : kc ≤ room_1.cells ∧ ks ≤ room_1.slots) (k : ∀ (H1 : Heap) (locs1 : List Loc) (a1 b1 : aw_S), lw_H s GA GB a1 b1 H1 locs1 → iv_I a1 b1 → W p l e room_1 s m #[Value.ref b] below meth c H1 locs1 kc ks (lw_Z below #[Value.ref b] s) (F0 m 1094 ls [])) : W p l e room_1 s m #[Value.ref b] below meth c H locs kc ks (lw_Z below #[Value.ref b] s) (F0 m 529 ls []) := by
  obtain ⟨r, a1, b1, cA, cB, hI1⟩ := k_shared l GA GB hI (xs (i + 1)) (xs (i + 2))
  obtain ⟨hx, hb, hr, hml, hown, hts, hX, hbl, hlocks, hgv⟩ := id C0
  obtain ⟨nA, nB, KA, KB, z1, z2, hN⟩ := id h2
  refine lv_aload_n hx hb dL_law_529 rfl (lv_at hl 1 rfl) ?_
  refine lw_arg C0 hL (j := 1) hH.2.2 hl dL_law_530 dL_law_531 dL_law_532 dL_law_533 dL_law_534 (by decide) (by omega) ?_
  refine lw_arg C0 hL (j := 2) hH.2.2 hl dL_law_535 dL_law_536 dL_law_537 dL_law_538 dL_law_539 (by decide) (by omega) ?_
  refine lw_call C0 hN (G := GA) (st := []) (av := [.int (xs (i + 1)), .int (xs (i + 2))]) nA KA z1 cA lx_Mo_shared.1 (aw_in_43 _ (List.mem_of_getElem? (i := 7) rfl)) lx_Mo_shared.2.1 lx_Mo_shared.2.2 xA_0 ⟨_, _, rfl⟩ rfl (by decide +kernel) ⟨rfl, rfl⟩ (Nat.le_of_ble_eq_true rfl) dL_law_540 hH.1 hH.2.2 hl.1 hkc (fun H1 locs1 hP1 hS1 hk1 => ?_)
  have hH1 := lw_HA h2 hH hP1 hS1 hk1
  refine lv_aload_n hx hb dL_law_543 rfl (lv_at hl 2 rfl) ?_
  refine lw_arg C0 hL (j := 1) hH1.2.2 hl dL_law_544 dL_law_545 dL_law_546 dL_law_547 dL_law_548 (by decide) (by omega) ?_
  refine lw_arg C0 hL (j := 2) hH1.2.2 hl dL_law_549 dL_law_550 dL_law_551 dL_law_552 dL_law_553 (by decide) (by omega) ?_
  refine lw_call C0 hN (G := GB) (st := [.int r]) (av := [.int (xs (i + 1)), .int (xs (i + 2))]) nB KB (by omega) cB lx_Rf_shared.1 (aw_in_43 _ (List.mem_of_getElem? (i := 13) rfl)) lx_Rf_shared.2.1 lx_Rf_shared.2.2 xB_0 ⟨_, _, rfl⟩ rfl (by decide +kernel) ⟨rfl, rfl⟩ (Nat.le_of_ble_eq_true rfl) dL_law_554 hH1.2.1 hH1.2.2 hl.1 hkc (fun H2 locs2 hP2 hS2 hk2 => ?_)
  have hH2 := lw_HB h2 hH1 hP2 hS2 hk2
  refine lv_icmp_eq (tgt := 1094) hx hb dL_law_557 (by decide) (fun _ => k H2 locs2 a1 b1 hH2 hI1) (fun z => absurd rfl z)
theorem lx_Mo_most : aw_Y yX11_most M_Mo_most 1 ∧ Cond.instanceMethod yX11_most ∈ wsL_law ∧ Cond.selects (yX11_most).cls yX11_most yX11_most ∈ wsL_law := ⟨⟨aw_in_44 _ (List.mem_of_getElem? (i := 0) rfl), aw_in_0 _ (List.mem_of_getElem? (i := 2) rfl), by decide +kernel, by decide +kernel, by decide +kernel⟩, aw_in_43 _ (List.mem_of_getElem? (i := 22) rfl), aw_in_43 _ (List.mem_of_getElem? (i := 23) rfl)⟩
theorem lx_Rf_most : aw_Y yX12_most M_Rf_most 1 ∧ Cond.instanceMethod yX12_most ∈ wsL_law ∧ Cond.selects (yX12_most).cls yX12_most yX12_most ∈ wsL_law := ⟨⟨aw_in_44 _ (List.mem_of_getElem? (i := 5) rfl), aw_in_0 _ (List.mem_of_getElem? (i := 5) rfl), by decide +kernel, by decide +kernel, by decide +kernel⟩, aw_in_44 _ (List.mem_of_getElem? (i := 3) rfl), aw_in_44 _ (List.mem_of_getElem? (i := 4) rfl)⟩
set_option maxHeartbeats 1000000 in
theorem lw_c_most {p : Program} {l : Launch} {e : Env} {s : State} {m : MethodId} {below : List Frame} {meth : Method} {c : Code} {b L : Nat} {xs : Nat → Int32} (C0 : lw_At p s m meth c b L xs) (hL : L ≤ 3072) {GA GB : aw_G} (h2 : lw_2 s GA GB) {a0 b0 : aw_S} {H : Heap} {locs : List Loc} {kc ks i : Nat} {ls : Array Slot} (hH : lw_H s GA GB a0 b0 H locs) (hI : iv_I a0 b0) (hl : lv_has ls 4 (lw_loc b GA GB i)) (hi : i + 6 ≤ L) (hkc : kc ≤ room_1.cells ∧ ks ≤ room_1.slots) (k : ∀ (H1 : Heap) (locs1 : List Loc) (a1 b1 : aw_S), lw_H s GA GB a1 b1 H1 locs1 → iv_I a1 b1 → W p l e room_1 s m #[Value.ref b] below meth c H1 locs1 kc ks (lw_Z below #[Value.ref b] s) (F0 m 1094 ls [])) : W p l e room_1 s m #[Value.ref b] below meth c H locs kc ks (lw_Z below #[Value.ref b] s) (F0 m 562 ls []) := by
  obtain ⟨r, a1, b1, cA, cB, hI1⟩ := k_most l GA GB hI (xs (i + 1))
  obtain ⟨hx, hb, hr, hml, hown, hts, hX, hbl, hlocks, hgv⟩ := id C0
  obtain ⟨nA, nB, KA, KB, z1, z2, hN⟩ := id h2
  refine lv_aload_n hx hb dL_law_562 rfl (lv_at hl 1 rfl) ?_
  refine lw_arg C0 hL (j := 1) hH.2.2 hl dL_law_563 dL_law_564 dL_law_565 dL_law_566 dL_law_567 (by decide) (by omega) ?_
  refine lw_call C0 hN (G := GA) (st := []) (av := [.int (xs (i + 1))]) nA KA z1 cA lx_Mo_most.1 (aw_in_43 _ (List.mem_of_getElem? (i := 21) rfl)) lx_Mo_most.2.1 lx_Mo_most.2.2 xA_0 ⟨_, _, rfl⟩ rfl (by decide +kernel) ⟨rfl, rfl⟩ (Nat.le_of_ble_eq_true rfl) dL_law_568 hH.1 hH.2.2 hl.1 hkc (fun H1 locs1 hP1 hS1 hk1 => ?_)
  have hH1 := lw_HA h2 hH hP1 hS1 hk1
  refine lv_aload_n hx hb dL_law_571 rfl (lv_at hl 2 rfl) ?_
  refine lw_arg C0 hL (j := 1) hH1.2.2 hl dL_law_572 dL_law_573 dL_law_574 dL_law_575 dL_law_576 (by decide) (by omega) ?_
  refine lw_call C0 hN (G := GB) (st := [.int r]) (av := [.int (xs (i + 1))]) nB KB (by omega) cB lx_Rf_most.1 (aw_in_44 _ (List.mem_of_getElem? (i := 2) rfl)) lx_Rf_most.2.1 lx_Rf_most.2.2 xB_0 ⟨_, _, rfl⟩ rfl (by decide +kernel) ⟨rfl, rfl⟩ (Nat.le_of_ble_eq_true rfl) dL_law_577 hH1.2.1 hH1.2.2 hl.1 hkc (fun H2 locs2 hP2 hS2 hk2 => ?_)
  have hH2 := lw_HB h2 hH1 hP2 hS2 hk2
  refine lv_icmp_eq (tgt := 1094) hx hb dL_law_580 (by decide) (fun _ => k H2 locs2 a1 b1 hH2 hI1) (fun z => absurd rfl z)
theorem lx_Mo_letter : aw_Y yX11_letter M_Mo_letter 2 ∧ Cond.instanceMethod yX11_letter ∈ wsL_law ∧ Cond.selects (yX11_letter).cls yX11_letter yX11_letter ∈ wsL_law := ⟨⟨aw_in_44 _ (List.mem_of_getElem? (i := 9) rfl), aw_in_0 _ (List.mem_of_getElem? (i := 2) rfl), by decide +kernel, by decide +kernel, by decide +kernel⟩, aw_in_44 _ (List.mem_of_getElem? (i := 7) rfl), aw_in_44 _ (List.mem_of_getElem? (i := 8) rfl)⟩
theorem lx_Rf_letter : aw_Y yX12_letter M_Rf_letter 2 ∧ Cond.instanceMethod yX12_letter ∈ wsL_law ∧ Cond.selects (yX12_letter).cls yX12_letter yX12_letter ∈ wsL_law := ⟨⟨aw_in_44 _ (List.mem_of_getElem? (i := 13) rfl), aw_in_0 _ (List.mem_of_getElem? (i := 5) rfl), by decide +kernel, by decide +kernel, by decide +kernel⟩, aw_in_44 _ (List.mem_of_getElem? (i := 11) rfl), aw_in_44 _ (List.mem_of_getElem? (i := 12) rfl)⟩
set_option maxHeartbeats 1000000 in
theorem lw_c_letter {p : Program} {l : Launch} {e : Env} {s : State} {m : MethodId} {below : List Frame} {meth : Method} {c : Code} {b L : Nat} {xs : Nat → Int32} (C0 : lw_At p s m meth c b L xs) (hL : L ≤ 3072) {GA GB : aw_G} (h2 : lw_2 s GA GB) {a0 b0 : aw_S} {H : Heap} {locs : List Loc} {kc ks i : Nat} {ls : Array Slot} (hH : lw_H s GA GB a0 b0 H locs) (hI : iv_I a0 b0) (hl : lv_has ls 4 (lw_loc b GA GB i)) (hi : i + 6 ≤ L) (hkc : kc ≤ room_1.cells ∧ ks ≤ room_1.slots) (k : ∀ (H1 : Heap) (locs1 : List Loc) (a1 b1 : aw_S), lw_H s GA GB a1 b1 H1 locs1 → iv_I a1 b1 → W p l e room_1 s m #[Value.ref b] below meth c H1 locs1 kc ks (lw_Z below #[Value.ref b] s) (F0 m 1094 ls [])) : W p l e room_1 s m #[Value.ref b] below meth c H locs kc ks (lw_Z below #[Value.ref b] s) (F0 m 585 ls []) := by
  obtain ⟨r, a1, b1, cA, cB, hI1⟩ := k_letter l GA GB hI (xs (i + 1)) (xs (i + 2))
  obtain ⟨hx, hb, hr, hml, hown, hts, hX, hbl, hlocks, hgv⟩ := id C0
  obtain ⟨nA, nB, KA, KB, z1, z2, hN⟩ := id h2
  refine lv_aload_n hx hb dL_law_585 rfl (lv_at hl 1 rfl) ?_
  refine lw_arg C0 hL (j := 1) hH.2.2 hl dL_law_586 dL_law_587 dL_law_588 dL_law_589 dL_law_590 (by decide) (by omega) ?_
  refine lw_arg C0 hL (j := 2) hH.2.2 hl dL_law_591 dL_law_592 dL_law_593 dL_law_594 dL_law_595 (by decide) (by omega) ?_
  refine lw_call C0 hN (G := GA) (st := []) (av := [.int (xs (i + 1)), .int (xs (i + 2))]) nA KA z1 cA lx_Mo_letter.1 (aw_in_44 _ (List.mem_of_getElem? (i := 6) rfl)) lx_Mo_letter.2.1 lx_Mo_letter.2.2 xA_0 ⟨_, _, rfl⟩ rfl (by decide +kernel) ⟨rfl, rfl⟩ (Nat.le_of_ble_eq_true rfl) dL_law_596 hH.1 hH.2.2 hl.1 hkc (fun H1 locs1 hP1 hS1 hk1 => ?_)
  have hH1 := lw_HA h2 hH hP1 hS1 hk1
  refine lv_aload_n hx hb dL_law_599 rfl (lv_at hl 2 rfl) ?_
  refine lw_arg C0 hL (j := 1) hH1.2.2 hl dL_law_600 dL_law_601 dL_law_602 dL_law_603 dL_law_604 (by decide) (by omega) ?_
  refine lw_arg C0 hL (j := 2) hH1.2.2 hl dL_law_605 dL_law_606 dL_law_607 dL_law_608 dL_law_609 (by decide) (by omega) ?_
  refine lw_call C0 hN (G := GB) (st := [.int r]) (av := [.int (xs (i + 1)), .int (xs (i + 2))]) nB KB (by omega) cB lx_Rf_letter.1 (aw_in_44 _ (List.mem_of_getElem? (i := 10) rfl)) lx_Rf_letter.2.1 lx_Rf_letter.2.2 xB_0 ⟨_, _, rfl⟩ rfl (by decide +kernel) ⟨rfl, rfl⟩ (Nat.le_of_ble_eq_true rfl) dL_law_610 hH1.2.1 hH1.2.2 hl.1 hkc (fun H2 locs2 hP2 hS2 hk2 => ?_)
  have hH2 := lw_HB h2 hH1 hP2 hS2 hk2
  refine lv_icmp_eq (tgt := 1094) hx hb dL_law_613 (by decide) (fun _ => k H2 locs2 a1 b1 hH2 hI1) (fun z => absurd rfl z)
theorem lx_Mo_run : aw_Y yX11_run M_Mo_run 2 ∧ Cond.instanceMethod yX11_run ∈ wsL_law ∧ Cond.selects (yX11_run).cls yX11_run yX11_run ∈ wsL_law := ⟨⟨aw_in_44 _ (List.mem_of_getElem? (i := 17) rfl), aw_in_0 _ (List.mem_of_getElem? (i := 2) rfl), by decide +kernel, by decide +kernel, by decide +kernel⟩, aw_in_44 _ (List.mem_of_getElem? (i := 15) rfl), aw_in_44 _ (List.mem_of_getElem? (i := 16) rfl)⟩
theorem lx_Rf_run : aw_Y yX12_run M_Rf_run 2 ∧ Cond.instanceMethod yX12_run ∈ wsL_law ∧ Cond.selects (yX12_run).cls yX12_run yX12_run ∈ wsL_law := ⟨⟨aw_in_48 _ (List.mem_of_getElem? (i := 6) rfl), aw_in_0 _ (List.mem_of_getElem? (i := 5) rfl), by decide +kernel, by decide +kernel, by decide +kernel⟩, aw_in_48 _ (List.mem_of_getElem? (i := 4) rfl), aw_in_48 _ (List.mem_of_getElem? (i := 5) rfl)⟩
set_option maxHeartbeats 1000000 in
theorem lw_c_run {p : Program} {l : Launch} {e : Env} {s : State} {m : MethodId} {below : List Frame} {meth : Method} {c : Code} {b L : Nat} {xs : Nat → Int32} (C0 : lw_At p s m meth c b L xs) (hL : L ≤ 3072) {GA GB : aw_G} (h2 : lw_2 s GA GB) {a0 b0 : aw_S} {H : Heap} {locs : List Loc} {kc ks i : Nat} {ls : Array Slot} (hH : lw_H s GA GB a0 b0 H locs) (hI : iv_I a0 b0) (hl : lv_has ls 4 (lw_loc b GA GB i)) (hi : i + 6 ≤ L) (hkc : kc ≤ room_1.cells ∧ ks ≤ room_1.slots) (k : ∀ (H1 : Heap) (locs1 : List Loc) (a1 b1 : aw_S), lw_H s GA GB a1 b1 H1 locs1 → iv_I a1 b1 → W p l e room_1 s m #[Value.ref b] below meth c H1 locs1 kc ks (lw_Z below #[Value.ref b] s) (F0 m 1094 ls [])) : W p l e room_1 s m #[Value.ref b] below meth c H locs kc ks (lw_Z below #[Value.ref b] s) (F0 m 618 ls []) := by
  obtain ⟨r, a1, b1, cA, cB, hI1⟩ := k_run l GA GB hI (xs (i + 1)) (xs (i + 2))
  obtain ⟨hx, hb, hr, hml, hown, hts, hX, hbl, hlocks, hgv⟩ := id C0
  obtain ⟨nA, nB, KA, KB, z1, z2, hN⟩ := id h2
  refine lv_aload_n hx hb dL_law_618 rfl (lv_at hl 1 rfl) ?_
  refine lw_arg C0 hL (j := 1) hH.2.2 hl dL_law_619 dL_law_620 dL_law_621 dL_law_622 dL_law_623 (by decide) (by omega) ?_
  refine lw_arg C0 hL (j := 2) hH.2.2 hl dL_law_624 dL_law_625 dL_law_626 dL_law_627 dL_law_628 (by decide) (by omega) ?_
  refine lw_call C0 hN (G := GA) (st := []) (av := [.int (xs (i + 1)), .int (xs (i + 2))]) nA KA z1 cA lx_Mo_run.1 (aw_in_44 _ (List.mem_of_getElem? (i := 14) rfl)) lx_Mo_run.2.1 lx_Mo_run.2.2 xA_0 ⟨_, _, rfl⟩ rfl (by decide +kernel) ⟨rfl, rfl⟩ (Nat.le_of_ble_eq_true rfl) dL_law_629 hH.1 hH.2.2 hl.1 hkc (fun H1 locs1 hP1 hS1 hk1 => ?_)
  have hH1 := lw_HA h2 hH hP1 hS1 hk1
  refine lv_aload_n hx hb dL_law_632 rfl (lv_at hl 2 rfl) ?_
  refine lw_arg C0 hL (j := 1) hH1.2.2 hl dL_law_633 dL_law_634 dL_law_635 dL_law_636 dL_law_637 (by decide) (by omega) ?_
  refine lw_arg C0 hL (j := 2) hH1.2.2 hl dL_law_638 dL_law_639 dL_law_640 dL_law_641 dL_law_642 (by decide) (by omega) ?_
  refine lw_call C0 hN (G := GB) (st := [.int r]) (av := [.int (xs (i + 1)), .int (xs (i + 2))]) nB KB (by omega) cB lx_Rf_run.1 (aw_in_48 _ (List.mem_of_getElem? (i := 3) rfl)) lx_Rf_run.2.1 lx_Rf_run.2.2 xB_0 ⟨_, _, rfl⟩ rfl (by decide +kernel) ⟨rfl, rfl⟩ (Nat.le_of_ble_eq_true rfl) dL_law_643 hH1.2.1 hH1.2.2 hl.1 hkc (fun H2 locs2 hP2 hS2 hk2 => ?_)
  have hH2 := lw_HB h2 hH1 hP2 hS2 hk2
  refine lv_icmp_eq (tgt := 1094) hx hb dL_law_646 (by decide) (fun _ => k H2 locs2 a1 b1 hH2 hI1) (fun z => absurd rfl z)
theorem lx_Mo_computed : aw_Y yX11_computed M_Mo_computed 1 ∧ Cond.instanceMethod yX11_computed ∈ wsL_law ∧ Cond.selects (yX11_computed).cls yX11_computed yX11_computed ∈ wsL_law := ⟨⟨aw_in_50 _ (List.mem_of_getElem? (i := 0) rfl), aw_in_0 _ (List.mem_of_getElem? (i := 2) rfl), by decide +kernel, by decide +kernel, by decide +kernel⟩, aw_in_49 _ (List.mem_of_getElem? (i := 22) rfl), aw_in_49 _ (List.mem_of_getElem? (i := 23) rfl)⟩
theorem lx_Rf_computed : aw_Y yX12_computed M_Rf_computed 1 ∧ Cond.instanceMethod yX12_computed ∈ wsL_law ∧ Cond.selects (yX12_computed).cls yX12_computed yX12_computed ∈ wsL_law := ⟨⟨aw_in_50 _ (List.mem_of_getElem? (i := 5) rfl), aw_in_0 _ (List.mem_of_getElem? (i := 5) rfl), by decide +kernel, by decide +kernel, by decide +kernel⟩, aw_in_50 _ (List.mem_of_getElem? (i := 3) rfl), aw_in_50 _ (List.mem_of_getElem? (i := 4) rfl)⟩
set_option maxHeartbeats 1000000 in
theorem lw_c_computed {p : Program} {l : Launch} {e : Env} {s : State} {m : MethodId} {below : List Frame} {meth : Method} {c : Code} {b L : Nat} {xs : Nat → Int32} (C0 : lw_At p s m meth c b L xs) (hL : L ≤ 3072) {GA GB : aw_G} (h2 : lw_2 s GA GB) {a0 b0 : aw_S} {H : Heap} {locs : List Loc} {kc ks i : Nat} {ls : Array Slot} (hH : lw_H s GA GB a0 b0 H locs) (hI : iv_I a0 b0) (hl : lv_has ls 4 (lw_loc b GA GB i)) (hi : i + 6 ≤ L) (hkc : kc ≤ room_1.cells ∧ ks ≤ room_1.slots) (k : ∀ (H1 : Heap) (locs1 : List Loc) (a1 b1 : aw_S), lw_H s GA GB a1 b1 H1 locs1 → iv_I a1 b1 → W p l e room_1 s m #[Value.ref b] below meth c H1 locs1 kc ks (lw_Z below #[Value.ref b] s) (F0 m 1094 ls [])) : W p l e room_1 s m #[Value.ref b] below meth c H locs kc ks (lw_Z below #[Value.ref b] s) (F0 m 651 ls []) := by
  obtain ⟨r, a1, b1, cA, cB, hI1⟩ := k_computed l GA GB hI (xs (i + 1))
  obtain ⟨hx, hb, hr, hml, hown, hts, hX, hbl, hlocks, hgv⟩ := id C0
  obtain ⟨nA, nB, KA, KB, z1, z2, hN⟩ := id h2
  refine lv_aload_n hx hb dL_law_651 rfl (lv_at hl 1 rfl) ?_
  refine lw_arg C0 hL (j := 1) hH.2.2 hl dL_law_652 dL_law_653 dL_law_654 dL_law_655 dL_law_656 (by decide) (by omega) ?_
  refine lw_call C0 hN (G := GA) (st := []) (av := [.int (xs (i + 1))]) nA KA z1 cA lx_Mo_computed.1 (aw_in_49 _ (List.mem_of_getElem? (i := 21) rfl)) lx_Mo_computed.2.1 lx_Mo_computed.2.2 xA_0 ⟨_, _, rfl⟩ rfl (by decide +kernel) ⟨rfl, rfl⟩ (Nat.le_of_ble_eq_true rfl) dL_law_657 hH.1 hH.2.2 hl.1 hkc (fun H1 locs1 hP1 hS1 hk1 => ?_)
  have hH1 := lw_HA h2 hH hP1 hS1 hk1
  refine lv_aload_n hx hb dL_law_660 rfl (lv_at hl 2 rfl) ?_
  refine lw_arg C0 hL (j := 1) hH1.2.2 hl dL_law_661 dL_law_662 dL_law_663 dL_law_664 dL_law_665 (by decide) (by omega) ?_
  refine lw_call C0 hN (G := GB) (st := [.int r]) (av := [.int (xs (i + 1))]) nB KB (by omega) cB lx_Rf_computed.1 (aw_in_50 _ (List.mem_of_getElem? (i := 2) rfl)) lx_Rf_computed.2.1 lx_Rf_computed.2.2 xB_0 ⟨_, _, rfl⟩ rfl (by decide +kernel) ⟨rfl, rfl⟩ (Nat.le_of_ble_eq_true rfl) dL_law_666 hH1.2.1 hH1.2.2 hl.1 hkc (fun H2 locs2 hP2 hS2 hk2 => ?_)
  have hH2 := lw_HB h2 hH1 hP2 hS2 hk2
  refine lv_icmp_eq (tgt := 1094) hx hb dL_law_669 (by decide) (fun _ => k H2 locs2 a1 b1 hH2 hI1) (fun z => absurd rfl z)
theorem lx_Mo_output : aw_Y yX11_output M_Mo_output 1 ∧ Cond.instanceMethod yX11_output ∈ wsL_law ∧ Cond.selects (yX11_output).cls yX11_output yX11_output ∈ wsL_law := ⟨⟨aw_in_50 _ (List.mem_of_getElem? (i := 9) rfl), aw_in_0 _ (List.mem_of_getElem? (i := 2) rfl), by decide +kernel, by decide +kernel, by decide +kernel⟩, aw_in_50 _ (List.mem_of_getElem? (i := 7) rfl), aw_in_50 _ (List.mem_of_getElem? (i := 8) rfl)⟩
theorem lx_Rf_output : aw_Y yX12_output M_Rf_output 1 ∧ Cond.instanceMethod yX12_output ∈ wsL_law ∧ Cond.selects (yX12_output).cls yX12_output yX12_output ∈ wsL_law := ⟨⟨aw_in_50 _ (List.mem_of_getElem? (i := 14) rfl), aw_in_0 _ (List.mem_of_getElem? (i := 5) rfl), by decide +kernel, by decide +kernel, by decide +kernel⟩, aw_in_50 _ (List.mem_of_getElem? (i := 12) rfl), aw_in_50 _ (List.mem_of_getElem? (i := 13) rfl)⟩
set_option maxHeartbeats 1000000 in
theorem lw_c_output {p : Program} {l : Launch} {e : Env} {s : State} {m : MethodId} {below : List Frame} {meth : Method} {c : Code} {b L : Nat} {xs : Nat → Int32} (C0 : lw_At p s m meth c b L xs) (hL : L ≤ 3072) {GA GB : aw_G} (h2 : lw_2 s GA GB) {a0 b0 : aw_S} {H : Heap} {locs : List Loc} {kc ks i : Nat} {ls : Array Slot} (hH : lw_H s GA GB a0 b0 H locs) (hI : iv_I a0 b0) (hl : lv_has ls 4 (lw_loc b GA GB i)) (hi : i + 6 ≤ L) (hkc : kc ≤ room_1.cells ∧ ks ≤ room_1.slots) (k : ∀ (H1 : Heap) (locs1 : List Loc) (a1 b1 : aw_S), lw_H s GA GB a1 b1 H1 locs1 → iv_I a1 b1 → W p l e room_1 s m #[Value.ref b] below meth c H1 locs1 kc ks (lw_Z below #[Value.ref b] s) (F0 m 1094 ls [])) : W p l e room_1 s m #[Value.ref b] below meth c H locs kc ks (lw_Z below #[Value.ref b] s) (F0 m 674 ls []) := by
  obtain ⟨r, a1, b1, cA, cB, hI1⟩ := k_output l GA GB hI (xs (i + 1))
  obtain ⟨hx, hb, hr, hml, hown, hts, hX, hbl, hlocks, hgv⟩ := id C0
  obtain ⟨nA, nB, KA, KB, z1, z2, hN⟩ := id h2
  refine lv_aload_n hx hb dL_law_674 rfl (lv_at hl 1 rfl) ?_
  refine lw_arg C0 hL (j := 1) hH.2.2 hl dL_law_675 dL_law_676 dL_law_677 dL_law_678 dL_law_679 (by decide) (by omega) ?_
  refine lw_call C0 hN (G := GA) (st := []) (av := [.int (xs (i + 1))]) nA KA z1 cA lx_Mo_output.1 (aw_in_50 _ (List.mem_of_getElem? (i := 6) rfl)) lx_Mo_output.2.1 lx_Mo_output.2.2 xA_0 ⟨_, _, rfl⟩ rfl (by decide +kernel) ⟨rfl, rfl⟩ (Nat.le_of_ble_eq_true rfl) dL_law_680 hH.1 hH.2.2 hl.1 hkc (fun H1 locs1 hP1 hS1 hk1 => ?_)
  have hH1 := lw_HA h2 hH hP1 hS1 hk1
  refine lv_aload_n hx hb dL_law_683 rfl (lv_at hl 2 rfl) ?_
  refine lw_arg C0 hL (j := 1) hH1.2.2 hl dL_law_684 dL_law_685 dL_law_686 dL_law_687 dL_law_688 (by decide) (by omega) ?_
  refine lw_call C0 hN (G := GB) (st := [.int r]) (av := [.int (xs (i + 1))]) nB KB (by omega) cB lx_Rf_output.1 (aw_in_50 _ (List.mem_of_getElem? (i := 11) rfl)) lx_Rf_output.2.1 lx_Rf_output.2.2 xB_0 ⟨_, _, rfl⟩ rfl (by decide +kernel) ⟨rfl, rfl⟩ (Nat.le_of_ble_eq_true rfl) dL_law_689 hH1.2.1 hH1.2.2 hl.1 hkc (fun H2 locs2 hP2 hS2 hk2 => ?_)
  have hH2 := lw_HB h2 hH1 hP2 hS2 hk2
  refine lv_icmp_eq (tgt := 1094) hx hb dL_law_692 (by decide) (fun _ => k H2 locs2 a1 b1 hH2 hI1) (fun z => absurd rfl z)
theorem lx_Mo_behind : aw_Y yX11_behind M_Mo_behind 1 ∧ Cond.instanceMethod yX11_behind ∈ wsL_law ∧ Cond.selects (yX11_behind).cls yX11_behind yX11_behind ∈ wsL_law := ⟨⟨aw_in_50 _ (List.mem_of_getElem? (i := 22) rfl), aw_in_0 _ (List.mem_of_getElem? (i := 2) rfl), by decide +kernel, by decide +kernel, by decide +kernel⟩, aw_in_50 _ (List.mem_of_getElem? (i := 20) rfl), aw_in_50 _ (List.mem_of_getElem? (i := 21) rfl)⟩
theorem lx_Rf_behind : aw_Y yX12_behind M_Rf_behind 1 ∧ Cond.instanceMethod yX12_behind ∈ wsL_law ∧ Cond.selects (yX12_behind).cls yX12_behind yX12_behind ∈ wsL_law := ⟨⟨aw_in_51 _ (List.mem_of_getElem? (i := 3) rfl), aw_in_0 _ (List.mem_of_getElem? (i := 5) rfl), by decide +kernel, by decide +kernel, by decide +kernel⟩, aw_in_51 _ (List.mem_of_getElem? (i := 1) rfl), aw_in_51 _ (List.mem_of_getElem? (i := 2) rfl)⟩
set_option maxHeartbeats 1000000 in
theorem lw_c_behind {p : Program} {l : Launch} {e : Env} {s : State} {m : MethodId} {below : List Frame} {meth : Method} {c : Code} {b L : Nat} {xs : Nat → Int32} (C0 : lw_At p s m meth c b L xs) (hL : L ≤ 3072) {GA GB : aw_G} (h2 : lw_2 s GA GB) {a0 b0 : aw_S} {H : Heap} {locs : List Loc} {kc ks i : Nat} {ls : Array Slot} (hH : lw_H s GA GB a0 b0 H locs) (hI : iv_I a0 b0) (hl : lv_has ls 4 (lw_loc b GA GB i)) (hi : i + 6 ≤ L) (hkc : kc ≤ room_1.cells ∧ ks ≤ room_1.slots) (k : ∀ (H1 : Heap) (locs1 : List Loc) (a1 b1 : aw_S), lw_H s GA GB a1 b1 H1 locs1 → iv_I a1 b1 → W p l e room_1 s m #[Value.ref b] below meth c H1 locs1 kc ks (lw_Z below #[Value.ref b] s) (F0 m 1094 ls [])) : W p l e room_1 s m #[Value.ref b] below meth c H locs kc ks (lw_Z below #[Value.ref b] s) (F0 m 697 ls []) := by
  obtain ⟨r, a1, b1, cA, cB, hI1⟩ := k_behind l GA GB hI (xs (i + 1))
  obtain ⟨hx, hb, hr, hml, hown, hts, hX, hbl, hlocks, hgv⟩ := id C0
  obtain ⟨nA, nB, KA, KB, z1, z2, hN⟩ := id h2
  refine lv_aload_n hx hb dL_law_697 rfl (lv_at hl 1 rfl) ?_
  refine lw_arg C0 hL (j := 1) hH.2.2 hl dL_law_698 dL_law_699 dL_law_700 dL_law_701 dL_law_702 (by decide) (by omega) ?_
  refine lw_call C0 hN (G := GA) (st := []) (av := [.int (xs (i + 1))]) nA KA z1 cA lx_Mo_behind.1 (aw_in_50 _ (List.mem_of_getElem? (i := 19) rfl)) lx_Mo_behind.2.1 lx_Mo_behind.2.2 xA_0 ⟨_, _, rfl⟩ rfl (by decide +kernel) ⟨rfl, rfl⟩ (Nat.le_of_ble_eq_true rfl) dL_law_703 hH.1 hH.2.2 hl.1 hkc (fun H1 locs1 hP1 hS1 hk1 => ?_)
  have hH1 := lw_HA h2 hH hP1 hS1 hk1
  refine lv_aload_n hx hb dL_law_706 rfl (lv_at hl 2 rfl) ?_
  refine lw_arg C0 hL (j := 1) hH1.2.2 hl dL_law_707 dL_law_708 dL_law_709 dL_law_710 dL_law_711 (by decide) (by omega) ?_
  refine lw_call C0 hN (G := GB) (st := [.int r]) (av := [.int (xs (i + 1))]) nB KB (by omega) cB lx_Rf_behind.1 (aw_in_51 _ (List.mem_of_getElem? (i := 0) rfl)) lx_Rf_behind.2.1 lx_Rf_behind.2.2 xB_0 ⟨_, _, rfl⟩ rfl (by decide +kernel) ⟨rfl, rfl⟩ (Nat.le_of_ble_eq_true rfl) dL_law_712 hH1.2.1 hH1.2.2 hl.1 hkc (fun H2 locs2 hP2 hS2 hk2 => ?_)
  have hH2 := lw_HB h2 hH1 hP2 hS2 hk2
  refine lv_icmp_eq (tgt := 1094) hx hb dL_law_715 (by decide) (fun _ => k H2 locs2 a1 b1 hH2 hI1) (fun z => absurd rfl z)
theorem lx_Mo_alike : aw_Y yX11_alike M_Mo_alike 1 ∧ Cond.instanceMethod yX11_alike ∈ wsL_law ∧ Cond.selects (yX11_alike).cls yX11_alike yX11_alike ∈ wsL_law := ⟨⟨aw_in_51 _ (List.mem_of_getElem? (i := 7) rfl), aw_in_0 _ (List.mem_of_getElem? (i := 2) rfl), by decide +kernel, by decide +kernel, by decide +kernel⟩, aw_in_51 _ (List.mem_of_getElem? (i := 5) rfl), aw_in_51 _ (List.mem_of_getElem? (i := 6) rfl)⟩
theorem lx_Rf_alike : aw_Y yX12_alike M_Rf_alike 1 ∧ Cond.instanceMethod yX12_alike ∈ wsL_law ∧ Cond.selects (yX12_alike).cls yX12_alike yX12_alike ∈ wsL_law := ⟨⟨aw_in_51 _ (List.mem_of_getElem? (i := 15) rfl), aw_in_0 _ (List.mem_of_getElem? (i := 5) rfl), by decide +kernel, by decide +kernel, by decide +kernel⟩, aw_in_51 _ (List.mem_of_getElem? (i := 13) rfl), aw_in_51 _ (List.mem_of_getElem? (i := 14) rfl)⟩
set_option maxHeartbeats 1000000 in
theorem lw_c_alike {p : Program} {l : Launch} {e : Env} {s : State} {m : MethodId} {below : List Frame} {meth : Method} {c : Code} {b L : Nat} {xs : Nat → Int32} (C0 : lw_At p s m meth c b L xs) (hL : L ≤ 3072) {GA GB : aw_G} (h2 : lw_2 s GA GB) {a0 b0 : aw_S} {H : Heap} {locs : List Loc} {kc ks i : Nat} {ls : Array Slot} (hH : lw_H s GA GB a0 b0 H locs) (hI : iv_I a0 b0) (hl : lv_has ls 4 (lw_loc b GA GB i)) (hi : i + 6 ≤ L) (hkc : kc ≤ room_1.cells ∧ ks ≤ room_1.slots) (k : ∀ (H1 : Heap) (locs1 : List Loc) (a1 b1 : aw_S), lw_H s GA GB a1 b1 H1 locs1 → iv_I a1 b1 → W p l e room_1 s m #[Value.ref b] below meth c H1 locs1 kc ks (lw_Z below #[Value.ref b] s) (F0 m 1094 ls [])) : W p l e room_1 s m #[Value.ref b] below meth c H locs kc ks (lw_Z below #[Value.ref b] s) (F0 m 720 ls []) := by
  obtain ⟨r, a1, b1, cA, cB, hI1⟩ := k_alike l GA GB hI (xs (i + 1))
  obtain ⟨hx, hb, hr, hml, hown, hts, hX, hbl, hlocks, hgv⟩ := id C0
  obtain ⟨nA, nB, KA, KB, z1, z2, hN⟩ := id h2
  refine lv_aload_n hx hb dL_law_720 rfl (lv_at hl 1 rfl) ?_
  refine lw_arg C0 hL (j := 1) hH.2.2 hl dL_law_721 dL_law_722 dL_law_723 dL_law_724 dL_law_725 (by decide) (by omega) ?_
  refine lw_call C0 hN (G := GA) (st := []) (av := [.int (xs (i + 1))]) nA KA z1 cA lx_Mo_alike.1 (aw_in_51 _ (List.mem_of_getElem? (i := 4) rfl)) lx_Mo_alike.2.1 lx_Mo_alike.2.2 xA_0 ⟨_, _, rfl⟩ rfl (by decide +kernel) ⟨rfl, rfl⟩ (Nat.le_of_ble_eq_true rfl) dL_law_726 hH.1 hH.2.2 hl.1 hkc (fun H1 locs1 hP1 hS1 hk1 => ?_)
  have hH1 := lw_HA h2 hH hP1 hS1 hk1
  refine lv_aload_n hx hb dL_law_729 rfl (lv_at hl 2 rfl) ?_
  refine lw_arg C0 hL (j := 1) hH1.2.2 hl dL_law_730 dL_law_731 dL_law_732 dL_law_733 dL_law_734 (by decide) (by omega) ?_
  refine lw_call C0 hN (G := GB) (st := [.int r]) (av := [.int (xs (i + 1))]) nB KB (by omega) cB lx_Rf_alike.1 (aw_in_51 _ (List.mem_of_getElem? (i := 12) rfl)) lx_Rf_alike.2.1 lx_Rf_alike.2.2 xB_0 ⟨_, _, rfl⟩ rfl (by decide +kernel) ⟨rfl, rfl⟩ (Nat.le_of_ble_eq_true rfl) dL_law_735 hH1.2.1 hH1.2.2 hl.1 hkc (fun H2 locs2 hP2 hS2 hk2 => ?_)
  have hH2 := lw_HB h2 hH1 hP2 hS2 hk2
  refine lv_icmp_eq (tgt := 1094) hx hb dL_law_738 (by decide) (fun _ => k H2 locs2 a1 b1 hH2 hI1) (fun z => absurd rfl z)
theorem lx_Mo_live : aw_Y yX11_live M_Mo_live 1 ∧ Cond.instanceMethod yX11_live ∈ wsL_law ∧ Cond.selects (yX11_live).cls yX11_live yX11_live ∈ wsL_law := ⟨⟨aw_in_51 _ (List.mem_of_getElem? (i := 19) rfl), aw_in_0 _ (List.mem_of_getElem? (i := 2) rfl), by decide +kernel, by decide +kernel, by decide +kernel⟩, aw_in_51 _ (List.mem_of_getElem? (i := 17) rfl), aw_in_51 _ (List.mem_of_getElem? (i := 18) rfl)⟩
theorem lx_Rf_live : aw_Y yX12_live M_Rf_live 1 ∧ Cond.instanceMethod yX12_live ∈ wsL_law ∧ Cond.selects (yX12_live).cls yX12_live yX12_live ∈ wsL_law := ⟨⟨aw_in_52 _ (List.mem_of_getElem? (i := 0) rfl), aw_in_0 _ (List.mem_of_getElem? (i := 5) rfl), by decide +kernel, by decide +kernel, by decide +kernel⟩, aw_in_51 _ (List.mem_of_getElem? (i := 22) rfl), aw_in_51 _ (List.mem_of_getElem? (i := 23) rfl)⟩
set_option maxHeartbeats 1000000 in
theorem lw_c_live {p : Program} {l : Launch} {e : Env} {s : State} {m : MethodId} {below : List Frame} {meth : Method} {c : Code} {b L : Nat} {xs : Nat → Int32} (C0 : lw_At p s m meth c b L xs) (hL : L ≤ 3072) {GA GB : aw_G} (h2 : lw_2 s GA GB) {a0 b0 : aw_S} {H : Heap} {locs : List Loc} {kc ks i : Nat} {ls : Array Slot} (hH : lw_H s GA GB a0 b0 H locs) (hI : iv_I a0 b0) (hl : lv_has ls 4 (lw_loc b GA GB i)) (hi : i + 6 ≤ L) (hkc : kc ≤ room_1.cells ∧ ks ≤ room_1.slots) (k : ∀ (H1 : Heap) (locs1 : List Loc) (a1 b1 : aw_S), lw_H s GA GB a1 b1 H1 locs1 → iv_I a1 b1 → W p l e room_1 s m #[Value.ref b] below meth c H1 locs1 kc ks (lw_Z below #[Value.ref b] s) (F0 m 1094 ls [])) : W p l e room_1 s m #[Value.ref b] below meth c H locs kc ks (lw_Z below #[Value.ref b] s) (F0 m 743 ls []) := by
  obtain ⟨r, a1, b1, cA, cB, hI1⟩ := k_live l GA GB hI (xs (i + 1))
  obtain ⟨hx, hb, hr, hml, hown, hts, hX, hbl, hlocks, hgv⟩ := id C0
  obtain ⟨nA, nB, KA, KB, z1, z2, hN⟩ := id h2
  refine lv_aload_n hx hb dL_law_743 rfl (lv_at hl 1 rfl) ?_
  refine lw_arg C0 hL (j := 1) hH.2.2 hl dL_law_744 dL_law_745 dL_law_746 dL_law_747 dL_law_748 (by decide) (by omega) ?_
  refine lw_call C0 hN (G := GA) (st := []) (av := [.int (xs (i + 1))]) nA KA z1 cA lx_Mo_live.1 (aw_in_51 _ (List.mem_of_getElem? (i := 16) rfl)) lx_Mo_live.2.1 lx_Mo_live.2.2 xA_0 ⟨_, _, rfl⟩ rfl (by decide +kernel) ⟨rfl, rfl⟩ (Nat.le_of_ble_eq_true rfl) dL_law_749 hH.1 hH.2.2 hl.1 hkc (fun H1 locs1 hP1 hS1 hk1 => ?_)
  have hH1 := lw_HA h2 hH hP1 hS1 hk1
  refine lv_aload_n hx hb dL_law_752 rfl (lv_at hl 2 rfl) ?_
  refine lw_arg C0 hL (j := 1) hH1.2.2 hl dL_law_753 dL_law_754 dL_law_755 dL_law_756 dL_law_757 (by decide) (by omega) ?_
  refine lw_call C0 hN (G := GB) (st := [.int r]) (av := [.int (xs (i + 1))]) nB KB (by omega) cB lx_Rf_live.1 (aw_in_51 _ (List.mem_of_getElem? (i := 21) rfl)) lx_Rf_live.2.1 lx_Rf_live.2.2 xB_0 ⟨_, _, rfl⟩ rfl (by decide +kernel) ⟨rfl, rfl⟩ (Nat.le_of_ble_eq_true rfl) dL_law_758 hH1.2.1 hH1.2.2 hl.1 hkc (fun H2 locs2 hP2 hS2 hk2 => ?_)
  have hH2 := lw_HB h2 hH1 hP2 hS2 hk2
  refine lv_icmp_eq (tgt := 1094) hx hb dL_law_761 (by decide) (fun _ => k H2 locs2 a1 b1 hH2 hI1) (fun z => absurd rfl z)
theorem lx_Mo_dead : aw_Y yX11_dead M_Mo_dead 1 ∧ Cond.instanceMethod yX11_dead ∈ wsL_law ∧ Cond.selects (yX11_dead).cls yX11_dead yX11_dead ∈ wsL_law := ⟨⟨aw_in_52 _ (List.mem_of_getElem? (i := 4) rfl), aw_in_0 _ (List.mem_of_getElem? (i := 2) rfl), by decide +kernel, by decide +kernel, by decide +kernel⟩, aw_in_52 _ (List.mem_of_getElem? (i := 2) rfl), aw_in_52 _ (List.mem_of_getElem? (i := 3) rfl)⟩
theorem lx_Rf_dead : aw_Y yX12_dead M_Rf_dead 1 ∧ Cond.instanceMethod yX12_dead ∈ wsL_law ∧ Cond.selects (yX12_dead).cls yX12_dead yX12_dead ∈ wsL_law := ⟨⟨aw_in_52 _ (List.mem_of_getElem? (i := 12) rfl), aw_in_0 _ (List.mem_of_getElem? (i := 5) rfl), by decide +kernel, by decide +kernel, by decide +kernel⟩, aw_in_52 _ (List.mem_of_getElem? (i := 10) rfl), aw_in_52 _ (List.mem_of_getElem? (i := 11) rfl)⟩
set_option maxHeartbeats 1000000 in
theorem lw_c_dead {p : Program} {l : Launch} {e : Env} {s : State} {m : MethodId} {below : List Frame} {meth : Method} {c : Code} {b L : Nat} {xs : Nat → Int32} (C0 : lw_At p s m meth c b L xs) (hL : L ≤ 3072) {GA GB : aw_G} (h2 : lw_2 s GA GB) {a0 b0 : aw_S} {H : Heap} {locs : List Loc} {kc ks i : Nat} {ls : Array Slot} (hH : lw_H s GA GB a0 b0 H locs) (hI : iv_I a0 b0) (hl : lv_has ls 4 (lw_loc b GA GB i)) (hi : i + 6 ≤ L) (hkc : kc ≤ room_1.cells ∧ ks ≤ room_1.slots) (k : ∀ (H1 : Heap) (locs1 : List Loc) (a1 b1 : aw_S), lw_H s GA GB a1 b1 H1 locs1 → iv_I a1 b1 → W p l e room_1 s m #[Value.ref b] below meth c H1 locs1 kc ks (lw_Z below #[Value.ref b] s) (F0 m 1094 ls [])) : W p l e room_1 s m #[Value.ref b] below meth c H locs kc ks (lw_Z below #[Value.ref b] s) (F0 m 766 ls []) := by
  obtain ⟨r, a1, b1, cA, cB, hI1⟩ := k_dead l GA GB hI (xs (i + 1))
  obtain ⟨hx, hb, hr, hml, hown, hts, hX, hbl, hlocks, hgv⟩ := id C0
  obtain ⟨nA, nB, KA, KB, z1, z2, hN⟩ := id h2
  refine lv_aload_n hx hb dL_law_766 rfl (lv_at hl 1 rfl) ?_
  refine lw_arg C0 hL (j := 1) hH.2.2 hl dL_law_767 dL_law_768 dL_law_769 dL_law_770 dL_law_771 (by decide) (by omega) ?_
  refine lw_call C0 hN (G := GA) (st := []) (av := [.int (xs (i + 1))]) nA KA z1 cA lx_Mo_dead.1 (aw_in_52 _ (List.mem_of_getElem? (i := 1) rfl)) lx_Mo_dead.2.1 lx_Mo_dead.2.2 xA_0 ⟨_, _, rfl⟩ rfl (by decide +kernel) ⟨rfl, rfl⟩ (Nat.le_of_ble_eq_true rfl) dL_law_772 hH.1 hH.2.2 hl.1 hkc (fun H1 locs1 hP1 hS1 hk1 => ?_)
  have hH1 := lw_HA h2 hH hP1 hS1 hk1
  refine lv_aload_n hx hb dL_law_775 rfl (lv_at hl 2 rfl) ?_
  refine lw_arg C0 hL (j := 1) hH1.2.2 hl dL_law_776 dL_law_777 dL_law_778 dL_law_779 dL_law_780 (by decide) (by omega) ?_
  refine lw_call C0 hN (G := GB) (st := [.int r]) (av := [.int (xs (i + 1))]) nB KB (by omega) cB lx_Rf_dead.1 (aw_in_52 _ (List.mem_of_getElem? (i := 9) rfl)) lx_Rf_dead.2.1 lx_Rf_dead.2.2 xB_0 ⟨_, _, rfl⟩ rfl (by decide +kernel) ⟨rfl, rfl⟩ (Nat.le_of_ble_eq_true rfl) dL_law_781 hH1.2.1 hH1.2.2 hl.1 hkc (fun H2 locs2 hP2 hS2 hk2 => ?_)
  have hH2 := lw_HB h2 hH1 hP2 hS2 hk2
  refine lv_icmp_eq (tgt := 1094) hx hb dL_law_784 (by decide) (fun _ => k H2 locs2 a1 b1 hH2 hI1) (fun z => absurd rfl z)
theorem lx_Mo_again : aw_Y yX11_again M_Mo_again 2 ∧ Cond.instanceMethod yX11_again ∈ wsL_law ∧ Cond.selects (yX11_again).cls yX11_again yX11_again ∈ wsL_law := ⟨⟨aw_in_52 _ (List.mem_of_getElem? (i := 20) rfl), aw_in_0 _ (List.mem_of_getElem? (i := 2) rfl), by decide +kernel, by decide +kernel, by decide +kernel⟩, aw_in_52 _ (List.mem_of_getElem? (i := 18) rfl), aw_in_52 _ (List.mem_of_getElem? (i := 19) rfl)⟩
theorem lx_Rf_again : aw_Y yX12_again M_Rf_again 2 ∧ Cond.instanceMethod yX12_again ∈ wsL_law ∧ Cond.selects (yX12_again).cls yX12_again yX12_again ∈ wsL_law := ⟨⟨aw_in_53 _ (List.mem_of_getElem? (i := 1) rfl), aw_in_0 _ (List.mem_of_getElem? (i := 5) rfl), by decide +kernel, by decide +kernel, by decide +kernel⟩, aw_in_52 _ (List.mem_of_getElem? (i := 23) rfl), aw_in_53 _ (List.mem_of_getElem? (i := 0) rfl)⟩
set_option maxHeartbeats 1000000 in
theorem lw_c_again {p : Program} {l : Launch} {e : Env} {s : State} {m : MethodId} {below : List Frame} {meth : Method} {c : Code} {b L : Nat} {xs : Nat → Int32} (C0 : lw_At p s m meth c b L xs) (hL : L ≤ 3072) {GA GB : aw_G} (h2 : lw_2 s GA GB) {a0 b0 : aw_S} {H : Heap} {locs : List Loc} {kc ks i : Nat} {ls : Array Slot} (hH : lw_H s GA GB a0 b0 H locs) (hI : iv_I a0 b0) (hl : lv_has ls 4 (lw_loc b GA GB i)) (hi : i + 6 ≤ L) (hkc : kc ≤ room_1.cells ∧ ks ≤ room_1.slots) (k : ∀ (H1 : Heap) (locs1 : List Loc) (a1 b1 : aw_S), lw_H s GA GB a1 b1 H1 locs1 → iv_I a1 b1 → W p l e room_1 s m #[Value.ref b] below meth c H1 locs1 kc ks (lw_Z below #[Value.ref b] s) (F0 m 1094 ls [])) : W p l e room_1 s m #[Value.ref b] below meth c H locs kc ks (lw_Z below #[Value.ref b] s) (F0 m 789 ls []) := by
  obtain ⟨r, a1, b1, cA, cB, hI1⟩ := k_again l GA GB hI (xs (i + 1)) (xs (i + 2))
  obtain ⟨hx, hb, hr, hml, hown, hts, hX, hbl, hlocks, hgv⟩ := id C0
  obtain ⟨nA, nB, KA, KB, z1, z2, hN⟩ := id h2
  refine lv_aload_n hx hb dL_law_789 rfl (lv_at hl 1 rfl) ?_
  refine lw_arg C0 hL (j := 1) hH.2.2 hl dL_law_790 dL_law_791 dL_law_792 dL_law_793 dL_law_794 (by decide) (by omega) ?_
  refine lw_arg C0 hL (j := 2) hH.2.2 hl dL_law_795 dL_law_796 dL_law_797 dL_law_798 dL_law_799 (by decide) (by omega) ?_
  refine lw_call C0 hN (G := GA) (st := []) (av := [.int (xs (i + 1)), .int (xs (i + 2))]) nA KA z1 cA lx_Mo_again.1 (aw_in_52 _ (List.mem_of_getElem? (i := 17) rfl)) lx_Mo_again.2.1 lx_Mo_again.2.2 xA_0 ⟨_, _, rfl⟩ rfl (by decide +kernel) ⟨rfl, rfl⟩ (Nat.le_of_ble_eq_true rfl) dL_law_800 hH.1 hH.2.2 hl.1 hkc (fun H1 locs1 hP1 hS1 hk1 => ?_)
  have hH1 := lw_HA h2 hH hP1 hS1 hk1
  refine lv_aload_n hx hb dL_law_803 rfl (lv_at hl 2 rfl) ?_
  refine lw_arg C0 hL (j := 1) hH1.2.2 hl dL_law_804 dL_law_805 dL_law_806 dL_law_807 dL_law_808 (by decide) (by omega) ?_
  refine lw_arg C0 hL (j := 2) hH1.2.2 hl dL_law_809 dL_law_810 dL_law_811 dL_law_812 dL_law_813 (by decide) (by omega) ?_
  refine lw_call C0 hN (G := GB) (st := [.int r]) (av := [.int (xs (i + 1)), .int (xs (i + 2))]) nB KB (by omega) cB lx_Rf_again.1 (aw_in_52 _ (List.mem_of_getElem? (i := 22) rfl)) lx_Rf_again.2.1 lx_Rf_again.2.2 xB_0 ⟨_, _, rfl⟩ rfl (by decide +kernel) ⟨rfl, rfl⟩ (Nat.le_of_ble_eq_true rfl) dL_law_814 hH1.2.1 hH1.2.2 hl.1 hkc (fun H2 locs2 hP2 hS2 hk2 => ?_)
  have hH2 := lw_HB h2 hH1 hP2 hS2 hk2
  refine lv_icmp_eq (tgt := 1094) hx hb dL_law_817 (by decide) (fun _ => k H2 locs2 a1 b1 hH2 hI1) (fun z => absurd rfl z)
theorem lx_Mo_over : aw_Y yX11_over M_Mo_over 2 ∧ Cond.instanceMethod yX11_over ∈ wsL_law ∧ Cond.selects (yX11_over).cls yX11_over yX11_over ∈ wsL_law := ⟨⟨aw_in_53 _ (List.mem_of_getElem? (i := 9) rfl), aw_in_0 _ (List.mem_of_getElem? (i := 2) rfl), by decide +kernel, by decide +kernel, by decide +kernel⟩, aw_in_53 _ (List.mem_of_getElem? (i := 7) rfl), aw_in_53 _ (List.mem_of_getElem? (i := 8) rfl)⟩
theorem lx_Rf_over : aw_Y yX12_over M_Rf_over 2 ∧ Cond.instanceMethod yX12_over ∈ wsL_law ∧ Cond.selects (yX12_over).cls yX12_over yX12_over ∈ wsL_law := ⟨⟨aw_in_53 _ (List.mem_of_getElem? (i := 14) rfl), aw_in_0 _ (List.mem_of_getElem? (i := 5) rfl), by decide +kernel, by decide +kernel, by decide +kernel⟩, aw_in_53 _ (List.mem_of_getElem? (i := 12) rfl), aw_in_53 _ (List.mem_of_getElem? (i := 13) rfl)⟩
set_option maxHeartbeats 1000000 in
theorem lw_c_over {p : Program} {l : Launch} {e : Env} {s : State} {m : MethodId} {below : List Frame} {meth : Method} {c : Code} {b L : Nat} {xs : Nat → Int32} (C0 : lw_At p s m meth c b L xs) (hL : L ≤ 3072) {GA GB : aw_G} (h2 : lw_2 s GA GB) {a0 b0 : aw_S} {H : Heap} {locs : List Loc} {kc ks i : Nat} {ls : Array Slot} (hH : lw_H s GA GB a0 b0 H locs) (hI : iv_I a0 b0) (hl : lv_has ls 4 (lw_loc b GA GB i)) (hi : i + 6 ≤ L) (hkc : kc ≤ room_1.cells ∧ ks ≤ room_1.slots) (k : ∀ (H1 : Heap) (locs1 : List Loc) (a1 b1 : aw_S), lw_H s GA GB a1 b1 H1 locs1 → iv_I a1 b1 → W p l e room_1 s m #[Value.ref b] below meth c H1 locs1 kc ks (lw_Z below #[Value.ref b] s) (F0 m 1094 ls [])) : W p l e room_1 s m #[Value.ref b] below meth c H locs kc ks (lw_Z below #[Value.ref b] s) (F0 m 822 ls []) := by
  obtain ⟨r, a1, b1, cA, cB, hI1⟩ := k_over l GA GB hI (xs (i + 1)) (xs (i + 2))
  obtain ⟨hx, hb, hr, hml, hown, hts, hX, hbl, hlocks, hgv⟩ := id C0
  obtain ⟨nA, nB, KA, KB, z1, z2, hN⟩ := id h2
  refine lv_aload_n hx hb dL_law_822 rfl (lv_at hl 1 rfl) ?_
  refine lw_arg C0 hL (j := 1) hH.2.2 hl dL_law_823 dL_law_824 dL_law_825 dL_law_826 dL_law_827 (by decide) (by omega) ?_
  refine lw_arg C0 hL (j := 2) hH.2.2 hl dL_law_828 dL_law_829 dL_law_830 dL_law_831 dL_law_832 (by decide) (by omega) ?_
  refine lw_call C0 hN (G := GA) (st := []) (av := [.int (xs (i + 1)), .int (xs (i + 2))]) nA KA z1 cA lx_Mo_over.1 (aw_in_53 _ (List.mem_of_getElem? (i := 6) rfl)) lx_Mo_over.2.1 lx_Mo_over.2.2 xA_0 ⟨_, _, rfl⟩ rfl (by decide +kernel) ⟨rfl, rfl⟩ (Nat.le_of_ble_eq_true rfl) dL_law_833 hH.1 hH.2.2 hl.1 hkc (fun H1 locs1 hP1 hS1 hk1 => ?_)
  have hH1 := lw_HA h2 hH hP1 hS1 hk1
  refine lv_aload_n hx hb dL_law_836 rfl (lv_at hl 2 rfl) ?_
  refine lw_arg C0 hL (j := 1) hH1.2.2 hl dL_law_837 dL_law_838 dL_law_839 dL_law_840 dL_law_841 (by decide) (by omega) ?_
  refine lw_arg C0 hL (j := 2) hH1.2.2 hl dL_law_842 dL_law_843 dL_law_844 dL_law_845 dL_law_846 (by decide) (by omega) ?_
  refine lw_call C0 hN (G := GB) (st := [.int r]) (av := [.int (xs (i + 1)), .int (xs (i + 2))]) nB KB (by omega) cB lx_Rf_over.1 (aw_in_53 _ (List.mem_of_getElem? (i := 11) rfl)) lx_Rf_over.2.1 lx_Rf_over.2.2 xB_0 ⟨_, _, rfl⟩ rfl (by decide +kernel) ⟨rfl, rfl⟩ (Nat.le_of_ble_eq_true rfl) dL_law_847 hH1.2.1 hH1.2.2 hl.1 hkc (fun H2 locs2 hP2 hS2 hk2 => ?_)
  have hH2 := lw_HB h2 hH1 hP2 hS2 hk2
  refine lv_icmp_eq (tgt := 1094) hx hb dL_law_850 (by decide) (fun _ => k H2 locs2 a1 b1 hH2 hI1) (fun z => absurd rfl z)
theorem lx_Mo_depth : aw_Y yX11_depth M_Mo_depth 1 ∧ Cond.instanceMethod yX11_depth ∈ wsL_law ∧ Cond.selects (yX11_depth).cls yX11_depth yX11_depth ∈ wsL_law := ⟨⟨aw_in_53 _ (List.mem_of_getElem? (i := 18) rfl), aw_in_0 _ (List.mem_of_getElem? (i := 2) rfl), by decide +kernel, by decide +kernel, by decide +kernel⟩, aw_in_53 _ (List.mem_of_getElem? (i := 16) rfl), aw_in_53 _ (List.mem_of_getElem? (i := 17) rfl)⟩
theorem lx_Rf_depth : aw_Y yX12_depth M_Rf_depth 1 ∧ Cond.instanceMethod yX12_depth ∈ wsL_law ∧ Cond.selects (yX12_depth).cls yX12_depth yX12_depth ∈ wsL_law := ⟨⟨aw_in_53 _ (List.mem_of_getElem? (i := 23) rfl), aw_in_0 _ (List.mem_of_getElem? (i := 5) rfl), by decide +kernel, by decide +kernel, by decide +kernel⟩, aw_in_53 _ (List.mem_of_getElem? (i := 21) rfl), aw_in_53 _ (List.mem_of_getElem? (i := 22) rfl)⟩
set_option maxHeartbeats 1000000 in
theorem lw_c_depth {p : Program} {l : Launch} {e : Env} {s : State} {m : MethodId} {below : List Frame} {meth : Method} {c : Code} {b L : Nat} {xs : Nat → Int32} (C0 : lw_At p s m meth c b L xs) (hL : L ≤ 3072) {GA GB : aw_G} (h2 : lw_2 s GA GB) {a0 b0 : aw_S} {H : Heap} {locs : List Loc} {kc ks i : Nat} {ls : Array Slot} (hH : lw_H s GA GB a0 b0 H locs) (hI : iv_I a0 b0) (hl : lv_has ls 4 (lw_loc b GA GB i)) (hi : i + 6 ≤ L) (hkc : kc ≤ room_1.cells ∧ ks ≤ room_1.slots) (k : ∀ (H1 : Heap) (locs1 : List Loc) (a1 b1 : aw_S), lw_H s GA GB a1 b1 H1 locs1 → iv_I a1 b1 → W p l e room_1 s m #[Value.ref b] below meth c H1 locs1 kc ks (lw_Z below #[Value.ref b] s) (F0 m 1094 ls [])) : W p l e room_1 s m #[Value.ref b] below meth c H locs kc ks (lw_Z below #[Value.ref b] s) (F0 m 855 ls []) := by
  obtain ⟨r, a1, b1, cA, cB, hI1⟩ := k_depth l GA GB hI (xs (i + 1))
  obtain ⟨hx, hb, hr, hml, hown, hts, hX, hbl, hlocks, hgv⟩ := id C0
  obtain ⟨nA, nB, KA, KB, z1, z2, hN⟩ := id h2
  refine lv_aload_n hx hb dL_law_855 rfl (lv_at hl 1 rfl) ?_
  refine lw_arg C0 hL (j := 1) hH.2.2 hl dL_law_856 dL_law_857 dL_law_858 dL_law_859 dL_law_860 (by decide) (by omega) ?_
  refine lw_call C0 hN (G := GA) (st := []) (av := [.int (xs (i + 1))]) nA KA z1 cA lx_Mo_depth.1 (aw_in_53 _ (List.mem_of_getElem? (i := 15) rfl)) lx_Mo_depth.2.1 lx_Mo_depth.2.2 xA_0 ⟨_, _, rfl⟩ rfl (by decide +kernel) ⟨rfl, rfl⟩ (Nat.le_of_ble_eq_true rfl) dL_law_861 hH.1 hH.2.2 hl.1 hkc (fun H1 locs1 hP1 hS1 hk1 => ?_)
  have hH1 := lw_HA h2 hH hP1 hS1 hk1
  refine lv_aload_n hx hb dL_law_864 rfl (lv_at hl 2 rfl) ?_
  refine lw_arg C0 hL (j := 1) hH1.2.2 hl dL_law_865 dL_law_866 dL_law_867 dL_law_868 dL_law_869 (by decide) (by omega) ?_
  refine lw_call C0 hN (G := GB) (st := [.int r]) (av := [.int (xs (i + 1))]) nB KB (by omega) cB lx_Rf_depth.1 (aw_in_53 _ (List.mem_of_getElem? (i := 20) rfl)) lx_Rf_depth.2.1 lx_Rf_depth.2.2 xB_0 ⟨_, _, rfl⟩ rfl (by decide +kernel) ⟨rfl, rfl⟩ (Nat.le_of_ble_eq_true rfl) dL_law_870 hH1.2.1 hH1.2.2 hl.1 hkc (fun H2 locs2 hP2 hS2 hk2 => ?_)
  have hH2 := lw_HB h2 hH1 hP2 hS2 hk2
  refine lv_icmp_eq (tgt := 1094) hx hb dL_law_873 (by decide) (fun _ => k H2 locs2 a1 b1 hH2 hI1) (fun z => absurd rfl z)
theorem lx_Mo_heads : aw_Y yX11_heads M_Mo_heads 0 ∧ Cond.instanceMethod yX11_heads ∈ wsL_law ∧ Cond.selects (yX11_heads).cls yX11_heads yX11_heads ∈ wsL_law := ⟨⟨aw_in_54 _ (List.mem_of_getElem? (i := 3) rfl), aw_in_0 _ (List.mem_of_getElem? (i := 2) rfl), by decide +kernel, by decide +kernel, by decide +kernel⟩, aw_in_54 _ (List.mem_of_getElem? (i := 1) rfl), aw_in_54 _ (List.mem_of_getElem? (i := 2) rfl)⟩
theorem lx_Rf_heads : aw_Y yX12_heads M_Rf_heads 0 ∧ Cond.instanceMethod yX12_heads ∈ wsL_law ∧ Cond.selects (yX12_heads).cls yX12_heads yX12_heads ∈ wsL_law := ⟨⟨aw_in_54 _ (List.mem_of_getElem? (i := 8) rfl), aw_in_0 _ (List.mem_of_getElem? (i := 5) rfl), by decide +kernel, by decide +kernel, by decide +kernel⟩, aw_in_54 _ (List.mem_of_getElem? (i := 6) rfl), aw_in_54 _ (List.mem_of_getElem? (i := 7) rfl)⟩
set_option maxHeartbeats 1000000 in
theorem lw_c_heads {p : Program} {l : Launch} {e : Env} {s : State} {m : MethodId} {below : List Frame} {meth : Method} {c : Code} {b L : Nat} {xs : Nat → Int32} (C0 : lw_At p s m meth c b L xs) (hL : L ≤ 3072) {GA GB : aw_G} (h2 : lw_2 s GA GB) {a0 b0 : aw_S} {H : Heap} {locs : List Loc} {kc ks i : Nat} {ls : Array Slot} (hH : lw_H s GA GB a0 b0 H locs) (hI : iv_I a0 b0) (hl : lv_has ls 4 (lw_loc b GA GB i)) (hi : i + 6 ≤ L) (hkc : kc ≤ room_1.cells ∧ ks ≤ room_1.slots) (k : ∀ (H1 : Heap) (locs1 : List Loc) (a1 b1 : aw_S), lw_H s GA GB a1 b1 H1 locs1 → iv_I a1 b1 → W p l e room_1 s m #[Value.ref b] below meth c H1 locs1 kc ks (lw_Z below #[Value.ref b] s) (F0 m 1094 ls [])) : W p l e room_1 s m #[Value.ref b] below meth c H locs kc ks (lw_Z below #[Value.ref b] s) (F0 m 878 ls []) := by
  obtain ⟨r, a1, b1, cA, cB, hI1⟩ := k_heads l GA GB hI
  obtain ⟨hx, hb, hr, hml, hown, hts, hX, hbl, hlocks, hgv⟩ := id C0
  obtain ⟨nA, nB, KA, KB, z1, z2, hN⟩ := id h2
  refine lv_aload_n hx hb dL_law_878 rfl (lv_at hl 1 rfl) ?_
  refine lw_call C0 hN (G := GA) (st := []) (av := []) nA KA z1 cA lx_Mo_heads.1 (aw_in_54 _ (List.mem_of_getElem? (i := 0) rfl)) lx_Mo_heads.2.1 lx_Mo_heads.2.2 xA_0 ⟨_, _, rfl⟩ rfl (by decide +kernel) ⟨rfl, rfl⟩ (Nat.le_of_ble_eq_true rfl) dL_law_879 hH.1 hH.2.2 hl.1 hkc (fun H1 locs1 hP1 hS1 hk1 => ?_)
  have hH1 := lw_HA h2 hH hP1 hS1 hk1
  refine lv_aload_n hx hb dL_law_882 rfl (lv_at hl 2 rfl) ?_
  refine lw_call C0 hN (G := GB) (st := [.int r]) (av := []) nB KB (by omega) cB lx_Rf_heads.1 (aw_in_54 _ (List.mem_of_getElem? (i := 5) rfl)) lx_Rf_heads.2.1 lx_Rf_heads.2.2 xB_0 ⟨_, _, rfl⟩ rfl (by decide +kernel) ⟨rfl, rfl⟩ (Nat.le_of_ble_eq_true rfl) dL_law_883 hH1.2.1 hH1.2.2 hl.1 hkc (fun H2 locs2 hP2 hS2 hk2 => ?_)
  have hH2 := lw_HB h2 hH1 hP2 hS2 hk2
  refine lv_icmp_eq (tgt := 1094) hx hb dL_law_886 (by decide) (fun _ => k H2 locs2 a1 b1 hH2 hI1) (fun z => absurd rfl z)
theorem lx_Mo_weight : aw_Y yX11_weight M_Mo_weight 1 ∧ Cond.instanceMethod yX11_weight ∈ wsL_law ∧ Cond.selects (yX11_weight).cls yX11_weight yX11_weight ∈ wsL_law := ⟨⟨aw_in_54 _ (List.mem_of_getElem? (i := 12) rfl), aw_in_0 _ (List.mem_of_getElem? (i := 2) rfl), by decide +kernel, by decide +kernel, by decide +kernel⟩, aw_in_54 _ (List.mem_of_getElem? (i := 10) rfl), aw_in_54 _ (List.mem_of_getElem? (i := 11) rfl)⟩
theorem lx_Rf_weight : aw_Y yX12_weight M_Rf_weight 1 ∧ Cond.instanceMethod yX12_weight ∈ wsL_law ∧ Cond.selects (yX12_weight).cls yX12_weight yX12_weight ∈ wsL_law := ⟨⟨aw_in_55 _ (List.mem_of_getElem? (i := 2) rfl), aw_in_0 _ (List.mem_of_getElem? (i := 5) rfl), by decide +kernel, by decide +kernel, by decide +kernel⟩, aw_in_55 _ (List.mem_of_getElem? (i := 0) rfl), aw_in_55 _ (List.mem_of_getElem? (i := 1) rfl)⟩
set_option maxHeartbeats 1000000 in
theorem lw_c_weight {p : Program} {l : Launch} {e : Env} {s : State} {m : MethodId} {below : List Frame} {meth : Method} {c : Code} {b L : Nat} {xs : Nat → Int32} (C0 : lw_At p s m meth c b L xs) (hL : L ≤ 3072) {GA GB : aw_G} (h2 : lw_2 s GA GB) {a0 b0 : aw_S} {H : Heap} {locs : List Loc} {kc ks i : Nat} {ls : Array Slot} (hH : lw_H s GA GB a0 b0 H locs) (hI : iv_I a0 b0) (hl : lv_has ls 4 (lw_loc b GA GB i)) (hi : i + 6 ≤ L) (hkc : kc ≤ room_1.cells ∧ ks ≤ room_1.slots) (k : ∀ (H1 : Heap) (locs1 : List Loc) (a1 b1 : aw_S), lw_H s GA GB a1 b1 H1 locs1 → iv_I a1 b1 → W p l e room_1 s m #[Value.ref b] below meth c H1 locs1 kc ks (lw_Z below #[Value.ref b] s) (F0 m 1094 ls [])) : W p l e room_1 s m #[Value.ref b] below meth c H locs kc ks (lw_Z below #[Value.ref b] s) (F0 m 891 ls []) := by
  obtain ⟨r, a1, b1, cA, cB, hI1⟩ := k_weight l GA GB hI (xs (i + 1))
  obtain ⟨hx, hb, hr, hml, hown, hts, hX, hbl, hlocks, hgv⟩ := id C0
  obtain ⟨nA, nB, KA, KB, z1, z2, hN⟩ := id h2
  refine lv_aload_n hx hb dL_law_891 rfl (lv_at hl 1 rfl) ?_
  refine lw_arg C0 hL (j := 1) hH.2.2 hl dL_law_892 dL_law_893 dL_law_894 dL_law_895 dL_law_896 (by decide) (by omega) ?_
  refine lw_call C0 hN (G := GA) (st := []) (av := [.int (xs (i + 1))]) nA KA z1 cA lx_Mo_weight.1 (aw_in_54 _ (List.mem_of_getElem? (i := 9) rfl)) lx_Mo_weight.2.1 lx_Mo_weight.2.2 xA_0 ⟨_, _, rfl⟩ rfl (by decide +kernel) ⟨rfl, rfl⟩ (Nat.le_of_ble_eq_true rfl) dL_law_897 hH.1 hH.2.2 hl.1 hkc (fun H1 locs1 hP1 hS1 hk1 => ?_)
  have hH1 := lw_HA h2 hH hP1 hS1 hk1
  refine lv_aload_n hx hb dL_law_900 rfl (lv_at hl 2 rfl) ?_
  refine lw_arg C0 hL (j := 1) hH1.2.2 hl dL_law_901 dL_law_902 dL_law_903 dL_law_904 dL_law_905 (by decide) (by omega) ?_
  refine lw_call C0 hN (G := GB) (st := [.long r]) (av := [.int (xs (i + 1))]) nB KB (by omega) cB lx_Rf_weight.1 (aw_in_54 _ (List.mem_of_getElem? (i := 23) rfl)) lx_Rf_weight.2.1 lx_Rf_weight.2.2 xB_0 ⟨_, _, rfl⟩ rfl (by decide +kernel) ⟨rfl, rfl⟩ (Nat.le_of_ble_eq_true rfl) dL_law_906 hH1.2.1 hH1.2.2 hl.1 hkc (fun H2 locs2 hP2 hS2 hk2 => ?_)
  have hH2 := lw_HB h2 hH1 hP2 hS2 hk2
  refine W.lcmp hx hb dL_law_909 ?_
  refine lv_if_eq (tgt := 1094) hx hb dL_law_910 (by decide) (fun _ => k H2 locs2 a1 b1 hH2 hI1) (fun z => absurd (lw_lcmp r) z)
theorem lx_Mo_others : aw_Y yX11_others M_Mo_others 2 ∧ Cond.instanceMethod yX11_others ∈ wsL_law ∧ Cond.selects (yX11_others).cls yX11_others yX11_others ∈ wsL_law := ⟨⟨aw_in_55 _ (List.mem_of_getElem? (i := 12) rfl), aw_in_0 _ (List.mem_of_getElem? (i := 2) rfl), by decide +kernel, by decide +kernel, by decide +kernel⟩, aw_in_55 _ (List.mem_of_getElem? (i := 10) rfl), aw_in_55 _ (List.mem_of_getElem? (i := 11) rfl)⟩
theorem lx_Rf_others : aw_Y yX12_others M_Rf_others 2 ∧ Cond.instanceMethod yX12_others ∈ wsL_law ∧ Cond.selects (yX12_others).cls yX12_others yX12_others ∈ wsL_law := ⟨⟨aw_in_58 _ (List.mem_of_getElem? (i := 13) rfl), aw_in_0 _ (List.mem_of_getElem? (i := 5) rfl), by decide +kernel, by decide +kernel, by decide +kernel⟩, aw_in_58 _ (List.mem_of_getElem? (i := 11) rfl), aw_in_58 _ (List.mem_of_getElem? (i := 12) rfl)⟩
set_option maxHeartbeats 1000000 in
theorem lw_c_others {p : Program} {l : Launch} {e : Env} {s : State} {m : MethodId} {below : List Frame} {meth : Method} {c : Code} {b L : Nat} {xs : Nat → Int32} (C0 : lw_At p s m meth c b L xs) (hL : L ≤ 3072) {GA GB : aw_G} (h2 : lw_2 s GA GB) {a0 b0 : aw_S} {H : Heap} {locs : List Loc} {kc ks i : Nat} {ls : Array Slot} (hH : lw_H s GA GB a0 b0 H locs) (hI : iv_I a0 b0) (hl : lv_has ls 4 (lw_loc b GA GB i)) (hi : i + 6 ≤ L) (hkc : kc ≤ room_1.cells ∧ ks ≤ room_1.slots) (k : ∀ (H1 : Heap) (locs1 : List Loc) (a1 b1 : aw_S), lw_H s GA GB a1 b1 H1 locs1 → iv_I a1 b1 → W p l e room_1 s m #[Value.ref b] below meth c H1 locs1 kc ks (lw_Z below #[Value.ref b] s) (F0 m 1094 ls [])) : W p l e room_1 s m #[Value.ref b] below meth c H locs kc ks (lw_Z below #[Value.ref b] s) (F0 m 915 ls []) := by
  obtain ⟨r, a1, b1, cA, cB, hI1⟩ := k_others l GA GB hI (xs (i + 1)) (xs (i + 2))
  obtain ⟨hx, hb, hr, hml, hown, hts, hX, hbl, hlocks, hgv⟩ := id C0
  obtain ⟨nA, nB, KA, KB, z1, z2, hN⟩ := id h2
  refine lv_aload_n hx hb dL_law_915 rfl (lv_at hl 1 rfl) ?_
  refine lw_arg C0 hL (j := 1) hH.2.2 hl dL_law_916 dL_law_917 dL_law_918 dL_law_919 dL_law_920 (by decide) (by omega) ?_
  refine lw_arg C0 hL (j := 2) hH.2.2 hl dL_law_921 dL_law_922 dL_law_923 dL_law_924 dL_law_925 (by decide) (by omega) ?_
  refine lw_call C0 hN (G := GA) (st := []) (av := [.int (xs (i + 1)), .int (xs (i + 2))]) nA KA z1 cA lx_Mo_others.1 (aw_in_55 _ (List.mem_of_getElem? (i := 9) rfl)) lx_Mo_others.2.1 lx_Mo_others.2.2 xA_0 ⟨_, _, rfl⟩ rfl (by decide +kernel) ⟨rfl, rfl⟩ (Nat.le_of_ble_eq_true rfl) dL_law_926 hH.1 hH.2.2 hl.1 hkc (fun H1 locs1 hP1 hS1 hk1 => ?_)
  have hH1 := lw_HA h2 hH hP1 hS1 hk1
  refine lv_aload_n hx hb dL_law_929 rfl (lv_at hl 2 rfl) ?_
  refine lw_arg C0 hL (j := 1) hH1.2.2 hl dL_law_930 dL_law_931 dL_law_932 dL_law_933 dL_law_934 (by decide) (by omega) ?_
  refine lw_arg C0 hL (j := 2) hH1.2.2 hl dL_law_935 dL_law_936 dL_law_937 dL_law_938 dL_law_939 (by decide) (by omega) ?_
  refine lw_call C0 hN (G := GB) (st := [.int r]) (av := [.int (xs (i + 1)), .int (xs (i + 2))]) nB KB (by omega) cB lx_Rf_others.1 (aw_in_58 _ (List.mem_of_getElem? (i := 10) rfl)) lx_Rf_others.2.1 lx_Rf_others.2.2 xB_0 ⟨_, _, rfl⟩ rfl (by decide +kernel) ⟨rfl, rfl⟩ (Nat.le_of_ble_eq_true rfl) dL_law_940 hH1.2.1 hH1.2.2 hl.1 hkc (fun H2 locs2 hP2 hS2 hk2 => ?_)
  have hH2 := lw_HB h2 hH1 hP2 hS2 hk2
  refine lv_icmp_eq (tgt := 1094) hx hb dL_law_943 (by decide) (fun _ => k H2 locs2 a1 b1 hH2 hI1) (fun z => absurd rfl z)
theorem lx_Mo_ways : aw_Y yX11_ways M_Mo_ways 3 ∧ Cond.instanceMethod yX11_ways ∈ wsL_law ∧ Cond.selects (yX11_ways).cls yX11_ways yX11_ways ∈ wsL_law := ⟨⟨aw_in_59 _ (List.mem_of_getElem? (i := 15) rfl), aw_in_0 _ (List.mem_of_getElem? (i := 2) rfl), by decide +kernel, by decide +kernel, by decide +kernel⟩, aw_in_59 _ (List.mem_of_getElem? (i := 13) rfl), aw_in_59 _ (List.mem_of_getElem? (i := 14) rfl)⟩
theorem lx_Rf_ways : aw_Y yX12_ways M_Rf_ways 3 ∧ Cond.instanceMethod yX12_ways ∈ wsL_law ∧ Cond.selects (yX12_ways).cls yX12_ways yX12_ways ∈ wsL_law := ⟨⟨aw_in_61 _ (List.mem_of_getElem? (i := 8) rfl), aw_in_0 _ (List.mem_of_getElem? (i := 5) rfl), by decide +kernel, by decide +kernel, by decide +kernel⟩, aw_in_61 _ (List.mem_of_getElem? (i := 6) rfl), aw_in_61 _ (List.mem_of_getElem? (i := 7) rfl)⟩
set_option maxHeartbeats 1000000 in
theorem lw_c_ways {p : Program} {l : Launch} {e : Env} {s : State} {m : MethodId} {below : List Frame} {meth : Method} {c : Code} {b L : Nat} {xs : Nat → Int32} (C0 : lw_At p s m meth c b L xs) (hL : L ≤ 3072) {GA GB : aw_G} (h2 : lw_2 s GA GB) {a0 b0 : aw_S} {H : Heap} {locs : List Loc} {kc ks i : Nat} {ls : Array Slot} (hH : lw_H s GA GB a0 b0 H locs) (hI : iv_I a0 b0) (hl : lv_has ls 4 (lw_loc b GA GB i)) (hi : i + 6 ≤ L) (hkc : kc ≤ room_1.cells ∧ ks ≤ room_1.slots) (k : ∀ (H1 : Heap) (locs1 : List Loc) (a1 b1 : aw_S), lw_H s GA GB a1 b1 H1 locs1 → iv_I a1 b1 → W p l e room_1 s m #[Value.ref b] below meth c H1 locs1 kc ks (lw_Z below #[Value.ref b] s) (F0 m 1094 ls [])) : W p l e room_1 s m #[Value.ref b] below meth c H locs kc ks (lw_Z below #[Value.ref b] s) (F0 m 948 ls []) := by
  obtain ⟨r, a1, b1, cA, cB, hI1⟩ := k_ways l GA GB hI (xs (i + 1)) (xs (i + 2)) (xs (i + 3))
  obtain ⟨hx, hb, hr, hml, hown, hts, hX, hbl, hlocks, hgv⟩ := id C0
  obtain ⟨nA, nB, KA, KB, z1, z2, hN⟩ := id h2
  refine lv_aload_n hx hb dL_law_948 rfl (lv_at hl 1 rfl) ?_
  refine lw_arg C0 hL (j := 1) hH.2.2 hl dL_law_949 dL_law_950 dL_law_951 dL_law_952 dL_law_953 (by decide) (by omega) ?_
  refine lw_arg C0 hL (j := 2) hH.2.2 hl dL_law_954 dL_law_955 dL_law_956 dL_law_957 dL_law_958 (by decide) (by omega) ?_
  refine lw_arg C0 hL (j := 3) hH.2.2 hl dL_law_959 dL_law_960 dL_law_961 dL_law_962 dL_law_963 (by decide) (by omega) ?_
  refine lw_call C0 hN (G := GA) (st := []) (av := [.int (xs (i + 1)), .int (xs (i + 2)), .int (xs (i + 3))]) nA KA z1 cA lx_Mo_ways.1 (aw_in_59 _ (List.mem_of_getElem? (i := 12) rfl)) lx_Mo_ways.2.1 lx_Mo_ways.2.2 xA_0 ⟨_, _, rfl⟩ rfl (by decide +kernel) ⟨rfl, rfl⟩ (Nat.le_of_ble_eq_true rfl) dL_law_964 hH.1 hH.2.2 hl.1 hkc (fun H1 locs1 hP1 hS1 hk1 => ?_)
  have hH1 := lw_HA h2 hH hP1 hS1 hk1
  refine lv_aload_n hx hb dL_law_967 rfl (lv_at hl 2 rfl) ?_
  refine lw_arg C0 hL (j := 1) hH1.2.2 hl dL_law_968 dL_law_969 dL_law_970 dL_law_971 dL_law_972 (by decide) (by omega) ?_
  refine lw_arg C0 hL (j := 2) hH1.2.2 hl dL_law_973 dL_law_974 dL_law_975 dL_law_976 dL_law_977 (by decide) (by omega) ?_
  refine lw_arg C0 hL (j := 3) hH1.2.2 hl dL_law_978 dL_law_979 dL_law_980 dL_law_981 dL_law_982 (by decide) (by omega) ?_
  refine lw_call C0 hN (G := GB) (st := [.long r]) (av := [.int (xs (i + 1)), .int (xs (i + 2)), .int (xs (i + 3))]) nB KB (by omega) cB lx_Rf_ways.1 (aw_in_61 _ (List.mem_of_getElem? (i := 5) rfl)) lx_Rf_ways.2.1 lx_Rf_ways.2.2 xB_0 ⟨_, _, rfl⟩ rfl (by decide +kernel) ⟨rfl, rfl⟩ (Nat.le_of_ble_eq_true rfl) dL_law_983 hH1.2.1 hH1.2.2 hl.1 hkc (fun H2 locs2 hP2 hS2 hk2 => ?_)
  have hH2 := lw_HB h2 hH1 hP2 hS2 hk2
  refine W.lcmp hx hb dL_law_986 ?_
  refine lv_if_eq (tgt := 1094) hx hb dL_law_987 (by decide) (fun _ => k H2 locs2 a1 b1 hH2 hI1) (fun z => absurd (lw_lcmp r) z)
theorem lx_Mo_keep : aw_Y yX11_keep M_Mo_keep 1 ∧ Cond.instanceMethod yX11_keep ∈ wsL_law ∧ Cond.selects (yX11_keep).cls yX11_keep yX11_keep ∈ wsL_law := ⟨⟨aw_in_61 _ (List.mem_of_getElem? (i := 21) rfl), aw_in_0 _ (List.mem_of_getElem? (i := 2) rfl), by decide +kernel, by decide +kernel, by decide +kernel⟩, aw_in_61 _ (List.mem_of_getElem? (i := 19) rfl), aw_in_61 _ (List.mem_of_getElem? (i := 20) rfl)⟩
theorem lx_Rf_keep : aw_Y yX12_keep M_Rf_keep 1 ∧ Cond.instanceMethod yX12_keep ∈ wsL_law ∧ Cond.selects (yX12_keep).cls yX12_keep yX12_keep ∈ wsL_law := ⟨⟨aw_in_62 _ (List.mem_of_getElem? (i := 1) rfl), aw_in_0 _ (List.mem_of_getElem? (i := 5) rfl), by decide +kernel, by decide +kernel, by decide +kernel⟩, aw_in_61 _ (List.mem_of_getElem? (i := 23) rfl), aw_in_62 _ (List.mem_of_getElem? (i := 0) rfl)⟩
set_option maxHeartbeats 1000000 in
theorem lw_c_keep {p : Program} {l : Launch} {e : Env} {s : State} {m : MethodId} {below : List Frame} {meth : Method} {c : Code} {b L : Nat} {xs : Nat → Int32} (C0 : lw_At p s m meth c b L xs) (hL : L ≤ 3072) {GA GB : aw_G} (h2 : lw_2 s GA GB) {a0 b0 : aw_S} {H : Heap} {locs : List Loc} {kc ks i : Nat} {ls : Array Slot} (hH : lw_H s GA GB a0 b0 H locs) (hI : iv_I a0 b0) (hl : lv_has ls 4 (lw_loc b GA GB i)) (hi : i + 6 ≤ L) (hkc : kc ≤ room_1.cells ∧ ks ≤ room_1.slots) (k : ∀ (H1 : Heap) (locs1 : List Loc) (a1 b1 : aw_S), lw_H s GA GB a1 b1 H1 locs1 → iv_I a1 b1 → W p l e room_1 s m #[Value.ref b] below meth c H1 locs1 kc ks (lw_Z below #[Value.ref b] s) (F0 m 1094 ls [])) : W p l e room_1 s m #[Value.ref b] below meth c H locs kc ks (lw_Z below #[Value.ref b] s) (F0 m 992 ls []) := by
  obtain ⟨r, a1, b1, cA, cB, hI1⟩ := k_keep l GA GB hI (xs (i + 1))
  obtain ⟨hx, hb, hr, hml, hown, hts, hX, hbl, hlocks, hgv⟩ := id C0
  obtain ⟨nA, nB, KA, KB, z1, z2, hN⟩ := id h2
  refine lv_aload_n hx hb dL_law_992 rfl (lv_at hl 1 rfl) ?_
  refine lw_arg C0 hL (j := 1) hH.2.2 hl dL_law_993 dL_law_994 dL_law_995 dL_law_996 dL_law_997 (by decide) (by omega) ?_
  refine lw_call C0 hN (G := GA) (st := []) (av := [.int (xs (i + 1))]) nA KA z1 cA lx_Mo_keep.1 (aw_in_61 _ (List.mem_of_getElem? (i := 18) rfl)) lx_Mo_keep.2.1 lx_Mo_keep.2.2 xA_0 ⟨_, _, rfl⟩ rfl (by decide +kernel) ⟨rfl, rfl⟩ (Nat.le_of_ble_eq_true rfl) dL_law_998 hH.1 hH.2.2 hl.1 hkc (fun H1 locs1 hP1 hS1 hk1 => ?_)
  have hH1 := lw_HA h2 hH hP1 hS1 hk1
  refine lv_aload_n hx hb dL_law_1001 rfl (lv_at hl 2 rfl) ?_
  refine lw_arg C0 hL (j := 1) hH1.2.2 hl dL_law_1002 dL_law_1003 dL_law_1004 dL_law_1005 dL_law_1006 (by decide) (by omega) ?_
  refine lw_call C0 hN (G := GB) (st := [.int r]) (av := [.int (xs (i + 1))]) nB KB (by omega) cB lx_Rf_keep.1 (aw_in_61 _ (List.mem_of_getElem? (i := 22) rfl)) lx_Rf_keep.2.1 lx_Rf_keep.2.2 xB_0 ⟨_, _, rfl⟩ rfl (by decide +kernel) ⟨rfl, rfl⟩ (Nat.le_of_ble_eq_true rfl) dL_law_1007 hH1.2.1 hH1.2.2 hl.1 hkc (fun H2 locs2 hP2 hS2 hk2 => ?_)
  have hH2 := lw_HB h2 hH1 hP2 hS2 hk2
  refine lv_icmp_eq (tgt := 1094) hx hb dL_law_1010 (by decide) (fun _ => k H2 locs2 a1 b1 hH2 hI1) (fun z => absurd rfl z)
theorem lx_Mo_back : aw_Y yX11_back M_Mo_back 1 ∧ Cond.instanceMethod yX11_back ∈ wsL_law ∧ Cond.selects (yX11_back).cls yX11_back yX11_back ∈ wsL_law := ⟨⟨aw_in_62 _ (List.mem_of_getElem? (i := 5) rfl), aw_in_0 _ (List.mem_of_getElem? (i := 2) rfl), by decide +kernel, by decide +kernel, by decide +kernel⟩, aw_in_62 _ (List.mem_of_getElem? (i := 3) rfl), aw_in_62 _ (List.mem_of_getElem? (i := 4) rfl)⟩
theorem lx_Rf_back : aw_Y yX12_back M_Rf_back 1 ∧ Cond.instanceMethod yX12_back ∈ wsL_law ∧ Cond.selects (yX12_back).cls yX12_back yX12_back ∈ wsL_law := ⟨⟨aw_in_62 _ (List.mem_of_getElem? (i := 9) rfl), aw_in_0 _ (List.mem_of_getElem? (i := 5) rfl), by decide +kernel, by decide +kernel, by decide +kernel⟩, aw_in_62 _ (List.mem_of_getElem? (i := 7) rfl), aw_in_62 _ (List.mem_of_getElem? (i := 8) rfl)⟩
set_option maxHeartbeats 1000000 in
theorem lw_c_back {p : Program} {l : Launch} {e : Env} {s : State} {m : MethodId} {below : List Frame} {meth : Method} {c : Code} {b L : Nat} {xs : Nat → Int32} (C0 : lw_At p s m meth c b L xs) (hL : L ≤ 3072) {GA GB : aw_G} (h2 : lw_2 s GA GB) {a0 b0 : aw_S} {H : Heap} {locs : List Loc} {kc ks i : Nat} {ls : Array Slot} (hH : lw_H s GA GB a0 b0 H locs) (hI : iv_I a0 b0) (hl : lv_has ls 4 (lw_loc b GA GB i)) (hi : i + 6 ≤ L) (hkc : kc ≤ room_1.cells ∧ ks ≤ room_1.slots) (k : ∀ (H1 : Heap) (locs1 : List Loc) (a1 b1 : aw_S), lw_H s GA GB a1 b1 H1 locs1 → iv_I a1 b1 → W p l e room_1 s m #[Value.ref b] below meth c H1 locs1 kc ks (lw_Z below #[Value.ref b] s) (F0 m 1094 ls [])) : W p l e room_1 s m #[Value.ref b] below meth c H locs kc ks (lw_Z below #[Value.ref b] s) (F0 m 1015 ls []) := by
  obtain ⟨r, a1, b1, cA, cB, hI1⟩ := k_back l GA GB hI (xs (i + 1))
  obtain ⟨hx, hb, hr, hml, hown, hts, hX, hbl, hlocks, hgv⟩ := id C0
  obtain ⟨nA, nB, KA, KB, z1, z2, hN⟩ := id h2
  refine lv_aload_n hx hb dL_law_1015 rfl (lv_at hl 1 rfl) ?_
  refine lw_arg C0 hL (j := 1) hH.2.2 hl dL_law_1016 dL_law_1017 dL_law_1018 dL_law_1019 dL_law_1020 (by decide) (by omega) ?_
  refine lw_call C0 hN (G := GA) (st := []) (av := [.int (xs (i + 1))]) nA KA z1 cA lx_Mo_back.1 (aw_in_62 _ (List.mem_of_getElem? (i := 2) rfl)) lx_Mo_back.2.1 lx_Mo_back.2.2 xA_0 ⟨_, _, rfl⟩ rfl (by decide +kernel) ⟨rfl, rfl⟩ (Nat.le_of_ble_eq_true rfl) dL_law_1021 hH.1 hH.2.2 hl.1 hkc (fun H1 locs1 hP1 hS1 hk1 => ?_)
  have hH1 := lw_HA h2 hH hP1 hS1 hk1
  refine lv_aload_n hx hb dL_law_1024 rfl (lv_at hl 2 rfl) ?_
  refine lw_arg C0 hL (j := 1) hH1.2.2 hl dL_law_1025 dL_law_1026 dL_law_1027 dL_law_1028 dL_law_1029 (by decide) (by omega) ?_
  refine lw_call C0 hN (G := GB) (st := [.int r]) (av := [.int (xs (i + 1))]) nB KB (by omega) cB lx_Rf_back.1 (aw_in_62 _ (List.mem_of_getElem? (i := 6) rfl)) lx_Rf_back.2.1 lx_Rf_back.2.2 xB_0 ⟨_, _, rfl⟩ rfl (by decide +kernel) ⟨rfl, rfl⟩ (Nat.le_of_ble_eq_true rfl) dL_law_1030 hH1.2.1 hH1.2.2 hl.1 hkc (fun H2 locs2 hP2 hS2 hk2 => ?_)
  have hH2 := lw_HB h2 hH1 hP2 hS2 hk2
  refine lv_icmp_eq (tgt := 1094) hx hb dL_law_1033 (by decide) (fun _ => k H2 locs2 a1 b1 hH2 hI1) (fun z => absurd rfl z)
theorem lx_Mo_write : aw_Y yX11_write M_Mo_write 2 ∧ Cond.instanceMethod yX11_write ∈ wsL_law ∧ Cond.selects (yX11_write).cls yX11_write yX11_write ∈ wsL_law := ⟨⟨aw_in_62 _ (List.mem_of_getElem? (i := 13) rfl), aw_in_0 _ (List.mem_of_getElem? (i := 2) rfl), by decide +kernel, by decide +kernel, by decide +kernel⟩, aw_in_62 _ (List.mem_of_getElem? (i := 11) rfl), aw_in_62 _ (List.mem_of_getElem? (i := 12) rfl)⟩
theorem lx_Rf_write : aw_Y yX12_write M_Rf_write 2 ∧ Cond.instanceMethod yX12_write ∈ wsL_law ∧ Cond.selects (yX12_write).cls yX12_write yX12_write ∈ wsL_law := ⟨⟨aw_in_64 _ (List.mem_of_getElem? (i := 1) rfl), aw_in_0 _ (List.mem_of_getElem? (i := 5) rfl), by decide +kernel, by decide +kernel, by decide +kernel⟩, aw_in_63 _ (List.mem_of_getElem? (i := 23) rfl), aw_in_64 _ (List.mem_of_getElem? (i := 0) rfl)⟩
set_option maxHeartbeats 1000000 in
theorem lw_c_write {p : Program} {l : Launch} {e : Env} {s : State} {m : MethodId} {below : List Frame} {meth : Method} {c : Code} {b L : Nat} {xs : Nat → Int32} (C0 : lw_At p s m meth c b L xs) (hL : L ≤ 3072) {GA GB : aw_G} (h2 : lw_2 s GA GB) {a0 b0 : aw_S} {H : Heap} {locs : List Loc} {kc ks i : Nat} {ls : Array Slot} (hH : lw_H s GA GB a0 b0 H locs) (hI : iv_I a0 b0) (hl : lv_has ls 4 (lw_loc b GA GB i)) (hi : i + 6 ≤ L) (hkc : kc ≤ room_1.cells ∧ ks ≤ room_1.slots) (k : ∀ (H1 : Heap) (locs1 : List Loc) (a1 b1 : aw_S), lw_H s GA GB a1 b1 H1 locs1 → iv_I a1 b1 → W p l e room_1 s m #[Value.ref b] below meth c H1 locs1 kc ks (lw_Z below #[Value.ref b] s) (F0 m 1094 ls [])) : W p l e room_1 s m #[Value.ref b] below meth c H locs kc ks (lw_Z below #[Value.ref b] s) (F0 m 1038 ls []) := by
  obtain ⟨r, a1, b1, cA, cB, hI1⟩ := k_write l GA GB hI (xs (i + 1)) (xs (i + 2))
  obtain ⟨hx, hb, hr, hml, hown, hts, hX, hbl, hlocks, hgv⟩ := id C0
  obtain ⟨nA, nB, KA, KB, z1, z2, hN⟩ := id h2
  refine lv_aload_n hx hb dL_law_1038 rfl (lv_at hl 1 rfl) ?_
  refine lw_arg C0 hL (j := 1) hH.2.2 hl dL_law_1039 dL_law_1040 dL_law_1041 dL_law_1042 dL_law_1043 (by decide) (by omega) ?_
  refine lw_arg C0 hL (j := 2) hH.2.2 hl dL_law_1044 dL_law_1045 dL_law_1046 dL_law_1047 dL_law_1048 (by decide) (by omega) ?_
  refine lw_call C0 hN (G := GA) (st := []) (av := [.int (xs (i + 1)), .int (xs (i + 2))]) nA KA z1 cA lx_Mo_write.1 (aw_in_62 _ (List.mem_of_getElem? (i := 10) rfl)) lx_Mo_write.2.1 lx_Mo_write.2.2 xA_0 ⟨_, _, rfl⟩ rfl (by decide +kernel) ⟨rfl, rfl⟩ (Nat.le_of_ble_eq_true rfl) dL_law_1049 hH.1 hH.2.2 hl.1 hkc (fun H1 locs1 hP1 hS1 hk1 => ?_)
  have hH1 := lw_HA h2 hH hP1 hS1 hk1
  refine lv_aload_n hx hb dL_law_1052 rfl (lv_at hl 2 rfl) ?_
  refine lw_arg C0 hL (j := 1) hH1.2.2 hl dL_law_1053 dL_law_1054 dL_law_1055 dL_law_1056 dL_law_1057 (by decide) (by omega) ?_
  refine lw_arg C0 hL (j := 2) hH1.2.2 hl dL_law_1058 dL_law_1059 dL_law_1060 dL_law_1061 dL_law_1062 (by decide) (by omega) ?_
  refine lw_call C0 hN (G := GB) (st := [.int r]) (av := [.int (xs (i + 1)), .int (xs (i + 2))]) nB KB (by omega) cB lx_Rf_write.1 (aw_in_63 _ (List.mem_of_getElem? (i := 22) rfl)) lx_Rf_write.2.1 lx_Rf_write.2.2 xB_0 ⟨_, _, rfl⟩ rfl (by decide +kernel) ⟨rfl, rfl⟩ (Nat.le_of_ble_eq_true rfl) dL_law_1063 hH1.2.1 hH1.2.2 hl.1 hkc (fun H2 locs2 hP2 hS2 hk2 => ?_)
  have hH2 := lw_HB h2 hH1 hP2 hS2 hk2
  refine lv_icmp_eq (tgt := 1094) hx hb dL_law_1066 (by decide) (fun _ => k H2 locs2 a1 b1 hH2 hI1) (fun z => absurd rfl z)
theorem lx_Mo_octet : aw_Y yX11_octet M_Mo_octet 1 ∧ Cond.instanceMethod yX11_octet ∈ wsL_law ∧ Cond.selects (yX11_octet).cls yX11_octet yX11_octet ∈ wsL_law := ⟨⟨aw_in_65 _ (List.mem_of_getElem? (i := 10) rfl), aw_in_0 _ (List.mem_of_getElem? (i := 2) rfl), by decide +kernel, by decide +kernel, by decide +kernel⟩, aw_in_65 _ (List.mem_of_getElem? (i := 8) rfl), aw_in_65 _ (List.mem_of_getElem? (i := 9) rfl)⟩
theorem lx_Rf_octet : aw_Y yX12_octet M_Rf_octet 1 ∧ Cond.instanceMethod yX12_octet ∈ wsL_law ∧ Cond.selects (yX12_octet).cls yX12_octet yX12_octet ∈ wsL_law := ⟨⟨aw_in_65 _ (List.mem_of_getElem? (i := 15) rfl), aw_in_0 _ (List.mem_of_getElem? (i := 5) rfl), by decide +kernel, by decide +kernel, by decide +kernel⟩, aw_in_65 _ (List.mem_of_getElem? (i := 13) rfl), aw_in_65 _ (List.mem_of_getElem? (i := 14) rfl)⟩
set_option maxHeartbeats 1000000 in
theorem lw_c_octet {p : Program} {l : Launch} {e : Env} {s : State} {m : MethodId} {below : List Frame} {meth : Method} {c : Code} {b L : Nat} {xs : Nat → Int32} (C0 : lw_At p s m meth c b L xs) (hL : L ≤ 3072) {GA GB : aw_G} (h2 : lw_2 s GA GB) {a0 b0 : aw_S} {H : Heap} {locs : List Loc} {kc ks i : Nat} {ls : Array Slot} (hH : lw_H s GA GB a0 b0 H locs) (hI : iv_I a0 b0) (hl : lv_has ls 4 (lw_loc b GA GB i)) (hi : i + 6 ≤ L) (hkc : kc ≤ room_1.cells ∧ ks ≤ room_1.slots) (k : ∀ (H1 : Heap) (locs1 : List Loc) (a1 b1 : aw_S), lw_H s GA GB a1 b1 H1 locs1 → iv_I a1 b1 → W p l e room_1 s m #[Value.ref b] below meth c H1 locs1 kc ks (lw_Z below #[Value.ref b] s) (F0 m 1094 ls [])) : W p l e room_1 s m #[Value.ref b] below meth c H locs kc ks (lw_Z below #[Value.ref b] s) (F0 m 1071 ls []) := by
  obtain ⟨r, a1, b1, cA, cB, hI1⟩ := k_octet l GA GB hI (xs (i + 1))
  obtain ⟨hx, hb, hr, hml, hown, hts, hX, hbl, hlocks, hgv⟩ := id C0
  obtain ⟨nA, nB, KA, KB, z1, z2, hN⟩ := id h2
  refine lv_aload_n hx hb dL_law_1071 rfl (lv_at hl 1 rfl) ?_
  refine lw_arg C0 hL (j := 1) hH.2.2 hl dL_law_1072 dL_law_1073 dL_law_1074 dL_law_1075 dL_law_1076 (by decide) (by omega) ?_
  refine lw_call C0 hN (G := GA) (st := []) (av := [.int (xs (i + 1))]) nA KA z1 cA lx_Mo_octet.1 (aw_in_65 _ (List.mem_of_getElem? (i := 7) rfl)) lx_Mo_octet.2.1 lx_Mo_octet.2.2 xA_0 ⟨_, _, rfl⟩ rfl (by decide +kernel) ⟨rfl, rfl⟩ (Nat.le_of_ble_eq_true rfl) dL_law_1077 hH.1 hH.2.2 hl.1 hkc (fun H1 locs1 hP1 hS1 hk1 => ?_)
  have hH1 := lw_HA h2 hH hP1 hS1 hk1
  refine lv_aload_n hx hb dL_law_1080 rfl (lv_at hl 2 rfl) ?_
  refine lw_arg C0 hL (j := 1) hH1.2.2 hl dL_law_1081 dL_law_1082 dL_law_1083 dL_law_1084 dL_law_1085 (by decide) (by omega) ?_
  refine lw_call C0 hN (G := GB) (st := [.int r]) (av := [.int (xs (i + 1))]) nB KB (by omega) cB lx_Rf_octet.1 (aw_in_65 _ (List.mem_of_getElem? (i := 12) rfl)) lx_Rf_octet.2.1 lx_Rf_octet.2.2 xB_0 ⟨_, _, rfl⟩ rfl (by decide +kernel) ⟨rfl, rfl⟩ (Nat.le_of_ble_eq_true rfl) dL_law_1086 hH1.2.1 hH1.2.2 hl.1 hkc (fun H2 locs2 hP2 hS2 hk2 => ?_)
  have hH2 := lw_HB h2 hH1 hP2 hS2 hk2
  refine lv_icmp_eq (tgt := 1094) hx hb dL_law_1089 (by decide) (fun _ => k H2 locs2 a1 b1 hH2 hI1) (fun z => absurd rfl z)

/-! THE CLAIM OUT OF ONE WALK OF THE LAW'S BODY. Your part is whole_start (and what it stands on); all else here is the same for every law, but numbers. -/
def R_law : String := "LateMoverLaw"
def lw_P (b : Addr) (xs : List Int32) (args : Array Value) (s : State) : Prop := args = #[.ref b] ∧ s.IntsAt b xs ∧ xs.length ≤ 3072 ∧ (Jvm.Cond.and given_1 narrow_1).before args s = true
def lw_Q (_ : Array Value) (s : State) (o : Outcome) (t : State) : Prop := o = .returned (some (.int 1)) ∧ Framed s o t [] 600000 7302250
def lw_Z (below : List Frame) (a : Array Value) (s : State) : State → Prop := fun t => ∃ o, t.status = .running ∧ Ended t below o ∧ lw_Q a s o t
/-- the law's own end, with 1 on the stack, nothing written that was there before, its room as the claim has it -/
theorem lw_ret {p : Program} {l : Launch} {e : Env} {s : State} {m : MethodId} {below : List Frame} {meth : Method} {c : Code} {b : Nat} (hx : p.tables.exec = Jvm.exec) (hb : c.code = code) (hr : meth.sig.returnType = ret) (hlocks : meth.locks = false) {pc : Nat} {H : Heap} {ls : Array Slot} (hdg : decode code pc = .ok (.ireturn, 1)) : W p l e room_1 s m #[Value.ref b] below meth c H [] 600000 7302250 (lw_Z below #[Value.ref b] s) (F0 m pc ls [.int 1]) := by
  intro T hT X
  obtain ⟨fs, hret, hrun, hended, hW, hframe⟩ := X.leave (v := some (.int 1)) (hlocks := hlocks) (fun h => by rw [hr] at h; cases h)
  have hmeth' : T.vm.method? m = some meth := X.method'
  refine ⟨T.setFrames fs, ?_, .returned (some (.int 1)), hrun, hended, rfl, ⟨_, rfl⟩, hW, hframe⟩
  jvm_step X.here [X.here.top, hx, hb, hdg, hmeth', hr, ret, narrow_b1]
  (try refine ⟨rfl, ?_⟩); (try refine ⟨rfl, ?_⟩)
  first | (intro acts; rw [hret _ acts rfl rfl rfl]) | rw [hret _ _ rfl rfl rfl]
  exact Steps.refl _
/-- what holds at the law's entry: the machine, the code, the tables' words (any of lw_tbl by 'hts w (by decide +kernel)'), the script of L ints xs at the cell b, what the Statement gives of the start (any of its parts by flat_of_before) -/
def lw_At (p : Program) (s : State) (m : MethodId) (meth : Method) (c : Code) (b L : Nat) (xs : Nat → Int32) : Prop :=
  p.tables.exec = Jvm.exec ∧ c.code = code ∧ meth.sig.returnType = ret ∧ c.maxLocals = 4 ∧ s.vm.findClass R_law = some m.cls ∧ (∀ w ∈ lw_tbl, w.before #[Value.ref b] s = true) ∧ va_X b L xs s s.heap ∧ b < s.heap.size ∧ meth.locks = false ∧ (Jvm.Cond.and given_1 narrow_1).before #[Value.ref b] s = true
/-! ===== THE LAW: two worlds side by side; a call ===== -/
theorem lw_callR {p : Program} {l : Launch} {e : Env} {R : Room} {s : State} {m : MethodId} {args : Array Value} {below : List Frame} {meth : Method} {c : Code} {H : Heap} {locs : List Loc} {kc ks mc ms pc : Nat} {ls : Array Slot} {rest st0 : List Value} {a : Array Value} {A A1 free : Nat → Prop} {Q : State → Prop} {G : aw_G} {E : aw_E}
    (hr : va_Run p l e R s m args below meth c H locs kc ks mc ms (F0 m pc ls st0) rest (aw_Q G E A1 a) free) (hS : va_S A s.heap H locs) (hA : ∀ q, q < H.size → A1 q → A q) (hf : ∀ q, free q → A q)
    (kk : ∀ (H1 : Heap) (locs1 : List Loc), va_P (G.1, G.2.1) vwCl (aw_w G.2.2.2.1 G.2.2.1 E.2.1 E.2.2) H1 → va_S A s.heap H1 locs1 → (∀ q, q < H.size → ¬ A1 q → H1[q]? = H[q]?) → W p l e R s m args below meth c H1 locs1 (kc + mc) (ks + ms) Q (F0 m (pc + 3) ls ((E.1.map (aw_v G.2.2.2.1)).toList ++ rest))) : W p l e R s m args below meth c H locs kc ks Q (F0 m pc ls st0) := by
  intro T hT X
  obtain ⟨v, st₀, t, T', L, h0, X', hL, e1, e2, ⟨⟨hv, hp, -, -⟩, hz, hk⟩, st⟩ := hr T hT X
  injection hv with hv
  subst hv
  rw [h0] at hz hk
  obtain ⟨t2, a1, b1⟩ := kk T'.heap (locs ++ L) (by rw [e1]; exact hp)
    ⟨Nat.le_trans hS.1 (by rw [e1]; exact hz), fun q h1 h2 => by rw [e1, hk q (Nat.lt_of_lt_of_le h1 hS.1) (fun z => h2 (hA q (Nat.lt_of_lt_of_le h1 hS.1) z))]; exact hS.2.1 q h1 h2, fun q hq => by
      rcases List.mem_append.mp hq with h | h
      · exact hS.2.2 q h
      · exact hf _ (hL q h)⟩ (fun q hq hn => by rw [e1]; exact hk q hq hn) T' rfl X'
  exact ⟨t2, st t2 a1, b1⟩
theorem lw_wsL {p : Program} {s : State} {m : MethodId} {meth : Method} {c : Code} {b L : Nat} {xs : Nat → Int32} (C0 : lw_At p s m meth c b L xs) : ∀ w ∈ wsL_law, w.before #[Value.ref b] s = true := fun w hw => C0.2.2.2.2.2.1 w (aw_good w hw).1
/-- a call on one of the two; the other stays as it was -/
theorem lw_call {p : Program} {l : Launch} {e : Env} {s : State} {m : MethodId} {below : List Frame} {meth : Method} {c : Code} {b L : Nat} {xs : Nat → Int32} (C0 : lw_At p s m meth c b L xs) (hN : aw_Nst s) {G : aw_G} (hal : ¬ G.2.2.2.2) (hK : va_K (G.1, G.2.1) vwCl (aw_ty G.2.2.1) s) (hb1 : s.heap.size ≤ G.2.2.2.1) {sh : List aw_H} {σ σ' : aw_S} {H : Heap} {locs : List Loc} {kc ks pc : Nat} {ls : Array Slot} {idx n ci : Nat} {fs : List aw_F} {y : MethodName} {M' : aw_M} {B' : aw_B} {r : Option Value} {st av : List Value}
    (hM : aw_Ct l y M' G B' (.ref 0 :: av) sh σ (r, sh, σ')) (hy : aw_Y y M' n) (hl : Cond.methodLink R_law idx y ∈ wsL_law) (hinst : Cond.instanceMethod y ∈ wsL_law) (hsel : Cond.selects y.cls y y ∈ wsL_law) (hs : sh[0]? = some (.inl (ci, fs))) (hcl : ∃ T N, vwCl[ci]? = some (y.cls, T, N)) (hlen : av.length = n) (hroom : B'.1 + 1 ≤ room_1.frames ∧ 8 + (M'.2.2.1 + 11) + B'.2.1 ≤ room_1.locals) (hz : B'.2.2.1 = 0 ∧ B'.2.2.2 = 0) (hst : (st.map fun v => v.category).sum ≤ 8) (hd : decode code pc = .ok (.invokevirtual idx, 3))
    (hP : va_P (G.1, G.2.1) vwCl (aw_w G.2.2.2.1 G.2.2.1 sh σ) H) (hS : va_S (fun q : Nat => s.heap.size ≤ q) s.heap H locs) (hls : ls.size = 4) (hkc : kc ≤ room_1.cells ∧ ks ≤ room_1.slots)
    (k : ∀ (H1 : Heap) (locs1 : List Loc), va_P (G.1, G.2.1) vwCl (aw_w G.2.2.2.1 G.2.2.1 sh σ') H1 → va_S (fun q : Nat => s.heap.size ≤ q) s.heap H1 locs1 → (∀ q, q < H.size → ¬ (G.2.2.2.1 ≤ q ∧ q < G.2.2.2.1 + sh.length) → H1[q]? = H[q]?) → W p l e room_1 s m #[Value.ref b] below meth c H1 locs1 kc ks (lw_Z below #[Value.ref b] s) (F0 m (pc + 3) ls ((r.map (aw_v G.2.2.2.1)).toList ++ st))) :
    W p l e room_1 s m #[Value.ref b] below meth c H locs kc ks (lw_Z below #[Value.ref b] s) (F0 m pc ls ((av.map (aw_v G.2.2.2.1)).reverse ++ .ref (G.2.2.2.1 + 0) :: st)) := by
  have hts := lw_wsL C0
  obtain ⟨hx, hb, hr, hml, hown, -, hX, hbl, hlocks, hgv⟩ := C0
  have hcB : CallB room_1 s #[Value.ref b] R_law idx y M'.2.1 M'.2.2.1 M'.2.2.2.1 (.code y M'.2.1 M'.2.2.1 M'.2.2.2.1 :: wsL_law) (aw_room B') B'.2.2.1 B'.2.2.2 n := aw_callB hts hy hl hroom
  have hPc : ∀ U : State, U.heap = H → s.WarmedH U.vm → va_Pc ((.ref 0 :: av).map (aw_v G.2.2.2.1)) (fun U => va_P (G.1, G.2.1) vwCl (aw_w G.2.2.2.1 G.2.2.1 sh σ) U.heap ∧ va_K (G.1, G.2.1) vwCl (aw_ty G.2.2.1) U ∧ (G.2.2.2.2 → U.heap.size = G.2.2.2.1 + sh.length) ∧ aw_Nst U) ((.ref 0 :: av).map (aw_v G.2.2.2.1)).toArray U := fun U hU hW => ⟨rfl, by rw [hU]; exact hP, va_K.moved hW.alike hK, fun ha => absurd ha hal, aw_Nst.warm hW hN⟩
  obtain ⟨T0, N0, hcl⟩ := hcl
  have hrec := va_recv (D := (G.1, G.2.1)) (tys := aw_ty G.2.2.1) hK hP hcl (aw_w_get hs)
  have hrun := va_runV (As := av.map (aw_v G.2.2.2.1)) (rest := st) (g := F0 m pc ls ((av.map (aw_v G.2.2.2.1)).reverse ++ .ref (G.2.2.2.1 + 0) :: st)) (H := H) (locs := locs) (cells := kc) (slots := ks) ⟨hx, hb, hml, hown, hts⟩ hM ⟨hcB, hts _ hinst, hts _ hsel⟩ ⟨aw_blind, hrec, hPc⟩ rfl (by rw [List.length_map]; exact hlen) hls rfl (by show 2 * 0 + _ ≤ 8; omega) hd ⟨by omega, by omega⟩ (p := p) (l := l) (e := e) (R := room_1) (s := s) (m := m) (args := #[Value.ref b]) (below := below) (meth := meth) (c := c)
  have fr : ∀ q, aw_A G.2.2.2.1 sh.length G.2.2.2.2 q → s.heap.size ≤ q := fun q hq => Nat.le_trans hb1 hq.1
  refine lw_callR (A := fun q : Nat => s.heap.size ≤ q) (G := G) (E := (r, sh, σ')) hrun hS (fun q _ h => fr q h) fr (fun H1 locs1 hP1 hS1 hk1 => ?_)
  have hk := k H1 locs1 hP1 hS1 (fun q hq hn => hk1 q hq (fun z => hn ⟨z.1, z.2.elim id (fun w => absurd w hal)⟩))
  rw [hz.1, hz.2]
  exact hk

/-! ===== A TABLE OF ROWS: multianewarray of two dimensions of ints ===== -/
/-- the table, as far as its first i rows are made; a row -/
def mq_o (cA : ClassId) (N b i : Nat) : Cell := arrV cA N (fun j => if j < i then .ref (b + 1 + j) else .null)
def mq_i (cI : ClassId) (M : Nat) : Cell := arrV cI M (fun _ => .int 0)
def mq (cA cI : ClassId) (N M : Nat) (s : State) : Nat → State
  | 0 => s.pushCell (mq_o cA N s.heap.size 0)
  | i + 1 => ((mq cA cI N M s i).pushCell (mq_i cI M)).setCell s.heap.size (mq_o cA N s.heap.size (i + 1))
theorem mq_st {cA : ClassId} {N b i : Nat} : (mq_o cA N b i).setSlot i (.ref (b + 1 + i)) = mq_o cA N b (i + 1) := by
  unfold mq_o
  rw [arrV_store]
  refine congrArg (arrV cA N) (funext fun j => ?_)
  unfold updV
  by_cases h : j = i
  · rw [if_pos h, if_pos (by omega), h]
  · rw [if_neg h]
    show (if j < i then _ else _) = (if j < i + 1 then _ else _)
    by_cases h2 : j < i
    · rw [if_pos h2, if_pos (by omega)]
    · rw [if_neg h2, if_neg (by omega)]
theorem mq_all {cA cI : ClassId} {N M : Nat} {s : State} : ∀ i, (mq cA cI N M s i).heap.size = s.heap.size + 1 + i ∧ (mq cA cI N M s i).heap[s.heap.size]? = some (mq_o cA N s.heap.size i) ∧ (mq cA cI N M s i).vm = s.vm ∧ (mq cA cI N M s i).slotsUsed = s.slotsUsed + N + i * M ∧ (∀ a, a < s.heap.size → (mq cA cI N M s i).heap[a]? = s.heap[a]?) ∧ (∀ j, j < i → (mq cA cI N M s i).heap[s.heap.size + 1 + j]? = some (mq_i cI M)) := by
  intro i
  induction i with
  | zero =>
    refine ⟨by show (s.heap.push _).size = _; rw [Array.size_push], by show (s.heap.push _)[_]? = _; rw [Array.getElem?_push_size], rfl, ?_, fun a ha => ?_, fun j hj => absurd hj (Nat.not_lt_zero _)⟩
    · simp [mq, mq_o, arrV_size]
    · show (s.heap.push _)[a]? = _
      rw [Array.getElem?_push, if_neg (Nat.ne_of_lt ha)]
  | succ i ih =>
    obtain ⟨h1, h2, h3, h4, h5, h6⟩ := ih
    have z : ((mq cA cI N M s i).pushCell (mq_i cI M)).heap.size = s.heap.size + 1 + i + 1 := by show ((mq cA cI N M s i).heap.push _).size = _; rw [Array.size_push, h1]
    refine ⟨?_, ?_, ?_, ?_, fun a ha => ?_, fun j hj => ?_⟩
    · show (State.setCell _ _ _).heap.size = _
      rw [size_setCell, z]; omega
    · have hlt : s.heap.size < ((mq cA cI N M s i).pushCell (mq_i cI M)).heap.size := by rw [z]; omega
      exact heapAt_setCell_self _ hlt
    · exact h3
    · simp [mq, h4, mq_i, arrV_size, Nat.succ_mul]; omega
    · refine (heapAt_setCell_ne _ (show s.heap.size ≠ a by omega)).trans ?_
      show ((mq cA cI N M s i).heap.push _)[a]? = _
      rw [Array.getElem?_push, if_neg (by omega)]
      exact h5 a ha
    · refine (heapAt_setCell_ne _ (show s.heap.size ≠ s.heap.size + 1 + j by omega)).trans ?_
      show ((mq cA cI N M s i).heap.push _)[_]? = _
      rw [Array.getElem?_push]
      by_cases e : s.heap.size + 1 + j = (mq cA cI N M s i).heap.size
      · rw [if_pos e]
      · rw [if_neg e]
        exact h6 j (by omega)
theorem mq_top {cA cI : ClassId} {N M : Nat} {s : State} {f : JFrame} : ∀ i, mq cA cI N M (s.setTop f) i = (mq cA cI N M s i).setTop f := by
  intro i
  induction i with
  | zero => rfl
  | succ i ih =>
    show ((mq cA cI N M (s.setTop f) i).pushCell _).setCell _ _ = _
    rw [ih]
    rfl
theorem mq_stand {p : Program} {l : Launch} {e : Env} {R : Room} {s : State} {m : MethodId} {args : Array Value} {below : List Frame} {meth : Method} {c : Code} {T : State} {locs : List Loc} {cells slots : Nat} (X : Stand p l e R s m args below meth c T locs cells slots) {cA cI : ClassId} {N M : Nat} : ∀ i, ∃ L : List Loc, (∀ q ∈ L, q.base = T.heap.size) ∧ Stand p l e R s m args below meth c (mq cA cI N M T i) (locs ++ L) (cells + 1 + i) (slots + N + i * M) := by
  intro i
  induction i with
  | zero =>
    refine ⟨[], fun q hq => absurd hq List.not_mem_nil, ?_⟩
    have h := X.pushed (mq_o cA N T.heap.size 0)
    have e : (mq_o cA N T.heap.size 0).slots.size = N := arrV_size _ _ _
    rw [e] at h
    rw [List.append_nil, Nat.zero_mul]
    exact h
  | succ i ih =>
    obtain ⟨L, hL, X1⟩ := ih
    obtain ⟨h1, h2, -⟩ := mq_all (cA := cA) (cI := cI) (N := N) (M := M) (s := T) i
    have X2 := X1.pushed (mq_i cI M)
    have e : (mq_i cI M).slots.size = M := arrV_size _ _ _
    rw [e] at X2
    have hc : ((mq cA cI N M T i).pushCell (mq_i cI M)).heap[T.heap.size]? = some (mq_o cA N T.heap.size i) := by
      show ((mq cA cI N M T i).heap.push _)[_]? = _
      rw [Array.getElem?_push, if_neg (by omega)]
      exact h2
    have X3 := X2.stored hc i (.ref (T.heap.size + 1 + i))
    rw [mq_st] at X3
    refine ⟨L ++ [⟨T.heap.size, i⟩], fun q hq => ?_, ?_⟩
    · rcases List.mem_append.mp hq with h | h
      · exact hL q h
      · rw [List.mem_singleton.mp h]
    · rw [← List.append_assoc, Nat.succ_mul, show slots + N + (i * M + M) = slots + N + i * M + M by omega]
      exact X3
/-- an array of a known class, its places alike -/
theorem mq_new {E : CtlPost} {e : Env} {d : Bool} {acts : List Action} {s : State} {cA comp : ClassId} {k : Class} {t : FieldType} {N : Nat} {v : Value} (hk : s.vm.classes[cA]? = some k) (hkind : k.kind = .array comp t) (h1 : ¬ N > e.platform.arrayLengthLimit) (h2 : ¬ N * componentBytes t > e.platform.maxHeapBytes) (hf : fits t v = true) (hv : v.isDefault = true) (h3 : s.heap.size < e.platform.maxCells) (h4 : s.slotsUsed + N ≤ e.platform.maxSlots) {Q : Addr → Pre} (hq : Q s.heap.size d acts (s.pushCell (arrV cA N (fun _ => v)))) : wp (Jvm.newArray cA N v) Q E e d acts s := by
  rw [← arrV_new] at hq
  have g1 : ∀ i w, (Array.replicate N v)[i]? = some w → s.fitsSlot cA .none i w = true := by
    intro i w hw
    rw [Array.getElem?_replicate] at hw
    by_cases hi : i < N
    · rw [if_pos hi] at hw
      cases hw
      simp [State.fitsSlot, State.slotType?, hk, hkind, hf]
    · rw [if_neg hi] at hw; cases hw
  have g2 : allocActs (Array.replicate N v) s.heap.size acts = acts := by
    unfold allocActs
    rw [if_pos (by rw [Array.all_replicate]; by_cases z : N = 0 <;> simp [z, hv])]
  simp only [Jvm.newArray, Jvm.arrayFits, wp_bind', W.ask, W.ite, h1, if_false, wp_pure', W.theClass, hk, hkind, h2, W.alloc, W.stop, Option.some.injEq, exists_eq_left', Array.size_replicate, g2]
  rw [if_neg (by omega)]
  exact ⟨h3, h4, g1, hq⟩
/-- the model's making of a table -/
theorem mq_make {E : CtlPost} {e : Env} {d : Bool} {acts : List Action} {s : State} {cA cI cc : ClassId} {kA kI : Class} {N M : Nat} (hA : s.vm.classes[cA]? = some kA) (hAk : kA.kind = .array cI (.array .int)) (hI : s.vm.classes[cI]? = some kI) (hIk : kI.kind = .array cc .int) (hN : N < 67108864) (hM : M < 67108864) (h1 : ¬ N > e.platform.arrayLengthLimit) (h2 : ¬ N * 4 > e.platform.maxHeapBytes) (h3 : ¬ M > e.platform.arrayLengthLimit) (h4 : ¬ M * 4 > e.platform.maxHeapBytes) (h5 : s.heap.size + 1 + N ≤ e.platform.maxCells) (h6 : s.slotsUsed + N + N * M ≤ e.platform.maxSlots) {Q : Addr → Pre} (hq : ∀ d' acts', Q s.heap.size d' acts' (mq cA cI N M s N)) : wp (multianewarray.make cA [nI N, nI M]) Q E e d acts s := by
  have n1 : ¬ nI N < 0 := nI_pos (by omega)
  have n2 : ¬ nI M < 0 := nI_pos (by omega)
  have m1 : (nI N).toNatClampNeg = N := nI_clamp (by omega)
  have m2 : (nI M).toNatClampNeg = M := nI_clamp (by omega)
  have hfind : ([nI M].find? (· < 0)) = none := by simp [n2]
  rw [multianewarray.make]
  simp only [wp_bind', W.ite, n1, if_false, wp_pure', W.theClass, hA, hAk, Option.some.injEq, exists_eq_left', m1]
  refine mq_new hA hAk h1 h2 rfl rfl (by omega) (by have := Nat.zero_le (N * M); omega) ?_
  simp only [hfind]
  rw [ite_self, wp_bind', Std.Legacy.Range.forIn_eq_forIn_range']
  have hsz : ([:N] : Std.Legacy.Range).size = N := by simp [Std.Legacy.Range.size]
  rw [hsz]
  show wp (forIn (List.range' 0 N 1) PUnit.unit _) _ E e d acts _
  refine wp_forIn_inv (fun r u => ∃ i, i + r.length = N ∧ r = List.range' i r.length ∧ u = mq cA cI N M s i) _ _ ⟨0, by rw [List.length_range', Nat.zero_add], by rw [List.length_range'], ?_⟩ ?_ ?_
  · show s.pushCell _ = s.pushCell _
    unfold mq_o
    refine congrArg (fun z => s.pushCell (arrV cA N z)) (funext fun j => ?_)
    rw [if_neg (Nat.not_lt_zero _)]
  · rintro x r u d' acts' Q' ⟨i, hi, hr, rfl⟩ hnext
    rw [List.length_cons] at hi hr
    rw [List.range'_succ] at hr
    obtain ⟨rfl, hr⟩ := List.cons.inj hr
    obtain ⟨f1, f2, f3, f4, -, -⟩ := mq_all (cA := cA) (cI := cI) (N := N) (M := M) (s := s) x
    have hmul : x * M + M ≤ N * M := by
      have := Nat.mul_le_mul_right M (show x + 1 ≤ N by omega)
      rw [Nat.succ_mul] at this
      exact this
    simp only [wp_bind']
    rw [multianewarray.make]
    simp only [wp_bind', W.ite, n2, if_false, wp_pure', W.theClass, f3, hI, hIk, Option.some.injEq, exists_eq_left', m2]
    refine mq_new (by rw [f3]; exact hI) hIk h3 h4 rfl rfl (by rw [f1]; omega) (by rw [f4]; omega) ?_
    simp only [wp_bind', W.writeLoc, wp_pure']
    refine ⟨mq_o cA N s.heap.size x, ?_, (fun z => by cases z), ?_, ?_, hnext _ _ _ ⟨x + 1, by omega, hr, ?_⟩⟩
    · show ((mq cA cI N M s x).heap.push _)[_]? = _
      rw [Array.getElem?_push, if_neg (by omega)]
      exact f2
    · rw [show (mq_o cA N s.heap.size x).slots.size = N from arrV_size _ _ _]; omega
    · show State.fitsSlot _ cA .none x _ = true
      simp [State.fitsSlot, State.slotType?, f3, hA, hAk, fits]
    · rw [f1, mq_st]
      rfl
  · rintro u d' acts' ⟨i, hi, -, rfl⟩
    have e : i = N := by simpa using hi
    subst e
    simp only [wp_pure']
    exact hq _ _
theorem mq_W {p : Program} {l : Launch} {e : Env} {R : Room} {s : State} {m : MethodId} {args : Array Value} {below : List Frame} {meth : Method} {c : Code} {H : Heap} {locs : List Loc} {cells slots : Nat} {Q : State → Prop} {cc : ByteArray} (hexec : p.tables.exec = Jvm.exec) (hb : c.code = cc) {own : String} {index N M : Nat} {a0 a1 : Array Value} (hown : s.vm.findClass own = some m.cls) (hcl : (Cond.classLink own index ("[" ++ (FieldType.array .int).toString)).before args s = true) (hAO : (Cond.arrayOver (.array .int)).before a0 s = true) (hAC : (Cond.arrayClass .int).before a1 s = true) {g : JFrame} (hg : g.method = m) (hdg : decode cc g.pc = .ok (.multianewarray index 2, 4)) {rest : List Value} (hstack : g.stack = .int (nI M) :: .int (nI N) :: rest) (hN : N < 67108864) (hM : M < 67108864) (hc : cells + (1 + N) ≤ R.cells) (hs : slots + (N + N * M) ≤ R.slots)
    (k : ∀ (H1 : Heap) (L : List Loc) (cA cI : ClassId), s.vm.findClass ("[" ++ (FieldType.array .int).toString) = some cA → s.vm.findClass ("[" ++ FieldType.int.toString) = some cI → H1.size = H.size + 1 + N → (∀ q, q < H.size → H1[q]? = H[q]?) → H1[H.size]? = some (mq_o cA N H.size N) → (∀ j, j < N → H1[H.size + 1 + j]? = some (mq_i cI M)) → (∀ q ∈ L, q.base = H.size) → W p l e R s m args below meth c H1 (locs ++ L) (cells + 1 + N) (slots + N + N * M) Q { g with pc := g.pc + 4, stack := .ref H.size :: rest }) : W p l e R s m args below meth c H locs cells slots Q g := by
  intro T hT X
  subst hT; subst hb; subst hg
  have hpl : e.platform.magicAccessors = ({} : Platform).magicAccessors := by rw [X.admits.platform]
  obtain ⟨cI, cA, kA, hcI, -, hkA, hkindA, hnameA⟩ := arrayOverA_spec hAO
  obtain ⟨cI', kI, cq, hcI', hkI, hkindI⟩ := Cond.arrayClass_spec hAC
  have eI : cI' = cI := Option.some.inj (hcI'.symm.trans hcI)
  subst eI
  obtain ⟨c0, hfc0, hlk⟩ := Cond.classLink_spec hown hcl e.platform hpl
  cases hnameA.symm.trans hfc0
  obtain ⟨hg₁, hwarm₁, hready₁⟩ := State.classEntry (e := e) X.warmed hlk
  generalize T.vm.noted g.method.cls index (.cls cA) = vm₁ at hg₁ hwarm₁ hready₁
  have hal : s.vm.Alike vm₁ := hwarm₁.alike
  obtain ⟨kA₁, hkA₁, heA⟩ := hal.2.2 _ _ hkA
  obtain ⟨kI₁, hkI₁, heI⟩ := hal.2.2 _ _ hkI
  have hkindA₁ : kA₁.kind = .array cI' (.array .int) := by rw [heA]; exact hkindA
  have hkindI₁ : kI₁.kind = .array cq .int := by rw [heI]; exact hkindI
  have X₁ := X.noted hwarm₁
  obtain ⟨hr1, hr2⟩ := X.roomAbove hc hs
  obtain ⟨L, hL, X₂⟩ := mq_stand X₁ (cA := cA) (cI := cI') (N := N) (M := M) N
  obtain ⟨f1, f2, -, -, f5, f6⟩ := mq_all (cA := cA) (cI := cI') (N := N) (M := M) (s := T.setVm vm₁) N
  obtain ⟨t, u1, u2⟩ := k _ L cA cI' hnameA hcI' f1 f5 f2 f6 hL (mq cA cI' N M (T.setVm vm₁) N) rfl X₂
  refine ⟨t, ?_, u2⟩
  have hl1 : ¬ N > e.platform.arrayLengthLimit := by rw [Launch.admits_arrayLengthLimit X.admits]; omega
  have hl2 : ¬ N * 4 > e.platform.maxHeapBytes := by rw [Launch.admits_maxHeapBytes X.admits]; omega
  have hl3 : ¬ M > e.platform.arrayLengthLimit := by rw [Launch.admits_arrayLengthLimit X.admits]; omega
  have hl4 : ¬ M * 4 > e.platform.maxHeapBytes := by rw [Launch.admits_maxHeapBytes X.admits]; omega
  jvm_step X.here [hexec, hdg]
  simp only [multianewarray.sem, wp_bind', W.resolveClassAt_links (State.method?_setTop g X.here.top) hg₁]
  rw [W.popN, if_neg (by decide)]
  refine ⟨g, State.topJava?_setTop' (s := T.setVm vm₁) g X.here.top, [.int (nI N), .int (nI M)], rest, rfl, hstack, ?_⟩
  simp only [List.mapM_cons, List.mapM_nil, wp_bind', wp_pure']
  refine mq_make (kA := kA₁) (kI := kI₁) (cI := cI') (cc := cq) hkA₁ hkindA₁ hkI₁ hkindI₁ hN hM hl1 hl2 hl3 hl4 (by show T.heap.size + 1 + N ≤ _; omega) (by show T.slotsUsed + N + N * M ≤ _; omega) (fun d' acts' => ?_)
  have eS : ((T.setTop g).setVm vm₁).setTop { g with stack := rest } = (T.setVm vm₁).setTop { g with stack := rest } := by
    show ((T.setVm vm₁).setTop g).setTop _ = _
    rw [State.setTop_setTop]
  rw [eS, mq_top]
  simp only [wp_bind', W.mark, W.pushRef, State.topJava?_setTop' _ X₂.here.top, Option.some.injEq, exists_eq_left', State.setTop_setTop, State.heap_setTop]
  intro acts
  simp [jvm, X₂.here.top]
  exact u1
theorem aw_w_apps {b : Nat} {dA : Nat → ClassId} {sh L : List aw_H} {σ : aw_S} : aw_w b dA (sh ++ L) σ = aw_w b dA sh σ ++ L.mapIdx (fun i x => (b + (i + sh.length), aw_ce b dA σ (i + sh.length) x)) := by
  unfold aw_w
  exact List.mapIdx_append
theorem mq_name : "[" ++ (FieldType.array .int).toString = "[[I" := by decide +kernel
/-- a new table of N rows of M ints -/
theorem aw_multi {l : Launch} {M : aw_M} {G : aw_G} {B : aw_B} {E : aw_E} {pc : Nat} {loc : List (Nat × Value)} {st : List Value} {sh : List aw_H} {σ : aw_S} {kc ks idx N n : Nat} (hal : G.2.2.2.2) (hcl : Cond.classLink M.1 idx "[[I" ∈ wsL_law) (harr : Cond.arrayClass .int ∈ wsL_law) (hN : N < 67108864) (hn : n < 67108864) (h0 : ∀ c, sh.length ≤ c → ∀ j, σ.1 c j = 0 ∧ σ.2.1 c j = 0) (hr : kc + (1 + N) ≤ B.2.2.1 ∧ ks + (N + N * n) ≤ B.2.2.2) (hd : decode M.2.1 pc = .ok (.multianewarray idx 2, 4))
    (k : aw_W l M G B E (pc + 4) loc (.ref sh.length :: st) (sh ++ (.inr (4, N, fun j => if j < N then some (sh.length + 1 + j) else none) :: List.replicate N (.inr (0, n, aw_no)))) σ (kc + 1 + N) (ks + N + N * n)) : aw_W l M G B E pc loc (.int (nI n) :: .int (nI N) :: st) sh σ kc ks := by
  intro p e R s m args below meth c A H locs ls C P L
  refine aw_sz P (fun hz => ?_)
  have hz := hz hal
  have hroomR := C.2.2.2.2.2.2.2.1
  have hK := C.2.2.2.2.2.2.2.2.1
  refine mq_W C.1 C.2.1 C.2.2.2.2.1 (by rw [mq_name]; exact C.2.2.2.2.2.2.1 _ hcl) C.2.2.2.2.2.2.2.2.2.2.2.2 (C.2.2.2.2.2.2.1 _ harr) rfl hd rfl hN hn (Nat.le_trans hr.1 hroomR.2.2.1) (Nat.le_trans hr.2 hroomR.2.2.2) (fun H1 L1 cA cI nA nJ z1 o1 c1 c2 hL1 => ?_)
  have eA : cA = G.2.2.1 4 := Option.some.inj (nA.symm.trans (hK.2 4 _ rfl).2)
  have eI : cI = G.2.2.1 0 := Option.some.inj (nJ.symm.trans (hK.2 0 _ rfl).2)
  obtain ⟨h1, h2, h3⟩ := P.2.2.2 hal
  have hp : aw_Hp G A s H1 (locs ++ L1) (sh ++ (.inr (4, N, fun j => if j < N then some (sh.length + 1 + j) else none) :: List.replicate N (.inr (0, n, aw_no)))) σ (kc + 1 + N) := by
    refine ⟨?_, ⟨Nat.le_trans P.2.1.1 (by omega), fun q p1 p2 => (o1 q (Nat.lt_of_lt_of_le p1 P.2.1.1)).trans (P.2.1.2.1 q p1 p2), fun q hq => ?_⟩, fun k hk => h3 _ (Nat.le_add_right _ _), fun _ => ⟨?_, h2, h3⟩⟩
    · rw [aw_w_apps]
      refine (P.1.kept (fun k q hq => o1 q.1 ((P.1 k q hq).lt))).app (fun k q hq => ?_)
      rw [List.getElem?_mapIdx] at hq
      cases k with
      | zero =>
        cases hq
        show va_at (G.1, G.2.1) vwCl (G.2.2.2.1 + (0 + sh.length), aw_ce G.2.2.2.1 G.2.2.1 σ (0 + sh.length) (.inr (4, N, fun j => if j < N then some (sh.length + 1 + j) else none))) H1
        rw [aw_ar_q (kd := 4) (by decide), Nat.zero_add, ← hz]
        show H1[H.size]? = some (vp_cell _ (N, _))
        rw [vp_cell_q, c1, ← eA]
        refine congrArg (fun z => some (arrV cA N z)) (funext fun j => ?_)
        by_cases hj : j < N
        · rw [if_pos hj, if_pos hj]
          show Value.ref (H.size + 1 + j) = Value.ref (G.2.2.2.1 + (sh.length + 1 + j))
          rw [hz, Nat.add_assoc, Nat.add_assoc, Nat.add_assoc]
        · rw [if_neg hj, if_neg hj]
          rfl
      | succ k =>
        rw [List.getElem?_cons_succ, List.getElem?_replicate] at hq
        by_cases hk : k < N
        · rw [if_pos hk] at hq
          cases hq
          show va_at (G.1, G.2.1) vwCl (G.2.2.2.1 + (k + 1 + sh.length), aw_ce G.2.2.2.1 G.2.2.1 σ (k + 1 + sh.length) (.inr (0, n, aw_no))) H1
          rw [aw_ar_i (kd := 0) (by decide), show G.2.2.2.1 + (k + 1 + sh.length) = H.size + 1 + k by omega]
          show H1[H.size + 1 + k]? = some (vp_cell _ (n, .inl (σ.1 (k + 1 + sh.length))))
          have hi : (fun j => Value.int (σ.1 (k + 1 + sh.length) j)) = fun _ => Value.int 0 := funext fun j => by rw [(h0 _ (by omega) j).1]
          rw [vp_cell_i, hi, c2 k hk, ← eI]
          rfl
        · rw [if_neg hk] at hq
          cases hq
    · rcases List.mem_append.mp hq with h | h
      · exact P.2.1.2.2 q h
      · rw [hL1 q h, hz]; exact h3 _ (Nat.le_add_right _ _)
    · rw [List.length_append, List.length_cons, List.length_replicate]; omega
  have hk := k p e R s m args below meth c A H1 (locs ++ L1) ls C hp L
  rw [List.map_cons, show aw_v G.2.2.2.1 (.ref sh.length) = .ref H.size from by rw [hz]; rfl] at hk
  exact hk


/-! ===== THE LAYER: a world of numbered cells; what a cell is (shape), what it holds (state) ===== -/
/-- the state: ints by cell and place; longs; references that move -/
abbrev aw_S : Type := (Nat → Nat → Int32) × (Nat → Nat → Int64) × (Nat → Nat → Option Nat)
/-- a field: inl 0 an int, inl 1 a long, inl 2 a reference that moves, inl 3 null; inr k: the cell k -/
abbrev aw_F : Type := Nat ⊕ Nat
/-- a cell: an object (class, fields), or an array (kind, length, references): 0 int, 1 byte, 2 boolean, 3 long, 4 int[], 5 Text -/
abbrev aw_H : Type := (Nat × List aw_F) ⊕ (Nat × Nat × (Nat → Option Nat))
def aw_no : Nat → Option Nat := fun _ => none
def aw_rf (b : Nat) (r : Option Nat) : Value := va_rf (r.map (fun k => b + k))
def aw_fv (b : Nat) (σ : aw_S) (k j : Nat) : aw_F → Value
  | .inl 0 => .int (σ.1 k j)
  | .inl 1 => .long (σ.2.1 k j)
  | .inl 2 => aw_rf b (σ.2.2 k j)
  | .inl _ => .null
  | .inr r => .ref (b + r)
def aw_ar (b : Nat) (σ : aw_S) (k : Nat) (kd n : Nat) (f : Nat → Option Nat) : vp_A :=
  (n, if kd < 3 then .inl (σ.1 k) else if kd = 3 then .inr (.inl (σ.2.1 k)) else .inr (.inr (.inr (.inr (fun j => (f j).map (fun x => b + x))))))
def aw_ce (b : Nat) (dA : Nat → ClassId) (σ : aw_S) (k : Nat) : aw_H → va_E
  | .inl q => .inr (q.1, q.2.mapIdx (fun j f => aw_fv b σ k j f))
  | .inr q => .inl (dA q.1, aw_ar b σ k q.1 q.2.1 q.2.2)
def aw_w (b : Nat) (dA : Nat → ClassId) (sh : List aw_H) (σ : aw_S) : va_W := sh.mapIdx (fun k s => (b + k, aw_ce b dA σ k s))
def aw_ty (dA : Nat → ClassId) : List (ClassId × FieldType) := [(dA 0, .int), (dA 1, .byte), (dA 2, .boolean), (dA 3, .long), (dA 4, .array .int), (dA 5, .object "LateMover$Text")]
def aw_v (b : Nat) : Value → Value
  | .ref k => .ref (b + k)
  | v => v
def aw_l (b : Nat) (q : Nat × Value) : Nat × Value := (q.1, aw_v b q.2)
def aw_sI (σ : aw_S) (o j : Nat) (v : Int32) : aw_S := (fun a i => if a = o ∧ i = j then v else σ.1 a i, σ.2)
def aw_sL (σ : aw_S) (o j : Nat) (v : Int64) : aw_S := (σ.1, fun a i => if a = o ∧ i = j then v else σ.2.1 a i, σ.2.2)
def aw_sR (σ : aw_S) (o j : Nat) (v : Option Nat) : aw_S := (σ.1, σ.2.1, fun a i => if a = o ∧ i = j then v else σ.2.2 a i)
theorem aw_catv (b : Nat) (v : Value) : (aw_v b v).category = v.category := by cases v <;> rfl
theorem aw_w_get {b : Nat} {dA : Nat → ClassId} {sh : List aw_H} {σ : aw_S} {k : Nat} {s : aw_H} (h : sh[k]? = some s) : (aw_w b dA sh σ)[k]? = some (b + k, aw_ce b dA σ k s) := by
  unfold aw_w; rw [List.getElem?_mapIdx, h]; rfl
theorem aw_w_len {b : Nat} {dA : Nat → ClassId} {sh : List aw_H} {σ : aw_S} : (aw_w b dA sh σ).length = sh.length := by unfold aw_w; simp
theorem aw_w_D {b : Nat} {dA : Nat → ClassId} {sh : List aw_H} {σ : aw_S} {A : Nat → Prop} (hA : ∀ k, k < sh.length → A (b + k)) : va_D A (aw_w b dA sh σ) := by
  refine ⟨fun i j p q hp hq e => ?_, fun k q hk => ?_⟩
  · unfold aw_w at hp hq
    rw [List.getElem?_mapIdx] at hp hq
    cases hi : sh[i]? with
    | none => rw [hi] at hp; cases hp
    | some x =>
      cases hj : sh[j]? with
      | none => rw [hj] at hq; cases hq
      | some y =>
        rw [hi] at hp; rw [hj] at hq
        cases hp; cases hq
        have e : b + i = b + j := e
        omega
  · unfold aw_w at hk
    rw [List.getElem?_mapIdx] at hk
    cases hi : sh[k]? with
    | none => rw [hi] at hk; cases hk
    | some x =>
      rw [hi] at hk
      cases hk
      exact hA k (List.getElem?_eq_some_iff.mp hi).1
/-- a cell alone has moved -/
theorem aw_w_set {b : Nat} {dA : Nat → ClassId} {sh sh' : List aw_H} {σ σ' : aw_S} {o : Nat} {x : Nat × va_E} (hl : sh'.length = sh.length) (hx : o < sh.length → (aw_w b dA sh' σ')[o]? = some x) (hs : ∀ k, k ≠ o → sh'[k]? = sh[k]?)
    (hr : ∀ k, k ≠ o → σ'.1 k = σ.1 k ∧ σ'.2.1 k = σ.2.1 k ∧ σ'.2.2 k = σ.2.2 k) : (aw_w b dA sh σ).set o x = aw_w b dA sh' σ' := by
  apply List.ext_getElem?
  intro k
  rw [List.getElem?_set]
  by_cases hk : o = k
  · subst hk
    simp only [if_true]
    rw [aw_w_len]
    by_cases ho : o < sh.length
    · rw [if_pos ho]; exact (hx ho).symm
    · rw [if_neg ho]
      symm
      rw [List.getElem?_eq_none_iff, aw_w_len, hl]
      omega
  · rw [if_neg hk]
    have hk' : k ≠ o := fun e => hk e.symm
    unfold aw_w
    rw [List.getElem?_mapIdx, List.getElem?_mapIdx, hs k hk']
    cases h : sh[k]? with
    | none => rfl
    | some s =>
      obtain ⟨r1, r2, r3⟩ := hr k hk'
      show some (b + k, aw_ce b dA σ k s) = some (b + k, aw_ce b dA σ' k s)
      refine congrArg (fun z => some (b + k, z)) ?_
      cases s with
      | inl q =>
        unfold aw_ce
        refine congrArg (fun z => Sum.inr (q.1, z)) ?_
        refine congrArg (fun z => List.mapIdx z q.2) ?_
        funext j f
        unfold aw_fv
        rw [r1, r2, r3]
      | inr q =>
        unfold aw_ce aw_ar
        rw [r1, r2]

theorem aw_mapset {fs : List aw_F} {g g' : Nat → aw_F → Value} {j : Nat} {f : aw_F} {v : Value} (hf : fs[j]? = some f) (h1 : g' j f = v) (h2 : ∀ i f, i ≠ j → g' i f = g i f) : fs.mapIdx g' = (fs.mapIdx g).set j v := by
  have hj := (List.getElem?_eq_some_iff.mp hf).1
  apply List.ext_getElem?
  intro i
  rw [List.getElem?_mapIdx, List.getElem?_set]
  by_cases hi : j = i
  · subst hi
    rw [if_pos rfl, hf, List.length_mapIdx, if_pos hj]
    show some (g' j f) = _
    rw [h1]
  · rw [if_neg hi, List.getElem?_mapIdx]
    cases fs[i]? with
    | none => rfl
    | some x => exact congrArg some (h2 i x (fun e => hi e.symm))
theorem aw_mapset2 {fs : List aw_F} {g : Nat → aw_F → Value} {j : Nat} {f' : aw_F} {v : Value} (hj : j < fs.length) (h1 : g j f' = v) : (fs.set j f').mapIdx g = (fs.mapIdx g).set j v := by
  apply List.ext_getElem?
  intro i
  rw [List.getElem?_mapIdx, List.getElem?_set, List.getElem?_set]
  by_cases hi : j = i
  · subst hi
    rw [if_pos rfl, if_pos rfl, List.length_mapIdx, if_pos hj, if_pos hj]
    show some (g j f') = _
    rw [h1]
  · rw [if_neg hi, if_neg hi, List.getElem?_mapIdx]
theorem aw_sI_ne {σ : aw_S} {o j : Nat} {v : Int32} : ∀ k, k ≠ o → (aw_sI σ o j v).1 k = σ.1 k ∧ (aw_sI σ o j v).2.1 k = σ.2.1 k ∧ (aw_sI σ o j v).2.2 k = σ.2.2 k := fun k hk => ⟨funext fun i => if_neg (fun e => hk e.1), rfl, rfl⟩
theorem aw_sL_ne {σ : aw_S} {o j : Nat} {v : Int64} : ∀ k, k ≠ o → (aw_sL σ o j v).1 k = σ.1 k ∧ (aw_sL σ o j v).2.1 k = σ.2.1 k ∧ (aw_sL σ o j v).2.2 k = σ.2.2 k := fun k hk => ⟨rfl, funext fun i => if_neg (fun e => hk e.1), rfl⟩
theorem aw_sR_ne {σ : aw_S} {o j : Nat} {v : Option Nat} : ∀ k, k ≠ o → (aw_sR σ o j v).1 k = σ.1 k ∧ (aw_sR σ o j v).2.1 k = σ.2.1 k ∧ (aw_sR σ o j v).2.2 k = σ.2.2 k := fun k hk => ⟨rfl, rfl, funext fun i => if_neg (fun e => hk e.1)⟩
theorem aw_w_fI {b : Nat} {dA : Nat → ClassId} {sh : List aw_H} {σ : aw_S} {o ci j : Nat} {fs : List aw_F} {v : Int32} (hs : sh[o]? = some (.inl (ci, fs))) (hf : fs[j]? = some (.inl 0)) :
    (aw_w b dA sh σ).set o (b + o, .inr (ci, (fs.mapIdx (fun j f => aw_fv b σ o j f)).set j (.int v))) = aw_w b dA sh (aw_sI σ o j v) := by
  refine aw_w_set rfl (fun _ => ?_) (fun _ _ => rfl) aw_sI_ne
  rw [aw_w_get hs]
  refine congrArg (fun z => some (b + o, Sum.inr (ci, z))) ?_
  refine aw_mapset hf (congrArg Value.int (if_pos ⟨rfl, rfl⟩)) (fun i f hi => ?_)
  unfold aw_fv
  rw [show (aw_sI σ o j v).1 o i = σ.1 o i from if_neg (fun e => hi e.2)]
  rfl
theorem aw_w_fL {b : Nat} {dA : Nat → ClassId} {sh : List aw_H} {σ : aw_S} {o ci j : Nat} {fs : List aw_F} {v : Int64} (hs : sh[o]? = some (.inl (ci, fs))) (hf : fs[j]? = some (.inl 1)) :
    (aw_w b dA sh σ).set o (b + o, .inr (ci, (fs.mapIdx (fun j f => aw_fv b σ o j f)).set j (.long v))) = aw_w b dA sh (aw_sL σ o j v) := by
  refine aw_w_set rfl (fun _ => ?_) (fun _ _ => rfl) aw_sL_ne
  rw [aw_w_get hs]
  refine congrArg (fun z => some (b + o, Sum.inr (ci, z))) ?_
  refine aw_mapset hf (congrArg Value.long (if_pos ⟨rfl, rfl⟩)) (fun i f hi => ?_)
  unfold aw_fv
  rw [show (aw_sL σ o j v).2.1 o i = σ.2.1 o i from if_neg (fun e => hi e.2)]
  rfl
theorem aw_w_fR {b : Nat} {dA : Nat → ClassId} {sh : List aw_H} {σ : aw_S} {o ci j : Nat} {fs : List aw_F} {v : Option Nat} (hs : sh[o]? = some (.inl (ci, fs))) (hf : fs[j]? = some (.inl 2)) :
    (aw_w b dA sh σ).set o (b + o, .inr (ci, (fs.mapIdx (fun j f => aw_fv b σ o j f)).set j (aw_rf b v))) = aw_w b dA sh (aw_sR σ o j v) := by
  refine aw_w_set rfl (fun _ => ?_) (fun _ _ => rfl) aw_sR_ne
  rw [aw_w_get hs]
  refine congrArg (fun z => some (b + o, Sum.inr (ci, z))) ?_
  refine aw_mapset hf (congrArg (aw_rf b) (if_pos ⟨rfl, rfl⟩)) (fun i f hi => ?_)
  unfold aw_fv
  rw [show (aw_sR σ o j v).2.2 o i = σ.2.2 o i from if_neg (fun e => hi e.2)]
  rfl
theorem aw_w_fC {b : Nat} {dA : Nat → ClassId} {sh : List aw_H} {σ : aw_S} {o ci j r : Nat} {fs : List aw_F} (hs : sh[o]? = some (.inl (ci, fs))) (hj : j < fs.length) :
    (aw_w b dA sh σ).set o (b + o, .inr (ci, (fs.mapIdx (fun j f => aw_fv b σ o j f)).set j (.ref (b + r)))) = aw_w b dA (sh.set o (.inl (ci, fs.set j (.inr r)))) σ := by
  have ho := (List.getElem?_eq_some_iff.mp hs).1
  refine aw_w_set (List.length_set ..) (fun _ => ?_) (fun k hk => List.getElem?_set_ne (fun e => hk e.symm)) (fun _ _ => ⟨rfl, rfl, rfl⟩)
  rw [aw_w_get (s := .inl (ci, fs.set j (.inr r))) (by rw [List.getElem?_set_self ho])]
  exact congrArg (fun z => some (b + o, Sum.inr (ci, z))) (aw_mapset2 hj rfl)
theorem aw_ar_i {b : Nat} {dA : Nat → ClassId} {σ : aw_S} {k kd n : Nat} {f : Nat → Option Nat} (h : kd < 3) : aw_ce b dA σ k (.inr (kd, n, f)) = .inl (dA kd, n, .inl (σ.1 k)) := by show Sum.inl (dA kd, (n, if kd < 3 then _ else _)) = _; rw [if_pos h]
theorem aw_ar_l {b : Nat} {dA : Nat → ClassId} {σ : aw_S} {k n : Nat} {f : Nat → Option Nat} : aw_ce b dA σ k (.inr (3, n, f)) = .inl (dA 3, n, .inr (.inl (σ.2.1 k))) := rfl
theorem aw_ar_q {b : Nat} {dA : Nat → ClassId} {σ : aw_S} {k kd n : Nat} {f : Nat → Option Nat} (h : 3 < kd) : aw_ce b dA σ k (.inr (kd, n, f)) = .inl (dA kd, n, .inr (.inr (.inr (.inr (fun j => (f j).map (fun x => b + x)))))) := by show Sum.inl (dA kd, (n, if kd < 3 then _ else if kd = 3 then _ else _)) = _; rw [if_neg (by omega), if_neg (by omega)]
theorem aw_w_aI {b : Nat} {dA : Nat → ClassId} {sh : List aw_H} {σ : aw_S} {o kd n : Nat} {f : Nat → Option Nat} {i : Nat} {v : Int32} (hs : sh[o]? = some (.inr (kd, n, f))) (hk : kd < 3) :
    (aw_w b dA sh σ).set o (b + o, .inl (dA kd, n, .inl (upd (σ.1 o) i v))) = aw_w b dA sh (aw_sI σ o i v) := by
  refine aw_w_set rfl (fun _ => ?_) (fun _ _ => rfl) aw_sI_ne
  rw [aw_w_get hs, aw_ar_i hk]
  refine congrArg (fun z => some (b + o, Sum.inl (dA kd, n, Sum.inl z))) (funext fun k => ?_)
  show (if o = o ∧ k = i then v else σ.1 o k) = if k = i then v else σ.1 o k
  by_cases h : k = i
  · rw [if_pos h, if_pos ⟨rfl, h⟩]
  · rw [if_neg h, if_neg (fun e => h e.2)]
theorem aw_w_aL {b : Nat} {dA : Nat → ClassId} {sh : List aw_H} {σ : aw_S} {o n : Nat} {f : Nat → Option Nat} {i : Nat} {v : Int64} (hs : sh[o]? = some (.inr (3, n, f))) :
    (aw_w b dA sh σ).set o (b + o, .inl (dA 3, n, .inr (.inl (vp_updL (σ.2.1 o) i v)))) = aw_w b dA sh (aw_sL σ o i v) := by
  refine aw_w_set rfl (fun _ => ?_) (fun _ _ => rfl) aw_sL_ne
  rw [aw_w_get hs, aw_ar_l]
  refine congrArg (fun z => some (b + o, Sum.inl (dA 3, n, Sum.inr (Sum.inl z)))) (funext fun k => ?_)
  show (if o = o ∧ k = i then v else σ.2.1 o k) = if k = i then v else σ.2.1 o k
  by_cases h : k = i
  · rw [if_pos h, if_pos ⟨rfl, h⟩]
  · rw [if_neg h, if_neg (fun e => h e.2)]
/-! ===== THE JUDGEMENT ===== -/
/-- a method: its class, code, locals, what it returns, whether it is a constructor -/
abbrev aw_M : Type := String × ByteArray × Nat × Option FieldType × Bool
/-- classes, their slots, array classes, the base, whether cells are made -/
abbrev aw_G : Type := (Nat → ClassId) × (Nat → Nat → Nat) × (Nat → ClassId) × Nat × Prop
/-- frames, locals, cells, slots -/
abbrev aw_B : Type := Nat × Nat × Nat × Nat
/-- how it ends: the answer, the shapes, the state -/
abbrev aw_E : Type := Option Value × List aw_H × aw_S
def aw_A (b n : Nat) (al : Prop) : Nat → Prop := fun q => b ≤ q ∧ (q < b + n ∨ al)
def aw_nest : List (String × Nat × MethodName × String) := [(RX11, 11, yX9_init, RX11), (RX11, 28, yX7_init, RX11), (RX7, 11, yX9_init, RX11), (RX7, 20, yX0_init, RX11), (RX11, 35, yX3_init, RX11), (RX3, 11, yX0_init, RX11), (RX11, 42, yX1_init, RX11), (RX1, 11, yX2_init, RX11), (RX11, 49, yX4_init, RX11), (RX11, 56, yX6_init, RX11), (RX11, 73, yX8_init, RX11), (RX11, 86, yX10_init, RX11), (RX11, 93, yX5_init, RX11), (RX3, 125, yX11_oneIf, RX11), (RX1, 141, yX11_oneIf, RX11), (RX6, 59, yX11_bitOf, RX11), (RX8, 91, yX11_bitOf, RX11), (RX8, 149, yX11_oneIf, RX11), (RX6, 87, yX11_oneIf, RX11), (RX5, 41, yX11_bitOf, RX11)]
/-- the array classes of references that there are: of Text, of int[] -/
def aw_AO (U : State) : Prop := va_AO "LateMover$Text" U ∧ (Cond.arrayOver (.array .int)).before #[] U = true
theorem aw_AO_int {u U : State} (hvm : u.vm.Alike U.vm) (h : (Cond.arrayOver (.array .int)).before #[] u = true) : (Cond.arrayOver (.array .int)).before #[] U = true := by
  obtain ⟨a, n, z, p1, p2, p3, p4, p5⟩ := arrayOverA_spec h
  obtain ⟨z', p3', p6⟩ := hvm.2.2 _ _ p3
  have e2 : (U.vm.classes.findIdx? fun (x : Class) => match x.kind with | .array component _ => component == a | _ => false) = some n := by
    have b1 := va_idx_bare U.vm a
    have b2 := va_idx_bare u.vm a
    have b3 : U.vm.bare = u.vm.bare := by first | exact hvm.bare_eq | exact hvm.bare_eq.symm
    rw [b3] at b1
    exact b1.symm.trans (b2.trans p2)
  have e4 : z'.kind = .array a (.array .int) := by rw [p6]; exact p4
  have e1 : U.vm.findClass (FieldType.array .int).toString = some a := by rw [hvm.findClass]; exact p1
  have e5 : U.vm.findClass ("[" ++ (FieldType.array .int).toString) = some n := by rw [hvm.findClass]; exact p5
  unfold Cond.before Cond.holds
  simp only [Cond.value]
  rw [e1, Option.bind_some]
  refine (congrArg (fun o : Option Nat => (o.bind (fun c => (U.vm.classes[c]?).map fun (k : Class) => match k.kind with | .array _ ty => decide (ty = FieldType.array .int) && decide (U.vm.findClass ("[" ++ (FieldType.array .int).toString) = some c) | _ => false) == some true)) e2).trans ?_
  simp [p3', e4, e5]
def aw_Nst (s : State) : Prop := (∀ q ∈ aw_nest, va_Nw (.methodLinkNest q.1 q.2.1 q.2.2.1 q.2.2.2) s) ∧ aw_AO s
theorem aw_Nst.warm {s U : State} (hW : s.WarmedH U.vm) (h : aw_Nst s) : aw_Nst U := ⟨fun z hz => va_Nw.warmM hW (h.1 z hz), va_AO.moved hW.alike h.2.1, aw_AO_int hW.alike h.2.2⟩
theorem aw_Nst.same {u U : State} (e : u.vm = U.vm) (h : aw_Nst u) : aw_Nst U := ⟨fun z hz => va_Nw.same rfl e (h.1 z hz), va_AO.moved (e ▸ Vm.Alike.refl u.vm) h.2.1, aw_AO_int (e ▸ Vm.Alike.refl u.vm) h.2.2⟩
def aw_Q (G : aw_G) (E : aw_E) (A : Nat → Prop) : Array Value → State → Outcome → State → Prop := fun _ st oc t =>
  (oc = .returned (E.1.map (aw_v G.2.2.2.1)) ∧ va_P (G.1, G.2.1) vwCl (aw_w G.2.2.2.1 G.2.2.1 E.2.1 E.2.2) t.heap ∧ va_K (G.1, G.2.1) vwCl (aw_ty G.2.2.1) t ∧ (G.2.2.2.2 → t.heap.size = G.2.2.2.1 + E.2.1.length)) ∧ va_F A st t
def aw_Cx (p : Program) (R : Room) (s : State) (m : MethodId) (args : Array Value) (meth : Method) (c : Code) (M : aw_M) (G : aw_G) (B : aw_B) : Prop :=
  p.tables.exec = Jvm.exec ∧ c.code = M.2.1 ∧ c.maxLocals = M.2.2.1 ∧ meth.sig.returnType = M.2.2.2.1 ∧ s.vm.findClass M.1 = some m.cls ∧ meth.locks = false ∧ (∀ w ∈ wsL_law, w.before args s = true) ∧ (B.1 ≤ R.frames ∧ B.2.1 ≤ R.locals ∧ B.2.2.1 ≤ R.cells ∧ B.2.2.2 ≤ R.slots) ∧ va_K (G.1, G.2.1) vwCl (aw_ty G.2.2.1) s ∧ (M.2.2.2.2 = true → meth.name = "<init>") ∧ aw_Nst s
def aw_Hp (G : aw_G) (A : Nat → Prop) (s : State) (H : Heap) (locs : List Loc) (sh : List aw_H) (σ : aw_S) (kc : Nat) : Prop :=
  va_P (G.1, G.2.1) vwCl (aw_w G.2.2.2.1 G.2.2.1 sh σ) H ∧ va_S A s.heap H locs ∧ (∀ k, k < sh.length → A (G.2.2.2.1 + k)) ∧ (G.2.2.2.2 → s.heap.size + kc = G.2.2.2.1 + sh.length ∧ G.2.2.2.1 ≤ s.heap.size ∧ ∀ q, G.2.2.2.1 ≤ q → A q)
def aw_W (l : Launch) (M : aw_M) (G : aw_G) (B : aw_B) (E : aw_E) (pc : Nat) (loc : List (Nat × Value)) (st : List Value) (sh : List aw_H) (σ : aw_S) (kc ks : Nat) : Prop :=
  ∀ (p : Program) (e : Env) (R : Room) (s : State) (m : MethodId) (args : Array Value) (below : List Frame) (meth : Method) (c : Code) (A : Nat → Prop) (H : Heap) (locs : List Loc) (ls : Array Slot),
    aw_Cx p R s m args meth c M G B → aw_Hp G A s H locs sh σ kc → lv_has ls M.2.2.1 (loc.map (aw_l G.2.2.2.1)) →
    W p l e R s m args below meth c H locs kc ks (MQ below (aw_Q G E A) args s B.2.2.1 B.2.2.2 A) (F0 m pc ls (st.map (aw_v G.2.2.2.1)))
def aw_room (B : aw_B) : Room := { frames := B.1, cells := B.2.2.1, slots := B.2.2.2, locals := B.2.1 }
/-- a method's contract -/
def aw_Ct (l : Launch) (y : MethodName) (M : aw_M) (G : aw_G) (B : aw_B) (av : List Value) (sh : List aw_H) (σ : aw_S) (E : aw_E) : Prop :=
  Met l y (.code y M.2.1 M.2.2.1 M.2.2.2.1 :: wsL_law) (aw_room B) (va_Pc (av.map (aw_v G.2.2.2.1)) (fun U => va_P (G.1, G.2.1) vwCl (aw_w G.2.2.2.1 G.2.2.1 sh σ) U.heap ∧ va_K (G.1, G.2.1) vwCl (aw_ty G.2.2.1) U ∧ (G.2.2.2.2 → U.heap.size = G.2.2.2.1 + sh.length) ∧ aw_Nst U))
    (aw_Q G E (aw_A G.2.2.2.1 sh.length G.2.2.2.2)) B.2.2.1 B.2.2.2 (aw_A G.2.2.2.1 sh.length G.2.2.2.2)
theorem aw_sl_len (b : Nat) (av : List Value) : (lg_sl (av.map (aw_v b))).length = (lg_sl av).length := by
  unfold lg_sl
  induction av with
  | nil => rfl
  | cons v vs ih =>
    rw [List.map_cons, List.flatMap_cons, List.flatMap_cons, List.length_append, List.length_append, ih, aw_catv]
    by_cases hc : v.category = 2
    · rw [if_pos hc, if_pos hc]; rfl
    · rw [if_neg hc, if_neg hc]; rfl
theorem aw_args_map (b : Nat) : ∀ (vs : List Value) (i : Nat), lv_args i (vs.map (aw_v b)) = (lv_args i vs).map (aw_l b) := by
  intro vs
  induction vs with
  | nil => intro i; rfl
  | cons v vs ih =>
    intro i
    show (i, aw_v b v) :: lv_args (if (aw_v b v).category = 2 then i + 2 else i + 1) (vs.map (aw_v b)) = (i, aw_v b v) :: (lv_args (if v.category = 2 then i + 2 else i + 1) vs).map (aw_l b)
    rw [aw_catv, ih]
/-- the contract out of the walk -/
theorem aw_Ct_of {l : Launch} {y : MethodName} {M : aw_M} {G : aw_G} {B : aw_B} {av : List Value} {sh : List aw_H} {σ : aw_S} {E : aw_E} (hy : plainName y.cls = true) (hyo : y.cls = M.1) (hin : M.2.2.2.2 = true → y.name = "<init>") (hfit : (lg_sl av).length ≤ M.2.2.1)
    (h : aw_W l M G B E 0 (lv_args 0 av) [] sh σ 0 0) : aw_Ct l y M G B av sh σ E := by
  obtain ⟨dC, dI, dA, b, al⟩ := G
  obtain ⟨own, cc, nL, ret, ini⟩ := M
  refine Met.ofW (cc := cc) (maxL := nL) (ret := ret) hy rfl ?_
  intro p e s m args below meth c s₁ B0 hml hv
  obtain ⟨rfl, hP, hK, hal, hNst⟩ := hv
  have hts := atoms_spec (ws := .code y cc nL ret :: wsL_law) B0.pre
  have hown : s.vm.findClass own = some m.cls := by have h2 := findClass_of_methodNamed B0.named; rw [hyo] at h2; exact h2
  have e1 := aw_sl_len b av
  have hl := lv_entry (av.map (aw_v b)) (n := nL) (by rw [e1]; exact hfit)
  rw [lg_entry_eq]
  rw [aw_args_map] at hl
  exact h p e _ s m _ below meth c (aw_A b sh.length al) s.heap [] _ ⟨B0.exec, B0.bytes, hml, B0.returns, hown, B0.notSynchronized, fun w hw => hts w (List.mem_cons_of_mem _ hw), ⟨Nat.le_refl _, Nat.le_refl _, Nat.le_refl _, Nat.le_refl _⟩, hK, fun hi => (name_of_methodNamed B0.named B0.method).1.trans (hin hi), hNst⟩
    ⟨hP, va_S.rf, fun k hk => ⟨Nat.le_add_right _ _, Or.inl (Nat.add_lt_add_left hk _)⟩, fun ha => ⟨hal ha, by rw [hal ha]; exact Nat.le_add_right _ _, fun q hq => ⟨hq, Or.inr ha⟩⟩⟩ hl
/-- in a walk that makes cells: the heap's size -/
theorem aw_sz {p : Program} {l : Launch} {e : Env} {R : Room} {s : State} {m : MethodId} {args : Array Value} {below : List Frame} {meth : Method} {c : Code} {H : Heap} {locs : List Loc} {kc ks : Nat} {Q : State → Prop} {g : JFrame} {G : aw_G} {A : Nat → Prop} {sh : List aw_H} {σ : aw_S} (P : aw_Hp G A s H locs sh σ kc) (k : (G.2.2.2.2 → H.size = G.2.2.2.1 + sh.length) → W p l e R s m args below meth c H locs kc ks Q g) : W p l e R s m args below meth c H locs kc ks Q g := by
  intro T hT X
  refine k (fun ha => ?_) T hT X
  obtain ⟨h1, h2, -⟩ := P.2.2.2 ha
  have h3 := X.heapSize
  rw [hT] at h3
  have h4 := P.2.1.1
  by_cases hn : sh.length = 0
  · omega
  · have hlt : sh.length - 1 < sh.length := by omega
    have h5 := (P.1 (sh.length - 1) _ (aw_w_get (List.getElem?_eq_getElem hlt))).lt
    have h5 : G.2.2.2.1 + (sh.length - 1) < H.size := h5
    omega

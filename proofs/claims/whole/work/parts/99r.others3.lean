/-! ===== OTHERS: few ===== -/
def fw_u (f : Nat → Int32) (m : Nat) (v : Int32) : Nat → Int32 := fun n => if n = m then v else f n
theorem fw_u_s (f : Nat → Int32) (m : Nat) (v : Int32) : fw_u f m v m = v := if_pos rfl
theorem fw_u_o (f : Nat → Int32) {m n : Nat} (v : Int32) (h : n ≠ m) : fw_u f m v n = f n := if_neg h
def fw_c (g : Nat → Int32) (f : Nat → Int32) (n : Nat) (t : Option Nat) : (Nat → Int32) × Int32 := match t with
  | none => (f, 0)
  | some m => if f m < f n + g m then (fw_u f m (f n + g m), 1) else (f, 0)
def fw_e (g : Nat → Int32) (nx : Nat → Option Nat) (x : (Nat → Int32) × Int32) (k : Nat) : (Nat → Int32) × Int32 := if x.1 (k / 2) = -1000 then x else ((fw_c g x.1 (k / 2) (nx k)).1, if (fw_c g x.1 (k / 2) (nx k)).2 = 0 then x.2 else 1)
def fw_k (g : Nat → Int32) (nx : Nat → Option Nat) (x : (Nat → Int32) × Int32) : Nat → (Nat → Int32) × Int32
  | 0 => x
  | k + 1 => fw_e g nx (fw_k g nx x k) k
def fw_o (g : Nat → Int32) (nx : Nat → Option Nat) (N : Nat) : Nat → (Nat → Int32) × Int32
  | 0 => (fw_u (fun _ => -1000) 0 (g 0), 1)
  | r + 1 => if (fw_o g nx N r).2 = 0 then fw_o g nx N r else fw_k g nx ((fw_o g nx N r).1, 0) (2 * N)
theorem fw_o_0 (g : Nat → Int32) (nx : Nat → Option Nat) (N : Nat) : fw_o g nx N 0 = (fw_u (fun _ => -1000) 0 (g 0), 1) := rfl
theorem fw_o_st {g : Nat → Int32} {nx : Nat → Option Nat} {N r : Nat} (h : (fw_o g nx N r).2 = 0) : ∀ j, fw_o g nx N (r + j) = fw_o g nx N r := by
  intro j
  induction j with
  | zero => rfl
  | succ j ih =>
    show (if (fw_o g nx N (r + j)).2 = 0 then fw_o g nx N (r + j) else _) = _
    rw [ih, if_pos h]
theorem fw_e_v {g : Nat → Int32} {nx : Nat → Option Nat} {x : (Nat → Int32) × Int32} (h : x.2 = 0 ∨ x.2 = 1) (k : Nat) : (fw_e g nx x k).2 = 0 ∨ (fw_e g nx x k).2 = 1 := by
  unfold fw_e
  by_cases q : x.1 (k / 2) = -1000
  · rw [if_pos q]; exact h
  · rw [if_neg q]
    show (if _ then x.2 else (1 : Int32)) = 0 ∨ _
    by_cases w : (fw_c g x.1 (k / 2) (nx k)).2 = 0
    · rw [if_pos w]; exact h
    · exact Or.inr (if_neg w)
theorem fw_k_v {g : Nat → Int32} {nx : Nat → Option Nat} {x : (Nat → Int32) × Int32} (h : x.2 = 0 ∨ x.2 = 1) (k : Nat) : (fw_k g nx x k).2 = 0 ∨ (fw_k g nx x k).2 = 1 := by
  induction k with
  | zero => exact h
  | succ k ih => exact fw_e_v ih k
theorem fw_o_v {g : Nat → Int32} {nx : Nat → Option Nat} {N : Nat} (r : Nat) : (fw_o g nx N r).2 = 0 ∨ (fw_o g nx N r).2 = 1 := by
  induction r with
  | zero => exact Or.inr rfl
  | succ r ih =>
    show (if (fw_o g nx N r).2 = 0 then fw_o g nx N r else _).2 = 0 ∨ _
    by_cases q : (fw_o g nx N r).2 = 0
    · rw [show fw_o g nx N (r + 1) = fw_o g nx N r from if_pos q]; exact Or.inl (by rw [if_pos q]; exact q)
    · rw [show fw_o g nx N (r + 1) = fw_k g nx ((fw_o g nx N r).1, 0) (2 * N) from if_neg q, if_neg q]; exact fw_k_v (Or.inl rfl) _
/-- the numbers stay small -/
def fw_B (j : Nat) (f : Nat → Int32) : Prop := ∀ n, f n = -1000 ∨ (-(1 + (j : Int)) ≤ (f n).toInt ∧ (f n).toInt ≤ 1 + (j : Int))
theorem fw_add {a b : Int32} (h1 : -100000 ≤ a.toInt) (h2 : a.toInt ≤ 100000) (h3 : -1 ≤ b.toInt) (h4 : b.toInt ≤ 1) : (a + b).toInt = a.toInt + b.toInt := by
  rw [Int32.toInt_add, Int.bmod_def]
  split <;> omega
theorem fw_B_m {i j : Nat} {f : Nat → Int32} (h : fw_B i f) (hij : i ≤ j) : fw_B j f := fun n => (h n).imp id (fun z => by omega)
theorem fw_m1000 : (-1000 : Int32).toInt = -1000 := by decide
theorem fw_c_B {g : Nat → Int32} (hg : ∀ m, -1 ≤ (g m).toInt ∧ (g m).toInt ≤ 1) {f : Nat → Int32} {j : Nat} (hj : j ≤ 1000) (h : fw_B j f) {n : Nat} (hn : ¬ f n = -1000) (t : Option Nat) : fw_B (j + 1) (fw_c g f n t).1 := by
  cases t with
  | none => exact fw_B_m h (by omega)
  | some m =>
    show fw_B (j + 1) (if f m < f n + g m then (fw_u f m (f n + g m), 1) else (f, 0) : (Nat → Int32) × Int32).1
    by_cases q : f m < f n + g m
    · rw [if_pos q]
      intro i
      show fw_u f m _ i = _ ∨ _
      by_cases w : i = m
      · subst w
        show fw_u f i _ i = _ ∨ _ ≤ (fw_u f i _ i).toInt ∧ (fw_u f i _ i).toInt ≤ _
        rw [fw_u_s]
        rcases h n with z | z
        · exact absurd z hn
        · have := hg i
          rw [fw_add (by omega) (by omega) this.1 this.2]
          exact Or.inr (by omega)
      · show fw_u f m _ i = _ ∨ _ ≤ (fw_u f m _ i).toInt ∧ (fw_u f m _ i).toInt ≤ _
        rw [fw_u_o f _ w]
        exact fw_B_m h (by omega) i
    · rw [if_neg q]; exact fw_B_m h (by omega)
theorem fw_e_B {g : Nat → Int32} (hg : ∀ m, -1 ≤ (g m).toInt ∧ (g m).toInt ≤ 1) (nx : Nat → Option Nat) {x : (Nat → Int32) × Int32} {j : Nat} (hj : j ≤ 1000) (h : fw_B j x.1) (k : Nat) : fw_B (j + 1) (fw_e g nx x k).1 := by
  unfold fw_e
  by_cases q : x.1 (k / 2) = -1000
  · rw [if_pos q]; exact fw_B_m h (by omega)
  · rw [if_neg q]; exact fw_c_B hg hj h q _
theorem fw_k_B {g : Nat → Int32} (hg : ∀ m, -1 ≤ (g m).toInt ∧ (g m).toInt ≤ 1) (nx : Nat → Option Nat) {x : (Nat → Int32) × Int32} {j : Nat} (h : fw_B j x.1) : ∀ k, j + k ≤ 1000 → fw_B (j + k) (fw_k g nx x k).1 := by
  intro k
  induction k with
  | zero => intro _; exact h
  | succ k ih => intro hk; exact fw_e_B hg nx (by omega) (ih (by omega)) k
theorem fw_o_B {g : Nat → Int32} (hg : ∀ m, -1 ≤ (g m).toInt ∧ (g m).toInt ≤ 1) (nx : Nat → Option Nat) {N : Nat} (hN : N ≤ 12) : ∀ r, r ≤ 13 → fw_B (24 * r) (fw_o g nx N r).1 := by
  intro r
  induction r with
  | zero =>
    intro _ n
    rw [fw_o_0]
    by_cases w : n = 0
    · have := hg 0
      have e : fw_u (fun _ => (-1000 : Int32)) 0 (g 0) n = g 0 := by rw [w, fw_u_s]
      refine Or.inr ?_
      show _ ≤ (fw_u (fun _ => (-1000 : Int32)) 0 (g 0) n).toInt ∧ (fw_u (fun _ => (-1000 : Int32)) 0 (g 0) n).toInt ≤ _
      rw [e]
      omega
    · exact Or.inl (fw_u_o (fun _ => (-1000 : Int32)) (g 0) w)
  | succ r ih =>
    intro hr
    have I := ih (by omega)
    by_cases q : (fw_o g nx N r).2 = 0
    · rw [show fw_o g nx N (r + 1) = fw_o g nx N r from if_pos q]; exact fw_B_m I (by omega)
    · rw [show fw_o g nx N (r + 1) = fw_k g nx ((fw_o g nx N r).1, 0) (2 * N) from if_neg q]
      exact fw_B_m (fw_k_B hg nx (x := ((fw_o g nx N r).1, 0)) I (2 * N) (by omega)) (by omega)
/-- far behind, in both ways of asking -/
theorem fw_far {f : Nat → Int32} {j n : Nat} (hj : j ≤ 400) (h : fw_B j f) : f n ≤ -500 ↔ f n = -1000 := by
  refine ⟨fun z => ?_, fun z => by rw [z]; decide⟩
  rcases h n with w | w
  · exact w
  · have z := Int32.le_iff_toInt_le.mp z
    have e : (-500 : Int32).toInt = -500 := by decide
    rw [e] at z
    omega
/-- what has been reached stays so -/
theorem fw_c_far {g : Nat → Int32} {f : Nat → Int32} {j n : Nat} (hj : j ≤ 400) (h : fw_B j f) (hn : ¬ f n = -1000) (t : Option Nat) : ¬ (fw_c g f n t).1 n = -1000 := by
  cases t with
  | none => exact hn
  | some m =>
    show ¬ (if f m < f n + g m then (fw_u f m (f n + g m), 1) else (f, 0) : (Nat → Int32) × Int32).1 n = -1000
    by_cases q : f m < f n + g m
    · rw [if_pos q]
      show ¬ fw_u f m _ n = -1000
      by_cases w : n = m
      · rw [w, fw_u_s]
        intro z
        rw [← w] at q z
        have q := Int32.lt_iff_toInt_lt.mp q
        rw [z, fw_m1000] at q
        rcases h n with u | u
        · exact hn u
        · omega
      · rw [fw_u_o f _ w]; exact hn
    · rw [if_neg q]; exact hn
noncomputable def ot_g (Γ : ag_T) (e : Nat) (x : Int32) (m : Nat) : Int32 := ao_b (ao_t x m) - ao_b (ag_F Γ e 4 m)
theorem ot_g_b (Γ : ag_T) (e : Nat) (x : Int32) (m : Nat) : -1 ≤ (ot_g Γ e x m).toInt ∧ (ot_g Γ e x m).toInt ≤ 1 := by
  unfold ot_g
  rcases ao_b_01 (ao_t x m) with h | h <;> rcases ao_b_01 (ag_F Γ e 4 m) with h' | h' <;> rw [h, h'] <;> decide
noncomputable def ot_X (Γ : ag_T) (e : Nat) (x : Int32) (r : Nat) : (Nat → Int32) × Int32 := fw_o (ot_g Γ e x) (ag_nx Γ) (ag_N Γ) r
def ot_FW (Γ : ag_T) (e : Nat) (x : Int32) : Prop := (ot_X Γ e x (ag_N Γ + 1)).2 = 0 ∧ ∀ n, n < ag_N Γ → ag_nx Γ (2 * n) = none → (ot_X Γ e x (ag_N Γ + 1)).1 n ≤ 0

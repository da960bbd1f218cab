/-! ===== OTHERS: few: how far a way can be ahead where nothing grows any more ===== -/
def fq_w (nx : Nat → Option Nat) : List Nat → Prop
  | [] => False
  | [n] => n = 0
  | n :: m :: l => ao_ed nx m n ∧ fq_w nx (m :: l)
def fq_s (g : Nat → Int32) : List Nat → Int
  | [] => 0
  | n :: l => (g n).toInt + fq_s g l
def fq_d : List Nat → Prop
  | [] => True
  | n :: l => ¬ n ∈ l ∧ fq_d l
theorem fq_s_c (g : Nat → Int32) (n : Nat) (l : List Nat) : fq_s g (n :: l) = (g n).toInt + fq_s g l := rfl
theorem fq_s_n (g : Nat → Int32) : fq_s g [] = 0 := rfl
theorem fq_s_app (g : Nat → Int32) (p q : List Nat) : fq_s g (p ++ q) = fq_s g p + fq_s g q := by
  induction p with
  | nil =>
    have e : fq_s g ([] ++ q) = fq_s g q := rfl
    rw [e, fq_s_n, Int.zero_add]
  | cons a p ih =>
    have e : fq_s g (a :: p ++ q) = (g a).toInt + fq_s g (p ++ q) := rfl
    rw [e, ih, fq_s_c, Int.add_assoc]
theorem fq_mh {n : Nat} {l : List Nat} : n ∈ n :: l := List.mem_cons.mpr (Or.inl rfl)
theorem fq_mt {i n : Nat} {l : List Nat} (h : i ∈ l) : i ∈ n :: l := List.mem_cons.mpr (Or.inr h)
theorem fq_mr {i : Nat} {p q : List Nat} (h : i ∈ q) : i ∈ p ++ q := List.mem_append.mpr (Or.inr h)
theorem fq_spl {n : Nat} {l : List Nat} (h : n ∈ l) : ∃ u v, l = u ++ n :: v := by
  induction l with
  | nil => cases h
  | cons a l ih =>
    rcases List.mem_cons.mp h with z | z
    · exact ⟨[], l, by rw [z]; rfl⟩
    · obtain ⟨u, v, e⟩ := ih z
      exact ⟨a :: u, v, by rw [e]; rfl⟩
theorem fq_suf {nx : Nat → Option Nat} {n : Nat} {q : List Nat} : ∀ p : List Nat, fq_w nx (p ++ n :: q) → fq_w nx (n :: q) := by
  intro p
  induction p with
  | nil => exact fun h => h
  | cons a p ih =>
    intro h
    cases p with
    | nil =>
      have h : ao_ed nx n a ∧ fq_w nx (n :: q) := h
      exact h.2
    | cons b p =>
      have h : ao_ed nx b a ∧ fq_w nx (b :: p ++ n :: q) := h
      exact ih h.2
theorem fq_dsuf {n : Nat} {q : List Nat} : ∀ p : List Nat, fq_d (p ++ n :: q) → fq_d (n :: q) := by
  intro p
  induction p with
  | nil => exact fun h => h
  | cons a p ih =>
    intro h
    have h : ¬ a ∈ p ++ n :: q ∧ fq_d (p ++ n :: q) := h
    exact ih h.2
/-- nothing grows at f -/
def fq_F (g : Nat → Int32) (nx : Nat → Option Nat) (N : Nat) (f : Nat → Int32) : Prop := ¬ f 0 = -1000 ∧ ∀ p n, p < N → ao_ed nx p n → ¬ f p = -1000 → ¬ f n = -1000 ∧ (f p).toInt + (g n).toInt ≤ (f n).toInt
theorem fq_on {g : Nat → Int32} {nx : Nat → Option Nat} {N : Nat} {f : Nat → Int32} (hF : fq_F g nx N f) {k : Nat} {q : List Nat} (hk : ¬ f k = -1000) : ∀ (p : List Nat) (n : Nat), fq_w nx (n :: (p ++ k :: q)) → (∀ i, i ∈ n :: (p ++ k :: q) → i < N) → ¬ f n = -1000 ∧ (f k).toInt + fq_s g (n :: p) ≤ (f n).toInt := by
  intro p
  induction p with
  | nil =>
    intro n h hl
    have h : ao_ed nx k n ∧ fq_w nx (k :: q) := h
    have hkN : k < N := hl k (fq_mt (fq_mr (p := []) fq_mh))
    obtain ⟨h1, h2⟩ := hF.2 k n hkN h.1 hk
    refine ⟨h1, ?_⟩
    rw [fq_s_c, fq_s_n]
    omega
  | cons a p ih =>
    intro n h hl
    have h : ao_ed nx a n ∧ fq_w nx (a :: (p ++ k :: q)) := h
    have hl : ∀ i, i ∈ n :: a :: (p ++ k :: q) → i < N := hl
    obtain ⟨i1, i2⟩ := ih a h.2 (fun i hi => hl i (fq_mt hi))
    obtain ⟨h1, h2⟩ := hF.2 a n (hl a (fq_mt fq_mh)) h.1 i1
    refine ⟨h1, ?_⟩
    rw [fq_s_c]
    omega
theorem fq_rch {g : Nat → Int32} {nx : Nat → Option Nat} {N : Nat} {f : Nat → Int32} (hF : fq_F g nx N f) : ∀ (l : List Nat) (n : Nat), fq_w nx (n :: l) → (∀ i, i ∈ n :: l → i < N) → ¬ f n = -1000 := by
  intro l
  induction l with
  | nil =>
    intro n h _
    have h : n = 0 := h
    rw [h]; exact hF.1
  | cons m l ih =>
    intro n h hl
    have h : ao_ed nx m n ∧ fq_w nx (m :: l) := h
    exact (hF.2 m n (hl m (fq_mt fq_mh)) h.1 (ih m h.2 (fun i hi => hl i (fq_mt hi)))).1
/-- a way that meets a node twice is no further ahead than one that doesn't -/
theorem fq_sm {g : Nat → Int32} {nx : Nat → Option Nat} {N : Nat} {f : Nat → Int32} (hF : fq_F g nx N f) : ∀ (l : List Nat) (n : Nat), fq_w nx (n :: l) → (∀ i, i ∈ n :: l → i < N) → ∃ l', fq_w nx (n :: l') ∧ (∀ i, i ∈ n :: l' → i < N) ∧ fq_d (n :: l') ∧ fq_s g (n :: l) ≤ fq_s g (n :: l') := by
  intro l
  induction l with
  | nil =>
    intro n h hl
    exact ⟨[], h, hl, (show ¬ n ∈ ([] : List Nat) ∧ True from ⟨List.not_mem_nil, trivial⟩), Int.le_refl _⟩
  | cons m l ih =>
    intro n h hl
    have h : ao_ed nx m n ∧ fq_w nx (m :: l) := h
    have hn : n < N := hl n fq_mh
    obtain ⟨l', w, b, d, s⟩ := ih m h.2 (fun i hi => hl i (fq_mt hi))
    have e := fq_s_c g n (m :: l)
    by_cases q : n ∈ m :: l'
    · obtain ⟨u, v, e'⟩ := fq_spl q
      have w' : fq_w nx (u ++ n :: v) := by rw [← e']; exact w
      have L : fq_w nx (n :: (u ++ n :: v)) := by
        rw [← e']
        show ao_ed nx m n ∧ fq_w nx (m :: l')
        exact ⟨h.1, w⟩
      have b' : ∀ i, i ∈ u ++ n :: v → i < N := by rw [← e']; exact b
      have d' : fq_d (u ++ n :: v) := by rw [← e']; exact d
      have w2 : fq_w nx (n :: v) := fq_suf u w'
      have b2 : ∀ i, i ∈ n :: v → i < N := fun i hi => b' i (fq_mr hi)
      have r := (fq_on hF (fq_rch hF v n w2 b2) u n L (fun i hi => by
        rcases List.mem_cons.mp hi with z | z
        · rw [z]; exact hn
        · exact b' i z)).2
      refine ⟨v, w2, b2, fq_dsuf u d', ?_⟩
      have s1 := fq_s_c g n u
      have s2 : fq_s g (m :: l') = fq_s g u + fq_s g (n :: v) := by rw [e', fq_s_app]
      omega
    · refine ⟨m :: l', (show ao_ed nx m n ∧ fq_w nx (m :: l') from ⟨h.1, w⟩), fun i hi => ?_, (show ¬ n ∈ m :: l' ∧ fq_d (m :: l') from ⟨q, d⟩), ?_⟩
      · rcases List.mem_cons.mp hi with z | z
        · rw [z]; exact hn
        · exact b i z
      · have e2 := fq_s_c g n (m :: l')
        omega
/-- it is ahead by as many as there are nodes that gain, at most -/
theorem fq_ct {g : Nat → Int32} {N : Nat} (hg : ∀ m, (g m).toInt ≤ 1) : ∀ (l : List Nat) (P : Nat → Prop), fq_d l → (∀ i, i ∈ l → i < N) → (∀ i, i ∈ l → (g i).toInt = 1 → P i) → fq_s g l ≤ (ao_n P N : Int) := by
  intro l
  induction l with
  | nil =>
    intro P _ _ _
    rw [fq_s_n]
    omega
  | cons a l ih =>
    intro P d b h
    have d : ¬ a ∈ l ∧ fq_d l := d
    have I := ih (fun i => P i ∧ i ≠ a) d.2 (fun i hi => b i (fq_mt hi)) (fun i hi e => ⟨h i (fq_mt hi) e, fun z => d.1 (by rw [← z]; exact hi)⟩)
    have hga := hg a
    rw [fq_s_c]
    by_cases q : P a
    · have J := ao_n_lt (X := fun i => P i ∧ i ≠ a) (Y := P) (n := N) (i := a) (fun k _ z => z.1) (b a fq_mh) q (fun z => z.2 rfl)
      omega
    · have J := ao_n_mono (X := fun i => P i ∧ i ≠ a) (Y := P) (n := N) (fun k _ z => z.1)
      have K : (g a).toInt ≠ 1 := fun z => q (h a fq_mh z)
      omega
/-! what the walk does -/
theorem fq_ce {g f : Nat → Int32} {n m : Nat} : fw_c g f n (some m) = (if f m < f n + g m then (fw_u f m (f n + g m), 1) else (f, 0) : (Nat → Int32) × Int32) := rfl
theorem fq_c0 {g f : Nat → Int32} {n : Nat} {t : Option Nat} (h : (fw_c g f n t).2 = 0) : (fw_c g f n t).1 = f ∧ ∀ m, t = some m → ¬ f m < f n + g m := by
  cases t with
  | none => exact ⟨rfl, fun m z => by cases z⟩
  | some m =>
    by_cases q : f m < f n + g m
    · rw [fq_ce, if_pos q] at h
      exact absurd (show (1 : Int32) = 0 from h) ao_n10
    · rw [fq_ce, if_neg q]
      exact ⟨rfl, fun i z => by cases z; exact q⟩
theorem fq_e0 {g : Nat → Int32} {nx : Nat → Option Nat} {x : (Nat → Int32) × Int32} {k : Nat} (h : (fw_e g nx x k).2 = 0) : fw_e g nx x k = x ∧ ∀ m, nx k = some m → ¬ x.1 (k / 2) = -1000 → ¬ x.1 m < x.1 (k / 2) + g m := by
  by_cases q : x.1 (k / 2) = -1000
  · exact ⟨if_pos q, fun m _ z => absurd q z⟩
  · have e : fw_e g nx x k = ((fw_c g x.1 (k / 2) (nx k)).1, if (fw_c g x.1 (k / 2) (nx k)).2 = 0 then x.2 else 1) := if_neg q
    rw [e] at h ⊢
    have h : (if (fw_c g x.1 (k / 2) (nx k)).2 = 0 then x.2 else (1 : Int32)) = 0 := h
    by_cases w : (fw_c g x.1 (k / 2) (nx k)).2 = 0
    · obtain ⟨c1, c2⟩ := fq_c0 w
      refine ⟨?_, fun m z _ => c2 m z⟩
      rw [if_pos w, c1]
    · rw [if_neg w] at h
      exact absurd h ao_n10
theorem fq_k0 {g : Nat → Int32} {nx : Nat → Option Nat} {x : (Nat → Int32) × Int32} : ∀ k, (fw_k g nx x k).2 = 0 → fw_k g nx x k = x ∧ ∀ j, j < k → ∀ m, nx j = some m → ¬ x.1 (j / 2) = -1000 → ¬ x.1 m < x.1 (j / 2) + g m := by
  intro k
  induction k with
  | zero => exact fun _ => ⟨rfl, fun j hj => absurd hj (Nat.not_lt_zero _)⟩
  | succ k ih =>
    intro h
    have h : (fw_e g nx (fw_k g nx x k) k).2 = 0 := h
    obtain ⟨e1, e2⟩ := fq_e0 h
    rw [e1] at h
    obtain ⟨i1, i2⟩ := ih h
    refine ⟨(show fw_e g nx (fw_k g nx x k) k = x from e1.trans i1), fun j hj => ?_⟩
    by_cases q : j = k
    · rw [i1] at e2
      rw [q]
      exact e2
    · exact i2 j (by omega)
theorem fq_os {g : Nat → Int32} {nx : Nat → Option Nat} {N r : Nat} (h : ¬ (fw_o g nx N r).2 = 0) : fw_o g nx N (r + 1) = fw_k g nx ((fw_o g nx N r).1, 0) (2 * N) := if_neg h
theorem fq_ot {g : Nat → Int32} {nx : Nat → Option Nat} {N r : Nat} (h : (fw_o g nx N r).2 = 0) : fw_o g nx N (r + 1) = fw_o g nx N r := if_pos h
theorem fq_o0 {g : Nat → Int32} {nx : Nat → Option Nat} {N : Nat} : ∀ r, (fw_o g nx N r).2 = 0 → ∀ j, j < 2 * N → ∀ m, nx j = some m → ¬ (fw_o g nx N r).1 (j / 2) = -1000 → ¬ (fw_o g nx N r).1 m < (fw_o g nx N r).1 (j / 2) + g m := by
  intro r
  induction r with
  | zero => exact fun h => absurd (show (1 : Int32) = 0 from h) ao_n10
  | succ r ih =>
    intro h
    by_cases q : (fw_o g nx N r).2 = 0
    · rw [fq_ot q]; exact ih q
    · rw [fq_os q] at h ⊢
      obtain ⟨k1, k2⟩ := fq_k0 (2 * N) h
      rw [k1]
      exact k2
/-! it never comes down -/
def fq_le (f f' : Nat → Int32) : Prop := ∀ i, (f i).toInt ≤ (f' i).toInt
theorem fq_le_r (f : Nat → Int32) : fq_le f f := fun _ => Int.le_refl _
theorem fq_le_t {f f' f'' : Nat → Int32} (h : fq_le f f') (h' : fq_le f' f'') : fq_le f f'' := fun i => Int.le_trans (h i) (h' i)
theorem fq_c_le {g f : Nat → Int32} {n : Nat} {t : Option Nat} : fq_le f (fw_c g f n t).1 := by
  cases t with
  | none => exact fq_le_r f
  | some m =>
    by_cases q : f m < f n + g m
    · rw [fq_ce, if_pos q]
      intro i
      show (f i).toInt ≤ (fw_u f m (f n + g m) i).toInt
      by_cases w : i = m
      · have e : fw_u f m (f n + g m) i = f n + g m := by rw [w]; exact fw_u_s f m _
        have q' := Int32.lt_iff_toInt_lt.mp q
        have e' : (fw_u f m (f n + g m) i).toInt = (f n + g m).toInt := congrArg Int32.toInt e
        have e'' : (f i).toInt = (f m).toInt := by rw [w]
        omega
      · exact Int.le_of_eq (congrArg Int32.toInt (fw_u_o f _ w).symm)
    · rw [fq_ce, if_neg q]; exact fq_le_r f
theorem fq_e_le {g : Nat → Int32} {nx : Nat → Option Nat} {x : (Nat → Int32) × Int32} {k : Nat} : fq_le x.1 (fw_e g nx x k).1 := by
  by_cases q : x.1 (k / 2) = -1000
  · have e : fw_e g nx x k = x := if_pos q
    rw [e]; exact fq_le_r _
  · have e : fw_e g nx x k = ((fw_c g x.1 (k / 2) (nx k)).1, if (fw_c g x.1 (k / 2) (nx k)).2 = 0 then x.2 else 1) := if_neg q
    rw [e]; exact fq_c_le
theorem fq_k_le {g : Nat → Int32} {nx : Nat → Option Nat} {x : (Nat → Int32) × Int32} {k : Nat} : ∀ j, fq_le (fw_k g nx x k).1 (fw_k g nx x (k + j)).1 := by
  intro j
  induction j with
  | zero => exact fq_le_r _
  | succ j ih =>
    have E := fq_e_le (g := g) (nx := nx) (x := fw_k g nx x (k + j)) (k := k + j)
    exact fq_le_t ih E
theorem fq_o_le {g : Nat → Int32} {nx : Nat → Option Nat} {N r : Nat} : ∀ j, fq_le (fw_o g nx N r).1 (fw_o g nx N (r + j)).1 := by
  intro j
  induction j with
  | zero => exact fq_le_r _
  | succ j ih =>
    refine fq_le_t ih ?_
    show fq_le (fw_o g nx N (r + j)).1 (fw_o g nx N ((r + j) + 1)).1
    by_cases q : (fw_o g nx N (r + j)).2 = 0
    · rw [fq_ot q]; exact fq_le_r _
    · rw [fq_os q]
      have K := fq_k_le (g := g) (nx := nx) (x := ((fw_o g nx N (r + j)).1, 0)) (k := 0) (2 * N)
      rw [Nat.zero_add] at K
      exact K
/-! every number is that of a way -/
def fq_A (g : Nat → Int32) (nx : Nat → Option Nat) (N : Nat) (f : Nat → Int32) : Prop := ∀ n, ¬ f n = -1000 → ∃ l, fq_w nx (n :: l) ∧ (∀ i, i ∈ n :: l → i < N) ∧ fq_s g (n :: l) = (f n).toInt
theorem fq_A0 {g : Nat → Int32} {nx : Nat → Option Nat} {N : Nat} (h0 : 0 < N) : fq_A g nx N (fw_u (fun _ => -1000) 0 (g 0)) := by
  intro n hn
  by_cases w : n = 0
  · have e : fw_u (fun _ => (-1000 : Int32)) 0 (g 0) n = g 0 := by rw [w]; exact fw_u_s _ 0 (g 0)
    rw [e, w]
    refine ⟨[], (show (0 : Nat) = 0 from rfl), fun i hi => ?_, ?_⟩
    · rcases List.mem_cons.mp hi with z | z
      · rw [z]; exact h0
      · cases z
    · rw [fq_s_c, fq_s_n, Int.add_zero]
  · exact absurd (fw_u_o (fun _ => (-1000 : Int32)) (g 0) w) hn
theorem fq_cA {g : Nat → Int32} (hg : ∀ m, -1 ≤ (g m).toInt ∧ (g m).toInt ≤ 1) {nx : Nat → Option Nat} {N : Nat} (hnx : ∀ k, k < 2 * N → ∀ t, nx k = some t → t < N) {f : Nat → Int32} {j : Nat} (hj : j ≤ 1000) (hB : fw_B j f) (hA : fq_A g nx N f) {k : Nat} (hk : k < 2 * N) (hn : ¬ f (k / 2) = -1000) : fq_A g nx N (fw_c g f (k / 2) (nx k)).1 := by
  cases h : nx k with
  | none => exact hA
  | some m =>
    by_cases q : f m < f (k / 2) + g m
    · rw [fq_ce, if_pos q]
      intro i hi
      have hi : ¬ fw_u f m (f (k / 2) + g m) i = -1000 := hi
      show ∃ l, fq_w nx (i :: l) ∧ (∀ i', i' ∈ i :: l → i' < N) ∧ fq_s g (i :: l) = (fw_u f m (f (k / 2) + g m) i).toInt
      by_cases w : i = m
      · have e : fw_u f m (f (k / 2) + g m) i = f (k / 2) + g m := by rw [w]; exact fw_u_s f m _
        rw [e, w]
        obtain ⟨l, w1, w2, w3⟩ := hA (k / 2) hn
        refine ⟨(k / 2) :: l, (show ao_ed nx (k / 2) m ∧ fq_w nx ((k / 2) :: l) from ⟨ao_ed_half h, w1⟩), fun i' hi' => ?_, ?_⟩
        · rcases List.mem_cons.mp hi' with z | z
          · rw [z]; exact hnx k hk m h
          · exact w2 i' z
        · have hb := hg m
          rcases hB (k / 2) with z | z
          · exact absurd z hn
          · rw [fq_s_c, w3, fw_add (by omega) (by omega) hb.1 hb.2, Int.add_comm]
      · have e : fw_u f m (f (k / 2) + g m) i = f i := fw_u_o f _ w
        rw [e]
        exact hA i (fun z => hi (e.trans z))
    · rw [fq_ce, if_neg q]; exact hA
theorem fq_eA {g : Nat → Int32} (hg : ∀ m, -1 ≤ (g m).toInt ∧ (g m).toInt ≤ 1) {nx : Nat → Option Nat} {N : Nat} (hnx : ∀ k, k < 2 * N → ∀ t, nx k = some t → t < N) {x : (Nat → Int32) × Int32} {j : Nat} (hj : j ≤ 1000) (hB : fw_B j x.1) (hA : fq_A g nx N x.1) {k : Nat} (hk : k < 2 * N) : fq_A g nx N (fw_e g nx x k).1 := by
  by_cases q : x.1 (k / 2) = -1000
  · have e : fw_e g nx x k = x := if_pos q
    rw [e]; exact hA
  · have e : fw_e g nx x k = ((fw_c g x.1 (k / 2) (nx k)).1, if (fw_c g x.1 (k / 2) (nx k)).2 = 0 then x.2 else 1) := if_neg q
    rw [e]; exact fq_cA hg hnx hj hB hA hk q
theorem fq_kA {g : Nat → Int32} (hg : ∀ m, -1 ≤ (g m).toInt ∧ (g m).toInt ≤ 1) {nx : Nat → Option Nat} {N : Nat} (hnx : ∀ k, k < 2 * N → ∀ t, nx k = some t → t < N) {x : (Nat → Int32) × Int32} {j : Nat} (hB : fw_B j x.1) (hA : fq_A g nx N x.1) : ∀ k, k ≤ 2 * N → j + k ≤ 1000 → fq_A g nx N (fw_k g nx x k).1 := by
  intro k
  induction k with
  | zero => exact fun _ _ => hA
  | succ k ih =>
    intro hk hj
    exact fq_eA hg hnx (j := j + k) (by omega) (fw_k_B hg nx hB k (by omega)) (ih (by omega) (by omega)) (by omega)
theorem fq_oA {g : Nat → Int32} (hg : ∀ m, -1 ≤ (g m).toInt ∧ (g m).toInt ≤ 1) {nx : Nat → Option Nat} {N : Nat} (hnx : ∀ k, k < 2 * N → ∀ t, nx k = some t → t < N) (hN : N ≤ 12) (h0 : 0 < N) : ∀ r, r ≤ 13 → fq_A g nx N (fw_o g nx N r).1 := by
  intro r
  induction r with
  | zero => exact fun _ => fq_A0 h0
  | succ r ih =>
    intro hr
    by_cases q : (fw_o g nx N r).2 = 0
    · rw [fq_ot q]; exact ih (by omega)
    · rw [fq_os q]
      exact fq_kA hg hnx (x := ((fw_o g nx N r).1, 0)) (j := 24 * r) (fw_o_B hg nx hN r (by omega)) (ih (by omega)) (2 * N) (Nat.le_refl _) (by omega)
theorem fq_oF {g : Nat → Int32} (hg : ∀ m, -1 ≤ (g m).toInt ∧ (g m).toInt ≤ 1) {nx : Nat → Option Nat} {N : Nat} (hN : N ≤ 12) {r : Nat} (hr : r ≤ 13) (h : (fw_o g nx N r).2 = 0) : fq_F g nx N (fw_o g nx N r).1 := by
  have hB := fw_o_B hg nx hN r hr
  have C := fq_o0 r h
  have Z := fq_o_le (g := g) (nx := nx) (N := N) (r := 0) r
  rw [Nat.zero_add] at Z
  generalize fw_o g nx N r = y at hB C Z ⊢
  refine ⟨fun z => ?_, fun p n hp he hf => ?_⟩
  · have Z0 := Z 0
    rw [z, fw_m1000] at Z0
    have e : (fw_o g nx N 0).1 0 = g 0 := fw_u_s (fun _ => (-1000 : Int32)) 0 (g 0)
    rw [e] at Z0
    have := hg 0
    omega
  · obtain ⟨k, hk, hk1, hk2⟩ := ao_ed_ex hp he
    have c := C k hk n hk1 (by rw [hk2]; exact hf)
    rw [hk2] at c
    have c := mt Int32.lt_iff_toInt_lt.mpr c
    have hb := hg n
    rcases hB p with z | z
    · exact absurd z hf
    · rw [fw_add (by omega) (by omega) hb.1 hb.2] at c
      refine ⟨fun w => ?_, by omega⟩
      rw [w, fw_m1000] at c
      omega
theorem fq_top {g : Nat → Int32} (hg : ∀ m, -1 ≤ (g m).toInt ∧ (g m).toInt ≤ 1) {nx : Nat → Option Nat} {N : Nat} (hnx : ∀ k, k < 2 * N → ∀ t, nx k = some t → t < N) (hN : N ≤ 12) (h0 : 0 < N) {r : Nat} (hr : r ≤ 13) (h : (fw_o g nx N r).2 = 0) {P : Nat → Prop} (hP : ∀ i, i < N → (g i).toInt = 1 → P i) (n : Nat) : ((fw_o g nx N r).1 n).toInt ≤ (ao_n P N : Int) := by
  by_cases q : (fw_o g nx N r).1 n = -1000
  · rw [q, fw_m1000]; omega
  · obtain ⟨l, w1, w2, w3⟩ := fq_oA hg hnx hN h0 r hr n q
    obtain ⟨l', v1, v2, v3, v4⟩ := fq_sm (fq_oF hg hN hr h) l n w1 w2
    have c := fq_ct (fun m => (hg m).2) (n :: l') P v3 v2 (fun i hi z => hP i (v2 i hi) z)
    omega
/-- a node that is further ahead than there are nodes that gain: not few -/
theorem ot_over {Γ : ag_T} {e : Nat} (G : ag_wf Γ) (hN : ag_N Γ ≤ 12) {x : Int32} {c : Nat} (hc : ao_n (fun i => ao_t x i ∧ ¬ ag_F Γ e 4 i) (ag_N Γ) ≤ c) (hc' : c ≤ 32) (hw : ot_FW Γ e x) {f : Nat → Int32} (hf : fq_le f (ot_X Γ e x (ag_N Γ + 1)).1) (n : Nat) : f n ≤ nI c := by
  have T := fq_top (g := ot_g Γ e x) (ot_g_b Γ e x) (nx := ag_nx Γ) (N := ag_N Γ) G.1.2.1 hN G.2.1 (r := ag_N Γ + 1) (by omega) hw.1 (P := fun i => ao_t x i ∧ ¬ ag_F Γ e 4 i) (fun i hi z => by
    unfold ot_g at z
    by_cases a : ao_t x i
    · by_cases b : ag_F Γ e 4 i
      · rw [ao_b1 a, ao_b1 b] at z
        exact absurd z (by decide)
      · exact ⟨a, b⟩
    · by_cases b : ag_F Γ e 4 i
      · rw [ao_b0 a, ao_b1 b] at z
        exact absurd z (by decide)
      · rw [ao_b0 a, ao_b0 b] at z
        exact absurd z (by decide)) n
  have T : ((ot_X Γ e x (ag_N Γ + 1)).1 n).toInt ≤ (ao_n (fun i => ao_t x i ∧ ¬ ag_F Γ e 4 i) (ag_N Γ) : Int) := T
  have F := hf n
  rw [Int32.le_iff_toInt_le, nI_toInt (by omega)]
  omega
/-- what stands in the middle of a round is no more than what stands at the end -/
theorem ot_mid {Γ : ag_T} {e : Nat} {x : Int32} {r k : Nat} (hr : r < ag_N Γ + 1) (hk : k ≤ 2 * ag_N Γ) (h : ¬ (ot_X Γ e x r).2 = 0) : fq_le (fw_k (ot_g Γ e x) (ag_nx Γ) ((ot_X Γ e x r).1, 0) k).1 (ot_X Γ e x (ag_N Γ + 1)).1 := by
  have nxt : ot_X Γ e x (r + 1) = fw_k (ot_g Γ e x) (ag_nx Γ) ((ot_X Γ e x r).1, 0) (2 * ag_N Γ) := if_neg h
  have A := fq_k_le (g := ot_g Γ e x) (nx := ag_nx Γ) (x := ((ot_X Γ e x r).1, 0)) (k := k) (2 * ag_N Γ - k)
  rw [show k + (2 * ag_N Γ - k) = 2 * ag_N Γ by omega, ← nxt] at A
  have B := fq_o_le (g := ot_g Γ e x) (nx := ag_nx Γ) (N := ag_N Γ) (r := r + 1) (ag_N Γ - r)
  rw [show r + 1 + (ag_N Γ - r) = ag_N Γ + 1 by omega] at B
  exact fq_le_t A B

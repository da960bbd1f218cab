/-! ===== THE LAW: each call, by both contracts ===== -/
theorem iv_len {a b : aw_S} (h : iv_I a b) : a.1 1 1 = b.1 0 2 := by
  obtain ⟨_, ⟨_, L, _, t1, t2, _⟩, _⟩ := h
  rw [t1, t2]
theorem k_feed (l : Launch) (GA GB : aw_G) {a b : aw_S} (h : iv_I a b) (p1 p2 p3 p4 p5 : Int32) : ∃ (r : Int32) (a' b' : aw_S), aw_Ct l yX11_feed M_Mo_feed GA B_Mo_feed (.ref 0 :: [.int p1, .int p2, .int p3, .int p4, .int p5]) xA a (some (.int r), xA, a') ∧ aw_Ct l yX12_feed M_Rf_feed GB B_Rf_feed (.ref 0 :: [.int p1, .int p2, .int p3, .int p4, .int p5]) xB b (some (.int r), xB, b') ∧ iv_I a' b' := by
  obtain ⟨⟨r, a'⟩, ⟨r', b'⟩, e1, e2, eq, hI⟩ := i_feed h p1 p2 p3 p4 p5
  have eq : r = r' := eq
  subst eq
  exact ⟨r, a', b', c_Mo_feed (t := (r, a')) e1, c_Rf_feed (t := (r, b')) e2, hI⟩
theorem k_end (l : Launch) (GA GB : aw_G) {a b : aw_S} (h : iv_I a b) (p1 : Int32) : ∃ (r : Int32) (a' b' : aw_S), aw_Ct l yX11_end M_Mo_end GA B_Mo_end (.ref 0 :: [.int p1]) xA a (some (.int r), xA, a') ∧ aw_Ct l yX12_end M_Rf_end GB B_Rf_end (.ref 0 :: [.int p1]) xB b (some (.int r), xB, b') ∧ iv_I a' b' := by
  obtain ⟨⟨r, a'⟩, ⟨r', b'⟩, e1, e2, eq, hI⟩ := i_end h p1
  have eq : r = r' := eq
  subst eq
  exact ⟨r, a', b', c_Mo_end (t := (r, a')) e1, c_Rf_end (t := (r, b')) e2, hI⟩
theorem k_program (l : Launch) (GA GB : aw_G) {a b : aw_S} (h : iv_I a b) : ∃ (r : Int32) (a' b' : aw_S), aw_Ct l yX11_program M_Mo_program GA B_Mo_program (.ref 0 :: []) xA a (some (.int r), xA, a') ∧ aw_Ct l yX12_program M_Rf_program GB B_Rf_program (.ref 0 :: []) xB b (some (.int r), xB, b') ∧ iv_I a' b' := by
  obtain ⟨⟨r, a'⟩, ⟨r', b'⟩, e1, e2, eq, hI⟩ := i_program h 
  have eq : r = r' := eq
  subst eq
  exact ⟨r, a', b', c_Mo_program (t := (r, a')) e1, c_Rf_program (t := (r, b')) e2, hI⟩
theorem k_fault (l : Launch) (GA GB : aw_G) {a b : aw_S} (h : iv_I a b) : ∃ (r : Int32) (a' b' : aw_S), aw_Ct l yX11_fault M_Mo_fault GA B_Mo_fault (.ref 0 :: []) xA a (some (.int r), xA, a') ∧ aw_Ct l yX12_fault M_Rf_fault GB B_Rf_fault (.ref 0 :: []) xB b (some (.int r), xB, b') ∧ iv_I a' b' := by
  obtain ⟨r, e1, e2⟩ := i_fault h 
  exact ⟨r, a, b, c_Mo_fault e1, c_Rf_fault e2, h⟩
theorem k_is (l : Launch) (GA GB : aw_G) {a b : aw_S} (h : iv_I a b) (p1 : Int32) : ∃ (r : Int32) (a' b' : aw_S), aw_Ct l yX11_is M_Mo_is GA B_Mo_is (.ref 0 :: [.int p1]) xA a (some (.int r), xA, a') ∧ aw_Ct l yX12_is M_Rf_is GB B_Rf_is (.ref 0 :: [.int p1]) xB b (some (.int r), xB, b') ∧ iv_I a' b' := by
  obtain ⟨r, e1, e2⟩ := q_is (iv_P h) (iv_len h) p1
  exact ⟨r, a, b, c_Mo_is e1, c_Rf_is e2, h⟩
theorem k_node (l : Launch) (GA GB : aw_G) {a b : aw_S} (h : iv_I a b) (p1 p2 : Int32) : ∃ (r : Int32) (a' b' : aw_S), aw_Ct l yX11_node M_Mo_node GA B_Mo_node (.ref 0 :: [.int p1, .int p2]) xA a (some (.int r), xA, a') ∧ aw_Ct l yX12_node M_Rf_node GB B_Rf_node (.ref 0 :: [.int p1, .int p2]) xB b (some (.int r), xB, b') ∧ iv_I a' b' := by
  obtain ⟨r, e1, e2⟩ := q_node (iv_P h) p1 p2
  exact ⟨r, a, b, c_Mo_node e1, c_Rf_node e2, h⟩
theorem k_expression (l : Launch) (GA GB : aw_G) {a b : aw_S} (h : iv_I a b) (p1 p2 : Int32) : ∃ (r : Int32) (a' b' : aw_S), aw_Ct l yX11_expression M_Mo_expression GA B_Mo_expression (.ref 0 :: [.int p1, .int p2]) xA a (some (.int r), xA, a') ∧ aw_Ct l yX12_expression M_Rf_expression GB B_Rf_expression (.ref 0 :: [.int p1, .int p2]) xB b (some (.int r), xB, b') ∧ iv_I a' b' := by
  obtain ⟨r, e1, e2⟩ := q_expression (iv_P h) p1 p2
  exact ⟨r, a, b, c_Mo_expression e1, c_Rf_expression e2, h⟩
theorem k_risky (l : Launch) (GA GB : aw_G) {a b : aw_S} (h : iv_I a b) : ∃ (r : Int32) (a' b' : aw_S), aw_Ct l yX11_risky M_Mo_risky GA B_Mo_risky (.ref 0 :: []) xA a (some (.int r), xA, a') ∧ aw_Ct l yX12_risky M_Rf_risky GB B_Rf_risky (.ref 0 :: []) xB b (some (.int r), xB, b') ∧ iv_I a' b' := by
  obtain ⟨r, e1, e2⟩ := q_risky (iv_P h) 
  exact ⟨r, a, b, c_Mo_risky e1, c_Rf_risky e2, h⟩
theorem k_fact (l : Launch) (GA GB : aw_G) {a b : aw_S} (h : iv_I a b) (p1 p2 p3 : Int32) : ∃ (r : Int32) (a' b' : aw_S), aw_Ct l yX11_fact M_Mo_fact GA B_Mo_fact (.ref 0 :: [.int p1, .int p2, .int p3]) xA a (some (.int r), xA, a') ∧ aw_Ct l yX12_fact M_Rf_fact GB B_Rf_fact (.ref 0 :: [.int p1, .int p2, .int p3]) xB b (some (.int r), xB, b') ∧ iv_I a' b' := by
  obtain ⟨r, e1, e2⟩ := q_fact (iv_P h) p1 p2 p3
  exact ⟨r, a, b, c_Mo_fact e1, c_Rf_fact e2, h⟩
theorem k_placed (l : Launch) (GA GB : aw_G) {a b : aw_S} (h : iv_I a b) (p1 p2 p3 p4 : Int32) : ∃ (r : Int32) (a' b' : aw_S), aw_Ct l yX11_placed M_Mo_placed GA B_Mo_placed (.ref 0 :: [.int p1, .int p2, .int p3, .int p4]) xA a (some (.int r), xA, a') ∧ aw_Ct l yX12_placed M_Rf_placed GB B_Rf_placed (.ref 0 :: [.int p1, .int p2, .int p3, .int p4]) xB b (some (.int r), xB, b') ∧ iv_I a' b' := by
  obtain ⟨r, e1, e2⟩ := q_placed (iv_P h) p1 p2 p3 p4
  exact ⟨r, a, b, c_Mo_placed e1, c_Rf_placed e2, h⟩
theorem k_placement (l : Launch) (GA GB : aw_G) {a b : aw_S} (h : iv_I a b) (p1 p2 p3 : Int32) : ∃ (r : Int32) (a' b' : aw_S), aw_Ct l yX11_placement M_Mo_placement GA B_Mo_placement (.ref 0 :: [.int p1, .int p2, .int p3]) xA a (some (.int r), xA, a') ∧ aw_Ct l yX12_placement M_Rf_placement GB B_Rf_placement (.ref 0 :: [.int p1, .int p2, .int p3]) xB b (some (.int r), xB, b') ∧ iv_I a' b' := by
  obtain ⟨r, e1, e2⟩ := q_placement (iv_P h) p1 p2 p3
  exact ⟨r, a, b, c_Mo_placement e1, c_Rf_placement e2, h⟩
theorem k_shared (l : Launch) (GA GB : aw_G) {a b : aw_S} (h : iv_I a b) (p1 p2 : Int32) : ∃ (r : Int32) (a' b' : aw_S), aw_Ct l yX11_shared M_Mo_shared GA B_Mo_shared (.ref 0 :: [.int p1, .int p2]) xA a (some (.int r), xA, a') ∧ aw_Ct l yX12_shared M_Rf_shared GB B_Rf_shared (.ref 0 :: [.int p1, .int p2]) xB b (some (.int r), xB, b') ∧ iv_I a' b' := by
  obtain ⟨r, b', e1, e2, hI⟩ := i_shared h p1 p2
  exact ⟨r, a, b', c_Mo_shared e1, c_Rf_shared (t := (r, b')) e2, hI⟩
theorem k_most (l : Launch) (GA GB : aw_G) {a b : aw_S} (h : iv_I a b) (p1 : Int32) : ∃ (r : Int32) (a' b' : aw_S), aw_Ct l yX11_most M_Mo_most GA B_Mo_most (.ref 0 :: [.int p1]) xA a (some (.int r), xA, a') ∧ aw_Ct l yX12_most M_Rf_most GB B_Rf_most (.ref 0 :: [.int p1]) xB b (some (.int r), xB, b') ∧ iv_I a' b' := by
  obtain ⟨r, e1, e2⟩ := q_most (iv_P h) p1
  exact ⟨r, a, b, c_Mo_most e1, c_Rf_most e2, h⟩
theorem k_letter (l : Launch) (GA GB : aw_G) {a b : aw_S} (h : iv_I a b) (p1 p2 : Int32) : ∃ (r : Int32) (a' b' : aw_S), aw_Ct l yX11_letter M_Mo_letter GA B_Mo_letter (.ref 0 :: [.int p1, .int p2]) xA a (some (.int r), xA, a') ∧ aw_Ct l yX12_letter M_Rf_letter GB B_Rf_letter (.ref 0 :: [.int p1, .int p2]) xB b (some (.int r), xB, b') ∧ iv_I a' b' := by
  obtain ⟨⟨r, a'⟩, ⟨r', b'⟩, e1, e2, eq, hI⟩ := i_letter h p1 p2
  have eq : r = r' := eq
  subst eq
  exact ⟨r, a', b', c_Mo_letter (t := (r, a')) e1, c_Rf_letter (t := (r, b')) e2, hI⟩
theorem k_run (l : Launch) (GA GB : aw_G) {a b : aw_S} (h : iv_I a b) (p1 p2 : Int32) : ∃ (r : Int32) (a' b' : aw_S), aw_Ct l yX11_run M_Mo_run GA B_Mo_run (.ref 0 :: [.int p1, .int p2]) xA a (some (.int r), xA, a') ∧ aw_Ct l yX12_run M_Rf_run GB B_Rf_run (.ref 0 :: [.int p1, .int p2]) xB b (some (.int r), xB, b') ∧ iv_I a' b' := by
  obtain ⟨⟨r, a'⟩, ⟨r', b'⟩, e1, e2, eq, hI⟩ := i_run h p1 p2
  have eq : r = r' := eq
  subst eq
  exact ⟨r, a', b', c_Mo_run (t := (r, a')) e1, c_Rf_run (t := (r, b')) e2, hI⟩
theorem k_computed (l : Launch) (GA GB : aw_G) {a b : aw_S} (h : iv_I a b) (p1 : Int32) : ∃ (r : Int32) (a' b' : aw_S), aw_Ct l yX11_computed M_Mo_computed GA B_Mo_computed (.ref 0 :: [.int p1]) xA a (some (.int r), xA, a') ∧ aw_Ct l yX12_computed M_Rf_computed GB B_Rf_computed (.ref 0 :: [.int p1]) xB b (some (.int r), xB, b') ∧ iv_I a' b' := by
  obtain ⟨r, e1, e2⟩ := i_computed h p1
  exact ⟨r, a, b, c_Mo_computed e1, c_Rf_computed e2, h⟩
theorem k_output (l : Launch) (GA GB : aw_G) {a b : aw_S} (h : iv_I a b) (p1 : Int32) : ∃ (r : Int32) (a' b' : aw_S), aw_Ct l yX11_output M_Mo_output GA B_Mo_output (.ref 0 :: [.int p1]) xA a (some (.int r), xA, a') ∧ aw_Ct l yX12_output M_Rf_output GB B_Rf_output (.ref 0 :: [.int p1]) xB b (some (.int r), xB, b') ∧ iv_I a' b' := by
  obtain ⟨r, e1, e2⟩ := i_output h p1
  exact ⟨r, a, b, c_Mo_output e1, c_Rf_output e2, h⟩
theorem k_behind (l : Launch) (GA GB : aw_G) {a b : aw_S} (h : iv_I a b) (p1 : Int32) : ∃ (r : Int32) (a' b' : aw_S), aw_Ct l yX11_behind M_Mo_behind GA B_Mo_behind (.ref 0 :: [.int p1]) xA a (some (.int r), xA, a') ∧ aw_Ct l yX12_behind M_Rf_behind GB B_Rf_behind (.ref 0 :: [.int p1]) xB b (some (.int r), xB, b') ∧ iv_I a' b' := by
  obtain ⟨r, e1, e2⟩ := i_behind h p1
  exact ⟨r, a, b, c_Mo_behind e1, c_Rf_behind e2, h⟩
theorem k_alike (l : Launch) (GA GB : aw_G) {a b : aw_S} (h : iv_I a b) (p1 : Int32) : ∃ (r : Int32) (a' b' : aw_S), aw_Ct l yX11_alike M_Mo_alike GA B_Mo_alike (.ref 0 :: [.int p1]) xA a (some (.int r), xA, a') ∧ aw_Ct l yX12_alike M_Rf_alike GB B_Rf_alike (.ref 0 :: [.int p1]) xB b (some (.int r), xB, b') ∧ iv_I a' b' := by
  obtain ⟨⟨r, a'⟩, ⟨r', b'⟩, e1, e2, eq, hI⟩ := i_alike h p1
  have eq : r = r' := eq
  subst eq
  exact ⟨r, a', b', c_Mo_alike (t := (r, a')) e1, c_Rf_alike (t := (r, b')) e2, hI⟩
theorem k_live (l : Launch) (GA GB : aw_G) {a b : aw_S} (h : iv_I a b) (p1 : Int32) : ∃ (r : Int32) (a' b' : aw_S), aw_Ct l yX11_live M_Mo_live GA B_Mo_live (.ref 0 :: [.int p1]) xA a (some (.int r), xA, a') ∧ aw_Ct l yX12_live M_Rf_live GB B_Rf_live (.ref 0 :: [.int p1]) xB b (some (.int r), xB, b') ∧ iv_I a' b' := by
  obtain ⟨r, e1, e2⟩ := q_live (iv_P h) p1
  exact ⟨r, a, b, c_Mo_live e1, c_Rf_live e2, h⟩
theorem k_dead (l : Launch) (GA GB : aw_G) {a b : aw_S} (h : iv_I a b) (p1 : Int32) : ∃ (r : Int32) (a' b' : aw_S), aw_Ct l yX11_dead M_Mo_dead GA B_Mo_dead (.ref 0 :: [.int p1]) xA a (some (.int r), xA, a') ∧ aw_Ct l yX12_dead M_Rf_dead GB B_Rf_dead (.ref 0 :: [.int p1]) xB b (some (.int r), xB, b') ∧ iv_I a' b' := by
  obtain ⟨r, e1, e2⟩ := q_dead (iv_P h) p1
  exact ⟨r, a, b, c_Mo_dead e1, c_Rf_dead e2, h⟩
theorem k_again (l : Launch) (GA GB : aw_G) {a b : aw_S} (h : iv_I a b) (p1 p2 : Int32) : ∃ (r : Int32) (a' b' : aw_S), aw_Ct l yX11_again M_Mo_again GA B_Mo_again (.ref 0 :: [.int p1, .int p2]) xA a (some (.int r), xA, a') ∧ aw_Ct l yX12_again M_Rf_again GB B_Rf_again (.ref 0 :: [.int p1, .int p2]) xB b (some (.int r), xB, b') ∧ iv_I a' b' := by
  obtain ⟨r, b', e1, e2, hI⟩ := i_again h p1 p2
  exact ⟨r, a, b', c_Mo_again e1, c_Rf_again (t := (r, b')) e2, hI⟩
theorem k_over (l : Launch) (GA GB : aw_G) {a b : aw_S} (h : iv_I a b) (p1 p2 : Int32) : ∃ (r : Int32) (a' b' : aw_S), aw_Ct l yX11_over M_Mo_over GA B_Mo_over (.ref 0 :: [.int p1, .int p2]) xA a (some (.int r), xA, a') ∧ aw_Ct l yX12_over M_Rf_over GB B_Rf_over (.ref 0 :: [.int p1, .int p2]) xB b (some (.int r), xB, b') ∧ iv_I a' b' := by
  obtain ⟨r, e1, e2⟩ := q_over (iv_P h) p1 p2
  exact ⟨r, a, b, c_Mo_over e1, c_Rf_over e2, h⟩
theorem k_depth (l : Launch) (GA GB : aw_G) {a b : aw_S} (h : iv_I a b) (p1 : Int32) : ∃ (r : Int32) (a' b' : aw_S), aw_Ct l yX11_depth M_Mo_depth GA B_Mo_depth (.ref 0 :: [.int p1]) xA a (some (.int r), xA, a') ∧ aw_Ct l yX12_depth M_Rf_depth GB B_Rf_depth (.ref 0 :: [.int p1]) xB b (some (.int r), xB, b') ∧ iv_I a' b' := by
  obtain ⟨r, e1, e2⟩ := q_depth (iv_P h) p1
  exact ⟨r, a, b, c_Mo_depth e1, c_Rf_depth e2, h⟩
theorem k_heads (l : Launch) (GA GB : aw_G) {a b : aw_S} (h : iv_I a b) : ∃ (r : Int32) (a' b' : aw_S), aw_Ct l yX11_heads M_Mo_heads GA B_Mo_heads (.ref 0 :: []) xA a (some (.int r), xA, a') ∧ aw_Ct l yX12_heads M_Rf_heads GB B_Rf_heads (.ref 0 :: []) xB b (some (.int r), xB, b') ∧ iv_I a' b' := by
  obtain ⟨r, e1, e2⟩ := q_heads (iv_P h) 
  exact ⟨r, a, b, c_Mo_heads e1, c_Rf_heads e2, h⟩
theorem k_weight (l : Launch) (GA GB : aw_G) {a b : aw_S} (h : iv_I a b) (p1 : Int32) : ∃ (r : Int64) (a' b' : aw_S), aw_Ct l yX11_weight M_Mo_weight GA B_Mo_weight (.ref 0 :: [.int p1]) xA a (some (.long r), xA, a') ∧ aw_Ct l yX12_weight M_Rf_weight GB B_Rf_weight (.ref 0 :: [.int p1]) xB b (some (.long r), xB, b') ∧ iv_I a' b' := by
  obtain ⟨r, e1, e2⟩ := q_weight (iv_P h) h.1.2.2.2.1 p1
  exact ⟨r, a, b, c_Mo_weight e1, c_Rf_weight e2, h⟩
theorem k_others (l : Launch) (GA GB : aw_G) {a b : aw_S} (h : iv_I a b) (p1 p2 : Int32) : ∃ (r : Int32) (a' b' : aw_S), aw_Ct l yX11_others M_Mo_others GA B_Mo_others (.ref 0 :: [.int p1, .int p2]) xA a (some (.int r), xA, a') ∧ aw_Ct l yX12_others M_Rf_others GB B_Rf_others (.ref 0 :: [.int p1, .int p2]) xB b (some (.int r), xB, b') ∧ iv_I a' b' := by
  obtain ⟨⟨r, a'⟩, ⟨r', b'⟩, e1, e2, eq, hI⟩ := i_others h p1 p2
  have eq : r = r' := eq
  subst eq
  exact ⟨r, a', b', c_Mo_others (t := (r, a')) e1, c_Rf_others (t := (r, b')) e2, hI⟩
theorem k_ways (l : Launch) (GA GB : aw_G) {a b : aw_S} (h : iv_I a b) (p1 p2 p3 : Int32) : ∃ (r : Int64) (a' b' : aw_S), aw_Ct l yX11_ways M_Mo_ways GA B_Mo_ways (.ref 0 :: [.int p1, .int p2, .int p3]) xA a (some (.long r), xA, a') ∧ aw_Ct l yX12_ways M_Rf_ways GB B_Rf_ways (.ref 0 :: [.int p1, .int p2, .int p3]) xB b (some (.long r), xB, b') ∧ iv_I a' b' := by
  obtain ⟨r, a', b', e1, e2, hI⟩ := i_ways h p1 p2 p3
  exact ⟨r, a', b', c_Mo_ways (t := (r, a')) e1, c_Rf_ways (t := (r, b')) e2, hI⟩
theorem k_keep (l : Launch) (GA GB : aw_G) {a b : aw_S} (h : iv_I a b) (p1 : Int32) : ∃ (r : Int32) (a' b' : aw_S), aw_Ct l yX11_keep M_Mo_keep GA B_Mo_keep (.ref 0 :: [.int p1]) xA a (some (.int r), xA, a') ∧ aw_Ct l yX12_keep M_Rf_keep GB B_Rf_keep (.ref 0 :: [.int p1]) xB b (some (.int r), xB, b') ∧ iv_I a' b' := by
  obtain ⟨⟨r, a'⟩, ⟨r', b'⟩, e1, e2, eq, hI⟩ := i_keep h p1
  have eq : r = r' := eq
  subst eq
  exact ⟨r, a', b', c_Mo_keep (t := (r, a')) e1, c_Rf_keep (t := (r, b')) e2, hI⟩
theorem k_back (l : Launch) (GA GB : aw_G) {a b : aw_S} (h : iv_I a b) (p1 : Int32) : ∃ (r : Int32) (a' b' : aw_S), aw_Ct l yX11_back M_Mo_back GA B_Mo_back (.ref 0 :: [.int p1]) xA a (some (.int r), xA, a') ∧ aw_Ct l yX12_back M_Rf_back GB B_Rf_back (.ref 0 :: [.int p1]) xB b (some (.int r), xB, b') ∧ iv_I a' b' := by
  obtain ⟨⟨r, a'⟩, ⟨r', b'⟩, e1, e2, eq, hI⟩ := i_back h p1
  have eq : r = r' := eq
  subst eq
  exact ⟨r, a', b', c_Mo_back (t := (r, a')) e1, c_Rf_back (t := (r, b')) e2, hI⟩
theorem k_write (l : Launch) (GA GB : aw_G) {a b : aw_S} (h : iv_I a b) (p1 p2 : Int32) : ∃ (r : Int32) (a' b' : aw_S), aw_Ct l yX11_write M_Mo_write GA B_Mo_write (.ref 0 :: [.int p1, .int p2]) xA a (some (.int r), xA, a') ∧ aw_Ct l yX12_write M_Rf_write GB B_Rf_write (.ref 0 :: [.int p1, .int p2]) xB b (some (.int r), xB, b') ∧ iv_I a' b' := by
  obtain ⟨⟨r, a'⟩, ⟨r', b'⟩, e1, e2, eq, hI⟩ := i_write h p1 p2
  have eq : r = r' := eq
  subst eq
  exact ⟨r, a', b', c_Mo_write (t := (r, a')) e1, c_Rf_write (t := (r, b')) e2, hI⟩
theorem k_octet (l : Launch) (GA GB : aw_G) {a b : aw_S} (h : iv_I a b) (p1 : Int32) : ∃ (r : Int32) (a' b' : aw_S), aw_Ct l yX11_octet M_Mo_octet GA B_Mo_octet (.ref 0 :: [.int p1]) xA a (some (.int r), xA, a') ∧ aw_Ct l yX12_octet M_Rf_octet GB B_Rf_octet (.ref 0 :: [.int p1]) xB b (some (.int r), xB, b') ∧ iv_I a' b' := by
  obtain ⟨r, e1, e2⟩ := i_octet h p1
  exact ⟨r, a, b, c_Mo_octet e1, c_Rf_octet e2, h⟩

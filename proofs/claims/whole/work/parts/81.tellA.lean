/-! ===== the class: a placement is told ===== -/
theorem ap_tell {s : aw_S} {o n : Nat} {x y : Int32} (hn : n < 128) : ao_ok (m_Pl_tell s o (nI n) x y) (fun t => t = aw_sI (aw_sI s (o + 1) n x) (o + 2) n y) := by
  unfold m_Pl_tell
  rw [nI_clamp (show n < 2 ^ 31 by omega)]
  exact ao_ifn (nI_pos (by omega)) (ao_ifn (nI_ge (b := 128) hn (by omega)) (ao_gd (vp_in_nI hn (by omega)) (ao_let (ao_gd (vp_in_nI hn (by omega)) (ao_let (ao_some rfl))))))

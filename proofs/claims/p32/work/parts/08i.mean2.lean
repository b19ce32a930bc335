/-! 08i: the mean, of a sum in bounds -/
theorem mean_ok {S : Int32} (h : bnd 7992 S) : vf_n64 (FP.ddiv (FP.i2d S) 4620693217682128896) ∧ vf_n64 (FP.dmul (FP.ddiv (FP.i2d S) 4620693217682128896) 4620693217682128896) ∧ Op.cmpValue (FP.dcmp (FP.dmul (FP.ddiv (FP.i2d S) 4620693217682128896) 4620693217682128896) (FP.i2d S)) .l = 0 ∧ Op.cmpValue (FP.dcmp (FP.ddiv (FP.i2d S) 4620693217682128896) (FP.ddiv (FP.i2d S) 4620693217682128896)) .l = 0 := by
  obtain ⟨n, hn, rfl⟩ := h
  have e := mn_all n (by omega)
  unfold mnB at e
  rw [Bool.and_eq_true, Bool.and_eq_true, Bool.and_eq_true] at e
  obtain ⟨h1, h2, h3, h4⟩ := e
  refine ⟨?_, ?_, of_decide_eq_true h3, of_decide_eq_true h4⟩
  · unfold vf_n64; exact of_decide_eq_true h1
  · unfold vf_n64; exact of_decide_eq_true h2

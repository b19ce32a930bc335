/-! 10c: what the launch gives at the entry -/
theorem k_arr {args : Array Value} {s : State} (ty : FieldType) (hra : ∀ (U : State) (c : ClassId), U.vm.findClass ("[" ++ ty.toString) = some c → va_RA U c ty) (h : (Cond.arrayClass ty).before args s = true) : ∃ cA : ClassId, ArrOfT s cA ty ∧ va_RA s cA ty := by
  simp only [Cond.before, Cond.holds, Cond.value] at h
  cases h1 : s.vm.findClass ("[" ++ ty.toString) with
  | none => simp [h1] at h
  | some cA =>
    cases h2 : s.vm.classes[cA]? with
    | none => simp [h1, h2] at h
    | some kA =>
      cases h3 : kA.kind with
      | array comp t =>
        simp [h1, h2, h3] at h
        subst h
        exact ⟨cA, fun n z => ⟨fun k h => (by cases h), kA, h2, comp, h3⟩, hra s cA h1⟩
      | _ => simp [h1, h2, h3] at h
theorem kAr_int : Cond.arrayClass .int ∈ lw_tbl := by decide +kernel
theorem kAr_over : Cond.arrayOver (.array .int) ∈ lw_tbl := by decide +kernel
theorem kNest : Cond.methodLinkNest RL 69 yX4_init "GlacierYearsLaw" ∈ lw_tbl := by decide +kernel
theorem kIn_X0 : Cond.instantiable RX0 7 ∈ lw_tbl := by decide +kernel
theorem kIn_X1 : Cond.instantiable RX1 3 ∈ lw_tbl := by decide +kernel
theorem kIn_X2 : Cond.instantiable RX2 1 ∈ lw_tbl := by decide +kernel
theorem kIn_X3 : Cond.instantiable RX3 4 ∈ lw_tbl := by decide +kernel
theorem kIn_X4 : Cond.instantiable RX4 5 ∈ lw_tbl := by decide +kernel
theorem k_world {s : State} {b : Nat} (hts : ∀ w ∈ lw_tbl, w.before #[Value.ref b] s = true) : ∃ (D : va_G) (cI cQ : ClassId), va_K D vwCl [(cI, FieldType.int), (cQ, FieldType.array FieldType.int)] s ∧ kJ cI cQ s := by
  obtain ⟨c0, i0, k0⟩ := u_known (C := RX0) (T := TX0) (N := 7) (n := 7) hts inX0 (hts _ kIn_X0)
  obtain ⟨c1, i1, k1⟩ := u_known (C := RX1) (T := TX1) (N := 3) (n := 3) hts inX1 (hts _ kIn_X1)
  obtain ⟨c2, i2, k2⟩ := u_known (C := RX2) (T := TX2) (N := 1) (n := 1) hts inX2 (hts _ kIn_X2)
  obtain ⟨c3, i3, k3⟩ := u_known (C := RX3) (T := TX3) (N := 4) (n := 4) hts inX3 (hts _ kIn_X3)
  obtain ⟨c4, i4, k4⟩ := u_known (C := RX4) (T := TX4) (N := 5) (n := 5) hts inX4 (hts _ kIn_X4)
  obtain ⟨cI, a1, a2⟩ := k_arr .int (fun _ _ h => h) (hts _ kAr_int)
  have hov := hts _ kAr_over
  obtain ⟨comp, cQ, kA, h1, -, h3, h4, h5⟩ := arrayOverA_spec hov
  have e1 : (FieldType.array FieldType.int).toString = "[I" := by decide +kernel
  have e2 : ("[" ++ (FieldType.array FieldType.int).toString : String) = "[[I" := by decide +kernel
  have hcI := va_nm_int a2
  have h5b := h5
  rw [e1] at h1
  rw [e2] at h5b
  have ec : comp = cI := Option.some.inj (h1.symm.trans hcI)
  rw [ec] at h4
  refine ⟨(fun k => if k = 0 then c0 else if k = 1 then c1 else if k = 2 then c2 else if k = 3 then c3 else c4, fun k => if k = 0 then i0 else if k = 1 then i1 else if k = 2 then i2 else if k = 3 then i3 else i4), cI, cQ, ⟨fun c q hq => ?_, fun k q hq => ?_⟩, ⟨hov, h5b, ⟨kA, h3, h4⟩, va_Nw.of rfl (hts _ kNest)⟩⟩
  · match c, hq with
    | 0, hq => cases hq; exact k0
    | 1, hq => cases hq; exact k1
    | 2, hq => cases hq; exact k2
    | 3, hq => cases hq; exact k3
    | 4, hq => cases hq; exact k4
    | c + 5, hq => simp [vwCl] at hq
  · match k, hq with
    | 0, hq => cases hq; exact ⟨a1, a2⟩
    | 1, hq => cases hq; exact ⟨fun n z => ⟨fun k h => (by cases h), kA, h3, cI, h4⟩, h5⟩
    | k + 2, hq => simp at hq

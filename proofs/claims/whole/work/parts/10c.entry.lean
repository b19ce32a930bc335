/-! 10c: what the launch gives at the entry -/
theorem k_arr {args : Array Value} {s : State} (ty : FieldType) (hra : ∀ (U : State) (c : ClassId), U.vm.findClass ("[" ++ ty.toString) = some c → va_RA U c ty) (h : (Cond.arrayClass ty).before args s = true) : ∃ cA : ClassId, ArrOfT s cA ty ∧ va_RA s cA ty := by
  simp only [Cond.before, Cond.holds, Cond.value] at h
  cases h1 : s.vm.findClass ("[" ++ ty.toString) with
  | none => simp [h1] at h
  | some cA =>
    cases h2 : s.vm.classes[cA]? with
    | none => simp [h1, h2] at h
    | some kA =>
      cases h3 : kA.kind with
      | array comp t =>
        simp [h1, h2, h3] at h
        subst h
        exact ⟨cA, fun n z => ⟨fun k h => (by cases h), kA, h2, comp, h3⟩, hra s cA h1⟩
      | _ => simp [h1, h2, h3] at h
theorem k_noTrace {l : Launch} (h : l.flags = flags0) : l.stackTraces = false := by
  unfold Launch.stackTraces
  rw [h]
  decide
theorem kD0 : Cond.declares (Bundle.initS "java/lang/RuntimeException") ∈ lw_tbl := by decide +kernel
theorem kD1 : Cond.declares (Bundle.initS "java/lang/Exception") ∈ lw_tbl := by decide +kernel
theorem kD2 : Cond.declares (Bundle.initS "java/lang/Throwable") ∈ lw_tbl := by decide +kernel
theorem kCI : Cond.castable xEI xEI ∈ lw_tbl := by decide +kernel
theorem kCA : Cond.castable xEA xEA ∈ lw_tbl := by decide +kernel
theorem kCS : Cond.castable xES xES ∈ lw_tbl := by decide +kernel
theorem kSx : ∀ q ∈ kTx, Cond.stringRef RX3 q.1 q.2 ∈ lw_tbl := by decide +kernel
theorem kL1 : Cond.laysStatic Bundle.tN "UNASSIGNED_STACK" Bundle.steD ∈ lw_tbl := by decide +kernel
theorem kL2 : Cond.laysStatic Bundle.tN "SUPPRESSED_SENTINEL" Bundle.listD ∈ lw_tbl := by decide +kernel
theorem kL3 : Cond.initialized Bundle.tN ∈ lw_tbl := by decide +kernel
theorem kAr_int : Cond.arrayClass .int ∈ lw_tbl := by decide +kernel
theorem kAr_boolean : Cond.arrayClass .boolean ∈ lw_tbl := by decide +kernel
theorem kAr_long : Cond.arrayClass .long ∈ lw_tbl := by decide +kernel
theorem kIn_X0 : Cond.instantiable RX0 7 ∈ lw_tbl := by decide +kernel
theorem kIn_X1 : Cond.instantiable RX1 3 ∈ lw_tbl := by decide +kernel
theorem kIn_X2 : Cond.instantiable RX2 1 ∈ lw_tbl := by decide +kernel
theorem kIn_X3 : Cond.instantiable RX3 4 ∈ lw_tbl := by decide +kernel
theorem kIn_X4 : Cond.instantiable RX4 13 ∈ lw_tbl := by decide +kernel
theorem k_start {s : State} {b : Nat} (hts : ∀ w ∈ lw_tbl, w.before #[Value.ref b] s = true) (hgv : (Jvm.Cond.and given_1 narrow_1).before #[Value.ref b] s = true) : kZ (fun q => s.heap.size ≤ q) s s.heap := by
  have hs := flat_of_before _ hgv
  refine ⟨⟨⟨va_Nw.of rfl (hts _ kD0), va_Nw.of rfl (hts _ kD1), va_Nw.of rfl (hts _ kD2)⟩, ⟨va_Nw.of rfl (hts _ kCI), va_Nw.of rfl (hts _ kCA), va_Nw.of rfl (hts _ kCS)⟩, ⟨va_Nc.of (hs (Cond.not (.castable xEA xEI)) (by decide +kernel)), va_Nc.of (hs (Cond.not (.castable xES xEI)) (by decide +kernel)), va_Nc.of (hs (Cond.not (.castable xES xEA)) (by decide +kernel))⟩, fun q hq => ?_⟩, ?_, ?_⟩
  · have hsr := hts _ (kSx q hq)
    have hex : (Cond.exactly (.string RX3 q.1) "java/lang/String").before #[Value.ref b] s = true := by
      have key : ∀ q ∈ kTx, (Cond.exactly (.string RX3 q.1) "java/lang/String") ∈ flatC (Jvm.Cond.and given_1 narrow_1) := by decide +kernel
      exact hs _ (key q hq)
    obtain ⟨a, -, -, -, h1, -⟩ := Cond.exactly_spec hex
    exact ⟨a, vk_R.of hsr h1⟩
  · exact vx_Zqof (hts _ kL1) (hts _ kL3) (hs (Cond.isRef (.static Bundle.tN "UNASSIGNED_STACK" Bundle.steD)) (by decide +kernel)) (fun a h1 h2 => absurd h2 (Nat.not_le.mpr h1))
  · exact vx_Zqof (hts _ kL2) (hts _ kL3) (hs (Cond.isRef (.static Bundle.tN "SUPPRESSED_SENTINEL" Bundle.listD)) (by decide +kernel)) (fun a h1 h2 => absurd h2 (Nat.not_le.mpr h1))
theorem k_world {s : State} {b : Nat} (hts : ∀ w ∈ lw_tbl, w.before #[Value.ref b] s = true) : ∃ (D : va_G) (cI cZ cJ : ClassId), va_K D vwCl [(cI, FieldType.int), (cZ, FieldType.boolean), (cJ, FieldType.long)] s := by
  obtain ⟨c0, i0, k0⟩ := u_known (C := RX0) (T := TX0) (N := 7) (n := 7) hts inX0 (hts _ kIn_X0)
  obtain ⟨c1, i1, k1⟩ := u_known (C := RX1) (T := TX1) (N := 3) (n := 3) hts inX1 (hts _ kIn_X1)
  obtain ⟨c2, i2, k2⟩ := u_known (C := RX2) (T := TX2) (N := 1) (n := 1) hts inX2 (hts _ kIn_X2)
  obtain ⟨c3, i3, k3⟩ := u_known (C := RX3) (T := TX3) (N := 4) (n := 4) hts inX3 (hts _ kIn_X3)
  obtain ⟨c4, i4, k4⟩ := u_known (C := RX4) (T := TX4) (N := 13) (n := 13) hts inX4 (hts _ kIn_X4)
  obtain ⟨cI, a1, a2⟩ := k_arr .int (fun _ _ h => h) (hts _ kAr_int)
  obtain ⟨cZ, b1, b2⟩ := k_arr .boolean (fun _ _ h => h) (hts _ kAr_boolean)
  obtain ⟨cJ, d1, d2⟩ := k_arr .long (fun _ _ h => h) (hts _ kAr_long)
  refine ⟨(fun k => if k = 0 then c0 else if k = 1 then c1 else if k = 2 then c2 else if k = 3 then c3 else c4, fun k => if k = 0 then i0 else if k = 1 then i1 else if k = 2 then i2 else if k = 3 then i3 else i4), cI, cZ, cJ, fun c q hq => ?_, fun k q hq => ?_⟩
  · match c, hq with
    | 0, hq => cases hq; exact k0
    | 1, hq => cases hq; exact k1
    | 2, hq => cases hq; exact k2
    | 3, hq => cases hq; exact k3
    | 4, hq => cases hq; exact k4
    | c + 5, hq => simp [vwCl] at hq
  · match k, hq with
    | 0, hq => cases hq; exact ⟨a1, a2⟩
    | 1, hq => cases hq; exact ⟨b1, b2⟩
    | 2, hq => cases hq; exact ⟨d1, d2⟩
    | k + 3, hq => simp at hq

/-! 03b: Layers, its methods (laid by wip/p32/gen) -/
def prevSeal (Z : Nat → Int32) : Nat → Int32
  | 0 => nI 17
  | j + 1 => Z j
def sealW (K : Nat → Int32) (O : Nat → Nat) (T : Nat → Int32) (j : Nat) (w0 : Int32) : Nat → Int32
  | 0 => w0
  | d + 1 => irem (sealW K O T j w0 d * nI 31 + K (j * 12 + d) + nI (O (j * 12 + d) * 5) + T (j * 12 + d) * nI 7) (nI 10007)
def sealF (K : Nat → Int32) (O : Nat → Nat) (T : Nat → Int32) (M : Nat → Nat) (Z : Nat → Int32) (j : Nat) : Int32 := sealW K O T j (prevSeal Z j) (M j)
def againN (K : Nat → Int32) (O : Nat → Nat) (T : Nat → Int32) (j : Nat) (f : Nat → Int32) : Nat → Nat → Int32
  | 0 => f
  | d + 1 => perf (againN K O T j f d) (K (j * 12 + d)) (O (j * 12 + d)) (T (j * 12 + d))
/-- the places from k on, y of them: 0 -/
def dropM (M : Nat → Nat) (k : Nat) : Nat → Nat → Nat
  | 0 => M
  | d + 1 => upN (dropM M k d) (k + d) 0
theorem iu_X0_init_X0 : ∀ w ∈ wsX00, w ∈ wsX0_init := fun w h => (List.mem_cons_of_mem _ (List.mem_append_right _ h))
def rm_c_X0_init : Room := { frames := 1, cells := 5, slots := 1520, locals := 24 }
set_option maxHeartbeats 4000000 in
set_option maxRecDepth 100000 in
theorem c_X0_init (l : Launch) (D : va_G) (cI : ClassId) (oL : Nat) :
    kM l yX0_init wsX0_init rm_c_X0_init D [(cI, FieldType.int)] [.ref oL] [(oL, .inr (0, [.null, .null, .null, .null, .null, .int (nI 0), .int (nI 0)]))] (fun _ : Nat × Nat × Nat × Nat × Nat => True) (fun u => none) (fun u => [(oL, .inr (0, [.ref u.1, .ref u.2.1, .ref u.2.2.1, .ref u.2.2.2.1, .ref u.2.2.2.2, .int (nI 0), .int (nI 0)])), (u.1, .inl (cI, 480, .inl zF)), (u.2.1, .inl (cI, 480, .inl (nF zN))), (u.2.2.1, .inl (cI, 480, .inl zF)), (u.2.2.2.1, .inl (cI, 40, .inl (nF zN))), (u.2.2.2.2, .inl (cI, 40, .inl zF))]) := by
  refine kM_of (cc := cX0_init) (maxL := 1) (ret := none) (own := RX0) (by decide) rfl rfl (Nat.le_of_ble_eq_true rfl) ?_
  intro p e s m args below meth c A ls Qz hx hb hml hr hts hown hlk hin hQ hA hS hP hD hK hl
  have hl : lv_has ls 1 [(0, .ref oL)] := hl
  refine lv_aload_n hx hb dX0_init_0 rfl (lv_at hl 0 rfl) ?_
  refine W.objInit hx hb hown (hts _ (List.mem_of_getElem? (i := 1) rfl)) (hts _ (List.mem_of_getElem? (i := 2) rfl)) (hts _ (List.mem_of_getElem? (i := 3) rfl)) rfl (by rw [hml]; exact hl.1) rfl dX0_init_1 (Nat.le_of_ble_eq_true rfl) (Nat.le_of_ble_eq_true rfl) ?_
  refine W.eq (g2 := F0 m 4 ls []) rfl ?_
  refine lv_aload_n hx hb dX0_init_4 rfl (lv_at hl 0 rfl) ?_
  refine lv_sipush (v := (nI 480)) hx hb dX0_init_5 (by decide) ?_
  refine k_newa (ty := .int) (atype := .int) (cA := cI) (con := .inl zF) (k := 1) (n2 := 480) hx hb (hts _ (List.mem_of_getElem? (i := 4) rfl)) rfl hK 0 rfl hP hD hS hA (N9 := 480) (fun _ => rfl) (nI_clamp (by decide)) (by decide) (by decide) (Nat.le_refl _) (Nat.le_refl _) (Nat.le_of_ble_eq_true rfl) (Nat.le_of_ble_eq_true rfl) dX0_init_8 (fun q_1 H hP hD hS => ?_)
  have hP : va_P D vwCl [(oL, .inr (0, [.null, .null, .null, .null, .null, .int (nI 0), .int (nI 0)])), (q_1, .inl (cI, 480, .inl zF))] H := hP
  have hD : va_D A [(oL, .inr (0, [.null, .null, .null, .null, .null, .int (nI 0), .int (nI 0)])), (q_1, .inl (cI, 480, .inl zF))] := hD
  refine va_putF (D := D) (ci := 0) (v := .ref q_1) (ty := .array .int) (C := RX0) (T := TX0) (N := 7) hx hb hts iu_X0_init_X0 tyX0 tyX0_ok nmX0 hown hK hP hD hS 0 rfl rfl 0 (by decide) (hts _ (List.mem_of_getElem? (i := 5) rfl)) (fun _ h9 => h9) rfl (hin rfl) rfl (by decide +kernel) rfl rfl (Nat.le_of_ble_eq_true rfl) dX0_init_10 (fun H locs hP hD hS => ?_)
  have hP : va_P D vwCl [(oL, .inr (0, [.ref q_1, .null, .null, .null, .null, .int (nI 0), .int (nI 0)])), (q_1, .inl (cI, 480, .inl zF))] H := hP
  have hD : va_D A [(oL, .inr (0, [.ref q_1, .null, .null, .null, .null, .int (nI 0), .int (nI 0)])), (q_1, .inl (cI, 480, .inl zF))] := hD
  refine lv_aload_n hx hb dX0_init_13 rfl (lv_at hl 0 rfl) ?_
  refine lv_sipush (v := (nI 480)) hx hb dX0_init_14 (by decide) ?_
  refine k_newa (ty := .int) (atype := .int) (cA := cI) (con := .inl zF) (k := 2) (n2 := 960) hx hb (hts _ (List.mem_of_getElem? (i := 4) rfl)) rfl hK 0 rfl hP hD hS hA (N9 := 480) (fun _ => rfl) (nI_clamp (by decide)) (by decide) (by decide) (Nat.le_refl _) (Nat.le_refl _) (Nat.le_of_ble_eq_true rfl) (Nat.le_of_ble_eq_true rfl) dX0_init_17 (fun q_2 H hP hD hS => ?_)
  have hP : va_P D vwCl [(oL, .inr (0, [.ref q_1, .null, .null, .null, .null, .int (nI 0), .int (nI 0)])), (q_1, .inl (cI, 480, .inl zF)), (q_2, .inl (cI, 480, .inl zF))] H := hP
  have hD : va_D A [(oL, .inr (0, [.ref q_1, .null, .null, .null, .null, .int (nI 0), .int (nI 0)])), (q_1, .inl (cI, 480, .inl zF)), (q_2, .inl (cI, 480, .inl zF))] := hD
  refine va_putF (D := D) (ci := 0) (v := .ref q_2) (ty := .array .int) (C := RX0) (T := TX0) (N := 7) hx hb hts iu_X0_init_X0 tyX0 tyX0_ok nmX0 hown hK hP hD hS 0 rfl rfl 1 (by decide) (hts _ (List.mem_of_getElem? (i := 6) rfl)) (fun _ h9 => h9) rfl (hin rfl) rfl (by decide +kernel) rfl rfl (Nat.le_of_ble_eq_true rfl) dX0_init_19 (fun H locs hP hD hS => ?_)
  have hP : va_P D vwCl [(oL, .inr (0, [.ref q_1, .ref q_2, .null, .null, .null, .int (nI 0), .int (nI 0)])), (q_1, .inl (cI, 480, .inl zF)), (q_2, .inl (cI, 480, .inl zF))] H := hP
  have hD : va_D A [(oL, .inr (0, [.ref q_1, .ref q_2, .null, .null, .null, .int (nI 0), .int (nI 0)])), (q_1, .inl (cI, 480, .inl zF)), (q_2, .inl (cI, 480, .inl zF))] := hD
  refine lv_aload_n hx hb dX0_init_22 rfl (lv_at hl 0 rfl) ?_
  refine lv_sipush (v := (nI 480)) hx hb dX0_init_23 (by decide) ?_
  refine k_newa (ty := .int) (atype := .int) (cA := cI) (con := .inl zF) (k := 3) (n2 := 1440) hx hb (hts _ (List.mem_of_getElem? (i := 4) rfl)) rfl hK 0 rfl hP hD hS hA (N9 := 480) (fun _ => rfl) (nI_clamp (by decide)) (by decide) (by decide) (Nat.le_refl _) (Nat.le_refl _) (Nat.le_of_ble_eq_true rfl) (Nat.le_of_ble_eq_true rfl) dX0_init_26 (fun q_3 H hP hD hS => ?_)
  have hP : va_P D vwCl [(oL, .inr (0, [.ref q_1, .ref q_2, .null, .null, .null, .int (nI 0), .int (nI 0)])), (q_1, .inl (cI, 480, .inl zF)), (q_2, .inl (cI, 480, .inl zF)), (q_3, .inl (cI, 480, .inl zF))] H := hP
  have hD : va_D A [(oL, .inr (0, [.ref q_1, .ref q_2, .null, .null, .null, .int (nI 0), .int (nI 0)])), (q_1, .inl (cI, 480, .inl zF)), (q_2, .inl (cI, 480, .inl zF)), (q_3, .inl (cI, 480, .inl zF))] := hD
  refine va_putF (D := D) (ci := 0) (v := .ref q_3) (ty := .array .int) (C := RX0) (T := TX0) (N := 7) hx hb hts iu_X0_init_X0 tyX0 tyX0_ok nmX0 hown hK hP hD hS 0 rfl rfl 2 (by decide) (hts _ (List.mem_of_getElem? (i := 7) rfl)) (fun _ h9 => h9) rfl (hin rfl) rfl (by decide +kernel) rfl rfl (Nat.le_of_ble_eq_true rfl) dX0_init_28 (fun H locs hP hD hS => ?_)
  have hP : va_P D vwCl [(oL, .inr (0, [.ref q_1, .ref q_2, .ref q_3, .null, .null, .int (nI 0), .int (nI 0)])), (q_1, .inl (cI, 480, .inl zF)), (q_2, .inl (cI, 480, .inl zF)), (q_3, .inl (cI, 480, .inl zF))] H := hP
  have hD : va_D A [(oL, .inr (0, [.ref q_1, .ref q_2, .ref q_3, .null, .null, .int (nI 0), .int (nI 0)])), (q_1, .inl (cI, 480, .inl zF)), (q_2, .inl (cI, 480, .inl zF)), (q_3, .inl (cI, 480, .inl zF))] := hD
  refine lv_aload_n hx hb dX0_init_31 rfl (lv_at hl 0 rfl) ?_
  refine lv_bipush (v := (nI 40)) hx hb dX0_init_32 (by decide) ?_
  refine k_newa (ty := .int) (atype := .int) (cA := cI) (con := .inl zF) (k := 4) (n2 := 1480) hx hb (hts _ (List.mem_of_getElem? (i := 4) rfl)) rfl hK 0 rfl hP hD hS hA (N9 := 40) (fun _ => rfl) (nI_clamp (by decide)) (by decide) (by decide) (Nat.le_refl _) (Nat.le_refl _) (Nat.le_of_ble_eq_true rfl) (Nat.le_of_ble_eq_true rfl) dX0_init_34 (fun q_4 H hP hD hS => ?_)
  have hP : va_P D vwCl [(oL, .inr (0, [.ref q_1, .ref q_2, .ref q_3, .null, .null, .int (nI 0), .int (nI 0)])), (q_1, .inl (cI, 480, .inl zF)), (q_2, .inl (cI, 480, .inl zF)), (q_3, .inl (cI, 480, .inl zF)), (q_4, .inl (cI, 40, .inl zF))] H := hP
  have hD : va_D A [(oL, .inr (0, [.ref q_1, .ref q_2, .ref q_3, .null, .null, .int (nI 0), .int (nI 0)])), (q_1, .inl (cI, 480, .inl zF)), (q_2, .inl (cI, 480, .inl zF)), (q_3, .inl (cI, 480, .inl zF)), (q_4, .inl (cI, 40, .inl zF))] := hD
  refine va_putF (D := D) (ci := 0) (v := .ref q_4) (ty := .array .int) (C := RX0) (T := TX0) (N := 7) hx hb hts iu_X0_init_X0 tyX0 tyX0_ok nmX0 hown hK hP hD hS 0 rfl rfl 3 (by decide) (hts _ (List.mem_of_getElem? (i := 8) rfl)) (fun _ h9 => h9) rfl (hin rfl) rfl (by decide +kernel) rfl rfl (Nat.le_of_ble_eq_true rfl) dX0_init_36 (fun H locs hP hD hS => ?_)
  have hP : va_P D vwCl [(oL, .inr (0, [.ref q_1, .ref q_2, .ref q_3, .ref q_4, .null, .int (nI 0), .int (nI 0)])), (q_1, .inl (cI, 480, .inl zF)), (q_2, .inl (cI, 480, .inl zF)), (q_3, .inl (cI, 480, .inl zF)), (q_4, .inl (cI, 40, .inl zF))] H := hP
  have hD : va_D A [(oL, .inr (0, [.ref q_1, .ref q_2, .ref q_3, .ref q_4, .null, .int (nI 0), .int (nI 0)])), (q_1, .inl (cI, 480, .inl zF)), (q_2, .inl (cI, 480, .inl zF)), (q_3, .inl (cI, 480, .inl zF)), (q_4, .inl (cI, 40, .inl zF))] := hD
  refine lv_aload_n hx hb dX0_init_39 rfl (lv_at hl 0 rfl) ?_
  refine lv_bipush (v := (nI 40)) hx hb dX0_init_40 (by decide) ?_
  refine k_newa (ty := .int) (atype := .int) (cA := cI) (con := .inl zF) (k := 5) (n2 := 1520) hx hb (hts _ (List.mem_of_getElem? (i := 4) rfl)) rfl hK 0 rfl hP hD hS hA (N9 := 40) (fun _ => rfl) (nI_clamp (by decide)) (by decide) (by decide) (Nat.le_refl _) (Nat.le_refl _) (Nat.le_of_ble_eq_true rfl) (Nat.le_of_ble_eq_true rfl) dX0_init_42 (fun q_5 H hP hD hS => ?_)
  have hP : va_P D vwCl [(oL, .inr (0, [.ref q_1, .ref q_2, .ref q_3, .ref q_4, .null, .int (nI 0), .int (nI 0)])), (q_1, .inl (cI, 480, .inl zF)), (q_2, .inl (cI, 480, .inl zF)), (q_3, .inl (cI, 480, .inl zF)), (q_4, .inl (cI, 40, .inl zF)), (q_5, .inl (cI, 40, .inl zF))] H := hP
  have hD : va_D A [(oL, .inr (0, [.ref q_1, .ref q_2, .ref q_3, .ref q_4, .null, .int (nI 0), .int (nI 0)])), (q_1, .inl (cI, 480, .inl zF)), (q_2, .inl (cI, 480, .inl zF)), (q_3, .inl (cI, 480, .inl zF)), (q_4, .inl (cI, 40, .inl zF)), (q_5, .inl (cI, 40, .inl zF))] := hD
  refine va_putF (D := D) (ci := 0) (v := .ref q_5) (ty := .array .int) (C := RX0) (T := TX0) (N := 7) hx hb hts iu_X0_init_X0 tyX0 tyX0_ok nmX0 hown hK hP hD hS 0 rfl rfl 4 (by decide) (hts _ (List.mem_of_getElem? (i := 9) rfl)) (fun _ h9 => h9) rfl (hin rfl) rfl (by decide +kernel) rfl rfl (Nat.le_of_ble_eq_true rfl) dX0_init_44 (fun H locs hP hD hS => ?_)
  have hP : va_P D vwCl [(oL, .inr (0, [.ref q_1, .ref q_2, .ref q_3, .ref q_4, .ref q_5, .int (nI 0), .int (nI 0)])), (q_1, .inl (cI, 480, .inl zF)), (q_2, .inl (cI, 480, .inl zF)), (q_3, .inl (cI, 480, .inl zF)), (q_4, .inl (cI, 40, .inl zF)), (q_5, .inl (cI, 40, .inl zF))] H := hP
  have hD : va_D A [(oL, .inr (0, [.ref q_1, .ref q_2, .ref q_3, .ref q_4, .ref q_5, .int (nI 0), .int (nI 0)])), (q_1, .inl (cI, 480, .inl zF)), (q_2, .inl (cI, 480, .inl zF)), (q_3, .inl (cI, 480, .inl zF)), (q_4, .inl (cI, 40, .inl zF)), (q_5, .inl (cI, 40, .inl zF))] := hD
  exact kM_vret hx hb hr hlk hQ hP hD hK hS ⟨q_1, q_2, q_3, q_4, q_5⟩ rfl (Nat.le_of_ble_eq_true rfl) (Nat.le_of_ble_eq_true rfl) rfl trivial dX0_init_47
theorem iu_X0_count_X0 : ∀ w ∈ wsX00, w ∈ wsX0_count := fun w h => (List.mem_cons_of_mem _ (List.mem_append_right _ h))
def rm_c_X0_count : Room := { frames := 0, cells := 0, slots := 0, locals := 0 }
set_option maxHeartbeats 4000000 in
set_option maxRecDepth 100000 in
theorem c_X0_count (l : Launch) (D : va_G) (cI : ClassId) (oL a1 a2 a3 a4 a5 : Nat) (K : Nat → Int32) (O : Nat → Nat) (T : Nat → Int32) (M : Nat → Nat) (Z : Nat → Int32) (n k : Nat) :
    kM l yX0_count wsX0_count rm_c_X0_count D [(cI, FieldType.int)] [.ref oL] [(oL, .inr (0, [.ref a1, .ref a2, .ref a3, .ref a4, .ref a5, .int (nI n), .int (nI k)])), (a1, .inl (cI, 480, .inl K)), (a2, .inl (cI, 480, .inl (nF O))), (a3, .inl (cI, 480, .inl T)), (a4, .inl (cI, 40, .inl (nF M))), (a5, .inl (cI, 40, .inl Z))] (fun _ : Unit => True) (fun _ => some (.int (nI n))) (fun _ => [(oL, .inr (0, [.ref a1, .ref a2, .ref a3, .ref a4, .ref a5, .int (nI n), .int (nI k)])), (a1, .inl (cI, 480, .inl K)), (a2, .inl (cI, 480, .inl (nF O))), (a3, .inl (cI, 480, .inl T)), (a4, .inl (cI, 40, .inl (nF M))), (a5, .inl (cI, 40, .inl Z))]) := by
  refine kM_of (cc := cX0_count) (maxL := 1) (ret := (some .int)) (own := RX0) (by decide) rfl rfl (Nat.le_of_ble_eq_true rfl) ?_
  intro p e s m args below meth c A ls Qz hx hb hml hr hts hown hlk hin hQ hA hS hP hD hK hl
  have hl : lv_has ls 1 [(0, .ref oL)] := hl
  refine lv_aload_n hx hb dX0_count_0 rfl (lv_at hl 0 rfl) ?_
  refine va_get (D := D) (ci := 0) (v := .int (nI n)) (C := RX0) (T := TX0) (N := 7) hx hb hts iu_X0_count_X0 hown hK hP 0 rfl rfl 5 (by decide) (hts _ (List.mem_of_getElem? (i := 1) rfl)) (fun _ h9 => h9) rfl dX0_count_1 ?_
  exact kM_iret hx hb hr hlk hQ hP hD hK hS () rfl (Nat.le_of_ble_eq_true rfl) (Nat.le_of_ble_eq_true rfl) rfl trivial dX0_count_4
def rm_c_X0_hasRow : Room := { frames := 0, cells := 0, slots := 0, locals := 0 }
set_option maxHeartbeats 4000000 in
set_option maxRecDepth 100000 in
theorem c_X0_hasRow (l : Launch) (D : va_G) (cI : ClassId) (j : Nat) (hj : j < 2147483648) :
    kM l yX0_hasRow wsX0_hasRow rm_c_X0_hasRow D [(cI, FieldType.int)] [.int (nI j)] [] (fun _ : Unit => True) (fun _ => some (.int (b2i (j < 40)))) (fun _ => []) := by
  refine kM_of (cc := cX0_hasRow) (maxL := 1) (ret := (some .boolean)) (own := RX0) (by decide) rfl rfl (Nat.le_of_ble_eq_true rfl) ?_
  intro p e s m args below meth c A ls Qz hx hb hml hr hts hown hlk hin hQ hA hS hP hD hK hl
  have hl : lv_has ls 1 [(0, .int (nI j))] := hl
  refine lv_iload_n hx hb dX0_hasRow_0 rfl (lv_at hl 0 rfl) ?_
  refine k_if_lt hx hb (tgt := 14) (by omega) dX0_hasRow_1 (by decide) (fun h => h.elim) (fun _ => ?_)
  refine lv_iload_n hx hb dX0_hasRow_4 rfl (lv_at hl 0 rfl) ?_
  refine lv_bipush (v := (nI 40)) hx hb dX0_hasRow_5 (by decide) ?_
  refine k_icmp_ge hx hb (tgt := 14) (by omega) (by decide) dX0_hasRow_7 (by decide) (fun c_2 => ?_) (fun c_2 => ?_)
  · refine lv_iconst (v := (nI 0)) hx hb dX0_hasRow_14 (by decide) ?_
    exact kM_zret hx hb hr hlk hQ hP hD hK hS () rfl (Nat.le_of_ble_eq_true rfl) (Nat.le_of_ble_eq_true rfl) (by decide) (congrArg (fun z => some (Value.int z)) (if_neg (by omega))) trivial dX0_hasRow_15
  · refine lv_iconst (v := (nI 1)) hx hb dX0_hasRow_10 (by decide) ?_
    refine lv_goto (tgt := 15) hx hb dX0_hasRow_11 (by decide) ?_
    exact kM_zret hx hb hr hlk hQ hP hD hK hS () rfl (Nat.le_of_ble_eq_true rfl) (Nat.le_of_ble_eq_true rfl) (by decide) (congrArg (fun z => some (Value.int z)) (if_pos (by omega))) trivial dX0_hasRow_15
def rm_c_X0_isSlot : Room := { frames := 0, cells := 0, slots := 0, locals := 0 }
set_option maxHeartbeats 4000000 in
set_option maxRecDepth 100000 in
theorem c_X0_isSlot (l : Launch) (D : va_G) (cI : ClassId) (j : Nat) (hj : j < 2147483648) :
    kM l yX0_isSlot wsX0_isSlot rm_c_X0_isSlot D [(cI, FieldType.int)] [.int (nI j)] [] (fun _ : Unit => True) (fun _ => some (.int (b2i (j < 480)))) (fun _ => []) := by
  refine kM_of (cc := cX0_isSlot) (maxL := 1) (ret := (some .boolean)) (own := RX0) (by decide) rfl rfl (Nat.le_of_ble_eq_true rfl) ?_
  intro p e s m args below meth c A ls Qz hx hb hml hr hts hown hlk hin hQ hA hS hP hD hK hl
  have hl : lv_has ls 1 [(0, .int (nI j))] := hl
  refine lv_iload_n hx hb dX0_isSlot_0 rfl (lv_at hl 0 rfl) ?_
  refine k_if_lt hx hb (tgt := 15) (by omega) dX0_isSlot_1 (by decide) (fun h => h.elim) (fun _ => ?_)
  refine lv_iload_n hx hb dX0_isSlot_4 rfl (lv_at hl 0 rfl) ?_
  refine lv_sipush (v := (nI 480)) hx hb dX0_isSlot_5 (by decide) ?_
  refine k_icmp_ge hx hb (tgt := 15) (by omega) (by decide) dX0_isSlot_8 (by decide) (fun c_2 => ?_) (fun c_2 => ?_)
  · refine lv_iconst (v := (nI 0)) hx hb dX0_isSlot_15 (by decide) ?_
    exact kM_zret hx hb hr hlk hQ hP hD hK hS () rfl (Nat.le_of_ble_eq_true rfl) (Nat.le_of_ble_eq_true rfl) (by decide) (congrArg (fun z => some (Value.int z)) (if_neg (by omega))) trivial dX0_isSlot_16
  · refine lv_iconst (v := (nI 1)) hx hb dX0_isSlot_11 (by decide) ?_
    refine lv_goto (tgt := 16) hx hb dX0_isSlot_12 (by decide) ?_
    exact kM_zret hx hb hr hlk hQ hP hD hK hS () rfl (Nat.le_of_ble_eq_true rfl) (Nat.le_of_ble_eq_true rfl) (by decide) (congrArg (fun z => some (Value.int z)) (if_pos (by omega))) trivial dX0_isSlot_16
theorem iu_X0_areFull_X0 : ∀ w ∈ wsX00, w ∈ wsX0_areFull := fun w h => (List.mem_cons_of_mem _ (List.mem_append_right _ h))
def rm_c_X0_areFull : Room := { frames := 0, cells := 0, slots := 0, locals := 0 }
set_option maxHeartbeats 4000000 in
set_option maxRecDepth 100000 in
theorem c_X0_areFull (l : Launch) (D : va_G) (cI : ClassId) (oL a1 a2 a3 a4 a5 : Nat) (K : Nat → Int32) (O : Nat → Nat) (T : Nat → Int32) (M : Nat → Nat) (Z : Nat → Int32) (n k : Nat) (hn : n ≤ 40) :
    kM l yX0_areFull wsX0_areFull rm_c_X0_areFull D [(cI, FieldType.int)] [.ref oL] [(oL, .inr (0, [.ref a1, .ref a2, .ref a3, .ref a4, .ref a5, .int (nI n), .int (nI k)])), (a1, .inl (cI, 480, .inl K)), (a2, .inl (cI, 480, .inl (nF O))), (a3, .inl (cI, 480, .inl T)), (a4, .inl (cI, 40, .inl (nF M))), (a5, .inl (cI, 40, .inl Z))] (fun _ : Unit => True) (fun _ => some (.int (b2i (40 ≤ n)))) (fun _ => [(oL, .inr (0, [.ref a1, .ref a2, .ref a3, .ref a4, .ref a5, .int (nI n), .int (nI k)])), (a1, .inl (cI, 480, .inl K)), (a2, .inl (cI, 480, .inl (nF O))), (a3, .inl (cI, 480, .inl T)), (a4, .inl (cI, 40, .inl (nF M))), (a5, .inl (cI, 40, .inl Z))]) := by
  refine kM_of (cc := cX0_areFull) (maxL := 1) (ret := (some .boolean)) (own := RX0) (by decide) rfl rfl (Nat.le_of_ble_eq_true rfl) ?_
  intro p e s m args below meth c A ls Qz hx hb hml hr hts hown hlk hin hQ hA hS hP hD hK hl
  have hl : lv_has ls 1 [(0, .ref oL)] := hl
  refine lv_aload_n hx hb dX0_areFull_0 rfl (lv_at hl 0 rfl) ?_
  refine va_get (D := D) (ci := 0) (v := .int (nI n)) (C := RX0) (T := TX0) (N := 7) hx hb hts iu_X0_areFull_X0 hown hK hP 0 rfl rfl 5 (by decide) (hts _ (List.mem_of_getElem? (i := 1) rfl)) (fun _ h9 => h9) rfl dX0_areFull_1 ?_
  refine lv_bipush (v := (nI 40)) hx hb dX0_areFull_4 (by decide) ?_
  refine k_icmp_lt hx hb (tgt := 13) (by omega) (by decide) dX0_areFull_6 (by decide) (fun c_1 => ?_) (fun c_1 => ?_)
  · refine lv_iconst (v := (nI 0)) hx hb dX0_areFull_13 (by decide) ?_
    exact kM_zret hx hb hr hlk hQ hP hD hK hS () rfl (Nat.le_of_ble_eq_true rfl) (Nat.le_of_ble_eq_true rfl) (by decide) (congrArg (fun z => some (Value.int z)) (if_neg (by omega))) trivial dX0_areFull_14
  · refine lv_iconst (v := (nI 1)) hx hb dX0_areFull_9 (by decide) ?_
    refine lv_goto (tgt := 14) hx hb dX0_areFull_10 (by decide) ?_
    exact kM_zret hx hb hr hlk hQ hP hD hK hS () rfl (Nat.le_of_ble_eq_true rfl) (Nat.le_of_ble_eq_true rfl) (by decide) (congrArg (fun z => some (Value.int z)) (if_pos (by omega))) trivial dX0_areFull_14
theorem iu_X0_deedsIn_X0 : ∀ w ∈ wsX00, w ∈ wsX0_deedsIn := fun w h => (List.mem_cons_of_mem _ (List.mem_append_right _ h))
def rm_c_X0_deedsIn : Room := { frames := 1, cells := 0, slots := 0, locals := 20 }
set_option maxHeartbeats 4000000 in
set_option maxRecDepth 100000 in
theorem c_X0_deedsIn (l : Launch) (D : va_G) (cI : ClassId) (oL a1 a2 a3 a4 a5 : Nat) (K : Nat → Int32) (O : Nat → Nat) (T : Nat → Int32) (M : Nat → Nat) (Z : Nat → Int32) (n k : Nat) (j : Nat) (hj : j < 40) :
    kM l yX0_deedsIn wsX0_deedsIn rm_c_X0_deedsIn D [(cI, FieldType.int)] [.ref oL, .int (nI j)] [(oL, .inr (0, [.ref a1, .ref a2, .ref a3, .ref a4, .ref a5, .int (nI n), .int (nI k)])), (a1, .inl (cI, 480, .inl K)), (a2, .inl (cI, 480, .inl (nF O))), (a3, .inl (cI, 480, .inl T)), (a4, .inl (cI, 40, .inl (nF M))), (a5, .inl (cI, 40, .inl Z))] (fun _ : Unit => True) (fun _ => some (.int (nI (M j)))) (fun _ => [(oL, .inr (0, [.ref a1, .ref a2, .ref a3, .ref a4, .ref a5, .int (nI n), .int (nI k)])), (a1, .inl (cI, 480, .inl K)), (a2, .inl (cI, 480, .inl (nF O))), (a3, .inl (cI, 480, .inl T)), (a4, .inl (cI, 40, .inl (nF M))), (a5, .inl (cI, 40, .inl Z))]) := by
  refine kM_of (cc := cX0_deedsIn) (maxL := 2) (ret := (some .int)) (own := RX0) (by decide) rfl rfl (Nat.le_of_ble_eq_true rfl) ?_
  intro p e s m args below meth c A ls Qz hx hb hml hr hts hown hlk hin hQ hA hS hP hD hK hl
  have hl : lv_has ls 2 [(0, .ref oL), (1, .int (nI j))] := hl
  refine lv_iload_n hx hb dX0_deedsIn_0 rfl (lv_at hl 1 rfl) ?_
  refine kM_callS (As := [.int (nI j)]) (rest := []) (wr := [(oL, .inr (0, [.ref a1, .ref a2, .ref a3, .ref a4, .ref a5, .int (nI n), .int (nI k)])), (a1, .inl (cI, 480, .inl K)), (a2, .inl (cI, 480, .inl (nF O))), (a3, .inl (cI, 480, .inl T)), (a4, .inl (cI, 40, .inl (nF M))), (a5, .inl (cI, 40, .inl Z))]) (w2 := fun _ => [(oL, .inr (0, [.ref a1, .ref a2, .ref a3, .ref a4, .ref a5, .int (nI n), .int (nI k)])), (a1, .inl (cI, 480, .inl K)), (a2, .inl (cI, 480, .inl (nF O))), (a3, .inl (cI, 480, .inl T)), (a4, .inl (cI, 40, .inl (nF M))), (a5, .inl (cI, 40, .inl Z))]) (st2 := fun _ => [.int (b2i (j < 40))]) (k := 0) (n2 := 0) ⟨hx, hb, hml, hown, hts⟩ (c_X0_hasRow l D cI j (by omega)) (va_cwS 1 hts gX0_deedsIn_X0_hasRow rfl rfl rfl (by decide +kernel) ⟨Nat.le_of_ble_eq_true rfl, Nat.le_of_ble_eq_true rfl⟩) [0] rfl hK hP hD hS hA [] [0, 1, 2, 3, 4, 5] rfl (by decide) rfl (by decide) (by decide) [0, 1, 2, 3, 4, 5] (by decide) (fun _ => rfl) (Nat.le_refl _) (Nat.le_refl _) (Nat.le_of_ble_eq_true rfl) (Nat.le_of_ble_eq_true rfl) rfl hl.1 (Nat.le_of_ble_eq_true rfl) (fun _ => rfl) rfl dX0_deedsIn_1 (fun u H locs hu hP hD hS => ?_)
  refine k_bif_eq hx hb (tgt := 16) dX0_deedsIn_4 (by decide) (fun c_1 => (absurd hj c_1 : False).elim) (fun c_1 => ?_)
  refine lv_aload_n hx hb dX0_deedsIn_7 rfl (lv_at hl 0 rfl) ?_
  refine va_get (D := D) (ci := 0) (v := .ref a4) (C := RX0) (T := TX0) (N := 7) hx hb hts iu_X0_deedsIn_X0 hown hK hP 0 rfl rfl 3 (by decide) (hts _ (List.mem_of_getElem? (i := 1) rfl)) (fun _ h9 => h9) rfl dX0_deedsIn_8 ?_
  refine lv_iload_n hx hb dX0_deedsIn_11 rfl (lv_at hl 1 rfl) ?_
  refine k_iald hx hb hK hP 4 0 (i := j) rfl rfl (by omega) (by decide) dX0_deedsIn_12 ?_
  refine k_top (y := (nI (M j))) rfl ?_
  refine lv_goto (tgt := 17) hx hb dX0_deedsIn_13 (by decide) ?_
  exact kM_iret hx hb hr hlk hQ hP hD hK hS () rfl (Nat.le_of_ble_eq_true rfl) (Nat.le_of_ble_eq_true rfl) rfl trivial dX0_deedsIn_17
theorem iu_X0_hasRoomForDeed_X0 : ∀ w ∈ wsX00, w ∈ wsX0_hasRoomForDeed := fun w h => (List.mem_cons_of_mem _ (List.mem_append_right _ h))
def rm_c_X0_hasRoomForDeed : Room := { frames := 2, cells := 0, slots := 0, locals := 41 }
set_option maxHeartbeats 4000000 in
set_option maxRecDepth 100000 in
theorem c_X0_hasRoomForDeed (l : Launch) (D : va_G) (cI : ClassId) (oL a1 a2 a3 a4 a5 : Nat) (K : Nat → Int32) (O : Nat → Nat) (T : Nat → Int32) (M : Nat → Nat) (Z : Nat → Int32) (n k : Nat) (hn : n ≤ 40) (hM : ∀ i, M i ≤ 12) :
    kM l yX0_hasRoomForDeed wsX0_hasRoomForDeed rm_c_X0_hasRoomForDeed D [(cI, FieldType.int)] [.ref oL] [(oL, .inr (0, [.ref a1, .ref a2, .ref a3, .ref a4, .ref a5, .int (nI n), .int (nI k)])), (a1, .inl (cI, 480, .inl K)), (a2, .inl (cI, 480, .inl (nF O))), (a3, .inl (cI, 480, .inl T)), (a4, .inl (cI, 40, .inl (nF M))), (a5, .inl (cI, 40, .inl Z))] (fun _ : Unit => True) (fun _ => some (.int (b2i (n < 40 ∧ M n < 12)))) (fun _ => [(oL, .inr (0, [.ref a1, .ref a2, .ref a3, .ref a4, .ref a5, .int (nI n), .int (nI k)])), (a1, .inl (cI, 480, .inl K)), (a2, .inl (cI, 480, .inl (nF O))), (a3, .inl (cI, 480, .inl T)), (a4, .inl (cI, 40, .inl (nF M))), (a5, .inl (cI, 40, .inl Z))]) := by
  refine kM_of (cc := cX0_hasRoomForDeed) (maxL := 1) (ret := (some .boolean)) (own := RX0) (by decide) rfl rfl (Nat.le_of_ble_eq_true rfl) ?_
  intro p e s m args below meth c A ls Qz hx hb hml hr hts hown hlk hin hQ hA hS hP hD hK hl
  have hl : lv_has ls 1 [(0, .ref oL)] := hl
  refine lv_aload_n hx hb dX0_hasRoomForDeed_0 rfl (lv_at hl 0 rfl) ?_
  refine kM_callV (As := []) (rest := []) (wr := []) (w2 := fun _ => [(oL, .inr (0, [.ref a1, .ref a2, .ref a3, .ref a4, .ref a5, .int (nI n), .int (nI k)])), (a1, .inl (cI, 480, .inl K)), (a2, .inl (cI, 480, .inl (nF O))), (a3, .inl (cI, 480, .inl T)), (a4, .inl (cI, 40, .inl (nF M))), (a5, .inl (cI, 40, .inl Z))]) (st2 := fun _ => [.int (b2i (40 ≤ n))]) (k := 0) (n2 := 0) ⟨hx, hb, hml, hown, hts⟩ (c_X0_areFull l D cI oL a1 a2 a3 a4 a5 K O T M Z n k hn) (cwV 0 hts gX0_hasRoomForDeed_X0_areFull rfl rfl rfl (by decide +kernel) ⟨Nat.le_of_ble_eq_true rfl, Nat.le_of_ble_eq_true rfl⟩) 0 rfl rfl rfl [0] rfl hK hP hD hS hA [0, 1, 2, 3, 4, 5] [] rfl (by decide) rfl (by decide) (by decide) [0, 1, 2, 3, 4, 5] (by decide) (fun _ => rfl) (Nat.le_refl _) (Nat.le_refl _) (Nat.le_of_ble_eq_true rfl) (Nat.le_of_ble_eq_true rfl) rfl hl.1 (Nat.le_of_ble_eq_true rfl) (fun _ => rfl) rfl dX0_hasRoomForDeed_1 (fun u H locs hu hP hD hS => ?_)
  refine k_bif_ne hx hb (tgt := 24) dX0_hasRoomForDeed_4 (by decide) (fun c_1 => ?_) (fun c_1 => ?_)
  · refine lv_iconst (v := (nI 0)) hx hb dX0_hasRoomForDeed_24 (by decide) ?_
    exact kM_zret hx hb hr hlk hQ hP hD hK hS () rfl (Nat.le_of_ble_eq_true rfl) (Nat.le_of_ble_eq_true rfl) (by decide) (congrArg (fun z => some (Value.int z)) (if_neg (by omega))) trivial dX0_hasRoomForDeed_25
  · have hMn := hM n
    have hnf : n < 40 := by omega
    refine lv_aload_n hx hb dX0_hasRoomForDeed_7 rfl (lv_at hl 0 rfl) ?_
    refine lv_aload_n hx hb dX0_hasRoomForDeed_8 rfl (lv_at hl 0 rfl) ?_
    refine va_get (D := D) (ci := 0) (v := .int (nI n)) (C := RX0) (T := TX0) (N := 7) hx hb hts iu_X0_hasRoomForDeed_X0 hown hK hP 0 rfl rfl 5 (by decide) (hts _ (List.mem_of_getElem? (i := 1) rfl)) (fun _ h9 => h9) rfl dX0_hasRoomForDeed_9 ?_
    refine kM_callV (As := [.int (nI n)]) (rest := []) (wr := []) (w2 := fun _ => [(oL, .inr (0, [.ref a1, .ref a2, .ref a3, .ref a4, .ref a5, .int (nI n), .int (nI k)])), (a1, .inl (cI, 480, .inl K)), (a2, .inl (cI, 480, .inl (nF O))), (a3, .inl (cI, 480, .inl T)), (a4, .inl (cI, 40, .inl (nF M))), (a5, .inl (cI, 40, .inl Z))]) (st2 := fun _ => [.int (nI (M n))]) (k := 0) (n2 := 0) ⟨hx, hb, hml, hown, hts⟩ (c_X0_deedsIn l D cI oL a1 a2 a3 a4 a5 K O T M Z n k n (by omega)) (cwV 1 hts gX0_hasRoomForDeed_X0_deedsIn rfl rfl rfl (by decide +kernel) ⟨Nat.le_of_ble_eq_true rfl, Nat.le_of_ble_eq_true rfl⟩) 0 rfl rfl rfl [0] rfl hK hP hD hS hA [0, 1, 2, 3, 4, 5] [] rfl (by decide) rfl (by decide) (by decide) [0, 1, 2, 3, 4, 5] (by decide) (fun _ => rfl) (Nat.le_refl _) (Nat.le_refl _) (Nat.le_of_ble_eq_true rfl) (Nat.le_of_ble_eq_true rfl) rfl hl.1 (Nat.le_of_ble_eq_true rfl) (fun _ => rfl) rfl dX0_hasRoomForDeed_12 (fun u H locs hu hP hD hS => ?_)
    refine lv_bipush (v := (nI 12)) hx hb dX0_hasRoomForDeed_15 (by decide) ?_
    refine k_icmp_ge hx hb (tgt := 24) (by omega) (by decide) dX0_hasRoomForDeed_17 (by decide) (fun c_2 => ?_) (fun c_2 => ?_)
    · refine lv_iconst (v := (nI 0)) hx hb dX0_hasRoomForDeed_24 (by decide) ?_
      exact kM_zret hx hb hr hlk hQ hP hD hK hS () rfl (Nat.le_of_ble_eq_true rfl) (Nat.le_of_ble_eq_true rfl) (by decide) (congrArg (fun z => some (Value.int z)) (if_neg (by omega))) trivial dX0_hasRoomForDeed_25
    · refine lv_iconst (v := (nI 1)) hx hb dX0_hasRoomForDeed_20 (by decide) ?_
      refine lv_goto (tgt := 25) hx hb dX0_hasRoomForDeed_21 (by decide) ?_
      exact kM_zret hx hb hr hlk hQ hP hD hK hS () rfl (Nat.le_of_ble_eq_true rfl) (Nat.le_of_ble_eq_true rfl) (by decide) (congrArg (fun z => some (Value.int z)) (if_pos (by omega))) trivial dX0_hasRoomForDeed_25
theorem iu_X0_slotOf_X0 : ∀ w ∈ wsX00, w ∈ wsX0_slotOf := fun w h => (List.mem_cons_of_mem _ (List.mem_append_right _ h))
def rm_c_X0_slotOf : Room := { frames := 2, cells := 0, slots := 0, locals := 41 }
set_option maxHeartbeats 4000000 in
set_option maxRecDepth 100000 in
theorem c_X0_slotOf (l : Launch) (D : va_G) (cI : ClassId) (oL a1 a2 a3 a4 a5 : Nat) (K : Nat → Int32) (O : Nat → Nat) (T : Nat → Int32) (M : Nat → Nat) (Z : Nat → Int32) (n k : Nat) (j d : Nat) (hj : j < 40) (hd : d < M j) (hM : ∀ i, M i ≤ 12) :
    kM l yX0_slotOf wsX0_slotOf rm_c_X0_slotOf D [(cI, FieldType.int)] [.ref oL, .int (nI j), .int (nI d)] [(oL, .inr (0, [.ref a1, .ref a2, .ref a3, .ref a4, .ref a5, .int (nI n), .int (nI k)])), (a1, .inl (cI, 480, .inl K)), (a2, .inl (cI, 480, .inl (nF O))), (a3, .inl (cI, 480, .inl T)), (a4, .inl (cI, 40, .inl (nF M))), (a5, .inl (cI, 40, .inl Z))] (fun _ : Unit => True) (fun _ => some (.int (nI (j * 12 + d)))) (fun _ => [(oL, .inr (0, [.ref a1, .ref a2, .ref a3, .ref a4, .ref a5, .int (nI n), .int (nI k)])), (a1, .inl (cI, 480, .inl K)), (a2, .inl (cI, 480, .inl (nF O))), (a3, .inl (cI, 480, .inl T)), (a4, .inl (cI, 40, .inl (nF M))), (a5, .inl (cI, 40, .inl Z))]) := by
  refine kM_of (cc := cX0_slotOf) (maxL := 3) (ret := (some .int)) (own := RX0) (by decide) rfl rfl (Nat.le_of_ble_eq_true rfl) ?_
  intro p e s m args below meth c A ls Qz hx hb hml hr hts hown hlk hin hQ hA hS hP hD hK hl
  have hl : lv_has ls 3 [(0, .ref oL), (1, .int (nI j)), (2, .int (nI d))] := hl
  have hMj := hM j
  refine lv_iload_n hx hb dX0_slotOf_0 rfl (lv_at hl 2 rfl) ?_
  refine k_if_lt hx hb (tgt := 22) (by omega) dX0_slotOf_1 (by decide) (fun h => h.elim) (fun _ => ?_)
  refine lv_iload_n hx hb dX0_slotOf_4 rfl (lv_at hl 2 rfl) ?_
  refine lv_aload_n hx hb dX0_slotOf_5 rfl (lv_at hl 0 rfl) ?_
  refine lv_iload_n hx hb dX0_slotOf_6 rfl (lv_at hl 1 rfl) ?_
  refine kM_callV (As := [.int (nI j)]) (rest := [.int (nI d)]) (wr := []) (w2 := fun _ => [(oL, .inr (0, [.ref a1, .ref a2, .ref a3, .ref a4, .ref a5, .int (nI n), .int (nI k)])), (a1, .inl (cI, 480, .inl K)), (a2, .inl (cI, 480, .inl (nF O))), (a3, .inl (cI, 480, .inl T)), (a4, .inl (cI, 40, .inl (nF M))), (a5, .inl (cI, 40, .inl Z))]) (st2 := fun _ => [.int (nI (M j)), .int (nI d)]) (k := 0) (n2 := 0) ⟨hx, hb, hml, hown, hts⟩ (c_X0_deedsIn l D cI oL a1 a2 a3 a4 a5 K O T M Z n k j (by omega)) (cwV 1 hts gX0_slotOf_X0_deedsIn rfl rfl rfl (by decide +kernel) ⟨Nat.le_of_ble_eq_true rfl, Nat.le_of_ble_eq_true rfl⟩) 0 rfl rfl rfl [0] rfl hK hP hD hS hA [0, 1, 2, 3, 4, 5] [] rfl (by decide) rfl (by decide) (by decide) [0, 1, 2, 3, 4, 5] (by decide) (fun _ => rfl) (Nat.le_refl _) (Nat.le_refl _) (Nat.le_of_ble_eq_true rfl) (Nat.le_of_ble_eq_true rfl) rfl hl.1 (Nat.le_of_ble_eq_true rfl) (fun _ => rfl) rfl dX0_slotOf_7 (fun u H locs hu hP hD hS => ?_)
  refine k_icmp_ge hx hb (tgt := 22) (by omega) (by omega) dX0_slotOf_10 (by decide) (fun c_2 => ((by omega) : False).elim) (fun c_2 => ?_)
  refine lv_iload_n hx hb dX0_slotOf_13 rfl (lv_at hl 1 rfl) ?_
  refine lv_bipush (v := (nI 12)) hx hb dX0_slotOf_14 (by decide) ?_
  refine k_imul hx hb dX0_slotOf_16 ?_
  refine lv_iload_n hx hb dX0_slotOf_17 rfl (lv_at hl 2 rfl) ?_
  refine k_iadd hx hb dX0_slotOf_18 ?_
  refine lv_goto (tgt := 23) hx hb dX0_slotOf_19 (by decide) ?_
  exact kM_iret hx hb hr hlk hQ hP hD hK hS () rfl (Nat.le_of_ble_eq_true rfl) (Nat.le_of_ble_eq_true rfl) (congrArg (fun z => some (Value.int z)) (by rfl)) trivial dX0_slotOf_23
def rm_c_X0_slotOf_bad : Room := { frames := 2, cells := 0, slots := 0, locals := 41 }
set_option maxHeartbeats 4000000 in
set_option maxRecDepth 100000 in
theorem c_X0_slotOf_bad (l : Launch) (D : va_G) (cI : ClassId) (oL a1 a2 a3 a4 a5 : Nat) (K : Nat → Int32) (O : Nat → Nat) (T : Nat → Int32) (M : Nat → Nat) (Z : Nat → Int32) (n k : Nat) (j : Nat) (d : Int32) (hj : j < 40) (hd : d < 0 ∨ nI (M j) ≤ d) (hM : ∀ i, M i ≤ 12) :
    kM l yX0_slotOf wsX0_slotOf rm_c_X0_slotOf_bad D [(cI, FieldType.int)] [.ref oL, .int (nI j), .int d] [(oL, .inr (0, [.ref a1, .ref a2, .ref a3, .ref a4, .ref a5, .int (nI n), .int (nI k)])), (a1, .inl (cI, 480, .inl K)), (a2, .inl (cI, 480, .inl (nF O))), (a3, .inl (cI, 480, .inl T)), (a4, .inl (cI, 40, .inl (nF M))), (a5, .inl (cI, 40, .inl Z))] (fun _ : Unit => True) (fun _ => some (.int (-1))) (fun _ => [(oL, .inr (0, [.ref a1, .ref a2, .ref a3, .ref a4, .ref a5, .int (nI n), .int (nI k)])), (a1, .inl (cI, 480, .inl K)), (a2, .inl (cI, 480, .inl (nF O))), (a3, .inl (cI, 480, .inl T)), (a4, .inl (cI, 40, .inl (nF M))), (a5, .inl (cI, 40, .inl Z))]) := by
  refine kM_of (cc := cX0_slotOf) (maxL := 3) (ret := (some .int)) (own := RX0) (by decide) rfl rfl (Nat.le_of_ble_eq_true rfl) ?_
  intro p e s m args below meth c A ls Qz hx hb hml hr hts hown hlk hin hQ hA hS hP hD hK hl
  have hl : lv_has ls 3 [(0, .ref oL), (1, .int (nI j)), (2, .int d)] := hl
  have hMj := hM j
  refine lv_iload_n hx hb dX0_slotOf_0 rfl (lv_at hl 2 rfl) ?_
  refine lv_if_lt hx hb (tgt := 22) dX0_slotOf_1 (by decide) (fun c_1 => ?_) (fun c_1 => ?_)
  · refine lv_iconst (v := (-1)) hx hb dX0_slotOf_22 (by decide) ?_
    exact kM_iret hx hb hr hlk hQ hP hD hK hS () rfl (Nat.le_of_ble_eq_true rfl) (Nat.le_of_ble_eq_true rfl) rfl trivial dX0_slotOf_23
  · have hn0 := c_1
    refine lv_iload_n hx hb dX0_slotOf_4 rfl (lv_at hl 2 rfl) ?_
    refine lv_aload_n hx hb dX0_slotOf_5 rfl (lv_at hl 0 rfl) ?_
    refine lv_iload_n hx hb dX0_slotOf_6 rfl (lv_at hl 1 rfl) ?_
    refine kM_callV (As := [.int (nI j)]) (rest := [.int d]) (wr := []) (w2 := fun _ => [(oL, .inr (0, [.ref a1, .ref a2, .ref a3, .ref a4, .ref a5, .int (nI n), .int (nI k)])), (a1, .inl (cI, 480, .inl K)), (a2, .inl (cI, 480, .inl (nF O))), (a3, .inl (cI, 480, .inl T)), (a4, .inl (cI, 40, .inl (nF M))), (a5, .inl (cI, 40, .inl Z))]) (st2 := fun _ => [.int (nI (M j)), .int d]) (k := 0) (n2 := 0) ⟨hx, hb, hml, hown, hts⟩ (c_X0_deedsIn l D cI oL a1 a2 a3 a4 a5 K O T M Z n k j (by omega)) (cwV 1 hts gX0_slotOf_X0_deedsIn rfl rfl rfl (by decide +kernel) ⟨Nat.le_of_ble_eq_true rfl, Nat.le_of_ble_eq_true rfl⟩) 0 rfl rfl rfl [0] rfl hK hP hD hS hA [0, 1, 2, 3, 4, 5] [] rfl (by decide) rfl (by decide) (by decide) [0, 1, 2, 3, 4, 5] (by decide) (fun _ => rfl) (Nat.le_refl _) (Nat.le_refl _) (Nat.le_of_ble_eq_true rfl) (Nat.le_of_ble_eq_true rfl) rfl hl.1 (Nat.le_of_ble_eq_true rfl) (fun _ => rfl) rfl dX0_slotOf_7 (fun u H locs hu hP hD hS => ?_)
    refine lv_icmp_ge hx hb (tgt := 22) dX0_slotOf_10 (by decide) (fun c_2 => ?_) (fun c_2 => (hd.elim hn0 c_2 : False).elim)
    refine lv_iconst (v := (-1)) hx hb dX0_slotOf_22 (by decide) ?_
    exact kM_iret hx hb hr hlk hQ hP hD hK hS () rfl (Nat.le_of_ble_eq_true rfl) (Nat.le_of_ble_eq_true rfl) rfl trivial dX0_slotOf_23
theorem iu_X0_kindAt_X0 : ∀ w ∈ wsX00, w ∈ wsX0_kindAt := fun w h => (List.mem_cons_of_mem _ (List.mem_append_right _ h))
def rm_c_X0_kindAt : Room := { frames := 1, cells := 0, slots := 0, locals := 20 }
set_option maxHeartbeats 4000000 in
set_option maxRecDepth 100000 in
theorem c_X0_kindAt (l : Launch) (D : va_G) (cI : ClassId) (oL a1 a2 a3 a4 a5 : Nat) (K : Nat → Int32) (O : Nat → Nat) (T : Nat → Int32) (M : Nat → Nat) (Z : Nat → Int32) (n k : Nat) (j : Nat) (hj : j < 480) :
    kM l yX0_kindAt wsX0_kindAt rm_c_X0_kindAt D [(cI, FieldType.int)] [.ref oL, .int (nI j)] [(oL, .inr (0, [.ref a1, .ref a2, .ref a3, .ref a4, .ref a5, .int (nI n), .int (nI k)])), (a1, .inl (cI, 480, .inl K)), (a2, .inl (cI, 480, .inl (nF O))), (a3, .inl (cI, 480, .inl T)), (a4, .inl (cI, 40, .inl (nF M))), (a5, .inl (cI, 40, .inl Z))] (fun _ : Unit => True) (fun _ => some (.int (K j))) (fun _ => [(oL, .inr (0, [.ref a1, .ref a2, .ref a3, .ref a4, .ref a5, .int (nI n), .int (nI k)])), (a1, .inl (cI, 480, .inl K)), (a2, .inl (cI, 480, .inl (nF O))), (a3, .inl (cI, 480, .inl T)), (a4, .inl (cI, 40, .inl (nF M))), (a5, .inl (cI, 40, .inl Z))]) := by
  refine kM_of (cc := cX0_kindAt) (maxL := 2) (ret := (some .int)) (own := RX0) (by decide) rfl rfl (Nat.le_of_ble_eq_true rfl) ?_
  intro p e s m args below meth c A ls Qz hx hb hml hr hts hown hlk hin hQ hA hS hP hD hK hl
  have hl : lv_has ls 2 [(0, .ref oL), (1, .int (nI j))] := hl
  refine lv_iload_n hx hb dX0_kindAt_0 rfl (lv_at hl 1 rfl) ?_
  refine kM_callS (As := [.int (nI j)]) (rest := []) (wr := [(oL, .inr (0, [.ref a1, .ref a2, .ref a3, .ref a4, .ref a5, .int (nI n), .int (nI k)])), (a1, .inl (cI, 480, .inl K)), (a2, .inl (cI, 480, .inl (nF O))), (a3, .inl (cI, 480, .inl T)), (a4, .inl (cI, 40, .inl (nF M))), (a5, .inl (cI, 40, .inl Z))]) (w2 := fun _ => [(oL, .inr (0, [.ref a1, .ref a2, .ref a3, .ref a4, .ref a5, .int (nI n), .int (nI k)])), (a1, .inl (cI, 480, .inl K)), (a2, .inl (cI, 480, .inl (nF O))), (a3, .inl (cI, 480, .inl T)), (a4, .inl (cI, 40, .inl (nF M))), (a5, .inl (cI, 40, .inl Z))]) (st2 := fun _ => [.int (b2i (j < 480))]) (k := 0) (n2 := 0) ⟨hx, hb, hml, hown, hts⟩ (c_X0_isSlot l D cI j (by omega)) (va_cwS 1 hts gX0_kindAt_X0_isSlot rfl rfl rfl (by decide +kernel) ⟨Nat.le_of_ble_eq_true rfl, Nat.le_of_ble_eq_true rfl⟩) [0] rfl hK hP hD hS hA [] [0, 1, 2, 3, 4, 5] rfl (by decide) rfl (by decide) (by decide) [0, 1, 2, 3, 4, 5] (by decide) (fun _ => rfl) (Nat.le_refl _) (Nat.le_refl _) (Nat.le_of_ble_eq_true rfl) (Nat.le_of_ble_eq_true rfl) rfl hl.1 (Nat.le_of_ble_eq_true rfl) (fun _ => rfl) rfl dX0_kindAt_1 (fun u H locs hu hP hD hS => ?_)
  refine k_bif_eq hx hb (tgt := 16) dX0_kindAt_4 (by decide) (fun c_1 => (absurd hj c_1 : False).elim) (fun c_1 => ?_)
  refine lv_aload_n hx hb dX0_kindAt_7 rfl (lv_at hl 0 rfl) ?_
  refine va_get (D := D) (ci := 0) (v := .ref a1) (C := RX0) (T := TX0) (N := 7) hx hb hts iu_X0_kindAt_X0 hown hK hP 0 rfl rfl 0 (by decide) (hts _ (List.mem_of_getElem? (i := 1) rfl)) (fun _ h9 => h9) rfl dX0_kindAt_8 ?_
  refine lv_iload_n hx hb dX0_kindAt_11 rfl (lv_at hl 1 rfl) ?_
  refine k_iald hx hb hK hP 1 0 (i := j) rfl rfl (by omega) (by decide) dX0_kindAt_12 ?_
  refine lv_goto (tgt := 17) hx hb dX0_kindAt_13 (by decide) ?_
  exact kM_iret hx hb hr hlk hQ hP hD hK hS () rfl (Nat.le_of_ble_eq_true rfl) (Nat.le_of_ble_eq_true rfl) rfl trivial dX0_kindAt_17
theorem iu_X0_oneAt_X0 : ∀ w ∈ wsX00, w ∈ wsX0_oneAt := fun w h => (List.mem_cons_of_mem _ (List.mem_append_right _ h))
def rm_c_X0_oneAt : Room := { frames := 1, cells := 0, slots := 0, locals := 20 }
set_option maxHeartbeats 4000000 in
set_option maxRecDepth 100000 in
theorem c_X0_oneAt (l : Launch) (D : va_G) (cI : ClassId) (oL a1 a2 a3 a4 a5 : Nat) (K : Nat → Int32) (O : Nat → Nat) (T : Nat → Int32) (M : Nat → Nat) (Z : Nat → Int32) (n k : Nat) (j : Nat) (hj : j < 480) :
    kM l yX0_oneAt wsX0_oneAt rm_c_X0_oneAt D [(cI, FieldType.int)] [.ref oL, .int (nI j)] [(oL, .inr (0, [.ref a1, .ref a2, .ref a3, .ref a4, .ref a5, .int (nI n), .int (nI k)])), (a1, .inl (cI, 480, .inl K)), (a2, .inl (cI, 480, .inl (nF O))), (a3, .inl (cI, 480, .inl T)), (a4, .inl (cI, 40, .inl (nF M))), (a5, .inl (cI, 40, .inl Z))] (fun _ : Unit => True) (fun _ => some (.int (nI (O j)))) (fun _ => [(oL, .inr (0, [.ref a1, .ref a2, .ref a3, .ref a4, .ref a5, .int (nI n), .int (nI k)])), (a1, .inl (cI, 480, .inl K)), (a2, .inl (cI, 480, .inl (nF O))), (a3, .inl (cI, 480, .inl T)), (a4, .inl (cI, 40, .inl (nF M))), (a5, .inl (cI, 40, .inl Z))]) := by
  refine kM_of (cc := cX0_oneAt) (maxL := 2) (ret := (some .int)) (own := RX0) (by decide) rfl rfl (Nat.le_of_ble_eq_true rfl) ?_
  intro p e s m args below meth c A ls Qz hx hb hml hr hts hown hlk hin hQ hA hS hP hD hK hl
  have hl : lv_has ls 2 [(0, .ref oL), (1, .int (nI j))] := hl
  refine lv_iload_n hx hb dX0_oneAt_0 rfl (lv_at hl 1 rfl) ?_
  refine kM_callS (As := [.int (nI j)]) (rest := []) (wr := [(oL, .inr (0, [.ref a1, .ref a2, .ref a3, .ref a4, .ref a5, .int (nI n), .int (nI k)])), (a1, .inl (cI, 480, .inl K)), (a2, .inl (cI, 480, .inl (nF O))), (a3, .inl (cI, 480, .inl T)), (a4, .inl (cI, 40, .inl (nF M))), (a5, .inl (cI, 40, .inl Z))]) (w2 := fun _ => [(oL, .inr (0, [.ref a1, .ref a2, .ref a3, .ref a4, .ref a5, .int (nI n), .int (nI k)])), (a1, .inl (cI, 480, .inl K)), (a2, .inl (cI, 480, .inl (nF O))), (a3, .inl (cI, 480, .inl T)), (a4, .inl (cI, 40, .inl (nF M))), (a5, .inl (cI, 40, .inl Z))]) (st2 := fun _ => [.int (b2i (j < 480))]) (k := 0) (n2 := 0) ⟨hx, hb, hml, hown, hts⟩ (c_X0_isSlot l D cI j (by omega)) (va_cwS 1 hts gX0_oneAt_X0_isSlot rfl rfl rfl (by decide +kernel) ⟨Nat.le_of_ble_eq_true rfl, Nat.le_of_ble_eq_true rfl⟩) [0] rfl hK hP hD hS hA [] [0, 1, 2, 3, 4, 5] rfl (by decide) rfl (by decide) (by decide) [0, 1, 2, 3, 4, 5] (by decide) (fun _ => rfl) (Nat.le_refl _) (Nat.le_refl _) (Nat.le_of_ble_eq_true rfl) (Nat.le_of_ble_eq_true rfl) rfl hl.1 (Nat.le_of_ble_eq_true rfl) (fun _ => rfl) rfl dX0_oneAt_1 (fun u H locs hu hP hD hS => ?_)
  refine k_bif_eq hx hb (tgt := 16) dX0_oneAt_4 (by decide) (fun c_1 => (absurd hj c_1 : False).elim) (fun c_1 => ?_)
  refine lv_aload_n hx hb dX0_oneAt_7 rfl (lv_at hl 0 rfl) ?_
  refine va_get (D := D) (ci := 0) (v := .ref a2) (C := RX0) (T := TX0) (N := 7) hx hb hts iu_X0_oneAt_X0 hown hK hP 0 rfl rfl 1 (by decide) (hts _ (List.mem_of_getElem? (i := 1) rfl)) (fun _ h9 => h9) rfl dX0_oneAt_8 ?_
  refine lv_iload_n hx hb dX0_oneAt_11 rfl (lv_at hl 1 rfl) ?_
  refine k_iald hx hb hK hP 2 0 (i := j) rfl rfl (by omega) (by decide) dX0_oneAt_12 ?_
  refine k_top (y := (nI (O j))) rfl ?_
  refine lv_goto (tgt := 17) hx hb dX0_oneAt_13 (by decide) ?_
  exact kM_iret hx hb hr hlk hQ hP hD hK hS () rfl (Nat.le_of_ble_eq_true rfl) (Nat.le_of_ble_eq_true rfl) rfl trivial dX0_oneAt_17
theorem iu_X0_twoAt_X0 : ∀ w ∈ wsX00, w ∈ wsX0_twoAt := fun w h => (List.mem_cons_of_mem _ (List.mem_append_right _ h))
def rm_c_X0_twoAt : Room := { frames := 1, cells := 0, slots := 0, locals := 20 }
set_option maxHeartbeats 4000000 in
set_option maxRecDepth 100000 in
theorem c_X0_twoAt (l : Launch) (D : va_G) (cI : ClassId) (oL a1 a2 a3 a4 a5 : Nat) (K : Nat → Int32) (O : Nat → Nat) (T : Nat → Int32) (M : Nat → Nat) (Z : Nat → Int32) (n k : Nat) (j : Nat) (hj : j < 480) :
    kM l yX0_twoAt wsX0_twoAt rm_c_X0_twoAt D [(cI, FieldType.int)] [.ref oL, .int (nI j)] [(oL, .inr (0, [.ref a1, .ref a2, .ref a3, .ref a4, .ref a5, .int (nI n), .int (nI k)])), (a1, .inl (cI, 480, .inl K)), (a2, .inl (cI, 480, .inl (nF O))), (a3, .inl (cI, 480, .inl T)), (a4, .inl (cI, 40, .inl (nF M))), (a5, .inl (cI, 40, .inl Z))] (fun _ : Unit => True) (fun _ => some (.int (T j))) (fun _ => [(oL, .inr (0, [.ref a1, .ref a2, .ref a3, .ref a4, .ref a5, .int (nI n), .int (nI k)])), (a1, .inl (cI, 480, .inl K)), (a2, .inl (cI, 480, .inl (nF O))), (a3, .inl (cI, 480, .inl T)), (a4, .inl (cI, 40, .inl (nF M))), (a5, .inl (cI, 40, .inl Z))]) := by
  refine kM_of (cc := cX0_twoAt) (maxL := 2) (ret := (some .int)) (own := RX0) (by decide) rfl rfl (Nat.le_of_ble_eq_true rfl) ?_
  intro p e s m args below meth c A ls Qz hx hb hml hr hts hown hlk hin hQ hA hS hP hD hK hl
  have hl : lv_has ls 2 [(0, .ref oL), (1, .int (nI j))] := hl
  refine lv_iload_n hx hb dX0_twoAt_0 rfl (lv_at hl 1 rfl) ?_
  refine kM_callS (As := [.int (nI j)]) (rest := []) (wr := [(oL, .inr (0, [.ref a1, .ref a2, .ref a3, .ref a4, .ref a5, .int (nI n), .int (nI k)])), (a1, .inl (cI, 480, .inl K)), (a2, .inl (cI, 480, .inl (nF O))), (a3, .inl (cI, 480, .inl T)), (a4, .inl (cI, 40, .inl (nF M))), (a5, .inl (cI, 40, .inl Z))]) (w2 := fun _ => [(oL, .inr (0, [.ref a1, .ref a2, .ref a3, .ref a4, .ref a5, .int (nI n), .int (nI k)])), (a1, .inl (cI, 480, .inl K)), (a2, .inl (cI, 480, .inl (nF O))), (a3, .inl (cI, 480, .inl T)), (a4, .inl (cI, 40, .inl (nF M))), (a5, .inl (cI, 40, .inl Z))]) (st2 := fun _ => [.int (b2i (j < 480))]) (k := 0) (n2 := 0) ⟨hx, hb, hml, hown, hts⟩ (c_X0_isSlot l D cI j (by omega)) (va_cwS 1 hts gX0_twoAt_X0_isSlot rfl rfl rfl (by decide +kernel) ⟨Nat.le_of_ble_eq_true rfl, Nat.le_of_ble_eq_true rfl⟩) [0] rfl hK hP hD hS hA [] [0, 1, 2, 3, 4, 5] rfl (by decide) rfl (by decide) (by decide) [0, 1, 2, 3, 4, 5] (by decide) (fun _ => rfl) (Nat.le_refl _) (Nat.le_refl _) (Nat.le_of_ble_eq_true rfl) (Nat.le_of_ble_eq_true rfl) rfl hl.1 (Nat.le_of_ble_eq_true rfl) (fun _ => rfl) rfl dX0_twoAt_1 (fun u H locs hu hP hD hS => ?_)
  refine k_bif_eq hx hb (tgt := 16) dX0_twoAt_4 (by decide) (fun c_1 => (absurd hj c_1 : False).elim) (fun c_1 => ?_)
  refine lv_aload_n hx hb dX0_twoAt_7 rfl (lv_at hl 0 rfl) ?_
  refine va_get (D := D) (ci := 0) (v := .ref a3) (C := RX0) (T := TX0) (N := 7) hx hb hts iu_X0_twoAt_X0 hown hK hP 0 rfl rfl 2 (by decide) (hts _ (List.mem_of_getElem? (i := 1) rfl)) (fun _ h9 => h9) rfl dX0_twoAt_8 ?_
  refine lv_iload_n hx hb dX0_twoAt_11 rfl (lv_at hl 1 rfl) ?_
  refine k_iald hx hb hK hP 3 0 (i := j) rfl rfl (by omega) (by decide) dX0_twoAt_12 ?_
  refine lv_goto (tgt := 17) hx hb dX0_twoAt_13 (by decide) ?_
  exact kM_iret hx hb hr hlk hQ hP hD hK hS () rfl (Nat.le_of_ble_eq_true rfl) (Nat.le_of_ble_eq_true rfl) rfl trivial dX0_twoAt_17
theorem iu_X0_rewriteTwo_X0 : ∀ w ∈ wsX00, w ∈ wsX0_rewriteTwo := fun w h => (List.mem_cons_of_mem _ (List.mem_append_right _ h))
def rm_c_X0_rewriteTwo : Room := { frames := 1, cells := 0, slots := 0, locals := 20 }
set_option maxHeartbeats 4000000 in
set_option maxRecDepth 100000 in
theorem c_X0_rewriteTwo (l : Launch) (D : va_G) (cI : ClassId) (oL a1 a2 a3 a4 a5 : Nat) (K : Nat → Int32) (O : Nat → Nat) (T : Nat → Int32) (M : Nat → Nat) (Z : Nat → Int32) (n k : Nat) (j : Nat) (v : Int32) (hj : j < 480) :
    kM l yX0_rewriteTwo wsX0_rewriteTwo rm_c_X0_rewriteTwo D [(cI, FieldType.int)] [.ref oL, .int (nI j), .int v] [(oL, .inr (0, [.ref a1, .ref a2, .ref a3, .ref a4, .ref a5, .int (nI n), .int (nI k)])), (a1, .inl (cI, 480, .inl K)), (a2, .inl (cI, 480, .inl (nF O))), (a3, .inl (cI, 480, .inl T)), (a4, .inl (cI, 40, .inl (nF M))), (a5, .inl (cI, 40, .inl Z))] (fun _ : Unit => True) (fun _ => none) (fun _ => [(oL, .inr (0, [.ref a1, .ref a2, .ref a3, .ref a4, .ref a5, .int (nI n), .int (nI k)])), (a1, .inl (cI, 480, .inl K)), (a2, .inl (cI, 480, .inl (nF O))), (a3, .inl (cI, 480, .inl (upd T j v))), (a4, .inl (cI, 40, .inl (nF M))), (a5, .inl (cI, 40, .inl Z))]) := by
  refine kM_of (cc := cX0_rewriteTwo) (maxL := 3) (ret := none) (own := RX0) (by decide) rfl rfl (Nat.le_of_ble_eq_true rfl) ?_
  intro p e s m args below meth c A ls Qz hx hb hml hr hts hown hlk hin hQ hA hS hP hD hK hl
  have hl : lv_has ls 3 [(0, .ref oL), (1, .int (nI j)), (2, .int v)] := hl
  refine lv_iload_n hx hb dX0_rewriteTwo_0 rfl (lv_at hl 1 rfl) ?_
  refine kM_callS (As := [.int (nI j)]) (rest := []) (wr := [(oL, .inr (0, [.ref a1, .ref a2, .ref a3, .ref a4, .ref a5, .int (nI n), .int (nI k)])), (a1, .inl (cI, 480, .inl K)), (a2, .inl (cI, 480, .inl (nF O))), (a3, .inl (cI, 480, .inl T)), (a4, .inl (cI, 40, .inl (nF M))), (a5, .inl (cI, 40, .inl Z))]) (w2 := fun _ => [(oL, .inr (0, [.ref a1, .ref a2, .ref a3, .ref a4, .ref a5, .int (nI n), .int (nI k)])), (a1, .inl (cI, 480, .inl K)), (a2, .inl (cI, 480, .inl (nF O))), (a3, .inl (cI, 480, .inl T)), (a4, .inl (cI, 40, .inl (nF M))), (a5, .inl (cI, 40, .inl Z))]) (st2 := fun _ => [.int (b2i (j < 480))]) (k := 0) (n2 := 0) ⟨hx, hb, hml, hown, hts⟩ (c_X0_isSlot l D cI j (by omega)) (va_cwS 1 hts gX0_rewriteTwo_X0_isSlot rfl rfl rfl (by decide +kernel) ⟨Nat.le_of_ble_eq_true rfl, Nat.le_of_ble_eq_true rfl⟩) [0] rfl hK hP hD hS hA [] [0, 1, 2, 3, 4, 5] rfl (by decide) rfl (by decide) (by decide) [0, 1, 2, 3, 4, 5] (by decide) (fun _ => rfl) (Nat.le_refl _) (Nat.le_refl _) (Nat.le_of_ble_eq_true rfl) (Nat.le_of_ble_eq_true rfl) rfl hl.1 (Nat.le_of_ble_eq_true rfl) (fun _ => rfl) rfl dX0_rewriteTwo_1 (fun u H locs hu hP hD hS => ?_)
  refine k_bif_eq hx hb (tgt := 14) dX0_rewriteTwo_4 (by decide) (fun c_1 => (absurd hj c_1 : False).elim) (fun c_1 => ?_)
  refine lv_aload_n hx hb dX0_rewriteTwo_7 rfl (lv_at hl 0 rfl) ?_
  refine va_get (D := D) (ci := 0) (v := .ref a3) (C := RX0) (T := TX0) (N := 7) hx hb hts iu_X0_rewriteTwo_X0 hown hK hP 0 rfl rfl 2 (by decide) (hts _ (List.mem_of_getElem? (i := 1) rfl)) (fun _ h9 => h9) rfl dX0_rewriteTwo_8 ?_
  refine lv_iload_n hx hb dX0_rewriteTwo_11 rfl (lv_at hl 1 rfl) ?_
  refine lv_iload_n hx hb dX0_rewriteTwo_12 rfl (lv_at hl 2 rfl) ?_
  refine k_iast (w2 := [(oL, .inr (0, [.ref a1, .ref a2, .ref a3, .ref a4, .ref a5, .int (nI n), .int (nI k)])), (a1, .inl (cI, 480, .inl K)), (a2, .inl (cI, 480, .inl (nF O))), (a3, .inl (cI, 480, .inl (upd T j v))), (a4, .inl (cI, 40, .inl (nF M))), (a5, .inl (cI, 40, .inl Z))]) hx hb hK hP hD hS 3 0 (i := j) rfl rfl (by omega) (by decide) dX0_rewriteTwo_13 (g := upd T j v) rfl rfl (fun H locs hP hD hS => ?_)
  exact kM_vret hx hb hr hlk hQ hP hD hK hS () rfl (Nat.le_of_ble_eq_true rfl) (Nat.le_of_ble_eq_true rfl) rfl trivial dX0_rewriteTwo_14
theorem iu_X0_writtenSeal_X0 : ∀ w ∈ wsX00, w ∈ wsX0_writtenSeal := fun w h => (List.mem_cons_of_mem _ (List.mem_append_right _ h))
def rm_c_X0_writtenSeal : Room := { frames := 1, cells := 0, slots := 0, locals := 20 }
set_option maxHeartbeats 4000000 in
set_option maxRecDepth 100000 in
theorem c_X0_writtenSeal (l : Launch) (D : va_G) (cI : ClassId) (oL a1 a2 a3 a4 a5 : Nat) (K : Nat → Int32) (O : Nat → Nat) (T : Nat → Int32) (M : Nat → Nat) (Z : Nat → Int32) (n k : Nat) (j : Nat) (hj : j < 40) :
    kM l yX0_writtenSeal wsX0_writtenSeal rm_c_X0_writtenSeal D [(cI, FieldType.int)] [.ref oL, .int (nI j)] [(oL, .inr (0, [.ref a1, .ref a2, .ref a3, .ref a4, .ref a5, .int (nI n), .int (nI k)])), (a1, .inl (cI, 480, .inl K)), (a2, .inl (cI, 480, .inl (nF O))), (a3, .inl (cI, 480, .inl T)), (a4, .inl (cI, 40, .inl (nF M))), (a5, .inl (cI, 40, .inl Z))] (fun _ : Unit => True) (fun _ => some (.int (Z j))) (fun _ => [(oL, .inr (0, [.ref a1, .ref a2, .ref a3, .ref a4, .ref a5, .int (nI n), .int (nI k)])), (a1, .inl (cI, 480, .inl K)), (a2, .inl (cI, 480, .inl (nF O))), (a3, .inl (cI, 480, .inl T)), (a4, .inl (cI, 40, .inl (nF M))), (a5, .inl (cI, 40, .inl Z))]) := by
  refine kM_of (cc := cX0_writtenSeal) (maxL := 2) (ret := (some .int)) (own := RX0) (by decide) rfl rfl (Nat.le_of_ble_eq_true rfl) ?_
  intro p e s m args below meth c A ls Qz hx hb hml hr hts hown hlk hin hQ hA hS hP hD hK hl
  have hl : lv_has ls 2 [(0, .ref oL), (1, .int (nI j))] := hl
  refine lv_iload_n hx hb dX0_writtenSeal_0 rfl (lv_at hl 1 rfl) ?_
  refine kM_callS (As := [.int (nI j)]) (rest := []) (wr := [(oL, .inr (0, [.ref a1, .ref a2, .ref a3, .ref a4, .ref a5, .int (nI n), .int (nI k)])), (a1, .inl (cI, 480, .inl K)), (a2, .inl (cI, 480, .inl (nF O))), (a3, .inl (cI, 480, .inl T)), (a4, .inl (cI, 40, .inl (nF M))), (a5, .inl (cI, 40, .inl Z))]) (w2 := fun _ => [(oL, .inr (0, [.ref a1, .ref a2, .ref a3, .ref a4, .ref a5, .int (nI n), .int (nI k)])), (a1, .inl (cI, 480, .inl K)), (a2, .inl (cI, 480, .inl (nF O))), (a3, .inl (cI, 480, .inl T)), (a4, .inl (cI, 40, .inl (nF M))), (a5, .inl (cI, 40, .inl Z))]) (st2 := fun _ => [.int (b2i (j < 40))]) (k := 0) (n2 := 0) ⟨hx, hb, hml, hown, hts⟩ (c_X0_hasRow l D cI j (by omega)) (va_cwS 1 hts gX0_writtenSeal_X0_hasRow rfl rfl rfl (by decide +kernel) ⟨Nat.le_of_ble_eq_true rfl, Nat.le_of_ble_eq_true rfl⟩) [0] rfl hK hP hD hS hA [] [0, 1, 2, 3, 4, 5] rfl (by decide) rfl (by decide) (by decide) [0, 1, 2, 3, 4, 5] (by decide) (fun _ => rfl) (Nat.le_refl _) (Nat.le_refl _) (Nat.le_of_ble_eq_true rfl) (Nat.le_of_ble_eq_true rfl) rfl hl.1 (Nat.le_of_ble_eq_true rfl) (fun _ => rfl) rfl dX0_writtenSeal_1 (fun u H locs hu hP hD hS => ?_)
  refine k_bif_eq hx hb (tgt := 16) dX0_writtenSeal_4 (by decide) (fun c_1 => (absurd hj c_1 : False).elim) (fun c_1 => ?_)
  refine lv_aload_n hx hb dX0_writtenSeal_7 rfl (lv_at hl 0 rfl) ?_
  refine va_get (D := D) (ci := 0) (v := .ref a5) (C := RX0) (T := TX0) (N := 7) hx hb hts iu_X0_writtenSeal_X0 hown hK hP 0 rfl rfl 4 (by decide) (hts _ (List.mem_of_getElem? (i := 1) rfl)) (fun _ h9 => h9) rfl dX0_writtenSeal_8 ?_
  refine lv_iload_n hx hb dX0_writtenSeal_11 rfl (lv_at hl 1 rfl) ?_
  refine k_iald hx hb hK hP 5 0 (i := j) rfl rfl (by omega) (by decide) dX0_writtenSeal_12 ?_
  refine lv_goto (tgt := 18) hx hb dX0_writtenSeal_13 (by decide) ?_
  exact kM_iret hx hb hr hlk hQ hP hD hK hS () rfl (Nat.le_of_ble_eq_true rfl) (Nat.le_of_ble_eq_true rfl) rfl trivial dX0_writtenSeal_18
def rm_c_X0_hasRow_m1 : Room := { frames := 0, cells := 0, slots := 0, locals := 0 }
set_option maxHeartbeats 4000000 in
set_option maxRecDepth 100000 in
theorem c_X0_hasRow_m1 (l : Launch) (D : va_G) (cI : ClassId)  :
    kM l yX0_hasRow wsX0_hasRow rm_c_X0_hasRow_m1 D [(cI, FieldType.int)] [.int (-1)] [] (fun _ : Unit => True) (fun _ => some (.int (b2i (False)))) (fun _ => []) := by
  refine kM_of (cc := cX0_hasRow) (maxL := 1) (ret := (some .boolean)) (own := RX0) (by decide) rfl rfl (Nat.le_of_ble_eq_true rfl) ?_
  intro p e s m args below meth c A ls Qz hx hb hml hr hts hown hlk hin hQ hA hS hP hD hK hl
  have hl : lv_has ls 1 [(0, .int (-1))] := hl
  refine lv_iload_n hx hb dX0_hasRow_0 rfl (lv_at hl 0 rfl) ?_
  refine lv_if_lt hx hb (tgt := 14) dX0_hasRow_1 (by decide) (fun c_1 => ?_) (fun h => absurd h (by decide))
  refine lv_iconst (v := (nI 0)) hx hb dX0_hasRow_14 (by decide) ?_
  exact kM_zret hx hb hr hlk hQ hP hD hK hS () rfl (Nat.le_of_ble_eq_true rfl) (Nat.le_of_ble_eq_true rfl) (by decide) (congrArg (fun z => some (Value.int z)) (if_neg (by exact id))) trivial dX0_hasRow_15
def rm_c_X0_writtenSeal_m1 : Room := { frames := 1, cells := 0, slots := 0, locals := 20 }
set_option maxHeartbeats 4000000 in
set_option maxRecDepth 100000 in
theorem c_X0_writtenSeal_m1 (l : Launch) (D : va_G) (cI : ClassId) (oL a1 a2 a3 a4 a5 : Nat) (K : Nat → Int32) (O : Nat → Nat) (T : Nat → Int32) (M : Nat → Nat) (Z : Nat → Int32) (n k : Nat) :
    kM l yX0_writtenSeal wsX0_writtenSeal rm_c_X0_writtenSeal_m1 D [(cI, FieldType.int)] [.ref oL, .int (-1)] [(oL, .inr (0, [.ref a1, .ref a2, .ref a3, .ref a4, .ref a5, .int (nI n), .int (nI k)])), (a1, .inl (cI, 480, .inl K)), (a2, .inl (cI, 480, .inl (nF O))), (a3, .inl (cI, 480, .inl T)), (a4, .inl (cI, 40, .inl (nF M))), (a5, .inl (cI, 40, .inl Z))] (fun _ : Unit => True) (fun _ => some (.int (nI 17))) (fun _ => [(oL, .inr (0, [.ref a1, .ref a2, .ref a3, .ref a4, .ref a5, .int (nI n), .int (nI k)])), (a1, .inl (cI, 480, .inl K)), (a2, .inl (cI, 480, .inl (nF O))), (a3, .inl (cI, 480, .inl T)), (a4, .inl (cI, 40, .inl (nF M))), (a5, .inl (cI, 40, .inl Z))]) := by
  refine kM_of (cc := cX0_writtenSeal) (maxL := 2) (ret := (some .int)) (own := RX0) (by decide) rfl rfl (Nat.le_of_ble_eq_true rfl) ?_
  intro p e s m args below meth c A ls Qz hx hb hml hr hts hown hlk hin hQ hA hS hP hD hK hl
  have hl : lv_has ls 2 [(0, .ref oL), (1, .int (-1))] := hl
  refine lv_iload_n hx hb dX0_writtenSeal_0 rfl (lv_at hl 1 rfl) ?_
  refine kM_callS (As := [.int (-1)]) (rest := []) (wr := [(oL, .inr (0, [.ref a1, .ref a2, .ref a3, .ref a4, .ref a5, .int (nI n), .int (nI k)])), (a1, .inl (cI, 480, .inl K)), (a2, .inl (cI, 480, .inl (nF O))), (a3, .inl (cI, 480, .inl T)), (a4, .inl (cI, 40, .inl (nF M))), (a5, .inl (cI, 40, .inl Z))]) (w2 := fun _ => [(oL, .inr (0, [.ref a1, .ref a2, .ref a3, .ref a4, .ref a5, .int (nI n), .int (nI k)])), (a1, .inl (cI, 480, .inl K)), (a2, .inl (cI, 480, .inl (nF O))), (a3, .inl (cI, 480, .inl T)), (a4, .inl (cI, 40, .inl (nF M))), (a5, .inl (cI, 40, .inl Z))]) (st2 := fun _ => [.int (b2i (False))]) (k := 0) (n2 := 0) ⟨hx, hb, hml, hown, hts⟩ (c_X0_hasRow_m1 l D cI ) (va_cwS 1 hts gX0_writtenSeal_X0_hasRow rfl rfl rfl (by decide +kernel) ⟨Nat.le_of_ble_eq_true rfl, Nat.le_of_ble_eq_true rfl⟩) [0] rfl hK hP hD hS hA [] [0, 1, 2, 3, 4, 5] rfl (by decide) rfl (by decide) (by decide) [0, 1, 2, 3, 4, 5] (by decide) (fun _ => rfl) (Nat.le_refl _) (Nat.le_refl _) (Nat.le_of_ble_eq_true rfl) (Nat.le_of_ble_eq_true rfl) rfl hl.1 (Nat.le_of_ble_eq_true rfl) (fun _ => rfl) rfl dX0_writtenSeal_1 (fun u H locs hu hP hD hS => ?_)
  refine k_bif_eq hx hb (tgt := 16) dX0_writtenSeal_4 (by decide) (fun c_1 => ?_) (fun c_1 => (c_1 : False).elim)
  refine lv_bipush (v := (nI 17)) hx hb dX0_writtenSeal_16 (by decide) ?_
  exact kM_iret hx hb hr hlk hQ hP hD hK hS () rfl (Nat.le_of_ble_eq_true rfl) (Nat.le_of_ble_eq_true rfl) rfl trivial dX0_writtenSeal_18
theorem iu_X0_isForgotten_X0 : ∀ w ∈ wsX00, w ∈ wsX0_isForgotten := fun w h => (List.mem_cons_of_mem _ (List.mem_append_right _ h))
def rm_c_X0_isForgotten : Room := { frames := 0, cells := 0, slots := 0, locals := 0 }
set_option maxHeartbeats 4000000 in
set_option maxRecDepth 100000 in
theorem c_X0_isForgotten (l : Launch) (D : va_G) (cI : ClassId) (oL a1 a2 a3 a4 a5 : Nat) (K : Nat → Int32) (O : Nat → Nat) (T : Nat → Int32) (M : Nat → Nat) (Z : Nat → Int32) (n k : Nat) (j : Nat) (hj : j < 2147483648) (hk : k ≤ 40) :
    kM l yX0_isForgotten wsX0_isForgotten rm_c_X0_isForgotten D [(cI, FieldType.int)] [.ref oL, .int (nI j)] [(oL, .inr (0, [.ref a1, .ref a2, .ref a3, .ref a4, .ref a5, .int (nI n), .int (nI k)])), (a1, .inl (cI, 480, .inl K)), (a2, .inl (cI, 480, .inl (nF O))), (a3, .inl (cI, 480, .inl T)), (a4, .inl (cI, 40, .inl (nF M))), (a5, .inl (cI, 40, .inl Z))] (fun _ : Unit => True) (fun _ => some (.int (b2i (j < k)))) (fun _ => [(oL, .inr (0, [.ref a1, .ref a2, .ref a3, .ref a4, .ref a5, .int (nI n), .int (nI k)])), (a1, .inl (cI, 480, .inl K)), (a2, .inl (cI, 480, .inl (nF O))), (a3, .inl (cI, 480, .inl T)), (a4, .inl (cI, 40, .inl (nF M))), (a5, .inl (cI, 40, .inl Z))]) := by
  refine kM_of (cc := cX0_isForgotten) (maxL := 2) (ret := (some .boolean)) (own := RX0) (by decide) rfl rfl (Nat.le_of_ble_eq_true rfl) ?_
  intro p e s m args below meth c A ls Qz hx hb hml hr hts hown hlk hin hQ hA hS hP hD hK hl
  have hl : lv_has ls 2 [(0, .ref oL), (1, .int (nI j))] := hl
  refine lv_iload_n hx hb dX0_isForgotten_0 rfl (lv_at hl 1 rfl) ?_
  refine k_if_lt hx hb (tgt := 16) (by omega) dX0_isForgotten_1 (by decide) (fun h => h.elim) (fun _ => ?_)
  refine lv_iload_n hx hb dX0_isForgotten_4 rfl (lv_at hl 1 rfl) ?_
  refine lv_aload_n hx hb dX0_isForgotten_5 rfl (lv_at hl 0 rfl) ?_
  refine va_get (D := D) (ci := 0) (v := .int (nI k)) (C := RX0) (T := TX0) (N := 7) hx hb hts iu_X0_isForgotten_X0 hown hK hP 0 rfl rfl 6 (by decide) (hts _ (List.mem_of_getElem? (i := 1) rfl)) (fun _ h9 => h9) rfl dX0_isForgotten_6 ?_
  refine k_icmp_ge hx hb (tgt := 16) (by omega) (by omega) dX0_isForgotten_9 (by decide) (fun c_2 => ?_) (fun c_2 => ?_)
  · refine lv_iconst (v := (nI 0)) hx hb dX0_isForgotten_16 (by decide) ?_
    exact kM_zret hx hb hr hlk hQ hP hD hK hS () rfl (Nat.le_of_ble_eq_true rfl) (Nat.le_of_ble_eq_true rfl) (by decide) (congrArg (fun z => some (Value.int z)) (if_neg (by omega))) trivial dX0_isForgotten_17
  · refine lv_iconst (v := (nI 1)) hx hb dX0_isForgotten_12 (by decide) ?_
    refine lv_goto (tgt := 17) hx hb dX0_isForgotten_13 (by decide) ?_
    exact kM_zret hx hb hr hlk hQ hP hD hK hS () rfl (Nat.le_of_ble_eq_true rfl) (Nat.le_of_ble_eq_true rfl) (by decide) (congrArg (fun z => some (Value.int z)) (if_pos (by omega))) trivial dX0_isForgotten_17
theorem iu_X0_reckonSeal_X0 : ∀ w ∈ wsX00, w ∈ wsX0_reckonSeal := fun w h => (List.mem_cons_of_mem _ (List.mem_append_right _ h))
def rm_c_X0_reckonSeal_0 : Room := { frames := 3, cells := 0, slots := 0, locals := 63 }
set_option maxHeartbeats 4000000 in
set_option maxRecDepth 100000 in
theorem c_X0_reckonSeal_0 (l : Launch) (D : va_G) (cI : ClassId) (oL a1 a2 a3 a4 a5 : Nat) (K : Nat → Int32) (O : Nat → Nat) (T : Nat → Int32) (M : Nat → Nat) (Z : Nat → Int32) (n k : Nat) (hM : ∀ i, M i ≤ 12) (hO : ∀ i, O i < 8) :
    kM l yX0_reckonSeal wsX0_reckonSeal rm_c_X0_reckonSeal_0 D [(cI, FieldType.int)] [.ref oL, .int (nI 0)] [(oL, .inr (0, [.ref a1, .ref a2, .ref a3, .ref a4, .ref a5, .int (nI n), .int (nI k)])), (a1, .inl (cI, 480, .inl K)), (a2, .inl (cI, 480, .inl (nF O))), (a3, .inl (cI, 480, .inl T)), (a4, .inl (cI, 40, .inl (nF M))), (a5, .inl (cI, 40, .inl Z))] (fun _ : Unit => True) (fun _ => some (.int (sealW K O T 0 (nI 17) (M 0)))) (fun _ => [(oL, .inr (0, [.ref a1, .ref a2, .ref a3, .ref a4, .ref a5, .int (nI n), .int (nI k)])), (a1, .inl (cI, 480, .inl K)), (a2, .inl (cI, 480, .inl (nF O))), (a3, .inl (cI, 480, .inl T)), (a4, .inl (cI, 40, .inl (nF M))), (a5, .inl (cI, 40, .inl Z))]) := by
  refine kM_of (cc := cX0_reckonSeal) (maxL := 6) (ret := (some .int)) (own := RX0) (by decide) rfl rfl (Nat.le_of_ble_eq_true rfl) ?_
  intro p e s m args below meth c A ls Qz hx hb hml hr hts hown hlk hin hQ hA hS hP hD hK hl
  have hl : lv_has ls 6 [(0, .ref oL), (1, .int (nI 0))] := hl
  have hMj := hM 0
  refine lv_aload_n hx hb dX0_reckonSeal_0 rfl (lv_at hl 0 rfl) ?_
  refine lv_iload_n hx hb dX0_reckonSeal_1 rfl (lv_at hl 1 rfl) ?_
  refine lv_iconst (v := (nI 1)) hx hb dX0_reckonSeal_2 (by decide) ?_
  refine lv_isub hx hb dX0_reckonSeal_3 ?_
  refine k_top (y := (-1)) (by decide) ?_
  refine kM_callV (As := [.int (-1)]) (rest := []) (wr := []) (w2 := fun _ => [(oL, .inr (0, [.ref a1, .ref a2, .ref a3, .ref a4, .ref a5, .int (nI n), .int (nI k)])), (a1, .inl (cI, 480, .inl K)), (a2, .inl (cI, 480, .inl (nF O))), (a3, .inl (cI, 480, .inl T)), (a4, .inl (cI, 40, .inl (nF M))), (a5, .inl (cI, 40, .inl Z))]) (st2 := fun _ => [.int (nI 17)]) (k := 0) (n2 := 0) ⟨hx, hb, hml, hown, hts⟩ (c_X0_writtenSeal_m1 l D cI oL a1 a2 a3 a4 a5 K O T M Z n k) (cwV 1 hts gX0_reckonSeal_X0_writtenSeal rfl rfl rfl (by decide +kernel) ⟨Nat.le_of_ble_eq_true rfl, Nat.le_of_ble_eq_true rfl⟩) 0 rfl rfl rfl [0] rfl hK hP hD hS hA [0, 1, 2, 3, 4, 5] [] rfl (by decide) rfl (by decide) (by decide) [0, 1, 2, 3, 4, 5] (by decide) (fun _ => rfl) (Nat.le_refl _) (Nat.le_refl _) (Nat.le_of_ble_eq_true rfl) (Nat.le_of_ble_eq_true rfl) rfl hl.1 (Nat.le_of_ble_eq_true rfl) (fun _ => rfl) rfl dX0_reckonSeal_4 (fun u H locs hu hP hD hS => ?_)
  refine lv_istore_n (lv' := [(2, .int (nI 17)), (0, .ref oL), (1, .int (nI 0))]) hx hb dX0_reckonSeal_7 rfl hl (by decide) rfl (fun ls hl => ?_)
  refine lv_aload_n hx hb dX0_reckonSeal_8 rfl (lv_at hl 1 rfl) ?_
  refine lv_iload_n hx hb dX0_reckonSeal_9 rfl (lv_at hl 2 rfl) ?_
  refine kM_callV (As := [.int (nI 0)]) (rest := []) (wr := []) (w2 := fun _ => [(oL, .inr (0, [.ref a1, .ref a2, .ref a3, .ref a4, .ref a5, .int (nI n), .int (nI k)])), (a1, .inl (cI, 480, .inl K)), (a2, .inl (cI, 480, .inl (nF O))), (a3, .inl (cI, 480, .inl T)), (a4, .inl (cI, 40, .inl (nF M))), (a5, .inl (cI, 40, .inl Z))]) (st2 := fun _ => [.int (nI (M 0))]) (k := 0) (n2 := 0) ⟨hx, hb, hml, hown, hts⟩ (c_X0_deedsIn l D cI oL a1 a2 a3 a4 a5 K O T M Z n k 0 (by omega)) (cwV 1 hts gX0_reckonSeal_X0_deedsIn rfl rfl rfl (by decide +kernel) ⟨Nat.le_of_ble_eq_true rfl, Nat.le_of_ble_eq_true rfl⟩) 0 rfl rfl rfl [0] rfl hK hP hD hS hA [0, 1, 2, 3, 4, 5] [] rfl (by decide) rfl (by decide) (by decide) [0, 1, 2, 3, 4, 5] (by decide) (fun _ => rfl) (Nat.le_refl _) (Nat.le_refl _) (Nat.le_of_ble_eq_true rfl) (Nat.le_of_ble_eq_true rfl) rfl hl.1 (Nat.le_of_ble_eq_true rfl) (fun _ => rfl) rfl dX0_reckonSeal_10 (fun u H locs hu hP hD hS => ?_)
  refine lv_istore_n (lv' := [(3, .int (nI (M 0))), (2, .int (nI 17)), (0, .ref oL), (1, .int (nI 0))]) hx hb dX0_reckonSeal_13 rfl hl (by decide) rfl (fun ls hl => ?_)
  refine lv_iconst (v := (nI 0)) hx hb dX0_reckonSeal_14 (by decide) ?_
  refine lv_istore (lv' := [(4, .int (nI 0)), (3, .int (nI (M 0))), (2, .int (nI 17)), (0, .ref oL), (1, .int (nI 0))]) hx hb dX0_reckonSeal_15 hl (by decide) rfl (fun ls hl => ?_)
  have lp_17 : ∀ (fu d : Nat), 0 ≤ d → d ≤ M 0 → (M 0) + 1 ≤ d + fu → ∀ (x1 : Int32), x1 = sealW K O T 0 (nI 17) d → ∀ (H : Heap) (locs : List Loc), va_P D vwCl [(oL, .inr (0, [.ref a1, .ref a2, .ref a3, .ref a4, .ref a5, .int (nI n), .int (nI k)])), (a1, .inl (cI, 480, .inl K)), (a2, .inl (cI, 480, .inl (nF O))), (a3, .inl (cI, 480, .inl T)), (a4, .inl (cI, 40, .inl (nF M))), (a5, .inl (cI, 40, .inl Z))] H → va_D A [(oL, .inr (0, [.ref a1, .ref a2, .ref a3, .ref a4, .ref a5, .int (nI n), .int (nI k)])), (a1, .inl (cI, 480, .inl K)), (a2, .inl (cI, 480, .inl (nF O))), (a3, .inl (cI, 480, .inl T)), (a4, .inl (cI, 40, .inl (nF M))), (a5, .inl (cI, 40, .inl Z))] → va_S A s.heap H locs → ∀ (ls : Array Slot), lv_has ls 6 [(4, .int (nI d)), (3, .int (nI (M 0))), (2, .int x1), (0, .ref oL), (1, .int (nI 0))] → W p l e rm_c_X0_reckonSeal_0 s m args below meth c H locs 0 0 Qz (F0 m 17 ls []) := by
    intro fu
    induction fu with
    | zero => intro d h1_17 h2_17 h3_17; exact absurd h3_17 (by omega)
    | succ fu ih_17 =>
      intro d h1_17 h2_17 h3_17 x1 ex1 H locs hP hD hS ls hl
      subst ex1
      refine lv_iload hx hb dX0_reckonSeal_17 (lv_at hl 0 rfl) ?_
      refine lv_iload_n hx hb dX0_reckonSeal_19 rfl (lv_at hl 1 rfl) ?_
      refine k_icmp_ge hx hb (tgt := 73) (by omega) (by omega) dX0_reckonSeal_20 (by decide) (fun c_1 => ?_) (fun c_1 => ?_)
      · have e_2 : M 0 = d := by omega
        subst e_2
        refine lv_iload_n hx hb dX0_reckonSeal_73 rfl (lv_at hl 2 rfl) ?_
        exact kM_iret hx hb hr hlk hQ hP hD hK hS () rfl (Nat.le_of_ble_eq_true rfl) (Nat.le_of_ble_eq_true rfl) (congrArg (fun z => some (Value.int z)) (by rfl)) trivial dX0_reckonSeal_74
      · refine lv_aload_n hx hb dX0_reckonSeal_23 rfl (lv_at hl 3 rfl) ?_
        refine lv_iload_n hx hb dX0_reckonSeal_24 rfl (lv_at hl 4 rfl) ?_
        refine lv_iload hx hb dX0_reckonSeal_25 (lv_at hl 0 rfl) ?_
        refine kM_callV (As := [.int (nI 0), .int (nI d)]) (rest := []) (wr := []) (w2 := fun _ => [(oL, .inr (0, [.ref a1, .ref a2, .ref a3, .ref a4, .ref a5, .int (nI n), .int (nI k)])), (a1, .inl (cI, 480, .inl K)), (a2, .inl (cI, 480, .inl (nF O))), (a3, .inl (cI, 480, .inl T)), (a4, .inl (cI, 40, .inl (nF M))), (a5, .inl (cI, 40, .inl Z))]) (st2 := fun _ => [.int (nI (0 * 12 + d))]) (k := 0) (n2 := 0) ⟨hx, hb, hml, hown, hts⟩ (c_X0_slotOf l D cI oL a1 a2 a3 a4 a5 K O T M Z n k 0 d (by omega) (by omega) hM) (cwV 2 hts gX0_reckonSeal_X0_slotOf rfl rfl rfl (by decide +kernel) ⟨Nat.le_of_ble_eq_true rfl, Nat.le_of_ble_eq_true rfl⟩) 0 rfl rfl rfl [0] rfl hK hP hD hS hA [0, 1, 2, 3, 4, 5] [] rfl (by decide) rfl (by decide) (by decide) [0, 1, 2, 3, 4, 5] (by decide) (fun _ => rfl) (Nat.le_refl _) (Nat.le_refl _) (Nat.le_of_ble_eq_true rfl) (Nat.le_of_ble_eq_true rfl) rfl hl.1 (Nat.le_of_ble_eq_true rfl) (fun _ => rfl) rfl dX0_reckonSeal_27 (fun u H locs hu hP hD hS => ?_)
        refine lv_istore (lv' := [(5, .int (nI (0 * 12 + d))), (4, .int (nI d)), (3, .int (nI (M 0))), (2, .int (sealW K O T 0 (nI 17) d)), (0, .ref oL), (1, .int (nI 0))]) hx hb dX0_reckonSeal_30 hl (by decide) rfl (fun ls hl => ?_)
        refine lv_iload_n hx hb dX0_reckonSeal_32 rfl (lv_at hl 3 rfl) ?_
        refine lv_bipush (v := (nI 31)) hx hb dX0_reckonSeal_33 (by decide) ?_
        refine lv_imul hx hb dX0_reckonSeal_35 ?_
        refine lv_aload_n hx hb dX0_reckonSeal_36 rfl (lv_at hl 4 rfl) ?_
        refine lv_iload hx hb dX0_reckonSeal_37 (lv_at hl 0 rfl) ?_
        refine kM_callV (As := [.int (nI (0 * 12 + d))]) (rest := [.int ((sealW K O T 0 (nI 17) d) * (nI 31))]) (wr := []) (w2 := fun _ => [(oL, .inr (0, [.ref a1, .ref a2, .ref a3, .ref a4, .ref a5, .int (nI n), .int (nI k)])), (a1, .inl (cI, 480, .inl K)), (a2, .inl (cI, 480, .inl (nF O))), (a3, .inl (cI, 480, .inl T)), (a4, .inl (cI, 40, .inl (nF M))), (a5, .inl (cI, 40, .inl Z))]) (st2 := fun _ => [.int (K (0 * 12 + d)), .int ((sealW K O T 0 (nI 17) d) * (nI 31))]) (k := 0) (n2 := 0) ⟨hx, hb, hml, hown, hts⟩ (c_X0_kindAt l D cI oL a1 a2 a3 a4 a5 K O T M Z n k (0 * 12 + d) (by omega)) (cwV 1 hts gX0_reckonSeal_X0_kindAt rfl rfl rfl (by decide +kernel) ⟨Nat.le_of_ble_eq_true rfl, Nat.le_of_ble_eq_true rfl⟩) 0 rfl rfl rfl [0] rfl hK hP hD hS hA [0, 1, 2, 3, 4, 5] [] rfl (by decide) rfl (by decide) (by decide) [0, 1, 2, 3, 4, 5] (by decide) (fun _ => rfl) (Nat.le_refl _) (Nat.le_refl _) (Nat.le_of_ble_eq_true rfl) (Nat.le_of_ble_eq_true rfl) rfl hl.1 (Nat.le_of_ble_eq_true rfl) (fun _ => rfl) rfl dX0_reckonSeal_39 (fun u H locs hu hP hD hS => ?_)
        refine lv_iadd hx hb dX0_reckonSeal_42 ?_
        refine lv_aload_n hx hb dX0_reckonSeal_43 rfl (lv_at hl 4 rfl) ?_
        refine lv_iload hx hb dX0_reckonSeal_44 (lv_at hl 0 rfl) ?_
        refine kM_callV (As := [.int (nI (0 * 12 + d))]) (rest := [.int (((sealW K O T 0 (nI 17) d) * (nI 31)) + (K (0 * 12 + d)))]) (wr := []) (w2 := fun _ => [(oL, .inr (0, [.ref a1, .ref a2, .ref a3, .ref a4, .ref a5, .int (nI n), .int (nI k)])), (a1, .inl (cI, 480, .inl K)), (a2, .inl (cI, 480, .inl (nF O))), (a3, .inl (cI, 480, .inl T)), (a4, .inl (cI, 40, .inl (nF M))), (a5, .inl (cI, 40, .inl Z))]) (st2 := fun _ => [.int (nI (O (0 * 12 + d))), .int (((sealW K O T 0 (nI 17) d) * (nI 31)) + (K (0 * 12 + d)))]) (k := 0) (n2 := 0) ⟨hx, hb, hml, hown, hts⟩ (c_X0_oneAt l D cI oL a1 a2 a3 a4 a5 K O T M Z n k (0 * 12 + d) (by omega)) (cwV 1 hts gX0_reckonSeal_X0_oneAt rfl rfl rfl (by decide +kernel) ⟨Nat.le_of_ble_eq_true rfl, Nat.le_of_ble_eq_true rfl⟩) 0 rfl rfl rfl [0] rfl hK hP hD hS hA [0, 1, 2, 3, 4, 5] [] rfl (by decide) rfl (by decide) (by decide) [0, 1, 2, 3, 4, 5] (by decide) (fun _ => rfl) (Nat.le_refl _) (Nat.le_refl _) (Nat.le_of_ble_eq_true rfl) (Nat.le_of_ble_eq_true rfl) rfl hl.1 (Nat.le_of_ble_eq_true rfl) (fun _ => rfl) rfl dX0_reckonSeal_46 (fun u H locs hu hP hD hS => ?_)
        refine lv_iconst (v := (nI 5)) hx hb dX0_reckonSeal_49 (by decide) ?_
        refine k_imul hx hb dX0_reckonSeal_50 ?_
        refine lv_iadd hx hb dX0_reckonSeal_51 ?_
        refine lv_aload_n hx hb dX0_reckonSeal_52 rfl (lv_at hl 4 rfl) ?_
        refine lv_iload hx hb dX0_reckonSeal_53 (lv_at hl 0 rfl) ?_
        refine kM_callV (As := [.int (nI (0 * 12 + d))]) (rest := [.int ((((sealW K O T 0 (nI 17) d) * (nI 31)) + (K (0 * 12 + d))) + (nI ((O (0 * 12 + d)) * 5)))]) (wr := []) (w2 := fun _ => [(oL, .inr (0, [.ref a1, .ref a2, .ref a3, .ref a4, .ref a5, .int (nI n), .int (nI k)])), (a1, .inl (cI, 480, .inl K)), (a2, .inl (cI, 480, .inl (nF O))), (a3, .inl (cI, 480, .inl T)), (a4, .inl (cI, 40, .inl (nF M))), (a5, .inl (cI, 40, .inl Z))]) (st2 := fun _ => [.int (T (0 * 12 + d)), .int ((((sealW K O T 0 (nI 17) d) * (nI 31)) + (K (0 * 12 + d))) + (nI ((O (0 * 12 + d)) * 5)))]) (k := 0) (n2 := 0) ⟨hx, hb, hml, hown, hts⟩ (c_X0_twoAt l D cI oL a1 a2 a3 a4 a5 K O T M Z n k (0 * 12 + d) (by omega)) (cwV 1 hts gX0_reckonSeal_X0_twoAt rfl rfl rfl (by decide +kernel) ⟨Nat.le_of_ble_eq_true rfl, Nat.le_of_ble_eq_true rfl⟩) 0 rfl rfl rfl [0] rfl hK hP hD hS hA [0, 1, 2, 3, 4, 5] [] rfl (by decide) rfl (by decide) (by decide) [0, 1, 2, 3, 4, 5] (by decide) (fun _ => rfl) (Nat.le_refl _) (Nat.le_refl _) (Nat.le_of_ble_eq_true rfl) (Nat.le_of_ble_eq_true rfl) rfl hl.1 (Nat.le_of_ble_eq_true rfl) (fun _ => rfl) rfl dX0_reckonSeal_55 (fun u H locs hu hP hD hS => ?_)
        refine lv_bipush (v := (nI 7)) hx hb dX0_reckonSeal_58 (by decide) ?_
        refine lv_imul hx hb dX0_reckonSeal_60 ?_
        refine lv_iadd hx hb dX0_reckonSeal_61 ?_
        refine lv_sipush (v := (nI 10007)) hx hb dX0_reckonSeal_62 (by decide) ?_
        refine lv_irem hx hb dX0_reckonSeal_65 (by decide) ?_
        refine k_top (y := (irem (((((sealW K O T 0 (nI 17) d) * (nI 31)) + (K (0 * 12 + d))) + (nI ((O (0 * 12 + d)) * 5))) + ((T (0 * 12 + d)) * (nI 7))) (nI 10007))) rfl ?_
        refine lv_istore_n (lv' := [(2, .int (irem (((((sealW K O T 0 (nI 17) d) * (nI 31)) + (K (0 * 12 + d))) + (nI ((O (0 * 12 + d)) * 5))) + ((T (0 * 12 + d)) * (nI 7))) (nI 10007))), (5, .int (nI (0 * 12 + d))), (4, .int (nI d)), (3, .int (nI (M 0))), (0, .ref oL), (1, .int (nI 0))]) hx hb dX0_reckonSeal_66 rfl hl (by decide) rfl (fun ls hl => ?_)
        refine lv_iinc (v := (nI (d + 1))) (lv' := [(4, .int (nI (d + 1))), (2, .int (irem (((((sealW K O T 0 (nI 17) d) * (nI 31)) + (K (0 * 12 + d))) + (nI ((O (0 * 12 + d)) * 5))) + ((T (0 * 12 + d)) * (nI 7))) (nI 10007))), (5, .int (nI (0 * 12 + d))), (3, .int (nI (M 0))), (0, .ref oL), (1, .int (nI 0))]) (k := 2) hx hb dX0_reckonSeal_67 hl rfl (nI_add d 1) (by decide) rfl (fun ls hl => ?_)
        refine lv_goto (tgt := 17) hx hb dX0_reckonSeal_70 (by decide) ?_
        exact ih_17 (d + 1) (by omega) (by omega) (by omega) (irem (((((sealW K O T 0 (nI 17) d) * (nI 31)) + (K (0 * 12 + d))) + (nI ((O (0 * 12 + d)) * 5))) + ((T (0 * 12 + d)) * (nI 7))) (nI 10007)) rfl _ _ hP hD hS ls (lv_sub hl [0, 3, 1, 4, 5] rfl)
  exact lp_17 ((M 0) + 1) 0 (by omega) (by omega) (by omega) (nI 17) rfl _ _ hP hD hS ls (lv_sub hl [0, 1, 2, 3, 4] rfl)
def rm_c_X0_reckonSeal_s : Room := { frames := 3, cells := 0, slots := 0, locals := 63 }
set_option maxHeartbeats 4000000 in
set_option maxRecDepth 100000 in
theorem c_X0_reckonSeal_s (l : Launch) (D : va_G) (cI : ClassId) (oL a1 a2 a3 a4 a5 : Nat) (K : Nat → Int32) (O : Nat → Nat) (T : Nat → Int32) (M : Nat → Nat) (Z : Nat → Int32) (n k : Nat) (j : Nat) (hj : j + 1 < 40) (hM : ∀ i, M i ≤ 12) (hO : ∀ i, O i < 8) :
    kM l yX0_reckonSeal wsX0_reckonSeal rm_c_X0_reckonSeal_s D [(cI, FieldType.int)] [.ref oL, .int (nI (j + 1))] [(oL, .inr (0, [.ref a1, .ref a2, .ref a3, .ref a4, .ref a5, .int (nI n), .int (nI k)])), (a1, .inl (cI, 480, .inl K)), (a2, .inl (cI, 480, .inl (nF O))), (a3, .inl (cI, 480, .inl T)), (a4, .inl (cI, 40, .inl (nF M))), (a5, .inl (cI, 40, .inl Z))] (fun _ : Unit => True) (fun _ => some (.int (sealW K O T (j + 1) (Z j) (M (j + 1))))) (fun _ => [(oL, .inr (0, [.ref a1, .ref a2, .ref a3, .ref a4, .ref a5, .int (nI n), .int (nI k)])), (a1, .inl (cI, 480, .inl K)), (a2, .inl (cI, 480, .inl (nF O))), (a3, .inl (cI, 480, .inl T)), (a4, .inl (cI, 40, .inl (nF M))), (a5, .inl (cI, 40, .inl Z))]) := by
  refine kM_of (cc := cX0_reckonSeal) (maxL := 6) (ret := (some .int)) (own := RX0) (by decide) rfl rfl (Nat.le_of_ble_eq_true rfl) ?_
  intro p e s m args below meth c A ls Qz hx hb hml hr hts hown hlk hin hQ hA hS hP hD hK hl
  have hl : lv_has ls 6 [(0, .ref oL), (1, .int (nI (j + 1)))] := hl
  have hMj := hM (j + 1)
  refine lv_aload_n hx hb dX0_reckonSeal_0 rfl (lv_at hl 0 rfl) ?_
  refine lv_iload_n hx hb dX0_reckonSeal_1 rfl (lv_at hl 1 rfl) ?_
  refine lv_iconst (v := (nI 1)) hx hb dX0_reckonSeal_2 (by decide) ?_
  refine k_isub hx hb (by omega) dX0_reckonSeal_3 ?_
  refine k_top (y := (nI j)) rfl ?_
  refine kM_callV (As := [.int (nI j)]) (rest := []) (wr := []) (w2 := fun _ => [(oL, .inr (0, [.ref a1, .ref a2, .ref a3, .ref a4, .ref a5, .int (nI n), .int (nI k)])), (a1, .inl (cI, 480, .inl K)), (a2, .inl (cI, 480, .inl (nF O))), (a3, .inl (cI, 480, .inl T)), (a4, .inl (cI, 40, .inl (nF M))), (a5, .inl (cI, 40, .inl Z))]) (st2 := fun _ => [.int (Z j)]) (k := 0) (n2 := 0) ⟨hx, hb, hml, hown, hts⟩ (c_X0_writtenSeal l D cI oL a1 a2 a3 a4 a5 K O T M Z n k j (by omega)) (cwV 1 hts gX0_reckonSeal_X0_writtenSeal rfl rfl rfl (by decide +kernel) ⟨Nat.le_of_ble_eq_true rfl, Nat.le_of_ble_eq_true rfl⟩) 0 rfl rfl rfl [0] rfl hK hP hD hS hA [0, 1, 2, 3, 4, 5] [] rfl (by decide) rfl (by decide) (by decide) [0, 1, 2, 3, 4, 5] (by decide) (fun _ => rfl) (Nat.le_refl _) (Nat.le_refl _) (Nat.le_of_ble_eq_true rfl) (Nat.le_of_ble_eq_true rfl) rfl hl.1 (Nat.le_of_ble_eq_true rfl) (fun _ => rfl) rfl dX0_reckonSeal_4 (fun u H locs hu hP hD hS => ?_)
  refine lv_istore_n (lv' := [(2, .int (Z j)), (0, .ref oL), (1, .int (nI (j + 1)))]) hx hb dX0_reckonSeal_7 rfl hl (by decide) rfl (fun ls hl => ?_)
  refine lv_aload_n hx hb dX0_reckonSeal_8 rfl (lv_at hl 1 rfl) ?_
  refine lv_iload_n hx hb dX0_reckonSeal_9 rfl (lv_at hl 2 rfl) ?_
  refine kM_callV (As := [.int (nI (j + 1))]) (rest := []) (wr := []) (w2 := fun _ => [(oL, .inr (0, [.ref a1, .ref a2, .ref a3, .ref a4, .ref a5, .int (nI n), .int (nI k)])), (a1, .inl (cI, 480, .inl K)), (a2, .inl (cI, 480, .inl (nF O))), (a3, .inl (cI, 480, .inl T)), (a4, .inl (cI, 40, .inl (nF M))), (a5, .inl (cI, 40, .inl Z))]) (st2 := fun _ => [.int (nI (M (j + 1)))]) (k := 0) (n2 := 0) ⟨hx, hb, hml, hown, hts⟩ (c_X0_deedsIn l D cI oL a1 a2 a3 a4 a5 K O T M Z n k (j + 1) (by omega)) (cwV 1 hts gX0_reckonSeal_X0_deedsIn rfl rfl rfl (by decide +kernel) ⟨Nat.le_of_ble_eq_true rfl, Nat.le_of_ble_eq_true rfl⟩) 0 rfl rfl rfl [0] rfl hK hP hD hS hA [0, 1, 2, 3, 4, 5] [] rfl (by decide) rfl (by decide) (by decide) [0, 1, 2, 3, 4, 5] (by decide) (fun _ => rfl) (Nat.le_refl _) (Nat.le_refl _) (Nat.le_of_ble_eq_true rfl) (Nat.le_of_ble_eq_true rfl) rfl hl.1 (Nat.le_of_ble_eq_true rfl) (fun _ => rfl) rfl dX0_reckonSeal_10 (fun u H locs hu hP hD hS => ?_)
  refine lv_istore_n (lv' := [(3, .int (nI (M (j + 1)))), (2, .int (Z j)), (0, .ref oL), (1, .int (nI (j + 1)))]) hx hb dX0_reckonSeal_13 rfl hl (by decide) rfl (fun ls hl => ?_)
  refine lv_iconst (v := (nI 0)) hx hb dX0_reckonSeal_14 (by decide) ?_
  refine lv_istore (lv' := [(4, .int (nI 0)), (3, .int (nI (M (j + 1)))), (2, .int (Z j)), (0, .ref oL), (1, .int (nI (j + 1)))]) hx hb dX0_reckonSeal_15 hl (by decide) rfl (fun ls hl => ?_)
  have lp_17 : ∀ (fu d : Nat), 0 ≤ d → d ≤ M (j + 1) → (M (j + 1)) + 1 ≤ d + fu → ∀ (x1 : Int32), x1 = sealW K O T (j + 1) (Z j) d → ∀ (H : Heap) (locs : List Loc), va_P D vwCl [(oL, .inr (0, [.ref a1, .ref a2, .ref a3, .ref a4, .ref a5, .int (nI n), .int (nI k)])), (a1, .inl (cI, 480, .inl K)), (a2, .inl (cI, 480, .inl (nF O))), (a3, .inl (cI, 480, .inl T)), (a4, .inl (cI, 40, .inl (nF M))), (a5, .inl (cI, 40, .inl Z))] H → va_D A [(oL, .inr (0, [.ref a1, .ref a2, .ref a3, .ref a4, .ref a5, .int (nI n), .int (nI k)])), (a1, .inl (cI, 480, .inl K)), (a2, .inl (cI, 480, .inl (nF O))), (a3, .inl (cI, 480, .inl T)), (a4, .inl (cI, 40, .inl (nF M))), (a5, .inl (cI, 40, .inl Z))] → va_S A s.heap H locs → ∀ (ls : Array Slot), lv_has ls 6 [(4, .int (nI d)), (3, .int (nI (M (j + 1)))), (2, .int x1), (0, .ref oL), (1, .int (nI (j + 1)))] → W p l e rm_c_X0_reckonSeal_s s m args below meth c H locs 0 0 Qz (F0 m 17 ls []) := by
    intro fu
    induction fu with
    | zero => intro d h1_17 h2_17 h3_17; exact absurd h3_17 (by omega)
    | succ fu ih_17 =>
      intro d h1_17 h2_17 h3_17 x1 ex1 H locs hP hD hS ls hl
      subst ex1
      refine lv_iload hx hb dX0_reckonSeal_17 (lv_at hl 0 rfl) ?_
      refine lv_iload_n hx hb dX0_reckonSeal_19 rfl (lv_at hl 1 rfl) ?_
      refine k_icmp_ge hx hb (tgt := 73) (by omega) (by omega) dX0_reckonSeal_20 (by decide) (fun c_1 => ?_) (fun c_1 => ?_)
      · have e_2 : M (j + 1) = d := by omega
        subst e_2
        refine lv_iload_n hx hb dX0_reckonSeal_73 rfl (lv_at hl 2 rfl) ?_
        exact kM_iret hx hb hr hlk hQ hP hD hK hS () rfl (Nat.le_of_ble_eq_true rfl) (Nat.le_of_ble_eq_true rfl) (congrArg (fun z => some (Value.int z)) (by rfl)) trivial dX0_reckonSeal_74
      · refine lv_aload_n hx hb dX0_reckonSeal_23 rfl (lv_at hl 3 rfl) ?_
        refine lv_iload_n hx hb dX0_reckonSeal_24 rfl (lv_at hl 4 rfl) ?_
        refine lv_iload hx hb dX0_reckonSeal_25 (lv_at hl 0 rfl) ?_
        refine kM_callV (As := [.int (nI (j + 1)), .int (nI d)]) (rest := []) (wr := []) (w2 := fun _ => [(oL, .inr (0, [.ref a1, .ref a2, .ref a3, .ref a4, .ref a5, .int (nI n), .int (nI k)])), (a1, .inl (cI, 480, .inl K)), (a2, .inl (cI, 480, .inl (nF O))), (a3, .inl (cI, 480, .inl T)), (a4, .inl (cI, 40, .inl (nF M))), (a5, .inl (cI, 40, .inl Z))]) (st2 := fun _ => [.int (nI ((j + 1) * 12 + d))]) (k := 0) (n2 := 0) ⟨hx, hb, hml, hown, hts⟩ (c_X0_slotOf l D cI oL a1 a2 a3 a4 a5 K O T M Z n k (j + 1) d (by omega) (by omega) hM) (cwV 2 hts gX0_reckonSeal_X0_slotOf rfl rfl rfl (by decide +kernel) ⟨Nat.le_of_ble_eq_true rfl, Nat.le_of_ble_eq_true rfl⟩) 0 rfl rfl rfl [0] rfl hK hP hD hS hA [0, 1, 2, 3, 4, 5] [] rfl (by decide) rfl (by decide) (by decide) [0, 1, 2, 3, 4, 5] (by decide) (fun _ => rfl) (Nat.le_refl _) (Nat.le_refl _) (Nat.le_of_ble_eq_true rfl) (Nat.le_of_ble_eq_true rfl) rfl hl.1 (Nat.le_of_ble_eq_true rfl) (fun _ => rfl) rfl dX0_reckonSeal_27 (fun u H locs hu hP hD hS => ?_)
        refine lv_istore (lv' := [(5, .int (nI ((j + 1) * 12 + d))), (4, .int (nI d)), (3, .int (nI (M (j + 1)))), (2, .int (sealW K O T (j + 1) (Z j) d)), (0, .ref oL), (1, .int (nI (j + 1)))]) hx hb dX0_reckonSeal_30 hl (by decide) rfl (fun ls hl => ?_)
        refine lv_iload_n hx hb dX0_reckonSeal_32 rfl (lv_at hl 3 rfl) ?_
        refine lv_bipush (v := (nI 31)) hx hb dX0_reckonSeal_33 (by decide) ?_
        refine lv_imul hx hb dX0_reckonSeal_35 ?_
        refine lv_aload_n hx hb dX0_reckonSeal_36 rfl (lv_at hl 4 rfl) ?_
        refine lv_iload hx hb dX0_reckonSeal_37 (lv_at hl 0 rfl) ?_
        refine kM_callV (As := [.int (nI ((j + 1) * 12 + d))]) (rest := [.int ((sealW K O T (j + 1) (Z j) d) * (nI 31))]) (wr := []) (w2 := fun _ => [(oL, .inr (0, [.ref a1, .ref a2, .ref a3, .ref a4, .ref a5, .int (nI n), .int (nI k)])), (a1, .inl (cI, 480, .inl K)), (a2, .inl (cI, 480, .inl (nF O))), (a3, .inl (cI, 480, .inl T)), (a4, .inl (cI, 40, .inl (nF M))), (a5, .inl (cI, 40, .inl Z))]) (st2 := fun _ => [.int (K ((j + 1) * 12 + d)), .int ((sealW K O T (j + 1) (Z j) d) * (nI 31))]) (k := 0) (n2 := 0) ⟨hx, hb, hml, hown, hts⟩ (c_X0_kindAt l D cI oL a1 a2 a3 a4 a5 K O T M Z n k ((j + 1) * 12 + d) (by omega)) (cwV 1 hts gX0_reckonSeal_X0_kindAt rfl rfl rfl (by decide +kernel) ⟨Nat.le_of_ble_eq_true rfl, Nat.le_of_ble_eq_true rfl⟩) 0 rfl rfl rfl [0] rfl hK hP hD hS hA [0, 1, 2, 3, 4, 5] [] rfl (by decide) rfl (by decide) (by decide) [0, 1, 2, 3, 4, 5] (by decide) (fun _ => rfl) (Nat.le_refl _) (Nat.le_refl _) (Nat.le_of_ble_eq_true rfl) (Nat.le_of_ble_eq_true rfl) rfl hl.1 (Nat.le_of_ble_eq_true rfl) (fun _ => rfl) rfl dX0_reckonSeal_39 (fun u H locs hu hP hD hS => ?_)
        refine lv_iadd hx hb dX0_reckonSeal_42 ?_
        refine lv_aload_n hx hb dX0_reckonSeal_43 rfl (lv_at hl 4 rfl) ?_
        refine lv_iload hx hb dX0_reckonSeal_44 (lv_at hl 0 rfl) ?_
        refine kM_callV (As := [.int (nI ((j + 1) * 12 + d))]) (rest := [.int (((sealW K O T (j + 1) (Z j) d) * (nI 31)) + (K ((j + 1) * 12 + d)))]) (wr := []) (w2 := fun _ => [(oL, .inr (0, [.ref a1, .ref a2, .ref a3, .ref a4, .ref a5, .int (nI n), .int (nI k)])), (a1, .inl (cI, 480, .inl K)), (a2, .inl (cI, 480, .inl (nF O))), (a3, .inl (cI, 480, .inl T)), (a4, .inl (cI, 40, .inl (nF M))), (a5, .inl (cI, 40, .inl Z))]) (st2 := fun _ => [.int (nI (O ((j + 1) * 12 + d))), .int (((sealW K O T (j + 1) (Z j) d) * (nI 31)) + (K ((j + 1) * 12 + d)))]) (k := 0) (n2 := 0) ⟨hx, hb, hml, hown, hts⟩ (c_X0_oneAt l D cI oL a1 a2 a3 a4 a5 K O T M Z n k ((j + 1) * 12 + d) (by omega)) (cwV 1 hts gX0_reckonSeal_X0_oneAt rfl rfl rfl (by decide +kernel) ⟨Nat.le_of_ble_eq_true rfl, Nat.le_of_ble_eq_true rfl⟩) 0 rfl rfl rfl [0] rfl hK hP hD hS hA [0, 1, 2, 3, 4, 5] [] rfl (by decide) rfl (by decide) (by decide) [0, 1, 2, 3, 4, 5] (by decide) (fun _ => rfl) (Nat.le_refl _) (Nat.le_refl _) (Nat.le_of_ble_eq_true rfl) (Nat.le_of_ble_eq_true rfl) rfl hl.1 (Nat.le_of_ble_eq_true rfl) (fun _ => rfl) rfl dX0_reckonSeal_46 (fun u H locs hu hP hD hS => ?_)
        refine lv_iconst (v := (nI 5)) hx hb dX0_reckonSeal_49 (by decide) ?_
        refine k_imul hx hb dX0_reckonSeal_50 ?_
        refine lv_iadd hx hb dX0_reckonSeal_51 ?_
        refine lv_aload_n hx hb dX0_reckonSeal_52 rfl (lv_at hl 4 rfl) ?_
        refine lv_iload hx hb dX0_reckonSeal_53 (lv_at hl 0 rfl) ?_
        refine kM_callV (As := [.int (nI ((j + 1) * 12 + d))]) (rest := [.int ((((sealW K O T (j + 1) (Z j) d) * (nI 31)) + (K ((j + 1) * 12 + d))) + (nI ((O ((j + 1) * 12 + d)) * 5)))]) (wr := []) (w2 := fun _ => [(oL, .inr (0, [.ref a1, .ref a2, .ref a3, .ref a4, .ref a5, .int (nI n), .int (nI k)])), (a1, .inl (cI, 480, .inl K)), (a2, .inl (cI, 480, .inl (nF O))), (a3, .inl (cI, 480, .inl T)), (a4, .inl (cI, 40, .inl (nF M))), (a5, .inl (cI, 40, .inl Z))]) (st2 := fun _ => [.int (T ((j + 1) * 12 + d)), .int ((((sealW K O T (j + 1) (Z j) d) * (nI 31)) + (K ((j + 1) * 12 + d))) + (nI ((O ((j + 1) * 12 + d)) * 5)))]) (k := 0) (n2 := 0) ⟨hx, hb, hml, hown, hts⟩ (c_X0_twoAt l D cI oL a1 a2 a3 a4 a5 K O T M Z n k ((j + 1) * 12 + d) (by omega)) (cwV 1 hts gX0_reckonSeal_X0_twoAt rfl rfl rfl (by decide +kernel) ⟨Nat.le_of_ble_eq_true rfl, Nat.le_of_ble_eq_true rfl⟩) 0 rfl rfl rfl [0] rfl hK hP hD hS hA [0, 1, 2, 3, 4, 5] [] rfl (by decide) rfl (by decide) (by decide) [0, 1, 2, 3, 4, 5] (by decide) (fun _ => rfl) (Nat.le_refl _) (Nat.le_refl _) (Nat.le_of_ble_eq_true rfl) (Nat.le_of_ble_eq_true rfl) rfl hl.1 (Nat.le_of_ble_eq_true rfl) (fun _ => rfl) rfl dX0_reckonSeal_55 (fun u H locs hu hP hD hS => ?_)
        refine lv_bipush (v := (nI 7)) hx hb dX0_reckonSeal_58 (by decide) ?_
        refine lv_imul hx hb dX0_reckonSeal_60 ?_
        refine lv_iadd hx hb dX0_reckonSeal_61 ?_
        refine lv_sipush (v := (nI 10007)) hx hb dX0_reckonSeal_62 (by decide) ?_
        refine lv_irem hx hb dX0_reckonSeal_65 (by decide) ?_
        refine k_top (y := (irem (((((sealW K O T (j + 1) (Z j) d) * (nI 31)) + (K ((j + 1) * 12 + d))) + (nI ((O ((j + 1) * 12 + d)) * 5))) + ((T ((j + 1) * 12 + d)) * (nI 7))) (nI 10007))) rfl ?_
        refine lv_istore_n (lv' := [(2, .int (irem (((((sealW K O T (j + 1) (Z j) d) * (nI 31)) + (K ((j + 1) * 12 + d))) + (nI ((O ((j + 1) * 12 + d)) * 5))) + ((T ((j + 1) * 12 + d)) * (nI 7))) (nI 10007))), (5, .int (nI ((j + 1) * 12 + d))), (4, .int (nI d)), (3, .int (nI (M (j + 1)))), (0, .ref oL), (1, .int (nI (j + 1)))]) hx hb dX0_reckonSeal_66 rfl hl (by decide) rfl (fun ls hl => ?_)
        refine lv_iinc (v := (nI (d + 1))) (lv' := [(4, .int (nI (d + 1))), (2, .int (irem (((((sealW K O T (j + 1) (Z j) d) * (nI 31)) + (K ((j + 1) * 12 + d))) + (nI ((O ((j + 1) * 12 + d)) * 5))) + ((T ((j + 1) * 12 + d)) * (nI 7))) (nI 10007))), (5, .int (nI ((j + 1) * 12 + d))), (3, .int (nI (M (j + 1)))), (0, .ref oL), (1, .int (nI (j + 1)))]) (k := 2) hx hb dX0_reckonSeal_67 hl rfl (nI_add d 1) (by decide) rfl (fun ls hl => ?_)
        refine lv_goto (tgt := 17) hx hb dX0_reckonSeal_70 (by decide) ?_
        exact ih_17 (d + 1) (by omega) (by omega) (by omega) (irem (((((sealW K O T (j + 1) (Z j) d) * (nI 31)) + (K ((j + 1) * 12 + d))) + (nI ((O ((j + 1) * 12 + d)) * 5))) + ((T ((j + 1) * 12 + d)) * (nI 7))) (nI 10007)) rfl _ _ hP hD hS ls (lv_sub hl [0, 3, 1, 4, 5] rfl)
  exact lp_17 ((M (j + 1)) + 1) 0 (by omega) (by omega) (by omega) (Z j) rfl _ _ hP hD hS ls (lv_sub hl [0, 1, 2, 3, 4] rfl)
def rm_c_X0_reckonSeal : Room := rm_c_X0_reckonSeal_s
theorem c_X0_reckonSeal (l : Launch) (D : va_G) (cI : ClassId) (oL a1 a2 a3 a4 a5 : Nat) (K : Nat → Int32) (O : Nat → Nat) (T : Nat → Int32) (M : Nat → Nat) (Z : Nat → Int32) (n k : Nat) (j : Nat) (hj : j < 40) (hM : ∀ i, M i ≤ 12) (hO : ∀ i, O i < 8) :
    kM l yX0_reckonSeal wsX0_reckonSeal rm_c_X0_reckonSeal D [(cI, FieldType.int)] [.ref oL, .int (nI j)] [(oL, .inr (0, [.ref a1, .ref a2, .ref a3, .ref a4, .ref a5, .int (nI n), .int (nI k)])), (a1, .inl (cI, 480, .inl K)), (a2, .inl (cI, 480, .inl (nF O))), (a3, .inl (cI, 480, .inl T)), (a4, .inl (cI, 40, .inl (nF M))), (a5, .inl (cI, 40, .inl Z))] (fun _ : Unit => True) (fun _ => some (.int (sealF K O T M Z j))) (fun _ => [(oL, .inr (0, [.ref a1, .ref a2, .ref a3, .ref a4, .ref a5, .int (nI n), .int (nI k)])), (a1, .inl (cI, 480, .inl K)), (a2, .inl (cI, 480, .inl (nF O))), (a3, .inl (cI, 480, .inl T)), (a4, .inl (cI, 40, .inl (nF M))), (a5, .inl (cI, 40, .inl Z))]) := by
  cases j with
  | zero => exact c_X0_reckonSeal_0 l D cI oL a1 a2 a3 a4 a5 K O T M Z n k hM hO
  | succ j => exact c_X0_reckonSeal_s l D cI oL a1 a2 a3 a4 a5 K O T M Z n k j hj hM hO
theorem iu_X0_isUntrue_X0 : ∀ w ∈ wsX00, w ∈ wsX0_isUntrue := fun w h => (List.mem_cons_of_mem _ (List.mem_append_right _ h))
def rm_c_X0_isUntrue : Room := { frames := 4, cells := 0, slots := 0, locals := 88 }
set_option maxHeartbeats 4000000 in
set_option maxRecDepth 100000 in
theorem c_X0_isUntrue (l : Launch) (D : va_G) (cI : ClassId) (oL a1 a2 a3 a4 a5 : Nat) (K : Nat → Int32) (O : Nat → Nat) (T : Nat → Int32) (M : Nat → Nat) (Z : Nat → Int32) (n k : Nat) (j : Nat) (hj : j < 40) (hk : k ≤ 40) (hM : ∀ i, M i ≤ 12) (hO : ∀ i, O i < 8) :
    kM l yX0_isUntrue wsX0_isUntrue rm_c_X0_isUntrue D [(cI, FieldType.int)] [.ref oL, .int (nI j)] [(oL, .inr (0, [.ref a1, .ref a2, .ref a3, .ref a4, .ref a5, .int (nI n), .int (nI k)])), (a1, .inl (cI, 480, .inl K)), (a2, .inl (cI, 480, .inl (nF O))), (a3, .inl (cI, 480, .inl T)), (a4, .inl (cI, 40, .inl (nF M))), (a5, .inl (cI, 40, .inl Z))] (fun _ : Unit => True) (fun _ => some (.int (b2i (¬ j < k ∧ sealF K O T M Z j ≠ Z j)))) (fun _ => [(oL, .inr (0, [.ref a1, .ref a2, .ref a3, .ref a4, .ref a5, .int (nI n), .int (nI k)])), (a1, .inl (cI, 480, .inl K)), (a2, .inl (cI, 480, .inl (nF O))), (a3, .inl (cI, 480, .inl T)), (a4, .inl (cI, 40, .inl (nF M))), (a5, .inl (cI, 40, .inl Z))]) := by
  refine kM_of (cc := cX0_isUntrue) (maxL := 2) (ret := (some .boolean)) (own := RX0) (by decide) rfl rfl (Nat.le_of_ble_eq_true rfl) ?_
  intro p e s m args below meth c A ls Qz hx hb hml hr hts hown hlk hin hQ hA hS hP hD hK hl
  have hl : lv_has ls 2 [(0, .ref oL), (1, .int (nI j))] := hl
  refine lv_aload_n hx hb dX0_isUntrue_0 rfl (lv_at hl 0 rfl) ?_
  refine lv_iload_n hx hb dX0_isUntrue_1 rfl (lv_at hl 1 rfl) ?_
  refine kM_callV (As := [.int (nI j)]) (rest := []) (wr := []) (w2 := fun _ => [(oL, .inr (0, [.ref a1, .ref a2, .ref a3, .ref a4, .ref a5, .int (nI n), .int (nI k)])), (a1, .inl (cI, 480, .inl K)), (a2, .inl (cI, 480, .inl (nF O))), (a3, .inl (cI, 480, .inl T)), (a4, .inl (cI, 40, .inl (nF M))), (a5, .inl (cI, 40, .inl Z))]) (st2 := fun _ => [.int (b2i (j < k))]) (k := 0) (n2 := 0) ⟨hx, hb, hml, hown, hts⟩ (c_X0_isForgotten l D cI oL a1 a2 a3 a4 a5 K O T M Z n k j (by omega) hk) (cwV 1 hts gX0_isUntrue_X0_isForgotten rfl rfl rfl (by decide +kernel) ⟨Nat.le_of_ble_eq_true rfl, Nat.le_of_ble_eq_true rfl⟩) 0 rfl rfl rfl [0] rfl hK hP hD hS hA [0, 1, 2, 3, 4, 5] [] rfl (by decide) rfl (by decide) (by decide) [0, 1, 2, 3, 4, 5] (by decide) (fun _ => rfl) (Nat.le_refl _) (Nat.le_refl _) (Nat.le_of_ble_eq_true rfl) (Nat.le_of_ble_eq_true rfl) rfl hl.1 (Nat.le_of_ble_eq_true rfl) (fun _ => rfl) rfl dX0_isUntrue_2 (fun u H locs hu hP hD hS => ?_)
  refine k_bif_ne hx hb (tgt := 25) dX0_isUntrue_5 (by decide) (fun c_1 => ?_) (fun c_1 => ?_)
  · have hc5 := c_1
    refine lv_iconst (v := (nI 0)) hx hb dX0_isUntrue_25 (by decide) ?_
    exact kM_zret hx hb hr hlk hQ hP hD hK hS () rfl (Nat.le_of_ble_eq_true rfl) (Nat.le_of_ble_eq_true rfl) (by decide) (congrArg (fun z => some (Value.int z)) (if_neg (fun h => h.1 hc5))) trivial dX0_isUntrue_26
  · have hc5 := c_1
    refine lv_aload_n hx hb dX0_isUntrue_8 rfl (lv_at hl 0 rfl) ?_
    refine lv_iload_n hx hb dX0_isUntrue_9 rfl (lv_at hl 1 rfl) ?_
    refine kM_callV (As := [.int (nI j)]) (rest := []) (wr := []) (w2 := fun _ => [(oL, .inr (0, [.ref a1, .ref a2, .ref a3, .ref a4, .ref a5, .int (nI n), .int (nI k)])), (a1, .inl (cI, 480, .inl K)), (a2, .inl (cI, 480, .inl (nF O))), (a3, .inl (cI, 480, .inl T)), (a4, .inl (cI, 40, .inl (nF M))), (a5, .inl (cI, 40, .inl Z))]) (st2 := fun _ => [.int (sealF K O T M Z j)]) (k := 0) (n2 := 0) ⟨hx, hb, hml, hown, hts⟩ (c_X0_reckonSeal l D cI oL a1 a2 a3 a4 a5 K O T M Z n k j (by omega) hM hO) (cwV 1 hts gX0_isUntrue_X0_reckonSeal rfl rfl rfl (by decide +kernel) ⟨Nat.le_of_ble_eq_true rfl, Nat.le_of_ble_eq_true rfl⟩) 0 rfl rfl rfl [0] rfl hK hP hD hS hA [0, 1, 2, 3, 4, 5] [] rfl (by decide) rfl (by decide) (by decide) [0, 1, 2, 3, 4, 5] (by decide) (fun _ => rfl) (Nat.le_refl _) (Nat.le_refl _) (Nat.le_of_ble_eq_true rfl) (Nat.le_of_ble_eq_true rfl) rfl hl.1 (Nat.le_of_ble_eq_true rfl) (fun _ => rfl) rfl dX0_isUntrue_10 (fun u H locs hu hP hD hS => ?_)
    refine lv_aload_n hx hb dX0_isUntrue_13 rfl (lv_at hl 0 rfl) ?_
    refine lv_iload_n hx hb dX0_isUntrue_14 rfl (lv_at hl 1 rfl) ?_
    refine kM_callV (As := [.int (nI j)]) (rest := [.int (sealF K O T M Z j)]) (wr := []) (w2 := fun _ => [(oL, .inr (0, [.ref a1, .ref a2, .ref a3, .ref a4, .ref a5, .int (nI n), .int (nI k)])), (a1, .inl (cI, 480, .inl K)), (a2, .inl (cI, 480, .inl (nF O))), (a3, .inl (cI, 480, .inl T)), (a4, .inl (cI, 40, .inl (nF M))), (a5, .inl (cI, 40, .inl Z))]) (st2 := fun _ => [.int (Z j), .int (sealF K O T M Z j)]) (k := 0) (n2 := 0) ⟨hx, hb, hml, hown, hts⟩ (c_X0_writtenSeal l D cI oL a1 a2 a3 a4 a5 K O T M Z n k j (by omega)) (cwV 1 hts gX0_isUntrue_X0_writtenSeal rfl rfl rfl (by decide +kernel) ⟨Nat.le_of_ble_eq_true rfl, Nat.le_of_ble_eq_true rfl⟩) 0 rfl rfl rfl [0] rfl hK hP hD hS hA [0, 1, 2, 3, 4, 5] [] rfl (by decide) rfl (by decide) (by decide) [0, 1, 2, 3, 4, 5] (by decide) (fun _ => rfl) (Nat.le_refl _) (Nat.le_refl _) (Nat.le_of_ble_eq_true rfl) (Nat.le_of_ble_eq_true rfl) rfl hl.1 (Nat.le_of_ble_eq_true rfl) (fun _ => rfl) rfl dX0_isUntrue_15 (fun u H locs hu hP hD hS => ?_)
    refine lv_icmp_eq hx hb (tgt := 25) dX0_isUntrue_18 (by decide) (fun c_2 => ?_) (fun c_2 => ?_)
    · have hc18 := c_2
      refine lv_iconst (v := (nI 0)) hx hb dX0_isUntrue_25 (by decide) ?_
      exact kM_zret hx hb hr hlk hQ hP hD hK hS () rfl (Nat.le_of_ble_eq_true rfl) (Nat.le_of_ble_eq_true rfl) (by decide) (congrArg (fun z => some (Value.int z)) (if_neg (fun h => h.2 hc18))) trivial dX0_isUntrue_26
    · have hc18 := c_2
      refine lv_iconst (v := (nI 1)) hx hb dX0_isUntrue_21 (by decide) ?_
      refine lv_goto (tgt := 26) hx hb dX0_isUntrue_22 (by decide) ?_
      exact kM_zret hx hb hr hlk hQ hP hD hK hS () rfl (Nat.le_of_ble_eq_true rfl) (Nat.le_of_ble_eq_true rfl) (by decide) (congrArg (fun z => some (Value.int z)) (if_pos ⟨hc5, hc18⟩)) trivial dX0_isUntrue_26
theorem iu_X0_close_X0 : ∀ w ∈ wsX00, w ∈ wsX0_close := fun w h => (List.mem_cons_of_mem _ (List.mem_append_right _ h))
def rm_c_X0_close : Room := { frames := 4, cells := 0, slots := 0, locals := 88 }
set_option maxHeartbeats 4000000 in
set_option maxRecDepth 100000 in
theorem c_X0_close (l : Launch) (D : va_G) (cI : ClassId) (oL a1 a2 a3 a4 a5 : Nat) (K : Nat → Int32) (O : Nat → Nat) (T : Nat → Int32) (M : Nat → Nat) (Z : Nat → Int32) (n k : Nat) (hn : n < 40) (hM : ∀ i, M i ≤ 12) (hO : ∀ i, O i < 8) :
    kM l yX0_close wsX0_close rm_c_X0_close D [(cI, FieldType.int)] [.ref oL] [(oL, .inr (0, [.ref a1, .ref a2, .ref a3, .ref a4, .ref a5, .int (nI n), .int (nI k)])), (a1, .inl (cI, 480, .inl K)), (a2, .inl (cI, 480, .inl (nF O))), (a3, .inl (cI, 480, .inl T)), (a4, .inl (cI, 40, .inl (nF M))), (a5, .inl (cI, 40, .inl Z))] (fun _ : Unit => True) (fun _ => none) (fun _ => [(oL, .inr (0, [.ref a1, .ref a2, .ref a3, .ref a4, .ref a5, .int (nI (n + 1)), .int (nI k)])), (a1, .inl (cI, 480, .inl K)), (a2, .inl (cI, 480, .inl (nF O))), (a3, .inl (cI, 480, .inl T)), (a4, .inl (cI, 40, .inl (nF M))), (a5, .inl (cI, 40, .inl (upd Z n (sealF K O T M Z n))))]) := by
  refine kM_of (cc := cX0_close) (maxL := 2) (ret := none) (own := RX0) (by decide) rfl rfl (Nat.le_of_ble_eq_true rfl) ?_
  intro p e s m args below meth c A ls Qz hx hb hml hr hts hown hlk hin hQ hA hS hP hD hK hl
  have hl : lv_has ls 2 [(0, .ref oL)] := hl
  refine lv_aload_n hx hb dX0_close_0 rfl (lv_at hl 0 rfl) ?_
  refine va_get (D := D) (ci := 0) (v := .int (nI n)) (C := RX0) (T := TX0) (N := 7) hx hb hts iu_X0_close_X0 hown hK hP 0 rfl rfl 5 (by decide) (hts _ (List.mem_of_getElem? (i := 1) rfl)) (fun _ h9 => h9) rfl dX0_close_1 ?_
  refine lv_istore_n (lv' := [(1, .int (nI n)), (0, .ref oL)]) hx hb dX0_close_4 rfl hl (by decide) rfl (fun ls hl => ?_)
  refine lv_iload_n hx hb dX0_close_5 rfl (lv_at hl 0 rfl) ?_
  refine kM_callS (As := [.int (nI n)]) (rest := []) (wr := [(oL, .inr (0, [.ref a1, .ref a2, .ref a3, .ref a4, .ref a5, .int (nI n), .int (nI k)])), (a1, .inl (cI, 480, .inl K)), (a2, .inl (cI, 480, .inl (nF O))), (a3, .inl (cI, 480, .inl T)), (a4, .inl (cI, 40, .inl (nF M))), (a5, .inl (cI, 40, .inl Z))]) (w2 := fun _ => [(oL, .inr (0, [.ref a1, .ref a2, .ref a3, .ref a4, .ref a5, .int (nI n), .int (nI k)])), (a1, .inl (cI, 480, .inl K)), (a2, .inl (cI, 480, .inl (nF O))), (a3, .inl (cI, 480, .inl T)), (a4, .inl (cI, 40, .inl (nF M))), (a5, .inl (cI, 40, .inl Z))]) (st2 := fun _ => [.int (b2i (n < 40))]) (k := 0) (n2 := 0) ⟨hx, hb, hml, hown, hts⟩ (c_X0_hasRow l D cI n (by omega)) (va_cwS 1 hts gX0_close_X0_hasRow rfl rfl rfl (by decide +kernel) ⟨Nat.le_of_ble_eq_true rfl, Nat.le_of_ble_eq_true rfl⟩) [0] rfl hK hP hD hS hA [] [0, 1, 2, 3, 4, 5] rfl (by decide) rfl (by decide) (by decide) [0, 1, 2, 3, 4, 5] (by decide) (fun _ => rfl) (Nat.le_refl _) (Nat.le_refl _) (Nat.le_of_ble_eq_true rfl) (Nat.le_of_ble_eq_true rfl) rfl hl.1 (Nat.le_of_ble_eq_true rfl) (fun _ => rfl) rfl dX0_close_6 (fun u H locs hu hP hD hS => ?_)
  refine k_bif_eq hx hb (tgt := 33) dX0_close_9 (by decide) (fun c_1 => (absurd hn c_1 : False).elim) (fun c_1 => ?_)
  refine lv_aload_n hx hb dX0_close_12 rfl (lv_at hl 1 rfl) ?_
  refine va_get (D := D) (ci := 0) (v := .ref a5) (C := RX0) (T := TX0) (N := 7) hx hb hts iu_X0_close_X0 hown hK hP 0 rfl rfl 4 (by decide) (hts _ (List.mem_of_getElem? (i := 2) rfl)) (fun _ h9 => h9) rfl dX0_close_13 ?_
  refine lv_iload_n hx hb dX0_close_16 rfl (lv_at hl 0 rfl) ?_
  refine lv_aload_n hx hb dX0_close_17 rfl (lv_at hl 1 rfl) ?_
  refine lv_iload_n hx hb dX0_close_18 rfl (lv_at hl 0 rfl) ?_
  refine kM_callV (As := [.int (nI n)]) (rest := [.int (nI n), .ref a5]) (wr := []) (w2 := fun _ => [(oL, .inr (0, [.ref a1, .ref a2, .ref a3, .ref a4, .ref a5, .int (nI n), .int (nI k)])), (a1, .inl (cI, 480, .inl K)), (a2, .inl (cI, 480, .inl (nF O))), (a3, .inl (cI, 480, .inl T)), (a4, .inl (cI, 40, .inl (nF M))), (a5, .inl (cI, 40, .inl Z))]) (st2 := fun _ => [.int (sealF K O T M Z n), .int (nI n), .ref a5]) (k := 0) (n2 := 0) ⟨hx, hb, hml, hown, hts⟩ (c_X0_reckonSeal l D cI oL a1 a2 a3 a4 a5 K O T M Z n k n (by omega) hM hO) (cwV 1 hts gX0_close_X0_reckonSeal rfl rfl rfl (by decide +kernel) ⟨Nat.le_of_ble_eq_true rfl, Nat.le_of_ble_eq_true rfl⟩) 0 rfl rfl rfl [0] rfl hK hP hD hS hA [0, 1, 2, 3, 4, 5] [] rfl (by decide) rfl (by decide) (by decide) [0, 1, 2, 3, 4, 5] (by decide) (fun _ => rfl) (Nat.le_refl _) (Nat.le_refl _) (Nat.le_of_ble_eq_true rfl) (Nat.le_of_ble_eq_true rfl) rfl hl.1 (Nat.le_of_ble_eq_true rfl) (fun _ => rfl) rfl dX0_close_19 (fun u H locs hu hP hD hS => ?_)
  refine k_iast (w2 := [(oL, .inr (0, [.ref a1, .ref a2, .ref a3, .ref a4, .ref a5, .int (nI n), .int (nI k)])), (a1, .inl (cI, 480, .inl K)), (a2, .inl (cI, 480, .inl (nF O))), (a3, .inl (cI, 480, .inl T)), (a4, .inl (cI, 40, .inl (nF M))), (a5, .inl (cI, 40, .inl (upd Z n (sealF K O T M Z n))))]) hx hb hK hP hD hS 5 0 (i := n) rfl rfl (by omega) (by decide) dX0_close_22 (g := upd Z n (sealF K O T M Z n)) rfl rfl (fun H locs hP hD hS => ?_)
  refine lv_aload_n hx hb dX0_close_23 rfl (lv_at hl 1 rfl) ?_
  refine lv_dup hx hb dX0_close_24 rfl ?_
  refine va_get (D := D) (ci := 0) (v := .int (nI n)) (C := RX0) (T := TX0) (N := 7) hx hb hts iu_X0_close_X0 hown hK hP 0 rfl rfl 5 (by decide) (hts _ (List.mem_of_getElem? (i := 1) rfl)) (fun _ h9 => h9) rfl dX0_close_25 ?_
  refine lv_iconst (v := (nI 1)) hx hb dX0_close_28 (by decide) ?_
  refine k_iadd hx hb dX0_close_29 ?_
  refine va_put (D := D) (ci := 0) (v := .int (nI (n + 1))) (ty := .int) (C := RX0) (T := TX0) (N := 7) hx hb hts iu_X0_close_X0 tyX0 tyX0_ok nmX0 hown hK hP hD hS 0 rfl rfl 5 (by decide) (hts _ (List.mem_of_getElem? (i := 1) rfl)) (fun _ h9 => h9) rfl (by decide +kernel) rfl rfl (Nat.le_of_ble_eq_true rfl) dX0_close_30 (fun H locs hP hD hS => ?_)
  have hP : va_P D vwCl [(oL, .inr (0, [.ref a1, .ref a2, .ref a3, .ref a4, .ref a5, .int (nI (n + 1)), .int (nI k)])), (a1, .inl (cI, 480, .inl K)), (a2, .inl (cI, 480, .inl (nF O))), (a3, .inl (cI, 480, .inl T)), (a4, .inl (cI, 40, .inl (nF M))), (a5, .inl (cI, 40, .inl (upd Z n (sealF K O T M Z n))))] H := hP
  have hD : va_D A [(oL, .inr (0, [.ref a1, .ref a2, .ref a3, .ref a4, .ref a5, .int (nI (n + 1)), .int (nI k)])), (a1, .inl (cI, 480, .inl K)), (a2, .inl (cI, 480, .inl (nF O))), (a3, .inl (cI, 480, .inl T)), (a4, .inl (cI, 40, .inl (nF M))), (a5, .inl (cI, 40, .inl (upd Z n (sealF K O T M Z n))))] := hD
  exact kM_vret hx hb hr hlk hQ hP hD hK hS () rfl (Nat.le_of_ble_eq_true rfl) (Nat.le_of_ble_eq_true rfl) rfl trivial dX0_close_33
theorem iu_X0_note_X0 : ∀ w ∈ wsX00, w ∈ wsX0_note := fun w h => (List.mem_cons_of_mem _ (List.mem_append_right _ h))
def rm_c_X0_note : Room := { frames := 3, cells := 0, slots := 0, locals := 61 }
set_option maxHeartbeats 4000000 in
set_option maxRecDepth 100000 in
theorem c_X0_note (l : Launch) (D : va_G) (cI : ClassId) (oL a1 a2 a3 a4 a5 : Nat) (K : Nat → Int32) (O : Nat → Nat) (T : Nat → Int32) (M : Nat → Nat) (Z : Nat → Int32) (n k : Nat) (kd : Int32) (o : Nat) (tw : Int32) (hn : n < 40) (hMn : M n < 12) (hM : ∀ i, M i ≤ 12) :
    kM l yX0_note wsX0_note rm_c_X0_note D [(cI, FieldType.int)] [.ref oL, .int kd, .int (nI o), .int tw] [(oL, .inr (0, [.ref a1, .ref a2, .ref a3, .ref a4, .ref a5, .int (nI n), .int (nI k)])), (a1, .inl (cI, 480, .inl K)), (a2, .inl (cI, 480, .inl (nF O))), (a3, .inl (cI, 480, .inl T)), (a4, .inl (cI, 40, .inl (nF M))), (a5, .inl (cI, 40, .inl Z))] (fun _ : Unit => True) (fun _ => none) (fun _ => [(oL, .inr (0, [.ref a1, .ref a2, .ref a3, .ref a4, .ref a5, .int (nI n), .int (nI k)])), (a1, .inl (cI, 480, .inl (upd K (n * 12 + M n) kd))), (a2, .inl (cI, 480, .inl (nF (upN O (n * 12 + M n) o)))), (a3, .inl (cI, 480, .inl (upd T (n * 12 + M n) tw))), (a4, .inl (cI, 40, .inl (nF (upN M n (M n + 1))))), (a5, .inl (cI, 40, .inl Z))]) := by
  refine kM_of (cc := cX0_note) (maxL := 6) (ret := none) (own := RX0) (by decide) rfl rfl (Nat.le_of_ble_eq_true rfl) ?_
  intro p e s m args below meth c A ls Qz hx hb hml hr hts hown hlk hin hQ hA hS hP hD hK hl
  have hl : lv_has ls 6 [(0, .ref oL), (1, .int kd), (2, .int (nI o)), (3, .int tw)] := hl
  refine lv_aload_n hx hb dX0_note_0 rfl (lv_at hl 0 rfl) ?_
  refine va_get (D := D) (ci := 0) (v := .int (nI n)) (C := RX0) (T := TX0) (N := 7) hx hb hts iu_X0_note_X0 hown hK hP 0 rfl rfl 5 (by decide) (hts _ (List.mem_of_getElem? (i := 1) rfl)) (fun _ h9 => h9) rfl dX0_note_1 ?_
  refine lv_istore (lv' := [(4, .int (nI n)), (0, .ref oL), (1, .int kd), (2, .int (nI o)), (3, .int tw)]) hx hb dX0_note_4 hl (by decide) rfl (fun ls hl => ?_)
  refine lv_iload hx hb dX0_note_6 (lv_at hl 0 rfl) ?_
  refine kM_callS (As := [.int (nI n)]) (rest := []) (wr := [(oL, .inr (0, [.ref a1, .ref a2, .ref a3, .ref a4, .ref a5, .int (nI n), .int (nI k)])), (a1, .inl (cI, 480, .inl K)), (a2, .inl (cI, 480, .inl (nF O))), (a3, .inl (cI, 480, .inl T)), (a4, .inl (cI, 40, .inl (nF M))), (a5, .inl (cI, 40, .inl Z))]) (w2 := fun _ => [(oL, .inr (0, [.ref a1, .ref a2, .ref a3, .ref a4, .ref a5, .int (nI n), .int (nI k)])), (a1, .inl (cI, 480, .inl K)), (a2, .inl (cI, 480, .inl (nF O))), (a3, .inl (cI, 480, .inl T)), (a4, .inl (cI, 40, .inl (nF M))), (a5, .inl (cI, 40, .inl Z))]) (st2 := fun _ => [.int (b2i (n < 40))]) (k := 0) (n2 := 0) ⟨hx, hb, hml, hown, hts⟩ (c_X0_hasRow l D cI n (by omega)) (va_cwS 1 hts gX0_note_X0_hasRow rfl rfl rfl (by decide +kernel) ⟨Nat.le_of_ble_eq_true rfl, Nat.le_of_ble_eq_true rfl⟩) [0] rfl hK hP hD hS hA [] [0, 1, 2, 3, 4, 5] rfl (by decide) rfl (by decide) (by decide) [0, 1, 2, 3, 4, 5] (by decide) (fun _ => rfl) (Nat.le_refl _) (Nat.le_refl _) (Nat.le_of_ble_eq_true rfl) (Nat.le_of_ble_eq_true rfl) rfl hl.1 (Nat.le_of_ble_eq_true rfl) (fun _ => rfl) rfl dX0_note_8 (fun u H locs hu hP hD hS => ?_)
  refine k_bif_eq hx hb (tgt := 21) dX0_note_11 (by decide) (fun c_1 => (absurd hn c_1 : False).elim) (fun c_1 => ?_)
  refine lv_aload_n hx hb dX0_note_14 rfl (lv_at hl 1 rfl) ?_
  refine kM_callV (As := []) (rest := []) (wr := []) (w2 := fun _ => [(oL, .inr (0, [.ref a1, .ref a2, .ref a3, .ref a4, .ref a5, .int (nI n), .int (nI k)])), (a1, .inl (cI, 480, .inl K)), (a2, .inl (cI, 480, .inl (nF O))), (a3, .inl (cI, 480, .inl T)), (a4, .inl (cI, 40, .inl (nF M))), (a5, .inl (cI, 40, .inl Z))]) (st2 := fun _ => [.int (b2i (n < 40 ∧ M n < 12))]) (k := 0) (n2 := 0) ⟨hx, hb, hml, hown, hts⟩ (c_X0_hasRoomForDeed l D cI oL a1 a2 a3 a4 a5 K O T M Z n k (by omega) hM) (cwV 0 hts gX0_note_X0_hasRoomForDeed rfl rfl rfl (by decide +kernel) ⟨Nat.le_of_ble_eq_true rfl, Nat.le_of_ble_eq_true rfl⟩) 0 rfl rfl rfl [0] rfl hK hP hD hS hA [0, 1, 2, 3, 4, 5] [] rfl (by decide) rfl (by decide) (by decide) [0, 1, 2, 3, 4, 5] (by decide) (fun _ => rfl) (Nat.le_refl _) (Nat.le_refl _) (Nat.le_of_ble_eq_true rfl) (Nat.le_of_ble_eq_true rfl) rfl hl.1 (Nat.le_of_ble_eq_true rfl) (fun _ => rfl) rfl dX0_note_15 (fun u H locs hu hP hD hS => ?_)
  refine k_bif_ne hx hb (tgt := 22) dX0_note_18 (by decide) (fun c_2 => ?_) (fun c_2 => (c_2 ⟨hn, hMn⟩ : False).elim)
  refine lv_iload hx hb dX0_note_22 (lv_at hl 0 rfl) ?_
  refine lv_bipush (v := (nI 12)) hx hb dX0_note_24 (by decide) ?_
  refine k_imul hx hb dX0_note_26 ?_
  refine lv_aload_n hx hb dX0_note_27 rfl (lv_at hl 1 rfl) ?_
  refine va_get (D := D) (ci := 0) (v := .ref a4) (C := RX0) (T := TX0) (N := 7) hx hb hts iu_X0_note_X0 hown hK hP 0 rfl rfl 3 (by decide) (hts _ (List.mem_of_getElem? (i := 2) rfl)) (fun _ h9 => h9) rfl dX0_note_28 ?_
  refine lv_iload hx hb dX0_note_31 (lv_at hl 0 rfl) ?_
  refine k_iald hx hb hK hP 4 0 (i := n) rfl rfl (by omega) (by decide) dX0_note_33 ?_
  refine k_top (y := (nI (M n))) rfl ?_
  refine k_iadd hx hb dX0_note_34 ?_
  refine lv_istore (lv' := [(5, .int (nI ((n * 12) + (M n)))), (4, .int (nI n)), (0, .ref oL), (1, .int kd), (2, .int (nI o)), (3, .int tw)]) hx hb dX0_note_35 hl (by decide) rfl (fun ls hl => ?_)
  refine lv_iload hx hb dX0_note_37 (lv_at hl 0 rfl) ?_
  refine kM_callS (As := [.int (nI ((n * 12) + (M n)))]) (rest := []) (wr := [(oL, .inr (0, [.ref a1, .ref a2, .ref a3, .ref a4, .ref a5, .int (nI n), .int (nI k)])), (a1, .inl (cI, 480, .inl K)), (a2, .inl (cI, 480, .inl (nF O))), (a3, .inl (cI, 480, .inl T)), (a4, .inl (cI, 40, .inl (nF M))), (a5, .inl (cI, 40, .inl Z))]) (w2 := fun _ => [(oL, .inr (0, [.ref a1, .ref a2, .ref a3, .ref a4, .ref a5, .int (nI n), .int (nI k)])), (a1, .inl (cI, 480, .inl K)), (a2, .inl (cI, 480, .inl (nF O))), (a3, .inl (cI, 480, .inl T)), (a4, .inl (cI, 40, .inl (nF M))), (a5, .inl (cI, 40, .inl Z))]) (st2 := fun _ => [.int (b2i (((n * 12) + (M n)) < 480))]) (k := 0) (n2 := 0) ⟨hx, hb, hml, hown, hts⟩ (c_X0_isSlot l D cI ((n * 12) + (M n)) (by omega)) (va_cwS 1 hts gX0_note_X0_isSlot rfl rfl rfl (by decide +kernel) ⟨Nat.le_of_ble_eq_true rfl, Nat.le_of_ble_eq_true rfl⟩) [0] rfl hK hP hD hS hA [] [0, 1, 2, 3, 4, 5] rfl (by decide) rfl (by decide) (by decide) [0, 1, 2, 3, 4, 5] (by decide) (fun _ => rfl) (Nat.le_refl _) (Nat.le_refl _) (Nat.le_of_ble_eq_true rfl) (Nat.le_of_ble_eq_true rfl) rfl hl.1 (Nat.le_of_ble_eq_true rfl) (fun _ => rfl) rfl dX0_note_39 (fun u H locs hu hP hD hS => ?_)
  refine k_bif_eq hx hb (tgt := 80) dX0_note_42 (by decide) (fun c_3 => (c_3 (by omega) : False).elim) (fun c_3 => ?_)
  refine lv_aload_n hx hb dX0_note_45 rfl (lv_at hl 2 rfl) ?_
  refine va_get (D := D) (ci := 0) (v := .ref a1) (C := RX0) (T := TX0) (N := 7) hx hb hts iu_X0_note_X0 hown hK hP 0 rfl rfl 0 (by decide) (hts _ (List.mem_of_getElem? (i := 3) rfl)) (fun _ h9 => h9) rfl dX0_note_46 ?_
  refine lv_iload hx hb dX0_note_49 (lv_at hl 0 rfl) ?_
  refine lv_iload_n hx hb dX0_note_51 rfl (lv_at hl 3 rfl) ?_
  refine k_iast (w2 := [(oL, .inr (0, [.ref a1, .ref a2, .ref a3, .ref a4, .ref a5, .int (nI n), .int (nI k)])), (a1, .inl (cI, 480, .inl (upd K ((n * 12) + (M n)) kd))), (a2, .inl (cI, 480, .inl (nF O))), (a3, .inl (cI, 480, .inl T)), (a4, .inl (cI, 40, .inl (nF M))), (a5, .inl (cI, 40, .inl Z))]) hx hb hK hP hD hS 1 0 (i := ((n * 12) + (M n))) rfl rfl (by omega) (by decide) dX0_note_52 (g := upd K ((n * 12) + (M n)) kd) rfl rfl (fun H locs hP hD hS => ?_)
  refine lv_aload_n hx hb dX0_note_53 rfl (lv_at hl 2 rfl) ?_
  refine va_get (D := D) (ci := 0) (v := .ref a2) (C := RX0) (T := TX0) (N := 7) hx hb hts iu_X0_note_X0 hown hK hP 0 rfl rfl 1 (by decide) (hts _ (List.mem_of_getElem? (i := 4) rfl)) (fun _ h9 => h9) rfl dX0_note_54 ?_
  refine lv_iload hx hb dX0_note_57 (lv_at hl 0 rfl) ?_
  refine lv_iload_n hx hb dX0_note_59 rfl (lv_at hl 4 rfl) ?_
  refine k_iast (w2 := [(oL, .inr (0, [.ref a1, .ref a2, .ref a3, .ref a4, .ref a5, .int (nI n), .int (nI k)])), (a1, .inl (cI, 480, .inl (upd K ((n * 12) + (M n)) kd))), (a2, .inl (cI, 480, .inl (nF (upN O ((n * 12) + (M n)) o)))), (a3, .inl (cI, 480, .inl T)), (a4, .inl (cI, 40, .inl (nF M))), (a5, .inl (cI, 40, .inl Z))]) hx hb hK hP hD hS 2 0 (i := ((n * 12) + (M n))) rfl rfl (by omega) (by decide) dX0_note_60 (g := nF (upN O ((n * 12) + (M n)) o)) (nF_upd O ((n * 12) + (M n)) o) rfl (fun H locs hP hD hS => ?_)
  refine lv_aload_n hx hb dX0_note_61 rfl (lv_at hl 2 rfl) ?_
  refine va_get (D := D) (ci := 0) (v := .ref a3) (C := RX0) (T := TX0) (N := 7) hx hb hts iu_X0_note_X0 hown hK hP 0 rfl rfl 2 (by decide) (hts _ (List.mem_of_getElem? (i := 5) rfl)) (fun _ h9 => h9) rfl dX0_note_62 ?_
  refine lv_iload hx hb dX0_note_65 (lv_at hl 0 rfl) ?_
  refine lv_iload_n hx hb dX0_note_67 rfl (lv_at hl 5 rfl) ?_
  refine k_iast (w2 := [(oL, .inr (0, [.ref a1, .ref a2, .ref a3, .ref a4, .ref a5, .int (nI n), .int (nI k)])), (a1, .inl (cI, 480, .inl (upd K ((n * 12) + (M n)) kd))), (a2, .inl (cI, 480, .inl (nF (upN O ((n * 12) + (M n)) o)))), (a3, .inl (cI, 480, .inl (upd T ((n * 12) + (M n)) tw))), (a4, .inl (cI, 40, .inl (nF M))), (a5, .inl (cI, 40, .inl Z))]) hx hb hK hP hD hS 3 0 (i := ((n * 12) + (M n))) rfl rfl (by omega) (by decide) dX0_note_68 (g := upd T ((n * 12) + (M n)) tw) rfl rfl (fun H locs hP hD hS => ?_)
  refine lv_aload_n hx hb dX0_note_69 rfl (lv_at hl 2 rfl) ?_
  refine va_get (D := D) (ci := 0) (v := .ref a4) (C := RX0) (T := TX0) (N := 7) hx hb hts iu_X0_note_X0 hown hK hP 0 rfl rfl 3 (by decide) (hts _ (List.mem_of_getElem? (i := 2) rfl)) (fun _ h9 => h9) rfl dX0_note_70 ?_
  refine lv_iload hx hb dX0_note_73 (lv_at hl 1 rfl) ?_
  refine lv_dup2_11 hx hb dX0_note_75 rfl rfl ?_
  refine k_iald hx hb hK hP 4 0 (i := n) rfl rfl (by omega) (by decide) dX0_note_76 ?_
  refine k_top (y := (nI (M n))) rfl ?_
  refine lv_iconst (v := (nI 1)) hx hb dX0_note_77 (by decide) ?_
  refine k_iadd hx hb dX0_note_78 ?_
  refine k_iast (w2 := [(oL, .inr (0, [.ref a1, .ref a2, .ref a3, .ref a4, .ref a5, .int (nI n), .int (nI k)])), (a1, .inl (cI, 480, .inl (upd K ((n * 12) + (M n)) kd))), (a2, .inl (cI, 480, .inl (nF (upN O ((n * 12) + (M n)) o)))), (a3, .inl (cI, 480, .inl (upd T ((n * 12) + (M n)) tw))), (a4, .inl (cI, 40, .inl (nF (upN M n ((M n) + 1))))), (a5, .inl (cI, 40, .inl Z))]) hx hb hK hP hD hS 4 0 (i := n) rfl rfl (by omega) (by decide) dX0_note_79 (g := nF (upN M n ((M n) + 1))) (nF_upd M n ((M n) + 1)) rfl (fun H locs hP hD hS => ?_)
  exact kM_vret hx hb hr hlk hQ hP hD hK hS () rfl (Nat.le_of_ble_eq_true rfl) (Nat.le_of_ble_eq_true rfl) rfl trivial dX0_note_80
theorem iu_X0_forgetBelow_X0 : ∀ w ∈ wsX00, w ∈ wsX0_forgetBelow := fun w h => (List.mem_cons_of_mem _ (List.mem_append_right _ h))
def rm_c_X0_forgetBelow : Room := { frames := 1, cells := 0, slots := 0, locals := 24 }
set_option maxHeartbeats 4000000 in
set_option maxRecDepth 100000 in
theorem c_X0_forgetBelow (l : Launch) (D : va_G) (cI : ClassId) (oL a1 a2 a3 a4 a5 : Nat) (K : Nat → Int32) (O : Nat → Nat) (T : Nat → Int32) (M : Nat → Nat) (Z : Nat → Int32) (n k : Nat) (y : Nat) (hy : y ≤ n) (hn : n ≤ 40) (hk : k ≤ n) :
    kM l yX0_forgetBelow wsX0_forgetBelow rm_c_X0_forgetBelow D [(cI, FieldType.int)] [.ref oL, .int (nI y)] [(oL, .inr (0, [.ref a1, .ref a2, .ref a3, .ref a4, .ref a5, .int (nI n), .int (nI k)])), (a1, .inl (cI, 480, .inl K)), (a2, .inl (cI, 480, .inl (nF O))), (a3, .inl (cI, 480, .inl T)), (a4, .inl (cI, 40, .inl (nF M))), (a5, .inl (cI, 40, .inl Z))] (fun _ : Unit => True) (fun _ => some (.int (nI (max k y - k)))) (fun _ => [(oL, .inr (0, [.ref a1, .ref a2, .ref a3, .ref a4, .ref a5, .int (nI n), .int (nI (max k y))])), (a1, .inl (cI, 480, .inl K)), (a2, .inl (cI, 480, .inl (nF O))), (a3, .inl (cI, 480, .inl T)), (a4, .inl (cI, 40, .inl (nF (dropM M k (y - k))))), (a5, .inl (cI, 40, .inl Z))]) := by
  refine kM_of (cc := cX0_forgetBelow) (maxL := 5) (ret := (some .int)) (own := RX0) (by decide) rfl rfl (Nat.le_of_ble_eq_true rfl) ?_
  intro p e s m args below meth c A ls Qz hx hb hml hr hts hown hlk hin hQ hA hS hP hD hK hl
  have hl : lv_has ls 5 [(0, .ref oL), (1, .int (nI y))] := hl
  refine lv_aload_n hx hb dX0_forgetBelow_0 rfl (lv_at hl 0 rfl) ?_
  refine va_get (D := D) (ci := 0) (v := .int (nI k)) (C := RX0) (T := TX0) (N := 7) hx hb hts iu_X0_forgetBelow_X0 hown hK hP 0 rfl rfl 6 (by decide) (hts _ (List.mem_of_getElem? (i := 1) rfl)) (fun _ h9 => h9) rfl dX0_forgetBelow_1 ?_
  refine lv_istore_n (lv' := [(2, .int (nI k)), (0, .ref oL), (1, .int (nI y))]) hx hb dX0_forgetBelow_4 rfl hl (by decide) rfl (fun ls hl => ?_)
  refine lv_iload_n hx hb dX0_forgetBelow_5 rfl (lv_at hl 2 rfl) ?_
  refine lv_aload_n hx hb dX0_forgetBelow_6 rfl (lv_at hl 1 rfl) ?_
  refine va_get (D := D) (ci := 0) (v := .int (nI n)) (C := RX0) (T := TX0) (N := 7) hx hb hts iu_X0_forgetBelow_X0 hown hK hP 0 rfl rfl 5 (by decide) (hts _ (List.mem_of_getElem? (i := 2) rfl)) (fun _ h9 => h9) rfl dX0_forgetBelow_7 ?_
  refine va_mmin hx hb (hml.trans hl.1.symm) hown (hts _ (List.mem_of_getElem? (i := 3) rfl)) (hts _ (List.mem_of_getElem? (i := 4) rfl)) (hts _ (List.mem_of_getElem? (i := 5) rfl)) (hts _ (List.mem_of_getElem? (i := 6) rfl)) (Nat.le_of_ble_eq_true rfl) (Nat.le_of_ble_eq_true rfl) (Nat.le_of_ble_eq_true rfl) (Nat.le_of_ble_eq_true rfl) dX0_forgetBelow_10 ?_
  refine k_top (y := (jmin (nI y) (nI n))) rfl ?_
  refine k_top (y := (nI y)) (k_minN (by omega) (by omega) (by omega)) ?_
  refine lv_istore_n (lv' := [(3, .int (nI y)), (2, .int (nI k)), (0, .ref oL), (1, .int (nI y))]) hx hb dX0_forgetBelow_13 rfl hl (by decide) rfl (fun ls hl => ?_)
  refine lv_iload_n hx hb dX0_forgetBelow_14 rfl (lv_at hl 1 rfl) ?_
  refine lv_istore (lv' := [(4, .int (nI k)), (3, .int (nI y)), (2, .int (nI k)), (0, .ref oL), (1, .int (nI y))]) hx hb dX0_forgetBelow_15 hl (by decide) rfl (fun ls hl => ?_)
  have lp_17 : ∀ (fu d : Nat), 0 ≤ d → d ≤ y - k → (y - k) + 1 ≤ d + fu → ∀ (x1 : Nat → Nat), x1 = dropM M k d → ∀ (H : Heap) (locs : List Loc), va_P D vwCl [(oL, .inr (0, [.ref a1, .ref a2, .ref a3, .ref a4, .ref a5, .int (nI n), .int (nI k)])), (a1, .inl (cI, 480, .inl K)), (a2, .inl (cI, 480, .inl (nF O))), (a3, .inl (cI, 480, .inl T)), (a4, .inl (cI, 40, .inl (nF x1))), (a5, .inl (cI, 40, .inl Z))] H → va_D A [(oL, .inr (0, [.ref a1, .ref a2, .ref a3, .ref a4, .ref a5, .int (nI n), .int (nI k)])), (a1, .inl (cI, 480, .inl K)), (a2, .inl (cI, 480, .inl (nF O))), (a3, .inl (cI, 480, .inl T)), (a4, .inl (cI, 40, .inl (nF x1))), (a5, .inl (cI, 40, .inl Z))] → va_S A s.heap H locs → ∀ (ls : Array Slot), lv_has ls 5 [(4, .int (nI (k + d))), (3, .int (nI y)), (2, .int (nI k)), (0, .ref oL), (1, .int (nI y))] → W p l e rm_c_X0_forgetBelow s m args below meth c H locs 0 0 Qz (F0 m 17 ls []) := by
    intro fu
    induction fu with
    | zero => intro d h1_17 h2_17 h3_17; exact absurd h3_17 (by omega)
    | succ fu ih_17 =>
      intro d h1_17 h2_17 h3_17 x1 ex1 H locs hP hD hS ls hl
      subst ex1
      refine lv_iload hx hb dX0_forgetBelow_17 (lv_at hl 0 rfl) ?_
      refine lv_iload_n hx hb dX0_forgetBelow_19 rfl (lv_at hl 1 rfl) ?_
      refine k_icmp_ge hx hb (tgt := 45) (by omega) (by omega) dX0_forgetBelow_20 (by decide) (fun c_1 => ?_) (fun c_1 => ?_)
      · have e_2 : y - k = d := by omega
        subst e_2
        refine lv_aload_n hx hb dX0_forgetBelow_45 rfl (lv_at hl 3 rfl) ?_
        refine lv_iload_n hx hb dX0_forgetBelow_46 rfl (lv_at hl 2 rfl) ?_
        refine lv_iload_n hx hb dX0_forgetBelow_47 rfl (lv_at hl 1 rfl) ?_
        refine va_mmax hx hb (hml.trans hl.1.symm) hown (hts _ (List.mem_of_getElem? (i := 8) rfl)) (hts _ (List.mem_of_getElem? (i := 9) rfl)) (hts _ (List.mem_of_getElem? (i := 5) rfl)) (hts _ (List.mem_of_getElem? (i := 10) rfl)) (Nat.le_of_ble_eq_true rfl) (Nat.le_of_ble_eq_true rfl) (Nat.le_of_ble_eq_true rfl) (Nat.le_of_ble_eq_true rfl) dX0_forgetBelow_48 ?_
        refine k_top (y := (jmax (nI k) (nI y))) rfl ?_
        refine k_top (y := (nI (max k y))) (k_maxN (by omega) (by omega)) ?_
        refine va_put (D := D) (ci := 0) (v := .int (nI (max k y))) (ty := .int) (C := RX0) (T := TX0) (N := 7) hx hb hts iu_X0_forgetBelow_X0 tyX0 tyX0_ok nmX0 hown hK hP hD hS 0 rfl rfl 6 (by decide) (hts _ (List.mem_of_getElem? (i := 1) rfl)) (fun _ h9 => h9) rfl (by decide +kernel) rfl rfl (Nat.le_of_ble_eq_true rfl) dX0_forgetBelow_51 (fun H locs hP hD hS => ?_)
        have hP : va_P D vwCl [(oL, .inr (0, [.ref a1, .ref a2, .ref a3, .ref a4, .ref a5, .int (nI n), .int (nI (max k y))])), (a1, .inl (cI, 480, .inl K)), (a2, .inl (cI, 480, .inl (nF O))), (a3, .inl (cI, 480, .inl T)), (a4, .inl (cI, 40, .inl (nF (dropM M k (y - k))))), (a5, .inl (cI, 40, .inl Z))] H := hP
        have hD : va_D A [(oL, .inr (0, [.ref a1, .ref a2, .ref a3, .ref a4, .ref a5, .int (nI n), .int (nI (max k y))])), (a1, .inl (cI, 480, .inl K)), (a2, .inl (cI, 480, .inl (nF O))), (a3, .inl (cI, 480, .inl T)), (a4, .inl (cI, 40, .inl (nF (dropM M k (y - k))))), (a5, .inl (cI, 40, .inl Z))] := hD
        refine lv_aload_n hx hb dX0_forgetBelow_54 rfl (lv_at hl 3 rfl) ?_
        refine va_get (D := D) (ci := 0) (v := .int (nI (max k y))) (C := RX0) (T := TX0) (N := 7) hx hb hts iu_X0_forgetBelow_X0 hown hK hP 0 rfl rfl 6 (by decide) (hts _ (List.mem_of_getElem? (i := 1) rfl)) (fun _ h9 => h9) rfl dX0_forgetBelow_55 ?_
        refine lv_iload_n hx hb dX0_forgetBelow_58 rfl (lv_at hl 2 rfl) ?_
        refine k_isub hx hb (by omega) dX0_forgetBelow_59 ?_
        exact kM_iret hx hb hr hlk hQ hP hD hK hS () rfl (Nat.le_of_ble_eq_true rfl) (Nat.le_of_ble_eq_true rfl) (congrArg (fun z => some (Value.int z)) (by rfl)) trivial dX0_forgetBelow_60
      · refine lv_iload hx hb dX0_forgetBelow_23 (lv_at hl 0 rfl) ?_
        refine kM_callS (As := [.int (nI (k + d))]) (rest := []) (wr := [(oL, .inr (0, [.ref a1, .ref a2, .ref a3, .ref a4, .ref a5, .int (nI n), .int (nI k)])), (a1, .inl (cI, 480, .inl K)), (a2, .inl (cI, 480, .inl (nF O))), (a3, .inl (cI, 480, .inl T)), (a4, .inl (cI, 40, .inl (nF (dropM M k d)))), (a5, .inl (cI, 40, .inl Z))]) (w2 := fun _ => [(oL, .inr (0, [.ref a1, .ref a2, .ref a3, .ref a4, .ref a5, .int (nI n), .int (nI k)])), (a1, .inl (cI, 480, .inl K)), (a2, .inl (cI, 480, .inl (nF O))), (a3, .inl (cI, 480, .inl T)), (a4, .inl (cI, 40, .inl (nF (dropM M k d)))), (a5, .inl (cI, 40, .inl Z))]) (st2 := fun _ => [.int (b2i ((k + d) < 40))]) (k := 0) (n2 := 0) ⟨hx, hb, hml, hown, hts⟩ (c_X0_hasRow l D cI (k + d) (by omega)) (va_cwS 1 hts gX0_forgetBelow_X0_hasRow rfl rfl rfl (by decide +kernel) ⟨Nat.le_of_ble_eq_true rfl, Nat.le_of_ble_eq_true rfl⟩) [0] rfl hK hP hD hS hA [] [0, 1, 2, 3, 4, 5] rfl (by decide) rfl (by decide) (by decide) [0, 1, 2, 3, 4, 5] (by decide) (fun _ => rfl) (Nat.le_refl _) (Nat.le_refl _) (Nat.le_of_ble_eq_true rfl) (Nat.le_of_ble_eq_true rfl) rfl hl.1 (Nat.le_of_ble_eq_true rfl) (fun _ => rfl) rfl dX0_forgetBelow_25 (fun u H locs hu hP hD hS => ?_)
        refine k_bif_eq hx hb (tgt := 39) dX0_forgetBelow_28 (by decide) (fun c_3 => (c_3 (by omega) : False).elim) (fun c_3 => ?_)
        refine lv_aload_n hx hb dX0_forgetBelow_31 rfl (lv_at hl 3 rfl) ?_
        refine va_get (D := D) (ci := 0) (v := .ref a4) (C := RX0) (T := TX0) (N := 7) hx hb hts iu_X0_forgetBelow_X0 hown hK hP 0 rfl rfl 3 (by decide) (hts _ (List.mem_of_getElem? (i := 7) rfl)) (fun _ h9 => h9) rfl dX0_forgetBelow_32 ?_
        refine lv_iload hx hb dX0_forgetBelow_35 (lv_at hl 0 rfl) ?_
        refine lv_iconst (v := (nI 0)) hx hb dX0_forgetBelow_37 (by decide) ?_
        refine k_iast (w2 := [(oL, .inr (0, [.ref a1, .ref a2, .ref a3, .ref a4, .ref a5, .int (nI n), .int (nI k)])), (a1, .inl (cI, 480, .inl K)), (a2, .inl (cI, 480, .inl (nF O))), (a3, .inl (cI, 480, .inl T)), (a4, .inl (cI, 40, .inl (nF (upN (dropM M k d) (k + d) 0)))), (a5, .inl (cI, 40, .inl Z))]) hx hb hK hP hD hS 4 0 (i := (k + d)) rfl rfl (by omega) (by decide) dX0_forgetBelow_38 (g := nF (upN (dropM M k d) (k + d) 0)) (nF_upd (dropM M k d) (k + d) 0) rfl (fun H locs hP hD hS => ?_)
        refine lv_iinc (v := (nI ((k + d) + 1))) (lv' := [(4, .int (nI ((k + d) + 1))), (3, .int (nI y)), (2, .int (nI k)), (0, .ref oL), (1, .int (nI y))]) (k := 0) hx hb dX0_forgetBelow_39 hl rfl (nI_add (k + d) 1) (by decide) rfl (fun ls hl => ?_)
        refine lv_goto (tgt := 17) hx hb dX0_forgetBelow_42 (by decide) ?_
        exact ih_17 (d + 1) (by omega) (by omega) (by omega) (upN (dropM M k d) (k + d) 0) rfl _ _ hP hD hS ls (lv_sub hl [0, 1, 2, 3, 4] rfl)
  exact lp_17 ((y - k) + 1) 0 (by omega) (by omega) (by omega) M rfl _ _ hP hD hS ls (lv_sub hl [0, 1, 2, 3, 4] rfl)
theorem iu_X0_doAgain_X0 : ∀ w ∈ wsX00, w ∈ wsX0_doAgain := fun w h => (List.mem_cons_of_mem _ (List.mem_append_left _ (List.mem_append_right _ h)))
theorem iu_X0_doAgain_X2 : ∀ w ∈ wsX20, w ∈ wsX0_doAgain := fun w h => (List.mem_cons_of_mem _ (List.mem_append_right _ h))
def rm_c_X0_doAgain : Room := { frames := 4, cells := 0, slots := 0, locals := 88 }
set_option maxHeartbeats 4000000 in
set_option maxRecDepth 100000 in
theorem c_X0_doAgain (l : Launch) (D : va_G) (cI : ClassId) (oL a1 a2 a3 a4 a5 : Nat) (K : Nat → Int32) (O : Nat → Nat) (T : Nat → Int32) (M : Nat → Nat) (Z : Nat → Int32) (n k : Nat) (j h a : Nat) (f : Nat → Int32) (hj : j < 40) (hM : ∀ i, M i ≤ 12) (hO : ∀ i, O i < 8) :
    kM l yX0_doAgain wsX0_doAgain rm_c_X0_doAgain D [(cI, FieldType.int)] [.ref oL, .int (nI j), .ref h] [(oL, .inr (0, [.ref a1, .ref a2, .ref a3, .ref a4, .ref a5, .int (nI n), .int (nI k)])), (a1, .inl (cI, 480, .inl K)), (a2, .inl (cI, 480, .inl (nF O))), (a3, .inl (cI, 480, .inl T)), (a4, .inl (cI, 40, .inl (nF M))), (a5, .inl (cI, 40, .inl Z)), (h, .inr (2, [.ref a])), (a, .inl (cI, 8, .inl f))] (fun _ : Unit => True) (fun _ => none) (fun _ => [(oL, .inr (0, [.ref a1, .ref a2, .ref a3, .ref a4, .ref a5, .int (nI n), .int (nI k)])), (a1, .inl (cI, 480, .inl K)), (a2, .inl (cI, 480, .inl (nF O))), (a3, .inl (cI, 480, .inl T)), (a4, .inl (cI, 40, .inl (nF M))), (a5, .inl (cI, 40, .inl Z)), (h, .inr (2, [.ref a])), (a, .inl (cI, 8, .inl (againN K O T j f (M j))))]) := by
  refine kM_of (cc := cX0_doAgain) (maxL := 6) (ret := none) (own := RX0) (by decide) rfl rfl (Nat.le_of_ble_eq_true rfl) ?_
  intro p e s m args below meth c A ls Qz hx hb hml hr hts hown hlk hin hQ hA hS hP hD hK hl
  have hl : lv_has ls 6 [(0, .ref oL), (1, .int (nI j)), (2, .ref h)] := hl
  have hMj := hM j
  refine lv_aload_n hx hb dX0_doAgain_0 rfl (lv_at hl 0 rfl) ?_
  refine lv_iload_n hx hb dX0_doAgain_1 rfl (lv_at hl 1 rfl) ?_
  refine kM_callV (As := [.int (nI j)]) (rest := []) (wr := [(h, .inr (2, [.ref a])), (a, .inl (cI, 8, .inl f))]) (w2 := fun _ => [(oL, .inr (0, [.ref a1, .ref a2, .ref a3, .ref a4, .ref a5, .int (nI n), .int (nI k)])), (a1, .inl (cI, 480, .inl K)), (a2, .inl (cI, 480, .inl (nF O))), (a3, .inl (cI, 480, .inl T)), (a4, .inl (cI, 40, .inl (nF M))), (a5, .inl (cI, 40, .inl Z)), (h, .inr (2, [.ref a])), (a, .inl (cI, 8, .inl f))]) (st2 := fun _ => [.int (nI (M j))]) (k := 0) (n2 := 0) ⟨hx, hb, hml, hown, hts⟩ (c_X0_deedsIn l D cI oL a1 a2 a3 a4 a5 K O T M Z n k j (by omega)) (cwV 1 hts gX0_doAgain_X0_deedsIn rfl rfl rfl (by decide +kernel) ⟨Nat.le_of_ble_eq_true rfl, Nat.le_of_ble_eq_true rfl⟩) 0 rfl rfl rfl [0] rfl hK hP hD hS hA [0, 1, 2, 3, 4, 5] [6, 7] rfl (by decide) rfl (by decide) (by decide) [2, 3, 4, 5, 6, 7, 0, 1] (by decide) (fun _ => rfl) (Nat.le_refl _) (Nat.le_refl _) (Nat.le_of_ble_eq_true rfl) (Nat.le_of_ble_eq_true rfl) rfl hl.1 (Nat.le_of_ble_eq_true rfl) (fun _ => rfl) rfl dX0_doAgain_2 (fun u H locs hu hP hD hS => ?_)
  refine lv_istore_n (lv' := [(3, .int (nI (M j))), (0, .ref oL), (1, .int (nI j)), (2, .ref h)]) hx hb dX0_doAgain_5 rfl hl (by decide) rfl (fun ls hl => ?_)
  refine lv_iconst (v := (nI 0)) hx hb dX0_doAgain_6 (by decide) ?_
  refine lv_istore (lv' := [(4, .int (nI 0)), (3, .int (nI (M j))), (0, .ref oL), (1, .int (nI j)), (2, .ref h)]) hx hb dX0_doAgain_7 hl (by decide) rfl (fun ls hl => ?_)
  have lp_9 : ∀ (fu d : Nat), 0 ≤ d → d ≤ M j → (M j) + 1 ≤ d + fu → ∀ (x1 : Nat → Int32), x1 = againN K O T j f d → ∀ (H : Heap) (locs : List Loc), va_P D vwCl [(oL, .inr (0, [.ref a1, .ref a2, .ref a3, .ref a4, .ref a5, .int (nI n), .int (nI k)])), (a1, .inl (cI, 480, .inl K)), (a2, .inl (cI, 480, .inl (nF O))), (a3, .inl (cI, 480, .inl T)), (a4, .inl (cI, 40, .inl (nF M))), (a5, .inl (cI, 40, .inl Z)), (h, .inr (2, [.ref a])), (a, .inl (cI, 8, .inl x1))] H → va_D A [(oL, .inr (0, [.ref a1, .ref a2, .ref a3, .ref a4, .ref a5, .int (nI n), .int (nI k)])), (a1, .inl (cI, 480, .inl K)), (a2, .inl (cI, 480, .inl (nF O))), (a3, .inl (cI, 480, .inl T)), (a4, .inl (cI, 40, .inl (nF M))), (a5, .inl (cI, 40, .inl Z)), (h, .inr (2, [.ref a])), (a, .inl (cI, 8, .inl x1))] → va_S A s.heap H locs → ∀ (ls : Array Slot), lv_has ls 6 [(4, .int (nI d)), (3, .int (nI (M j))), (0, .ref oL), (1, .int (nI j)), (2, .ref h)] → W p l e rm_c_X0_doAgain s m args below meth c H locs 0 0 Qz (F0 m 9 ls []) := by
    intro fu
    induction fu with
    | zero => intro d h1_9 h2_9 h3_9; exact absurd h3_9 (by omega)
    | succ fu ih_9 =>
      intro d h1_9 h2_9 h3_9 x1 ex1 H locs hP hD hS ls hl
      subst ex1
      refine lv_iload hx hb dX0_doAgain_9 (lv_at hl 0 rfl) ?_
      refine lv_iload_n hx hb dX0_doAgain_11 rfl (lv_at hl 1 rfl) ?_
      refine k_icmp_ge hx hb (tgt := 52) (by omega) (by omega) dX0_doAgain_12 (by decide) (fun c_1 => ?_) (fun c_1 => ?_)
      · have e_2 : M j = d := by omega
        subst e_2
        exact kM_vret hx hb hr hlk hQ hP hD hK hS () rfl (Nat.le_of_ble_eq_true rfl) (Nat.le_of_ble_eq_true rfl) rfl trivial dX0_doAgain_52
      · refine lv_aload_n hx hb dX0_doAgain_15 rfl (lv_at hl 2 rfl) ?_
        refine lv_iload_n hx hb dX0_doAgain_16 rfl (lv_at hl 3 rfl) ?_
        refine lv_iload hx hb dX0_doAgain_17 (lv_at hl 0 rfl) ?_
        refine kM_callV (As := [.int (nI j), .int (nI d)]) (rest := []) (wr := [(h, .inr (2, [.ref a])), (a, .inl (cI, 8, .inl (againN K O T j f d)))]) (w2 := fun _ => [(oL, .inr (0, [.ref a1, .ref a2, .ref a3, .ref a4, .ref a5, .int (nI n), .int (nI k)])), (a1, .inl (cI, 480, .inl K)), (a2, .inl (cI, 480, .inl (nF O))), (a3, .inl (cI, 480, .inl T)), (a4, .inl (cI, 40, .inl (nF M))), (a5, .inl (cI, 40, .inl Z)), (h, .inr (2, [.ref a])), (a, .inl (cI, 8, .inl (againN K O T j f d)))]) (st2 := fun _ => [.int (nI (j * 12 + d))]) (k := 0) (n2 := 0) ⟨hx, hb, hml, hown, hts⟩ (c_X0_slotOf l D cI oL a1 a2 a3 a4 a5 K O T M Z n k j d (by omega) (by omega) hM) (cwV 2 hts gX0_doAgain_X0_slotOf rfl rfl rfl (by decide +kernel) ⟨Nat.le_of_ble_eq_true rfl, Nat.le_of_ble_eq_true rfl⟩) 0 rfl rfl rfl [0] rfl hK hP hD hS hA [0, 1, 2, 3, 4, 5] [6, 7] rfl (by decide) rfl (by decide) (by decide) [2, 3, 4, 5, 6, 7, 0, 1] (by decide) (fun _ => rfl) (Nat.le_refl _) (Nat.le_refl _) (Nat.le_of_ble_eq_true rfl) (Nat.le_of_ble_eq_true rfl) rfl hl.1 (Nat.le_of_ble_eq_true rfl) (fun _ => rfl) rfl dX0_doAgain_19 (fun u H locs hu hP hD hS => ?_)
        refine lv_istore (lv' := [(5, .int (nI (j * 12 + d))), (4, .int (nI d)), (3, .int (nI (M j))), (0, .ref oL), (1, .int (nI j)), (2, .ref h)]) hx hb dX0_doAgain_22 hl (by decide) rfl (fun ls hl => ?_)
        refine lv_aload_n hx hb dX0_doAgain_24 rfl (lv_at hl 5 rfl) ?_
        refine lv_aload_n hx hb dX0_doAgain_25 rfl (lv_at hl 3 rfl) ?_
        refine lv_iload hx hb dX0_doAgain_26 (lv_at hl 0 rfl) ?_
        refine kM_callV (As := [.int (nI (j * 12 + d))]) (rest := [.ref h]) (wr := [(h, .inr (2, [.ref a])), (a, .inl (cI, 8, .inl (againN K O T j f d)))]) (w2 := fun _ => [(oL, .inr (0, [.ref a1, .ref a2, .ref a3, .ref a4, .ref a5, .int (nI n), .int (nI k)])), (a1, .inl (cI, 480, .inl K)), (a2, .inl (cI, 480, .inl (nF O))), (a3, .inl (cI, 480, .inl T)), (a4, .inl (cI, 40, .inl (nF M))), (a5, .inl (cI, 40, .inl Z)), (h, .inr (2, [.ref a])), (a, .inl (cI, 8, .inl (againN K O T j f d)))]) (st2 := fun _ => [.int (K (j * 12 + d)), .ref h]) (k := 0) (n2 := 0) ⟨hx, hb, hml, hown, hts⟩ (c_X0_kindAt l D cI oL a1 a2 a3 a4 a5 K O T M Z n k (j * 12 + d) (by omega)) (cwV 1 hts gX0_doAgain_X0_kindAt rfl rfl rfl (by decide +kernel) ⟨Nat.le_of_ble_eq_true rfl, Nat.le_of_ble_eq_true rfl⟩) 0 rfl rfl rfl [0] rfl hK hP hD hS hA [0, 1, 2, 3, 4, 5] [6, 7] rfl (by decide) rfl (by decide) (by decide) [2, 3, 4, 5, 6, 7, 0, 1] (by decide) (fun _ => rfl) (Nat.le_refl _) (Nat.le_refl _) (Nat.le_of_ble_eq_true rfl) (Nat.le_of_ble_eq_true rfl) rfl hl.1 (Nat.le_of_ble_eq_true rfl) (fun _ => rfl) rfl dX0_doAgain_28 (fun u H locs hu hP hD hS => ?_)
        refine lv_aload_n hx hb dX0_doAgain_31 rfl (lv_at hl 3 rfl) ?_
        refine lv_iload hx hb dX0_doAgain_32 (lv_at hl 0 rfl) ?_
        refine kM_callV (As := [.int (nI (j * 12 + d))]) (rest := [.int (K (j * 12 + d)), .ref h]) (wr := [(h, .inr (2, [.ref a])), (a, .inl (cI, 8, .inl (againN K O T j f d)))]) (w2 := fun _ => [(oL, .inr (0, [.ref a1, .ref a2, .ref a3, .ref a4, .ref a5, .int (nI n), .int (nI k)])), (a1, .inl (cI, 480, .inl K)), (a2, .inl (cI, 480, .inl (nF O))), (a3, .inl (cI, 480, .inl T)), (a4, .inl (cI, 40, .inl (nF M))), (a5, .inl (cI, 40, .inl Z)), (h, .inr (2, [.ref a])), (a, .inl (cI, 8, .inl (againN K O T j f d)))]) (st2 := fun _ => [.int (nI (O (j * 12 + d))), .int (K (j * 12 + d)), .ref h]) (k := 0) (n2 := 0) ⟨hx, hb, hml, hown, hts⟩ (c_X0_oneAt l D cI oL a1 a2 a3 a4 a5 K O T M Z n k (j * 12 + d) (by omega)) (cwV 1 hts gX0_doAgain_X0_oneAt rfl rfl rfl (by decide +kernel) ⟨Nat.le_of_ble_eq_true rfl, Nat.le_of_ble_eq_true rfl⟩) 0 rfl rfl rfl [0] rfl hK hP hD hS hA [0, 1, 2, 3, 4, 5] [6, 7] rfl (by decide) rfl (by decide) (by decide) [2, 3, 4, 5, 6, 7, 0, 1] (by decide) (fun _ => rfl) (Nat.le_refl _) (Nat.le_refl _) (Nat.le_of_ble_eq_true rfl) (Nat.le_of_ble_eq_true rfl) rfl hl.1 (Nat.le_of_ble_eq_true rfl) (fun _ => rfl) rfl dX0_doAgain_34 (fun u H locs hu hP hD hS => ?_)
        refine lv_aload_n hx hb dX0_doAgain_37 rfl (lv_at hl 3 rfl) ?_
        refine lv_iload hx hb dX0_doAgain_38 (lv_at hl 0 rfl) ?_
        refine kM_callV (As := [.int (nI (j * 12 + d))]) (rest := [.int (nI (O (j * 12 + d))), .int (K (j * 12 + d)), .ref h]) (wr := [(h, .inr (2, [.ref a])), (a, .inl (cI, 8, .inl (againN K O T j f d)))]) (w2 := fun _ => [(oL, .inr (0, [.ref a1, .ref a2, .ref a3, .ref a4, .ref a5, .int (nI n), .int (nI k)])), (a1, .inl (cI, 480, .inl K)), (a2, .inl (cI, 480, .inl (nF O))), (a3, .inl (cI, 480, .inl T)), (a4, .inl (cI, 40, .inl (nF M))), (a5, .inl (cI, 40, .inl Z)), (h, .inr (2, [.ref a])), (a, .inl (cI, 8, .inl (againN K O T j f d)))]) (st2 := fun _ => [.int (T (j * 12 + d)), .int (nI (O (j * 12 + d))), .int (K (j * 12 + d)), .ref h]) (k := 0) (n2 := 0) ⟨hx, hb, hml, hown, hts⟩ (c_X0_twoAt l D cI oL a1 a2 a3 a4 a5 K O T M Z n k (j * 12 + d) (by omega)) (cwV 1 hts gX0_doAgain_X0_twoAt rfl rfl rfl (by decide +kernel) ⟨Nat.le_of_ble_eq_true rfl, Nat.le_of_ble_eq_true rfl⟩) 0 rfl rfl rfl [0] rfl hK hP hD hS hA [0, 1, 2, 3, 4, 5] [6, 7] rfl (by decide) rfl (by decide) (by decide) [2, 3, 4, 5, 6, 7, 0, 1] (by decide) (fun _ => rfl) (Nat.le_refl _) (Nat.le_refl _) (Nat.le_of_ble_eq_true rfl) (Nat.le_of_ble_eq_true rfl) rfl hl.1 (Nat.le_of_ble_eq_true rfl) (fun _ => rfl) rfl dX0_doAgain_40 (fun u H locs hu hP hD hS => ?_)
        refine kM_callV (As := [.int (K (j * 12 + d)), .int (nI (O (j * 12 + d))), .int (T (j * 12 + d))]) (rest := []) (wr := [(oL, .inr (0, [.ref a1, .ref a2, .ref a3, .ref a4, .ref a5, .int (nI n), .int (nI k)])), (a1, .inl (cI, 480, .inl K)), (a2, .inl (cI, 480, .inl (nF O))), (a3, .inl (cI, 480, .inl T)), (a4, .inl (cI, 40, .inl (nF M))), (a5, .inl (cI, 40, .inl Z))]) (w2 := fun _ => [(oL, .inr (0, [.ref a1, .ref a2, .ref a3, .ref a4, .ref a5, .int (nI n), .int (nI k)])), (a1, .inl (cI, 480, .inl K)), (a2, .inl (cI, 480, .inl (nF O))), (a3, .inl (cI, 480, .inl T)), (a4, .inl (cI, 40, .inl (nF M))), (a5, .inl (cI, 40, .inl Z)), (h, .inr (2, [.ref a])), (a, .inl (cI, 8, .inl (perf (againN K O T j f d) (K (j * 12 + d)) (O (j * 12 + d)) (T (j * 12 + d)))))]) (st2 := fun _ => []) (k := 0) (n2 := 0) ⟨hx, hb, hml, hown, hts⟩ (c_X2_perform l D cI h a (againN K O T j f d) (K (j * 12 + d)) (O (j * 12 + d)) (T (j * 12 + d)) (hO _)) (cwV 3 hts gX0_doAgain_X2_perform rfl rfl rfl (by decide +kernel) ⟨Nat.le_of_ble_eq_true rfl, Nat.le_of_ble_eq_true rfl⟩) 6 rfl rfl rfl [0] rfl hK hP hD hS hA [6, 7] [0, 1, 2, 3, 4, 5] rfl (by decide) rfl (by decide) (by decide) [0, 1, 2, 3, 4, 5, 6, 7] (by decide) (fun _ => rfl) (Nat.le_refl _) (Nat.le_refl _) (Nat.le_of_ble_eq_true rfl) (Nat.le_of_ble_eq_true rfl) rfl hl.1 (Nat.le_of_ble_eq_true rfl) (fun _ => rfl) rfl dX0_doAgain_43 (fun u H locs hu hP hD hS => ?_)
        refine lv_iinc (v := (nI (d + 1))) (lv' := [(4, .int (nI (d + 1))), (5, .int (nI (j * 12 + d))), (3, .int (nI (M j))), (0, .ref oL), (1, .int (nI j)), (2, .ref h)]) (k := 1) hx hb dX0_doAgain_46 hl rfl (nI_add d 1) (by decide) rfl (fun ls hl => ?_)
        refine lv_goto (tgt := 9) hx hb dX0_doAgain_49 (by decide) ?_
        exact ih_9 (d + 1) (by omega) (by omega) (by omega) (perf (againN K O T j f d) (K (j * 12 + d)) (O (j * 12 + d)) (T (j * 12 + d))) rfl _ _ hP hD hS ls (lv_sub hl [0, 2, 3, 4, 5] rfl)
  exact lp_9 ((M j) + 1) 0 (by omega) (by omega) (by omega) f rfl _ _ hP hD hS ls (lv_sub hl [0, 1, 2, 3, 4] rfl)

/-! 07a: the reference, what is inside (laid by wip/whole/gen) -/
/-- the ice of the other row behind the years before i -/
def thM (K : Nat → Int32) (O : Nat → Nat) (T : Nat → Int32) (M : Nat → Nat) (Y : Nat → Nat) (G : Nat → Int32) (nc k : Nat) (g : Nat → Int32) : Nat → Nat → Int32
  | 0 => g
  | i + 1 => if canP Y nc k i then replG K O T M Y G nc (thM K O T M Y G nc k g i) i else thM K O T M Y G nc k g i
def rmR (K : Nat → Int32) (O : Nat → Nat) (T : Nat → Int32) (M : Nat → Nat) (Y : Nat → Nat) (G : Nat → Int32) (nc k : Nat) (g : Nat → Int32) : Nat → Int32 × Int32
  | 0 => ((-1), (-1))
  | i + 1 => if canP Y nc k i ∧ (rmR K O T M Y G nc k g i).2 < sumZ (replG K O T M Y G nc (thM K O T M Y G nc k g i) i) 8 then (nI i, sumZ (replG K O T M Y G nc (thM K O T M Y G nc k g i) i) 8) else rmR K O T M Y G nc k g i
def costM (M Y : Nat → Nat) (nc more y : Nat) : Nat :=
  if y < more then sumM M (fromO Y (latO Y (nI y) nc)) (y - fromO Y (latO Y (nI y) nc)) else sumM M (max more (fromO Y (latO Y (nI y) nc))) (y - max more (fromO Y (latO Y (nI y) nc)))
def allM (M Y : Nat → Nat) (nc k more : Nat) : Nat → Nat
  | 0 => 0
  | i + 1 => if canP Y nc k i then allM M Y nc k more i + costM M Y nc more i else allM M Y nc k more i
theorem all_le {M Y : Nat → Nat} (nc k more : Nat) (hM : ∀ i, M i ≤ 12) (i : Nat) (hi : i ≤ 41) : allM M Y nc k more i ≤ 492 * i := by
  induction i with
  | zero => exact Nat.zero_le _
  | succ i ih =>
    have h1 := sumM_le hM (fromO Y (latO Y (nI i) nc)) (i - fromO Y (latO Y (nI i) nc))
    have h2 := sumM_le hM (max more (fromO Y (latO Y (nI i) nc))) (i - max more (fromO Y (latO Y (nI i) nc)))
    have h3 := ih (by omega)
    simp only [allM, costM]
    split
    · split <;> omega
    · omega
def cwR (M Y : Nat → Nat) (n nc k : Nat) : Nat → Int32 × Nat
  | 0 => ((-1), allM M Y nc k 0 (n + 1))
  | i + 1 => if canP Y nc k (i + 1) ∧ allM M Y nc k (i + 1) (n + 1) < (cwR M Y n nc k i).2 then (nI (i + 1), allM M Y nc k (i + 1) (n + 1)) else cwR M Y n nc k i
theorem cw_le {M Y : Nat → Nat} {n nc k : Nat} (hn : n ≤ 40) (hM : ∀ i, M i ≤ 12) (i : Nat) : (cwR M Y n nc k i).2 ≤ 21000 := by
  induction i with
  | zero => have h := all_le (Y := Y) nc k 0 hM (n + 1) (by omega); show allM M Y nc k 0 (n + 1) ≤ 21000; omega
  | succ i ih => simp only [cwR]; split
                 · have h := all_le (Y := Y) nc k (i + 1) hM (n + 1) (by omega); show allM M Y nc k (i + 1) (n + 1) ≤ 21000; omega
                 · exact ih
def corO (Y : Nat → Nat) (v : Int32) (nc : Nat) : Option Nat := fstO (fun i => decide (nI (Y i) = v)) 0 nc
theorem iu_X4_init_X4 : ∀ w ∈ wsX40, w ∈ wsX4_init := fun w h => (List.mem_cons_of_mem _ (List.mem_append_right _ h))
def rm_c_X4_init : Room := { frames := 1, cells := 10, slots := 1639, locals := 24 }
set_option maxHeartbeats 4000000 in
set_option maxRecDepth 100000 in
theorem c_X4_init (l : Launch) (D : va_G) (cI : ClassId) (cZ : ClassId) (z : Nat) :
    kM l yX4_init wsX4_init rm_c_X4_init D [(cI, FieldType.int), (cZ, FieldType.boolean)] [.ref z] [(z, .inr (4, [.int (nI 0), .null, .null, .null, .null, .null, .null, .null, .int (nI 0), .int (nI 0), .null, .null, .null]))] (fun _ : Nat × Nat × Nat × Nat × Nat × Nat × Nat × Nat × Nat × Nat => True) (fun u => none) (fun u => [(z, .inr (4, [.int (nI 0), .ref u.1, .ref u.2.1, .ref u.2.2.1, .ref u.2.2.2.1, .ref u.2.2.2.2.1, .ref u.2.2.2.2.2.1, .ref u.2.2.2.2.2.2.1, .int (nI 0), .int (nI 0), .ref u.2.2.2.2.2.2.2.1, .ref u.2.2.2.2.2.2.2.2.1, .ref u.2.2.2.2.2.2.2.2.2])), (u.1, .inl (cI, 8, .inl zF)), (u.2.1, .inl (cI, 480, .inl zF)), (u.2.2.1, .inl (cI, 480, .inl (nF zN))), (u.2.2.2.1, .inl (cI, 480, .inl zF)), (u.2.2.2.2.1, .inl (cI, 41, .inl (nF zN))), (u.2.2.2.2.2.1, .inl (cI, 40, .inl zF)), (u.2.2.2.2.2.2.1, .inl (cZ, 40, .inl (prF 0))), (u.2.2.2.2.2.2.2.1, .inl (cI, 6, .inl (nF zN))), (u.2.2.2.2.2.2.2.2.1, .inl (cI, 48, .inl zF)), (u.2.2.2.2.2.2.2.2.2, .inl (cI, 8, .inl zF))]) := by
  refine kM_of (cc := cX4_init) (maxL := 1) (ret := none) (own := RX4) (by decide) rfl rfl (Nat.le_of_ble_eq_true rfl) ?_
  intro p e s m args below meth c A ls Qz hx hb hml hr hts hown hlk hin hQ hA hS hP hD hK hl
  have hl : lv_has ls 1 [(0, .ref z)] := hl
  refine lv_aload_n hx hb dX4_init_0 rfl (lv_at hl 0 rfl) ?_
  refine W.objInit hx hb hown (hts _ (List.mem_of_getElem? (i := 1) rfl)) (hts _ (List.mem_of_getElem? (i := 2) rfl)) (hts _ (List.mem_of_getElem? (i := 3) rfl)) rfl (by rw [hml]; exact hl.1) rfl dX4_init_1 (Nat.le_of_ble_eq_true rfl) (Nat.le_of_ble_eq_true rfl) ?_
  refine W.eq (g2 := F0 m 4 ls []) rfl ?_
  refine lv_aload_n hx hb dX4_init_4 rfl (lv_at hl 0 rfl) ?_
  refine lv_bipush (v := (nI 8)) hx hb dX4_init_5 (by decide) ?_
  refine k_newa (ty := .int) (atype := .int) (cA := cI) (con := .inl zF) (k := 1) (n2 := 8) hx hb (hts _ (List.mem_of_getElem? (i := 4) rfl)) rfl hK 0 rfl hP hD hS hA (N9 := 8) (fun _ => rfl) (nI_clamp (by decide)) (by decide) (by decide) (Nat.le_refl _) (Nat.le_refl _) (Nat.le_of_ble_eq_true rfl) (Nat.le_of_ble_eq_true rfl) dX4_init_7 (fun q_1 H hP hD hS => ?_)
  have hP : va_P D vwCl [(z, .inr (4, [.int (nI 0), .null, .null, .null, .null, .null, .null, .null, .int (nI 0), .int (nI 0), .null, .null, .null])), (q_1, .inl (cI, 8, .inl zF))] H := hP
  have hD : va_D A [(z, .inr (4, [.int (nI 0), .null, .null, .null, .null, .null, .null, .null, .int (nI 0), .int (nI 0), .null, .null, .null])), (q_1, .inl (cI, 8, .inl zF))] := hD
  refine va_putF (D := D) (ci := 4) (v := .ref q_1) (ty := .array .int) (C := RX4) (T := TX4) (N := 13) hx hb hts iu_X4_init_X4 tyX4 tyX4_ok nmX4 hown hK hP hD hS 0 rfl rfl 1 (by decide) (hts _ (List.mem_of_getElem? (i := 5) rfl)) (fun _ h9 => h9) rfl (hin rfl) rfl (by decide +kernel) rfl rfl (Nat.le_of_ble_eq_true rfl) dX4_init_9 (fun H locs hP hD hS => ?_)
  have hP : va_P D vwCl [(z, .inr (4, [.int (nI 0), .ref q_1, .null, .null, .null, .null, .null, .null, .int (nI 0), .int (nI 0), .null, .null, .null])), (q_1, .inl (cI, 8, .inl zF))] H := hP
  have hD : va_D A [(z, .inr (4, [.int (nI 0), .ref q_1, .null, .null, .null, .null, .null, .null, .int (nI 0), .int (nI 0), .null, .null, .null])), (q_1, .inl (cI, 8, .inl zF))] := hD
  refine lv_aload_n hx hb dX4_init_12 rfl (lv_at hl 0 rfl) ?_
  refine lv_sipush (v := (nI 480)) hx hb dX4_init_13 (by decide) ?_
  refine k_newa (ty := .int) (atype := .int) (cA := cI) (con := .inl zF) (k := 2) (n2 := 488) hx hb (hts _ (List.mem_of_getElem? (i := 4) rfl)) rfl hK 0 rfl hP hD hS hA (N9 := 480) (fun _ => rfl) (nI_clamp (by decide)) (by decide) (by decide) (Nat.le_refl _) (Nat.le_refl _) (Nat.le_of_ble_eq_true rfl) (Nat.le_of_ble_eq_true rfl) dX4_init_16 (fun q_2 H hP hD hS => ?_)
  have hP : va_P D vwCl [(z, .inr (4, [.int (nI 0), .ref q_1, .null, .null, .null, .null, .null, .null, .int (nI 0), .int (nI 0), .null, .null, .null])), (q_1, .inl (cI, 8, .inl zF)), (q_2, .inl (cI, 480, .inl zF))] H := hP
  have hD : va_D A [(z, .inr (4, [.int (nI 0), .ref q_1, .null, .null, .null, .null, .null, .null, .int (nI 0), .int (nI 0), .null, .null, .null])), (q_1, .inl (cI, 8, .inl zF)), (q_2, .inl (cI, 480, .inl zF))] := hD
  refine va_putF (D := D) (ci := 4) (v := .ref q_2) (ty := .array .int) (C := RX4) (T := TX4) (N := 13) hx hb hts iu_X4_init_X4 tyX4 tyX4_ok nmX4 hown hK hP hD hS 0 rfl rfl 2 (by decide) (hts _ (List.mem_of_getElem? (i := 6) rfl)) (fun _ h9 => h9) rfl (hin rfl) rfl (by decide +kernel) rfl rfl (Nat.le_of_ble_eq_true rfl) dX4_init_18 (fun H locs hP hD hS => ?_)
  have hP : va_P D vwCl [(z, .inr (4, [.int (nI 0), .ref q_1, .ref q_2, .null, .null, .null, .null, .null, .int (nI 0), .int (nI 0), .null, .null, .null])), (q_1, .inl (cI, 8, .inl zF)), (q_2, .inl (cI, 480, .inl zF))] H := hP
  have hD : va_D A [(z, .inr (4, [.int (nI 0), .ref q_1, .ref q_2, .null, .null, .null, .null, .null, .int (nI 0), .int (nI 0), .null, .null, .null])), (q_1, .inl (cI, 8, .inl zF)), (q_2, .inl (cI, 480, .inl zF))] := hD
  refine lv_aload_n hx hb dX4_init_21 rfl (lv_at hl 0 rfl) ?_
  refine lv_sipush (v := (nI 480)) hx hb dX4_init_22 (by decide) ?_
  refine k_newa (ty := .int) (atype := .int) (cA := cI) (con := .inl zF) (k := 3) (n2 := 968) hx hb (hts _ (List.mem_of_getElem? (i := 4) rfl)) rfl hK 0 rfl hP hD hS hA (N9 := 480) (fun _ => rfl) (nI_clamp (by decide)) (by decide) (by decide) (Nat.le_refl _) (Nat.le_refl _) (Nat.le_of_ble_eq_true rfl) (Nat.le_of_ble_eq_true rfl) dX4_init_25 (fun q_3 H hP hD hS => ?_)
  have hP : va_P D vwCl [(z, .inr (4, [.int (nI 0), .ref q_1, .ref q_2, .null, .null, .null, .null, .null, .int (nI 0), .int (nI 0), .null, .null, .null])), (q_1, .inl (cI, 8, .inl zF)), (q_2, .inl (cI, 480, .inl zF)), (q_3, .inl (cI, 480, .inl zF))] H := hP
  have hD : va_D A [(z, .inr (4, [.int (nI 0), .ref q_1, .ref q_2, .null, .null, .null, .null, .null, .int (nI 0), .int (nI 0), .null, .null, .null])), (q_1, .inl (cI, 8, .inl zF)), (q_2, .inl (cI, 480, .inl zF)), (q_3, .inl (cI, 480, .inl zF))] := hD
  refine va_putF (D := D) (ci := 4) (v := .ref q_3) (ty := .array .int) (C := RX4) (T := TX4) (N := 13) hx hb hts iu_X4_init_X4 tyX4 tyX4_ok nmX4 hown hK hP hD hS 0 rfl rfl 3 (by decide) (hts _ (List.mem_of_getElem? (i := 7) rfl)) (fun _ h9 => h9) rfl (hin rfl) rfl (by decide +kernel) rfl rfl (Nat.le_of_ble_eq_true rfl) dX4_init_27 (fun H locs hP hD hS => ?_)
  have hP : va_P D vwCl [(z, .inr (4, [.int (nI 0), .ref q_1, .ref q_2, .ref q_3, .null, .null, .null, .null, .int (nI 0), .int (nI 0), .null, .null, .null])), (q_1, .inl (cI, 8, .inl zF)), (q_2, .inl (cI, 480, .inl zF)), (q_3, .inl (cI, 480, .inl zF))] H := hP
  have hD : va_D A [(z, .inr (4, [.int (nI 0), .ref q_1, .ref q_2, .ref q_3, .null, .null, .null, .null, .int (nI 0), .int (nI 0), .null, .null, .null])), (q_1, .inl (cI, 8, .inl zF)), (q_2, .inl (cI, 480, .inl zF)), (q_3, .inl (cI, 480, .inl zF))] := hD
  refine lv_aload_n hx hb dX4_init_30 rfl (lv_at hl 0 rfl) ?_
  refine lv_sipush (v := (nI 480)) hx hb dX4_init_31 (by decide) ?_
  refine k_newa (ty := .int) (atype := .int) (cA := cI) (con := .inl zF) (k := 4) (n2 := 1448) hx hb (hts _ (List.mem_of_getElem? (i := 4) rfl)) rfl hK 0 rfl hP hD hS hA (N9 := 480) (fun _ => rfl) (nI_clamp (by decide)) (by decide) (by decide) (Nat.le_refl _) (Nat.le_refl _) (Nat.le_of_ble_eq_true rfl) (Nat.le_of_ble_eq_true rfl) dX4_init_34 (fun q_4 H hP hD hS => ?_)
  have hP : va_P D vwCl [(z, .inr (4, [.int (nI 0), .ref q_1, .ref q_2, .ref q_3, .null, .null, .null, .null, .int (nI 0), .int (nI 0), .null, .null, .null])), (q_1, .inl (cI, 8, .inl zF)), (q_2, .inl (cI, 480, .inl zF)), (q_3, .inl (cI, 480, .inl zF)), (q_4, .inl (cI, 480, .inl zF))] H := hP
  have hD : va_D A [(z, .inr (4, [.int (nI 0), .ref q_1, .ref q_2, .ref q_3, .null, .null, .null, .null, .int (nI 0), .int (nI 0), .null, .null, .null])), (q_1, .inl (cI, 8, .inl zF)), (q_2, .inl (cI, 480, .inl zF)), (q_3, .inl (cI, 480, .inl zF)), (q_4, .inl (cI, 480, .inl zF))] := hD
  refine va_putF (D := D) (ci := 4) (v := .ref q_4) (ty := .array .int) (C := RX4) (T := TX4) (N := 13) hx hb hts iu_X4_init_X4 tyX4 tyX4_ok nmX4 hown hK hP hD hS 0 rfl rfl 4 (by decide) (hts _ (List.mem_of_getElem? (i := 8) rfl)) (fun _ h9 => h9) rfl (hin rfl) rfl (by decide +kernel) rfl rfl (Nat.le_of_ble_eq_true rfl) dX4_init_36 (fun H locs hP hD hS => ?_)
  have hP : va_P D vwCl [(z, .inr (4, [.int (nI 0), .ref q_1, .ref q_2, .ref q_3, .ref q_4, .null, .null, .null, .int (nI 0), .int (nI 0), .null, .null, .null])), (q_1, .inl (cI, 8, .inl zF)), (q_2, .inl (cI, 480, .inl zF)), (q_3, .inl (cI, 480, .inl zF)), (q_4, .inl (cI, 480, .inl zF))] H := hP
  have hD : va_D A [(z, .inr (4, [.int (nI 0), .ref q_1, .ref q_2, .ref q_3, .ref q_4, .null, .null, .null, .int (nI 0), .int (nI 0), .null, .null, .null])), (q_1, .inl (cI, 8, .inl zF)), (q_2, .inl (cI, 480, .inl zF)), (q_3, .inl (cI, 480, .inl zF)), (q_4, .inl (cI, 480, .inl zF))] := hD
  refine lv_aload_n hx hb dX4_init_39 rfl (lv_at hl 0 rfl) ?_
  refine lv_bipush (v := (nI 41)) hx hb dX4_init_40 (by decide) ?_
  refine k_newa (ty := .int) (atype := .int) (cA := cI) (con := .inl zF) (k := 5) (n2 := 1489) hx hb (hts _ (List.mem_of_getElem? (i := 4) rfl)) rfl hK 0 rfl hP hD hS hA (N9 := 41) (fun _ => rfl) (nI_clamp (by decide)) (by decide) (by decide) (Nat.le_refl _) (Nat.le_refl _) (Nat.le_of_ble_eq_true rfl) (Nat.le_of_ble_eq_true rfl) dX4_init_42 (fun q_5 H hP hD hS => ?_)
  have hP : va_P D vwCl [(z, .inr (4, [.int (nI 0), .ref q_1, .ref q_2, .ref q_3, .ref q_4, .null, .null, .null, .int (nI 0), .int (nI 0), .null, .null, .null])), (q_1, .inl (cI, 8, .inl zF)), (q_2, .inl (cI, 480, .inl zF)), (q_3, .inl (cI, 480, .inl zF)), (q_4, .inl (cI, 480, .inl zF)), (q_5, .inl (cI, 41, .inl zF))] H := hP
  have hD : va_D A [(z, .inr (4, [.int (nI 0), .ref q_1, .ref q_2, .ref q_3, .ref q_4, .null, .null, .null, .int (nI 0), .int (nI 0), .null, .null, .null])), (q_1, .inl (cI, 8, .inl zF)), (q_2, .inl (cI, 480, .inl zF)), (q_3, .inl (cI, 480, .inl zF)), (q_4, .inl (cI, 480, .inl zF)), (q_5, .inl (cI, 41, .inl zF))] := hD
  refine va_putF (D := D) (ci := 4) (v := .ref q_5) (ty := .array .int) (C := RX4) (T := TX4) (N := 13) hx hb hts iu_X4_init_X4 tyX4 tyX4_ok nmX4 hown hK hP hD hS 0 rfl rfl 5 (by decide) (hts _ (List.mem_of_getElem? (i := 9) rfl)) (fun _ h9 => h9) rfl (hin rfl) rfl (by decide +kernel) rfl rfl (Nat.le_of_ble_eq_true rfl) dX4_init_44 (fun H locs hP hD hS => ?_)
  have hP : va_P D vwCl [(z, .inr (4, [.int (nI 0), .ref q_1, .ref q_2, .ref q_3, .ref q_4, .ref q_5, .null, .null, .int (nI 0), .int (nI 0), .null, .null, .null])), (q_1, .inl (cI, 8, .inl zF)), (q_2, .inl (cI, 480, .inl zF)), (q_3, .inl (cI, 480, .inl zF)), (q_4, .inl (cI, 480, .inl zF)), (q_5, .inl (cI, 41, .inl zF))] H := hP
  have hD : va_D A [(z, .inr (4, [.int (nI 0), .ref q_1, .ref q_2, .ref q_3, .ref q_4, .ref q_5, .null, .null, .int (nI 0), .int (nI 0), .null, .null, .null])), (q_1, .inl (cI, 8, .inl zF)), (q_2, .inl (cI, 480, .inl zF)), (q_3, .inl (cI, 480, .inl zF)), (q_4, .inl (cI, 480, .inl zF)), (q_5, .inl (cI, 41, .inl zF))] := hD
  refine lv_aload_n hx hb dX4_init_47 rfl (lv_at hl 0 rfl) ?_
  refine lv_bipush (v := (nI 40)) hx hb dX4_init_48 (by decide) ?_
  refine k_newa (ty := .int) (atype := .int) (cA := cI) (con := .inl zF) (k := 6) (n2 := 1529) hx hb (hts _ (List.mem_of_getElem? (i := 4) rfl)) rfl hK 0 rfl hP hD hS hA (N9 := 40) (fun _ => rfl) (nI_clamp (by decide)) (by decide) (by decide) (Nat.le_refl _) (Nat.le_refl _) (Nat.le_of_ble_eq_true rfl) (Nat.le_of_ble_eq_true rfl) dX4_init_50 (fun q_6 H hP hD hS => ?_)
  have hP : va_P D vwCl [(z, .inr (4, [.int (nI 0), .ref q_1, .ref q_2, .ref q_3, .ref q_4, .ref q_5, .null, .null, .int (nI 0), .int (nI 0), .null, .null, .null])), (q_1, .inl (cI, 8, .inl zF)), (q_2, .inl (cI, 480, .inl zF)), (q_3, .inl (cI, 480, .inl zF)), (q_4, .inl (cI, 480, .inl zF)), (q_5, .inl (cI, 41, .inl zF)), (q_6, .inl (cI, 40, .inl zF))] H := hP
  have hD : va_D A [(z, .inr (4, [.int (nI 0), .ref q_1, .ref q_2, .ref q_3, .ref q_4, .ref q_5, .null, .null, .int (nI 0), .int (nI 0), .null, .null, .null])), (q_1, .inl (cI, 8, .inl zF)), (q_2, .inl (cI, 480, .inl zF)), (q_3, .inl (cI, 480, .inl zF)), (q_4, .inl (cI, 480, .inl zF)), (q_5, .inl (cI, 41, .inl zF)), (q_6, .inl (cI, 40, .inl zF))] := hD
  refine va_putF (D := D) (ci := 4) (v := .ref q_6) (ty := .array .int) (C := RX4) (T := TX4) (N := 13) hx hb hts iu_X4_init_X4 tyX4 tyX4_ok nmX4 hown hK hP hD hS 0 rfl rfl 6 (by decide) (hts _ (List.mem_of_getElem? (i := 10) rfl)) (fun _ h9 => h9) rfl (hin rfl) rfl (by decide +kernel) rfl rfl (Nat.le_of_ble_eq_true rfl) dX4_init_52 (fun H locs hP hD hS => ?_)
  have hP : va_P D vwCl [(z, .inr (4, [.int (nI 0), .ref q_1, .ref q_2, .ref q_3, .ref q_4, .ref q_5, .ref q_6, .null, .int (nI 0), .int (nI 0), .null, .null, .null])), (q_1, .inl (cI, 8, .inl zF)), (q_2, .inl (cI, 480, .inl zF)), (q_3, .inl (cI, 480, .inl zF)), (q_4, .inl (cI, 480, .inl zF)), (q_5, .inl (cI, 41, .inl zF)), (q_6, .inl (cI, 40, .inl zF))] H := hP
  have hD : va_D A [(z, .inr (4, [.int (nI 0), .ref q_1, .ref q_2, .ref q_3, .ref q_4, .ref q_5, .ref q_6, .null, .int (nI 0), .int (nI 0), .null, .null, .null])), (q_1, .inl (cI, 8, .inl zF)), (q_2, .inl (cI, 480, .inl zF)), (q_3, .inl (cI, 480, .inl zF)), (q_4, .inl (cI, 480, .inl zF)), (q_5, .inl (cI, 41, .inl zF)), (q_6, .inl (cI, 40, .inl zF))] := hD
  refine lv_aload_n hx hb dX4_init_55 rfl (lv_at hl 0 rfl) ?_
  refine lv_bipush (v := (nI 40)) hx hb dX4_init_56 (by decide) ?_
  refine k_newa (ty := .boolean) (atype := .boolean) (cA := cZ) (con := .inl zF) (k := 7) (n2 := 1569) hx hb (hts _ (List.mem_of_getElem? (i := 11) rfl)) rfl hK 1 rfl hP hD hS hA (N9 := 40) (fun _ => rfl) (nI_clamp (by decide)) (by decide) (by decide) (Nat.le_refl _) (Nat.le_refl _) (Nat.le_of_ble_eq_true rfl) (Nat.le_of_ble_eq_true rfl) dX4_init_58 (fun q_7 H hP hD hS => ?_)
  have hP : va_P D vwCl [(z, .inr (4, [.int (nI 0), .ref q_1, .ref q_2, .ref q_3, .ref q_4, .ref q_5, .ref q_6, .null, .int (nI 0), .int (nI 0), .null, .null, .null])), (q_1, .inl (cI, 8, .inl zF)), (q_2, .inl (cI, 480, .inl zF)), (q_3, .inl (cI, 480, .inl zF)), (q_4, .inl (cI, 480, .inl zF)), (q_5, .inl (cI, 41, .inl zF)), (q_6, .inl (cI, 40, .inl zF)), (q_7, .inl (cZ, 40, .inl zF))] H := hP
  have hD : va_D A [(z, .inr (4, [.int (nI 0), .ref q_1, .ref q_2, .ref q_3, .ref q_4, .ref q_5, .ref q_6, .null, .int (nI 0), .int (nI 0), .null, .null, .null])), (q_1, .inl (cI, 8, .inl zF)), (q_2, .inl (cI, 480, .inl zF)), (q_3, .inl (cI, 480, .inl zF)), (q_4, .inl (cI, 480, .inl zF)), (q_5, .inl (cI, 41, .inl zF)), (q_6, .inl (cI, 40, .inl zF)), (q_7, .inl (cZ, 40, .inl zF))] := hD
  refine va_putF (D := D) (ci := 4) (v := .ref q_7) (ty := .array .boolean) (C := RX4) (T := TX4) (N := 13) hx hb hts iu_X4_init_X4 tyX4 tyX4_ok nmX4 hown hK hP hD hS 0 rfl rfl 7 (by decide) (hts _ (List.mem_of_getElem? (i := 12) rfl)) (fun _ h9 => h9) rfl (hin rfl) rfl (by decide +kernel) rfl rfl (Nat.le_of_ble_eq_true rfl) dX4_init_60 (fun H locs hP hD hS => ?_)
  have hP : va_P D vwCl [(z, .inr (4, [.int (nI 0), .ref q_1, .ref q_2, .ref q_3, .ref q_4, .ref q_5, .ref q_6, .ref q_7, .int (nI 0), .int (nI 0), .null, .null, .null])), (q_1, .inl (cI, 8, .inl zF)), (q_2, .inl (cI, 480, .inl zF)), (q_3, .inl (cI, 480, .inl zF)), (q_4, .inl (cI, 480, .inl zF)), (q_5, .inl (cI, 41, .inl zF)), (q_6, .inl (cI, 40, .inl zF)), (q_7, .inl (cZ, 40, .inl zF))] H := hP
  have hD : va_D A [(z, .inr (4, [.int (nI 0), .ref q_1, .ref q_2, .ref q_3, .ref q_4, .ref q_5, .ref q_6, .ref q_7, .int (nI 0), .int (nI 0), .null, .null, .null])), (q_1, .inl (cI, 8, .inl zF)), (q_2, .inl (cI, 480, .inl zF)), (q_3, .inl (cI, 480, .inl zF)), (q_4, .inl (cI, 480, .inl zF)), (q_5, .inl (cI, 41, .inl zF)), (q_6, .inl (cI, 40, .inl zF)), (q_7, .inl (cZ, 40, .inl zF))] := hD
  refine lv_aload_n hx hb dX4_init_63 rfl (lv_at hl 0 rfl) ?_
  refine lv_bipush (v := (nI 6)) hx hb dX4_init_64 (by decide) ?_
  refine k_newa (ty := .int) (atype := .int) (cA := cI) (con := .inl zF) (k := 8) (n2 := 1575) hx hb (hts _ (List.mem_of_getElem? (i := 4) rfl)) rfl hK 0 rfl hP hD hS hA (N9 := 6) (fun _ => rfl) (nI_clamp (by decide)) (by decide) (by decide) (Nat.le_refl _) (Nat.le_refl _) (Nat.le_of_ble_eq_true rfl) (Nat.le_of_ble_eq_true rfl) dX4_init_66 (fun q_8 H hP hD hS => ?_)
  have hP : va_P D vwCl [(z, .inr (4, [.int (nI 0), .ref q_1, .ref q_2, .ref q_3, .ref q_4, .ref q_5, .ref q_6, .ref q_7, .int (nI 0), .int (nI 0), .null, .null, .null])), (q_1, .inl (cI, 8, .inl zF)), (q_2, .inl (cI, 480, .inl zF)), (q_3, .inl (cI, 480, .inl zF)), (q_4, .inl (cI, 480, .inl zF)), (q_5, .inl (cI, 41, .inl zF)), (q_6, .inl (cI, 40, .inl zF)), (q_7, .inl (cZ, 40, .inl zF)), (q_8, .inl (cI, 6, .inl zF))] H := hP
  have hD : va_D A [(z, .inr (4, [.int (nI 0), .ref q_1, .ref q_2, .ref q_3, .ref q_4, .ref q_5, .ref q_6, .ref q_7, .int (nI 0), .int (nI 0), .null, .null, .null])), (q_1, .inl (cI, 8, .inl zF)), (q_2, .inl (cI, 480, .inl zF)), (q_3, .inl (cI, 480, .inl zF)), (q_4, .inl (cI, 480, .inl zF)), (q_5, .inl (cI, 41, .inl zF)), (q_6, .inl (cI, 40, .inl zF)), (q_7, .inl (cZ, 40, .inl zF)), (q_8, .inl (cI, 6, .inl zF))] := hD
  refine va_putF (D := D) (ci := 4) (v := .ref q_8) (ty := .array .int) (C := RX4) (T := TX4) (N := 13) hx hb hts iu_X4_init_X4 tyX4 tyX4_ok nmX4 hown hK hP hD hS 0 rfl rfl 10 (by decide) (hts _ (List.mem_of_getElem? (i := 13) rfl)) (fun _ h9 => h9) rfl (hin rfl) rfl (by decide +kernel) rfl rfl (Nat.le_of_ble_eq_true rfl) dX4_init_68 (fun H locs hP hD hS => ?_)
  have hP : va_P D vwCl [(z, .inr (4, [.int (nI 0), .ref q_1, .ref q_2, .ref q_3, .ref q_4, .ref q_5, .ref q_6, .ref q_7, .int (nI 0), .int (nI 0), .ref q_8, .null, .null])), (q_1, .inl (cI, 8, .inl zF)), (q_2, .inl (cI, 480, .inl zF)), (q_3, .inl (cI, 480, .inl zF)), (q_4, .inl (cI, 480, .inl zF)), (q_5, .inl (cI, 41, .inl zF)), (q_6, .inl (cI, 40, .inl zF)), (q_7, .inl (cZ, 40, .inl zF)), (q_8, .inl (cI, 6, .inl zF))] H := hP
  have hD : va_D A [(z, .inr (4, [.int (nI 0), .ref q_1, .ref q_2, .ref q_3, .ref q_4, .ref q_5, .ref q_6, .ref q_7, .int (nI 0), .int (nI 0), .ref q_8, .null, .null])), (q_1, .inl (cI, 8, .inl zF)), (q_2, .inl (cI, 480, .inl zF)), (q_3, .inl (cI, 480, .inl zF)), (q_4, .inl (cI, 480, .inl zF)), (q_5, .inl (cI, 41, .inl zF)), (q_6, .inl (cI, 40, .inl zF)), (q_7, .inl (cZ, 40, .inl zF)), (q_8, .inl (cI, 6, .inl zF))] := hD
  refine lv_aload_n hx hb dX4_init_71 rfl (lv_at hl 0 rfl) ?_
  refine lv_bipush (v := (nI 48)) hx hb dX4_init_72 (by decide) ?_
  refine k_newa (ty := .int) (atype := .int) (cA := cI) (con := .inl zF) (k := 9) (n2 := 1623) hx hb (hts _ (List.mem_of_getElem? (i := 4) rfl)) rfl hK 0 rfl hP hD hS hA (N9 := 48) (fun _ => rfl) (nI_clamp (by decide)) (by decide) (by decide) (Nat.le_refl _) (Nat.le_refl _) (Nat.le_of_ble_eq_true rfl) (Nat.le_of_ble_eq_true rfl) dX4_init_74 (fun q_9 H hP hD hS => ?_)
  have hP : va_P D vwCl [(z, .inr (4, [.int (nI 0), .ref q_1, .ref q_2, .ref q_3, .ref q_4, .ref q_5, .ref q_6, .ref q_7, .int (nI 0), .int (nI 0), .ref q_8, .null, .null])), (q_1, .inl (cI, 8, .inl zF)), (q_2, .inl (cI, 480, .inl zF)), (q_3, .inl (cI, 480, .inl zF)), (q_4, .inl (cI, 480, .inl zF)), (q_5, .inl (cI, 41, .inl zF)), (q_6, .inl (cI, 40, .inl zF)), (q_7, .inl (cZ, 40, .inl zF)), (q_8, .inl (cI, 6, .inl zF)), (q_9, .inl (cI, 48, .inl zF))] H := hP
  have hD : va_D A [(z, .inr (4, [.int (nI 0), .ref q_1, .ref q_2, .ref q_3, .ref q_4, .ref q_5, .ref q_6, .ref q_7, .int (nI 0), .int (nI 0), .ref q_8, .null, .null])), (q_1, .inl (cI, 8, .inl zF)), (q_2, .inl (cI, 480, .inl zF)), (q_3, .inl (cI, 480, .inl zF)), (q_4, .inl (cI, 480, .inl zF)), (q_5, .inl (cI, 41, .inl zF)), (q_6, .inl (cI, 40, .inl zF)), (q_7, .inl (cZ, 40, .inl zF)), (q_8, .inl (cI, 6, .inl zF)), (q_9, .inl (cI, 48, .inl zF))] := hD
  refine va_putF (D := D) (ci := 4) (v := .ref q_9) (ty := .array .int) (C := RX4) (T := TX4) (N := 13) hx hb hts iu_X4_init_X4 tyX4 tyX4_ok nmX4 hown hK hP hD hS 0 rfl rfl 11 (by decide) (hts _ (List.mem_of_getElem? (i := 14) rfl)) (fun _ h9 => h9) rfl (hin rfl) rfl (by decide +kernel) rfl rfl (Nat.le_of_ble_eq_true rfl) dX4_init_76 (fun H locs hP hD hS => ?_)
  have hP : va_P D vwCl [(z, .inr (4, [.int (nI 0), .ref q_1, .ref q_2, .ref q_3, .ref q_4, .ref q_5, .ref q_6, .ref q_7, .int (nI 0), .int (nI 0), .ref q_8, .ref q_9, .null])), (q_1, .inl (cI, 8, .inl zF)), (q_2, .inl (cI, 480, .inl zF)), (q_3, .inl (cI, 480, .inl zF)), (q_4, .inl (cI, 480, .inl zF)), (q_5, .inl (cI, 41, .inl zF)), (q_6, .inl (cI, 40, .inl zF)), (q_7, .inl (cZ, 40, .inl zF)), (q_8, .inl (cI, 6, .inl zF)), (q_9, .inl (cI, 48, .inl zF))] H := hP
  have hD : va_D A [(z, .inr (4, [.int (nI 0), .ref q_1, .ref q_2, .ref q_3, .ref q_4, .ref q_5, .ref q_6, .ref q_7, .int (nI 0), .int (nI 0), .ref q_8, .ref q_9, .null])), (q_1, .inl (cI, 8, .inl zF)), (q_2, .inl (cI, 480, .inl zF)), (q_3, .inl (cI, 480, .inl zF)), (q_4, .inl (cI, 480, .inl zF)), (q_5, .inl (cI, 41, .inl zF)), (q_6, .inl (cI, 40, .inl zF)), (q_7, .inl (cZ, 40, .inl zF)), (q_8, .inl (cI, 6, .inl zF)), (q_9, .inl (cI, 48, .inl zF))] := hD
  refine lv_aload_n hx hb dX4_init_79 rfl (lv_at hl 0 rfl) ?_
  refine lv_bipush (v := (nI 8)) hx hb dX4_init_80 (by decide) ?_
  refine k_newa (ty := .int) (atype := .int) (cA := cI) (con := .inl zF) (k := 10) (n2 := 1631) hx hb (hts _ (List.mem_of_getElem? (i := 4) rfl)) rfl hK 0 rfl hP hD hS hA (N9 := 8) (fun _ => rfl) (nI_clamp (by decide)) (by decide) (by decide) (Nat.le_refl _) (Nat.le_refl _) (Nat.le_of_ble_eq_true rfl) (Nat.le_of_ble_eq_true rfl) dX4_init_82 (fun q_10 H hP hD hS => ?_)
  have hP : va_P D vwCl [(z, .inr (4, [.int (nI 0), .ref q_1, .ref q_2, .ref q_3, .ref q_4, .ref q_5, .ref q_6, .ref q_7, .int (nI 0), .int (nI 0), .ref q_8, .ref q_9, .null])), (q_1, .inl (cI, 8, .inl zF)), (q_2, .inl (cI, 480, .inl zF)), (q_3, .inl (cI, 480, .inl zF)), (q_4, .inl (cI, 480, .inl zF)), (q_5, .inl (cI, 41, .inl zF)), (q_6, .inl (cI, 40, .inl zF)), (q_7, .inl (cZ, 40, .inl zF)), (q_8, .inl (cI, 6, .inl zF)), (q_9, .inl (cI, 48, .inl zF)), (q_10, .inl (cI, 8, .inl zF))] H := hP
  have hD : va_D A [(z, .inr (4, [.int (nI 0), .ref q_1, .ref q_2, .ref q_3, .ref q_4, .ref q_5, .ref q_6, .ref q_7, .int (nI 0), .int (nI 0), .ref q_8, .ref q_9, .null])), (q_1, .inl (cI, 8, .inl zF)), (q_2, .inl (cI, 480, .inl zF)), (q_3, .inl (cI, 480, .inl zF)), (q_4, .inl (cI, 480, .inl zF)), (q_5, .inl (cI, 41, .inl zF)), (q_6, .inl (cI, 40, .inl zF)), (q_7, .inl (cZ, 40, .inl zF)), (q_8, .inl (cI, 6, .inl zF)), (q_9, .inl (cI, 48, .inl zF)), (q_10, .inl (cI, 8, .inl zF))] := hD
  refine va_putF (D := D) (ci := 4) (v := .ref q_10) (ty := .array .int) (C := RX4) (T := TX4) (N := 13) hx hb hts iu_X4_init_X4 tyX4 tyX4_ok nmX4 hown hK hP hD hS 0 rfl rfl 12 (by decide) (hts _ (List.mem_of_getElem? (i := 15) rfl)) (fun _ h9 => h9) rfl (hin rfl) rfl (by decide +kernel) rfl rfl (Nat.le_of_ble_eq_true rfl) dX4_init_84 (fun H locs hP hD hS => ?_)
  have hP : va_P D vwCl [(z, .inr (4, [.int (nI 0), .ref q_1, .ref q_2, .ref q_3, .ref q_4, .ref q_5, .ref q_6, .ref q_7, .int (nI 0), .int (nI 0), .ref q_8, .ref q_9, .ref q_10])), (q_1, .inl (cI, 8, .inl zF)), (q_2, .inl (cI, 480, .inl zF)), (q_3, .inl (cI, 480, .inl zF)), (q_4, .inl (cI, 480, .inl zF)), (q_5, .inl (cI, 41, .inl zF)), (q_6, .inl (cI, 40, .inl zF)), (q_7, .inl (cZ, 40, .inl zF)), (q_8, .inl (cI, 6, .inl zF)), (q_9, .inl (cI, 48, .inl zF)), (q_10, .inl (cI, 8, .inl zF))] H := hP
  have hD : va_D A [(z, .inr (4, [.int (nI 0), .ref q_1, .ref q_2, .ref q_3, .ref q_4, .ref q_5, .ref q_6, .ref q_7, .int (nI 0), .int (nI 0), .ref q_8, .ref q_9, .ref q_10])), (q_1, .inl (cI, 8, .inl zF)), (q_2, .inl (cI, 480, .inl zF)), (q_3, .inl (cI, 480, .inl zF)), (q_4, .inl (cI, 480, .inl zF)), (q_5, .inl (cI, 41, .inl zF)), (q_6, .inl (cI, 40, .inl zF)), (q_7, .inl (cZ, 40, .inl zF)), (q_8, .inl (cI, 6, .inl zF)), (q_9, .inl (cI, 48, .inl zF)), (q_10, .inl (cI, 8, .inl zF))] := hD
  exact kM_vret hx hb hr hlk hQ hP hD hK hS ⟨q_1, q_2, q_3, q_4, q_5, q_6, q_7, q_8, q_9, q_10⟩ (by rw [prF_0]; rfl) (Nat.le_of_ble_eq_true rfl) (Nat.le_of_ble_eq_true rfl) rfl trivial dX4_init_87
theorem iu_X4_thrown_X4 : ∀ w ∈ wsX40, w ∈ wsX4_thrown := fun w h => (List.mem_cons_of_mem _ (List.mem_append_right _ h))
def rm_c_X4_thrown : Room := { frames := 0, cells := 0, slots := 0, locals := 0 }
set_option maxHeartbeats 4000000 in
set_option maxRecDepth 100000 in
theorem c_X4_thrown (l : Launch) (D : va_G) (cI : ClassId) (cZ : ClassId) (z m1 m2 m3 m4 m5 m6 m7 m8 m9 m10 : Nat) (th : Int32) (f K : Nat → Int32) (O : Nat → Nat) (T : Nat → Int32) (M : Nat → Nat) (Z : Nat → Int32) (k n nc : Nat) (Y : Nat → Nat) (G g : Nat → Int32) :
    kM l yX4_thrown wsX4_thrown rm_c_X4_thrown D [(cI, FieldType.int), (cZ, FieldType.boolean)] [.ref z] [(z, .inr (4, [.int th, .ref m1, .ref m2, .ref m3, .ref m4, .ref m5, .ref m6, .ref m7, .int (nI n), .int (nI nc), .ref m8, .ref m9, .ref m10])), (m1, .inl (cI, 8, .inl f)), (m2, .inl (cI, 480, .inl K)), (m3, .inl (cI, 480, .inl (nF O))), (m4, .inl (cI, 480, .inl T)), (m5, .inl (cI, 41, .inl (nF M))), (m6, .inl (cI, 40, .inl Z)), (m7, .inl (cZ, 40, .inl (prF k))), (m8, .inl (cI, 6, .inl (nF Y))), (m9, .inl (cI, 48, .inl G)), (m10, .inl (cI, 8, .inl g))] (fun _ : Unit => True) (fun _ => some (.int th)) (fun _ => [(z, .inr (4, [.int th, .ref m1, .ref m2, .ref m3, .ref m4, .ref m5, .ref m6, .ref m7, .int (nI n), .int (nI nc), .ref m8, .ref m9, .ref m10])), (m1, .inl (cI, 8, .inl f)), (m2, .inl (cI, 480, .inl K)), (m3, .inl (cI, 480, .inl (nF O))), (m4, .inl (cI, 480, .inl T)), (m5, .inl (cI, 41, .inl (nF M))), (m6, .inl (cI, 40, .inl Z)), (m7, .inl (cZ, 40, .inl (prF k))), (m8, .inl (cI, 6, .inl (nF Y))), (m9, .inl (cI, 48, .inl G)), (m10, .inl (cI, 8, .inl g))]) := by
  refine kM_of (cc := cX4_thrown) (maxL := 1) (ret := (some .int)) (own := RX4) (by decide) rfl rfl (Nat.le_of_ble_eq_true rfl) ?_
  intro p e s m args below meth c A ls Qz hx hb hml hr hts hown hlk hin hQ hA hS hP hD hK hl
  have hl : lv_has ls 1 [(0, .ref z)] := hl
  refine lv_aload_n hx hb dX4_thrown_0 rfl (lv_at hl 0 rfl) ?_
  refine va_get (D := D) (ci := 4) (v := .int th) (C := RX4) (T := TX4) (N := 13) hx hb hts iu_X4_thrown_X4 hown hK hP 0 rfl rfl 0 (by decide) (hts _ (List.mem_of_getElem? (i := 1) rfl)) (fun _ h9 => h9) rfl dX4_thrown_1 ?_
  exact kM_iret hx hb hr hlk hQ hP hD hK hS () rfl (Nat.le_of_ble_eq_true rfl) (Nat.le_of_ble_eq_true rfl) rfl trivial dX4_thrown_4
theorem iu_X4_fail_X4 : ∀ w ∈ wsX40, w ∈ wsX4_fail := fun w h => (List.mem_cons_of_mem _ (List.mem_append_right _ h))
def rm_c_X4_fail : Room := { frames := 0, cells := 0, slots := 0, locals := 0 }
set_option maxHeartbeats 4000000 in
set_option maxRecDepth 100000 in
theorem c_X4_fail (l : Launch) (D : va_G) (cI : ClassId) (cZ : ClassId) (z m1 m2 m3 m4 m5 m6 m7 m8 m9 m10 : Nat) (th : Int32) (f K : Nat → Int32) (O : Nat → Nat) (T : Nat → Int32) (M : Nat → Nat) (Z : Nat → Int32) (k n nc : Nat) (Y : Nat → Nat) (G g : Nat → Int32) (v : Int32) :
    kM l yX4_fail wsX4_fail rm_c_X4_fail D [(cI, FieldType.int), (cZ, FieldType.boolean)] [.ref z, .int v] [(z, .inr (4, [.int th, .ref m1, .ref m2, .ref m3, .ref m4, .ref m5, .ref m6, .ref m7, .int (nI n), .int (nI nc), .ref m8, .ref m9, .ref m10])), (m1, .inl (cI, 8, .inl f)), (m2, .inl (cI, 480, .inl K)), (m3, .inl (cI, 480, .inl (nF O))), (m4, .inl (cI, 480, .inl T)), (m5, .inl (cI, 41, .inl (nF M))), (m6, .inl (cI, 40, .inl Z)), (m7, .inl (cZ, 40, .inl (prF k))), (m8, .inl (cI, 6, .inl (nF Y))), (m9, .inl (cI, 48, .inl G)), (m10, .inl (cI, 8, .inl g))] (fun _ : Unit => True) (fun _ => some (.int (nI 0))) (fun _ => [(z, .inr (4, [.int v, .ref m1, .ref m2, .ref m3, .ref m4, .ref m5, .ref m6, .ref m7, .int (nI n), .int (nI nc), .ref m8, .ref m9, .ref m10])), (m1, .inl (cI, 8, .inl f)), (m2, .inl (cI, 480, .inl K)), (m3, .inl (cI, 480, .inl (nF O))), (m4, .inl (cI, 480, .inl T)), (m5, .inl (cI, 41, .inl (nF M))), (m6, .inl (cI, 40, .inl Z)), (m7, .inl (cZ, 40, .inl (prF k))), (m8, .inl (cI, 6, .inl (nF Y))), (m9, .inl (cI, 48, .inl G)), (m10, .inl (cI, 8, .inl g))]) := by
  refine kM_of (cc := cX4_fail) (maxL := 2) (ret := (some .int)) (own := RX4) (by decide) rfl rfl (Nat.le_of_ble_eq_true rfl) ?_
  intro p e s m args below meth c A ls Qz hx hb hml hr hts hown hlk hin hQ hA hS hP hD hK hl
  have hl : lv_has ls 2 [(0, .ref z), (1, .int v)] := hl
  refine lv_aload_n hx hb dX4_fail_0 rfl (lv_at hl 0 rfl) ?_
  refine lv_iload_n hx hb dX4_fail_1 rfl (lv_at hl 1 rfl) ?_
  refine va_put (D := D) (ci := 4) (v := .int v) (ty := .int) (C := RX4) (T := TX4) (N := 13) hx hb hts iu_X4_fail_X4 tyX4 tyX4_ok nmX4 hown hK hP hD hS 0 rfl rfl 0 (by decide) (hts _ (List.mem_of_getElem? (i := 1) rfl)) (fun _ h9 => h9) rfl (by decide +kernel) rfl rfl (Nat.le_of_ble_eq_true rfl) dX4_fail_2 (fun H locs hP hD hS => ?_)
  have hP : va_P D vwCl [(z, .inr (4, [.int v, .ref m1, .ref m2, .ref m3, .ref m4, .ref m5, .ref m6, .ref m7, .int (nI n), .int (nI nc), .ref m8, .ref m9, .ref m10])), (m1, .inl (cI, 8, .inl f)), (m2, .inl (cI, 480, .inl K)), (m3, .inl (cI, 480, .inl (nF O))), (m4, .inl (cI, 480, .inl T)), (m5, .inl (cI, 41, .inl (nF M))), (m6, .inl (cI, 40, .inl Z)), (m7, .inl (cZ, 40, .inl (prF k))), (m8, .inl (cI, 6, .inl (nF Y))), (m9, .inl (cI, 48, .inl G)), (m10, .inl (cI, 8, .inl g))] H := hP
  have hD : va_D A [(z, .inr (4, [.int v, .ref m1, .ref m2, .ref m3, .ref m4, .ref m5, .ref m6, .ref m7, .int (nI n), .int (nI nc), .ref m8, .ref m9, .ref m10])), (m1, .inl (cI, 8, .inl f)), (m2, .inl (cI, 480, .inl K)), (m3, .inl (cI, 480, .inl (nF O))), (m4, .inl (cI, 480, .inl T)), (m5, .inl (cI, 41, .inl (nF M))), (m6, .inl (cI, 40, .inl Z)), (m7, .inl (cZ, 40, .inl (prF k))), (m8, .inl (cI, 6, .inl (nF Y))), (m9, .inl (cI, 48, .inl G)), (m10, .inl (cI, 8, .inl g))] := hD
  refine lv_iconst (v := (nI 0)) hx hb dX4_fail_5 (by decide) ?_
  exact kM_iret hx hb hr hlk hQ hP hD hK hS () rfl (Nat.le_of_ble_eq_true rfl) (Nat.le_of_ble_eq_true rfl) rfl trivial dX4_fail_6
theorem iu_X4_told_X4 : ∀ w ∈ wsX40, w ∈ wsX4_told := fun w h => (List.mem_cons_of_mem _ (List.mem_append_right _ h))
def rm_c_X4_told : Room := { frames := 0, cells := 0, slots := 0, locals := 0 }
set_option maxHeartbeats 4000000 in
set_option maxRecDepth 100000 in
theorem c_X4_told (l : Launch) (D : va_G) (cI : ClassId) (cZ : ClassId) (z m1 m2 m3 m4 m5 m6 m7 m8 m9 m10 : Nat) (th : Int32) (f K : Nat → Int32) (O : Nat → Nat) (T : Nat → Int32) (M : Nat → Nat) (Z : Nat → Int32) (k n nc : Nat) (Y : Nat → Nat) (G g : Nat → Int32) (v : Int32) :
    kM l yX4_told wsX4_told rm_c_X4_told D [(cI, FieldType.int), (cZ, FieldType.boolean)] [.ref z, .int v] [(z, .inr (4, [.int th, .ref m1, .ref m2, .ref m3, .ref m4, .ref m5, .ref m6, .ref m7, .int (nI n), .int (nI nc), .ref m8, .ref m9, .ref m10])), (m1, .inl (cI, 8, .inl f)), (m2, .inl (cI, 480, .inl K)), (m3, .inl (cI, 480, .inl (nF O))), (m4, .inl (cI, 480, .inl T)), (m5, .inl (cI, 41, .inl (nF M))), (m6, .inl (cI, 40, .inl Z)), (m7, .inl (cZ, 40, .inl (prF k))), (m8, .inl (cI, 6, .inl (nF Y))), (m9, .inl (cI, 48, .inl G)), (m10, .inl (cI, 8, .inl g))] (fun _ : Unit => True) (fun _ => some (.int v)) (fun _ => [(z, .inr (4, [.int (nI 0), .ref m1, .ref m2, .ref m3, .ref m4, .ref m5, .ref m6, .ref m7, .int (nI n), .int (nI nc), .ref m8, .ref m9, .ref m10])), (m1, .inl (cI, 8, .inl f)), (m2, .inl (cI, 480, .inl K)), (m3, .inl (cI, 480, .inl (nF O))), (m4, .inl (cI, 480, .inl T)), (m5, .inl (cI, 41, .inl (nF M))), (m6, .inl (cI, 40, .inl Z)), (m7, .inl (cZ, 40, .inl (prF k))), (m8, .inl (cI, 6, .inl (nF Y))), (m9, .inl (cI, 48, .inl G)), (m10, .inl (cI, 8, .inl g))]) := by
  refine kM_of (cc := cX4_told) (maxL := 2) (ret := (some .int)) (own := RX4) (by decide) rfl rfl (Nat.le_of_ble_eq_true rfl) ?_
  intro p e s m args below meth c A ls Qz hx hb hml hr hts hown hlk hin hQ hA hS hP hD hK hl
  have hl : lv_has ls 2 [(0, .ref z), (1, .int v)] := hl
  refine lv_aload_n hx hb dX4_told_0 rfl (lv_at hl 0 rfl) ?_
  refine lv_iconst (v := (nI 0)) hx hb dX4_told_1 (by decide) ?_
  refine va_put (D := D) (ci := 4) (v := .int (nI 0)) (ty := .int) (C := RX4) (T := TX4) (N := 13) hx hb hts iu_X4_told_X4 tyX4 tyX4_ok nmX4 hown hK hP hD hS 0 rfl rfl 0 (by decide) (hts _ (List.mem_of_getElem? (i := 1) rfl)) (fun _ h9 => h9) rfl (by decide +kernel) rfl rfl (Nat.le_of_ble_eq_true rfl) dX4_told_2 (fun H locs hP hD hS => ?_)
  have hP : va_P D vwCl [(z, .inr (4, [.int (nI 0), .ref m1, .ref m2, .ref m3, .ref m4, .ref m5, .ref m6, .ref m7, .int (nI n), .int (nI nc), .ref m8, .ref m9, .ref m10])), (m1, .inl (cI, 8, .inl f)), (m2, .inl (cI, 480, .inl K)), (m3, .inl (cI, 480, .inl (nF O))), (m4, .inl (cI, 480, .inl T)), (m5, .inl (cI, 41, .inl (nF M))), (m6, .inl (cI, 40, .inl Z)), (m7, .inl (cZ, 40, .inl (prF k))), (m8, .inl (cI, 6, .inl (nF Y))), (m9, .inl (cI, 48, .inl G)), (m10, .inl (cI, 8, .inl g))] H := hP
  have hD : va_D A [(z, .inr (4, [.int (nI 0), .ref m1, .ref m2, .ref m3, .ref m4, .ref m5, .ref m6, .ref m7, .int (nI n), .int (nI nc), .ref m8, .ref m9, .ref m10])), (m1, .inl (cI, 8, .inl f)), (m2, .inl (cI, 480, .inl K)), (m3, .inl (cI, 480, .inl (nF O))), (m4, .inl (cI, 480, .inl T)), (m5, .inl (cI, 41, .inl (nF M))), (m6, .inl (cI, 40, .inl Z)), (m7, .inl (cZ, 40, .inl (prF k))), (m8, .inl (cI, 6, .inl (nF Y))), (m9, .inl (cI, 48, .inl G)), (m10, .inl (cI, 8, .inl g))] := hD
  refine lv_iload_n hx hb dX4_told_5 rfl (lv_at hl 1 rfl) ?_
  exact kM_iret hx hb hr hlk hQ hP hD hK hS () rfl (Nat.le_of_ble_eq_true rfl) (Nat.le_of_ble_eq_true rfl) rfl trivial dX4_told_6
def rm_c_X4_isIn_t : Room := { frames := 0, cells := 0, slots := 0, locals := 0 }
set_option maxHeartbeats 4000000 in
set_option maxRecDepth 100000 in
theorem c_X4_isIn_t (l : Launch) (D : va_G) (cI : ClassId) (cZ : ClassId) (v lo hi : Int32) (hv1 : ¬ v < lo) (hv2 : ¬ hi < v) :
    kM l yX4_isIn wsX4_isIn rm_c_X4_isIn_t D [(cI, FieldType.int), (cZ, FieldType.boolean)] [.int v, .int lo, .int hi] [] (fun _ : Unit => True) (fun _ => some (.int (nI 1))) (fun _ => []) := by
  refine kM_of (cc := cX4_isIn) (maxL := 3) (ret := (some .boolean)) (own := RX4) (by decide) rfl rfl (Nat.le_of_ble_eq_true rfl) ?_
  intro p e s m args below meth c A ls Qz hx hb hml hr hts hown hlk hin hQ hA hS hP hD hK hl
  have hl : lv_has ls 3 [(0, .int v), (1, .int lo), (2, .int hi)] := hl
  refine lv_iload_n hx hb dX4_isIn_0 rfl (lv_at hl 0 rfl) ?_
  refine lv_iload_n hx hb dX4_isIn_1 rfl (lv_at hl 1 rfl) ?_
  refine lv_icmp_lt hx hb (tgt := 14) dX4_isIn_2 (by decide) (fun c_1 => (hv1 c_1 : False).elim) (fun c_1 => ?_)
  refine lv_iload_n hx hb dX4_isIn_5 rfl (lv_at hl 0 rfl) ?_
  refine lv_iload_n hx hb dX4_isIn_6 rfl (lv_at hl 2 rfl) ?_
  refine lv_icmp_gt hx hb (tgt := 14) dX4_isIn_7 (by decide) (fun c_2 => (hv2 c_2 : False).elim) (fun c_2 => ?_)
  refine lv_iconst (v := (nI 1)) hx hb dX4_isIn_10 (by decide) ?_
  refine lv_goto (tgt := 15) hx hb dX4_isIn_11 (by decide) ?_
  exact kM_zret hx hb hr hlk hQ hP hD hK hS () rfl (Nat.le_of_ble_eq_true rfl) (Nat.le_of_ble_eq_true rfl) (by decide) rfl trivial dX4_isIn_15
def rm_c_X4_isIn_f : Room := { frames := 0, cells := 0, slots := 0, locals := 0 }
set_option maxHeartbeats 4000000 in
set_option maxRecDepth 100000 in
theorem c_X4_isIn_f (l : Launch) (D : va_G) (cI : ClassId) (cZ : ClassId) (v lo hi : Int32) (hv : v < lo ∨ hi < v) :
    kM l yX4_isIn wsX4_isIn rm_c_X4_isIn_f D [(cI, FieldType.int), (cZ, FieldType.boolean)] [.int v, .int lo, .int hi] [] (fun _ : Unit => True) (fun _ => some (.int (nI 0))) (fun _ => []) := by
  refine kM_of (cc := cX4_isIn) (maxL := 3) (ret := (some .boolean)) (own := RX4) (by decide) rfl rfl (Nat.le_of_ble_eq_true rfl) ?_
  intro p e s m args below meth c A ls Qz hx hb hml hr hts hown hlk hin hQ hA hS hP hD hK hl
  have hl : lv_has ls 3 [(0, .int v), (1, .int lo), (2, .int hi)] := hl
  refine lv_iload_n hx hb dX4_isIn_0 rfl (lv_at hl 0 rfl) ?_
  refine lv_iload_n hx hb dX4_isIn_1 rfl (lv_at hl 1 rfl) ?_
  refine lv_icmp_lt hx hb (tgt := 14) dX4_isIn_2 (by decide) (fun c_1 => ?_) (fun c_1 => ?_)
  · refine lv_iconst (v := (nI 0)) hx hb dX4_isIn_14 (by decide) ?_
    exact kM_zret hx hb hr hlk hQ hP hD hK hS () rfl (Nat.le_of_ble_eq_true rfl) (Nat.le_of_ble_eq_true rfl) (by decide) rfl trivial dX4_isIn_15
  · have h0 := c_1
    refine lv_iload_n hx hb dX4_isIn_5 rfl (lv_at hl 0 rfl) ?_
    refine lv_iload_n hx hb dX4_isIn_6 rfl (lv_at hl 2 rfl) ?_
    refine lv_icmp_gt hx hb (tgt := 14) dX4_isIn_7 (by decide) (fun c_2 => ?_) (fun c_2 => (hv.elim h0 c_2 : False).elim)
    refine lv_iconst (v := (nI 0)) hx hb dX4_isIn_14 (by decide) ?_
    exact kM_zret hx hb hr hlk hQ hP hD hK hS () rfl (Nat.le_of_ble_eq_true rfl) (Nat.le_of_ble_eq_true rfl) (by decide) rfl trivial dX4_isIn_15
def rm_c_X4_isPlace_t : Room := { frames := 1, cells := 0, slots := 0, locals := 22 }
set_option maxHeartbeats 4000000 in
set_option maxRecDepth 100000 in
theorem c_X4_isPlace_t (l : Launch) (D : va_G) (cI : ClassId) (cZ : ClassId) (j : Nat) (hj : j < 8) :
    kM l yX4_isPlace wsX4_isPlace rm_c_X4_isPlace_t D [(cI, FieldType.int), (cZ, FieldType.boolean)] [.int (nI j)] [] (fun _ : Unit => True) (fun _ => some (.int (nI 1))) (fun _ => []) := by
  refine kM_of (cc := cX4_isPlace) (maxL := 1) (ret := (some .boolean)) (own := RX4) (by decide) rfl rfl (Nat.le_of_ble_eq_true rfl) ?_
  intro p e s m args below meth c A ls Qz hx hb hml hr hts hown hlk hin hQ hA hS hP hD hK hl
  have hl : lv_has ls 1 [(0, .int (nI j))] := hl
  refine lv_iload_n hx hb dX4_isPlace_0 rfl (lv_at hl 0 rfl) ?_
  refine lv_iconst (v := (nI 0)) hx hb dX4_isPlace_1 (by decide) ?_
  refine lv_bipush (v := (nI 7)) hx hb dX4_isPlace_2 (by decide) ?_
  refine kM_callS (As := [.int (nI j), .int (nI 0), .int (nI 7)]) (rest := []) (wr := []) (w2 := fun _ => []) (st2 := fun _ => [.int (nI 1)]) (k := 0) (n2 := 0) ⟨hx, hb, hml, hown, hts⟩ (c_X4_isIn_t l D cI cZ (nI j) (nI 0) (nI 7) (kNlt (by omega) (by omega)) (kNlt (by omega) (by omega))) (va_cwS 3 hts gX4_isPlace_X4_isIn rfl rfl rfl (by decide +kernel) ⟨Nat.le_of_ble_eq_true rfl, Nat.le_of_ble_eq_true rfl⟩) [0, 1] rfl hK hP hD hS hA [] [] rfl (by decide) rfl (by decide) (by decide) [] (by decide) (fun _ => rfl) (Nat.le_refl _) (Nat.le_refl _) (Nat.le_of_ble_eq_true rfl) (Nat.le_of_ble_eq_true rfl) rfl hl.1 (Nat.le_of_ble_eq_true rfl) (fun _ => rfl) rfl dX4_isPlace_4 (fun u H locs hu hP hD hS => ?_)
  exact kM_zret hx hb hr hlk hQ hP hD hK hS () rfl (Nat.le_of_ble_eq_true rfl) (Nat.le_of_ble_eq_true rfl) (by decide) rfl trivial dX4_isPlace_7
def rm_c_X4_isPlace_f : Room := { frames := 1, cells := 0, slots := 0, locals := 22 }
set_option maxHeartbeats 4000000 in
set_option maxRecDepth 100000 in
theorem c_X4_isPlace_f (l : Launch) (D : va_G) (cI : ClassId) (cZ : ClassId) (v : Int32) (hv : v < 0 ∨ ¬ v < nI 8) :
    kM l yX4_isPlace wsX4_isPlace rm_c_X4_isPlace_f D [(cI, FieldType.int), (cZ, FieldType.boolean)] [.int v] [] (fun _ : Unit => True) (fun _ => some (.int (nI 0))) (fun _ => []) := by
  refine kM_of (cc := cX4_isPlace) (maxL := 1) (ret := (some .boolean)) (own := RX4) (by decide) rfl rfl (Nat.le_of_ble_eq_true rfl) ?_
  intro p e s m args below meth c A ls Qz hx hb hml hr hts hown hlk hin hQ hA hS hP hD hK hl
  have hl : lv_has ls 1 [(0, .int v)] := hl
  refine lv_iload_n hx hb dX4_isPlace_0 rfl (lv_at hl 0 rfl) ?_
  refine lv_iconst (v := (nI 0)) hx hb dX4_isPlace_1 (by decide) ?_
  refine lv_bipush (v := (nI 7)) hx hb dX4_isPlace_2 (by decide) ?_
  refine kM_callS (As := [.int v, .int (nI 0), .int (nI 7)]) (rest := []) (wr := []) (w2 := fun _ => []) (st2 := fun _ => [.int (nI 0)]) (k := 0) (n2 := 0) ⟨hx, hb, hml, hown, hts⟩ (c_X4_isIn_f l D cI cZ v (nI 0) (nI 7) (hv.imp id (k_ge_gt (by decide)))) (va_cwS 3 hts gX4_isPlace_X4_isIn rfl rfl rfl (by decide +kernel) ⟨Nat.le_of_ble_eq_true rfl, Nat.le_of_ble_eq_true rfl⟩) [0, 1] rfl hK hP hD hS hA [] [] rfl (by decide) rfl (by decide) (by decide) [] (by decide) (fun _ => rfl) (Nat.le_refl _) (Nat.le_refl _) (Nat.le_of_ble_eq_true rfl) (Nat.le_of_ble_eq_true rfl) rfl hl.1 (Nat.le_of_ble_eq_true rfl) (fun _ => rfl) rfl dX4_isPlace_4 (fun u H locs hu hP hD hS => ?_)
  exact kM_zret hx hb hr hlk hQ hP hD hK hS () rfl (Nat.le_of_ble_eq_true rfl) (Nat.le_of_ble_eq_true rfl) (by decide) rfl trivial dX4_isPlace_7
theorem iu_X4_isLayer_X4 : ∀ w ∈ wsX40, w ∈ wsX4_isLayer := fun w h => (List.mem_cons_of_mem _ (List.mem_append_right _ h))
def rm_c_X4_isLayer_t : Room := { frames := 1, cells := 0, slots := 0, locals := 22 }
set_option maxHeartbeats 4000000 in
set_option maxRecDepth 100000 in
theorem c_X4_isLayer_t (l : Launch) (D : va_G) (cI : ClassId) (cZ : ClassId) (z m1 m2 m3 m4 m5 m6 m7 m8 m9 m10 : Nat) (th : Int32) (f K : Nat → Int32) (O : Nat → Nat) (T : Nat → Int32) (M : Nat → Nat) (Z : Nat → Int32) (k n nc : Nat) (Y : Nat → Nat) (G g : Nat → Int32) (j : Nat) (hn : n ≤ 40) (hk : k ≤ n) (hc : nc ≤ 6) (hM : ∀ i, M i ≤ 12) (hO : ∀ i, O i < 8) (hY : ∀ i, Y i ≤ 40) (hj : j < n) :
    kM l yX4_isLayer wsX4_isLayer rm_c_X4_isLayer_t D [(cI, FieldType.int), (cZ, FieldType.boolean)] [.ref z, .int (nI j)] [(z, .inr (4, [.int th, .ref m1, .ref m2, .ref m3, .ref m4, .ref m5, .ref m6, .ref m7, .int (nI n), .int (nI nc), .ref m8, .ref m9, .ref m10])), (m1, .inl (cI, 8, .inl f)), (m2, .inl (cI, 480, .inl K)), (m3, .inl (cI, 480, .inl (nF O))), (m4, .inl (cI, 480, .inl T)), (m5, .inl (cI, 41, .inl (nF M))), (m6, .inl (cI, 40, .inl Z)), (m7, .inl (cZ, 40, .inl (prF k))), (m8, .inl (cI, 6, .inl (nF Y))), (m9, .inl (cI, 48, .inl G)), (m10, .inl (cI, 8, .inl g))] (fun _ : Unit => True) (fun _ => some (.int (nI 1))) (fun _ => [(z, .inr (4, [.int th, .ref m1, .ref m2, .ref m3, .ref m4, .ref m5, .ref m6, .ref m7, .int (nI n), .int (nI nc), .ref m8, .ref m9, .ref m10])), (m1, .inl (cI, 8, .inl f)), (m2, .inl (cI, 480, .inl K)), (m3, .inl (cI, 480, .inl (nF O))), (m4, .inl (cI, 480, .inl T)), (m5, .inl (cI, 41, .inl (nF M))), (m6, .inl (cI, 40, .inl Z)), (m7, .inl (cZ, 40, .inl (prF k))), (m8, .inl (cI, 6, .inl (nF Y))), (m9, .inl (cI, 48, .inl G)), (m10, .inl (cI, 8, .inl g))]) := by
  refine kM_of (cc := cX4_isLayer) (maxL := 2) (ret := (some .boolean)) (own := RX4) (by decide) rfl rfl (Nat.le_of_ble_eq_true rfl) ?_
  intro p e s m args below meth c A ls Qz hx hb hml hr hts hown hlk hin hQ hA hS hP hD hK hl
  have hl : lv_has ls 2 [(0, .ref z), (1, .int (nI j))] := hl
  refine lv_iload_n hx hb dX4_isLayer_0 rfl (lv_at hl 1 rfl) ?_
  refine lv_iconst (v := (nI 0)) hx hb dX4_isLayer_1 (by decide) ?_
  refine lv_aload_n hx hb dX4_isLayer_2 rfl (lv_at hl 0 rfl) ?_
  refine va_get (D := D) (ci := 4) (v := .int (nI n)) (C := RX4) (T := TX4) (N := 13) hx hb hts iu_X4_isLayer_X4 hown hK hP 0 rfl rfl 8 (by decide) (hts _ (List.mem_of_getElem? (i := 1) rfl)) (fun _ h9 => h9) rfl dX4_isLayer_3 ?_
  refine lv_iconst (v := (nI 1)) hx hb dX4_isLayer_6 (by decide) ?_
  refine k_isub hx hb (by omega) dX4_isLayer_7 ?_
  refine kM_callS (As := [.int (nI j), .int (nI 0), .int (nI (n - 1))]) (rest := []) (wr := [(z, .inr (4, [.int th, .ref m1, .ref m2, .ref m3, .ref m4, .ref m5, .ref m6, .ref m7, .int (nI n), .int (nI nc), .ref m8, .ref m9, .ref m10])), (m1, .inl (cI, 8, .inl f)), (m2, .inl (cI, 480, .inl K)), (m3, .inl (cI, 480, .inl (nF O))), (m4, .inl (cI, 480, .inl T)), (m5, .inl (cI, 41, .inl (nF M))), (m6, .inl (cI, 40, .inl Z)), (m7, .inl (cZ, 40, .inl (prF k))), (m8, .inl (cI, 6, .inl (nF Y))), (m9, .inl (cI, 48, .inl G)), (m10, .inl (cI, 8, .inl g))]) (w2 := fun _ => [(z, .inr (4, [.int th, .ref m1, .ref m2, .ref m3, .ref m4, .ref m5, .ref m6, .ref m7, .int (nI n), .int (nI nc), .ref m8, .ref m9, .ref m10])), (m1, .inl (cI, 8, .inl f)), (m2, .inl (cI, 480, .inl K)), (m3, .inl (cI, 480, .inl (nF O))), (m4, .inl (cI, 480, .inl T)), (m5, .inl (cI, 41, .inl (nF M))), (m6, .inl (cI, 40, .inl Z)), (m7, .inl (cZ, 40, .inl (prF k))), (m8, .inl (cI, 6, .inl (nF Y))), (m9, .inl (cI, 48, .inl G)), (m10, .inl (cI, 8, .inl g))]) (st2 := fun _ => [.int (nI 1)]) (k := 0) (n2 := 0) ⟨hx, hb, hml, hown, hts⟩ (c_X4_isIn_t l D cI cZ (nI j) (nI 0) (nI (n - 1)) (kNlt (by omega) (by omega)) (kNlt (by omega) (by omega))) (va_cwS 3 hts gX4_isLayer_X4_isIn rfl rfl rfl (by decide +kernel) ⟨Nat.le_of_ble_eq_true rfl, Nat.le_of_ble_eq_true rfl⟩) [0, 1] rfl hK hP hD hS hA [] [0, 1, 2, 3, 4, 5, 6, 7, 8, 9, 10] rfl (by decide) rfl (by decide) (by decide) [0, 1, 2, 3, 4, 5, 6, 7, 8, 9, 10] (by decide) (fun _ => rfl) (Nat.le_refl _) (Nat.le_refl _) (Nat.le_of_ble_eq_true rfl) (Nat.le_of_ble_eq_true rfl) rfl hl.1 (Nat.le_of_ble_eq_true rfl) (fun _ => rfl) rfl dX4_isLayer_8 (fun u H locs hu hP hD hS => ?_)
  exact kM_zret hx hb hr hlk hQ hP hD hK hS () rfl (Nat.le_of_ble_eq_true rfl) (Nat.le_of_ble_eq_true rfl) (by decide) rfl trivial dX4_isLayer_11
def rm_c_X4_isLayer_f : Room := { frames := 1, cells := 0, slots := 0, locals := 22 }
set_option maxHeartbeats 4000000 in
set_option maxRecDepth 100000 in
theorem c_X4_isLayer_f (l : Launch) (D : va_G) (cI : ClassId) (cZ : ClassId) (z m1 m2 m3 m4 m5 m6 m7 m8 m9 m10 : Nat) (th : Int32) (f K : Nat → Int32) (O : Nat → Nat) (T : Nat → Int32) (M : Nat → Nat) (Z : Nat → Int32) (k n nc : Nat) (Y : Nat → Nat) (G g : Nat → Int32) (v : Int32) (hn : n ≤ 40) (hk : k ≤ n) (hc : nc ≤ 6) (hM : ∀ i, M i ≤ 12) (hO : ∀ i, O i < 8) (hY : ∀ i, Y i ≤ 40) (hv : v < 0 ∨ ¬ v < nI n) :
    kM l yX4_isLayer wsX4_isLayer rm_c_X4_isLayer_f D [(cI, FieldType.int), (cZ, FieldType.boolean)] [.ref z, .int v] [(z, .inr (4, [.int th, .ref m1, .ref m2, .ref m3, .ref m4, .ref m5, .ref m6, .ref m7, .int (nI n), .int (nI nc), .ref m8, .ref m9, .ref m10])), (m1, .inl (cI, 8, .inl f)), (m2, .inl (cI, 480, .inl K)), (m3, .inl (cI, 480, .inl (nF O))), (m4, .inl (cI, 480, .inl T)), (m5, .inl (cI, 41, .inl (nF M))), (m6, .inl (cI, 40, .inl Z)), (m7, .inl (cZ, 40, .inl (prF k))), (m8, .inl (cI, 6, .inl (nF Y))), (m9, .inl (cI, 48, .inl G)), (m10, .inl (cI, 8, .inl g))] (fun _ : Unit => True) (fun _ => some (.int (nI 0))) (fun _ => [(z, .inr (4, [.int th, .ref m1, .ref m2, .ref m3, .ref m4, .ref m5, .ref m6, .ref m7, .int (nI n), .int (nI nc), .ref m8, .ref m9, .ref m10])), (m1, .inl (cI, 8, .inl f)), (m2, .inl (cI, 480, .inl K)), (m3, .inl (cI, 480, .inl (nF O))), (m4, .inl (cI, 480, .inl T)), (m5, .inl (cI, 41, .inl (nF M))), (m6, .inl (cI, 40, .inl Z)), (m7, .inl (cZ, 40, .inl (prF k))), (m8, .inl (cI, 6, .inl (nF Y))), (m9, .inl (cI, 48, .inl G)), (m10, .inl (cI, 8, .inl g))]) := by
  refine kM_of (cc := cX4_isLayer) (maxL := 2) (ret := (some .boolean)) (own := RX4) (by decide) rfl rfl (Nat.le_of_ble_eq_true rfl) ?_
  intro p e s m args below meth c A ls Qz hx hb hml hr hts hown hlk hin hQ hA hS hP hD hK hl
  have hl : lv_has ls 2 [(0, .ref z), (1, .int v)] := hl
  refine lv_iload_n hx hb dX4_isLayer_0 rfl (lv_at hl 1 rfl) ?_
  refine lv_iconst (v := (nI 0)) hx hb dX4_isLayer_1 (by decide) ?_
  refine lv_aload_n hx hb dX4_isLayer_2 rfl (lv_at hl 0 rfl) ?_
  refine va_get (D := D) (ci := 4) (v := .int (nI n)) (C := RX4) (T := TX4) (N := 13) hx hb hts iu_X4_isLayer_X4 hown hK hP 0 rfl rfl 8 (by decide) (hts _ (List.mem_of_getElem? (i := 1) rfl)) (fun _ h9 => h9) rfl dX4_isLayer_3 ?_
  refine lv_iconst (v := (nI 1)) hx hb dX4_isLayer_6 (by decide) ?_
  refine lv_isub hx hb dX4_isLayer_7 ?_
  refine k_top (y := (nI n - nI 1)) rfl ?_
  refine kM_callS (As := [.int v, .int (nI 0), .int (nI n - nI 1)]) (rest := []) (wr := [(z, .inr (4, [.int th, .ref m1, .ref m2, .ref m3, .ref m4, .ref m5, .ref m6, .ref m7, .int (nI n), .int (nI nc), .ref m8, .ref m9, .ref m10])), (m1, .inl (cI, 8, .inl f)), (m2, .inl (cI, 480, .inl K)), (m3, .inl (cI, 480, .inl (nF O))), (m4, .inl (cI, 480, .inl T)), (m5, .inl (cI, 41, .inl (nF M))), (m6, .inl (cI, 40, .inl Z)), (m7, .inl (cZ, 40, .inl (prF k))), (m8, .inl (cI, 6, .inl (nF Y))), (m9, .inl (cI, 48, .inl G)), (m10, .inl (cI, 8, .inl g))]) (w2 := fun _ => [(z, .inr (4, [.int th, .ref m1, .ref m2, .ref m3, .ref m4, .ref m5, .ref m6, .ref m7, .int (nI n), .int (nI nc), .ref m8, .ref m9, .ref m10])), (m1, .inl (cI, 8, .inl f)), (m2, .inl (cI, 480, .inl K)), (m3, .inl (cI, 480, .inl (nF O))), (m4, .inl (cI, 480, .inl T)), (m5, .inl (cI, 41, .inl (nF M))), (m6, .inl (cI, 40, .inl Z)), (m7, .inl (cZ, 40, .inl (prF k))), (m8, .inl (cI, 6, .inl (nF Y))), (m9, .inl (cI, 48, .inl G)), (m10, .inl (cI, 8, .inl g))]) (st2 := fun _ => [.int (nI 0)]) (k := 0) (n2 := 0) ⟨hx, hb, hml, hown, hts⟩ (c_X4_isIn_f l D cI cZ v (nI 0) (nI n - nI 1) (hv.imp id (k_pred_gt (by omega)))) (va_cwS 3 hts gX4_isLayer_X4_isIn rfl rfl rfl (by decide +kernel) ⟨Nat.le_of_ble_eq_true rfl, Nat.le_of_ble_eq_true rfl⟩) [0, 1] rfl hK hP hD hS hA [] [0, 1, 2, 3, 4, 5, 6, 7, 8, 9, 10] rfl (by decide) rfl (by decide) (by decide) [0, 1, 2, 3, 4, 5, 6, 7, 8, 9, 10] (by decide) (fun _ => rfl) (Nat.le_refl _) (Nat.le_refl _) (Nat.le_of_ble_eq_true rfl) (Nat.le_of_ble_eq_true rfl) rfl hl.1 (Nat.le_of_ble_eq_true rfl) (fun _ => rfl) rfl dX4_isLayer_8 (fun u H locs hu hP hD hS => ?_)
  exact kM_zret hx hb hr hlk hQ hP hD hK hS () rfl (Nat.le_of_ble_eq_true rfl) (Nat.le_of_ble_eq_true rfl) (by decide) rfl trivial dX4_isLayer_11
theorem iu_X4_isYear_X4 : ∀ w ∈ wsX40, w ∈ wsX4_isYear := fun w h => (List.mem_cons_of_mem _ (List.mem_append_right _ h))
def rm_c_X4_isYear_t : Room := { frames := 1, cells := 0, slots := 0, locals := 22 }
set_option maxHeartbeats 4000000 in
set_option maxRecDepth 100000 in
theorem c_X4_isYear_t (l : Launch) (D : va_G) (cI : ClassId) (cZ : ClassId) (z m1 m2 m3 m4 m5 m6 m7 m8 m9 m10 : Nat) (th : Int32) (f K : Nat → Int32) (O : Nat → Nat) (T : Nat → Int32) (M : Nat → Nat) (Z : Nat → Int32) (k n nc : Nat) (Y : Nat → Nat) (G g : Nat → Int32) (y : Nat) (hn : n ≤ 40) (hk : k ≤ n) (hc : nc ≤ 6) (hM : ∀ i, M i ≤ 12) (hO : ∀ i, O i < 8) (hY : ∀ i, Y i ≤ 40) (hy : y ≤ n) :
    kM l yX4_isYear wsX4_isYear rm_c_X4_isYear_t D [(cI, FieldType.int), (cZ, FieldType.boolean)] [.ref z, .int (nI y)] [(z, .inr (4, [.int th, .ref m1, .ref m2, .ref m3, .ref m4, .ref m5, .ref m6, .ref m7, .int (nI n), .int (nI nc), .ref m8, .ref m9, .ref m10])), (m1, .inl (cI, 8, .inl f)), (m2, .inl (cI, 480, .inl K)), (m3, .inl (cI, 480, .inl (nF O))), (m4, .inl (cI, 480, .inl T)), (m5, .inl (cI, 41, .inl (nF M))), (m6, .inl (cI, 40, .inl Z)), (m7, .inl (cZ, 40, .inl (prF k))), (m8, .inl (cI, 6, .inl (nF Y))), (m9, .inl (cI, 48, .inl G)), (m10, .inl (cI, 8, .inl g))] (fun _ : Unit => True) (fun _ => some (.int (nI 1))) (fun _ => [(z, .inr (4, [.int th, .ref m1, .ref m2, .ref m3, .ref m4, .ref m5, .ref m6, .ref m7, .int (nI n), .int (nI nc), .ref m8, .ref m9, .ref m10])), (m1, .inl (cI, 8, .inl f)), (m2, .inl (cI, 480, .inl K)), (m3, .inl (cI, 480, .inl (nF O))), (m4, .inl (cI, 480, .inl T)), (m5, .inl (cI, 41, .inl (nF M))), (m6, .inl (cI, 40, .inl Z)), (m7, .inl (cZ, 40, .inl (prF k))), (m8, .inl (cI, 6, .inl (nF Y))), (m9, .inl (cI, 48, .inl G)), (m10, .inl (cI, 8, .inl g))]) := by
  refine kM_of (cc := cX4_isYear) (maxL := 2) (ret := (some .boolean)) (own := RX4) (by decide) rfl rfl (Nat.le_of_ble_eq_true rfl) ?_
  intro p e s m args below meth c A ls Qz hx hb hml hr hts hown hlk hin hQ hA hS hP hD hK hl
  have hl : lv_has ls 2 [(0, .ref z), (1, .int (nI y))] := hl
  refine lv_iload_n hx hb dX4_isYear_0 rfl (lv_at hl 1 rfl) ?_
  refine lv_iconst (v := (nI 0)) hx hb dX4_isYear_1 (by decide) ?_
  refine lv_aload_n hx hb dX4_isYear_2 rfl (lv_at hl 0 rfl) ?_
  refine va_get (D := D) (ci := 4) (v := .int (nI n)) (C := RX4) (T := TX4) (N := 13) hx hb hts iu_X4_isYear_X4 hown hK hP 0 rfl rfl 8 (by decide) (hts _ (List.mem_of_getElem? (i := 1) rfl)) (fun _ h9 => h9) rfl dX4_isYear_3 ?_
  refine kM_callS (As := [.int (nI y), .int (nI 0), .int (nI n)]) (rest := []) (wr := [(z, .inr (4, [.int th, .ref m1, .ref m2, .ref m3, .ref m4, .ref m5, .ref m6, .ref m7, .int (nI n), .int (nI nc), .ref m8, .ref m9, .ref m10])), (m1, .inl (cI, 8, .inl f)), (m2, .inl (cI, 480, .inl K)), (m3, .inl (cI, 480, .inl (nF O))), (m4, .inl (cI, 480, .inl T)), (m5, .inl (cI, 41, .inl (nF M))), (m6, .inl (cI, 40, .inl Z)), (m7, .inl (cZ, 40, .inl (prF k))), (m8, .inl (cI, 6, .inl (nF Y))), (m9, .inl (cI, 48, .inl G)), (m10, .inl (cI, 8, .inl g))]) (w2 := fun _ => [(z, .inr (4, [.int th, .ref m1, .ref m2, .ref m3, .ref m4, .ref m5, .ref m6, .ref m7, .int (nI n), .int (nI nc), .ref m8, .ref m9, .ref m10])), (m1, .inl (cI, 8, .inl f)), (m2, .inl (cI, 480, .inl K)), (m3, .inl (cI, 480, .inl (nF O))), (m4, .inl (cI, 480, .inl T)), (m5, .inl (cI, 41, .inl (nF M))), (m6, .inl (cI, 40, .inl Z)), (m7, .inl (cZ, 40, .inl (prF k))), (m8, .inl (cI, 6, .inl (nF Y))), (m9, .inl (cI, 48, .inl G)), (m10, .inl (cI, 8, .inl g))]) (st2 := fun _ => [.int (nI 1)]) (k := 0) (n2 := 0) ⟨hx, hb, hml, hown, hts⟩ (c_X4_isIn_t l D cI cZ (nI y) (nI 0) (nI n) (kNlt (by omega) (by omega)) (kNlt (by omega) (by omega))) (va_cwS 3 hts gX4_isYear_X4_isIn rfl rfl rfl (by decide +kernel) ⟨Nat.le_of_ble_eq_true rfl, Nat.le_of_ble_eq_true rfl⟩) [0, 1] rfl hK hP hD hS hA [] [0, 1, 2, 3, 4, 5, 6, 7, 8, 9, 10] rfl (by decide) rfl (by decide) (by decide) [0, 1, 2, 3, 4, 5, 6, 7, 8, 9, 10] (by decide) (fun _ => rfl) (Nat.le_refl _) (Nat.le_refl _) (Nat.le_of_ble_eq_true rfl) (Nat.le_of_ble_eq_true rfl) rfl hl.1 (Nat.le_of_ble_eq_true rfl) (fun _ => rfl) rfl dX4_isYear_6 (fun u H locs hu hP hD hS => ?_)
  exact kM_zret hx hb hr hlk hQ hP hD hK hS () rfl (Nat.le_of_ble_eq_true rfl) (Nat.le_of_ble_eq_true rfl) (by decide) rfl trivial dX4_isYear_9
def rm_c_X4_isYear_f : Room := { frames := 1, cells := 0, slots := 0, locals := 22 }
set_option maxHeartbeats 4000000 in
set_option maxRecDepth 100000 in
theorem c_X4_isYear_f (l : Launch) (D : va_G) (cI : ClassId) (cZ : ClassId) (z m1 m2 m3 m4 m5 m6 m7 m8 m9 m10 : Nat) (th : Int32) (f K : Nat → Int32) (O : Nat → Nat) (T : Nat → Int32) (M : Nat → Nat) (Z : Nat → Int32) (k n nc : Nat) (Y : Nat → Nat) (G g : Nat → Int32) (v : Int32) (hn : n ≤ 40) (hk : k ≤ n) (hc : nc ≤ 6) (hM : ∀ i, M i ≤ 12) (hO : ∀ i, O i < 8) (hY : ∀ i, Y i ≤ 40) (hv : v < 0 ∨ ¬ v ≤ nI n) :
    kM l yX4_isYear wsX4_isYear rm_c_X4_isYear_f D [(cI, FieldType.int), (cZ, FieldType.boolean)] [.ref z, .int v] [(z, .inr (4, [.int th, .ref m1, .ref m2, .ref m3, .ref m4, .ref m5, .ref m6, .ref m7, .int (nI n), .int (nI nc), .ref m8, .ref m9, .ref m10])), (m1, .inl (cI, 8, .inl f)), (m2, .inl (cI, 480, .inl K)), (m3, .inl (cI, 480, .inl (nF O))), (m4, .inl (cI, 480, .inl T)), (m5, .inl (cI, 41, .inl (nF M))), (m6, .inl (cI, 40, .inl Z)), (m7, .inl (cZ, 40, .inl (prF k))), (m8, .inl (cI, 6, .inl (nF Y))), (m9, .inl (cI, 48, .inl G)), (m10, .inl (cI, 8, .inl g))] (fun _ : Unit => True) (fun _ => some (.int (nI 0))) (fun _ => [(z, .inr (4, [.int th, .ref m1, .ref m2, .ref m3, .ref m4, .ref m5, .ref m6, .ref m7, .int (nI n), .int (nI nc), .ref m8, .ref m9, .ref m10])), (m1, .inl (cI, 8, .inl f)), (m2, .inl (cI, 480, .inl K)), (m3, .inl (cI, 480, .inl (nF O))), (m4, .inl (cI, 480, .inl T)), (m5, .inl (cI, 41, .inl (nF M))), (m6, .inl (cI, 40, .inl Z)), (m7, .inl (cZ, 40, .inl (prF k))), (m8, .inl (cI, 6, .inl (nF Y))), (m9, .inl (cI, 48, .inl G)), (m10, .inl (cI, 8, .inl g))]) := by
  refine kM_of (cc := cX4_isYear) (maxL := 2) (ret := (some .boolean)) (own := RX4) (by decide) rfl rfl (Nat.le_of_ble_eq_true rfl) ?_
  intro p e s m args below meth c A ls Qz hx hb hml hr hts hown hlk hin hQ hA hS hP hD hK hl
  have hl : lv_has ls 2 [(0, .ref z), (1, .int v)] := hl
  refine lv_iload_n hx hb dX4_isYear_0 rfl (lv_at hl 1 rfl) ?_
  refine lv_iconst (v := (nI 0)) hx hb dX4_isYear_1 (by decide) ?_
  refine lv_aload_n hx hb dX4_isYear_2 rfl (lv_at hl 0 rfl) ?_
  refine va_get (D := D) (ci := 4) (v := .int (nI n)) (C := RX4) (T := TX4) (N := 13) hx hb hts iu_X4_isYear_X4 hown hK hP 0 rfl rfl 8 (by decide) (hts _ (List.mem_of_getElem? (i := 1) rfl)) (fun _ h9 => h9) rfl dX4_isYear_3 ?_
  refine kM_callS (As := [.int v, .int (nI 0), .int (nI n)]) (rest := []) (wr := [(z, .inr (4, [.int th, .ref m1, .ref m2, .ref m3, .ref m4, .ref m5, .ref m6, .ref m7, .int (nI n), .int (nI nc), .ref m8, .ref m9, .ref m10])), (m1, .inl (cI, 8, .inl f)), (m2, .inl (cI, 480, .inl K)), (m3, .inl (cI, 480, .inl (nF O))), (m4, .inl (cI, 480, .inl T)), (m5, .inl (cI, 41, .inl (nF M))), (m6, .inl (cI, 40, .inl Z)), (m7, .inl (cZ, 40, .inl (prF k))), (m8, .inl (cI, 6, .inl (nF Y))), (m9, .inl (cI, 48, .inl G)), (m10, .inl (cI, 8, .inl g))]) (w2 := fun _ => [(z, .inr (4, [.int th, .ref m1, .ref m2, .ref m3, .ref m4, .ref m5, .ref m6, .ref m7, .int (nI n), .int (nI nc), .ref m8, .ref m9, .ref m10])), (m1, .inl (cI, 8, .inl f)), (m2, .inl (cI, 480, .inl K)), (m3, .inl (cI, 480, .inl (nF O))), (m4, .inl (cI, 480, .inl T)), (m5, .inl (cI, 41, .inl (nF M))), (m6, .inl (cI, 40, .inl Z)), (m7, .inl (cZ, 40, .inl (prF k))), (m8, .inl (cI, 6, .inl (nF Y))), (m9, .inl (cI, 48, .inl G)), (m10, .inl (cI, 8, .inl g))]) (st2 := fun _ => [.int (nI 0)]) (k := 0) (n2 := 0) ⟨hx, hb, hml, hown, hts⟩ (c_X4_isIn_f l D cI cZ v (nI 0) (nI n) (hv.imp id k_nle_gt)) (va_cwS 3 hts gX4_isYear_X4_isIn rfl rfl rfl (by decide +kernel) ⟨Nat.le_of_ble_eq_true rfl, Nat.le_of_ble_eq_true rfl⟩) [0, 1] rfl hK hP hD hS hA [] [0, 1, 2, 3, 4, 5, 6, 7, 8, 9, 10] rfl (by decide) rfl (by decide) (by decide) [0, 1, 2, 3, 4, 5, 6, 7, 8, 9, 10] (by decide) (fun _ => rfl) (Nat.le_refl _) (Nat.le_refl _) (Nat.le_of_ble_eq_true rfl) (Nat.le_of_ble_eq_true rfl) rfl hl.1 (Nat.le_of_ble_eq_true rfl) (fun _ => rfl) rfl dX4_isYear_6 (fun u H locs hu hP hD hS => ?_)
  exact kM_zret hx hb hr hlk hQ hP hD hK hS () rfl (Nat.le_of_ble_eq_true rfl) (Nat.le_of_ble_eq_true rfl) (by decide) rfl trivial dX4_isYear_9
theorem iu_X4_isCore_X4 : ∀ w ∈ wsX40, w ∈ wsX4_isCore := fun w h => (List.mem_cons_of_mem _ (List.mem_append_right _ h))
def rm_c_X4_isCore_t : Room := { frames := 1, cells := 0, slots := 0, locals := 22 }
set_option maxHeartbeats 4000000 in
set_option maxRecDepth 100000 in
theorem c_X4_isCore_t (l : Launch) (D : va_G) (cI : ClassId) (cZ : ClassId) (z m1 m2 m3 m4 m5 m6 m7 m8 m9 m10 : Nat) (th : Int32) (f K : Nat → Int32) (O : Nat → Nat) (T : Nat → Int32) (M : Nat → Nat) (Z : Nat → Int32) (k n nc : Nat) (Y : Nat → Nat) (G g : Nat → Int32) (j : Nat) (hn : n ≤ 40) (hk : k ≤ n) (hc : nc ≤ 6) (hM : ∀ i, M i ≤ 12) (hO : ∀ i, O i < 8) (hY : ∀ i, Y i ≤ 40) (hj : j < nc) :
    kM l yX4_isCore wsX4_isCore rm_c_X4_isCore_t D [(cI, FieldType.int), (cZ, FieldType.boolean)] [.ref z, .int (nI j)] [(z, .inr (4, [.int th, .ref m1, .ref m2, .ref m3, .ref m4, .ref m5, .ref m6, .ref m7, .int (nI n), .int (nI nc), .ref m8, .ref m9, .ref m10])), (m1, .inl (cI, 8, .inl f)), (m2, .inl (cI, 480, .inl K)), (m3, .inl (cI, 480, .inl (nF O))), (m4, .inl (cI, 480, .inl T)), (m5, .inl (cI, 41, .inl (nF M))), (m6, .inl (cI, 40, .inl Z)), (m7, .inl (cZ, 40, .inl (prF k))), (m8, .inl (cI, 6, .inl (nF Y))), (m9, .inl (cI, 48, .inl G)), (m10, .inl (cI, 8, .inl g))] (fun _ : Unit => True) (fun _ => some (.int (nI 1))) (fun _ => [(z, .inr (4, [.int th, .ref m1, .ref m2, .ref m3, .ref m4, .ref m5, .ref m6, .ref m7, .int (nI n), .int (nI nc), .ref m8, .ref m9, .ref m10])), (m1, .inl (cI, 8, .inl f)), (m2, .inl (cI, 480, .inl K)), (m3, .inl (cI, 480, .inl (nF O))), (m4, .inl (cI, 480, .inl T)), (m5, .inl (cI, 41, .inl (nF M))), (m6, .inl (cI, 40, .inl Z)), (m7, .inl (cZ, 40, .inl (prF k))), (m8, .inl (cI, 6, .inl (nF Y))), (m9, .inl (cI, 48, .inl G)), (m10, .inl (cI, 8, .inl g))]) := by
  refine kM_of (cc := cX4_isCore) (maxL := 2) (ret := (some .boolean)) (own := RX4) (by decide) rfl rfl (Nat.le_of_ble_eq_true rfl) ?_
  intro p e s m args below meth c A ls Qz hx hb hml hr hts hown hlk hin hQ hA hS hP hD hK hl
  have hl : lv_has ls 2 [(0, .ref z), (1, .int (nI j))] := hl
  refine lv_iload_n hx hb dX4_isCore_0 rfl (lv_at hl 1 rfl) ?_
  refine lv_iconst (v := (nI 0)) hx hb dX4_isCore_1 (by decide) ?_
  refine lv_aload_n hx hb dX4_isCore_2 rfl (lv_at hl 0 rfl) ?_
  refine va_get (D := D) (ci := 4) (v := .int (nI nc)) (C := RX4) (T := TX4) (N := 13) hx hb hts iu_X4_isCore_X4 hown hK hP 0 rfl rfl 9 (by decide) (hts _ (List.mem_of_getElem? (i := 1) rfl)) (fun _ h9 => h9) rfl dX4_isCore_3 ?_
  refine lv_iconst (v := (nI 1)) hx hb dX4_isCore_6 (by decide) ?_
  refine k_isub hx hb (by omega) dX4_isCore_7 ?_
  refine kM_callS (As := [.int (nI j), .int (nI 0), .int (nI (nc - 1))]) (rest := []) (wr := [(z, .inr (4, [.int th, .ref m1, .ref m2, .ref m3, .ref m4, .ref m5, .ref m6, .ref m7, .int (nI n), .int (nI nc), .ref m8, .ref m9, .ref m10])), (m1, .inl (cI, 8, .inl f)), (m2, .inl (cI, 480, .inl K)), (m3, .inl (cI, 480, .inl (nF O))), (m4, .inl (cI, 480, .inl T)), (m5, .inl (cI, 41, .inl (nF M))), (m6, .inl (cI, 40, .inl Z)), (m7, .inl (cZ, 40, .inl (prF k))), (m8, .inl (cI, 6, .inl (nF Y))), (m9, .inl (cI, 48, .inl G)), (m10, .inl (cI, 8, .inl g))]) (w2 := fun _ => [(z, .inr (4, [.int th, .ref m1, .ref m2, .ref m3, .ref m4, .ref m5, .ref m6, .ref m7, .int (nI n), .int (nI nc), .ref m8, .ref m9, .ref m10])), (m1, .inl (cI, 8, .inl f)), (m2, .inl (cI, 480, .inl K)), (m3, .inl (cI, 480, .inl (nF O))), (m4, .inl (cI, 480, .inl T)), (m5, .inl (cI, 41, .inl (nF M))), (m6, .inl (cI, 40, .inl Z)), (m7, .inl (cZ, 40, .inl (prF k))), (m8, .inl (cI, 6, .inl (nF Y))), (m9, .inl (cI, 48, .inl G)), (m10, .inl (cI, 8, .inl g))]) (st2 := fun _ => [.int (nI 1)]) (k := 0) (n2 := 0) ⟨hx, hb, hml, hown, hts⟩ (c_X4_isIn_t l D cI cZ (nI j) (nI 0) (nI (nc - 1)) (kNlt (by omega) (by omega)) (kNlt (by omega) (by omega))) (va_cwS 3 hts gX4_isCore_X4_isIn rfl rfl rfl (by decide +kernel) ⟨Nat.le_of_ble_eq_true rfl, Nat.le_of_ble_eq_true rfl⟩) [0, 1] rfl hK hP hD hS hA [] [0, 1, 2, 3, 4, 5, 6, 7, 8, 9, 10] rfl (by decide) rfl (by decide) (by decide) [0, 1, 2, 3, 4, 5, 6, 7, 8, 9, 10] (by decide) (fun _ => rfl) (Nat.le_refl _) (Nat.le_refl _) (Nat.le_of_ble_eq_true rfl) (Nat.le_of_ble_eq_true rfl) rfl hl.1 (Nat.le_of_ble_eq_true rfl) (fun _ => rfl) rfl dX4_isCore_8 (fun u H locs hu hP hD hS => ?_)
  exact kM_zret hx hb hr hlk hQ hP hD hK hS () rfl (Nat.le_of_ble_eq_true rfl) (Nat.le_of_ble_eq_true rfl) (by decide) rfl trivial dX4_isCore_11
def rm_c_X4_isCore_f : Room := { frames := 1, cells := 0, slots := 0, locals := 22 }
set_option maxHeartbeats 4000000 in
set_option maxRecDepth 100000 in
theorem c_X4_isCore_f (l : Launch) (D : va_G) (cI : ClassId) (cZ : ClassId) (z m1 m2 m3 m4 m5 m6 m7 m8 m9 m10 : Nat) (th : Int32) (f K : Nat → Int32) (O : Nat → Nat) (T : Nat → Int32) (M : Nat → Nat) (Z : Nat → Int32) (k n nc : Nat) (Y : Nat → Nat) (G g : Nat → Int32) (v : Int32) (hn : n ≤ 40) (hk : k ≤ n) (hc : nc ≤ 6) (hM : ∀ i, M i ≤ 12) (hO : ∀ i, O i < 8) (hY : ∀ i, Y i ≤ 40) (hv : v < 0 ∨ ¬ v < nI nc) :
    kM l yX4_isCore wsX4_isCore rm_c_X4_isCore_f D [(cI, FieldType.int), (cZ, FieldType.boolean)] [.ref z, .int v] [(z, .inr (4, [.int th, .ref m1, .ref m2, .ref m3, .ref m4, .ref m5, .ref m6, .ref m7, .int (nI n), .int (nI nc), .ref m8, .ref m9, .ref m10])), (m1, .inl (cI, 8, .inl f)), (m2, .inl (cI, 480, .inl K)), (m3, .inl (cI, 480, .inl (nF O))), (m4, .inl (cI, 480, .inl T)), (m5, .inl (cI, 41, .inl (nF M))), (m6, .inl (cI, 40, .inl Z)), (m7, .inl (cZ, 40, .inl (prF k))), (m8, .inl (cI, 6, .inl (nF Y))), (m9, .inl (cI, 48, .inl G)), (m10, .inl (cI, 8, .inl g))] (fun _ : Unit => True) (fun _ => some (.int (nI 0))) (fun _ => [(z, .inr (4, [.int th, .ref m1, .ref m2, .ref m3, .ref m4, .ref m5, .ref m6, .ref m7, .int (nI n), .int (nI nc), .ref m8, .ref m9, .ref m10])), (m1, .inl (cI, 8, .inl f)), (m2, .inl (cI, 480, .inl K)), (m3, .inl (cI, 480, .inl (nF O))), (m4, .inl (cI, 480, .inl T)), (m5, .inl (cI, 41, .inl (nF M))), (m6, .inl (cI, 40, .inl Z)), (m7, .inl (cZ, 40, .inl (prF k))), (m8, .inl (cI, 6, .inl (nF Y))), (m9, .inl (cI, 48, .inl G)), (m10, .inl (cI, 8, .inl g))]) := by
  refine kM_of (cc := cX4_isCore) (maxL := 2) (ret := (some .boolean)) (own := RX4) (by decide) rfl rfl (Nat.le_of_ble_eq_true rfl) ?_
  intro p e s m args below meth c A ls Qz hx hb hml hr hts hown hlk hin hQ hA hS hP hD hK hl
  have hl : lv_has ls 2 [(0, .ref z), (1, .int v)] := hl
  refine lv_iload_n hx hb dX4_isCore_0 rfl (lv_at hl 1 rfl) ?_
  refine lv_iconst (v := (nI 0)) hx hb dX4_isCore_1 (by decide) ?_
  refine lv_aload_n hx hb dX4_isCore_2 rfl (lv_at hl 0 rfl) ?_
  refine va_get (D := D) (ci := 4) (v := .int (nI nc)) (C := RX4) (T := TX4) (N := 13) hx hb hts iu_X4_isCore_X4 hown hK hP 0 rfl rfl 9 (by decide) (hts _ (List.mem_of_getElem? (i := 1) rfl)) (fun _ h9 => h9) rfl dX4_isCore_3 ?_
  refine lv_iconst (v := (nI 1)) hx hb dX4_isCore_6 (by decide) ?_
  refine lv_isub hx hb dX4_isCore_7 ?_
  refine k_top (y := (nI nc - nI 1)) rfl ?_
  refine kM_callS (As := [.int v, .int (nI 0), .int (nI nc - nI 1)]) (rest := []) (wr := [(z, .inr (4, [.int th, .ref m1, .ref m2, .ref m3, .ref m4, .ref m5, .ref m6, .ref m7, .int (nI n), .int (nI nc), .ref m8, .ref m9, .ref m10])), (m1, .inl (cI, 8, .inl f)), (m2, .inl (cI, 480, .inl K)), (m3, .inl (cI, 480, .inl (nF O))), (m4, .inl (cI, 480, .inl T)), (m5, .inl (cI, 41, .inl (nF M))), (m6, .inl (cI, 40, .inl Z)), (m7, .inl (cZ, 40, .inl (prF k))), (m8, .inl (cI, 6, .inl (nF Y))), (m9, .inl (cI, 48, .inl G)), (m10, .inl (cI, 8, .inl g))]) (w2 := fun _ => [(z, .inr (4, [.int th, .ref m1, .ref m2, .ref m3, .ref m4, .ref m5, .ref m6, .ref m7, .int (nI n), .int (nI nc), .ref m8, .ref m9, .ref m10])), (m1, .inl (cI, 8, .inl f)), (m2, .inl (cI, 480, .inl K)), (m3, .inl (cI, 480, .inl (nF O))), (m4, .inl (cI, 480, .inl T)), (m5, .inl (cI, 41, .inl (nF M))), (m6, .inl (cI, 40, .inl Z)), (m7, .inl (cZ, 40, .inl (prF k))), (m8, .inl (cI, 6, .inl (nF Y))), (m9, .inl (cI, 48, .inl G)), (m10, .inl (cI, 8, .inl g))]) (st2 := fun _ => [.int (nI 0)]) (k := 0) (n2 := 0) ⟨hx, hb, hml, hown, hts⟩ (c_X4_isIn_f l D cI cZ v (nI 0) (nI nc - nI 1) (hv.imp id (k_pred_gt (by omega)))) (va_cwS 3 hts gX4_isCore_X4_isIn rfl rfl rfl (by decide +kernel) ⟨Nat.le_of_ble_eq_true rfl, Nat.le_of_ble_eq_true rfl⟩) [0, 1] rfl hK hP hD hS hA [] [0, 1, 2, 3, 4, 5, 6, 7, 8, 9, 10] rfl (by decide) rfl (by decide) (by decide) [0, 1, 2, 3, 4, 5, 6, 7, 8, 9, 10] (by decide) (fun _ => rfl) (Nat.le_refl _) (Nat.le_refl _) (Nat.le_of_ble_eq_true rfl) (Nat.le_of_ble_eq_true rfl) rfl hl.1 (Nat.le_of_ble_eq_true rfl) (fun _ => rfl) rfl dX4_isCore_8 (fun u H locs hu hP hD hS => ?_)
  exact kM_zret hx hb hr hlk hQ hP hD hK hS () rfl (Nat.le_of_ble_eq_true rfl) (Nat.le_of_ble_eq_true rfl) (by decide) rfl trivial dX4_isCore_11
theorem iu_X4_work_X4 : ∀ w ∈ wsX40, w ∈ wsX4_work := fun w h => (List.mem_cons_of_mem _ (List.mem_append_right _ h))
def rm_c_X4_work : Room := { frames := 1, cells := 0, slots := 0, locals := 24 }
set_option maxHeartbeats 4000000 in
set_option maxRecDepth 100000 in
theorem c_X4_work (l : Launch) (D : va_G) (cI : ClassId) (cZ : ClassId) (z m1 m2 m3 m4 m5 m6 m7 m8 m9 m10 r : Nat) (th : Int32) (K : Nat → Int32) (O : Nat → Nat) (T : Nat → Int32) (n nc : Nat) (f : Nat → Int32) (s_ : Nat) (hs_ : s_ < 480) (hO : ∀ i, O i < 8) :
    kM l yX4_work wsX4_work rm_c_X4_work D [(cI, FieldType.int), (cZ, FieldType.boolean)] [.ref z, .ref r, .int (nI s_)] [(z, .inr (4, [.int th, .ref m1, .ref m2, .ref m3, .ref m4, .ref m5, .ref m6, .ref m7, .int (nI n), .int (nI nc), .ref m8, .ref m9, .ref m10])), (m2, .inl (cI, 480, .inl K)), (m3, .inl (cI, 480, .inl (nF O))), (m4, .inl (cI, 480, .inl T)), (r, .inl (cI, 8, .inl f))] (fun _ : Unit => True) (fun _ => none) (fun _ => [(z, .inr (4, [.int th, .ref m1, .ref m2, .ref m3, .ref m4, .ref m5, .ref m6, .ref m7, .int (nI n), .int (nI nc), .ref m8, .ref m9, .ref m10])), (m2, .inl (cI, 480, .inl K)), (m3, .inl (cI, 480, .inl (nF O))), (m4, .inl (cI, 480, .inl T)), (r, .inl (cI, 8, .inl (perf f (K s_) (O s_) (T s_))))]) := by
  refine kM_of (cc := cX4_work) (maxL := 5) (ret := none) (own := RX4) (by decide) rfl rfl (Nat.le_of_ble_eq_true rfl) ?_
  intro p e s m args below meth c A ls Qz hx hb hml hr hts hown hlk hin hQ hA hS hP hD hK hl
  have hl : lv_has ls 5 [(0, .ref z), (1, .ref r), (2, .int (nI s_))] := hl
  have hOs := hO s_
  refine lv_aload_n hx hb dX4_work_0 rfl (lv_at hl 0 rfl) ?_
  refine va_get (D := D) (ci := 4) (v := .ref m3) (C := RX4) (T := TX4) (N := 13) hx hb hts iu_X4_work_X4 hown hK hP 0 rfl rfl 3 (by decide) (hts _ (List.mem_of_getElem? (i := 1) rfl)) (fun _ h9 => h9) rfl dX4_work_1 ?_
  refine lv_iload_n hx hb dX4_work_4 rfl (lv_at hl 2 rfl) ?_
  refine k_iald hx hb hK hP 2 0 (i := s_) rfl rfl (by omega) (by decide) dX4_work_5 ?_
  refine k_top (y := (nI (O s_))) rfl ?_
  refine lv_istore_n (lv' := [(3, .int (nI (O s_))), (0, .ref z), (1, .ref r), (2, .int (nI s_))]) hx hb dX4_work_6 rfl hl (by decide) rfl (fun ls hl => ?_)
  refine lv_aload_n hx hb dX4_work_7 rfl (lv_at hl 1 rfl) ?_
  refine va_get (D := D) (ci := 4) (v := .ref m2) (C := RX4) (T := TX4) (N := 13) hx hb hts iu_X4_work_X4 hown hK hP 0 rfl rfl 2 (by decide) (hts _ (List.mem_of_getElem? (i := 2) rfl)) (fun _ h9 => h9) rfl dX4_work_8 ?_
  refine lv_iload_n hx hb dX4_work_11 rfl (lv_at hl 3 rfl) ?_
  refine k_iald hx hb hK hP 1 0 (i := s_) rfl rfl (by omega) (by decide) dX4_work_12 ?_
  refine lv_if_ne hx hb (tgt := 38) dX4_work_13 (by decide) (fun c_1 => ?_) (fun c_1 => ?_)
  · have hk0 := c_1
    refine lv_aload_n hx hb dX4_work_38 rfl (lv_at hl 1 rfl) ?_
    refine va_get (D := D) (ci := 4) (v := .ref m2) (C := RX4) (T := TX4) (N := 13) hx hb hts iu_X4_work_X4 hown hK hP 0 rfl rfl 2 (by decide) (hts _ (List.mem_of_getElem? (i := 2) rfl)) (fun _ h9 => h9) rfl dX4_work_39 ?_
    refine lv_iload_n hx hb dX4_work_42 rfl (lv_at hl 3 rfl) ?_
    refine k_iald hx hb hK hP 1 0 (i := s_) rfl rfl (by omega) (by decide) dX4_work_43 ?_
    refine lv_iconst (v := (nI 1)) hx hb dX4_work_44 (by decide) ?_
    refine lv_icmp_ne hx hb (tgt := 68) dX4_work_45 (by decide) (fun c_2 => ?_) (fun c_2 => ?_)
    · have hk1 := c_2
      refine lv_aload_n hx hb dX4_work_68 rfl (lv_at hl 2 rfl) ?_
      refine lv_iload_n hx hb dX4_work_69 rfl (lv_at hl 0 rfl) ?_
      refine k_iald hx hb hK hP 4 0 (i := (O s_)) rfl rfl (by omega) (by decide) dX4_work_70 ?_
      refine lv_bipush (v := (nI 10)) hx hb dX4_work_71 (by decide) ?_
      refine lv_idiv hx hb dX4_work_73 (by decide) ?_
      refine lv_istore (lv' := [(4, .int ((f (O s_)) / (nI 10))), (3, .int (nI (O s_))), (0, .ref z), (1, .ref r), (2, .int (nI s_))]) hx hb dX4_work_74 hl (by decide) rfl (fun ls hl => ?_)
      refine lv_iload_n hx hb dX4_work_76 rfl (lv_at hl 1 rfl) ?_
      refine lv_bipush (v := (nI 7)) hx hb dX4_work_77 (by decide) ?_
      refine k_icmp_ge hx hb (tgt := 108) (by omega) (by decide) dX4_work_79 (by decide) (fun c_3 => ?_) (fun c_3 => ?_)
      · refine lv_aload_n hx hb dX4_work_108 rfl (lv_at hl 3 rfl) ?_
        refine lv_iload_n hx hb dX4_work_109 rfl (lv_at hl 1 rfl) ?_
        refine lv_dup2_11 hx hb dX4_work_110 rfl rfl ?_
        refine k_iald hx hb hK hP 4 0 (i := (O s_)) rfl rfl (by omega) (by decide) dX4_work_111 ?_
        refine lv_iload hx hb dX4_work_112 (lv_at hl 0 rfl) ?_
        refine lv_isub hx hb dX4_work_114 ?_
        refine k_iast (w2 := [(z, .inr (4, [.int th, .ref m1, .ref m2, .ref m3, .ref m4, .ref m5, .ref m6, .ref m7, .int (nI n), .int (nI nc), .ref m8, .ref m9, .ref m10])), (m2, .inl (cI, 480, .inl K)), (m3, .inl (cI, 480, .inl (nF O))), (m4, .inl (cI, 480, .inl T)), (r, .inl (cI, 8, .inl (upd f (O s_) ((f (O s_)) - ((f (O s_)) / (nI 10))))))]) hx hb hK hP hD hS 4 0 (i := (O s_)) rfl rfl (by omega) (by decide) dX4_work_115 (g := upd f (O s_) ((f (O s_)) - ((f (O s_)) / (nI 10)))) rfl rfl (fun H locs hP hD hS => ?_)
        exact kM_vret hx hb hr hlk hQ hP hD hK hS () (by simp only [perf]; rw [if_pos hk0, if_pos hk1]; simp only [slideF]; rw [if_neg (by omega)]) (Nat.le_of_ble_eq_true rfl) (Nat.le_of_ble_eq_true rfl) rfl trivial dX4_work_116
      · refine lv_iload hx hb dX4_work_82 (lv_at hl 0 rfl) ?_
        refine lv_sipush (v := (nI 999)) hx hb dX4_work_84 (by decide) ?_
        refine lv_aload_n hx hb dX4_work_87 rfl (lv_at hl 3 rfl) ?_
        refine lv_iload_n hx hb dX4_work_88 rfl (lv_at hl 1 rfl) ?_
        refine lv_iconst (v := (nI 1)) hx hb dX4_work_89 (by decide) ?_
        refine k_iadd hx hb dX4_work_90 ?_
        refine k_iald hx hb hK hP 4 0 (i := ((O s_) + 1)) rfl rfl (by omega) (by decide) dX4_work_91 ?_
        refine lv_isub hx hb dX4_work_92 ?_
        refine va_mmin hx hb (hml.trans hl.1.symm) hown (hts _ (List.mem_of_getElem? (i := 4) rfl)) (hts _ (List.mem_of_getElem? (i := 5) rfl)) (hts _ (List.mem_of_getElem? (i := 6) rfl)) (hts _ (List.mem_of_getElem? (i := 7) rfl)) (Nat.le_of_ble_eq_true rfl) (Nat.le_of_ble_eq_true rfl) (Nat.le_of_ble_eq_true rfl) (Nat.le_of_ble_eq_true rfl) dX4_work_93 ?_
        refine k_top (y := (jmin ((f (O s_)) / (nI 10)) ((nI 999) - (f ((O s_) + 1))))) rfl ?_
        refine lv_istore (lv' := [(4, .int (jmin ((f (O s_)) / (nI 10)) ((nI 999) - (f ((O s_) + 1))))), (3, .int (nI (O s_))), (0, .ref z), (1, .ref r), (2, .int (nI s_))]) hx hb dX4_work_96 hl (by decide) rfl (fun ls hl => ?_)
        refine lv_aload_n hx hb dX4_work_98 rfl (lv_at hl 3 rfl) ?_
        refine lv_iload_n hx hb dX4_work_99 rfl (lv_at hl 1 rfl) ?_
        refine lv_iconst (v := (nI 1)) hx hb dX4_work_100 (by decide) ?_
        refine k_iadd hx hb dX4_work_101 ?_
        refine lv_dup2_11 hx hb dX4_work_102 rfl rfl ?_
        refine k_iald hx hb hK hP 4 0 (i := ((O s_) + 1)) rfl rfl (by omega) (by decide) dX4_work_103 ?_
        refine lv_iload hx hb dX4_work_104 (lv_at hl 0 rfl) ?_
        refine lv_iadd hx hb dX4_work_106 ?_
        refine k_iast (w2 := [(z, .inr (4, [.int th, .ref m1, .ref m2, .ref m3, .ref m4, .ref m5, .ref m6, .ref m7, .int (nI n), .int (nI nc), .ref m8, .ref m9, .ref m10])), (m2, .inl (cI, 480, .inl K)), (m3, .inl (cI, 480, .inl (nF O))), (m4, .inl (cI, 480, .inl T)), (r, .inl (cI, 8, .inl (upd f ((O s_) + 1) ((f ((O s_) + 1)) + (jmin ((f (O s_)) / (nI 10)) ((nI 999) - (f ((O s_) + 1))))))))]) hx hb hK hP hD hS 4 0 (i := ((O s_) + 1)) rfl rfl (by omega) (by decide) dX4_work_107 (g := upd f ((O s_) + 1) ((f ((O s_) + 1)) + (jmin ((f (O s_)) / (nI 10)) ((nI 999) - (f ((O s_) + 1)))))) rfl rfl (fun H locs hP hD hS => ?_)
        refine lv_aload_n hx hb dX4_work_108 rfl (lv_at hl 3 rfl) ?_
        refine lv_iload_n hx hb dX4_work_109 rfl (lv_at hl 1 rfl) ?_
        refine lv_dup2_11 hx hb dX4_work_110 rfl rfl ?_
        refine k_iald hx hb hK hP 4 0 (i := (O s_)) rfl rfl (by omega) (by decide) dX4_work_111 ?_
        refine lv_iload hx hb dX4_work_112 (lv_at hl 0 rfl) ?_
        refine lv_isub hx hb dX4_work_114 ?_
        refine k_iast (w2 := [(z, .inr (4, [.int th, .ref m1, .ref m2, .ref m3, .ref m4, .ref m5, .ref m6, .ref m7, .int (nI n), .int (nI nc), .ref m8, .ref m9, .ref m10])), (m2, .inl (cI, 480, .inl K)), (m3, .inl (cI, 480, .inl (nF O))), (m4, .inl (cI, 480, .inl T)), (r, .inl (cI, 8, .inl (upd (upd f ((O s_) + 1) ((f ((O s_) + 1)) + (jmin ((f (O s_)) / (nI 10)) ((nI 999) - (f ((O s_) + 1)))))) (O s_) (((upd f ((O s_) + 1) ((f ((O s_) + 1)) + (jmin ((f (O s_)) / (nI 10)) ((nI 999) - (f ((O s_) + 1)))))) (O s_)) - (jmin ((f (O s_)) / (nI 10)) ((nI 999) - (f ((O s_) + 1))))))))]) hx hb hK hP hD hS 4 0 (i := (O s_)) rfl rfl (by omega) (by decide) dX4_work_115 (g := upd (upd f ((O s_) + 1) ((f ((O s_) + 1)) + (jmin ((f (O s_)) / (nI 10)) ((nI 999) - (f ((O s_) + 1)))))) (O s_) (((upd f ((O s_) + 1) ((f ((O s_) + 1)) + (jmin ((f (O s_)) / (nI 10)) ((nI 999) - (f ((O s_) + 1)))))) (O s_)) - (jmin ((f (O s_)) / (nI 10)) ((nI 999) - (f ((O s_) + 1)))))) rfl rfl (fun H locs hP hD hS => ?_)
        exact kM_vret hx hb hr hlk hQ hP hD hK hS () (by simp only [perf]; rw [if_pos hk0, if_pos hk1]; simp only [slideF]; rw [if_pos (by omega)]) (Nat.le_of_ble_eq_true rfl) (Nat.le_of_ble_eq_true rfl) rfl trivial dX4_work_116
    · have hk1 := c_2
      refine lv_aload_n hx hb dX4_work_48 rfl (lv_at hl 2 rfl) ?_
      refine lv_iload_n hx hb dX4_work_49 rfl (lv_at hl 0 rfl) ?_
      refine lv_iconst (v := (nI 0)) hx hb dX4_work_50 (by decide) ?_
      refine lv_aload_n hx hb dX4_work_51 rfl (lv_at hl 2 rfl) ?_
      refine lv_iload_n hx hb dX4_work_52 rfl (lv_at hl 0 rfl) ?_
      refine k_iald hx hb hK hP 4 0 (i := (O s_)) rfl rfl (by omega) (by decide) dX4_work_53 ?_
      refine lv_aload_n hx hb dX4_work_54 rfl (lv_at hl 1 rfl) ?_
      refine va_get (D := D) (ci := 4) (v := .ref m4) (C := RX4) (T := TX4) (N := 13) hx hb hts iu_X4_work_X4 hown hK hP 0 rfl rfl 4 (by decide) (hts _ (List.mem_of_getElem? (i := 3) rfl)) (fun _ h9 => h9) rfl dX4_work_55 ?_
      refine lv_iload_n hx hb dX4_work_58 rfl (lv_at hl 3 rfl) ?_
      refine k_iald hx hb hK hP 3 0 (i := s_) rfl rfl (by omega) (by decide) dX4_work_59 ?_
      refine lv_isub hx hb dX4_work_60 ?_
      refine va_mmax hx hb (hml.trans hl.1.symm) hown (hts _ (List.mem_of_getElem? (i := 8) rfl)) (hts _ (List.mem_of_getElem? (i := 9) rfl)) (hts _ (List.mem_of_getElem? (i := 6) rfl)) (hts _ (List.mem_of_getElem? (i := 10) rfl)) (Nat.le_of_ble_eq_true rfl) (Nat.le_of_ble_eq_true rfl) (Nat.le_of_ble_eq_true rfl) (Nat.le_of_ble_eq_true rfl) dX4_work_61 ?_
      refine k_top (y := (jmax (nI 0) ((f (O s_)) - (T s_)))) rfl ?_
      refine k_iast (w2 := [(z, .inr (4, [.int th, .ref m1, .ref m2, .ref m3, .ref m4, .ref m5, .ref m6, .ref m7, .int (nI n), .int (nI nc), .ref m8, .ref m9, .ref m10])), (m2, .inl (cI, 480, .inl K)), (m3, .inl (cI, 480, .inl (nF O))), (m4, .inl (cI, 480, .inl T)), (r, .inl (cI, 8, .inl (upd f (O s_) (jmax (nI 0) ((f (O s_)) - (T s_))))))]) hx hb hK hP hD hS 4 0 (i := (O s_)) rfl rfl (by omega) (by decide) dX4_work_64 (g := upd f (O s_) (jmax (nI 0) ((f (O s_)) - (T s_)))) rfl rfl (fun H locs hP hD hS => ?_)
      refine lv_goto (tgt := 116) hx hb dX4_work_65 (by decide) ?_
      exact kM_vret hx hb hr hlk hQ hP hD hK hS () (by simp only [perf]; rw [if_pos hk0, if_neg (fun h => h hk1)]) (Nat.le_of_ble_eq_true rfl) (Nat.le_of_ble_eq_true rfl) rfl trivial dX4_work_116
  · have hk0 := c_1
    refine lv_aload_n hx hb dX4_work_16 rfl (lv_at hl 2 rfl) ?_
    refine lv_iload_n hx hb dX4_work_17 rfl (lv_at hl 0 rfl) ?_
    refine lv_sipush (v := (nI 999)) hx hb dX4_work_18 (by decide) ?_
    refine lv_aload_n hx hb dX4_work_21 rfl (lv_at hl 2 rfl) ?_
    refine lv_iload_n hx hb dX4_work_22 rfl (lv_at hl 0 rfl) ?_
    refine k_iald hx hb hK hP 4 0 (i := (O s_)) rfl rfl (by omega) (by decide) dX4_work_23 ?_
    refine lv_aload_n hx hb dX4_work_24 rfl (lv_at hl 1 rfl) ?_
    refine va_get (D := D) (ci := 4) (v := .ref m4) (C := RX4) (T := TX4) (N := 13) hx hb hts iu_X4_work_X4 hown hK hP 0 rfl rfl 4 (by decide) (hts _ (List.mem_of_getElem? (i := 3) rfl)) (fun _ h9 => h9) rfl dX4_work_25 ?_
    refine lv_iload_n hx hb dX4_work_28 rfl (lv_at hl 3 rfl) ?_
    refine k_iald hx hb hK hP 3 0 (i := s_) rfl rfl (by omega) (by decide) dX4_work_29 ?_
    refine lv_iadd hx hb dX4_work_30 ?_
    refine va_mmin hx hb (hml.trans hl.1.symm) hown (hts _ (List.mem_of_getElem? (i := 4) rfl)) (hts _ (List.mem_of_getElem? (i := 5) rfl)) (hts _ (List.mem_of_getElem? (i := 6) rfl)) (hts _ (List.mem_of_getElem? (i := 7) rfl)) (Nat.le_of_ble_eq_true rfl) (Nat.le_of_ble_eq_true rfl) (Nat.le_of_ble_eq_true rfl) (Nat.le_of_ble_eq_true rfl) dX4_work_31 ?_
    refine k_top (y := (jmin (nI 999) ((f (O s_)) + (T s_)))) rfl ?_
    refine k_iast (w2 := [(z, .inr (4, [.int th, .ref m1, .ref m2, .ref m3, .ref m4, .ref m5, .ref m6, .ref m7, .int (nI n), .int (nI nc), .ref m8, .ref m9, .ref m10])), (m2, .inl (cI, 480, .inl K)), (m3, .inl (cI, 480, .inl (nF O))), (m4, .inl (cI, 480, .inl T)), (r, .inl (cI, 8, .inl (upd f (O s_) (jmin (nI 999) ((f (O s_)) + (T s_))))))]) hx hb hK hP hD hS 4 0 (i := (O s_)) rfl rfl (by omega) (by decide) dX4_work_34 (g := upd f (O s_) (jmin (nI 999) ((f (O s_)) + (T s_)))) rfl rfl (fun H locs hP hD hS => ?_)
    refine lv_goto (tgt := 116) hx hb dX4_work_35 (by decide) ?_
    exact kM_vret hx hb hr hlk hQ hP hD hK hS () (by simp only [perf]; rw [if_neg (fun h => h hk0)]) (Nat.le_of_ble_eq_true rfl) (Nat.le_of_ble_eq_true rfl) rfl trivial dX4_work_116
theorem iu_X4_isFull_X4 : ∀ w ∈ wsX40, w ∈ wsX4_isFull := fun w h => (List.mem_cons_of_mem _ (List.mem_append_right _ h))
def rm_c_X4_isFull_t : Room := { frames := 0, cells := 0, slots := 0, locals := 0 }
set_option maxHeartbeats 4000000 in
set_option maxRecDepth 100000 in
theorem c_X4_isFull_t (l : Launch) (D : va_G) (cI : ClassId) (cZ : ClassId) (z m1 m2 m3 m4 m5 m6 m7 m8 m9 m10 : Nat) (th : Int32) (f K : Nat → Int32) (O : Nat → Nat) (T : Nat → Int32) (M : Nat → Nat) (Z : Nat → Int32) (k n nc : Nat) (Y : Nat → Nat) (G g : Nat → Int32) (hn : n ≤ 40) (hk : k ≤ n) (hc : nc ≤ 6) (hM : ∀ i, M i ≤ 12) (hO : ∀ i, O i < 8) (hY : ∀ i, Y i ≤ 40) (hroom : ¬ (n < 40 ∧ M n < 12)) :
    kM l yX4_isFull wsX4_isFull rm_c_X4_isFull_t D [(cI, FieldType.int), (cZ, FieldType.boolean)] [.ref z] [(z, .inr (4, [.int th, .ref m1, .ref m2, .ref m3, .ref m4, .ref m5, .ref m6, .ref m7, .int (nI n), .int (nI nc), .ref m8, .ref m9, .ref m10])), (m1, .inl (cI, 8, .inl f)), (m2, .inl (cI, 480, .inl K)), (m3, .inl (cI, 480, .inl (nF O))), (m4, .inl (cI, 480, .inl T)), (m5, .inl (cI, 41, .inl (nF M))), (m6, .inl (cI, 40, .inl Z)), (m7, .inl (cZ, 40, .inl (prF k))), (m8, .inl (cI, 6, .inl (nF Y))), (m9, .inl (cI, 48, .inl G)), (m10, .inl (cI, 8, .inl g))] (fun _ : Unit => True) (fun _ => some (.int (nI 1))) (fun _ => [(z, .inr (4, [.int th, .ref m1, .ref m2, .ref m3, .ref m4, .ref m5, .ref m6, .ref m7, .int (nI n), .int (nI nc), .ref m8, .ref m9, .ref m10])), (m1, .inl (cI, 8, .inl f)), (m2, .inl (cI, 480, .inl K)), (m3, .inl (cI, 480, .inl (nF O))), (m4, .inl (cI, 480, .inl T)), (m5, .inl (cI, 41, .inl (nF M))), (m6, .inl (cI, 40, .inl Z)), (m7, .inl (cZ, 40, .inl (prF k))), (m8, .inl (cI, 6, .inl (nF Y))), (m9, .inl (cI, 48, .inl G)), (m10, .inl (cI, 8, .inl g))]) := by
  refine kM_of (cc := cX4_isFull) (maxL := 1) (ret := (some .boolean)) (own := RX4) (by decide) rfl rfl (Nat.le_of_ble_eq_true rfl) ?_
  intro p e s m args below meth c A ls Qz hx hb hml hr hts hown hlk hin hQ hA hS hP hD hK hl
  have hl : lv_has ls 1 [(0, .ref z)] := hl
  have hMn := hM n
  refine lv_aload_n hx hb dX4_isFull_0 rfl (lv_at hl 0 rfl) ?_
  refine va_get (D := D) (ci := 4) (v := .int (nI n)) (C := RX4) (T := TX4) (N := 13) hx hb hts iu_X4_isFull_X4 hown hK hP 0 rfl rfl 8 (by decide) (hts _ (List.mem_of_getElem? (i := 1) rfl)) (fun _ h9 => h9) rfl dX4_isFull_1 ?_
  refine lv_bipush (v := (nI 40)) hx hb dX4_isFull_4 (by decide) ?_
  refine k_icmp_eq hx hb (tgt := 23) (by omega) (by decide) dX4_isFull_6 (by decide) (fun c_1 => ?_) (fun c_1 => ?_)
  · refine lv_iconst (v := (nI 1)) hx hb dX4_isFull_23 (by decide) ?_
    refine lv_goto (tgt := 28) hx hb dX4_isFull_24 (by decide) ?_
    exact kM_zret hx hb hr hlk hQ hP hD hK hS () rfl (Nat.le_of_ble_eq_true rfl) (Nat.le_of_ble_eq_true rfl) (by decide) rfl trivial dX4_isFull_28
  · refine lv_aload_n hx hb dX4_isFull_9 rfl (lv_at hl 0 rfl) ?_
    refine va_get (D := D) (ci := 4) (v := .ref m5) (C := RX4) (T := TX4) (N := 13) hx hb hts iu_X4_isFull_X4 hown hK hP 0 rfl rfl 5 (by decide) (hts _ (List.mem_of_getElem? (i := 2) rfl)) (fun _ h9 => h9) rfl dX4_isFull_10 ?_
    refine lv_aload_n hx hb dX4_isFull_13 rfl (lv_at hl 0 rfl) ?_
    refine va_get (D := D) (ci := 4) (v := .int (nI n)) (C := RX4) (T := TX4) (N := 13) hx hb hts iu_X4_isFull_X4 hown hK hP 0 rfl rfl 8 (by decide) (hts _ (List.mem_of_getElem? (i := 1) rfl)) (fun _ h9 => h9) rfl dX4_isFull_14 ?_
    refine k_iald hx hb hK hP 5 0 (i := n) rfl rfl (by omega) (by decide) dX4_isFull_17 ?_
    refine k_top (y := (nI (M n))) rfl ?_
    refine lv_bipush (v := (nI 12)) hx hb dX4_isFull_18 (by decide) ?_
    refine k_icmp_ne hx hb (tgt := 27) (by omega) (by decide) dX4_isFull_20 (by decide) (fun c_2 => ((by omega) : False).elim) (fun c_2 => ?_)
    refine lv_iconst (v := (nI 1)) hx hb dX4_isFull_23 (by decide) ?_
    refine lv_goto (tgt := 28) hx hb dX4_isFull_24 (by decide) ?_
    exact kM_zret hx hb hr hlk hQ hP hD hK hS () rfl (Nat.le_of_ble_eq_true rfl) (Nat.le_of_ble_eq_true rfl) (by decide) rfl trivial dX4_isFull_28
def rm_c_X4_isFull_f : Room := { frames := 0, cells := 0, slots := 0, locals := 0 }
set_option maxHeartbeats 4000000 in
set_option maxRecDepth 100000 in
theorem c_X4_isFull_f (l : Launch) (D : va_G) (cI : ClassId) (cZ : ClassId) (z m1 m2 m3 m4 m5 m6 m7 m8 m9 m10 : Nat) (th : Int32) (f K : Nat → Int32) (O : Nat → Nat) (T : Nat → Int32) (M : Nat → Nat) (Z : Nat → Int32) (k n nc : Nat) (Y : Nat → Nat) (G g : Nat → Int32) (hn : n ≤ 40) (hk : k ≤ n) (hc : nc ≤ 6) (hM : ∀ i, M i ≤ 12) (hO : ∀ i, O i < 8) (hY : ∀ i, Y i ≤ 40) (hroom : n < 40 ∧ M n < 12) :
    kM l yX4_isFull wsX4_isFull rm_c_X4_isFull_f D [(cI, FieldType.int), (cZ, FieldType.boolean)] [.ref z] [(z, .inr (4, [.int th, .ref m1, .ref m2, .ref m3, .ref m4, .ref m5, .ref m6, .ref m7, .int (nI n), .int (nI nc), .ref m8, .ref m9, .ref m10])), (m1, .inl (cI, 8, .inl f)), (m2, .inl (cI, 480, .inl K)), (m3, .inl (cI, 480, .inl (nF O))), (m4, .inl (cI, 480, .inl T)), (m5, .inl (cI, 41, .inl (nF M))), (m6, .inl (cI, 40, .inl Z)), (m7, .inl (cZ, 40, .inl (prF k))), (m8, .inl (cI, 6, .inl (nF Y))), (m9, .inl (cI, 48, .inl G)), (m10, .inl (cI, 8, .inl g))] (fun _ : Unit => True) (fun _ => some (.int (nI 0))) (fun _ => [(z, .inr (4, [.int th, .ref m1, .ref m2, .ref m3, .ref m4, .ref m5, .ref m6, .ref m7, .int (nI n), .int (nI nc), .ref m8, .ref m9, .ref m10])), (m1, .inl (cI, 8, .inl f)), (m2, .inl (cI, 480, .inl K)), (m3, .inl (cI, 480, .inl (nF O))), (m4, .inl (cI, 480, .inl T)), (m5, .inl (cI, 41, .inl (nF M))), (m6, .inl (cI, 40, .inl Z)), (m7, .inl (cZ, 40, .inl (prF k))), (m8, .inl (cI, 6, .inl (nF Y))), (m9, .inl (cI, 48, .inl G)), (m10, .inl (cI, 8, .inl g))]) := by
  refine kM_of (cc := cX4_isFull) (maxL := 1) (ret := (some .boolean)) (own := RX4) (by decide) rfl rfl (Nat.le_of_ble_eq_true rfl) ?_
  intro p e s m args below meth c A ls Qz hx hb hml hr hts hown hlk hin hQ hA hS hP hD hK hl
  have hl : lv_has ls 1 [(0, .ref z)] := hl
  refine lv_aload_n hx hb dX4_isFull_0 rfl (lv_at hl 0 rfl) ?_
  refine va_get (D := D) (ci := 4) (v := .int (nI n)) (C := RX4) (T := TX4) (N := 13) hx hb hts iu_X4_isFull_X4 hown hK hP 0 rfl rfl 8 (by decide) (hts _ (List.mem_of_getElem? (i := 1) rfl)) (fun _ h9 => h9) rfl dX4_isFull_1 ?_
  refine lv_bipush (v := (nI 40)) hx hb dX4_isFull_4 (by decide) ?_
  refine k_icmp_eq hx hb (tgt := 23) (by omega) (by decide) dX4_isFull_6 (by decide) (fun c_1 => ((by omega) : False).elim) (fun c_1 => ?_)
  refine lv_aload_n hx hb dX4_isFull_9 rfl (lv_at hl 0 rfl) ?_
  refine va_get (D := D) (ci := 4) (v := .ref m5) (C := RX4) (T := TX4) (N := 13) hx hb hts iu_X4_isFull_X4 hown hK hP 0 rfl rfl 5 (by decide) (hts _ (List.mem_of_getElem? (i := 2) rfl)) (fun _ h9 => h9) rfl dX4_isFull_10 ?_
  refine lv_aload_n hx hb dX4_isFull_13 rfl (lv_at hl 0 rfl) ?_
  refine va_get (D := D) (ci := 4) (v := .int (nI n)) (C := RX4) (T := TX4) (N := 13) hx hb hts iu_X4_isFull_X4 hown hK hP 0 rfl rfl 8 (by decide) (hts _ (List.mem_of_getElem? (i := 1) rfl)) (fun _ h9 => h9) rfl dX4_isFull_14 ?_
  refine k_iald hx hb hK hP 5 0 (i := n) rfl rfl (by omega) (by decide) dX4_isFull_17 ?_
  refine k_top (y := (nI (M n))) rfl ?_
  refine lv_bipush (v := (nI 12)) hx hb dX4_isFull_18 (by decide) ?_
  refine k_icmp_ne hx hb (tgt := 27) (by omega) (by decide) dX4_isFull_20 (by decide) (fun c_2 => ?_) (fun c_2 => ((by omega) : False).elim)
  refine lv_iconst (v := (nI 0)) hx hb dX4_isFull_27 (by decide) ?_
  exact kM_zret hx hb hr hlk hQ hP hD hK hS () rfl (Nat.le_of_ble_eq_true rfl) (Nat.le_of_ble_eq_true rfl) (by decide) rfl trivial dX4_isFull_28
theorem up_lt {O : Nat → Nat} {a v b : Nat} (h : ∀ i, O i < b) (hv : v < b) : ∀ i, upN O a v i < b := by
  intro i
  simp only [upN]
  split
  · exact hv
  · exact h i
theorem up_le {O : Nat → Nat} {a v b : Nat} (h : ∀ i, O i ≤ b) (hv : v ≤ b) : ∀ i, upN O a v i ≤ b := by
  intro i
  simp only [upN]
  split
  · exact hv
  · exact h i
theorem iu_X4_deed_X4 : ∀ w ∈ wsX40, w ∈ wsX4_deed := fun w h => (List.mem_cons_of_mem _ (List.mem_append_right _ h))
def rm_c_X4_deed : Room := { frames := 2, cells := 0, slots := 0, locals := 48 }
set_option maxHeartbeats 4000000 in
set_option maxRecDepth 100000 in
theorem c_X4_deed (l : Launch) (D : va_G) (cI : ClassId) (cZ : ClassId) (z m1 m2 m3 m4 m5 m6 m7 m8 m9 m10 : Nat) (th : Int32) (f K : Nat → Int32) (O : Nat → Nat) (T : Nat → Int32) (M : Nat → Nat) (Z : Nat → Int32) (k n nc : Nat) (Y : Nat → Nat) (G g : Nat → Int32) (kd : Int32) (j : Nat) (tw : Int32) (hn : n ≤ 40) (hk : k ≤ n) (hc : nc ≤ 6) (hM : ∀ i, M i ≤ 12) (hO : ∀ i, O i < 8) (hY : ∀ i, Y i ≤ 40) (hj : j < 8) (hroom : n < 40 ∧ M n < 12) :
    kM l yX4_deed wsX4_deed rm_c_X4_deed D [(cI, FieldType.int), (cZ, FieldType.boolean)] [.ref z, .int kd, .int (nI j), .int tw] [(z, .inr (4, [.int th, .ref m1, .ref m2, .ref m3, .ref m4, .ref m5, .ref m6, .ref m7, .int (nI n), .int (nI nc), .ref m8, .ref m9, .ref m10])), (m1, .inl (cI, 8, .inl f)), (m2, .inl (cI, 480, .inl K)), (m3, .inl (cI, 480, .inl (nF O))), (m4, .inl (cI, 480, .inl T)), (m5, .inl (cI, 41, .inl (nF M))), (m6, .inl (cI, 40, .inl Z)), (m7, .inl (cZ, 40, .inl (prF k))), (m8, .inl (cI, 6, .inl (nF Y))), (m9, .inl (cI, 48, .inl G)), (m10, .inl (cI, 8, .inl g))] (fun _ : Unit => True) (fun _ => some (.int (perf f kd j tw j))) (fun _ => [(z, .inr (4, [.int th, .ref m1, .ref m2, .ref m3, .ref m4, .ref m5, .ref m6, .ref m7, .int (nI n), .int (nI nc), .ref m8, .ref m9, .ref m10])), (m1, .inl (cI, 8, .inl (perf f kd j tw))), (m2, .inl (cI, 480, .inl (upd K (n * 12 + M n) kd))), (m3, .inl (cI, 480, .inl (nF (upN O (n * 12 + M n) j)))), (m4, .inl (cI, 480, .inl (upd T (n * 12 + M n) tw))), (m5, .inl (cI, 41, .inl (nF (upN M n (M n + 1))))), (m6, .inl (cI, 40, .inl Z)), (m7, .inl (cZ, 40, .inl (prF k))), (m8, .inl (cI, 6, .inl (nF Y))), (m9, .inl (cI, 48, .inl G)), (m10, .inl (cI, 8, .inl g))]) := by
  refine kM_of (cc := cX4_deed) (maxL := 5) (ret := (some .int)) (own := RX4) (by decide) rfl rfl (Nat.le_of_ble_eq_true rfl) ?_
  intro p e s m args below meth c A ls Qz hx hb hml hr hts hown hlk hin hQ hA hS hP hD hK hl
  have hl : lv_has ls 5 [(0, .ref z), (1, .int kd), (2, .int (nI j)), (3, .int tw)] := hl
  refine lv_bipush (v := (nI 12)) hx hb dX4_deed_0 (by decide) ?_
  refine lv_aload_n hx hb dX4_deed_2 rfl (lv_at hl 0 rfl) ?_
  refine va_get (D := D) (ci := 4) (v := .int (nI n)) (C := RX4) (T := TX4) (N := 13) hx hb hts iu_X4_deed_X4 hown hK hP 0 rfl rfl 8 (by decide) (hts _ (List.mem_of_getElem? (i := 1) rfl)) (fun _ h9 => h9) rfl dX4_deed_3 ?_
  refine k_imul hx hb dX4_deed_6 ?_
  refine k_top (y := (nI (n * 12))) (congrArg nI (Nat.mul_comm _ _)) ?_
  refine lv_aload_n hx hb dX4_deed_7 rfl (lv_at hl 0 rfl) ?_
  refine va_get (D := D) (ci := 4) (v := .ref m5) (C := RX4) (T := TX4) (N := 13) hx hb hts iu_X4_deed_X4 hown hK hP 0 rfl rfl 5 (by decide) (hts _ (List.mem_of_getElem? (i := 2) rfl)) (fun _ h9 => h9) rfl dX4_deed_8 ?_
  refine lv_aload_n hx hb dX4_deed_11 rfl (lv_at hl 0 rfl) ?_
  refine va_get (D := D) (ci := 4) (v := .int (nI n)) (C := RX4) (T := TX4) (N := 13) hx hb hts iu_X4_deed_X4 hown hK hP 0 rfl rfl 8 (by decide) (hts _ (List.mem_of_getElem? (i := 1) rfl)) (fun _ h9 => h9) rfl dX4_deed_12 ?_
  refine k_iald hx hb hK hP 5 0 (i := n) rfl rfl (by omega) (by decide) dX4_deed_15 ?_
  refine k_top (y := (nI (M n))) rfl ?_
  refine k_iadd hx hb dX4_deed_16 ?_
  refine lv_istore (lv' := [(4, .int (nI ((n * 12) + (M n)))), (0, .ref z), (1, .int kd), (2, .int (nI j)), (3, .int tw)]) hx hb dX4_deed_17 hl (by decide) rfl (fun ls hl => ?_)
  refine lv_aload_n hx hb dX4_deed_19 rfl (lv_at hl 1 rfl) ?_
  refine va_get (D := D) (ci := 4) (v := .ref m2) (C := RX4) (T := TX4) (N := 13) hx hb hts iu_X4_deed_X4 hown hK hP 0 rfl rfl 2 (by decide) (hts _ (List.mem_of_getElem? (i := 3) rfl)) (fun _ h9 => h9) rfl dX4_deed_20 ?_
  refine lv_iload hx hb dX4_deed_23 (lv_at hl 0 rfl) ?_
  refine lv_iload_n hx hb dX4_deed_25 rfl (lv_at hl 2 rfl) ?_
  refine k_iast (w2 := [(z, .inr (4, [.int th, .ref m1, .ref m2, .ref m3, .ref m4, .ref m5, .ref m6, .ref m7, .int (nI n), .int (nI nc), .ref m8, .ref m9, .ref m10])), (m1, .inl (cI, 8, .inl f)), (m2, .inl (cI, 480, .inl (upd K ((n * 12) + (M n)) kd))), (m3, .inl (cI, 480, .inl (nF O))), (m4, .inl (cI, 480, .inl T)), (m5, .inl (cI, 41, .inl (nF M))), (m6, .inl (cI, 40, .inl Z)), (m7, .inl (cZ, 40, .inl (prF k))), (m8, .inl (cI, 6, .inl (nF Y))), (m9, .inl (cI, 48, .inl G)), (m10, .inl (cI, 8, .inl g))]) hx hb hK hP hD hS 2 0 (i := ((n * 12) + (M n))) rfl rfl (by omega) (by decide) dX4_deed_26 (g := upd K ((n * 12) + (M n)) kd) rfl rfl (fun H locs hP hD hS => ?_)
  refine lv_aload_n hx hb dX4_deed_27 rfl (lv_at hl 1 rfl) ?_
  refine va_get (D := D) (ci := 4) (v := .ref m3) (C := RX4) (T := TX4) (N := 13) hx hb hts iu_X4_deed_X4 hown hK hP 0 rfl rfl 3 (by decide) (hts _ (List.mem_of_getElem? (i := 4) rfl)) (fun _ h9 => h9) rfl dX4_deed_28 ?_
  refine lv_iload hx hb dX4_deed_31 (lv_at hl 0 rfl) ?_
  refine lv_iload_n hx hb dX4_deed_33 rfl (lv_at hl 3 rfl) ?_
  refine k_iast (w2 := [(z, .inr (4, [.int th, .ref m1, .ref m2, .ref m3, .ref m4, .ref m5, .ref m6, .ref m7, .int (nI n), .int (nI nc), .ref m8, .ref m9, .ref m10])), (m1, .inl (cI, 8, .inl f)), (m2, .inl (cI, 480, .inl (upd K ((n * 12) + (M n)) kd))), (m3, .inl (cI, 480, .inl (nF (upN O ((n * 12) + (M n)) j)))), (m4, .inl (cI, 480, .inl T)), (m5, .inl (cI, 41, .inl (nF M))), (m6, .inl (cI, 40, .inl Z)), (m7, .inl (cZ, 40, .inl (prF k))), (m8, .inl (cI, 6, .inl (nF Y))), (m9, .inl (cI, 48, .inl G)), (m10, .inl (cI, 8, .inl g))]) hx hb hK hP hD hS 3 0 (i := ((n * 12) + (M n))) rfl rfl (by omega) (by decide) dX4_deed_34 (g := nF (upN O ((n * 12) + (M n)) j)) (nF_upd O ((n * 12) + (M n)) j) rfl (fun H locs hP hD hS => ?_)
  refine lv_aload_n hx hb dX4_deed_35 rfl (lv_at hl 1 rfl) ?_
  refine va_get (D := D) (ci := 4) (v := .ref m4) (C := RX4) (T := TX4) (N := 13) hx hb hts iu_X4_deed_X4 hown hK hP 0 rfl rfl 4 (by decide) (hts _ (List.mem_of_getElem? (i := 5) rfl)) (fun _ h9 => h9) rfl dX4_deed_36 ?_
  refine lv_iload hx hb dX4_deed_39 (lv_at hl 0 rfl) ?_
  refine lv_iload_n hx hb dX4_deed_41 rfl (lv_at hl 4 rfl) ?_
  refine k_iast (w2 := [(z, .inr (4, [.int th, .ref m1, .ref m2, .ref m3, .ref m4, .ref m5, .ref m6, .ref m7, .int (nI n), .int (nI nc), .ref m8, .ref m9, .ref m10])), (m1, .inl (cI, 8, .inl f)), (m2, .inl (cI, 480, .inl (upd K ((n * 12) + (M n)) kd))), (m3, .inl (cI, 480, .inl (nF (upN O ((n * 12) + (M n)) j)))), (m4, .inl (cI, 480, .inl (upd T ((n * 12) + (M n)) tw))), (m5, .inl (cI, 41, .inl (nF M))), (m6, .inl (cI, 40, .inl Z)), (m7, .inl (cZ, 40, .inl (prF k))), (m8, .inl (cI, 6, .inl (nF Y))), (m9, .inl (cI, 48, .inl G)), (m10, .inl (cI, 8, .inl g))]) hx hb hK hP hD hS 4 0 (i := ((n * 12) + (M n))) rfl rfl (by omega) (by decide) dX4_deed_42 (g := upd T ((n * 12) + (M n)) tw) rfl rfl (fun H locs hP hD hS => ?_)
  refine lv_aload_n hx hb dX4_deed_43 rfl (lv_at hl 1 rfl) ?_
  refine va_get (D := D) (ci := 4) (v := .ref m5) (C := RX4) (T := TX4) (N := 13) hx hb hts iu_X4_deed_X4 hown hK hP 0 rfl rfl 5 (by decide) (hts _ (List.mem_of_getElem? (i := 2) rfl)) (fun _ h9 => h9) rfl dX4_deed_44 ?_
  refine lv_aload_n hx hb dX4_deed_47 rfl (lv_at hl 1 rfl) ?_
  refine va_get (D := D) (ci := 4) (v := .int (nI n)) (C := RX4) (T := TX4) (N := 13) hx hb hts iu_X4_deed_X4 hown hK hP 0 rfl rfl 8 (by decide) (hts _ (List.mem_of_getElem? (i := 1) rfl)) (fun _ h9 => h9) rfl dX4_deed_48 ?_
  refine lv_dup2_11 hx hb dX4_deed_51 rfl rfl ?_
  refine k_iald hx hb hK hP 5 0 (i := n) rfl rfl (by omega) (by decide) dX4_deed_52 ?_
  refine k_top (y := (nI (M n))) rfl ?_
  refine lv_iconst (v := (nI 1)) hx hb dX4_deed_53 (by decide) ?_
  refine k_iadd hx hb dX4_deed_54 ?_
  refine k_iast (w2 := [(z, .inr (4, [.int th, .ref m1, .ref m2, .ref m3, .ref m4, .ref m5, .ref m6, .ref m7, .int (nI n), .int (nI nc), .ref m8, .ref m9, .ref m10])), (m1, .inl (cI, 8, .inl f)), (m2, .inl (cI, 480, .inl (upd K ((n * 12) + (M n)) kd))), (m3, .inl (cI, 480, .inl (nF (upN O ((n * 12) + (M n)) j)))), (m4, .inl (cI, 480, .inl (upd T ((n * 12) + (M n)) tw))), (m5, .inl (cI, 41, .inl (nF (upN M n ((M n) + 1))))), (m6, .inl (cI, 40, .inl Z)), (m7, .inl (cZ, 40, .inl (prF k))), (m8, .inl (cI, 6, .inl (nF Y))), (m9, .inl (cI, 48, .inl G)), (m10, .inl (cI, 8, .inl g))]) hx hb hK hP hD hS 5 0 (i := n) rfl rfl (by omega) (by decide) dX4_deed_55 (g := nF (upN M n ((M n) + 1))) (nF_upd M n ((M n) + 1)) rfl (fun H locs hP hD hS => ?_)
  refine lv_aload_n hx hb dX4_deed_56 rfl (lv_at hl 1 rfl) ?_
  refine lv_aload_n hx hb dX4_deed_57 rfl (lv_at hl 1 rfl) ?_
  refine va_get (D := D) (ci := 4) (v := .ref m1) (C := RX4) (T := TX4) (N := 13) hx hb hts iu_X4_deed_X4 hown hK hP 0 rfl rfl 1 (by decide) (hts _ (List.mem_of_getElem? (i := 6) rfl)) (fun _ h9 => h9) rfl dX4_deed_58 ?_
  refine lv_iload hx hb dX4_deed_61 (lv_at hl 0 rfl) ?_
  refine kM_callV (As := [.ref m1, .int (nI ((n * 12) + (M n)))]) (rest := []) (wr := [(m5, .inl (cI, 41, .inl (nF (upN M n ((M n) + 1))))), (m6, .inl (cI, 40, .inl Z)), (m7, .inl (cZ, 40, .inl (prF k))), (m8, .inl (cI, 6, .inl (nF Y))), (m9, .inl (cI, 48, .inl G)), (m10, .inl (cI, 8, .inl g))]) (w2 := fun _ => [(z, .inr (4, [.int th, .ref m1, .ref m2, .ref m3, .ref m4, .ref m5, .ref m6, .ref m7, .int (nI n), .int (nI nc), .ref m8, .ref m9, .ref m10])), (m1, .inl (cI, 8, .inl (perf f ((upd K ((n * 12) + (M n)) kd) ((n * 12) + (M n))) ((upN O ((n * 12) + (M n)) j) ((n * 12) + (M n))) ((upd T ((n * 12) + (M n)) tw) ((n * 12) + (M n)))))), (m2, .inl (cI, 480, .inl (upd K ((n * 12) + (M n)) kd))), (m3, .inl (cI, 480, .inl (nF (upN O ((n * 12) + (M n)) j)))), (m4, .inl (cI, 480, .inl (upd T ((n * 12) + (M n)) tw))), (m5, .inl (cI, 41, .inl (nF (upN M n ((M n) + 1))))), (m6, .inl (cI, 40, .inl Z)), (m7, .inl (cZ, 40, .inl (prF k))), (m8, .inl (cI, 6, .inl (nF Y))), (m9, .inl (cI, 48, .inl G)), (m10, .inl (cI, 8, .inl g))]) (st2 := fun _ => []) (k := 0) (n2 := 0) ⟨hx, hb, hml, hown, hts⟩ (c_X4_work l D cI cZ z m1 m2 m3 m4 m5 m6 m7 m8 m9 m10 m1 th (upd K ((n * 12) + (M n)) kd) (upN O ((n * 12) + (M n)) j) (upd T ((n * 12) + (M n)) tw) n nc f ((n * 12) + (M n)) (by omega) (up_lt hO hj)) (cwV 2 hts gX4_deed_X4_work rfl rfl rfl (by decide +kernel) ⟨Nat.le_of_ble_eq_true rfl, Nat.le_of_ble_eq_true rfl⟩) 0 rfl rfl rfl [0, 1] rfl hK hP hD hS hA [0, 2, 3, 4, 1] [5, 6, 7, 8, 9, 10] rfl (by decide) rfl (by decide) (by decide) [6, 10, 7, 8, 9, 0, 1, 2, 3, 4, 5] (by decide) (fun _ => rfl) (Nat.le_refl _) (Nat.le_refl _) (Nat.le_of_ble_eq_true rfl) (Nat.le_of_ble_eq_true rfl) rfl hl.1 (Nat.le_of_ble_eq_true rfl) (fun _ => rfl) rfl dX4_deed_63 (fun u H locs hu hP hD hS => ?_)
  refine lv_aload_n hx hb dX4_deed_66 rfl (lv_at hl 1 rfl) ?_
  refine va_get (D := D) (ci := 4) (v := .ref m1) (C := RX4) (T := TX4) (N := 13) hx hb hts iu_X4_deed_X4 hown hK hP 0 rfl rfl 1 (by decide) (hts _ (List.mem_of_getElem? (i := 6) rfl)) (fun _ h9 => h9) rfl dX4_deed_67 ?_
  refine lv_iload_n hx hb dX4_deed_70 rfl (lv_at hl 3 rfl) ?_
  refine k_iald hx hb hK hP 1 0 (i := j) rfl rfl (by omega) (by decide) dX4_deed_71 ?_
  have eK : upd K (n * 12 + M n) kd (n * 12 + M n) = kd := pk_us
  have eT : upd T (n * 12 + M n) tw (n * 12 + M n) = tw := pk_us
  have eO : upN O (n * 12 + M n) j (n * 12 + M n) = j := if_pos rfl
  exact kM_iret hx hb hr hlk hQ hP hD hK hS () (by rw [eK, eT, eO]) (Nat.le_of_ble_eq_true rfl) (Nat.le_of_ble_eq_true rfl) (congrArg (fun z => some (Value.int z)) (by rw [eK, eT, eO])) trivial dX4_deed_72
theorem iu_X4_amount_X4 : ∀ w ∈ wsX40, w ∈ wsX4_amount := fun w h => (List.mem_cons_of_mem _ (List.mem_append_right _ h))
def rm_c_X4_amount : Room := { frames := 3, cells := 0, slots := 0, locals := 72 }
set_option maxHeartbeats 4000000 in
set_option maxRecDepth 100000 in
theorem c_X4_amount (l : Launch) (D : va_G) (cI : ClassId) (cZ : ClassId) (z m1 m2 m3 m4 m5 m6 m7 m8 m9 m10 : Nat) (th : Int32) (f K : Nat → Int32) (O : Nat → Nat) (T : Nat → Int32) (M : Nat → Nat) (Z : Nat → Int32) (k n nc : Nat) (Y : Nat → Nat) (G g : Nat → Int32) (kd : Int32) (j : Nat) (v : Int32) (hn : n ≤ 40) (hk : k ≤ n) (hc : nc ≤ 6) (hM : ∀ i, M i ≤ 12) (hO : ∀ i, O i < 8) (hY : ∀ i, Y i ≤ 40) (hj : j < 8) (hv1 : ¬ v < nI 1) (hv2 : v ≤ nI 99) (hroom : n < 40 ∧ M n < 12) :
    kM l yX4_amount wsX4_amount rm_c_X4_amount D [(cI, FieldType.int), (cZ, FieldType.boolean)] [.ref z, .int kd, .int (nI j), .int v] [(z, .inr (4, [.int th, .ref m1, .ref m2, .ref m3, .ref m4, .ref m5, .ref m6, .ref m7, .int (nI n), .int (nI nc), .ref m8, .ref m9, .ref m10])), (m1, .inl (cI, 8, .inl f)), (m2, .inl (cI, 480, .inl K)), (m3, .inl (cI, 480, .inl (nF O))), (m4, .inl (cI, 480, .inl T)), (m5, .inl (cI, 41, .inl (nF M))), (m6, .inl (cI, 40, .inl Z)), (m7, .inl (cZ, 40, .inl (prF k))), (m8, .inl (cI, 6, .inl (nF Y))), (m9, .inl (cI, 48, .inl G)), (m10, .inl (cI, 8, .inl g))] (fun _ : Unit => True) (fun _ => some (.int (perf f kd j v j))) (fun _ => [(z, .inr (4, [.int (nI 0), .ref m1, .ref m2, .ref m3, .ref m4, .ref m5, .ref m6, .ref m7, .int (nI n), .int (nI nc), .ref m8, .ref m9, .ref m10])), (m1, .inl (cI, 8, .inl (perf f kd j v))), (m2, .inl (cI, 480, .inl (upd K (n * 12 + M n) kd))), (m3, .inl (cI, 480, .inl (nF (upN O (n * 12 + M n) j)))), (m4, .inl (cI, 480, .inl (upd T (n * 12 + M n) v))), (m5, .inl (cI, 41, .inl (nF (upN M n (M n + 1))))), (m6, .inl (cI, 40, .inl Z)), (m7, .inl (cZ, 40, .inl (prF k))), (m8, .inl (cI, 6, .inl (nF Y))), (m9, .inl (cI, 48, .inl G)), (m10, .inl (cI, 8, .inl g))]) := by
  refine kM_of (cc := cX4_amount) (maxL := 4) (ret := (some .int)) (own := RX4) (by decide) rfl rfl (Nat.le_of_ble_eq_true rfl) ?_
  intro p e s m args below meth c A ls Qz hx hb hml hr hts hown hlk hin hQ hA hS hP hD hK hl
  have hl : lv_has ls 4 [(0, .ref z), (1, .int kd), (2, .int (nI j)), (3, .int v)] := hl
  refine lv_aload_n hx hb dX4_amount_0 rfl (lv_at hl 0 rfl) ?_
  refine lv_iconst (v := (nI 0)) hx hb dX4_amount_1 (by decide) ?_
  refine va_put (D := D) (ci := 4) (v := .int (nI 0)) (ty := .int) (C := RX4) (T := TX4) (N := 13) hx hb hts iu_X4_amount_X4 tyX4 tyX4_ok nmX4 hown hK hP hD hS 0 rfl rfl 0 (by decide) (hts _ (List.mem_of_getElem? (i := 1) rfl)) (fun _ h9 => h9) rfl (by decide +kernel) rfl rfl (Nat.le_of_ble_eq_true rfl) dX4_amount_2 (fun H locs hP hD hS => ?_)
  have hP : va_P D vwCl [(z, .inr (4, [.int (nI 0), .ref m1, .ref m2, .ref m3, .ref m4, .ref m5, .ref m6, .ref m7, .int (nI n), .int (nI nc), .ref m8, .ref m9, .ref m10])), (m1, .inl (cI, 8, .inl f)), (m2, .inl (cI, 480, .inl K)), (m3, .inl (cI, 480, .inl (nF O))), (m4, .inl (cI, 480, .inl T)), (m5, .inl (cI, 41, .inl (nF M))), (m6, .inl (cI, 40, .inl Z)), (m7, .inl (cZ, 40, .inl (prF k))), (m8, .inl (cI, 6, .inl (nF Y))), (m9, .inl (cI, 48, .inl G)), (m10, .inl (cI, 8, .inl g))] H := hP
  have hD : va_D A [(z, .inr (4, [.int (nI 0), .ref m1, .ref m2, .ref m3, .ref m4, .ref m5, .ref m6, .ref m7, .int (nI n), .int (nI nc), .ref m8, .ref m9, .ref m10])), (m1, .inl (cI, 8, .inl f)), (m2, .inl (cI, 480, .inl K)), (m3, .inl (cI, 480, .inl (nF O))), (m4, .inl (cI, 480, .inl T)), (m5, .inl (cI, 41, .inl (nF M))), (m6, .inl (cI, 40, .inl Z)), (m7, .inl (cZ, 40, .inl (prF k))), (m8, .inl (cI, 6, .inl (nF Y))), (m9, .inl (cI, 48, .inl G)), (m10, .inl (cI, 8, .inl g))] := hD
  refine lv_iload_n hx hb dX4_amount_5 rfl (lv_at hl 2 rfl) ?_
  refine kM_callS (As := [.int (nI j)]) (rest := []) (wr := [(z, .inr (4, [.int (nI 0), .ref m1, .ref m2, .ref m3, .ref m4, .ref m5, .ref m6, .ref m7, .int (nI n), .int (nI nc), .ref m8, .ref m9, .ref m10])), (m1, .inl (cI, 8, .inl f)), (m2, .inl (cI, 480, .inl K)), (m3, .inl (cI, 480, .inl (nF O))), (m4, .inl (cI, 480, .inl T)), (m5, .inl (cI, 41, .inl (nF M))), (m6, .inl (cI, 40, .inl Z)), (m7, .inl (cZ, 40, .inl (prF k))), (m8, .inl (cI, 6, .inl (nF Y))), (m9, .inl (cI, 48, .inl G)), (m10, .inl (cI, 8, .inl g))]) (w2 := fun _ => [(z, .inr (4, [.int (nI 0), .ref m1, .ref m2, .ref m3, .ref m4, .ref m5, .ref m6, .ref m7, .int (nI n), .int (nI nc), .ref m8, .ref m9, .ref m10])), (m1, .inl (cI, 8, .inl f)), (m2, .inl (cI, 480, .inl K)), (m3, .inl (cI, 480, .inl (nF O))), (m4, .inl (cI, 480, .inl T)), (m5, .inl (cI, 41, .inl (nF M))), (m6, .inl (cI, 40, .inl Z)), (m7, .inl (cZ, 40, .inl (prF k))), (m8, .inl (cI, 6, .inl (nF Y))), (m9, .inl (cI, 48, .inl G)), (m10, .inl (cI, 8, .inl g))]) (st2 := fun _ => [.int (nI 1)]) (k := 0) (n2 := 0) ⟨hx, hb, hml, hown, hts⟩ (c_X4_isPlace_t l D cI cZ j hj) (va_cwS 1 hts gX4_amount_X4_isPlace rfl rfl rfl (by decide +kernel) ⟨Nat.le_of_ble_eq_true rfl, Nat.le_of_ble_eq_true rfl⟩) [0, 1] rfl hK hP hD hS hA [] [0, 1, 2, 3, 4, 5, 6, 7, 8, 9, 10] rfl (by decide) rfl (by decide) (by decide) [0, 1, 2, 3, 4, 5, 6, 7, 8, 9, 10] (by decide) (fun _ => rfl) (Nat.le_refl _) (Nat.le_refl _) (Nat.le_of_ble_eq_true rfl) (Nat.le_of_ble_eq_true rfl) rfl hl.1 (Nat.le_of_ble_eq_true rfl) (fun _ => rfl) rfl dX4_amount_6 (fun u H locs hu hP hD hS => ?_)
  refine k_if_ne hx hb (tgt := 18) (by decide) dX4_amount_9 (by decide) (fun c_1 => ?_) (fun h => absurd h (by decide))
  refine lv_iload_n hx hb dX4_amount_18 rfl (lv_at hl 3 rfl) ?_
  refine lv_iconst (v := (nI 1)) hx hb dX4_amount_19 (by decide) ?_
  refine lv_bipush (v := (nI 99)) hx hb dX4_amount_20 (by decide) ?_
  refine kM_callS (As := [.int v, .int (nI 1), .int (nI 99)]) (rest := []) (wr := [(z, .inr (4, [.int (nI 0), .ref m1, .ref m2, .ref m3, .ref m4, .ref m5, .ref m6, .ref m7, .int (nI n), .int (nI nc), .ref m8, .ref m9, .ref m10])), (m1, .inl (cI, 8, .inl f)), (m2, .inl (cI, 480, .inl K)), (m3, .inl (cI, 480, .inl (nF O))), (m4, .inl (cI, 480, .inl T)), (m5, .inl (cI, 41, .inl (nF M))), (m6, .inl (cI, 40, .inl Z)), (m7, .inl (cZ, 40, .inl (prF k))), (m8, .inl (cI, 6, .inl (nF Y))), (m9, .inl (cI, 48, .inl G)), (m10, .inl (cI, 8, .inl g))]) (w2 := fun _ => [(z, .inr (4, [.int (nI 0), .ref m1, .ref m2, .ref m3, .ref m4, .ref m5, .ref m6, .ref m7, .int (nI n), .int (nI nc), .ref m8, .ref m9, .ref m10])), (m1, .inl (cI, 8, .inl f)), (m2, .inl (cI, 480, .inl K)), (m3, .inl (cI, 480, .inl (nF O))), (m4, .inl (cI, 480, .inl T)), (m5, .inl (cI, 41, .inl (nF M))), (m6, .inl (cI, 40, .inl Z)), (m7, .inl (cZ, 40, .inl (prF k))), (m8, .inl (cI, 6, .inl (nF Y))), (m9, .inl (cI, 48, .inl G)), (m10, .inl (cI, 8, .inl g))]) (st2 := fun _ => [.int (nI 1)]) (k := 0) (n2 := 0) ⟨hx, hb, hml, hown, hts⟩ (c_X4_isIn_t l D cI cZ v (nI 1) (nI 99) hv1 (Int32.not_lt.mpr hv2)) (va_cwS 3 hts gX4_amount_X4_isIn rfl rfl rfl (by decide +kernel) ⟨Nat.le_of_ble_eq_true rfl, Nat.le_of_ble_eq_true rfl⟩) [0, 1] rfl hK hP hD hS hA [] [0, 1, 2, 3, 4, 5, 6, 7, 8, 9, 10] rfl (by decide) rfl (by decide) (by decide) [0, 1, 2, 3, 4, 5, 6, 7, 8, 9, 10] (by decide) (fun _ => rfl) (Nat.le_refl _) (Nat.le_refl _) (Nat.le_of_ble_eq_true rfl) (Nat.le_of_ble_eq_true rfl) rfl hl.1 (Nat.le_of_ble_eq_true rfl) (fun _ => rfl) rfl dX4_amount_22 (fun u H locs hu hP hD hS => ?_)
  refine k_if_ne hx hb (tgt := 34) (by decide) dX4_amount_25 (by decide) (fun c_2 => ?_) (fun h => absurd h (by decide))
  refine lv_aload_n hx hb dX4_amount_34 rfl (lv_at hl 0 rfl) ?_
  refine kM_callV (As := []) (rest := []) (wr := []) (w2 := fun _ => [(z, .inr (4, [.int (nI 0), .ref m1, .ref m2, .ref m3, .ref m4, .ref m5, .ref m6, .ref m7, .int (nI n), .int (nI nc), .ref m8, .ref m9, .ref m10])), (m1, .inl (cI, 8, .inl f)), (m2, .inl (cI, 480, .inl K)), (m3, .inl (cI, 480, .inl (nF O))), (m4, .inl (cI, 480, .inl T)), (m5, .inl (cI, 41, .inl (nF M))), (m6, .inl (cI, 40, .inl Z)), (m7, .inl (cZ, 40, .inl (prF k))), (m8, .inl (cI, 6, .inl (nF Y))), (m9, .inl (cI, 48, .inl G)), (m10, .inl (cI, 8, .inl g))]) (st2 := fun _ => [.int (nI 0)]) (k := 0) (n2 := 0) ⟨hx, hb, hml, hown, hts⟩ (c_X4_isFull_f l D cI cZ z m1 m2 m3 m4 m5 m6 m7 m8 m9 m10 (nI 0) f K O T M Z k n nc Y G g hn hk hc hM hO hY hroom) (cwV 0 hts gX4_amount_X4_isFull rfl rfl rfl (by decide +kernel) ⟨Nat.le_of_ble_eq_true rfl, Nat.le_of_ble_eq_true rfl⟩) 0 rfl rfl rfl [0, 1] rfl hK hP hD hS hA [0, 1, 2, 3, 4, 5, 6, 7, 8, 9, 10] [] rfl (by decide) rfl (by decide) (by decide) [0, 1, 2, 3, 4, 5, 6, 7, 8, 9, 10] (by decide) (fun _ => rfl) (Nat.le_refl _) (Nat.le_refl _) (Nat.le_of_ble_eq_true rfl) (Nat.le_of_ble_eq_true rfl) rfl hl.1 (Nat.le_of_ble_eq_true rfl) (fun _ => rfl) rfl dX4_amount_35 (fun u H locs hu hP hD hS => ?_)
  refine k_if_eq hx hb (tgt := 49) (by decide) dX4_amount_38 (by decide) (fun c_3 => ?_) (fun h => absurd h (by decide))
  refine lv_aload_n hx hb dX4_amount_49 rfl (lv_at hl 0 rfl) ?_
  refine lv_iload_n hx hb dX4_amount_50 rfl (lv_at hl 1 rfl) ?_
  refine lv_iload_n hx hb dX4_amount_51 rfl (lv_at hl 2 rfl) ?_
  refine lv_iload_n hx hb dX4_amount_52 rfl (lv_at hl 3 rfl) ?_
  refine kM_callV (As := [.int kd, .int (nI j), .int v]) (rest := []) (wr := []) (w2 := fun _ => [(z, .inr (4, [.int (nI 0), .ref m1, .ref m2, .ref m3, .ref m4, .ref m5, .ref m6, .ref m7, .int (nI n), .int (nI nc), .ref m8, .ref m9, .ref m10])), (m1, .inl (cI, 8, .inl (perf f kd j v))), (m2, .inl (cI, 480, .inl (upd K (n * 12 + M n) kd))), (m3, .inl (cI, 480, .inl (nF (upN O (n * 12 + M n) j)))), (m4, .inl (cI, 480, .inl (upd T (n * 12 + M n) v))), (m5, .inl (cI, 41, .inl (nF (upN M n (M n + 1))))), (m6, .inl (cI, 40, .inl Z)), (m7, .inl (cZ, 40, .inl (prF k))), (m8, .inl (cI, 6, .inl (nF Y))), (m9, .inl (cI, 48, .inl G)), (m10, .inl (cI, 8, .inl g))]) (st2 := fun _ => [.int (perf f kd j v j)]) (k := 0) (n2 := 0) ⟨hx, hb, hml, hown, hts⟩ (c_X4_deed l D cI cZ z m1 m2 m3 m4 m5 m6 m7 m8 m9 m10 (nI 0) f K O T M Z k n nc Y G g kd j v hn hk hc hM hO hY hj hroom) (cwV 3 hts gX4_amount_X4_deed rfl rfl rfl (by decide +kernel) ⟨Nat.le_of_ble_eq_true rfl, Nat.le_of_ble_eq_true rfl⟩) 0 rfl rfl rfl [0, 1] rfl hK hP hD hS hA [0, 1, 2, 3, 4, 5, 6, 7, 8, 9, 10] [] rfl (by decide) rfl (by decide) (by decide) [0, 1, 2, 3, 4, 5, 6, 7, 8, 9, 10] (by decide) (fun _ => rfl) (Nat.le_refl _) (Nat.le_refl _) (Nat.le_of_ble_eq_true rfl) (Nat.le_of_ble_eq_true rfl) rfl hl.1 (Nat.le_of_ble_eq_true rfl) (fun _ => rfl) rfl dX4_amount_53 (fun u H locs hu hP hD hS => ?_)
  exact kM_iret hx hb hr hlk hQ hP hD hK hS () rfl (Nat.le_of_ble_eq_true rfl) (Nat.le_of_ble_eq_true rfl) rfl trivial dX4_amount_56
theorem iu_X4_snow_X4 : ∀ w ∈ wsX40, w ∈ wsX4_snow := fun w h => (List.mem_cons_of_mem _ (List.mem_append_right _ h))
def rm_c_X4_snow : Room := { frames := 4, cells := 0, slots := 0, locals := 95 }
set_option maxHeartbeats 4000000 in
set_option maxRecDepth 100000 in
theorem c_X4_snow (l : Launch) (D : va_G) (cI : ClassId) (cZ : ClassId) (z m1 m2 m3 m4 m5 m6 m7 m8 m9 m10 : Nat) (th : Int32) (f K : Nat → Int32) (O : Nat → Nat) (T : Nat → Int32) (M : Nat → Nat) (Z : Nat → Int32) (k n nc : Nat) (Y : Nat → Nat) (G g : Nat → Int32) (j : Nat) (v : Int32) (hn : n ≤ 40) (hk : k ≤ n) (hc : nc ≤ 6) (hM : ∀ i, M i ≤ 12) (hO : ∀ i, O i < 8) (hY : ∀ i, Y i ≤ 40) (hj : j < 8) (hv1 : ¬ v < nI 1) (hv2 : v ≤ nI 99) (hroom : n < 40 ∧ M n < 12) :
    kM l yX4_snow wsX4_snow rm_c_X4_snow D [(cI, FieldType.int), (cZ, FieldType.boolean)] [.ref z, .int (nI j), .int v] [(z, .inr (4, [.int th, .ref m1, .ref m2, .ref m3, .ref m4, .ref m5, .ref m6, .ref m7, .int (nI n), .int (nI nc), .ref m8, .ref m9, .ref m10])), (m1, .inl (cI, 8, .inl f)), (m2, .inl (cI, 480, .inl K)), (m3, .inl (cI, 480, .inl (nF O))), (m4, .inl (cI, 480, .inl T)), (m5, .inl (cI, 41, .inl (nF M))), (m6, .inl (cI, 40, .inl Z)), (m7, .inl (cZ, 40, .inl (prF k))), (m8, .inl (cI, 6, .inl (nF Y))), (m9, .inl (cI, 48, .inl G)), (m10, .inl (cI, 8, .inl g))] (fun _ : Unit => True) (fun _ => some (.int (perf f (nI 0) j v j))) (fun _ => [(z, .inr (4, [.int (nI 0), .ref m1, .ref m2, .ref m3, .ref m4, .ref m5, .ref m6, .ref m7, .int (nI n), .int (nI nc), .ref m8, .ref m9, .ref m10])), (m1, .inl (cI, 8, .inl (perf f (nI 0) j v))), (m2, .inl (cI, 480, .inl (upd K (n * 12 + M n) (nI 0)))), (m3, .inl (cI, 480, .inl (nF (upN O (n * 12 + M n) j)))), (m4, .inl (cI, 480, .inl (upd T (n * 12 + M n) v))), (m5, .inl (cI, 41, .inl (nF (upN M n (M n + 1))))), (m6, .inl (cI, 40, .inl Z)), (m7, .inl (cZ, 40, .inl (prF k))), (m8, .inl (cI, 6, .inl (nF Y))), (m9, .inl (cI, 48, .inl G)), (m10, .inl (cI, 8, .inl g))]) := by
  refine kM_of (cc := cX4_snow) (maxL := 3) (ret := (some .int)) (own := RX4) (by decide) rfl rfl (Nat.le_of_ble_eq_true rfl) ?_
  intro p e s m args below meth c A ls Qz hx hb hml hr hts hown hlk hin hQ hA hS hP hD hK hl
  have hl : lv_has ls 3 [(0, .ref z), (1, .int (nI j)), (2, .int v)] := hl
  refine lv_aload_n hx hb dX4_snow_0 rfl (lv_at hl 0 rfl) ?_
  refine lv_iconst (v := (nI 0)) hx hb dX4_snow_1 (by decide) ?_
  refine lv_iload_n hx hb dX4_snow_2 rfl (lv_at hl 1 rfl) ?_
  refine lv_iload_n hx hb dX4_snow_3 rfl (lv_at hl 2 rfl) ?_
  refine kM_callV (As := [.int (nI 0), .int (nI j), .int v]) (rest := []) (wr := []) (w2 := fun _ => [(z, .inr (4, [.int (nI 0), .ref m1, .ref m2, .ref m3, .ref m4, .ref m5, .ref m6, .ref m7, .int (nI n), .int (nI nc), .ref m8, .ref m9, .ref m10])), (m1, .inl (cI, 8, .inl (perf f (nI 0) j v))), (m2, .inl (cI, 480, .inl (upd K (n * 12 + M n) (nI 0)))), (m3, .inl (cI, 480, .inl (nF (upN O (n * 12 + M n) j)))), (m4, .inl (cI, 480, .inl (upd T (n * 12 + M n) v))), (m5, .inl (cI, 41, .inl (nF (upN M n (M n + 1))))), (m6, .inl (cI, 40, .inl Z)), (m7, .inl (cZ, 40, .inl (prF k))), (m8, .inl (cI, 6, .inl (nF Y))), (m9, .inl (cI, 48, .inl G)), (m10, .inl (cI, 8, .inl g))]) (st2 := fun _ => [.int (perf f (nI 0) j v j)]) (k := 0) (n2 := 0) ⟨hx, hb, hml, hown, hts⟩ (c_X4_amount l D cI cZ z m1 m2 m3 m4 m5 m6 m7 m8 m9 m10 th f K O T M Z k n nc Y G g (nI 0) j v hn hk hc hM hO hY hj hv1 hv2 hroom) (cwV 3 hts gX4_snow_X4_amount rfl rfl rfl (by decide +kernel) ⟨Nat.le_of_ble_eq_true rfl, Nat.le_of_ble_eq_true rfl⟩) 0 rfl rfl rfl [0, 1] rfl hK hP hD hS hA [0, 1, 2, 3, 4, 5, 6, 7, 8, 9, 10] [] rfl (by decide) rfl (by decide) (by decide) [0, 1, 2, 3, 4, 5, 6, 7, 8, 9, 10] (by decide) (fun _ => rfl) (Nat.le_refl _) (Nat.le_refl _) (Nat.le_of_ble_eq_true rfl) (Nat.le_of_ble_eq_true rfl) rfl hl.1 (Nat.le_of_ble_eq_true rfl) (fun _ => rfl) rfl dX4_snow_4 (fun u H locs hu hP hD hS => ?_)
  exact kM_iret hx hb hr hlk hQ hP hD hK hS () rfl (Nat.le_of_ble_eq_true rfl) (Nat.le_of_ble_eq_true rfl) rfl trivial dX4_snow_7
theorem iu_X4_melt_X4 : ∀ w ∈ wsX40, w ∈ wsX4_melt := fun w h => (List.mem_cons_of_mem _ (List.mem_append_right _ h))
def rm_c_X4_melt : Room := { frames := 4, cells := 0, slots := 0, locals := 95 }
set_option maxHeartbeats 4000000 in
set_option maxRecDepth 100000 in
theorem c_X4_melt (l : Launch) (D : va_G) (cI : ClassId) (cZ : ClassId) (z m1 m2 m3 m4 m5 m6 m7 m8 m9 m10 : Nat) (th : Int32) (f K : Nat → Int32) (O : Nat → Nat) (T : Nat → Int32) (M : Nat → Nat) (Z : Nat → Int32) (k n nc : Nat) (Y : Nat → Nat) (G g : Nat → Int32) (j : Nat) (v : Int32) (hn : n ≤ 40) (hk : k ≤ n) (hc : nc ≤ 6) (hM : ∀ i, M i ≤ 12) (hO : ∀ i, O i < 8) (hY : ∀ i, Y i ≤ 40) (hj : j < 8) (hv1 : ¬ v < nI 1) (hv2 : v ≤ nI 99) (hroom : n < 40 ∧ M n < 12) :
    kM l yX4_melt wsX4_melt rm_c_X4_melt D [(cI, FieldType.int), (cZ, FieldType.boolean)] [.ref z, .int (nI j), .int v] [(z, .inr (4, [.int th, .ref m1, .ref m2, .ref m3, .ref m4, .ref m5, .ref m6, .ref m7, .int (nI n), .int (nI nc), .ref m8, .ref m9, .ref m10])), (m1, .inl (cI, 8, .inl f)), (m2, .inl (cI, 480, .inl K)), (m3, .inl (cI, 480, .inl (nF O))), (m4, .inl (cI, 480, .inl T)), (m5, .inl (cI, 41, .inl (nF M))), (m6, .inl (cI, 40, .inl Z)), (m7, .inl (cZ, 40, .inl (prF k))), (m8, .inl (cI, 6, .inl (nF Y))), (m9, .inl (cI, 48, .inl G)), (m10, .inl (cI, 8, .inl g))] (fun _ : Unit => True) (fun _ => some (.int (perf f (nI 1) j v j))) (fun _ => [(z, .inr (4, [.int (nI 0), .ref m1, .ref m2, .ref m3, .ref m4, .ref m5, .ref m6, .ref m7, .int (nI n), .int (nI nc), .ref m8, .ref m9, .ref m10])), (m1, .inl (cI, 8, .inl (perf f (nI 1) j v))), (m2, .inl (cI, 480, .inl (upd K (n * 12 + M n) (nI 1)))), (m3, .inl (cI, 480, .inl (nF (upN O (n * 12 + M n) j)))), (m4, .inl (cI, 480, .inl (upd T (n * 12 + M n) v))), (m5, .inl (cI, 41, .inl (nF (upN M n (M n + 1))))), (m6, .inl (cI, 40, .inl Z)), (m7, .inl (cZ, 40, .inl (prF k))), (m8, .inl (cI, 6, .inl (nF Y))), (m9, .inl (cI, 48, .inl G)), (m10, .inl (cI, 8, .inl g))]) := by
  refine kM_of (cc := cX4_melt) (maxL := 3) (ret := (some .int)) (own := RX4) (by decide) rfl rfl (Nat.le_of_ble_eq_true rfl) ?_
  intro p e s m args below meth c A ls Qz hx hb hml hr hts hown hlk hin hQ hA hS hP hD hK hl
  have hl : lv_has ls 3 [(0, .ref z), (1, .int (nI j)), (2, .int v)] := hl
  refine lv_aload_n hx hb dX4_melt_0 rfl (lv_at hl 0 rfl) ?_
  refine lv_iconst (v := (nI 1)) hx hb dX4_melt_1 (by decide) ?_
  refine lv_iload_n hx hb dX4_melt_2 rfl (lv_at hl 1 rfl) ?_
  refine lv_iload_n hx hb dX4_melt_3 rfl (lv_at hl 2 rfl) ?_
  refine kM_callV (As := [.int (nI 1), .int (nI j), .int v]) (rest := []) (wr := []) (w2 := fun _ => [(z, .inr (4, [.int (nI 0), .ref m1, .ref m2, .ref m3, .ref m4, .ref m5, .ref m6, .ref m7, .int (nI n), .int (nI nc), .ref m8, .ref m9, .ref m10])), (m1, .inl (cI, 8, .inl (perf f (nI 1) j v))), (m2, .inl (cI, 480, .inl (upd K (n * 12 + M n) (nI 1)))), (m3, .inl (cI, 480, .inl (nF (upN O (n * 12 + M n) j)))), (m4, .inl (cI, 480, .inl (upd T (n * 12 + M n) v))), (m5, .inl (cI, 41, .inl (nF (upN M n (M n + 1))))), (m6, .inl (cI, 40, .inl Z)), (m7, .inl (cZ, 40, .inl (prF k))), (m8, .inl (cI, 6, .inl (nF Y))), (m9, .inl (cI, 48, .inl G)), (m10, .inl (cI, 8, .inl g))]) (st2 := fun _ => [.int (perf f (nI 1) j v j)]) (k := 0) (n2 := 0) ⟨hx, hb, hml, hown, hts⟩ (c_X4_amount l D cI cZ z m1 m2 m3 m4 m5 m6 m7 m8 m9 m10 th f K O T M Z k n nc Y G g (nI 1) j v hn hk hc hM hO hY hj hv1 hv2 hroom) (cwV 3 hts gX4_melt_X4_amount rfl rfl rfl (by decide +kernel) ⟨Nat.le_of_ble_eq_true rfl, Nat.le_of_ble_eq_true rfl⟩) 0 rfl rfl rfl [0, 1] rfl hK hP hD hS hA [0, 1, 2, 3, 4, 5, 6, 7, 8, 9, 10] [] rfl (by decide) rfl (by decide) (by decide) [0, 1, 2, 3, 4, 5, 6, 7, 8, 9, 10] (by decide) (fun _ => rfl) (Nat.le_refl _) (Nat.le_refl _) (Nat.le_of_ble_eq_true rfl) (Nat.le_of_ble_eq_true rfl) rfl hl.1 (Nat.le_of_ble_eq_true rfl) (fun _ => rfl) rfl dX4_melt_4 (fun u H locs hu hP hD hS => ?_)
  exact kM_iret hx hb hr hlk hQ hP hD hK hS () rfl (Nat.le_of_ble_eq_true rfl) (Nat.le_of_ble_eq_true rfl) rfl trivial dX4_melt_7
def rm_c_X4_amount_1 : Room := { frames := 3, cells := 0, slots := 0, locals := 72 }
set_option maxHeartbeats 4000000 in
set_option maxRecDepth 100000 in
theorem c_X4_amount_1 (l : Launch) (D : va_G) (cI : ClassId) (cZ : ClassId) (z m1 m2 m3 m4 m5 m6 m7 m8 m9 m10 : Nat) (th : Int32) (f K : Nat → Int32) (O : Nat → Nat) (T : Nat → Int32) (M : Nat → Nat) (Z : Nat → Int32) (k n nc : Nat) (Y : Nat → Nat) (G g : Nat → Int32) (kd p_ v : Int32) (hn : n ≤ 40) (hk : k ≤ n) (hc : nc ≤ 6) (hM : ∀ i, M i ≤ 12) (hO : ∀ i, O i < 8) (hY : ∀ i, Y i ≤ 40) (hv : p_ < 0 ∨ ¬ p_ < nI 8) :
    kM l yX4_amount wsX4_amount rm_c_X4_amount_1 D [(cI, FieldType.int), (cZ, FieldType.boolean)] [.ref z, .int kd, .int p_, .int v] [(z, .inr (4, [.int th, .ref m1, .ref m2, .ref m3, .ref m4, .ref m5, .ref m6, .ref m7, .int (nI n), .int (nI nc), .ref m8, .ref m9, .ref m10])), (m1, .inl (cI, 8, .inl f)), (m2, .inl (cI, 480, .inl K)), (m3, .inl (cI, 480, .inl (nF O))), (m4, .inl (cI, 480, .inl T)), (m5, .inl (cI, 41, .inl (nF M))), (m6, .inl (cI, 40, .inl Z)), (m7, .inl (cZ, 40, .inl (prF k))), (m8, .inl (cI, 6, .inl (nF Y))), (m9, .inl (cI, 48, .inl G)), (m10, .inl (cI, 8, .inl g))] (fun _ : Unit => True) (fun _ => some (.int (nI 0))) (fun _ => [(z, .inr (4, [.int (nI 1), .ref m1, .ref m2, .ref m3, .ref m4, .ref m5, .ref m6, .ref m7, .int (nI n), .int (nI nc), .ref m8, .ref m9, .ref m10])), (m1, .inl (cI, 8, .inl f)), (m2, .inl (cI, 480, .inl K)), (m3, .inl (cI, 480, .inl (nF O))), (m4, .inl (cI, 480, .inl T)), (m5, .inl (cI, 41, .inl (nF M))), (m6, .inl (cI, 40, .inl Z)), (m7, .inl (cZ, 40, .inl (prF k))), (m8, .inl (cI, 6, .inl (nF Y))), (m9, .inl (cI, 48, .inl G)), (m10, .inl (cI, 8, .inl g))]) := by
  refine kM_of (cc := cX4_amount) (maxL := 4) (ret := (some .int)) (own := RX4) (by decide) rfl rfl (Nat.le_of_ble_eq_true rfl) ?_
  intro p e s m args below meth c A ls Qz hx hb hml hr hts hown hlk hin hQ hA hS hP hD hK hl
  have hl : lv_has ls 4 [(0, .ref z), (1, .int kd), (2, .int p_), (3, .int v)] := hl
  refine lv_aload_n hx hb dX4_amount_0 rfl (lv_at hl 0 rfl) ?_
  refine lv_iconst (v := (nI 0)) hx hb dX4_amount_1 (by decide) ?_
  refine va_put (D := D) (ci := 4) (v := .int (nI 0)) (ty := .int) (C := RX4) (T := TX4) (N := 13) hx hb hts iu_X4_amount_X4 tyX4 tyX4_ok nmX4 hown hK hP hD hS 0 rfl rfl 0 (by decide) (hts _ (List.mem_of_getElem? (i := 1) rfl)) (fun _ h9 => h9) rfl (by decide +kernel) rfl rfl (Nat.le_of_ble_eq_true rfl) dX4_amount_2 (fun H locs hP hD hS => ?_)
  have hP : va_P D vwCl [(z, .inr (4, [.int (nI 0), .ref m1, .ref m2, .ref m3, .ref m4, .ref m5, .ref m6, .ref m7, .int (nI n), .int (nI nc), .ref m8, .ref m9, .ref m10])), (m1, .inl (cI, 8, .inl f)), (m2, .inl (cI, 480, .inl K)), (m3, .inl (cI, 480, .inl (nF O))), (m4, .inl (cI, 480, .inl T)), (m5, .inl (cI, 41, .inl (nF M))), (m6, .inl (cI, 40, .inl Z)), (m7, .inl (cZ, 40, .inl (prF k))), (m8, .inl (cI, 6, .inl (nF Y))), (m9, .inl (cI, 48, .inl G)), (m10, .inl (cI, 8, .inl g))] H := hP
  have hD : va_D A [(z, .inr (4, [.int (nI 0), .ref m1, .ref m2, .ref m3, .ref m4, .ref m5, .ref m6, .ref m7, .int (nI n), .int (nI nc), .ref m8, .ref m9, .ref m10])), (m1, .inl (cI, 8, .inl f)), (m2, .inl (cI, 480, .inl K)), (m3, .inl (cI, 480, .inl (nF O))), (m4, .inl (cI, 480, .inl T)), (m5, .inl (cI, 41, .inl (nF M))), (m6, .inl (cI, 40, .inl Z)), (m7, .inl (cZ, 40, .inl (prF k))), (m8, .inl (cI, 6, .inl (nF Y))), (m9, .inl (cI, 48, .inl G)), (m10, .inl (cI, 8, .inl g))] := hD
  refine lv_iload_n hx hb dX4_amount_5 rfl (lv_at hl 2 rfl) ?_
  refine kM_callS (As := [.int p_]) (rest := []) (wr := [(z, .inr (4, [.int (nI 0), .ref m1, .ref m2, .ref m3, .ref m4, .ref m5, .ref m6, .ref m7, .int (nI n), .int (nI nc), .ref m8, .ref m9, .ref m10])), (m1, .inl (cI, 8, .inl f)), (m2, .inl (cI, 480, .inl K)), (m3, .inl (cI, 480, .inl (nF O))), (m4, .inl (cI, 480, .inl T)), (m5, .inl (cI, 41, .inl (nF M))), (m6, .inl (cI, 40, .inl Z)), (m7, .inl (cZ, 40, .inl (prF k))), (m8, .inl (cI, 6, .inl (nF Y))), (m9, .inl (cI, 48, .inl G)), (m10, .inl (cI, 8, .inl g))]) (w2 := fun _ => [(z, .inr (4, [.int (nI 0), .ref m1, .ref m2, .ref m3, .ref m4, .ref m5, .ref m6, .ref m7, .int (nI n), .int (nI nc), .ref m8, .ref m9, .ref m10])), (m1, .inl (cI, 8, .inl f)), (m2, .inl (cI, 480, .inl K)), (m3, .inl (cI, 480, .inl (nF O))), (m4, .inl (cI, 480, .inl T)), (m5, .inl (cI, 41, .inl (nF M))), (m6, .inl (cI, 40, .inl Z)), (m7, .inl (cZ, 40, .inl (prF k))), (m8, .inl (cI, 6, .inl (nF Y))), (m9, .inl (cI, 48, .inl G)), (m10, .inl (cI, 8, .inl g))]) (st2 := fun _ => [.int (nI 0)]) (k := 0) (n2 := 0) ⟨hx, hb, hml, hown, hts⟩ (c_X4_isPlace_f l D cI cZ p_ hv) (va_cwS 1 hts gX4_amount_X4_isPlace rfl rfl rfl (by decide +kernel) ⟨Nat.le_of_ble_eq_true rfl, Nat.le_of_ble_eq_true rfl⟩) [0, 1] rfl hK hP hD hS hA [] [0, 1, 2, 3, 4, 5, 6, 7, 8, 9, 10] rfl (by decide) rfl (by decide) (by decide) [0, 1, 2, 3, 4, 5, 6, 7, 8, 9, 10] (by decide) (fun _ => rfl) (Nat.le_refl _) (Nat.le_refl _) (Nat.le_of_ble_eq_true rfl) (Nat.le_of_ble_eq_true rfl) rfl hl.1 (Nat.le_of_ble_eq_true rfl) (fun _ => rfl) rfl dX4_amount_6 (fun u H locs hu hP hD hS => ?_)
  refine k_if_ne hx hb (tgt := 18) (by decide) dX4_amount_9 (by decide) (fun h => absurd h (by decide)) (fun c_1 => ?_)
  refine lv_aload_n hx hb dX4_amount_12 rfl (lv_at hl 0 rfl) ?_
  refine lv_iconst (v := (nI 1)) hx hb dX4_amount_13 (by decide) ?_
  refine kM_callV (As := [.int (nI 1)]) (rest := []) (wr := []) (w2 := fun _ => [(z, .inr (4, [.int (nI 1), .ref m1, .ref m2, .ref m3, .ref m4, .ref m5, .ref m6, .ref m7, .int (nI n), .int (nI nc), .ref m8, .ref m9, .ref m10])), (m1, .inl (cI, 8, .inl f)), (m2, .inl (cI, 480, .inl K)), (m3, .inl (cI, 480, .inl (nF O))), (m4, .inl (cI, 480, .inl T)), (m5, .inl (cI, 41, .inl (nF M))), (m6, .inl (cI, 40, .inl Z)), (m7, .inl (cZ, 40, .inl (prF k))), (m8, .inl (cI, 6, .inl (nF Y))), (m9, .inl (cI, 48, .inl G)), (m10, .inl (cI, 8, .inl g))]) (st2 := fun _ => [.int (nI 0)]) (k := 0) (n2 := 0) ⟨hx, hb, hml, hown, hts⟩ (c_X4_fail l D cI cZ z m1 m2 m3 m4 m5 m6 m7 m8 m9 m10 (nI 0) f K O T M Z k n nc Y G g (nI 1)) (cwV 1 hts gX4_amount_X4_fail rfl rfl rfl (by decide +kernel) ⟨Nat.le_of_ble_eq_true rfl, Nat.le_of_ble_eq_true rfl⟩) 0 rfl rfl rfl [0, 1] rfl hK hP hD hS hA [0, 1, 2, 3, 4, 5, 6, 7, 8, 9, 10] [] rfl (by decide) rfl (by decide) (by decide) [0, 1, 2, 3, 4, 5, 6, 7, 8, 9, 10] (by decide) (fun _ => rfl) (Nat.le_refl _) (Nat.le_refl _) (Nat.le_of_ble_eq_true rfl) (Nat.le_of_ble_eq_true rfl) rfl hl.1 (Nat.le_of_ble_eq_true rfl) (fun _ => rfl) rfl dX4_amount_14 (fun u H locs hu hP hD hS => ?_)
  exact kM_iret hx hb hr hlk hQ hP hD hK hS () rfl (Nat.le_of_ble_eq_true rfl) (Nat.le_of_ble_eq_true rfl) rfl trivial dX4_amount_17
def rm_c_X4_snow_1 : Room := { frames := 4, cells := 0, slots := 0, locals := 95 }
set_option maxHeartbeats 4000000 in
set_option maxRecDepth 100000 in
theorem c_X4_snow_1 (l : Launch) (D : va_G) (cI : ClassId) (cZ : ClassId) (z m1 m2 m3 m4 m5 m6 m7 m8 m9 m10 : Nat) (th : Int32) (f K : Nat → Int32) (O : Nat → Nat) (T : Nat → Int32) (M : Nat → Nat) (Z : Nat → Int32) (k n nc : Nat) (Y : Nat → Nat) (G g : Nat → Int32) (p_ v : Int32) (hn : n ≤ 40) (hk : k ≤ n) (hc : nc ≤ 6) (hM : ∀ i, M i ≤ 12) (hO : ∀ i, O i < 8) (hY : ∀ i, Y i ≤ 40) (hv : p_ < 0 ∨ ¬ p_ < nI 8) :
    kM l yX4_snow wsX4_snow rm_c_X4_snow_1 D [(cI, FieldType.int), (cZ, FieldType.boolean)] [.ref z, .int p_, .int v] [(z, .inr (4, [.int th, .ref m1, .ref m2, .ref m3, .ref m4, .ref m5, .ref m6, .ref m7, .int (nI n), .int (nI nc), .ref m8, .ref m9, .ref m10])), (m1, .inl (cI, 8, .inl f)), (m2, .inl (cI, 480, .inl K)), (m3, .inl (cI, 480, .inl (nF O))), (m4, .inl (cI, 480, .inl T)), (m5, .inl (cI, 41, .inl (nF M))), (m6, .inl (cI, 40, .inl Z)), (m7, .inl (cZ, 40, .inl (prF k))), (m8, .inl (cI, 6, .inl (nF Y))), (m9, .inl (cI, 48, .inl G)), (m10, .inl (cI, 8, .inl g))] (fun _ : Unit => True) (fun _ => some (.int (nI 0))) (fun _ => [(z, .inr (4, [.int (nI 1), .ref m1, .ref m2, .ref m3, .ref m4, .ref m5, .ref m6, .ref m7, .int (nI n), .int (nI nc), .ref m8, .ref m9, .ref m10])), (m1, .inl (cI, 8, .inl f)), (m2, .inl (cI, 480, .inl K)), (m3, .inl (cI, 480, .inl (nF O))), (m4, .inl (cI, 480, .inl T)), (m5, .inl (cI, 41, .inl (nF M))), (m6, .inl (cI, 40, .inl Z)), (m7, .inl (cZ, 40, .inl (prF k))), (m8, .inl (cI, 6, .inl (nF Y))), (m9, .inl (cI, 48, .inl G)), (m10, .inl (cI, 8, .inl g))]) := by
  refine kM_of (cc := cX4_snow) (maxL := 3) (ret := (some .int)) (own := RX4) (by decide) rfl rfl (Nat.le_of_ble_eq_true rfl) ?_
  intro p e s m args below meth c A ls Qz hx hb hml hr hts hown hlk hin hQ hA hS hP hD hK hl
  have hl : lv_has ls 3 [(0, .ref z), (1, .int p_), (2, .int v)] := hl
  refine lv_aload_n hx hb dX4_snow_0 rfl (lv_at hl 0 rfl) ?_
  refine lv_iconst (v := (nI 0)) hx hb dX4_snow_1 (by decide) ?_
  refine lv_iload_n hx hb dX4_snow_2 rfl (lv_at hl 1 rfl) ?_
  refine lv_iload_n hx hb dX4_snow_3 rfl (lv_at hl 2 rfl) ?_
  refine kM_callV (As := [.int (nI 0), .int p_, .int v]) (rest := []) (wr := []) (w2 := fun _ => [(z, .inr (4, [.int (nI 1), .ref m1, .ref m2, .ref m3, .ref m4, .ref m5, .ref m6, .ref m7, .int (nI n), .int (nI nc), .ref m8, .ref m9, .ref m10])), (m1, .inl (cI, 8, .inl f)), (m2, .inl (cI, 480, .inl K)), (m3, .inl (cI, 480, .inl (nF O))), (m4, .inl (cI, 480, .inl T)), (m5, .inl (cI, 41, .inl (nF M))), (m6, .inl (cI, 40, .inl Z)), (m7, .inl (cZ, 40, .inl (prF k))), (m8, .inl (cI, 6, .inl (nF Y))), (m9, .inl (cI, 48, .inl G)), (m10, .inl (cI, 8, .inl g))]) (st2 := fun _ => [.int (nI 0)]) (k := 0) (n2 := 0) ⟨hx, hb, hml, hown, hts⟩ (c_X4_amount_1 l D cI cZ z m1 m2 m3 m4 m5 m6 m7 m8 m9 m10 th f K O T M Z k n nc Y G g (nI 0) p_ v hn hk hc hM hO hY hv) (cwV 3 hts gX4_snow_X4_amount rfl rfl rfl (by decide +kernel) ⟨Nat.le_of_ble_eq_true rfl, Nat.le_of_ble_eq_true rfl⟩) 0 rfl rfl rfl [0, 1] rfl hK hP hD hS hA [0, 1, 2, 3, 4, 5, 6, 7, 8, 9, 10] [] rfl (by decide) rfl (by decide) (by decide) [0, 1, 2, 3, 4, 5, 6, 7, 8, 9, 10] (by decide) (fun _ => rfl) (Nat.le_refl _) (Nat.le_refl _) (Nat.le_of_ble_eq_true rfl) (Nat.le_of_ble_eq_true rfl) rfl hl.1 (Nat.le_of_ble_eq_true rfl) (fun _ => rfl) rfl dX4_snow_4 (fun u H locs hu hP hD hS => ?_)
  exact kM_iret hx hb hr hlk hQ hP hD hK hS () rfl (Nat.le_of_ble_eq_true rfl) (Nat.le_of_ble_eq_true rfl) rfl trivial dX4_snow_7
def rm_c_X4_melt_1 : Room := { frames := 4, cells := 0, slots := 0, locals := 95 }
set_option maxHeartbeats 4000000 in
set_option maxRecDepth 100000 in
theorem c_X4_melt_1 (l : Launch) (D : va_G) (cI : ClassId) (cZ : ClassId) (z m1 m2 m3 m4 m5 m6 m7 m8 m9 m10 : Nat) (th : Int32) (f K : Nat → Int32) (O : Nat → Nat) (T : Nat → Int32) (M : Nat → Nat) (Z : Nat → Int32) (k n nc : Nat) (Y : Nat → Nat) (G g : Nat → Int32) (p_ v : Int32) (hn : n ≤ 40) (hk : k ≤ n) (hc : nc ≤ 6) (hM : ∀ i, M i ≤ 12) (hO : ∀ i, O i < 8) (hY : ∀ i, Y i ≤ 40) (hv : p_ < 0 ∨ ¬ p_ < nI 8) :
    kM l yX4_melt wsX4_melt rm_c_X4_melt_1 D [(cI, FieldType.int), (cZ, FieldType.boolean)] [.ref z, .int p_, .int v] [(z, .inr (4, [.int th, .ref m1, .ref m2, .ref m3, .ref m4, .ref m5, .ref m6, .ref m7, .int (nI n), .int (nI nc), .ref m8, .ref m9, .ref m10])), (m1, .inl (cI, 8, .inl f)), (m2, .inl (cI, 480, .inl K)), (m3, .inl (cI, 480, .inl (nF O))), (m4, .inl (cI, 480, .inl T)), (m5, .inl (cI, 41, .inl (nF M))), (m6, .inl (cI, 40, .inl Z)), (m7, .inl (cZ, 40, .inl (prF k))), (m8, .inl (cI, 6, .inl (nF Y))), (m9, .inl (cI, 48, .inl G)), (m10, .inl (cI, 8, .inl g))] (fun _ : Unit => True) (fun _ => some (.int (nI 0))) (fun _ => [(z, .inr (4, [.int (nI 1), .ref m1, .ref m2, .ref m3, .ref m4, .ref m5, .ref m6, .ref m7, .int (nI n), .int (nI nc), .ref m8, .ref m9, .ref m10])), (m1, .inl (cI, 8, .inl f)), (m2, .inl (cI, 480, .inl K)), (m3, .inl (cI, 480, .inl (nF O))), (m4, .inl (cI, 480, .inl T)), (m5, .inl (cI, 41, .inl (nF M))), (m6, .inl (cI, 40, .inl Z)), (m7, .inl (cZ, 40, .inl (prF k))), (m8, .inl (cI, 6, .inl (nF Y))), (m9, .inl (cI, 48, .inl G)), (m10, .inl (cI, 8, .inl g))]) := by
  refine kM_of (cc := cX4_melt) (maxL := 3) (ret := (some .int)) (own := RX4) (by decide) rfl rfl (Nat.le_of_ble_eq_true rfl) ?_
  intro p e s m args below meth c A ls Qz hx hb hml hr hts hown hlk hin hQ hA hS hP hD hK hl
  have hl : lv_has ls 3 [(0, .ref z), (1, .int p_), (2, .int v)] := hl
  refine lv_aload_n hx hb dX4_melt_0 rfl (lv_at hl 0 rfl) ?_
  refine lv_iconst (v := (nI 1)) hx hb dX4_melt_1 (by decide) ?_
  refine lv_iload_n hx hb dX4_melt_2 rfl (lv_at hl 1 rfl) ?_
  refine lv_iload_n hx hb dX4_melt_3 rfl (lv_at hl 2 rfl) ?_
  refine kM_callV (As := [.int (nI 1), .int p_, .int v]) (rest := []) (wr := []) (w2 := fun _ => [(z, .inr (4, [.int (nI 1), .ref m1, .ref m2, .ref m3, .ref m4, .ref m5, .ref m6, .ref m7, .int (nI n), .int (nI nc), .ref m8, .ref m9, .ref m10])), (m1, .inl (cI, 8, .inl f)), (m2, .inl (cI, 480, .inl K)), (m3, .inl (cI, 480, .inl (nF O))), (m4, .inl (cI, 480, .inl T)), (m5, .inl (cI, 41, .inl (nF M))), (m6, .inl (cI, 40, .inl Z)), (m7, .inl (cZ, 40, .inl (prF k))), (m8, .inl (cI, 6, .inl (nF Y))), (m9, .inl (cI, 48, .inl G)), (m10, .inl (cI, 8, .inl g))]) (st2 := fun _ => [.int (nI 0)]) (k := 0) (n2 := 0) ⟨hx, hb, hml, hown, hts⟩ (c_X4_amount_1 l D cI cZ z m1 m2 m3 m4 m5 m6 m7 m8 m9 m10 th f K O T M Z k n nc Y G g (nI 1) p_ v hn hk hc hM hO hY hv) (cwV 3 hts gX4_melt_X4_amount rfl rfl rfl (by decide +kernel) ⟨Nat.le_of_ble_eq_true rfl, Nat.le_of_ble_eq_true rfl⟩) 0 rfl rfl rfl [0, 1] rfl hK hP hD hS hA [0, 1, 2, 3, 4, 5, 6, 7, 8, 9, 10] [] rfl (by decide) rfl (by decide) (by decide) [0, 1, 2, 3, 4, 5, 6, 7, 8, 9, 10] (by decide) (fun _ => rfl) (Nat.le_refl _) (Nat.le_refl _) (Nat.le_of_ble_eq_true rfl) (Nat.le_of_ble_eq_true rfl) rfl hl.1 (Nat.le_of_ble_eq_true rfl) (fun _ => rfl) rfl dX4_melt_4 (fun u H locs hu hP hD hS => ?_)
  exact kM_iret hx hb hr hlk hQ hP hD hK hS () rfl (Nat.le_of_ble_eq_true rfl) (Nat.le_of_ble_eq_true rfl) rfl trivial dX4_melt_7
def rm_c_X4_amount_2 : Room := { frames := 3, cells := 0, slots := 0, locals := 72 }
set_option maxHeartbeats 4000000 in
set_option maxRecDepth 100000 in
theorem c_X4_amount_2 (l : Launch) (D : va_G) (cI : ClassId) (cZ : ClassId) (z m1 m2 m3 m4 m5 m6 m7 m8 m9 m10 : Nat) (th : Int32) (f K : Nat → Int32) (O : Nat → Nat) (T : Nat → Int32) (M : Nat → Nat) (Z : Nat → Int32) (k n nc : Nat) (Y : Nat → Nat) (G g : Nat → Int32) (kd : Int32) (j : Nat) (v : Int32) (hn : n ≤ 40) (hk : k ≤ n) (hc : nc ≤ 6) (hM : ∀ i, M i ≤ 12) (hO : ∀ i, O i < 8) (hY : ∀ i, Y i ≤ 40) (hj : j < 8) (hv : v < nI 1 ∨ ¬ v ≤ nI 99) :
    kM l yX4_amount wsX4_amount rm_c_X4_amount_2 D [(cI, FieldType.int), (cZ, FieldType.boolean)] [.ref z, .int kd, .int (nI j), .int v] [(z, .inr (4, [.int th, .ref m1, .ref m2, .ref m3, .ref m4, .ref m5, .ref m6, .ref m7, .int (nI n), .int (nI nc), .ref m8, .ref m9, .ref m10])), (m1, .inl (cI, 8, .inl f)), (m2, .inl (cI, 480, .inl K)), (m3, .inl (cI, 480, .inl (nF O))), (m4, .inl (cI, 480, .inl T)), (m5, .inl (cI, 41, .inl (nF M))), (m6, .inl (cI, 40, .inl Z)), (m7, .inl (cZ, 40, .inl (prF k))), (m8, .inl (cI, 6, .inl (nF Y))), (m9, .inl (cI, 48, .inl G)), (m10, .inl (cI, 8, .inl g))] (fun _ : Unit => True) (fun _ => some (.int (nI 0))) (fun _ => [(z, .inr (4, [.int (nI 2), .ref m1, .ref m2, .ref m3, .ref m4, .ref m5, .ref m6, .ref m7, .int (nI n), .int (nI nc), .ref m8, .ref m9, .ref m10])), (m1, .inl (cI, 8, .inl f)), (m2, .inl (cI, 480, .inl K)), (m3, .inl (cI, 480, .inl (nF O))), (m4, .inl (cI, 480, .inl T)), (m5, .inl (cI, 41, .inl (nF M))), (m6, .inl (cI, 40, .inl Z)), (m7, .inl (cZ, 40, .inl (prF k))), (m8, .inl (cI, 6, .inl (nF Y))), (m9, .inl (cI, 48, .inl G)), (m10, .inl (cI, 8, .inl g))]) := by
  refine kM_of (cc := cX4_amount) (maxL := 4) (ret := (some .int)) (own := RX4) (by decide) rfl rfl (Nat.le_of_ble_eq_true rfl) ?_
  intro p e s m args below meth c A ls Qz hx hb hml hr hts hown hlk hin hQ hA hS hP hD hK hl
  have hl : lv_has ls 4 [(0, .ref z), (1, .int kd), (2, .int (nI j)), (3, .int v)] := hl
  refine lv_aload_n hx hb dX4_amount_0 rfl (lv_at hl 0 rfl) ?_
  refine lv_iconst (v := (nI 0)) hx hb dX4_amount_1 (by decide) ?_
  refine va_put (D := D) (ci := 4) (v := .int (nI 0)) (ty := .int) (C := RX4) (T := TX4) (N := 13) hx hb hts iu_X4_amount_X4 tyX4 tyX4_ok nmX4 hown hK hP hD hS 0 rfl rfl 0 (by decide) (hts _ (List.mem_of_getElem? (i := 1) rfl)) (fun _ h9 => h9) rfl (by decide +kernel) rfl rfl (Nat.le_of_ble_eq_true rfl) dX4_amount_2 (fun H locs hP hD hS => ?_)
  have hP : va_P D vwCl [(z, .inr (4, [.int (nI 0), .ref m1, .ref m2, .ref m3, .ref m4, .ref m5, .ref m6, .ref m7, .int (nI n), .int (nI nc), .ref m8, .ref m9, .ref m10])), (m1, .inl (cI, 8, .inl f)), (m2, .inl (cI, 480, .inl K)), (m3, .inl (cI, 480, .inl (nF O))), (m4, .inl (cI, 480, .inl T)), (m5, .inl (cI, 41, .inl (nF M))), (m6, .inl (cI, 40, .inl Z)), (m7, .inl (cZ, 40, .inl (prF k))), (m8, .inl (cI, 6, .inl (nF Y))), (m9, .inl (cI, 48, .inl G)), (m10, .inl (cI, 8, .inl g))] H := hP
  have hD : va_D A [(z, .inr (4, [.int (nI 0), .ref m1, .ref m2, .ref m3, .ref m4, .ref m5, .ref m6, .ref m7, .int (nI n), .int (nI nc), .ref m8, .ref m9, .ref m10])), (m1, .inl (cI, 8, .inl f)), (m2, .inl (cI, 480, .inl K)), (m3, .inl (cI, 480, .inl (nF O))), (m4, .inl (cI, 480, .inl T)), (m5, .inl (cI, 41, .inl (nF M))), (m6, .inl (cI, 40, .inl Z)), (m7, .inl (cZ, 40, .inl (prF k))), (m8, .inl (cI, 6, .inl (nF Y))), (m9, .inl (cI, 48, .inl G)), (m10, .inl (cI, 8, .inl g))] := hD
  refine lv_iload_n hx hb dX4_amount_5 rfl (lv_at hl 2 rfl) ?_
  refine kM_callS (As := [.int (nI j)]) (rest := []) (wr := [(z, .inr (4, [.int (nI 0), .ref m1, .ref m2, .ref m3, .ref m4, .ref m5, .ref m6, .ref m7, .int (nI n), .int (nI nc), .ref m8, .ref m9, .ref m10])), (m1, .inl (cI, 8, .inl f)), (m2, .inl (cI, 480, .inl K)), (m3, .inl (cI, 480, .inl (nF O))), (m4, .inl (cI, 480, .inl T)), (m5, .inl (cI, 41, .inl (nF M))), (m6, .inl (cI, 40, .inl Z)), (m7, .inl (cZ, 40, .inl (prF k))), (m8, .inl (cI, 6, .inl (nF Y))), (m9, .inl (cI, 48, .inl G)), (m10, .inl (cI, 8, .inl g))]) (w2 := fun _ => [(z, .inr (4, [.int (nI 0), .ref m1, .ref m2, .ref m3, .ref m4, .ref m5, .ref m6, .ref m7, .int (nI n), .int (nI nc), .ref m8, .ref m9, .ref m10])), (m1, .inl (cI, 8, .inl f)), (m2, .inl (cI, 480, .inl K)), (m3, .inl (cI, 480, .inl (nF O))), (m4, .inl (cI, 480, .inl T)), (m5, .inl (cI, 41, .inl (nF M))), (m6, .inl (cI, 40, .inl Z)), (m7, .inl (cZ, 40, .inl (prF k))), (m8, .inl (cI, 6, .inl (nF Y))), (m9, .inl (cI, 48, .inl G)), (m10, .inl (cI, 8, .inl g))]) (st2 := fun _ => [.int (nI 1)]) (k := 0) (n2 := 0) ⟨hx, hb, hml, hown, hts⟩ (c_X4_isPlace_t l D cI cZ j hj) (va_cwS 1 hts gX4_amount_X4_isPlace rfl rfl rfl (by decide +kernel) ⟨Nat.le_of_ble_eq_true rfl, Nat.le_of_ble_eq_true rfl⟩) [0, 1] rfl hK hP hD hS hA [] [0, 1, 2, 3, 4, 5, 6, 7, 8, 9, 10] rfl (by decide) rfl (by decide) (by decide) [0, 1, 2, 3, 4, 5, 6, 7, 8, 9, 10] (by decide) (fun _ => rfl) (Nat.le_refl _) (Nat.le_refl _) (Nat.le_of_ble_eq_true rfl) (Nat.le_of_ble_eq_true rfl) rfl hl.1 (Nat.le_of_ble_eq_true rfl) (fun _ => rfl) rfl dX4_amount_6 (fun u H locs hu hP hD hS => ?_)
  refine k_if_ne hx hb (tgt := 18) (by decide) dX4_amount_9 (by decide) (fun c_1 => ?_) (fun h => absurd h (by decide))
  refine lv_iload_n hx hb dX4_amount_18 rfl (lv_at hl 3 rfl) ?_
  refine lv_iconst (v := (nI 1)) hx hb dX4_amount_19 (by decide) ?_
  refine lv_bipush (v := (nI 99)) hx hb dX4_amount_20 (by decide) ?_
  refine kM_callS (As := [.int v, .int (nI 1), .int (nI 99)]) (rest := []) (wr := [(z, .inr (4, [.int (nI 0), .ref m1, .ref m2, .ref m3, .ref m4, .ref m5, .ref m6, .ref m7, .int (nI n), .int (nI nc), .ref m8, .ref m9, .ref m10])), (m1, .inl (cI, 8, .inl f)), (m2, .inl (cI, 480, .inl K)), (m3, .inl (cI, 480, .inl (nF O))), (m4, .inl (cI, 480, .inl T)), (m5, .inl (cI, 41, .inl (nF M))), (m6, .inl (cI, 40, .inl Z)), (m7, .inl (cZ, 40, .inl (prF k))), (m8, .inl (cI, 6, .inl (nF Y))), (m9, .inl (cI, 48, .inl G)), (m10, .inl (cI, 8, .inl g))]) (w2 := fun _ => [(z, .inr (4, [.int (nI 0), .ref m1, .ref m2, .ref m3, .ref m4, .ref m5, .ref m6, .ref m7, .int (nI n), .int (nI nc), .ref m8, .ref m9, .ref m10])), (m1, .inl (cI, 8, .inl f)), (m2, .inl (cI, 480, .inl K)), (m3, .inl (cI, 480, .inl (nF O))), (m4, .inl (cI, 480, .inl T)), (m5, .inl (cI, 41, .inl (nF M))), (m6, .inl (cI, 40, .inl Z)), (m7, .inl (cZ, 40, .inl (prF k))), (m8, .inl (cI, 6, .inl (nF Y))), (m9, .inl (cI, 48, .inl G)), (m10, .inl (cI, 8, .inl g))]) (st2 := fun _ => [.int (nI 0)]) (k := 0) (n2 := 0) ⟨hx, hb, hml, hown, hts⟩ (c_X4_isIn_f l D cI cZ v (nI 1) (nI 99) (hv.imp id k_nle_gt)) (va_cwS 3 hts gX4_amount_X4_isIn rfl rfl rfl (by decide +kernel) ⟨Nat.le_of_ble_eq_true rfl, Nat.le_of_ble_eq_true rfl⟩) [0, 1] rfl hK hP hD hS hA [] [0, 1, 2, 3, 4, 5, 6, 7, 8, 9, 10] rfl (by decide) rfl (by decide) (by decide) [0, 1, 2, 3, 4, 5, 6, 7, 8, 9, 10] (by decide) (fun _ => rfl) (Nat.le_refl _) (Nat.le_refl _) (Nat.le_of_ble_eq_true rfl) (Nat.le_of_ble_eq_true rfl) rfl hl.1 (Nat.le_of_ble_eq_true rfl) (fun _ => rfl) rfl dX4_amount_22 (fun u H locs hu hP hD hS => ?_)
  refine k_if_ne hx hb (tgt := 34) (by decide) dX4_amount_25 (by decide) (fun h => absurd h (by decide)) (fun c_2 => ?_)
  refine lv_aload_n hx hb dX4_amount_28 rfl (lv_at hl 0 rfl) ?_
  refine lv_iconst (v := (nI 2)) hx hb dX4_amount_29 (by decide) ?_
  refine kM_callV (As := [.int (nI 2)]) (rest := []) (wr := []) (w2 := fun _ => [(z, .inr (4, [.int (nI 2), .ref m1, .ref m2, .ref m3, .ref m4, .ref m5, .ref m6, .ref m7, .int (nI n), .int (nI nc), .ref m8, .ref m9, .ref m10])), (m1, .inl (cI, 8, .inl f)), (m2, .inl (cI, 480, .inl K)), (m3, .inl (cI, 480, .inl (nF O))), (m4, .inl (cI, 480, .inl T)), (m5, .inl (cI, 41, .inl (nF M))), (m6, .inl (cI, 40, .inl Z)), (m7, .inl (cZ, 40, .inl (prF k))), (m8, .inl (cI, 6, .inl (nF Y))), (m9, .inl (cI, 48, .inl G)), (m10, .inl (cI, 8, .inl g))]) (st2 := fun _ => [.int (nI 0)]) (k := 0) (n2 := 0) ⟨hx, hb, hml, hown, hts⟩ (c_X4_fail l D cI cZ z m1 m2 m3 m4 m5 m6 m7 m8 m9 m10 (nI 0) f K O T M Z k n nc Y G g (nI 2)) (cwV 1 hts gX4_amount_X4_fail rfl rfl rfl (by decide +kernel) ⟨Nat.le_of_ble_eq_true rfl, Nat.le_of_ble_eq_true rfl⟩) 0 rfl rfl rfl [0, 1] rfl hK hP hD hS hA [0, 1, 2, 3, 4, 5, 6, 7, 8, 9, 10] [] rfl (by decide) rfl (by decide) (by decide) [0, 1, 2, 3, 4, 5, 6, 7, 8, 9, 10] (by decide) (fun _ => rfl) (Nat.le_refl _) (Nat.le_refl _) (Nat.le_of_ble_eq_true rfl) (Nat.le_of_ble_eq_true rfl) rfl hl.1 (Nat.le_of_ble_eq_true rfl) (fun _ => rfl) rfl dX4_amount_30 (fun u H locs hu hP hD hS => ?_)
  exact kM_iret hx hb hr hlk hQ hP hD hK hS () rfl (Nat.le_of_ble_eq_true rfl) (Nat.le_of_ble_eq_true rfl) rfl trivial dX4_amount_33
def rm_c_X4_snow_2 : Room := { frames := 4, cells := 0, slots := 0, locals := 95 }
set_option maxHeartbeats 4000000 in
set_option maxRecDepth 100000 in
theorem c_X4_snow_2 (l : Launch) (D : va_G) (cI : ClassId) (cZ : ClassId) (z m1 m2 m3 m4 m5 m6 m7 m8 m9 m10 : Nat) (th : Int32) (f K : Nat → Int32) (O : Nat → Nat) (T : Nat → Int32) (M : Nat → Nat) (Z : Nat → Int32) (k n nc : Nat) (Y : Nat → Nat) (G g : Nat → Int32) (j : Nat) (v : Int32) (hn : n ≤ 40) (hk : k ≤ n) (hc : nc ≤ 6) (hM : ∀ i, M i ≤ 12) (hO : ∀ i, O i < 8) (hY : ∀ i, Y i ≤ 40) (hj : j < 8) (hv : v < nI 1 ∨ ¬ v ≤ nI 99) :
    kM l yX4_snow wsX4_snow rm_c_X4_snow_2 D [(cI, FieldType.int), (cZ, FieldType.boolean)] [.ref z, .int (nI j), .int v] [(z, .inr (4, [.int th, .ref m1, .ref m2, .ref m3, .ref m4, .ref m5, .ref m6, .ref m7, .int (nI n), .int (nI nc), .ref m8, .ref m9, .ref m10])), (m1, .inl (cI, 8, .inl f)), (m2, .inl (cI, 480, .inl K)), (m3, .inl (cI, 480, .inl (nF O))), (m4, .inl (cI, 480, .inl T)), (m5, .inl (cI, 41, .inl (nF M))), (m6, .inl (cI, 40, .inl Z)), (m7, .inl (cZ, 40, .inl (prF k))), (m8, .inl (cI, 6, .inl (nF Y))), (m9, .inl (cI, 48, .inl G)), (m10, .inl (cI, 8, .inl g))] (fun _ : Unit => True) (fun _ => some (.int (nI 0))) (fun _ => [(z, .inr (4, [.int (nI 2), .ref m1, .ref m2, .ref m3, .ref m4, .ref m5, .ref m6, .ref m7, .int (nI n), .int (nI nc), .ref m8, .ref m9, .ref m10])), (m1, .inl (cI, 8, .inl f)), (m2, .inl (cI, 480, .inl K)), (m3, .inl (cI, 480, .inl (nF O))), (m4, .inl (cI, 480, .inl T)), (m5, .inl (cI, 41, .inl (nF M))), (m6, .inl (cI, 40, .inl Z)), (m7, .inl (cZ, 40, .inl (prF k))), (m8, .inl (cI, 6, .inl (nF Y))), (m9, .inl (cI, 48, .inl G)), (m10, .inl (cI, 8, .inl g))]) := by
  refine kM_of (cc := cX4_snow) (maxL := 3) (ret := (some .int)) (own := RX4) (by decide) rfl rfl (Nat.le_of_ble_eq_true rfl) ?_
  intro p e s m args below meth c A ls Qz hx hb hml hr hts hown hlk hin hQ hA hS hP hD hK hl
  have hl : lv_has ls 3 [(0, .ref z), (1, .int (nI j)), (2, .int v)] := hl
  refine lv_aload_n hx hb dX4_snow_0 rfl (lv_at hl 0 rfl) ?_
  refine lv_iconst (v := (nI 0)) hx hb dX4_snow_1 (by decide) ?_
  refine lv_iload_n hx hb dX4_snow_2 rfl (lv_at hl 1 rfl) ?_
  refine lv_iload_n hx hb dX4_snow_3 rfl (lv_at hl 2 rfl) ?_
  refine kM_callV (As := [.int (nI 0), .int (nI j), .int v]) (rest := []) (wr := []) (w2 := fun _ => [(z, .inr (4, [.int (nI 2), .ref m1, .ref m2, .ref m3, .ref m4, .ref m5, .ref m6, .ref m7, .int (nI n), .int (nI nc), .ref m8, .ref m9, .ref m10])), (m1, .inl (cI, 8, .inl f)), (m2, .inl (cI, 480, .inl K)), (m3, .inl (cI, 480, .inl (nF O))), (m4, .inl (cI, 480, .inl T)), (m5, .inl (cI, 41, .inl (nF M))), (m6, .inl (cI, 40, .inl Z)), (m7, .inl (cZ, 40, .inl (prF k))), (m8, .inl (cI, 6, .inl (nF Y))), (m9, .inl (cI, 48, .inl G)), (m10, .inl (cI, 8, .inl g))]) (st2 := fun _ => [.int (nI 0)]) (k := 0) (n2 := 0) ⟨hx, hb, hml, hown, hts⟩ (c_X4_amount_2 l D cI cZ z m1 m2 m3 m4 m5 m6 m7 m8 m9 m10 th f K O T M Z k n nc Y G g (nI 0) j v hn hk hc hM hO hY hj hv) (cwV 3 hts gX4_snow_X4_amount rfl rfl rfl (by decide +kernel) ⟨Nat.le_of_ble_eq_true rfl, Nat.le_of_ble_eq_true rfl⟩) 0 rfl rfl rfl [0, 1] rfl hK hP hD hS hA [0, 1, 2, 3, 4, 5, 6, 7, 8, 9, 10] [] rfl (by decide) rfl (by decide) (by decide) [0, 1, 2, 3, 4, 5, 6, 7, 8, 9, 10] (by decide) (fun _ => rfl) (Nat.le_refl _) (Nat.le_refl _) (Nat.le_of_ble_eq_true rfl) (Nat.le_of_ble_eq_true rfl) rfl hl.1 (Nat.le_of_ble_eq_true rfl) (fun _ => rfl) rfl dX4_snow_4 (fun u H locs hu hP hD hS => ?_)
  exact kM_iret hx hb hr hlk hQ hP hD hK hS () rfl (Nat.le_of_ble_eq_true rfl) (Nat.le_of_ble_eq_true rfl) rfl trivial dX4_snow_7
def rm_c_X4_melt_2 : Room := { frames := 4, cells := 0, slots := 0, locals := 95 }
set_option maxHeartbeats 4000000 in
set_option maxRecDepth 100000 in
theorem c_X4_melt_2 (l : Launch) (D : va_G) (cI : ClassId) (cZ : ClassId) (z m1 m2 m3 m4 m5 m6 m7 m8 m9 m10 : Nat) (th : Int32) (f K : Nat → Int32) (O : Nat → Nat) (T : Nat → Int32) (M : Nat → Nat) (Z : Nat → Int32) (k n nc : Nat) (Y : Nat → Nat) (G g : Nat → Int32) (j : Nat) (v : Int32) (hn : n ≤ 40) (hk : k ≤ n) (hc : nc ≤ 6) (hM : ∀ i, M i ≤ 12) (hO : ∀ i, O i < 8) (hY : ∀ i, Y i ≤ 40) (hj : j < 8) (hv : v < nI 1 ∨ ¬ v ≤ nI 99) :
    kM l yX4_melt wsX4_melt rm_c_X4_melt_2 D [(cI, FieldType.int), (cZ, FieldType.boolean)] [.ref z, .int (nI j), .int v] [(z, .inr (4, [.int th, .ref m1, .ref m2, .ref m3, .ref m4, .ref m5, .ref m6, .ref m7, .int (nI n), .int (nI nc), .ref m8, .ref m9, .ref m10])), (m1, .inl (cI, 8, .inl f)), (m2, .inl (cI, 480, .inl K)), (m3, .inl (cI, 480, .inl (nF O))), (m4, .inl (cI, 480, .inl T)), (m5, .inl (cI, 41, .inl (nF M))), (m6, .inl (cI, 40, .inl Z)), (m7, .inl (cZ, 40, .inl (prF k))), (m8, .inl (cI, 6, .inl (nF Y))), (m9, .inl (cI, 48, .inl G)), (m10, .inl (cI, 8, .inl g))] (fun _ : Unit => True) (fun _ => some (.int (nI 0))) (fun _ => [(z, .inr (4, [.int (nI 2), .ref m1, .ref m2, .ref m3, .ref m4, .ref m5, .ref m6, .ref m7, .int (nI n), .int (nI nc), .ref m8, .ref m9, .ref m10])), (m1, .inl (cI, 8, .inl f)), (m2, .inl (cI, 480, .inl K)), (m3, .inl (cI, 480, .inl (nF O))), (m4, .inl (cI, 480, .inl T)), (m5, .inl (cI, 41, .inl (nF M))), (m6, .inl (cI, 40, .inl Z)), (m7, .inl (cZ, 40, .inl (prF k))), (m8, .inl (cI, 6, .inl (nF Y))), (m9, .inl (cI, 48, .inl G)), (m10, .inl (cI, 8, .inl g))]) := by
  refine kM_of (cc := cX4_melt) (maxL := 3) (ret := (some .int)) (own := RX4) (by decide) rfl rfl (Nat.le_of_ble_eq_true rfl) ?_
  intro p e s m args below meth c A ls Qz hx hb hml hr hts hown hlk hin hQ hA hS hP hD hK hl
  have hl : lv_has ls 3 [(0, .ref z), (1, .int (nI j)), (2, .int v)] := hl
  refine lv_aload_n hx hb dX4_melt_0 rfl (lv_at hl 0 rfl) ?_
  refine lv_iconst (v := (nI 1)) hx hb dX4_melt_1 (by decide) ?_
  refine lv_iload_n hx hb dX4_melt_2 rfl (lv_at hl 1 rfl) ?_
  refine lv_iload_n hx hb dX4_melt_3 rfl (lv_at hl 2 rfl) ?_
  refine kM_callV (As := [.int (nI 1), .int (nI j), .int v]) (rest := []) (wr := []) (w2 := fun _ => [(z, .inr (4, [.int (nI 2), .ref m1, .ref m2, .ref m3, .ref m4, .ref m5, .ref m6, .ref m7, .int (nI n), .int (nI nc), .ref m8, .ref m9, .ref m10])), (m1, .inl (cI, 8, .inl f)), (m2, .inl (cI, 480, .inl K)), (m3, .inl (cI, 480, .inl (nF O))), (m4, .inl (cI, 480, .inl T)), (m5, .inl (cI, 41, .inl (nF M))), (m6, .inl (cI, 40, .inl Z)), (m7, .inl (cZ, 40, .inl (prF k))), (m8, .inl (cI, 6, .inl (nF Y))), (m9, .inl (cI, 48, .inl G)), (m10, .inl (cI, 8, .inl g))]) (st2 := fun _ => [.int (nI 0)]) (k := 0) (n2 := 0) ⟨hx, hb, hml, hown, hts⟩ (c_X4_amount_2 l D cI cZ z m1 m2 m3 m4 m5 m6 m7 m8 m9 m10 th f K O T M Z k n nc Y G g (nI 1) j v hn hk hc hM hO hY hj hv) (cwV 3 hts gX4_melt_X4_amount rfl rfl rfl (by decide +kernel) ⟨Nat.le_of_ble_eq_true rfl, Nat.le_of_ble_eq_true rfl⟩) 0 rfl rfl rfl [0, 1] rfl hK hP hD hS hA [0, 1, 2, 3, 4, 5, 6, 7, 8, 9, 10] [] rfl (by decide) rfl (by decide) (by decide) [0, 1, 2, 3, 4, 5, 6, 7, 8, 9, 10] (by decide) (fun _ => rfl) (Nat.le_refl _) (Nat.le_refl _) (Nat.le_of_ble_eq_true rfl) (Nat.le_of_ble_eq_true rfl) rfl hl.1 (Nat.le_of_ble_eq_true rfl) (fun _ => rfl) rfl dX4_melt_4 (fun u H locs hu hP hD hS => ?_)
  exact kM_iret hx hb hr hlk hQ hP hD hK hS () rfl (Nat.le_of_ble_eq_true rfl) (Nat.le_of_ble_eq_true rfl) rfl trivial dX4_melt_7
def rm_c_X4_amount_3 : Room := { frames := 3, cells := 0, slots := 0, locals := 72 }
set_option maxHeartbeats 4000000 in
set_option maxRecDepth 100000 in
theorem c_X4_amount_3 (l : Launch) (D : va_G) (cI : ClassId) (cZ : ClassId) (z m1 m2 m3 m4 m5 m6 m7 m8 m9 m10 : Nat) (th : Int32) (f K : Nat → Int32) (O : Nat → Nat) (T : Nat → Int32) (M : Nat → Nat) (Z : Nat → Int32) (k n nc : Nat) (Y : Nat → Nat) (G g : Nat → Int32) (kd : Int32) (j : Nat) (v : Int32) (hn : n ≤ 40) (hk : k ≤ n) (hc : nc ≤ 6) (hM : ∀ i, M i ≤ 12) (hO : ∀ i, O i < 8) (hY : ∀ i, Y i ≤ 40) (hj : j < 8) (hv1 : ¬ v < nI 1) (hv2 : v ≤ nI 99) (hroom : ¬ (n < 40 ∧ M n < 12)) :
    kM l yX4_amount wsX4_amount rm_c_X4_amount_3 D [(cI, FieldType.int), (cZ, FieldType.boolean)] [.ref z, .int kd, .int (nI j), .int v] [(z, .inr (4, [.int th, .ref m1, .ref m2, .ref m3, .ref m4, .ref m5, .ref m6, .ref m7, .int (nI n), .int (nI nc), .ref m8, .ref m9, .ref m10])), (m1, .inl (cI, 8, .inl f)), (m2, .inl (cI, 480, .inl K)), (m3, .inl (cI, 480, .inl (nF O))), (m4, .inl (cI, 480, .inl T)), (m5, .inl (cI, 41, .inl (nF M))), (m6, .inl (cI, 40, .inl Z)), (m7, .inl (cZ, 40, .inl (prF k))), (m8, .inl (cI, 6, .inl (nF Y))), (m9, .inl (cI, 48, .inl G)), (m10, .inl (cI, 8, .inl g))] (fun _ : Unit => True) (fun _ => some (.int (nI 0))) (fun _ => [(z, .inr (4, [.int (nI 3), .ref m1, .ref m2, .ref m3, .ref m4, .ref m5, .ref m6, .ref m7, .int (nI n), .int (nI nc), .ref m8, .ref m9, .ref m10])), (m1, .inl (cI, 8, .inl f)), (m2, .inl (cI, 480, .inl K)), (m3, .inl (cI, 480, .inl (nF O))), (m4, .inl (cI, 480, .inl T)), (m5, .inl (cI, 41, .inl (nF M))), (m6, .inl (cI, 40, .inl Z)), (m7, .inl (cZ, 40, .inl (prF k))), (m8, .inl (cI, 6, .inl (nF Y))), (m9, .inl (cI, 48, .inl G)), (m10, .inl (cI, 8, .inl g))]) := by
  refine kM_of (cc := cX4_amount) (maxL := 4) (ret := (some .int)) (own := RX4) (by decide) rfl rfl (Nat.le_of_ble_eq_true rfl) ?_
  intro p e s m args below meth c A ls Qz hx hb hml hr hts hown hlk hin hQ hA hS hP hD hK hl
  have hl : lv_has ls 4 [(0, .ref z), (1, .int kd), (2, .int (nI j)), (3, .int v)] := hl
  refine lv_aload_n hx hb dX4_amount_0 rfl (lv_at hl 0 rfl) ?_
  refine lv_iconst (v := (nI 0)) hx hb dX4_amount_1 (by decide) ?_
  refine va_put (D := D) (ci := 4) (v := .int (nI 0)) (ty := .int) (C := RX4) (T := TX4) (N := 13) hx hb hts iu_X4_amount_X4 tyX4 tyX4_ok nmX4 hown hK hP hD hS 0 rfl rfl 0 (by decide) (hts _ (List.mem_of_getElem? (i := 1) rfl)) (fun _ h9 => h9) rfl (by decide +kernel) rfl rfl (Nat.le_of_ble_eq_true rfl) dX4_amount_2 (fun H locs hP hD hS => ?_)
  have hP : va_P D vwCl [(z, .inr (4, [.int (nI 0), .ref m1, .ref m2, .ref m3, .ref m4, .ref m5, .ref m6, .ref m7, .int (nI n), .int (nI nc), .ref m8, .ref m9, .ref m10])), (m1, .inl (cI, 8, .inl f)), (m2, .inl (cI, 480, .inl K)), (m3, .inl (cI, 480, .inl (nF O))), (m4, .inl (cI, 480, .inl T)), (m5, .inl (cI, 41, .inl (nF M))), (m6, .inl (cI, 40, .inl Z)), (m7, .inl (cZ, 40, .inl (prF k))), (m8, .inl (cI, 6, .inl (nF Y))), (m9, .inl (cI, 48, .inl G)), (m10, .inl (cI, 8, .inl g))] H := hP
  have hD : va_D A [(z, .inr (4, [.int (nI 0), .ref m1, .ref m2, .ref m3, .ref m4, .ref m5, .ref m6, .ref m7, .int (nI n), .int (nI nc), .ref m8, .ref m9, .ref m10])), (m1, .inl (cI, 8, .inl f)), (m2, .inl (cI, 480, .inl K)), (m3, .inl (cI, 480, .inl (nF O))), (m4, .inl (cI, 480, .inl T)), (m5, .inl (cI, 41, .inl (nF M))), (m6, .inl (cI, 40, .inl Z)), (m7, .inl (cZ, 40, .inl (prF k))), (m8, .inl (cI, 6, .inl (nF Y))), (m9, .inl (cI, 48, .inl G)), (m10, .inl (cI, 8, .inl g))] := hD
  refine lv_iload_n hx hb dX4_amount_5 rfl (lv_at hl 2 rfl) ?_
  refine kM_callS (As := [.int (nI j)]) (rest := []) (wr := [(z, .inr (4, [.int (nI 0), .ref m1, .ref m2, .ref m3, .ref m4, .ref m5, .ref m6, .ref m7, .int (nI n), .int (nI nc), .ref m8, .ref m9, .ref m10])), (m1, .inl (cI, 8, .inl f)), (m2, .inl (cI, 480, .inl K)), (m3, .inl (cI, 480, .inl (nF O))), (m4, .inl (cI, 480, .inl T)), (m5, .inl (cI, 41, .inl (nF M))), (m6, .inl (cI, 40, .inl Z)), (m7, .inl (cZ, 40, .inl (prF k))), (m8, .inl (cI, 6, .inl (nF Y))), (m9, .inl (cI, 48, .inl G)), (m10, .inl (cI, 8, .inl g))]) (w2 := fun _ => [(z, .inr (4, [.int (nI 0), .ref m1, .ref m2, .ref m3, .ref m4, .ref m5, .ref m6, .ref m7, .int (nI n), .int (nI nc), .ref m8, .ref m9, .ref m10])), (m1, .inl (cI, 8, .inl f)), (m2, .inl (cI, 480, .inl K)), (m3, .inl (cI, 480, .inl (nF O))), (m4, .inl (cI, 480, .inl T)), (m5, .inl (cI, 41, .inl (nF M))), (m6, .inl (cI, 40, .inl Z)), (m7, .inl (cZ, 40, .inl (prF k))), (m8, .inl (cI, 6, .inl (nF Y))), (m9, .inl (cI, 48, .inl G)), (m10, .inl (cI, 8, .inl g))]) (st2 := fun _ => [.int (nI 1)]) (k := 0) (n2 := 0) ⟨hx, hb, hml, hown, hts⟩ (c_X4_isPlace_t l D cI cZ j hj) (va_cwS 1 hts gX4_amount_X4_isPlace rfl rfl rfl (by decide +kernel) ⟨Nat.le_of_ble_eq_true rfl, Nat.le_of_ble_eq_true rfl⟩) [0, 1] rfl hK hP hD hS hA [] [0, 1, 2, 3, 4, 5, 6, 7, 8, 9, 10] rfl (by decide) rfl (by decide) (by decide) [0, 1, 2, 3, 4, 5, 6, 7, 8, 9, 10] (by decide) (fun _ => rfl) (Nat.le_refl _) (Nat.le_refl _) (Nat.le_of_ble_eq_true rfl) (Nat.le_of_ble_eq_true rfl) rfl hl.1 (Nat.le_of_ble_eq_true rfl) (fun _ => rfl) rfl dX4_amount_6 (fun u H locs hu hP hD hS => ?_)
  refine k_if_ne hx hb (tgt := 18) (by decide) dX4_amount_9 (by decide) (fun c_1 => ?_) (fun h => absurd h (by decide))
  refine lv_iload_n hx hb dX4_amount_18 rfl (lv_at hl 3 rfl) ?_
  refine lv_iconst (v := (nI 1)) hx hb dX4_amount_19 (by decide) ?_
  refine lv_bipush (v := (nI 99)) hx hb dX4_amount_20 (by decide) ?_
  refine kM_callS (As := [.int v, .int (nI 1), .int (nI 99)]) (rest := []) (wr := [(z, .inr (4, [.int (nI 0), .ref m1, .ref m2, .ref m3, .ref m4, .ref m5, .ref m6, .ref m7, .int (nI n), .int (nI nc), .ref m8, .ref m9, .ref m10])), (m1, .inl (cI, 8, .inl f)), (m2, .inl (cI, 480, .inl K)), (m3, .inl (cI, 480, .inl (nF O))), (m4, .inl (cI, 480, .inl T)), (m5, .inl (cI, 41, .inl (nF M))), (m6, .inl (cI, 40, .inl Z)), (m7, .inl (cZ, 40, .inl (prF k))), (m8, .inl (cI, 6, .inl (nF Y))), (m9, .inl (cI, 48, .inl G)), (m10, .inl (cI, 8, .inl g))]) (w2 := fun _ => [(z, .inr (4, [.int (nI 0), .ref m1, .ref m2, .ref m3, .ref m4, .ref m5, .ref m6, .ref m7, .int (nI n), .int (nI nc), .ref m8, .ref m9, .ref m10])), (m1, .inl (cI, 8, .inl f)), (m2, .inl (cI, 480, .inl K)), (m3, .inl (cI, 480, .inl (nF O))), (m4, .inl (cI, 480, .inl T)), (m5, .inl (cI, 41, .inl (nF M))), (m6, .inl (cI, 40, .inl Z)), (m7, .inl (cZ, 40, .inl (prF k))), (m8, .inl (cI, 6, .inl (nF Y))), (m9, .inl (cI, 48, .inl G)), (m10, .inl (cI, 8, .inl g))]) (st2 := fun _ => [.int (nI 1)]) (k := 0) (n2 := 0) ⟨hx, hb, hml, hown, hts⟩ (c_X4_isIn_t l D cI cZ v (nI 1) (nI 99) hv1 (Int32.not_lt.mpr hv2)) (va_cwS 3 hts gX4_amount_X4_isIn rfl rfl rfl (by decide +kernel) ⟨Nat.le_of_ble_eq_true rfl, Nat.le_of_ble_eq_true rfl⟩) [0, 1] rfl hK hP hD hS hA [] [0, 1, 2, 3, 4, 5, 6, 7, 8, 9, 10] rfl (by decide) rfl (by decide) (by decide) [0, 1, 2, 3, 4, 5, 6, 7, 8, 9, 10] (by decide) (fun _ => rfl) (Nat.le_refl _) (Nat.le_refl _) (Nat.le_of_ble_eq_true rfl) (Nat.le_of_ble_eq_true rfl) rfl hl.1 (Nat.le_of_ble_eq_true rfl) (fun _ => rfl) rfl dX4_amount_22 (fun u H locs hu hP hD hS => ?_)
  refine k_if_ne hx hb (tgt := 34) (by decide) dX4_amount_25 (by decide) (fun c_2 => ?_) (fun h => absurd h (by decide))
  refine lv_aload_n hx hb dX4_amount_34 rfl (lv_at hl 0 rfl) ?_
  refine kM_callV (As := []) (rest := []) (wr := []) (w2 := fun _ => [(z, .inr (4, [.int (nI 0), .ref m1, .ref m2, .ref m3, .ref m4, .ref m5, .ref m6, .ref m7, .int (nI n), .int (nI nc), .ref m8, .ref m9, .ref m10])), (m1, .inl (cI, 8, .inl f)), (m2, .inl (cI, 480, .inl K)), (m3, .inl (cI, 480, .inl (nF O))), (m4, .inl (cI, 480, .inl T)), (m5, .inl (cI, 41, .inl (nF M))), (m6, .inl (cI, 40, .inl Z)), (m7, .inl (cZ, 40, .inl (prF k))), (m8, .inl (cI, 6, .inl (nF Y))), (m9, .inl (cI, 48, .inl G)), (m10, .inl (cI, 8, .inl g))]) (st2 := fun _ => [.int (nI 1)]) (k := 0) (n2 := 0) ⟨hx, hb, hml, hown, hts⟩ (c_X4_isFull_t l D cI cZ z m1 m2 m3 m4 m5 m6 m7 m8 m9 m10 (nI 0) f K O T M Z k n nc Y G g hn hk hc hM hO hY hroom) (cwV 0 hts gX4_amount_X4_isFull rfl rfl rfl (by decide +kernel) ⟨Nat.le_of_ble_eq_true rfl, Nat.le_of_ble_eq_true rfl⟩) 0 rfl rfl rfl [0, 1] rfl hK hP hD hS hA [0, 1, 2, 3, 4, 5, 6, 7, 8, 9, 10] [] rfl (by decide) rfl (by decide) (by decide) [0, 1, 2, 3, 4, 5, 6, 7, 8, 9, 10] (by decide) (fun _ => rfl) (Nat.le_refl _) (Nat.le_refl _) (Nat.le_of_ble_eq_true rfl) (Nat.le_of_ble_eq_true rfl) rfl hl.1 (Nat.le_of_ble_eq_true rfl) (fun _ => rfl) rfl dX4_amount_35 (fun u H locs hu hP hD hS => ?_)
  refine k_if_eq hx hb (tgt := 49) (by decide) dX4_amount_38 (by decide) (fun h => absurd h (by decide)) (fun c_3 => ?_)
  refine lv_aload_n hx hb dX4_amount_41 rfl (lv_at hl 0 rfl) ?_
  refine lv_iconst (v := (nI 3)) hx hb dX4_amount_42 (by decide) ?_
  refine kM_callV (As := [.int (nI 3)]) (rest := []) (wr := []) (w2 := fun _ => [(z, .inr (4, [.int (nI 3), .ref m1, .ref m2, .ref m3, .ref m4, .ref m5, .ref m6, .ref m7, .int (nI n), .int (nI nc), .ref m8, .ref m9, .ref m10])), (m1, .inl (cI, 8, .inl f)), (m2, .inl (cI, 480, .inl K)), (m3, .inl (cI, 480, .inl (nF O))), (m4, .inl (cI, 480, .inl T)), (m5, .inl (cI, 41, .inl (nF M))), (m6, .inl (cI, 40, .inl Z)), (m7, .inl (cZ, 40, .inl (prF k))), (m8, .inl (cI, 6, .inl (nF Y))), (m9, .inl (cI, 48, .inl G)), (m10, .inl (cI, 8, .inl g))]) (st2 := fun _ => [.int (nI 0)]) (k := 0) (n2 := 0) ⟨hx, hb, hml, hown, hts⟩ (c_X4_fail l D cI cZ z m1 m2 m3 m4 m5 m6 m7 m8 m9 m10 (nI 0) f K O T M Z k n nc Y G g (nI 3)) (cwV 1 hts gX4_amount_X4_fail rfl rfl rfl (by decide +kernel) ⟨Nat.le_of_ble_eq_true rfl, Nat.le_of_ble_eq_true rfl⟩) 0 rfl rfl rfl [0, 1] rfl hK hP hD hS hA [0, 1, 2, 3, 4, 5, 6, 7, 8, 9, 10] [] rfl (by decide) rfl (by decide) (by decide) [0, 1, 2, 3, 4, 5, 6, 7, 8, 9, 10] (by decide) (fun _ => rfl) (Nat.le_refl _) (Nat.le_refl _) (Nat.le_of_ble_eq_true rfl) (Nat.le_of_ble_eq_true rfl) rfl hl.1 (Nat.le_of_ble_eq_true rfl) (fun _ => rfl) rfl dX4_amount_43 (fun u H locs hu hP hD hS => ?_)
  refine lv_goto (tgt := 56) hx hb dX4_amount_46 (by decide) ?_
  exact kM_iret hx hb hr hlk hQ hP hD hK hS () rfl (Nat.le_of_ble_eq_true rfl) (Nat.le_of_ble_eq_true rfl) rfl trivial dX4_amount_56
def rm_c_X4_snow_3 : Room := { frames := 4, cells := 0, slots := 0, locals := 95 }
set_option maxHeartbeats 4000000 in
set_option maxRecDepth 100000 in
theorem c_X4_snow_3 (l : Launch) (D : va_G) (cI : ClassId) (cZ : ClassId) (z m1 m2 m3 m4 m5 m6 m7 m8 m9 m10 : Nat) (th : Int32) (f K : Nat → Int32) (O : Nat → Nat) (T : Nat → Int32) (M : Nat → Nat) (Z : Nat → Int32) (k n nc : Nat) (Y : Nat → Nat) (G g : Nat → Int32) (j : Nat) (v : Int32) (hn : n ≤ 40) (hk : k ≤ n) (hc : nc ≤ 6) (hM : ∀ i, M i ≤ 12) (hO : ∀ i, O i < 8) (hY : ∀ i, Y i ≤ 40) (hj : j < 8) (hv1 : ¬ v < nI 1) (hv2 : v ≤ nI 99) (hroom : ¬ (n < 40 ∧ M n < 12)) :
    kM l yX4_snow wsX4_snow rm_c_X4_snow_3 D [(cI, FieldType.int), (cZ, FieldType.boolean)] [.ref z, .int (nI j), .int v] [(z, .inr (4, [.int th, .ref m1, .ref m2, .ref m3, .ref m4, .ref m5, .ref m6, .ref m7, .int (nI n), .int (nI nc), .ref m8, .ref m9, .ref m10])), (m1, .inl (cI, 8, .inl f)), (m2, .inl (cI, 480, .inl K)), (m3, .inl (cI, 480, .inl (nF O))), (m4, .inl (cI, 480, .inl T)), (m5, .inl (cI, 41, .inl (nF M))), (m6, .inl (cI, 40, .inl Z)), (m7, .inl (cZ, 40, .inl (prF k))), (m8, .inl (cI, 6, .inl (nF Y))), (m9, .inl (cI, 48, .inl G)), (m10, .inl (cI, 8, .inl g))] (fun _ : Unit => True) (fun _ => some (.int (nI 0))) (fun _ => [(z, .inr (4, [.int (nI 3), .ref m1, .ref m2, .ref m3, .ref m4, .ref m5, .ref m6, .ref m7, .int (nI n), .int (nI nc), .ref m8, .ref m9, .ref m10])), (m1, .inl (cI, 8, .inl f)), (m2, .inl (cI, 480, .inl K)), (m3, .inl (cI, 480, .inl (nF O))), (m4, .inl (cI, 480, .inl T)), (m5, .inl (cI, 41, .inl (nF M))), (m6, .inl (cI, 40, .inl Z)), (m7, .inl (cZ, 40, .inl (prF k))), (m8, .inl (cI, 6, .inl (nF Y))), (m9, .inl (cI, 48, .inl G)), (m10, .inl (cI, 8, .inl g))]) := by
  refine kM_of (cc := cX4_snow) (maxL := 3) (ret := (some .int)) (own := RX4) (by decide) rfl rfl (Nat.le_of_ble_eq_true rfl) ?_
  intro p e s m args below meth c A ls Qz hx hb hml hr hts hown hlk hin hQ hA hS hP hD hK hl
  have hl : lv_has ls 3 [(0, .ref z), (1, .int (nI j)), (2, .int v)] := hl
  refine lv_aload_n hx hb dX4_snow_0 rfl (lv_at hl 0 rfl) ?_
  refine lv_iconst (v := (nI 0)) hx hb dX4_snow_1 (by decide) ?_
  refine lv_iload_n hx hb dX4_snow_2 rfl (lv_at hl 1 rfl) ?_
  refine lv_iload_n hx hb dX4_snow_3 rfl (lv_at hl 2 rfl) ?_
  refine kM_callV (As := [.int (nI 0), .int (nI j), .int v]) (rest := []) (wr := []) (w2 := fun _ => [(z, .inr (4, [.int (nI 3), .ref m1, .ref m2, .ref m3, .ref m4, .ref m5, .ref m6, .ref m7, .int (nI n), .int (nI nc), .ref m8, .ref m9, .ref m10])), (m1, .inl (cI, 8, .inl f)), (m2, .inl (cI, 480, .inl K)), (m3, .inl (cI, 480, .inl (nF O))), (m4, .inl (cI, 480, .inl T)), (m5, .inl (cI, 41, .inl (nF M))), (m6, .inl (cI, 40, .inl Z)), (m7, .inl (cZ, 40, .inl (prF k))), (m8, .inl (cI, 6, .inl (nF Y))), (m9, .inl (cI, 48, .inl G)), (m10, .inl (cI, 8, .inl g))]) (st2 := fun _ => [.int (nI 0)]) (k := 0) (n2 := 0) ⟨hx, hb, hml, hown, hts⟩ (c_X4_amount_3 l D cI cZ z m1 m2 m3 m4 m5 m6 m7 m8 m9 m10 th f K O T M Z k n nc Y G g (nI 0) j v hn hk hc hM hO hY hj hv1 hv2 hroom) (cwV 3 hts gX4_snow_X4_amount rfl rfl rfl (by decide +kernel) ⟨Nat.le_of_ble_eq_true rfl, Nat.le_of_ble_eq_true rfl⟩) 0 rfl rfl rfl [0, 1] rfl hK hP hD hS hA [0, 1, 2, 3, 4, 5, 6, 7, 8, 9, 10] [] rfl (by decide) rfl (by decide) (by decide) [0, 1, 2, 3, 4, 5, 6, 7, 8, 9, 10] (by decide) (fun _ => rfl) (Nat.le_refl _) (Nat.le_refl _) (Nat.le_of_ble_eq_true rfl) (Nat.le_of_ble_eq_true rfl) rfl hl.1 (Nat.le_of_ble_eq_true rfl) (fun _ => rfl) rfl dX4_snow_4 (fun u H locs hu hP hD hS => ?_)
  exact kM_iret hx hb hr hlk hQ hP hD hK hS () rfl (Nat.le_of_ble_eq_true rfl) (Nat.le_of_ble_eq_true rfl) rfl trivial dX4_snow_7
def rm_c_X4_melt_3 : Room := { frames := 4, cells := 0, slots := 0, locals := 95 }
set_option maxHeartbeats 4000000 in
set_option maxRecDepth 100000 in
theorem c_X4_melt_3 (l : Launch) (D : va_G) (cI : ClassId) (cZ : ClassId) (z m1 m2 m3 m4 m5 m6 m7 m8 m9 m10 : Nat) (th : Int32) (f K : Nat → Int32) (O : Nat → Nat) (T : Nat → Int32) (M : Nat → Nat) (Z : Nat → Int32) (k n nc : Nat) (Y : Nat → Nat) (G g : Nat → Int32) (j : Nat) (v : Int32) (hn : n ≤ 40) (hk : k ≤ n) (hc : nc ≤ 6) (hM : ∀ i, M i ≤ 12) (hO : ∀ i, O i < 8) (hY : ∀ i, Y i ≤ 40) (hj : j < 8) (hv1 : ¬ v < nI 1) (hv2 : v ≤ nI 99) (hroom : ¬ (n < 40 ∧ M n < 12)) :
    kM l yX4_melt wsX4_melt rm_c_X4_melt_3 D [(cI, FieldType.int), (cZ, FieldType.boolean)] [.ref z, .int (nI j), .int v] [(z, .inr (4, [.int th, .ref m1, .ref m2, .ref m3, .ref m4, .ref m5, .ref m6, .ref m7, .int (nI n), .int (nI nc), .ref m8, .ref m9, .ref m10])), (m1, .inl (cI, 8, .inl f)), (m2, .inl (cI, 480, .inl K)), (m3, .inl (cI, 480, .inl (nF O))), (m4, .inl (cI, 480, .inl T)), (m5, .inl (cI, 41, .inl (nF M))), (m6, .inl (cI, 40, .inl Z)), (m7, .inl (cZ, 40, .inl (prF k))), (m8, .inl (cI, 6, .inl (nF Y))), (m9, .inl (cI, 48, .inl G)), (m10, .inl (cI, 8, .inl g))] (fun _ : Unit => True) (fun _ => some (.int (nI 0))) (fun _ => [(z, .inr (4, [.int (nI 3), .ref m1, .ref m2, .ref m3, .ref m4, .ref m5, .ref m6, .ref m7, .int (nI n), .int (nI nc), .ref m8, .ref m9, .ref m10])), (m1, .inl (cI, 8, .inl f)), (m2, .inl (cI, 480, .inl K)), (m3, .inl (cI, 480, .inl (nF O))), (m4, .inl (cI, 480, .inl T)), (m5, .inl (cI, 41, .inl (nF M))), (m6, .inl (cI, 40, .inl Z)), (m7, .inl (cZ, 40, .inl (prF k))), (m8, .inl (cI, 6, .inl (nF Y))), (m9, .inl (cI, 48, .inl G)), (m10, .inl (cI, 8, .inl g))]) := by
  refine kM_of (cc := cX4_melt) (maxL := 3) (ret := (some .int)) (own := RX4) (by decide) rfl rfl (Nat.le_of_ble_eq_true rfl) ?_
  intro p e s m args below meth c A ls Qz hx hb hml hr hts hown hlk hin hQ hA hS hP hD hK hl
  have hl : lv_has ls 3 [(0, .ref z), (1, .int (nI j)), (2, .int v)] := hl
  refine lv_aload_n hx hb dX4_melt_0 rfl (lv_at hl 0 rfl) ?_
  refine lv_iconst (v := (nI 1)) hx hb dX4_melt_1 (by decide) ?_
  refine lv_iload_n hx hb dX4_melt_2 rfl (lv_at hl 1 rfl) ?_
  refine lv_iload_n hx hb dX4_melt_3 rfl (lv_at hl 2 rfl) ?_
  refine kM_callV (As := [.int (nI 1), .int (nI j), .int v]) (rest := []) (wr := []) (w2 := fun _ => [(z, .inr (4, [.int (nI 3), .ref m1, .ref m2, .ref m3, .ref m4, .ref m5, .ref m6, .ref m7, .int (nI n), .int (nI nc), .ref m8, .ref m9, .ref m10])), (m1, .inl (cI, 8, .inl f)), (m2, .inl (cI, 480, .inl K)), (m3, .inl (cI, 480, .inl (nF O))), (m4, .inl (cI, 480, .inl T)), (m5, .inl (cI, 41, .inl (nF M))), (m6, .inl (cI, 40, .inl Z)), (m7, .inl (cZ, 40, .inl (prF k))), (m8, .inl (cI, 6, .inl (nF Y))), (m9, .inl (cI, 48, .inl G)), (m10, .inl (cI, 8, .inl g))]) (st2 := fun _ => [.int (nI 0)]) (k := 0) (n2 := 0) ⟨hx, hb, hml, hown, hts⟩ (c_X4_amount_3 l D cI cZ z m1 m2 m3 m4 m5 m6 m7 m8 m9 m10 th f K O T M Z k n nc Y G g (nI 1) j v hn hk hc hM hO hY hj hv1 hv2 hroom) (cwV 3 hts gX4_melt_X4_amount rfl rfl rfl (by decide +kernel) ⟨Nat.le_of_ble_eq_true rfl, Nat.le_of_ble_eq_true rfl⟩) 0 rfl rfl rfl [0, 1] rfl hK hP hD hS hA [0, 1, 2, 3, 4, 5, 6, 7, 8, 9, 10] [] rfl (by decide) rfl (by decide) (by decide) [0, 1, 2, 3, 4, 5, 6, 7, 8, 9, 10] (by decide) (fun _ => rfl) (Nat.le_refl _) (Nat.le_refl _) (Nat.le_of_ble_eq_true rfl) (Nat.le_of_ble_eq_true rfl) rfl hl.1 (Nat.le_of_ble_eq_true rfl) (fun _ => rfl) rfl dX4_melt_4 (fun u H locs hu hP hD hS => ?_)
  exact kM_iret hx hb hr hlk hQ hP hD hK hS () rfl (Nat.le_of_ble_eq_true rfl) (Nat.le_of_ble_eq_true rfl) rfl trivial dX4_melt_7
theorem iu_X4_flow_X4 : ∀ w ∈ wsX40, w ∈ wsX4_flow := fun w h => (List.mem_cons_of_mem _ (List.mem_append_right _ h))
def rm_c_X4_flow : Room := { frames := 3, cells := 0, slots := 0, locals := 72 }
set_option maxHeartbeats 4000000 in
set_option maxRecDepth 100000 in
theorem c_X4_flow (l : Launch) (D : va_G) (cI : ClassId) (cZ : ClassId) (z m1 m2 m3 m4 m5 m6 m7 m8 m9 m10 : Nat) (th : Int32) (f K : Nat → Int32) (O : Nat → Nat) (T : Nat → Int32) (M : Nat → Nat) (Z : Nat → Int32) (k n nc : Nat) (Y : Nat → Nat) (G g : Nat → Int32) (j : Nat) (hn : n ≤ 40) (hk : k ≤ n) (hc : nc ≤ 6) (hM : ∀ i, M i ≤ 12) (hO : ∀ i, O i < 8) (hY : ∀ i, Y i ≤ 40) (hj : j < 8) (hroom : n < 40 ∧ M n < 12) :
    kM l yX4_flow wsX4_flow rm_c_X4_flow D [(cI, FieldType.int), (cZ, FieldType.boolean)] [.ref z, .int (nI j)] [(z, .inr (4, [.int th, .ref m1, .ref m2, .ref m3, .ref m4, .ref m5, .ref m6, .ref m7, .int (nI n), .int (nI nc), .ref m8, .ref m9, .ref m10])), (m1, .inl (cI, 8, .inl f)), (m2, .inl (cI, 480, .inl K)), (m3, .inl (cI, 480, .inl (nF O))), (m4, .inl (cI, 480, .inl T)), (m5, .inl (cI, 41, .inl (nF M))), (m6, .inl (cI, 40, .inl Z)), (m7, .inl (cZ, 40, .inl (prF k))), (m8, .inl (cI, 6, .inl (nF Y))), (m9, .inl (cI, 48, .inl G)), (m10, .inl (cI, 8, .inl g))] (fun _ : Unit => True) (fun _ => some (.int (perf f (nI 2) j (nI 0) j))) (fun _ => [(z, .inr (4, [.int (nI 0), .ref m1, .ref m2, .ref m3, .ref m4, .ref m5, .ref m6, .ref m7, .int (nI n), .int (nI nc), .ref m8, .ref m9, .ref m10])), (m1, .inl (cI, 8, .inl (perf f (nI 2) j (nI 0)))), (m2, .inl (cI, 480, .inl (upd K (n * 12 + M n) (nI 2)))), (m3, .inl (cI, 480, .inl (nF (upN O (n * 12 + M n) j)))), (m4, .inl (cI, 480, .inl (upd T (n * 12 + M n) (nI 0)))), (m5, .inl (cI, 41, .inl (nF (upN M n (M n + 1))))), (m6, .inl (cI, 40, .inl Z)), (m7, .inl (cZ, 40, .inl (prF k))), (m8, .inl (cI, 6, .inl (nF Y))), (m9, .inl (cI, 48, .inl G)), (m10, .inl (cI, 8, .inl g))]) := by
  refine kM_of (cc := cX4_flow) (maxL := 2) (ret := (some .int)) (own := RX4) (by decide) rfl rfl (Nat.le_of_ble_eq_true rfl) ?_
  intro p e s m args below meth c A ls Qz hx hb hml hr hts hown hlk hin hQ hA hS hP hD hK hl
  have hl : lv_has ls 2 [(0, .ref z), (1, .int (nI j))] := hl
  refine lv_aload_n hx hb dX4_flow_0 rfl (lv_at hl 0 rfl) ?_
  refine lv_iconst (v := (nI 0)) hx hb dX4_flow_1 (by decide) ?_
  refine va_put (D := D) (ci := 4) (v := .int (nI 0)) (ty := .int) (C := RX4) (T := TX4) (N := 13) hx hb hts iu_X4_flow_X4 tyX4 tyX4_ok nmX4 hown hK hP hD hS 0 rfl rfl 0 (by decide) (hts _ (List.mem_of_getElem? (i := 1) rfl)) (fun _ h9 => h9) rfl (by decide +kernel) rfl rfl (Nat.le_of_ble_eq_true rfl) dX4_flow_2 (fun H locs hP hD hS => ?_)
  have hP : va_P D vwCl [(z, .inr (4, [.int (nI 0), .ref m1, .ref m2, .ref m3, .ref m4, .ref m5, .ref m6, .ref m7, .int (nI n), .int (nI nc), .ref m8, .ref m9, .ref m10])), (m1, .inl (cI, 8, .inl f)), (m2, .inl (cI, 480, .inl K)), (m3, .inl (cI, 480, .inl (nF O))), (m4, .inl (cI, 480, .inl T)), (m5, .inl (cI, 41, .inl (nF M))), (m6, .inl (cI, 40, .inl Z)), (m7, .inl (cZ, 40, .inl (prF k))), (m8, .inl (cI, 6, .inl (nF Y))), (m9, .inl (cI, 48, .inl G)), (m10, .inl (cI, 8, .inl g))] H := hP
  have hD : va_D A [(z, .inr (4, [.int (nI 0), .ref m1, .ref m2, .ref m3, .ref m4, .ref m5, .ref m6, .ref m7, .int (nI n), .int (nI nc), .ref m8, .ref m9, .ref m10])), (m1, .inl (cI, 8, .inl f)), (m2, .inl (cI, 480, .inl K)), (m3, .inl (cI, 480, .inl (nF O))), (m4, .inl (cI, 480, .inl T)), (m5, .inl (cI, 41, .inl (nF M))), (m6, .inl (cI, 40, .inl Z)), (m7, .inl (cZ, 40, .inl (prF k))), (m8, .inl (cI, 6, .inl (nF Y))), (m9, .inl (cI, 48, .inl G)), (m10, .inl (cI, 8, .inl g))] := hD
  refine lv_iload_n hx hb dX4_flow_5 rfl (lv_at hl 1 rfl) ?_
  refine kM_callS (As := [.int (nI j)]) (rest := []) (wr := [(z, .inr (4, [.int (nI 0), .ref m1, .ref m2, .ref m3, .ref m4, .ref m5, .ref m6, .ref m7, .int (nI n), .int (nI nc), .ref m8, .ref m9, .ref m10])), (m1, .inl (cI, 8, .inl f)), (m2, .inl (cI, 480, .inl K)), (m3, .inl (cI, 480, .inl (nF O))), (m4, .inl (cI, 480, .inl T)), (m5, .inl (cI, 41, .inl (nF M))), (m6, .inl (cI, 40, .inl Z)), (m7, .inl (cZ, 40, .inl (prF k))), (m8, .inl (cI, 6, .inl (nF Y))), (m9, .inl (cI, 48, .inl G)), (m10, .inl (cI, 8, .inl g))]) (w2 := fun _ => [(z, .inr (4, [.int (nI 0), .ref m1, .ref m2, .ref m3, .ref m4, .ref m5, .ref m6, .ref m7, .int (nI n), .int (nI nc), .ref m8, .ref m9, .ref m10])), (m1, .inl (cI, 8, .inl f)), (m2, .inl (cI, 480, .inl K)), (m3, .inl (cI, 480, .inl (nF O))), (m4, .inl (cI, 480, .inl T)), (m5, .inl (cI, 41, .inl (nF M))), (m6, .inl (cI, 40, .inl Z)), (m7, .inl (cZ, 40, .inl (prF k))), (m8, .inl (cI, 6, .inl (nF Y))), (m9, .inl (cI, 48, .inl G)), (m10, .inl (cI, 8, .inl g))]) (st2 := fun _ => [.int (nI 1)]) (k := 0) (n2 := 0) ⟨hx, hb, hml, hown, hts⟩ (c_X4_isPlace_t l D cI cZ j hj) (va_cwS 1 hts gX4_flow_X4_isPlace rfl rfl rfl (by decide +kernel) ⟨Nat.le_of_ble_eq_true rfl, Nat.le_of_ble_eq_true rfl⟩) [0, 1] rfl hK hP hD hS hA [] [0, 1, 2, 3, 4, 5, 6, 7, 8, 9, 10] rfl (by decide) rfl (by decide) (by decide) [0, 1, 2, 3, 4, 5, 6, 7, 8, 9, 10] (by decide) (fun _ => rfl) (Nat.le_refl _) (Nat.le_refl _) (Nat.le_of_ble_eq_true rfl) (Nat.le_of_ble_eq_true rfl) rfl hl.1 (Nat.le_of_ble_eq_true rfl) (fun _ => rfl) rfl dX4_flow_6 (fun u H locs hu hP hD hS => ?_)
  refine k_if_ne hx hb (tgt := 18) (by decide) dX4_flow_9 (by decide) (fun c_1 => ?_) (fun h => absurd h (by decide))
  refine lv_aload_n hx hb dX4_flow_18 rfl (lv_at hl 0 rfl) ?_
  refine kM_callV (As := []) (rest := []) (wr := []) (w2 := fun _ => [(z, .inr (4, [.int (nI 0), .ref m1, .ref m2, .ref m3, .ref m4, .ref m5, .ref m6, .ref m7, .int (nI n), .int (nI nc), .ref m8, .ref m9, .ref m10])), (m1, .inl (cI, 8, .inl f)), (m2, .inl (cI, 480, .inl K)), (m3, .inl (cI, 480, .inl (nF O))), (m4, .inl (cI, 480, .inl T)), (m5, .inl (cI, 41, .inl (nF M))), (m6, .inl (cI, 40, .inl Z)), (m7, .inl (cZ, 40, .inl (prF k))), (m8, .inl (cI, 6, .inl (nF Y))), (m9, .inl (cI, 48, .inl G)), (m10, .inl (cI, 8, .inl g))]) (st2 := fun _ => [.int (nI 0)]) (k := 0) (n2 := 0) ⟨hx, hb, hml, hown, hts⟩ (c_X4_isFull_f l D cI cZ z m1 m2 m3 m4 m5 m6 m7 m8 m9 m10 (nI 0) f K O T M Z k n nc Y G g hn hk hc hM hO hY hroom) (cwV 0 hts gX4_flow_X4_isFull rfl rfl rfl (by decide +kernel) ⟨Nat.le_of_ble_eq_true rfl, Nat.le_of_ble_eq_true rfl⟩) 0 rfl rfl rfl [0, 1] rfl hK hP hD hS hA [0, 1, 2, 3, 4, 5, 6, 7, 8, 9, 10] [] rfl (by decide) rfl (by decide) (by decide) [0, 1, 2, 3, 4, 5, 6, 7, 8, 9, 10] (by decide) (fun _ => rfl) (Nat.le_refl _) (Nat.le_refl _) (Nat.le_of_ble_eq_true rfl) (Nat.le_of_ble_eq_true rfl) rfl hl.1 (Nat.le_of_ble_eq_true rfl) (fun _ => rfl) rfl dX4_flow_19 (fun u H locs hu hP hD hS => ?_)
  refine k_if_eq hx hb (tgt := 33) (by decide) dX4_flow_22 (by decide) (fun c_2 => ?_) (fun h => absurd h (by decide))
  refine lv_aload_n hx hb dX4_flow_33 rfl (lv_at hl 0 rfl) ?_
  refine lv_iconst (v := (nI 2)) hx hb dX4_flow_34 (by decide) ?_
  refine lv_iload_n hx hb dX4_flow_35 rfl (lv_at hl 1 rfl) ?_
  refine lv_iconst (v := (nI 0)) hx hb dX4_flow_36 (by decide) ?_
  refine kM_callV (As := [.int (nI 2), .int (nI j), .int (nI 0)]) (rest := []) (wr := []) (w2 := fun _ => [(z, .inr (4, [.int (nI 0), .ref m1, .ref m2, .ref m3, .ref m4, .ref m5, .ref m6, .ref m7, .int (nI n), .int (nI nc), .ref m8, .ref m9, .ref m10])), (m1, .inl (cI, 8, .inl (perf f (nI 2) j (nI 0)))), (m2, .inl (cI, 480, .inl (upd K (n * 12 + M n) (nI 2)))), (m3, .inl (cI, 480, .inl (nF (upN O (n * 12 + M n) j)))), (m4, .inl (cI, 480, .inl (upd T (n * 12 + M n) (nI 0)))), (m5, .inl (cI, 41, .inl (nF (upN M n (M n + 1))))), (m6, .inl (cI, 40, .inl Z)), (m7, .inl (cZ, 40, .inl (prF k))), (m8, .inl (cI, 6, .inl (nF Y))), (m9, .inl (cI, 48, .inl G)), (m10, .inl (cI, 8, .inl g))]) (st2 := fun _ => [.int (perf f (nI 2) j (nI 0) j)]) (k := 0) (n2 := 0) ⟨hx, hb, hml, hown, hts⟩ (c_X4_deed l D cI cZ z m1 m2 m3 m4 m5 m6 m7 m8 m9 m10 (nI 0) f K O T M Z k n nc Y G g (nI 2) j (nI 0) hn hk hc hM hO hY hj hroom) (cwV 3 hts gX4_flow_X4_deed rfl rfl rfl (by decide +kernel) ⟨Nat.le_of_ble_eq_true rfl, Nat.le_of_ble_eq_true rfl⟩) 0 rfl rfl rfl [0, 1] rfl hK hP hD hS hA [0, 1, 2, 3, 4, 5, 6, 7, 8, 9, 10] [] rfl (by decide) rfl (by decide) (by decide) [0, 1, 2, 3, 4, 5, 6, 7, 8, 9, 10] (by decide) (fun _ => rfl) (Nat.le_refl _) (Nat.le_refl _) (Nat.le_of_ble_eq_true rfl) (Nat.le_of_ble_eq_true rfl) rfl hl.1 (Nat.le_of_ble_eq_true rfl) (fun _ => rfl) rfl dX4_flow_37 (fun u H locs hu hP hD hS => ?_)
  exact kM_iret hx hb hr hlk hQ hP hD hK hS () rfl (Nat.le_of_ble_eq_true rfl) (Nat.le_of_ble_eq_true rfl) rfl trivial dX4_flow_40
def rm_c_X4_flow_1 : Room := { frames := 3, cells := 0, slots := 0, locals := 72 }
set_option maxHeartbeats 4000000 in
set_option maxRecDepth 100000 in
theorem c_X4_flow_1 (l : Launch) (D : va_G) (cI : ClassId) (cZ : ClassId) (z m1 m2 m3 m4 m5 m6 m7 m8 m9 m10 : Nat) (th : Int32) (f K : Nat → Int32) (O : Nat → Nat) (T : Nat → Int32) (M : Nat → Nat) (Z : Nat → Int32) (k n nc : Nat) (Y : Nat → Nat) (G g : Nat → Int32) (p_ : Int32) (hn : n ≤ 40) (hk : k ≤ n) (hc : nc ≤ 6) (hM : ∀ i, M i ≤ 12) (hO : ∀ i, O i < 8) (hY : ∀ i, Y i ≤ 40) (hv : p_ < 0 ∨ ¬ p_ < nI 8) :
    kM l yX4_flow wsX4_flow rm_c_X4_flow_1 D [(cI, FieldType.int), (cZ, FieldType.boolean)] [.ref z, .int p_] [(z, .inr (4, [.int th, .ref m1, .ref m2, .ref m3, .ref m4, .ref m5, .ref m6, .ref m7, .int (nI n), .int (nI nc), .ref m8, .ref m9, .ref m10])), (m1, .inl (cI, 8, .inl f)), (m2, .inl (cI, 480, .inl K)), (m3, .inl (cI, 480, .inl (nF O))), (m4, .inl (cI, 480, .inl T)), (m5, .inl (cI, 41, .inl (nF M))), (m6, .inl (cI, 40, .inl Z)), (m7, .inl (cZ, 40, .inl (prF k))), (m8, .inl (cI, 6, .inl (nF Y))), (m9, .inl (cI, 48, .inl G)), (m10, .inl (cI, 8, .inl g))] (fun _ : Unit => True) (fun _ => some (.int (nI 0))) (fun _ => [(z, .inr (4, [.int (nI 1), .ref m1, .ref m2, .ref m3, .ref m4, .ref m5, .ref m6, .ref m7, .int (nI n), .int (nI nc), .ref m8, .ref m9, .ref m10])), (m1, .inl (cI, 8, .inl f)), (m2, .inl (cI, 480, .inl K)), (m3, .inl (cI, 480, .inl (nF O))), (m4, .inl (cI, 480, .inl T)), (m5, .inl (cI, 41, .inl (nF M))), (m6, .inl (cI, 40, .inl Z)), (m7, .inl (cZ, 40, .inl (prF k))), (m8, .inl (cI, 6, .inl (nF Y))), (m9, .inl (cI, 48, .inl G)), (m10, .inl (cI, 8, .inl g))]) := by
  refine kM_of (cc := cX4_flow) (maxL := 2) (ret := (some .int)) (own := RX4) (by decide) rfl rfl (Nat.le_of_ble_eq_true rfl) ?_
  intro p e s m args below meth c A ls Qz hx hb hml hr hts hown hlk hin hQ hA hS hP hD hK hl
  have hl : lv_has ls 2 [(0, .ref z), (1, .int p_)] := hl
  refine lv_aload_n hx hb dX4_flow_0 rfl (lv_at hl 0 rfl) ?_
  refine lv_iconst (v := (nI 0)) hx hb dX4_flow_1 (by decide) ?_
  refine va_put (D := D) (ci := 4) (v := .int (nI 0)) (ty := .int) (C := RX4) (T := TX4) (N := 13) hx hb hts iu_X4_flow_X4 tyX4 tyX4_ok nmX4 hown hK hP hD hS 0 rfl rfl 0 (by decide) (hts _ (List.mem_of_getElem? (i := 1) rfl)) (fun _ h9 => h9) rfl (by decide +kernel) rfl rfl (Nat.le_of_ble_eq_true rfl) dX4_flow_2 (fun H locs hP hD hS => ?_)
  have hP : va_P D vwCl [(z, .inr (4, [.int (nI 0), .ref m1, .ref m2, .ref m3, .ref m4, .ref m5, .ref m6, .ref m7, .int (nI n), .int (nI nc), .ref m8, .ref m9, .ref m10])), (m1, .inl (cI, 8, .inl f)), (m2, .inl (cI, 480, .inl K)), (m3, .inl (cI, 480, .inl (nF O))), (m4, .inl (cI, 480, .inl T)), (m5, .inl (cI, 41, .inl (nF M))), (m6, .inl (cI, 40, .inl Z)), (m7, .inl (cZ, 40, .inl (prF k))), (m8, .inl (cI, 6, .inl (nF Y))), (m9, .inl (cI, 48, .inl G)), (m10, .inl (cI, 8, .inl g))] H := hP
  have hD : va_D A [(z, .inr (4, [.int (nI 0), .ref m1, .ref m2, .ref m3, .ref m4, .ref m5, .ref m6, .ref m7, .int (nI n), .int (nI nc), .ref m8, .ref m9, .ref m10])), (m1, .inl (cI, 8, .inl f)), (m2, .inl (cI, 480, .inl K)), (m3, .inl (cI, 480, .inl (nF O))), (m4, .inl (cI, 480, .inl T)), (m5, .inl (cI, 41, .inl (nF M))), (m6, .inl (cI, 40, .inl Z)), (m7, .inl (cZ, 40, .inl (prF k))), (m8, .inl (cI, 6, .inl (nF Y))), (m9, .inl (cI, 48, .inl G)), (m10, .inl (cI, 8, .inl g))] := hD
  refine lv_iload_n hx hb dX4_flow_5 rfl (lv_at hl 1 rfl) ?_
  refine kM_callS (As := [.int p_]) (rest := []) (wr := [(z, .inr (4, [.int (nI 0), .ref m1, .ref m2, .ref m3, .ref m4, .ref m5, .ref m6, .ref m7, .int (nI n), .int (nI nc), .ref m8, .ref m9, .ref m10])), (m1, .inl (cI, 8, .inl f)), (m2, .inl (cI, 480, .inl K)), (m3, .inl (cI, 480, .inl (nF O))), (m4, .inl (cI, 480, .inl T)), (m5, .inl (cI, 41, .inl (nF M))), (m6, .inl (cI, 40, .inl Z)), (m7, .inl (cZ, 40, .inl (prF k))), (m8, .inl (cI, 6, .inl (nF Y))), (m9, .inl (cI, 48, .inl G)), (m10, .inl (cI, 8, .inl g))]) (w2 := fun _ => [(z, .inr (4, [.int (nI 0), .ref m1, .ref m2, .ref m3, .ref m4, .ref m5, .ref m6, .ref m7, .int (nI n), .int (nI nc), .ref m8, .ref m9, .ref m10])), (m1, .inl (cI, 8, .inl f)), (m2, .inl (cI, 480, .inl K)), (m3, .inl (cI, 480, .inl (nF O))), (m4, .inl (cI, 480, .inl T)), (m5, .inl (cI, 41, .inl (nF M))), (m6, .inl (cI, 40, .inl Z)), (m7, .inl (cZ, 40, .inl (prF k))), (m8, .inl (cI, 6, .inl (nF Y))), (m9, .inl (cI, 48, .inl G)), (m10, .inl (cI, 8, .inl g))]) (st2 := fun _ => [.int (nI 0)]) (k := 0) (n2 := 0) ⟨hx, hb, hml, hown, hts⟩ (c_X4_isPlace_f l D cI cZ p_ hv) (va_cwS 1 hts gX4_flow_X4_isPlace rfl rfl rfl (by decide +kernel) ⟨Nat.le_of_ble_eq_true rfl, Nat.le_of_ble_eq_true rfl⟩) [0, 1] rfl hK hP hD hS hA [] [0, 1, 2, 3, 4, 5, 6, 7, 8, 9, 10] rfl (by decide) rfl (by decide) (by decide) [0, 1, 2, 3, 4, 5, 6, 7, 8, 9, 10] (by decide) (fun _ => rfl) (Nat.le_refl _) (Nat.le_refl _) (Nat.le_of_ble_eq_true rfl) (Nat.le_of_ble_eq_true rfl) rfl hl.1 (Nat.le_of_ble_eq_true rfl) (fun _ => rfl) rfl dX4_flow_6 (fun u H locs hu hP hD hS => ?_)
  refine k_if_ne hx hb (tgt := 18) (by decide) dX4_flow_9 (by decide) (fun h => absurd h (by decide)) (fun c_1 => ?_)
  refine lv_aload_n hx hb dX4_flow_12 rfl (lv_at hl 0 rfl) ?_
  refine lv_iconst (v := (nI 1)) hx hb dX4_flow_13 (by decide) ?_
  refine kM_callV (As := [.int (nI 1)]) (rest := []) (wr := []) (w2 := fun _ => [(z, .inr (4, [.int (nI 1), .ref m1, .ref m2, .ref m3, .ref m4, .ref m5, .ref m6, .ref m7, .int (nI n), .int (nI nc), .ref m8, .ref m9, .ref m10])), (m1, .inl (cI, 8, .inl f)), (m2, .inl (cI, 480, .inl K)), (m3, .inl (cI, 480, .inl (nF O))), (m4, .inl (cI, 480, .inl T)), (m5, .inl (cI, 41, .inl (nF M))), (m6, .inl (cI, 40, .inl Z)), (m7, .inl (cZ, 40, .inl (prF k))), (m8, .inl (cI, 6, .inl (nF Y))), (m9, .inl (cI, 48, .inl G)), (m10, .inl (cI, 8, .inl g))]) (st2 := fun _ => [.int (nI 0)]) (k := 0) (n2 := 0) ⟨hx, hb, hml, hown, hts⟩ (c_X4_fail l D cI cZ z m1 m2 m3 m4 m5 m6 m7 m8 m9 m10 (nI 0) f K O T M Z k n nc Y G g (nI 1)) (cwV 1 hts gX4_flow_X4_fail rfl rfl rfl (by decide +kernel) ⟨Nat.le_of_ble_eq_true rfl, Nat.le_of_ble_eq_true rfl⟩) 0 rfl rfl rfl [0, 1] rfl hK hP hD hS hA [0, 1, 2, 3, 4, 5, 6, 7, 8, 9, 10] [] rfl (by decide) rfl (by decide) (by decide) [0, 1, 2, 3, 4, 5, 6, 7, 8, 9, 10] (by decide) (fun _ => rfl) (Nat.le_refl _) (Nat.le_refl _) (Nat.le_of_ble_eq_true rfl) (Nat.le_of_ble_eq_true rfl) rfl hl.1 (Nat.le_of_ble_eq_true rfl) (fun _ => rfl) rfl dX4_flow_14 (fun u H locs hu hP hD hS => ?_)
  exact kM_iret hx hb hr hlk hQ hP hD hK hS () rfl (Nat.le_of_ble_eq_true rfl) (Nat.le_of_ble_eq_true rfl) rfl trivial dX4_flow_17
def rm_c_X4_flow_2 : Room := { frames := 3, cells := 0, slots := 0, locals := 72 }
set_option maxHeartbeats 4000000 in
set_option maxRecDepth 100000 in
theorem c_X4_flow_2 (l : Launch) (D : va_G) (cI : ClassId) (cZ : ClassId) (z m1 m2 m3 m4 m5 m6 m7 m8 m9 m10 : Nat) (th : Int32) (f K : Nat → Int32) (O : Nat → Nat) (T : Nat → Int32) (M : Nat → Nat) (Z : Nat → Int32) (k n nc : Nat) (Y : Nat → Nat) (G g : Nat → Int32) (j : Nat) (hn : n ≤ 40) (hk : k ≤ n) (hc : nc ≤ 6) (hM : ∀ i, M i ≤ 12) (hO : ∀ i, O i < 8) (hY : ∀ i, Y i ≤ 40) (hj : j < 8) (hroom : ¬ (n < 40 ∧ M n < 12)) :
    kM l yX4_flow wsX4_flow rm_c_X4_flow_2 D [(cI, FieldType.int), (cZ, FieldType.boolean)] [.ref z, .int (nI j)] [(z, .inr (4, [.int th, .ref m1, .ref m2, .ref m3, .ref m4, .ref m5, .ref m6, .ref m7, .int (nI n), .int (nI nc), .ref m8, .ref m9, .ref m10])), (m1, .inl (cI, 8, .inl f)), (m2, .inl (cI, 480, .inl K)), (m3, .inl (cI, 480, .inl (nF O))), (m4, .inl (cI, 480, .inl T)), (m5, .inl (cI, 41, .inl (nF M))), (m6, .inl (cI, 40, .inl Z)), (m7, .inl (cZ, 40, .inl (prF k))), (m8, .inl (cI, 6, .inl (nF Y))), (m9, .inl (cI, 48, .inl G)), (m10, .inl (cI, 8, .inl g))] (fun _ : Unit => True) (fun _ => some (.int (nI 0))) (fun _ => [(z, .inr (4, [.int (nI 2), .ref m1, .ref m2, .ref m3, .ref m4, .ref m5, .ref m6, .ref m7, .int (nI n), .int (nI nc), .ref m8, .ref m9, .ref m10])), (m1, .inl (cI, 8, .inl f)), (m2, .inl (cI, 480, .inl K)), (m3, .inl (cI, 480, .inl (nF O))), (m4, .inl (cI, 480, .inl T)), (m5, .inl (cI, 41, .inl (nF M))), (m6, .inl (cI, 40, .inl Z)), (m7, .inl (cZ, 40, .inl (prF k))), (m8, .inl (cI, 6, .inl (nF Y))), (m9, .inl (cI, 48, .inl G)), (m10, .inl (cI, 8, .inl g))]) := by
  refine kM_of (cc := cX4_flow) (maxL := 2) (ret := (some .int)) (own := RX4) (by decide) rfl rfl (Nat.le_of_ble_eq_true rfl) ?_
  intro p e s m args below meth c A ls Qz hx hb hml hr hts hown hlk hin hQ hA hS hP hD hK hl
  have hl : lv_has ls 2 [(0, .ref z), (1, .int (nI j))] := hl
  refine lv_aload_n hx hb dX4_flow_0 rfl (lv_at hl 0 rfl) ?_
  refine lv_iconst (v := (nI 0)) hx hb dX4_flow_1 (by decide) ?_
  refine va_put (D := D) (ci := 4) (v := .int (nI 0)) (ty := .int) (C := RX4) (T := TX4) (N := 13) hx hb hts iu_X4_flow_X4 tyX4 tyX4_ok nmX4 hown hK hP hD hS 0 rfl rfl 0 (by decide) (hts _ (List.mem_of_getElem? (i := 1) rfl)) (fun _ h9 => h9) rfl (by decide +kernel) rfl rfl (Nat.le_of_ble_eq_true rfl) dX4_flow_2 (fun H locs hP hD hS => ?_)
  have hP : va_P D vwCl [(z, .inr (4, [.int (nI 0), .ref m1, .ref m2, .ref m3, .ref m4, .ref m5, .ref m6, .ref m7, .int (nI n), .int (nI nc), .ref m8, .ref m9, .ref m10])), (m1, .inl (cI, 8, .inl f)), (m2, .inl (cI, 480, .inl K)), (m3, .inl (cI, 480, .inl (nF O))), (m4, .inl (cI, 480, .inl T)), (m5, .inl (cI, 41, .inl (nF M))), (m6, .inl (cI, 40, .inl Z)), (m7, .inl (cZ, 40, .inl (prF k))), (m8, .inl (cI, 6, .inl (nF Y))), (m9, .inl (cI, 48, .inl G)), (m10, .inl (cI, 8, .inl g))] H := hP
  have hD : va_D A [(z, .inr (4, [.int (nI 0), .ref m1, .ref m2, .ref m3, .ref m4, .ref m5, .ref m6, .ref m7, .int (nI n), .int (nI nc), .ref m8, .ref m9, .ref m10])), (m1, .inl (cI, 8, .inl f)), (m2, .inl (cI, 480, .inl K)), (m3, .inl (cI, 480, .inl (nF O))), (m4, .inl (cI, 480, .inl T)), (m5, .inl (cI, 41, .inl (nF M))), (m6, .inl (cI, 40, .inl Z)), (m7, .inl (cZ, 40, .inl (prF k))), (m8, .inl (cI, 6, .inl (nF Y))), (m9, .inl (cI, 48, .inl G)), (m10, .inl (cI, 8, .inl g))] := hD
  refine lv_iload_n hx hb dX4_flow_5 rfl (lv_at hl 1 rfl) ?_
  refine kM_callS (As := [.int (nI j)]) (rest := []) (wr := [(z, .inr (4, [.int (nI 0), .ref m1, .ref m2, .ref m3, .ref m4, .ref m5, .ref m6, .ref m7, .int (nI n), .int (nI nc), .ref m8, .ref m9, .ref m10])), (m1, .inl (cI, 8, .inl f)), (m2, .inl (cI, 480, .inl K)), (m3, .inl (cI, 480, .inl (nF O))), (m4, .inl (cI, 480, .inl T)), (m5, .inl (cI, 41, .inl (nF M))), (m6, .inl (cI, 40, .inl Z)), (m7, .inl (cZ, 40, .inl (prF k))), (m8, .inl (cI, 6, .inl (nF Y))), (m9, .inl (cI, 48, .inl G)), (m10, .inl (cI, 8, .inl g))]) (w2 := fun _ => [(z, .inr (4, [.int (nI 0), .ref m1, .ref m2, .ref m3, .ref m4, .ref m5, .ref m6, .ref m7, .int (nI n), .int (nI nc), .ref m8, .ref m9, .ref m10])), (m1, .inl (cI, 8, .inl f)), (m2, .inl (cI, 480, .inl K)), (m3, .inl (cI, 480, .inl (nF O))), (m4, .inl (cI, 480, .inl T)), (m5, .inl (cI, 41, .inl (nF M))), (m6, .inl (cI, 40, .inl Z)), (m7, .inl (cZ, 40, .inl (prF k))), (m8, .inl (cI, 6, .inl (nF Y))), (m9, .inl (cI, 48, .inl G)), (m10, .inl (cI, 8, .inl g))]) (st2 := fun _ => [.int (nI 1)]) (k := 0) (n2 := 0) ⟨hx, hb, hml, hown, hts⟩ (c_X4_isPlace_t l D cI cZ j hj) (va_cwS 1 hts gX4_flow_X4_isPlace rfl rfl rfl (by decide +kernel) ⟨Nat.le_of_ble_eq_true rfl, Nat.le_of_ble_eq_true rfl⟩) [0, 1] rfl hK hP hD hS hA [] [0, 1, 2, 3, 4, 5, 6, 7, 8, 9, 10] rfl (by decide) rfl (by decide) (by decide) [0, 1, 2, 3, 4, 5, 6, 7, 8, 9, 10] (by decide) (fun _ => rfl) (Nat.le_refl _) (Nat.le_refl _) (Nat.le_of_ble_eq_true rfl) (Nat.le_of_ble_eq_true rfl) rfl hl.1 (Nat.le_of_ble_eq_true rfl) (fun _ => rfl) rfl dX4_flow_6 (fun u H locs hu hP hD hS => ?_)
  refine k_if_ne hx hb (tgt := 18) (by decide) dX4_flow_9 (by decide) (fun c_1 => ?_) (fun h => absurd h (by decide))
  refine lv_aload_n hx hb dX4_flow_18 rfl (lv_at hl 0 rfl) ?_
  refine kM_callV (As := []) (rest := []) (wr := []) (w2 := fun _ => [(z, .inr (4, [.int (nI 0), .ref m1, .ref m2, .ref m3, .ref m4, .ref m5, .ref m6, .ref m7, .int (nI n), .int (nI nc), .ref m8, .ref m9, .ref m10])), (m1, .inl (cI, 8, .inl f)), (m2, .inl (cI, 480, .inl K)), (m3, .inl (cI, 480, .inl (nF O))), (m4, .inl (cI, 480, .inl T)), (m5, .inl (cI, 41, .inl (nF M))), (m6, .inl (cI, 40, .inl Z)), (m7, .inl (cZ, 40, .inl (prF k))), (m8, .inl (cI, 6, .inl (nF Y))), (m9, .inl (cI, 48, .inl G)), (m10, .inl (cI, 8, .inl g))]) (st2 := fun _ => [.int (nI 1)]) (k := 0) (n2 := 0) ⟨hx, hb, hml, hown, hts⟩ (c_X4_isFull_t l D cI cZ z m1 m2 m3 m4 m5 m6 m7 m8 m9 m10 (nI 0) f K O T M Z k n nc Y G g hn hk hc hM hO hY hroom) (cwV 0 hts gX4_flow_X4_isFull rfl rfl rfl (by decide +kernel) ⟨Nat.le_of_ble_eq_true rfl, Nat.le_of_ble_eq_true rfl⟩) 0 rfl rfl rfl [0, 1] rfl hK hP hD hS hA [0, 1, 2, 3, 4, 5, 6, 7, 8, 9, 10] [] rfl (by decide) rfl (by decide) (by decide) [0, 1, 2, 3, 4, 5, 6, 7, 8, 9, 10] (by decide) (fun _ => rfl) (Nat.le_refl _) (Nat.le_refl _) (Nat.le_of_ble_eq_true rfl) (Nat.le_of_ble_eq_true rfl) rfl hl.1 (Nat.le_of_ble_eq_true rfl) (fun _ => rfl) rfl dX4_flow_19 (fun u H locs hu hP hD hS => ?_)
  refine k_if_eq hx hb (tgt := 33) (by decide) dX4_flow_22 (by decide) (fun h => absurd h (by decide)) (fun c_2 => ?_)
  refine lv_aload_n hx hb dX4_flow_25 rfl (lv_at hl 0 rfl) ?_
  refine lv_iconst (v := (nI 2)) hx hb dX4_flow_26 (by decide) ?_
  refine kM_callV (As := [.int (nI 2)]) (rest := []) (wr := []) (w2 := fun _ => [(z, .inr (4, [.int (nI 2), .ref m1, .ref m2, .ref m3, .ref m4, .ref m5, .ref m6, .ref m7, .int (nI n), .int (nI nc), .ref m8, .ref m9, .ref m10])), (m1, .inl (cI, 8, .inl f)), (m2, .inl (cI, 480, .inl K)), (m3, .inl (cI, 480, .inl (nF O))), (m4, .inl (cI, 480, .inl T)), (m5, .inl (cI, 41, .inl (nF M))), (m6, .inl (cI, 40, .inl Z)), (m7, .inl (cZ, 40, .inl (prF k))), (m8, .inl (cI, 6, .inl (nF Y))), (m9, .inl (cI, 48, .inl G)), (m10, .inl (cI, 8, .inl g))]) (st2 := fun _ => [.int (nI 0)]) (k := 0) (n2 := 0) ⟨hx, hb, hml, hown, hts⟩ (c_X4_fail l D cI cZ z m1 m2 m3 m4 m5 m6 m7 m8 m9 m10 (nI 0) f K O T M Z k n nc Y G g (nI 2)) (cwV 1 hts gX4_flow_X4_fail rfl rfl rfl (by decide +kernel) ⟨Nat.le_of_ble_eq_true rfl, Nat.le_of_ble_eq_true rfl⟩) 0 rfl rfl rfl [0, 1] rfl hK hP hD hS hA [0, 1, 2, 3, 4, 5, 6, 7, 8, 9, 10] [] rfl (by decide) rfl (by decide) (by decide) [0, 1, 2, 3, 4, 5, 6, 7, 8, 9, 10] (by decide) (fun _ => rfl) (Nat.le_refl _) (Nat.le_refl _) (Nat.le_of_ble_eq_true rfl) (Nat.le_of_ble_eq_true rfl) rfl hl.1 (Nat.le_of_ble_eq_true rfl) (fun _ => rfl) rfl dX4_flow_27 (fun u H locs hu hP hD hS => ?_)
  refine lv_goto (tgt := 40) hx hb dX4_flow_30 (by decide) ?_
  exact kM_iret hx hb hr hlk hQ hP hD hK hS () rfl (Nat.le_of_ble_eq_true rfl) (Nat.le_of_ble_eq_true rfl) rfl trivial dX4_flow_40
theorem iu_X4_sealed_X4 : ∀ w ∈ wsX40, w ∈ wsX4_sealed := fun w h => (List.mem_cons_of_mem _ (List.mem_append_right _ h))
def rm_c_X4_sealed_0 : Room := { frames := 0, cells := 0, slots := 0, locals := 0 }
set_option maxHeartbeats 4000000 in
set_option maxRecDepth 100000 in
theorem c_X4_sealed_0 (l : Launch) (D : va_G) (cI : ClassId) (cZ : ClassId) (z m1 m2 m3 m4 m5 m6 m7 m8 m9 m10 : Nat) (th : Int32) (f K : Nat → Int32) (O : Nat → Nat) (T : Nat → Int32) (M : Nat → Nat) (Z : Nat → Int32) (k n nc : Nat) (Y : Nat → Nat) (G g : Nat → Int32) (hn : n ≤ 40) (hk : k ≤ n) (hc : nc ≤ 6) (hM : ∀ i, M i ≤ 12) (hO : ∀ i, O i < 8) (hY : ∀ i, Y i ≤ 40) :
    kM l yX4_sealed wsX4_sealed rm_c_X4_sealed_0 D [(cI, FieldType.int), (cZ, FieldType.boolean)] [.ref z, .int (nI 0)] [(z, .inr (4, [.int th, .ref m1, .ref m2, .ref m3, .ref m4, .ref m5, .ref m6, .ref m7, .int (nI n), .int (nI nc), .ref m8, .ref m9, .ref m10])), (m1, .inl (cI, 8, .inl f)), (m2, .inl (cI, 480, .inl K)), (m3, .inl (cI, 480, .inl (nF O))), (m4, .inl (cI, 480, .inl T)), (m5, .inl (cI, 41, .inl (nF M))), (m6, .inl (cI, 40, .inl Z)), (m7, .inl (cZ, 40, .inl (prF k))), (m8, .inl (cI, 6, .inl (nF Y))), (m9, .inl (cI, 48, .inl G)), (m10, .inl (cI, 8, .inl g))] (fun _ : Unit => True) (fun _ => some (.int (sealW K O T 0 (nI 17) (M 0)))) (fun _ => [(z, .inr (4, [.int th, .ref m1, .ref m2, .ref m3, .ref m4, .ref m5, .ref m6, .ref m7, .int (nI n), .int (nI nc), .ref m8, .ref m9, .ref m10])), (m1, .inl (cI, 8, .inl f)), (m2, .inl (cI, 480, .inl K)), (m3, .inl (cI, 480, .inl (nF O))), (m4, .inl (cI, 480, .inl T)), (m5, .inl (cI, 41, .inl (nF M))), (m6, .inl (cI, 40, .inl Z)), (m7, .inl (cZ, 40, .inl (prF k))), (m8, .inl (cI, 6, .inl (nF Y))), (m9, .inl (cI, 48, .inl G)), (m10, .inl (cI, 8, .inl g))]) := by
  refine kM_of (cc := cX4_sealed) (maxL := 4) (ret := (some .int)) (own := RX4) (by decide) rfl rfl (Nat.le_of_ble_eq_true rfl) ?_
  intro p e s m args below meth c A ls Qz hx hb hml hr hts hown hlk hin hQ hA hS hP hD hK hl
  have hl : lv_has ls 4 [(0, .ref z), (1, .int (nI 0))] := hl
  have hMj := hM 0
  refine lv_iload_n hx hb dX4_sealed_0 rfl (lv_at hl 1 rfl) ?_
  refine k_if_ne hx hb (tgt := 9) (by decide) dX4_sealed_1 (by decide) (fun h => absurd h (by decide)) (fun c_1 => ?_)
  refine lv_bipush (v := (nI 17)) hx hb dX4_sealed_4 (by decide) ?_
  refine lv_goto (tgt := 17) hx hb dX4_sealed_6 (by decide) ?_
  refine lv_istore_n (lv' := [(2, .int (nI 17)), (0, .ref z), (1, .int (nI 0))]) hx hb dX4_sealed_17 rfl hl (by decide) rfl (fun ls hl => ?_)
  refine lv_bipush (v := (nI 12)) hx hb dX4_sealed_18 (by decide) ?_
  refine lv_iload_n hx hb dX4_sealed_20 rfl (lv_at hl 2 rfl) ?_
  refine k_imul hx hb dX4_sealed_21 ?_
  refine k_top (y := (nI 0)) rfl ?_
  refine lv_istore_n (lv' := [(3, .int (nI 0)), (2, .int (nI 17)), (0, .ref z), (1, .int (nI 0))]) hx hb dX4_sealed_22 rfl hl (by decide) rfl (fun ls hl => ?_)
  have lp_23 : ∀ (fu d : Nat), 0 ≤ d → d ≤ M 0 → (M 0) + 1 ≤ d + fu → ∀ (x1 : Int32), x1 = sealW K O T 0 (nI 17) d → ∀ (H : Heap) (locs : List Loc), va_P D vwCl [(z, .inr (4, [.int th, .ref m1, .ref m2, .ref m3, .ref m4, .ref m5, .ref m6, .ref m7, .int (nI n), .int (nI nc), .ref m8, .ref m9, .ref m10])), (m1, .inl (cI, 8, .inl f)), (m2, .inl (cI, 480, .inl K)), (m3, .inl (cI, 480, .inl (nF O))), (m4, .inl (cI, 480, .inl T)), (m5, .inl (cI, 41, .inl (nF M))), (m6, .inl (cI, 40, .inl Z)), (m7, .inl (cZ, 40, .inl (prF k))), (m8, .inl (cI, 6, .inl (nF Y))), (m9, .inl (cI, 48, .inl G)), (m10, .inl (cI, 8, .inl g))] H → va_D A [(z, .inr (4, [.int th, .ref m1, .ref m2, .ref m3, .ref m4, .ref m5, .ref m6, .ref m7, .int (nI n), .int (nI nc), .ref m8, .ref m9, .ref m10])), (m1, .inl (cI, 8, .inl f)), (m2, .inl (cI, 480, .inl K)), (m3, .inl (cI, 480, .inl (nF O))), (m4, .inl (cI, 480, .inl T)), (m5, .inl (cI, 41, .inl (nF M))), (m6, .inl (cI, 40, .inl Z)), (m7, .inl (cZ, 40, .inl (prF k))), (m8, .inl (cI, 6, .inl (nF Y))), (m9, .inl (cI, 48, .inl G)), (m10, .inl (cI, 8, .inl g))] → va_S A s.heap H locs → ∀ (ls : Array Slot), lv_has ls 4 [(3, .int (nI (0 * 12 + d))), (2, .int x1), (0, .ref z), (1, .int (nI 0))] → W p l e rm_c_X4_sealed_0 s m args below meth c H locs 0 0 Qz (F0 m 23 ls []) := by
    intro fu
    induction fu with
    | zero => intro d h1_23 h2_23 h3_23; exact absurd h3_23 (by omega)
    | succ fu ih_23 =>
      intro d h1_23 h2_23 h3_23 x1 ex1 H locs hP hD hS ls hl
      subst ex1
      refine lv_iload_n hx hb dX4_sealed_23 rfl (lv_at hl 0 rfl) ?_
      refine lv_bipush (v := (nI 12)) hx hb dX4_sealed_24 (by decide) ?_
      refine lv_iload_n hx hb dX4_sealed_26 rfl (lv_at hl 3 rfl) ?_
      refine k_imul hx hb dX4_sealed_27 ?_
      refine k_top (y := (nI 0)) rfl ?_
      refine lv_aload_n hx hb dX4_sealed_28 rfl (lv_at hl 2 rfl) ?_
      refine va_get (D := D) (ci := 4) (v := .ref m5) (C := RX4) (T := TX4) (N := 13) hx hb hts iu_X4_sealed_X4 hown hK hP 0 rfl rfl 5 (by decide) (hts _ (List.mem_of_getElem? (i := 2) rfl)) (fun _ h9 => h9) rfl dX4_sealed_29 ?_
      refine lv_iload_n hx hb dX4_sealed_32 rfl (lv_at hl 3 rfl) ?_
      refine k_iald hx hb hK hP 5 0 (i := 0) rfl rfl (by decide) (by decide) dX4_sealed_33 ?_
      refine k_top (y := (nI (M 0))) rfl ?_
      refine k_iadd hx hb dX4_sealed_34 ?_
      refine k_icmp_ge hx hb (tgt := 79) (by omega) (by omega) dX4_sealed_35 (by decide) (fun c_2 => ?_) (fun c_2 => ?_)
      · have e_3 : M 0 = d := by omega
        subst e_3
        refine lv_iload_n hx hb dX4_sealed_79 rfl (lv_at hl 1 rfl) ?_
        exact kM_iret hx hb hr hlk hQ hP hD hK hS () rfl (Nat.le_of_ble_eq_true rfl) (Nat.le_of_ble_eq_true rfl) (congrArg (fun z => some (Value.int z)) (by rfl)) trivial dX4_sealed_80
      · refine lv_bipush (v := (nI 31)) hx hb dX4_sealed_38 (by decide) ?_
        refine lv_iload_n hx hb dX4_sealed_40 rfl (lv_at hl 1 rfl) ?_
        refine lv_imul hx hb dX4_sealed_41 ?_
        refine k_top (y := ((sealW K O T 0 (nI 17) d) * (nI 31))) (Int32.mul_comm _ _) ?_
        refine lv_aload_n hx hb dX4_sealed_42 rfl (lv_at hl 2 rfl) ?_
        refine va_get (D := D) (ci := 4) (v := .ref m2) (C := RX4) (T := TX4) (N := 13) hx hb hts iu_X4_sealed_X4 hown hK hP 0 rfl rfl 2 (by decide) (hts _ (List.mem_of_getElem? (i := 3) rfl)) (fun _ h9 => h9) rfl dX4_sealed_43 ?_
        refine lv_iload_n hx hb dX4_sealed_46 rfl (lv_at hl 0 rfl) ?_
        refine k_iald hx hb hK hP 2 0 (i := (0 * 12 + d)) rfl rfl (by omega) (by decide) dX4_sealed_47 ?_
        refine lv_iadd hx hb dX4_sealed_48 ?_
        refine lv_iconst (v := (nI 5)) hx hb dX4_sealed_49 (by decide) ?_
        refine lv_aload_n hx hb dX4_sealed_50 rfl (lv_at hl 2 rfl) ?_
        refine va_get (D := D) (ci := 4) (v := .ref m3) (C := RX4) (T := TX4) (N := 13) hx hb hts iu_X4_sealed_X4 hown hK hP 0 rfl rfl 3 (by decide) (hts _ (List.mem_of_getElem? (i := 4) rfl)) (fun _ h9 => h9) rfl dX4_sealed_51 ?_
        refine lv_iload_n hx hb dX4_sealed_54 rfl (lv_at hl 0 rfl) ?_
        refine k_iald hx hb hK hP 3 0 (i := (0 * 12 + d)) rfl rfl (by omega) (by decide) dX4_sealed_55 ?_
        refine k_top (y := (nI (O (0 * 12 + d)))) rfl ?_
        refine k_imul hx hb dX4_sealed_56 ?_
        refine k_top (y := (nI ((O (0 * 12 + d)) * 5))) (congrArg nI (Nat.mul_comm _ _)) ?_
        refine lv_iadd hx hb dX4_sealed_57 ?_
        refine lv_bipush (v := (nI 7)) hx hb dX4_sealed_58 (by decide) ?_
        refine lv_aload_n hx hb dX4_sealed_60 rfl (lv_at hl 2 rfl) ?_
        refine va_get (D := D) (ci := 4) (v := .ref m4) (C := RX4) (T := TX4) (N := 13) hx hb hts iu_X4_sealed_X4 hown hK hP 0 rfl rfl 4 (by decide) (hts _ (List.mem_of_getElem? (i := 5) rfl)) (fun _ h9 => h9) rfl dX4_sealed_61 ?_
        refine lv_iload_n hx hb dX4_sealed_64 rfl (lv_at hl 0 rfl) ?_
        refine k_iald hx hb hK hP 4 0 (i := (0 * 12 + d)) rfl rfl (by omega) (by decide) dX4_sealed_65 ?_
        refine lv_imul hx hb dX4_sealed_66 ?_
        refine k_top (y := ((T (0 * 12 + d)) * (nI 7))) (Int32.mul_comm _ _) ?_
        refine lv_iadd hx hb dX4_sealed_67 ?_
        refine lv_sipush (v := (nI 10007)) hx hb dX4_sealed_68 (by decide) ?_
        refine lv_irem hx hb dX4_sealed_71 (by decide) ?_
        refine k_top (y := (irem (((((sealW K O T 0 (nI 17) d) * (nI 31)) + (K (0 * 12 + d))) + (nI ((O (0 * 12 + d)) * 5))) + ((T (0 * 12 + d)) * (nI 7))) (nI 10007))) rfl ?_
        refine lv_istore_n (lv' := [(2, .int (irem (((((sealW K O T 0 (nI 17) d) * (nI 31)) + (K (0 * 12 + d))) + (nI ((O (0 * 12 + d)) * 5))) + ((T (0 * 12 + d)) * (nI 7))) (nI 10007))), (3, .int (nI (0 * 12 + d))), (0, .ref z), (1, .int (nI 0))]) hx hb dX4_sealed_72 rfl hl (by decide) rfl (fun ls hl => ?_)
        refine lv_iinc (v := (nI ((0 * 12 + d) + 1))) (lv' := [(3, .int (nI ((0 * 12 + d) + 1))), (2, .int (irem (((((sealW K O T 0 (nI 17) d) * (nI 31)) + (K (0 * 12 + d))) + (nI ((O (0 * 12 + d)) * 5))) + ((T (0 * 12 + d)) * (nI 7))) (nI 10007))), (0, .ref z), (1, .int (nI 0))]) (k := 1) hx hb dX4_sealed_73 hl rfl (nI_add (0 * 12 + d) 1) (by decide) rfl (fun ls hl => ?_)
        refine lv_goto (tgt := 23) hx hb dX4_sealed_76 (by decide) ?_
        exact ih_23 (d + 1) (by omega) (by omega) (by omega) (irem (((((sealW K O T 0 (nI 17) d) * (nI 31)) + (K (0 * 12 + d))) + (nI ((O (0 * 12 + d)) * 5))) + ((T (0 * 12 + d)) * (nI 7))) (nI 10007)) rfl _ _ hP hD hS ls (lv_sub hl [0, 1, 2, 3] rfl)
  exact lp_23 ((M 0) + 1) 0 (by omega) (by omega) (by omega) (nI 17) rfl _ _ hP hD hS ls (lv_sub hl [0, 1, 2, 3] rfl)
def rm_c_X4_sealed_s : Room := { frames := 0, cells := 0, slots := 0, locals := 0 }
set_option maxHeartbeats 4000000 in
set_option maxRecDepth 100000 in
theorem c_X4_sealed_s (l : Launch) (D : va_G) (cI : ClassId) (cZ : ClassId) (z m1 m2 m3 m4 m5 m6 m7 m8 m9 m10 : Nat) (th : Int32) (f K : Nat → Int32) (O : Nat → Nat) (T : Nat → Int32) (M : Nat → Nat) (Z : Nat → Int32) (k n nc : Nat) (Y : Nat → Nat) (G g : Nat → Int32) (j : Nat) (hn : n ≤ 40) (hk : k ≤ n) (hc : nc ≤ 6) (hM : ∀ i, M i ≤ 12) (hO : ∀ i, O i < 8) (hY : ∀ i, Y i ≤ 40) (hj : j + 1 < 40) :
    kM l yX4_sealed wsX4_sealed rm_c_X4_sealed_s D [(cI, FieldType.int), (cZ, FieldType.boolean)] [.ref z, .int (nI (j + 1))] [(z, .inr (4, [.int th, .ref m1, .ref m2, .ref m3, .ref m4, .ref m5, .ref m6, .ref m7, .int (nI n), .int (nI nc), .ref m8, .ref m9, .ref m10])), (m1, .inl (cI, 8, .inl f)), (m2, .inl (cI, 480, .inl K)), (m3, .inl (cI, 480, .inl (nF O))), (m4, .inl (cI, 480, .inl T)), (m5, .inl (cI, 41, .inl (nF M))), (m6, .inl (cI, 40, .inl Z)), (m7, .inl (cZ, 40, .inl (prF k))), (m8, .inl (cI, 6, .inl (nF Y))), (m9, .inl (cI, 48, .inl G)), (m10, .inl (cI, 8, .inl g))] (fun _ : Unit => True) (fun _ => some (.int (sealW K O T (j + 1) (Z j) (M (j + 1))))) (fun _ => [(z, .inr (4, [.int th, .ref m1, .ref m2, .ref m3, .ref m4, .ref m5, .ref m6, .ref m7, .int (nI n), .int (nI nc), .ref m8, .ref m9, .ref m10])), (m1, .inl (cI, 8, .inl f)), (m2, .inl (cI, 480, .inl K)), (m3, .inl (cI, 480, .inl (nF O))), (m4, .inl (cI, 480, .inl T)), (m5, .inl (cI, 41, .inl (nF M))), (m6, .inl (cI, 40, .inl Z)), (m7, .inl (cZ, 40, .inl (prF k))), (m8, .inl (cI, 6, .inl (nF Y))), (m9, .inl (cI, 48, .inl G)), (m10, .inl (cI, 8, .inl g))]) := by
  refine kM_of (cc := cX4_sealed) (maxL := 4) (ret := (some .int)) (own := RX4) (by decide) rfl rfl (Nat.le_of_ble_eq_true rfl) ?_
  intro p e s m args below meth c A ls Qz hx hb hml hr hts hown hlk hin hQ hA hS hP hD hK hl
  have hl : lv_has ls 4 [(0, .ref z), (1, .int (nI (j + 1)))] := hl
  have hMj := hM (j + 1)
  refine lv_iload_n hx hb dX4_sealed_0 rfl (lv_at hl 1 rfl) ?_
  refine k_if_ne hx hb (tgt := 9) (by omega) dX4_sealed_1 (by decide) (fun c_1 => ?_) (fun c_1 => ((by omega) : False).elim)
  refine lv_aload_n hx hb dX4_sealed_9 rfl (lv_at hl 0 rfl) ?_
  refine va_get (D := D) (ci := 4) (v := .ref m6) (C := RX4) (T := TX4) (N := 13) hx hb hts iu_X4_sealed_X4 hown hK hP 0 rfl rfl 6 (by decide) (hts _ (List.mem_of_getElem? (i := 1) rfl)) (fun _ h9 => h9) rfl dX4_sealed_10 ?_
  refine lv_iload_n hx hb dX4_sealed_13 rfl (lv_at hl 1 rfl) ?_
  refine lv_iconst (v := (nI 1)) hx hb dX4_sealed_14 (by decide) ?_
  refine k_isub hx hb (by omega) dX4_sealed_15 ?_
  refine k_top (y := (nI j)) rfl ?_
  refine k_iald hx hb hK hP 6 0 (i := j) rfl rfl (by omega) (by decide) dX4_sealed_16 ?_
  refine lv_istore_n (lv' := [(2, .int (Z j)), (0, .ref z), (1, .int (nI (j + 1)))]) hx hb dX4_sealed_17 rfl hl (by decide) rfl (fun ls hl => ?_)
  refine lv_bipush (v := (nI 12)) hx hb dX4_sealed_18 (by decide) ?_
  refine lv_iload_n hx hb dX4_sealed_20 rfl (lv_at hl 2 rfl) ?_
  refine k_imul hx hb dX4_sealed_21 ?_
  refine k_top (y := (nI ((j + 1) * 12))) (congrArg nI (Nat.mul_comm _ _)) ?_
  refine lv_istore_n (lv' := [(3, .int (nI ((j + 1) * 12))), (2, .int (Z j)), (0, .ref z), (1, .int (nI (j + 1)))]) hx hb dX4_sealed_22 rfl hl (by decide) rfl (fun ls hl => ?_)
  have lp_23 : ∀ (fu d : Nat), 0 ≤ d → d ≤ M (j + 1) → (M (j + 1)) + 1 ≤ d + fu → ∀ (x1 : Int32), x1 = sealW K O T (j + 1) (Z j) d → ∀ (H : Heap) (locs : List Loc), va_P D vwCl [(z, .inr (4, [.int th, .ref m1, .ref m2, .ref m3, .ref m4, .ref m5, .ref m6, .ref m7, .int (nI n), .int (nI nc), .ref m8, .ref m9, .ref m10])), (m1, .inl (cI, 8, .inl f)), (m2, .inl (cI, 480, .inl K)), (m3, .inl (cI, 480, .inl (nF O))), (m4, .inl (cI, 480, .inl T)), (m5, .inl (cI, 41, .inl (nF M))), (m6, .inl (cI, 40, .inl Z)), (m7, .inl (cZ, 40, .inl (prF k))), (m8, .inl (cI, 6, .inl (nF Y))), (m9, .inl (cI, 48, .inl G)), (m10, .inl (cI, 8, .inl g))] H → va_D A [(z, .inr (4, [.int th, .ref m1, .ref m2, .ref m3, .ref m4, .ref m5, .ref m6, .ref m7, .int (nI n), .int (nI nc), .ref m8, .ref m9, .ref m10])), (m1, .inl (cI, 8, .inl f)), (m2, .inl (cI, 480, .inl K)), (m3, .inl (cI, 480, .inl (nF O))), (m4, .inl (cI, 480, .inl T)), (m5, .inl (cI, 41, .inl (nF M))), (m6, .inl (cI, 40, .inl Z)), (m7, .inl (cZ, 40, .inl (prF k))), (m8, .inl (cI, 6, .inl (nF Y))), (m9, .inl (cI, 48, .inl G)), (m10, .inl (cI, 8, .inl g))] → va_S A s.heap H locs → ∀ (ls : Array Slot), lv_has ls 4 [(3, .int (nI ((j + 1) * 12 + d))), (2, .int x1), (0, .ref z), (1, .int (nI (j + 1)))] → W p l e rm_c_X4_sealed_s s m args below meth c H locs 0 0 Qz (F0 m 23 ls []) := by
    intro fu
    induction fu with
    | zero => intro d h1_23 h2_23 h3_23; exact absurd h3_23 (by omega)
    | succ fu ih_23 =>
      intro d h1_23 h2_23 h3_23 x1 ex1 H locs hP hD hS ls hl
      subst ex1
      refine lv_iload_n hx hb dX4_sealed_23 rfl (lv_at hl 0 rfl) ?_
      refine lv_bipush (v := (nI 12)) hx hb dX4_sealed_24 (by decide) ?_
      refine lv_iload_n hx hb dX4_sealed_26 rfl (lv_at hl 3 rfl) ?_
      refine k_imul hx hb dX4_sealed_27 ?_
      refine k_top (y := (nI ((j + 1) * 12))) (congrArg nI (Nat.mul_comm _ _)) ?_
      refine lv_aload_n hx hb dX4_sealed_28 rfl (lv_at hl 2 rfl) ?_
      refine va_get (D := D) (ci := 4) (v := .ref m5) (C := RX4) (T := TX4) (N := 13) hx hb hts iu_X4_sealed_X4 hown hK hP 0 rfl rfl 5 (by decide) (hts _ (List.mem_of_getElem? (i := 2) rfl)) (fun _ h9 => h9) rfl dX4_sealed_29 ?_
      refine lv_iload_n hx hb dX4_sealed_32 rfl (lv_at hl 3 rfl) ?_
      refine k_iald hx hb hK hP 5 0 (i := (j + 1)) rfl rfl (by omega) (by decide) dX4_sealed_33 ?_
      refine k_top (y := (nI (M (j + 1)))) rfl ?_
      refine k_iadd hx hb dX4_sealed_34 ?_
      refine k_icmp_ge hx hb (tgt := 79) (by omega) (by omega) dX4_sealed_35 (by decide) (fun c_2 => ?_) (fun c_2 => ?_)
      · have e_3 : M (j + 1) = d := by omega
        subst e_3
        refine lv_iload_n hx hb dX4_sealed_79 rfl (lv_at hl 1 rfl) ?_
        exact kM_iret hx hb hr hlk hQ hP hD hK hS () rfl (Nat.le_of_ble_eq_true rfl) (Nat.le_of_ble_eq_true rfl) (congrArg (fun z => some (Value.int z)) (by rfl)) trivial dX4_sealed_80
      · refine lv_bipush (v := (nI 31)) hx hb dX4_sealed_38 (by decide) ?_
        refine lv_iload_n hx hb dX4_sealed_40 rfl (lv_at hl 1 rfl) ?_
        refine lv_imul hx hb dX4_sealed_41 ?_
        refine k_top (y := ((sealW K O T (j + 1) (Z j) d) * (nI 31))) (Int32.mul_comm _ _) ?_
        refine lv_aload_n hx hb dX4_sealed_42 rfl (lv_at hl 2 rfl) ?_
        refine va_get (D := D) (ci := 4) (v := .ref m2) (C := RX4) (T := TX4) (N := 13) hx hb hts iu_X4_sealed_X4 hown hK hP 0 rfl rfl 2 (by decide) (hts _ (List.mem_of_getElem? (i := 3) rfl)) (fun _ h9 => h9) rfl dX4_sealed_43 ?_
        refine lv_iload_n hx hb dX4_sealed_46 rfl (lv_at hl 0 rfl) ?_
        refine k_iald hx hb hK hP 2 0 (i := ((j + 1) * 12 + d)) rfl rfl (by omega) (by decide) dX4_sealed_47 ?_
        refine lv_iadd hx hb dX4_sealed_48 ?_
        refine lv_iconst (v := (nI 5)) hx hb dX4_sealed_49 (by decide) ?_
        refine lv_aload_n hx hb dX4_sealed_50 rfl (lv_at hl 2 rfl) ?_
        refine va_get (D := D) (ci := 4) (v := .ref m3) (C := RX4) (T := TX4) (N := 13) hx hb hts iu_X4_sealed_X4 hown hK hP 0 rfl rfl 3 (by decide) (hts _ (List.mem_of_getElem? (i := 4) rfl)) (fun _ h9 => h9) rfl dX4_sealed_51 ?_
        refine lv_iload_n hx hb dX4_sealed_54 rfl (lv_at hl 0 rfl) ?_
        refine k_iald hx hb hK hP 3 0 (i := ((j + 1) * 12 + d)) rfl rfl (by omega) (by decide) dX4_sealed_55 ?_
        refine k_top (y := (nI (O ((j + 1) * 12 + d)))) rfl ?_
        refine k_imul hx hb dX4_sealed_56 ?_
        refine k_top (y := (nI ((O ((j + 1) * 12 + d)) * 5))) (congrArg nI (Nat.mul_comm _ _)) ?_
        refine lv_iadd hx hb dX4_sealed_57 ?_
        refine lv_bipush (v := (nI 7)) hx hb dX4_sealed_58 (by decide) ?_
        refine lv_aload_n hx hb dX4_sealed_60 rfl (lv_at hl 2 rfl) ?_
        refine va_get (D := D) (ci := 4) (v := .ref m4) (C := RX4) (T := TX4) (N := 13) hx hb hts iu_X4_sealed_X4 hown hK hP 0 rfl rfl 4 (by decide) (hts _ (List.mem_of_getElem? (i := 5) rfl)) (fun _ h9 => h9) rfl dX4_sealed_61 ?_
        refine lv_iload_n hx hb dX4_sealed_64 rfl (lv_at hl 0 rfl) ?_
        refine k_iald hx hb hK hP 4 0 (i := ((j + 1) * 12 + d)) rfl rfl (by omega) (by decide) dX4_sealed_65 ?_
        refine lv_imul hx hb dX4_sealed_66 ?_
        refine k_top (y := ((T ((j + 1) * 12 + d)) * (nI 7))) (Int32.mul_comm _ _) ?_
        refine lv_iadd hx hb dX4_sealed_67 ?_
        refine lv_sipush (v := (nI 10007)) hx hb dX4_sealed_68 (by decide) ?_
        refine lv_irem hx hb dX4_sealed_71 (by decide) ?_
        refine k_top (y := (irem (((((sealW K O T (j + 1) (Z j) d) * (nI 31)) + (K ((j + 1) * 12 + d))) + (nI ((O ((j + 1) * 12 + d)) * 5))) + ((T ((j + 1) * 12 + d)) * (nI 7))) (nI 10007))) rfl ?_
        refine lv_istore_n (lv' := [(2, .int (irem (((((sealW K O T (j + 1) (Z j) d) * (nI 31)) + (K ((j + 1) * 12 + d))) + (nI ((O ((j + 1) * 12 + d)) * 5))) + ((T ((j + 1) * 12 + d)) * (nI 7))) (nI 10007))), (3, .int (nI ((j + 1) * 12 + d))), (0, .ref z), (1, .int (nI (j + 1)))]) hx hb dX4_sealed_72 rfl hl (by decide) rfl (fun ls hl => ?_)
        refine lv_iinc (v := (nI (((j + 1) * 12 + d) + 1))) (lv' := [(3, .int (nI (((j + 1) * 12 + d) + 1))), (2, .int (irem (((((sealW K O T (j + 1) (Z j) d) * (nI 31)) + (K ((j + 1) * 12 + d))) + (nI ((O ((j + 1) * 12 + d)) * 5))) + ((T ((j + 1) * 12 + d)) * (nI 7))) (nI 10007))), (0, .ref z), (1, .int (nI (j + 1)))]) (k := 1) hx hb dX4_sealed_73 hl rfl (nI_add ((j + 1) * 12 + d) 1) (by decide) rfl (fun ls hl => ?_)
        refine lv_goto (tgt := 23) hx hb dX4_sealed_76 (by decide) ?_
        exact ih_23 (d + 1) (by omega) (by omega) (by omega) (irem (((((sealW K O T (j + 1) (Z j) d) * (nI 31)) + (K ((j + 1) * 12 + d))) + (nI ((O ((j + 1) * 12 + d)) * 5))) + ((T ((j + 1) * 12 + d)) * (nI 7))) (nI 10007)) rfl _ _ hP hD hS ls (lv_sub hl [0, 1, 2, 3] rfl)
  exact lp_23 ((M (j + 1)) + 1) 0 (by omega) (by omega) (by omega) (Z j) rfl _ _ hP hD hS ls (lv_sub hl [0, 1, 2, 3] rfl)
def rm_c_X4_sealed : Room := rm_c_X4_sealed_s
theorem c_X4_sealed (l : Launch) (D : va_G) (cI : ClassId) (cZ : ClassId) (z m1 m2 m3 m4 m5 m6 m7 m8 m9 m10 : Nat) (th : Int32) (f K : Nat → Int32) (O : Nat → Nat) (T : Nat → Int32) (M : Nat → Nat) (Z : Nat → Int32) (k n nc : Nat) (Y : Nat → Nat) (G g : Nat → Int32) (j : Nat) (hn : n ≤ 40) (hk : k ≤ n) (hc : nc ≤ 6) (hM : ∀ i, M i ≤ 12) (hO : ∀ i, O i < 8) (hY : ∀ i, Y i ≤ 40) (hj : j < 40) :
    kM l yX4_sealed wsX4_sealed rm_c_X4_sealed D [(cI, FieldType.int), (cZ, FieldType.boolean)] [.ref z, .int (nI j)] [(z, .inr (4, [.int th, .ref m1, .ref m2, .ref m3, .ref m4, .ref m5, .ref m6, .ref m7, .int (nI n), .int (nI nc), .ref m8, .ref m9, .ref m10])), (m1, .inl (cI, 8, .inl f)), (m2, .inl (cI, 480, .inl K)), (m3, .inl (cI, 480, .inl (nF O))), (m4, .inl (cI, 480, .inl T)), (m5, .inl (cI, 41, .inl (nF M))), (m6, .inl (cI, 40, .inl Z)), (m7, .inl (cZ, 40, .inl (prF k))), (m8, .inl (cI, 6, .inl (nF Y))), (m9, .inl (cI, 48, .inl G)), (m10, .inl (cI, 8, .inl g))] (fun _ : Unit => True) (fun _ => some (.int (sealF K O T M Z j))) (fun _ => [(z, .inr (4, [.int th, .ref m1, .ref m2, .ref m3, .ref m4, .ref m5, .ref m6, .ref m7, .int (nI n), .int (nI nc), .ref m8, .ref m9, .ref m10])), (m1, .inl (cI, 8, .inl f)), (m2, .inl (cI, 480, .inl K)), (m3, .inl (cI, 480, .inl (nF O))), (m4, .inl (cI, 480, .inl T)), (m5, .inl (cI, 41, .inl (nF M))), (m6, .inl (cI, 40, .inl Z)), (m7, .inl (cZ, 40, .inl (prF k))), (m8, .inl (cI, 6, .inl (nF Y))), (m9, .inl (cI, 48, .inl G)), (m10, .inl (cI, 8, .inl g))]) := by
  cases j with
  | zero => exact c_X4_sealed_0 l D cI cZ z m1 m2 m3 m4 m5 m6 m7 m8 m9 m10 th f K O T M Z k n nc Y G g hn hk hc hM hO hY
  | succ j => exact c_X4_sealed_s l D cI cZ z m1 m2 m3 m4 m5 m6 m7 m8 m9 m10 th f K O T M Z k n nc Y G g j hn hk hc hM hO hY hj
theorem iu_X4_drop_X4 : ∀ w ∈ wsX40, w ∈ wsX4_drop := fun w h => (List.mem_cons_of_mem _ (List.mem_append_right _ h))
def rm_c_X4_drop : Room := { frames := 1, cells := 0, slots := 0, locals := 40 }
set_option maxHeartbeats 4000000 in
set_option maxRecDepth 100000 in
theorem c_X4_drop (l : Launch) (D : va_G) (cI : ClassId) (cZ : ClassId) (z m1 m2 m3 m4 m5 m6 m7 m8 m9 m10 : Nat) (th : Int32) (f K : Nat → Int32) (O : Nat → Nat) (T : Nat → Int32) (M : Nat → Nat) (Z : Nat → Int32) (k n nc : Nat) (Y : Nat → Nat) (G g : Nat → Int32) (j : Nat) (hn : n ≤ 40) (hk : k ≤ n) (hc : nc ≤ 6) (hM : ∀ i, M i ≤ 12) (hO : ∀ i, O i < 8) (hY : ∀ i, Y i ≤ 40) (hj : j < nc) :
    kM l yX4_drop wsX4_drop rm_c_X4_drop D [(cI, FieldType.int), (cZ, FieldType.boolean)] [.ref z, .int (nI j)] [(z, .inr (4, [.int th, .ref m1, .ref m2, .ref m3, .ref m4, .ref m5, .ref m6, .ref m7, .int (nI n), .int (nI nc), .ref m8, .ref m9, .ref m10])), (m1, .inl (cI, 8, .inl f)), (m2, .inl (cI, 480, .inl K)), (m3, .inl (cI, 480, .inl (nF O))), (m4, .inl (cI, 480, .inl T)), (m5, .inl (cI, 41, .inl (nF M))), (m6, .inl (cI, 40, .inl Z)), (m7, .inl (cZ, 40, .inl (prF k))), (m8, .inl (cI, 6, .inl (nF Y))), (m9, .inl (cI, 48, .inl G)), (m10, .inl (cI, 8, .inl g))] (fun _ : Unit => True) (fun _ => none) (fun _ => [(z, .inr (4, [.int th, .ref m1, .ref m2, .ref m3, .ref m4, .ref m5, .ref m6, .ref m7, .int (nI n), .int (nI (nc - 1)), .ref m8, .ref m9, .ref m10])), (m1, .inl (cI, 8, .inl f)), (m2, .inl (cI, 480, .inl K)), (m3, .inl (cI, 480, .inl (nF O))), (m4, .inl (cI, 480, .inl T)), (m5, .inl (cI, 41, .inl (nF M))), (m6, .inl (cI, 40, .inl Z)), (m7, .inl (cZ, 40, .inl (prF k))), (m8, .inl (cI, 6, .inl (nF (shY Y j (nc - 1 - j))))), (m9, .inl (cI, 48, .inl (shG G j (nc - 1 - j)))), (m10, .inl (cI, 8, .inl g))]) := by
  refine kM_of (cc := cX4_drop) (maxL := 3) (ret := none) (own := RX4) (by decide) rfl rfl (Nat.le_of_ble_eq_true rfl) ?_
  intro p e s m args below meth c A ls Qz hx hb hml hr hts hown hlk hin hQ hA hS hP hD hK hl
  have hl : lv_has ls 3 [(0, .ref z), (1, .int (nI j))] := hl
  refine lv_aload_n hx hb dX4_drop_0 rfl (lv_at hl 0 rfl) ?_
  refine lv_dup hx hb dX4_drop_1 rfl ?_
  refine va_get (D := D) (ci := 4) (v := .int (nI nc)) (C := RX4) (T := TX4) (N := 13) hx hb hts iu_X4_drop_X4 hown hK hP 0 rfl rfl 9 (by decide) (hts _ (List.mem_of_getElem? (i := 1) rfl)) (fun _ h9 => h9) rfl dX4_drop_2 ?_
  refine lv_iconst (v := (nI 1)) hx hb dX4_drop_5 (by decide) ?_
  refine k_isub hx hb (by omega) dX4_drop_6 ?_
  refine va_put (D := D) (ci := 4) (v := .int (nI (nc - 1))) (ty := .int) (C := RX4) (T := TX4) (N := 13) hx hb hts iu_X4_drop_X4 tyX4 tyX4_ok nmX4 hown hK hP hD hS 0 rfl rfl 9 (by decide) (hts _ (List.mem_of_getElem? (i := 1) rfl)) (fun _ h9 => h9) rfl (by decide +kernel) rfl rfl (Nat.le_of_ble_eq_true rfl) dX4_drop_7 (fun H locs hP hD hS => ?_)
  have hP : va_P D vwCl [(z, .inr (4, [.int th, .ref m1, .ref m2, .ref m3, .ref m4, .ref m5, .ref m6, .ref m7, .int (nI n), .int (nI (nc - 1)), .ref m8, .ref m9, .ref m10])), (m1, .inl (cI, 8, .inl f)), (m2, .inl (cI, 480, .inl K)), (m3, .inl (cI, 480, .inl (nF O))), (m4, .inl (cI, 480, .inl T)), (m5, .inl (cI, 41, .inl (nF M))), (m6, .inl (cI, 40, .inl Z)), (m7, .inl (cZ, 40, .inl (prF k))), (m8, .inl (cI, 6, .inl (nF Y))), (m9, .inl (cI, 48, .inl G)), (m10, .inl (cI, 8, .inl g))] H := hP
  have hD : va_D A [(z, .inr (4, [.int th, .ref m1, .ref m2, .ref m3, .ref m4, .ref m5, .ref m6, .ref m7, .int (nI n), .int (nI (nc - 1)), .ref m8, .ref m9, .ref m10])), (m1, .inl (cI, 8, .inl f)), (m2, .inl (cI, 480, .inl K)), (m3, .inl (cI, 480, .inl (nF O))), (m4, .inl (cI, 480, .inl T)), (m5, .inl (cI, 41, .inl (nF M))), (m6, .inl (cI, 40, .inl Z)), (m7, .inl (cZ, 40, .inl (prF k))), (m8, .inl (cI, 6, .inl (nF Y))), (m9, .inl (cI, 48, .inl G)), (m10, .inl (cI, 8, .inl g))] := hD
  refine lv_iload_n hx hb dX4_drop_10 rfl (lv_at hl 1 rfl) ?_
  refine lv_istore_n (lv' := [(2, .int (nI j)), (0, .ref z), (1, .int (nI j))]) hx hb dX4_drop_11 rfl hl (by decide) rfl (fun ls hl => ?_)
  have lp_12 : ∀ (fu d : Nat), 0 ≤ d → d ≤ nc - 1 - j → (nc - 1 - j) + 1 ≤ d + fu → ∀ (x1 : Nat → Nat), x1 = shY Y j d → ∀ (x2 : Nat → Int32), x2 = shG G j d → ∀ (H : Heap) (locs : List Loc), va_P D vwCl [(z, .inr (4, [.int th, .ref m1, .ref m2, .ref m3, .ref m4, .ref m5, .ref m6, .ref m7, .int (nI n), .int (nI (nc - 1)), .ref m8, .ref m9, .ref m10])), (m1, .inl (cI, 8, .inl f)), (m2, .inl (cI, 480, .inl K)), (m3, .inl (cI, 480, .inl (nF O))), (m4, .inl (cI, 480, .inl T)), (m5, .inl (cI, 41, .inl (nF M))), (m6, .inl (cI, 40, .inl Z)), (m7, .inl (cZ, 40, .inl (prF k))), (m8, .inl (cI, 6, .inl (nF x1))), (m9, .inl (cI, 48, .inl x2)), (m10, .inl (cI, 8, .inl g))] H → va_D A [(z, .inr (4, [.int th, .ref m1, .ref m2, .ref m3, .ref m4, .ref m5, .ref m6, .ref m7, .int (nI n), .int (nI (nc - 1)), .ref m8, .ref m9, .ref m10])), (m1, .inl (cI, 8, .inl f)), (m2, .inl (cI, 480, .inl K)), (m3, .inl (cI, 480, .inl (nF O))), (m4, .inl (cI, 480, .inl T)), (m5, .inl (cI, 41, .inl (nF M))), (m6, .inl (cI, 40, .inl Z)), (m7, .inl (cZ, 40, .inl (prF k))), (m8, .inl (cI, 6, .inl (nF x1))), (m9, .inl (cI, 48, .inl x2)), (m10, .inl (cI, 8, .inl g))] → va_S A s.heap H locs → ∀ (ls : Array Slot), lv_has ls 3 [(2, .int (nI (j + d))), (0, .ref z), (1, .int (nI j))] → W p l e rm_c_X4_drop s m args below meth c H locs 0 0 Qz (F0 m 12 ls []) := by
    intro fu
    induction fu with
    | zero => intro d h1_12 h2_12 h3_12; exact absurd h3_12 (by omega)
    | succ fu ih_12 =>
      intro d h1_12 h2_12 h3_12 x1 ex1 x2 ex2 H locs hP hD hS ls hl
      subst ex1
      subst ex2
      refine lv_iload_n hx hb dX4_drop_12 rfl (lv_at hl 0 rfl) ?_
      refine lv_aload_n hx hb dX4_drop_13 rfl (lv_at hl 1 rfl) ?_
      refine va_get (D := D) (ci := 4) (v := .int (nI (nc - 1))) (C := RX4) (T := TX4) (N := 13) hx hb hts iu_X4_drop_X4 hown hK hP 0 rfl rfl 9 (by decide) (hts _ (List.mem_of_getElem? (i := 1) rfl)) (fun _ h9 => h9) rfl dX4_drop_14 ?_
      refine k_icmp_ge hx hb (tgt := 63) (by omega) (by omega) dX4_drop_17 (by decide) (fun c_1 => ?_) (fun c_1 => ?_)
      · have e_2 : nc - 1 - j = d := by omega
        subst e_2
        exact kM_vret hx hb hr hlk hQ hP hD hK hS () rfl (Nat.le_of_ble_eq_true rfl) (Nat.le_of_ble_eq_true rfl) rfl trivial dX4_drop_63
      · refine lv_aload_n hx hb dX4_drop_20 rfl (lv_at hl 1 rfl) ?_
        refine va_get (D := D) (ci := 4) (v := .ref m8) (C := RX4) (T := TX4) (N := 13) hx hb hts iu_X4_drop_X4 hown hK hP 0 rfl rfl 10 (by decide) (hts _ (List.mem_of_getElem? (i := 2) rfl)) (fun _ h9 => h9) rfl dX4_drop_21 ?_
        refine lv_iload_n hx hb dX4_drop_24 rfl (lv_at hl 0 rfl) ?_
        refine lv_aload_n hx hb dX4_drop_25 rfl (lv_at hl 1 rfl) ?_
        refine va_get (D := D) (ci := 4) (v := .ref m8) (C := RX4) (T := TX4) (N := 13) hx hb hts iu_X4_drop_X4 hown hK hP 0 rfl rfl 10 (by decide) (hts _ (List.mem_of_getElem? (i := 2) rfl)) (fun _ h9 => h9) rfl dX4_drop_26 ?_
        refine lv_iload_n hx hb dX4_drop_29 rfl (lv_at hl 0 rfl) ?_
        refine lv_iconst (v := (nI 1)) hx hb dX4_drop_30 (by decide) ?_
        refine k_iadd hx hb dX4_drop_31 ?_
        refine k_iald hx hb hK hP 8 0 (i := ((j + d) + 1)) rfl rfl (by omega) (by decide) dX4_drop_32 ?_
        refine k_top (y := (nI ((shY Y j d) ((j + d) + 1)))) rfl ?_
        refine k_iast (w2 := [(z, .inr (4, [.int th, .ref m1, .ref m2, .ref m3, .ref m4, .ref m5, .ref m6, .ref m7, .int (nI n), .int (nI (nc - 1)), .ref m8, .ref m9, .ref m10])), (m1, .inl (cI, 8, .inl f)), (m2, .inl (cI, 480, .inl K)), (m3, .inl (cI, 480, .inl (nF O))), (m4, .inl (cI, 480, .inl T)), (m5, .inl (cI, 41, .inl (nF M))), (m6, .inl (cI, 40, .inl Z)), (m7, .inl (cZ, 40, .inl (prF k))), (m8, .inl (cI, 6, .inl (nF (upN (shY Y j d) (j + d) ((shY Y j d) ((j + d) + 1)))))), (m9, .inl (cI, 48, .inl (shG G j d))), (m10, .inl (cI, 8, .inl g))]) hx hb hK hP hD hS 8 0 (i := (j + d)) rfl rfl (by omega) (by decide) dX4_drop_33 (g := nF (upN (shY Y j d) (j + d) ((shY Y j d) ((j + d) + 1)))) (nF_upd (shY Y j d) (j + d) ((shY Y j d) ((j + d) + 1))) rfl (fun H locs hP hD hS => ?_)
        refine lv_aload_n hx hb dX4_drop_34 rfl (lv_at hl 1 rfl) ?_
        refine va_get (D := D) (ci := 4) (v := .ref m9) (C := RX4) (T := TX4) (N := 13) hx hb hts iu_X4_drop_X4 hown hK hP 0 rfl rfl 11 (by decide) (hts _ (List.mem_of_getElem? (i := 3) rfl)) (fun _ h9 => h9) rfl dX4_drop_35 ?_
        refine lv_bipush (v := (nI 8)) hx hb dX4_drop_38 (by decide) ?_
        refine lv_iload_n hx hb dX4_drop_40 rfl (lv_at hl 0 rfl) ?_
        refine lv_iconst (v := (nI 1)) hx hb dX4_drop_41 (by decide) ?_
        refine k_iadd hx hb dX4_drop_42 ?_
        refine k_imul hx hb dX4_drop_43 ?_
        refine k_top (y := (nI (((j + d) + 1) * 8))) (congrArg nI (Nat.mul_comm _ _)) ?_
        refine lv_aload_n hx hb dX4_drop_44 rfl (lv_at hl 1 rfl) ?_
        refine va_get (D := D) (ci := 4) (v := .ref m9) (C := RX4) (T := TX4) (N := 13) hx hb hts iu_X4_drop_X4 hown hK hP 0 rfl rfl 11 (by decide) (hts _ (List.mem_of_getElem? (i := 3) rfl)) (fun _ h9 => h9) rfl dX4_drop_45 ?_
        refine lv_bipush (v := (nI 8)) hx hb dX4_drop_48 (by decide) ?_
        refine lv_iload_n hx hb dX4_drop_50 rfl (lv_at hl 0 rfl) ?_
        refine k_imul hx hb dX4_drop_51 ?_
        refine k_top (y := (nI ((j + d) * 8))) (congrArg nI (Nat.mul_comm _ _)) ?_
        refine lv_bipush (v := (nI 8)) hx hb dX4_drop_52 (by decide) ?_
        refine k_copy (w2 := [(z, .inr (4, [.int th, .ref m1, .ref m2, .ref m3, .ref m4, .ref m5, .ref m6, .ref m7, .int (nI n), .int (nI (nc - 1)), .ref m8, .ref m9, .ref m10])), (m1, .inl (cI, 8, .inl f)), (m2, .inl (cI, 480, .inl K)), (m3, .inl (cI, 480, .inl (nF O))), (m4, .inl (cI, 480, .inl T)), (m5, .inl (cI, 41, .inl (nF M))), (m6, .inl (cI, 40, .inl Z)), (m7, .inl (cZ, 40, .inl (prF k))), (m8, .inl (cI, 6, .inl (nF (upN (shY Y j d) (j + d) ((shY Y j d) ((j + d) + 1)))))), (m9, .inl (cI, 48, .inl (cp8 (shG G j d) (j + d) 8))), (m10, .inl (cI, 8, .inl g))]) (G2 := cp8 (shG G j d) (j + d) 8) hx hb (hml.trans hl.1.symm) hown (hts _ (List.mem_of_getElem? (i := 4) rfl)) (hts _ (List.mem_of_getElem? (i := 5) rfl)) (hts _ (List.mem_of_getElem? (i := 6) rfl)) (hts _ (List.mem_of_getElem? (i := 7) rfl)) hK hP hD hS 9 9 0 rfl rfl rfl (a := (((j + d) + 1) * 8)) (b := ((j + d) * 8)) (by omega) (by omega) (by decide) (by decide) (cpy_sh _ _) rfl (Nat.le_of_ble_eq_true rfl) (Nat.le_of_ble_eq_true rfl) dX4_drop_54 (fun H locs hP hD hS => ?_)
        refine lv_iinc (v := (nI ((j + d) + 1))) (lv' := [(2, .int (nI ((j + d) + 1))), (0, .ref z), (1, .int (nI j))]) (k := 0) hx hb dX4_drop_57 hl rfl (nI_add (j + d) 1) (by decide) rfl (fun ls hl => ?_)
        refine lv_goto (tgt := 12) hx hb dX4_drop_60 (by decide) ?_
        exact ih_12 (d + 1) (by omega) (by omega) (by omega) (upN (shY Y j d) (j + d) ((shY Y j d) ((j + d) + 1))) rfl (cp8 (shG G j d) (j + d) 8) rfl _ _ hP hD hS ls (lv_sub hl [0, 1, 2] rfl)
  exact lp_12 ((nc - 1 - j) + 1) 0 (by omega) (by omega) (by omega) Y rfl G rfl _ _ hP hD hS ls (lv_sub hl [0, 1, 2] rfl)
theorem iu_X4_core_X4 : ∀ w ∈ wsX40, w ∈ wsX4_core := fun w h => (List.mem_cons_of_mem _ (List.mem_append_right _ h))
def rm_c_X4_core_0 : Room := { frames := 0, cells := 0, slots := 0, locals := 0 }
set_option maxHeartbeats 4000000 in
set_option maxRecDepth 100000 in
theorem c_X4_core_0 (l : Launch) (D : va_G) (cI : ClassId) (cZ : ClassId) (z m1 m2 m3 m4 m5 m6 m7 m8 m9 m10 : Nat) (th : Int32) (f K : Nat → Int32) (O : Nat → Nat) (T : Nat → Int32) (M : Nat → Nat) (Z : Nat → Int32) (k n nc : Nat) (Y : Nat → Nat) (G g : Nat → Int32) (v : Int32) (hn : n ≤ 40) (hk : k ≤ n) (hc : nc ≤ 6) (hM : ∀ i, M i ≤ 12) (hO : ∀ i, O i < 8) (hY : ∀ i, Y i ≤ 40) :
    kM l yX4_core wsX4_core rm_c_X4_core_0 D [(cI, FieldType.int), (cZ, FieldType.boolean)] [.ref z, .int v] [(z, .inr (4, [.int th, .ref m1, .ref m2, .ref m3, .ref m4, .ref m5, .ref m6, .ref m7, .int (nI n), .int (nI nc), .ref m8, .ref m9, .ref m10])), (m1, .inl (cI, 8, .inl f)), (m2, .inl (cI, 480, .inl K)), (m3, .inl (cI, 480, .inl (nF O))), (m4, .inl (cI, 480, .inl T)), (m5, .inl (cI, 41, .inl (nF M))), (m6, .inl (cI, 40, .inl Z)), (m7, .inl (cZ, 40, .inl (prF k))), (m8, .inl (cI, 6, .inl (nF Y))), (m9, .inl (cI, 48, .inl G)), (m10, .inl (cI, 8, .inl g))] (fun _ : Unit => True) (fun _ => some (.int (oI (corO Y v nc)))) (fun _ => [(z, .inr (4, [.int th, .ref m1, .ref m2, .ref m3, .ref m4, .ref m5, .ref m6, .ref m7, .int (nI n), .int (nI nc), .ref m8, .ref m9, .ref m10])), (m1, .inl (cI, 8, .inl f)), (m2, .inl (cI, 480, .inl K)), (m3, .inl (cI, 480, .inl (nF O))), (m4, .inl (cI, 480, .inl T)), (m5, .inl (cI, 41, .inl (nF M))), (m6, .inl (cI, 40, .inl Z)), (m7, .inl (cZ, 40, .inl (prF k))), (m8, .inl (cI, 6, .inl (nF Y))), (m9, .inl (cI, 48, .inl G)), (m10, .inl (cI, 8, .inl g))]) := by
  refine kM_of (cc := cX4_core) (maxL := 3) (ret := (some .int)) (own := RX4) (by decide) rfl rfl (Nat.le_of_ble_eq_true rfl) ?_
  intro p e s m args below meth c A ls Qz hx hb hml hr hts hown hlk hin hQ hA hS hP hD hK hl
  have hl : lv_has ls 3 [(0, .ref z), (1, .int v)] := hl
  refine lv_iconst (v := (nI 0)) hx hb dX4_core_0 (by decide) ?_
  refine lv_istore_n (lv' := [(2, .int (nI 0)), (0, .ref z), (1, .int v)]) hx hb dX4_core_1 rfl hl (by decide) rfl (fun ls hl => ?_)
  have lp_2 : ∀ (fu i : Nat), 0 ≤ i → i ≤ nc → nc + 1 ≤ i + fu → (fstO (fun i => decide (nI (Y i) = v)) i (nc - i) = corO Y v nc) → ∀ (H : Heap) (locs : List Loc), va_P D vwCl [(z, .inr (4, [.int th, .ref m1, .ref m2, .ref m3, .ref m4, .ref m5, .ref m6, .ref m7, .int (nI n), .int (nI nc), .ref m8, .ref m9, .ref m10])), (m1, .inl (cI, 8, .inl f)), (m2, .inl (cI, 480, .inl K)), (m3, .inl (cI, 480, .inl (nF O))), (m4, .inl (cI, 480, .inl T)), (m5, .inl (cI, 41, .inl (nF M))), (m6, .inl (cI, 40, .inl Z)), (m7, .inl (cZ, 40, .inl (prF k))), (m8, .inl (cI, 6, .inl (nF Y))), (m9, .inl (cI, 48, .inl G)), (m10, .inl (cI, 8, .inl g))] H → va_D A [(z, .inr (4, [.int th, .ref m1, .ref m2, .ref m3, .ref m4, .ref m5, .ref m6, .ref m7, .int (nI n), .int (nI nc), .ref m8, .ref m9, .ref m10])), (m1, .inl (cI, 8, .inl f)), (m2, .inl (cI, 480, .inl K)), (m3, .inl (cI, 480, .inl (nF O))), (m4, .inl (cI, 480, .inl T)), (m5, .inl (cI, 41, .inl (nF M))), (m6, .inl (cI, 40, .inl Z)), (m7, .inl (cZ, 40, .inl (prF k))), (m8, .inl (cI, 6, .inl (nF Y))), (m9, .inl (cI, 48, .inl G)), (m10, .inl (cI, 8, .inl g))] → va_S A s.heap H locs → ∀ (ls : Array Slot), lv_has ls 3 [(2, .int (nI i)), (0, .ref z), (1, .int v)] → W p l e rm_c_X4_core_0 s m args below meth c H locs 0 0 Qz (F0 m 2 ls []) := by
    intro fu
    induction fu with
    | zero => intro i h1_2 h2_2 h3_2; exact absurd h3_2 (by omega)
    | succ fu ih_2 =>
      intro i h1_2 h2_2 h3_2 hf H locs hP hD hS ls hl
      refine lv_iload_n hx hb dX4_core_2 rfl (lv_at hl 0 rfl) ?_
      refine lv_aload_n hx hb dX4_core_3 rfl (lv_at hl 1 rfl) ?_
      refine va_get (D := D) (ci := 4) (v := .int (nI nc)) (C := RX4) (T := TX4) (N := 13) hx hb hts iu_X4_core_X4 hown hK hP 0 rfl rfl 9 (by decide) (hts _ (List.mem_of_getElem? (i := 1) rfl)) (fun _ h9 => h9) rfl dX4_core_4 ?_
      refine k_icmp_ge hx hb (tgt := 28) (by omega) (by omega) dX4_core_7 (by decide) (fun c_1 => ?_) (fun c_1 => ?_)
      · have e_2 : nc = i := by omega
        subst e_2
        refine lv_iconst (v := (-1)) hx hb dX4_core_28 (by decide) ?_
        exact kM_iret hx hb hr hlk hQ hP hD hK hS () rfl (Nat.le_of_ble_eq_true rfl) (Nat.le_of_ble_eq_true rfl) (congrArg (fun z => some (Value.int z)) (by rw [← hf, Nat.sub_self]; rfl)) trivial dX4_core_29
      · refine lv_aload_n hx hb dX4_core_10 rfl (lv_at hl 1 rfl) ?_
        refine va_get (D := D) (ci := 4) (v := .ref m8) (C := RX4) (T := TX4) (N := 13) hx hb hts iu_X4_core_X4 hown hK hP 0 rfl rfl 10 (by decide) (hts _ (List.mem_of_getElem? (i := 2) rfl)) (fun _ h9 => h9) rfl dX4_core_11 ?_
        refine lv_iload_n hx hb dX4_core_14 rfl (lv_at hl 0 rfl) ?_
        refine k_iald hx hb hK hP 8 0 (i := i) rfl rfl (by omega) (by decide) dX4_core_15 ?_
        refine k_top (y := (nI (Y i))) rfl ?_
        refine lv_iload_n hx hb dX4_core_16 rfl (lv_at hl 2 rfl) ?_
        refine lv_icmp_ne hx hb (tgt := 22) dX4_core_17 (by decide) (fun c_3 => ?_) (fun c_3 => ?_)
        · have hf2 := hf
          rw [fst_step (by omega), if_neg (by simp only [decide_eq_true_eq]; exact c_3)] at hf2
          refine lv_iinc (v := (nI (i + 1))) (lv' := [(2, .int (nI (i + 1))), (0, .ref z), (1, .int v)]) (k := 0) hx hb dX4_core_22 hl rfl (nI_add i 1) (by decide) rfl (fun ls hl => ?_)
          refine lv_goto (tgt := 2) hx hb dX4_core_25 (by decide) ?_
          exact ih_2 (i + 1) (by omega) (by omega) (by omega) hf2 _ _ hP hD hS ls (lv_sub hl [0, 1, 2] rfl)
        · have hf3 := hf
          rw [fst_step (by omega), if_pos (by simp only [decide_eq_true_eq]; exact c_3)] at hf3
          refine lv_iload_n hx hb dX4_core_20 rfl (lv_at hl 0 rfl) ?_
          exact kM_iret hx hb hr hlk hQ hP hD hK hS () rfl (Nat.le_of_ble_eq_true rfl) (Nat.le_of_ble_eq_true rfl) (congrArg (fun z => some (Value.int z)) (by rw [← hf3]; rfl)) trivial dX4_core_21
  exact lp_2 (nc + 1) 0 (by omega) (by omega) (by omega) rfl _ _ hP hD hS ls (lv_sub hl [0, 1, 2] rfl)
def rm_c_X4_core_none : Room := rm_c_X4_core_0
theorem c_X4_core_none (l : Launch) (D : va_G) (cI : ClassId) (cZ : ClassId) (z m1 m2 m3 m4 m5 m6 m7 m8 m9 m10 : Nat) (th : Int32) (f K : Nat → Int32) (O : Nat → Nat) (T : Nat → Int32) (M : Nat → Nat) (Z : Nat → Int32) (k n nc : Nat) (Y : Nat → Nat) (G g : Nat → Int32) (v : Int32) (hn : n ≤ 40) (hk : k ≤ n) (hc : nc ≤ 6) (hM : ∀ i, M i ≤ 12) (hO : ∀ i, O i < 8) (hY : ∀ i, Y i ≤ 40) (hcor : corO Y v nc = finO Y v nc) (hf0 : finO Y v nc = none) :
    kM l yX4_core wsX4_core rm_c_X4_core_none D [(cI, FieldType.int), (cZ, FieldType.boolean)] [.ref z, .int v] [(z, .inr (4, [.int th, .ref m1, .ref m2, .ref m3, .ref m4, .ref m5, .ref m6, .ref m7, .int (nI n), .int (nI nc), .ref m8, .ref m9, .ref m10])), (m1, .inl (cI, 8, .inl f)), (m2, .inl (cI, 480, .inl K)), (m3, .inl (cI, 480, .inl (nF O))), (m4, .inl (cI, 480, .inl T)), (m5, .inl (cI, 41, .inl (nF M))), (m6, .inl (cI, 40, .inl Z)), (m7, .inl (cZ, 40, .inl (prF k))), (m8, .inl (cI, 6, .inl (nF Y))), (m9, .inl (cI, 48, .inl G)), (m10, .inl (cI, 8, .inl g))] (fun _ : Unit => True) (fun _ => some (.int (-1))) (fun _ => [(z, .inr (4, [.int th, .ref m1, .ref m2, .ref m3, .ref m4, .ref m5, .ref m6, .ref m7, .int (nI n), .int (nI nc), .ref m8, .ref m9, .ref m10])), (m1, .inl (cI, 8, .inl f)), (m2, .inl (cI, 480, .inl K)), (m3, .inl (cI, 480, .inl (nF O))), (m4, .inl (cI, 480, .inl T)), (m5, .inl (cI, 41, .inl (nF M))), (m6, .inl (cI, 40, .inl Z)), (m7, .inl (cZ, 40, .inl (prF k))), (m8, .inl (cI, 6, .inl (nF Y))), (m9, .inl (cI, 48, .inl G)), (m10, .inl (cI, 8, .inl g))]) := by
  have h9 := c_X4_core_0 l D cI cZ z m1 m2 m3 m4 m5 m6 m7 m8 m9 m10 th f K O T M Z k n nc Y G g v hn hk hc hM hO hY
  rw [hcor, hf0] at h9
  exact h9
def rm_c_X4_core_some : Room := rm_c_X4_core_0
theorem c_X4_core_some (l : Launch) (D : va_G) (cI : ClassId) (cZ : ClassId) (z m1 m2 m3 m4 m5 m6 m7 m8 m9 m10 : Nat) (th : Int32) (f K : Nat → Int32) (O : Nat → Nat) (T : Nat → Int32) (M : Nat → Nat) (Z : Nat → Int32) (k n nc : Nat) (Y : Nat → Nat) (G g : Nat → Int32) (v : Int32) (j : Nat) (hn : n ≤ 40) (hk : k ≤ n) (hc : nc ≤ 6) (hM : ∀ i, M i ≤ 12) (hO : ∀ i, O i < 8) (hY : ∀ i, Y i ≤ 40) (hcor : corO Y v nc = finO Y v nc) (hf0 : finO Y v nc = some j) :
    kM l yX4_core wsX4_core rm_c_X4_core_some D [(cI, FieldType.int), (cZ, FieldType.boolean)] [.ref z, .int v] [(z, .inr (4, [.int th, .ref m1, .ref m2, .ref m3, .ref m4, .ref m5, .ref m6, .ref m7, .int (nI n), .int (nI nc), .ref m8, .ref m9, .ref m10])), (m1, .inl (cI, 8, .inl f)), (m2, .inl (cI, 480, .inl K)), (m3, .inl (cI, 480, .inl (nF O))), (m4, .inl (cI, 480, .inl T)), (m5, .inl (cI, 41, .inl (nF M))), (m6, .inl (cI, 40, .inl Z)), (m7, .inl (cZ, 40, .inl (prF k))), (m8, .inl (cI, 6, .inl (nF Y))), (m9, .inl (cI, 48, .inl G)), (m10, .inl (cI, 8, .inl g))] (fun _ : Unit => True) (fun _ => some (.int (nI j))) (fun _ => [(z, .inr (4, [.int th, .ref m1, .ref m2, .ref m3, .ref m4, .ref m5, .ref m6, .ref m7, .int (nI n), .int (nI nc), .ref m8, .ref m9, .ref m10])), (m1, .inl (cI, 8, .inl f)), (m2, .inl (cI, 480, .inl K)), (m3, .inl (cI, 480, .inl (nF O))), (m4, .inl (cI, 480, .inl T)), (m5, .inl (cI, 41, .inl (nF M))), (m6, .inl (cI, 40, .inl Z)), (m7, .inl (cZ, 40, .inl (prF k))), (m8, .inl (cI, 6, .inl (nF Y))), (m9, .inl (cI, 48, .inl G)), (m10, .inl (cI, 8, .inl g))]) := by
  have h9 := c_X4_core_0 l D cI cZ z m1 m2 m3 m4 m5 m6 m7 m8 m9 m10 th f K O T M Z k n nc Y G g v hn hk hc hM hO hY
  rw [hcor, hf0] at h9
  exact h9
theorem iu_X4_before_X4 : ∀ w ∈ wsX40, w ∈ wsX4_before := fun w h => (List.mem_cons_of_mem _ (List.mem_append_right _ h))
def rm_c_X4_before : Room := { frames := 0, cells := 0, slots := 0, locals := 0 }
set_option maxHeartbeats 4000000 in
set_option maxRecDepth 100000 in
theorem c_X4_before (l : Launch) (D : va_G) (cI : ClassId) (cZ : ClassId) (z m1 m2 m3 m4 m5 m6 m7 m8 m9 m10 : Nat) (th : Int32) (f K : Nat → Int32) (O : Nat → Nat) (T : Nat → Int32) (M : Nat → Nat) (Z : Nat → Int32) (k n nc : Nat) (Y : Nat → Nat) (G g : Nat → Int32) (y : Int32) (hn : n ≤ 40) (hk : k ≤ n) (hc : nc ≤ 6) (hM : ∀ i, M i ≤ 12) (hO : ∀ i, O i < 8) (hY : ∀ i, Y i ≤ 40) :
    kM l yX4_before wsX4_before rm_c_X4_before D [(cI, FieldType.int), (cZ, FieldType.boolean)] [.ref z, .int y] [(z, .inr (4, [.int th, .ref m1, .ref m2, .ref m3, .ref m4, .ref m5, .ref m6, .ref m7, .int (nI n), .int (nI nc), .ref m8, .ref m9, .ref m10])), (m1, .inl (cI, 8, .inl f)), (m2, .inl (cI, 480, .inl K)), (m3, .inl (cI, 480, .inl (nF O))), (m4, .inl (cI, 480, .inl T)), (m5, .inl (cI, 41, .inl (nF M))), (m6, .inl (cI, 40, .inl Z)), (m7, .inl (cZ, 40, .inl (prF k))), (m8, .inl (cI, 6, .inl (nF Y))), (m9, .inl (cI, 48, .inl G)), (m10, .inl (cI, 8, .inl g))] (fun _ : Unit => True) (fun _ => some (.int (oI (latO Y y nc)))) (fun _ => [(z, .inr (4, [.int th, .ref m1, .ref m2, .ref m3, .ref m4, .ref m5, .ref m6, .ref m7, .int (nI n), .int (nI nc), .ref m8, .ref m9, .ref m10])), (m1, .inl (cI, 8, .inl f)), (m2, .inl (cI, 480, .inl K)), (m3, .inl (cI, 480, .inl (nF O))), (m4, .inl (cI, 480, .inl T)), (m5, .inl (cI, 41, .inl (nF M))), (m6, .inl (cI, 40, .inl Z)), (m7, .inl (cZ, 40, .inl (prF k))), (m8, .inl (cI, 6, .inl (nF Y))), (m9, .inl (cI, 48, .inl G)), (m10, .inl (cI, 8, .inl g))]) := by
  refine kM_of (cc := cX4_before) (maxL := 3) (ret := (some .int)) (own := RX4) (by decide) rfl rfl (Nat.le_of_ble_eq_true rfl) ?_
  intro p e s m args below meth c A ls Qz hx hb hml hr hts hown hlk hin hQ hA hS hP hD hK hl
  have hl : lv_has ls 3 [(0, .ref z), (1, .int y)] := hl
  refine lv_aload_n hx hb dX4_before_0 rfl (lv_at hl 0 rfl) ?_
  refine va_get (D := D) (ci := 4) (v := .int (nI nc)) (C := RX4) (T := TX4) (N := 13) hx hb hts iu_X4_before_X4 hown hK hP 0 rfl rfl 9 (by decide) (hts _ (List.mem_of_getElem? (i := 1) rfl)) (fun _ h9 => h9) rfl dX4_before_1 ?_
  refine lv_iconst (v := (nI 1)) hx hb dX4_before_4 (by decide) ?_
  refine lv_isub hx hb dX4_before_5 ?_
  refine k_top (y := (prI nc)) (prI_sub nc) ?_
  refine lv_istore_n (lv' := [(2, .int (prI nc)), (0, .ref z), (1, .int y)]) hx hb dX4_before_6 rfl hl (by decide) rfl (fun ls hl => ?_)
  have lp_7 : ∀ (fu i : Nat), 0 ≤ i → i ≤ nc → nc + 1 ≤ i + fu → ∀ (x1 : Int32), x1 = prI (nc - i) → (latO Y y (nc - i) = latO Y y nc) → ∀ (H : Heap) (locs : List Loc), va_P D vwCl [(z, .inr (4, [.int th, .ref m1, .ref m2, .ref m3, .ref m4, .ref m5, .ref m6, .ref m7, .int (nI n), .int (nI nc), .ref m8, .ref m9, .ref m10])), (m1, .inl (cI, 8, .inl f)), (m2, .inl (cI, 480, .inl K)), (m3, .inl (cI, 480, .inl (nF O))), (m4, .inl (cI, 480, .inl T)), (m5, .inl (cI, 41, .inl (nF M))), (m6, .inl (cI, 40, .inl Z)), (m7, .inl (cZ, 40, .inl (prF k))), (m8, .inl (cI, 6, .inl (nF Y))), (m9, .inl (cI, 48, .inl G)), (m10, .inl (cI, 8, .inl g))] H → va_D A [(z, .inr (4, [.int th, .ref m1, .ref m2, .ref m3, .ref m4, .ref m5, .ref m6, .ref m7, .int (nI n), .int (nI nc), .ref m8, .ref m9, .ref m10])), (m1, .inl (cI, 8, .inl f)), (m2, .inl (cI, 480, .inl K)), (m3, .inl (cI, 480, .inl (nF O))), (m4, .inl (cI, 480, .inl T)), (m5, .inl (cI, 41, .inl (nF M))), (m6, .inl (cI, 40, .inl Z)), (m7, .inl (cZ, 40, .inl (prF k))), (m8, .inl (cI, 6, .inl (nF Y))), (m9, .inl (cI, 48, .inl G)), (m10, .inl (cI, 8, .inl g))] → va_S A s.heap H locs → ∀ (ls : Array Slot), lv_has ls 3 [(2, .int x1), (0, .ref z), (1, .int y)] → W p l e rm_c_X4_before s m args below meth c H locs 0 0 Qz (F0 m 7 ls []) := by
    intro fu
    induction fu with
    | zero => intro i h1_7 h2_7 h3_7; exact absurd h3_7 (by omega)
    | succ fu ih_7 =>
      intro i h1_7 h2_7 h3_7 x1 ex1 hf H locs hP hD hS ls hl
      subst ex1
      rcases Nat.lt_or_ge i nc with hlt | hge
      · have hll := hl
        rw [prI_pos (by omega)] at hll
        have hl := hll
        have hl : lv_has ls 3 [(2, .int (nI (nc - i - 1))), (0, .ref z), (1, .int y)] := hl
        refine lv_iload_n hx hb dX4_before_7 rfl (lv_at hl 0 rfl) ?_
        refine k_if_lt hx hb (tgt := 27) (by omega) dX4_before_8 (by decide) (fun h => h.elim) (fun _ => ?_)
        refine lv_aload_n hx hb dX4_before_11 rfl (lv_at hl 1 rfl) ?_
        refine va_get (D := D) (ci := 4) (v := .ref m8) (C := RX4) (T := TX4) (N := 13) hx hb hts iu_X4_before_X4 hown hK hP 0 rfl rfl 10 (by decide) (hts _ (List.mem_of_getElem? (i := 2) rfl)) (fun _ h9 => h9) rfl dX4_before_12 ?_
        refine lv_iload_n hx hb dX4_before_15 rfl (lv_at hl 0 rfl) ?_
        refine k_iald hx hb hK hP 8 0 (i := (nc - i - 1)) rfl rfl (by omega) (by decide) dX4_before_16 ?_
        refine k_top (y := (nI (Y (nc - i - 1)))) rfl ?_
        refine lv_iload_n hx hb dX4_before_17 rfl (lv_at hl 2 rfl) ?_
        refine lv_icmp_le hx hb (tgt := 27) dX4_before_18 (by decide) (fun c_2 => ?_) (fun c_2 => ?_)
        · have hf3 := hf
          rw [show nc - i = (nc - i - 1) + 1 by omega, latO, if_neg (fun q => absurd c_2 (Int32.not_le.mpr q))] at hf3
          refine lv_iload_n hx hb dX4_before_27 rfl (lv_at hl 0 rfl) ?_
          exact kM_iret hx hb hr hlk hQ hP hD hK hS () rfl (Nat.le_of_ble_eq_true rfl) (Nat.le_of_ble_eq_true rfl) (congrArg (fun z => some (Value.int z)) (by rw [← hf3]; rfl)) trivial dX4_before_28
        · have hf2 := hf
          rw [show nc - i = (nc - (i + 1)) + 1 by omega, latO, show nc - (i + 1) = nc - i - 1 by omega, if_pos (Int32.not_le.mp c_2), show nc - i - 1 = nc - (i + 1) by omega] at hf2
          refine lv_iinc (v := (prI (nc - (i + 1)))) (lv' := [(2, .int (prI (nc - (i + 1)))), (0, .ref z), (1, .int y)]) (k := 0) hx hb dX4_before_21 hl rfl (by rw [show nc - (i + 1) = nc - i - 1 by omega]; exact prI_dec _) (by decide) rfl (fun ls hl => ?_)
          refine lv_goto (tgt := 7) hx hb dX4_before_24 (by decide) ?_
          exact ih_7 (i + 1) (by omega) (by omega) (by omega) (prI (nc - (i + 1))) rfl hf2 _ _ hP hD hS ls (lv_sub hl [0, 1, 2] rfl)
      · have e9 : nc - i = 0 := by omega
        rw [e9] at hl hf
        have hl : lv_has ls 3 [(2, .int (-1)), (0, .ref z), (1, .int y)] := hl
        refine lv_iload_n hx hb dX4_before_7 rfl (lv_at hl 0 rfl) ?_
        refine lv_if_lt hx hb (tgt := 27) dX4_before_8 (by decide) (fun c_3 => ?_) (fun h => absurd h (by decide))
        refine lv_iload_n hx hb dX4_before_27 rfl (lv_at hl 0 rfl) ?_
        exact kM_iret hx hb hr hlk hQ hP hD hK hS () rfl (Nat.le_of_ble_eq_true rfl) (Nat.le_of_ble_eq_true rfl) (congrArg (fun z => some (Value.int z)) (by rw [← hf]; rfl)) trivial dX4_before_28
  exact lp_7 (nc + 1) 0 (by omega) (by omega) (by omega) (prI nc) rfl rfl _ _ hP hD hS ls (lv_sub hl [0, 1, 2] rfl)
def rm_c_X4_before_n : Room := rm_c_X4_before
theorem c_X4_before_n (l : Launch) (D : va_G) (cI : ClassId) (cZ : ClassId) (z m1 m2 m3 m4 m5 m6 m7 m8 m9 m10 : Nat) (th : Int32) (f K : Nat → Int32) (O : Nat → Nat) (T : Nat → Int32) (M : Nat → Nat) (Z : Nat → Int32) (k n nc : Nat) (Y : Nat → Nat) (G g : Nat → Int32) (y : Int32) (hn : n ≤ 40) (hk : k ≤ n) (hc : nc ≤ 6) (hM : ∀ i, M i ≤ 12) (hO : ∀ i, O i < 8) (hY : ∀ i, Y i ≤ 40) (hl0 : latO Y y nc = none) :
    kM l yX4_before wsX4_before rm_c_X4_before_n D [(cI, FieldType.int), (cZ, FieldType.boolean)] [.ref z, .int y] [(z, .inr (4, [.int th, .ref m1, .ref m2, .ref m3, .ref m4, .ref m5, .ref m6, .ref m7, .int (nI n), .int (nI nc), .ref m8, .ref m9, .ref m10])), (m1, .inl (cI, 8, .inl f)), (m2, .inl (cI, 480, .inl K)), (m3, .inl (cI, 480, .inl (nF O))), (m4, .inl (cI, 480, .inl T)), (m5, .inl (cI, 41, .inl (nF M))), (m6, .inl (cI, 40, .inl Z)), (m7, .inl (cZ, 40, .inl (prF k))), (m8, .inl (cI, 6, .inl (nF Y))), (m9, .inl (cI, 48, .inl G)), (m10, .inl (cI, 8, .inl g))] (fun _ : Unit => True) (fun _ => some (.int (-1))) (fun _ => [(z, .inr (4, [.int th, .ref m1, .ref m2, .ref m3, .ref m4, .ref m5, .ref m6, .ref m7, .int (nI n), .int (nI nc), .ref m8, .ref m9, .ref m10])), (m1, .inl (cI, 8, .inl f)), (m2, .inl (cI, 480, .inl K)), (m3, .inl (cI, 480, .inl (nF O))), (m4, .inl (cI, 480, .inl T)), (m5, .inl (cI, 41, .inl (nF M))), (m6, .inl (cI, 40, .inl Z)), (m7, .inl (cZ, 40, .inl (prF k))), (m8, .inl (cI, 6, .inl (nF Y))), (m9, .inl (cI, 48, .inl G)), (m10, .inl (cI, 8, .inl g))]) := by
  have h9 := c_X4_before l D cI cZ z m1 m2 m3 m4 m5 m6 m7 m8 m9 m10 th f K O T M Z k n nc Y G g y hn hk hc hM hO hY
  rw [hl0] at h9
  exact h9
def rm_c_X4_before_s : Room := rm_c_X4_before
theorem c_X4_before_s (l : Launch) (D : va_G) (cI : ClassId) (cZ : ClassId) (z m1 m2 m3 m4 m5 m6 m7 m8 m9 m10 : Nat) (th : Int32) (f K : Nat → Int32) (O : Nat → Nat) (T : Nat → Int32) (M : Nat → Nat) (Z : Nat → Int32) (k n nc : Nat) (Y : Nat → Nat) (G g : Nat → Int32) (y : Int32) (j : Nat) (hn : n ≤ 40) (hk : k ≤ n) (hc : nc ≤ 6) (hM : ∀ i, M i ≤ 12) (hO : ∀ i, O i < 8) (hY : ∀ i, Y i ≤ 40) (hl0 : latO Y y nc = some j) :
    kM l yX4_before wsX4_before rm_c_X4_before_s D [(cI, FieldType.int), (cZ, FieldType.boolean)] [.ref z, .int y] [(z, .inr (4, [.int th, .ref m1, .ref m2, .ref m3, .ref m4, .ref m5, .ref m6, .ref m7, .int (nI n), .int (nI nc), .ref m8, .ref m9, .ref m10])), (m1, .inl (cI, 8, .inl f)), (m2, .inl (cI, 480, .inl K)), (m3, .inl (cI, 480, .inl (nF O))), (m4, .inl (cI, 480, .inl T)), (m5, .inl (cI, 41, .inl (nF M))), (m6, .inl (cI, 40, .inl Z)), (m7, .inl (cZ, 40, .inl (prF k))), (m8, .inl (cI, 6, .inl (nF Y))), (m9, .inl (cI, 48, .inl G)), (m10, .inl (cI, 8, .inl g))] (fun _ : Unit => True) (fun _ => some (.int (nI j))) (fun _ => [(z, .inr (4, [.int th, .ref m1, .ref m2, .ref m3, .ref m4, .ref m5, .ref m6, .ref m7, .int (nI n), .int (nI nc), .ref m8, .ref m9, .ref m10])), (m1, .inl (cI, 8, .inl f)), (m2, .inl (cI, 480, .inl K)), (m3, .inl (cI, 480, .inl (nF O))), (m4, .inl (cI, 480, .inl T)), (m5, .inl (cI, 41, .inl (nF M))), (m6, .inl (cI, 40, .inl Z)), (m7, .inl (cZ, 40, .inl (prF k))), (m8, .inl (cI, 6, .inl (nF Y))), (m9, .inl (cI, 48, .inl G)), (m10, .inl (cI, 8, .inl g))]) := by
  have h9 := c_X4_before l D cI cZ z m1 m2 m3 m4 m5 m6 m7 m8 m9 m10 th f K O T M Z k n nc Y G g y hn hk hc hM hO hY
  rw [hl0] at h9
  exact h9
theorem iu_X4_from_X4 : ∀ w ∈ wsX40, w ∈ wsX4_from := fun w h => (List.mem_cons_of_mem _ (List.mem_append_right _ h))
def rm_c_X4_from_n : Room := { frames := 1, cells := 0, slots := 0, locals := 22 }
set_option maxHeartbeats 4000000 in
set_option maxRecDepth 100000 in
theorem c_X4_from_n (l : Launch) (D : va_G) (cI : ClassId) (cZ : ClassId) (z m1 m2 m3 m4 m5 m6 m7 m8 m9 m10 : Nat) (th : Int32) (f K : Nat → Int32) (O : Nat → Nat) (T : Nat → Int32) (M : Nat → Nat) (Z : Nat → Int32) (k n nc : Nat) (Y : Nat → Nat) (G g : Nat → Int32) (y : Nat) (hn : n ≤ 40) (hk : k ≤ n) (hc : nc ≤ 6) (hM : ∀ i, M i ≤ 12) (hO : ∀ i, O i < 8) (hY : ∀ i, Y i ≤ 40) (hl0 : latO Y (nI y) nc = none) :
    kM l yX4_from wsX4_from rm_c_X4_from_n D [(cI, FieldType.int), (cZ, FieldType.boolean)] [.ref z, .int (nI y)] [(z, .inr (4, [.int th, .ref m1, .ref m2, .ref m3, .ref m4, .ref m5, .ref m6, .ref m7, .int (nI n), .int (nI nc), .ref m8, .ref m9, .ref m10])), (m1, .inl (cI, 8, .inl f)), (m2, .inl (cI, 480, .inl K)), (m3, .inl (cI, 480, .inl (nF O))), (m4, .inl (cI, 480, .inl T)), (m5, .inl (cI, 41, .inl (nF M))), (m6, .inl (cI, 40, .inl Z)), (m7, .inl (cZ, 40, .inl (prF k))), (m8, .inl (cI, 6, .inl (nF Y))), (m9, .inl (cI, 48, .inl G)), (m10, .inl (cI, 8, .inl g))] (fun _ : Unit => True) (fun _ => some (.int (nI 0))) (fun _ => [(z, .inr (4, [.int th, .ref m1, .ref m2, .ref m3, .ref m4, .ref m5, .ref m6, .ref m7, .int (nI n), .int (nI nc), .ref m8, .ref m9, .ref m10])), (m1, .inl (cI, 8, .inl f)), (m2, .inl (cI, 480, .inl K)), (m3, .inl (cI, 480, .inl (nF O))), (m4, .inl (cI, 480, .inl T)), (m5, .inl (cI, 41, .inl (nF M))), (m6, .inl (cI, 40, .inl Z)), (m7, .inl (cZ, 40, .inl (prF k))), (m8, .inl (cI, 6, .inl (nF Y))), (m9, .inl (cI, 48, .inl G)), (m10, .inl (cI, 8, .inl g))]) := by
  refine kM_of (cc := cX4_from) (maxL := 2) (ret := (some .int)) (own := RX4) (by decide) rfl rfl (Nat.le_of_ble_eq_true rfl) ?_
  intro p e s m args below meth c A ls Qz hx hb hml hr hts hown hlk hin hQ hA hS hP hD hK hl
  have hl : lv_has ls 2 [(0, .ref z), (1, .int (nI y))] := hl
  refine lv_aload_n hx hb dX4_from_0 rfl (lv_at hl 0 rfl) ?_
  refine lv_iload_n hx hb dX4_from_1 rfl (lv_at hl 1 rfl) ?_
  refine kM_callV (As := [.int (nI y)]) (rest := []) (wr := []) (w2 := fun _ => [(z, .inr (4, [.int th, .ref m1, .ref m2, .ref m3, .ref m4, .ref m5, .ref m6, .ref m7, .int (nI n), .int (nI nc), .ref m8, .ref m9, .ref m10])), (m1, .inl (cI, 8, .inl f)), (m2, .inl (cI, 480, .inl K)), (m3, .inl (cI, 480, .inl (nF O))), (m4, .inl (cI, 480, .inl T)), (m5, .inl (cI, 41, .inl (nF M))), (m6, .inl (cI, 40, .inl Z)), (m7, .inl (cZ, 40, .inl (prF k))), (m8, .inl (cI, 6, .inl (nF Y))), (m9, .inl (cI, 48, .inl G)), (m10, .inl (cI, 8, .inl g))]) (st2 := fun _ => [.int (-1)]) (k := 0) (n2 := 0) ⟨hx, hb, hml, hown, hts⟩ (c_X4_before_n l D cI cZ z m1 m2 m3 m4 m5 m6 m7 m8 m9 m10 th f K O T M Z k n nc Y G g (nI y) hn hk hc hM hO hY hl0) (cwV 1 hts gX4_from_X4_before rfl rfl rfl (by decide +kernel) ⟨Nat.le_of_ble_eq_true rfl, Nat.le_of_ble_eq_true rfl⟩) 0 rfl rfl rfl [0, 1] rfl hK hP hD hS hA [0, 1, 2, 3, 4, 5, 6, 7, 8, 9, 10] [] rfl (by decide) rfl (by decide) (by decide) [0, 1, 2, 3, 4, 5, 6, 7, 8, 9, 10] (by decide) (fun _ => rfl) (Nat.le_refl _) (Nat.le_refl _) (Nat.le_of_ble_eq_true rfl) (Nat.le_of_ble_eq_true rfl) rfl hl.1 (Nat.le_of_ble_eq_true rfl) (fun _ => rfl) rfl dX4_from_2 (fun u H locs hu hP hD hS => ?_)
  refine lv_if_ge hx hb (tgt := 12) dX4_from_5 (by decide) (fun h => absurd h (by decide)) (fun c_1 => ?_)
  refine lv_iconst (v := (nI 0)) hx hb dX4_from_8 (by decide) ?_
  refine lv_goto (tgt := 22) hx hb dX4_from_9 (by decide) ?_
  exact kM_iret hx hb hr hlk hQ hP hD hK hS () rfl (Nat.le_of_ble_eq_true rfl) (Nat.le_of_ble_eq_true rfl) rfl trivial dX4_from_22
def rm_c_X4_from_s : Room := { frames := 1, cells := 0, slots := 0, locals := 22 }
set_option maxHeartbeats 4000000 in
set_option maxRecDepth 100000 in
theorem c_X4_from_s (l : Launch) (D : va_G) (cI : ClassId) (cZ : ClassId) (z m1 m2 m3 m4 m5 m6 m7 m8 m9 m10 : Nat) (th : Int32) (f K : Nat → Int32) (O : Nat → Nat) (T : Nat → Int32) (M : Nat → Nat) (Z : Nat → Int32) (k n nc : Nat) (Y : Nat → Nat) (G g : Nat → Int32) (y : Nat) (j : Nat) (hn : n ≤ 40) (hk : k ≤ n) (hc : nc ≤ 6) (hM : ∀ i, M i ≤ 12) (hO : ∀ i, O i < 8) (hY : ∀ i, Y i ≤ 40) (hl0 : latO Y (nI y) nc = some j) :
    kM l yX4_from wsX4_from rm_c_X4_from_s D [(cI, FieldType.int), (cZ, FieldType.boolean)] [.ref z, .int (nI y)] [(z, .inr (4, [.int th, .ref m1, .ref m2, .ref m3, .ref m4, .ref m5, .ref m6, .ref m7, .int (nI n), .int (nI nc), .ref m8, .ref m9, .ref m10])), (m1, .inl (cI, 8, .inl f)), (m2, .inl (cI, 480, .inl K)), (m3, .inl (cI, 480, .inl (nF O))), (m4, .inl (cI, 480, .inl T)), (m5, .inl (cI, 41, .inl (nF M))), (m6, .inl (cI, 40, .inl Z)), (m7, .inl (cZ, 40, .inl (prF k))), (m8, .inl (cI, 6, .inl (nF Y))), (m9, .inl (cI, 48, .inl G)), (m10, .inl (cI, 8, .inl g))] (fun _ : Unit => True) (fun _ => some (.int (nI (Y j)))) (fun _ => [(z, .inr (4, [.int th, .ref m1, .ref m2, .ref m3, .ref m4, .ref m5, .ref m6, .ref m7, .int (nI n), .int (nI nc), .ref m8, .ref m9, .ref m10])), (m1, .inl (cI, 8, .inl f)), (m2, .inl (cI, 480, .inl K)), (m3, .inl (cI, 480, .inl (nF O))), (m4, .inl (cI, 480, .inl T)), (m5, .inl (cI, 41, .inl (nF M))), (m6, .inl (cI, 40, .inl Z)), (m7, .inl (cZ, 40, .inl (prF k))), (m8, .inl (cI, 6, .inl (nF Y))), (m9, .inl (cI, 48, .inl G)), (m10, .inl (cI, 8, .inl g))]) := by
  refine kM_of (cc := cX4_from) (maxL := 2) (ret := (some .int)) (own := RX4) (by decide) rfl rfl (Nat.le_of_ble_eq_true rfl) ?_
  intro p e s m args below meth c A ls Qz hx hb hml hr hts hown hlk hin hQ hA hS hP hD hK hl
  have hl : lv_has ls 2 [(0, .ref z), (1, .int (nI y))] := hl
  have hj := lat_lt hl0
  have hYj := hY j
  refine lv_aload_n hx hb dX4_from_0 rfl (lv_at hl 0 rfl) ?_
  refine lv_iload_n hx hb dX4_from_1 rfl (lv_at hl 1 rfl) ?_
  refine kM_callV (As := [.int (nI y)]) (rest := []) (wr := []) (w2 := fun _ => [(z, .inr (4, [.int th, .ref m1, .ref m2, .ref m3, .ref m4, .ref m5, .ref m6, .ref m7, .int (nI n), .int (nI nc), .ref m8, .ref m9, .ref m10])), (m1, .inl (cI, 8, .inl f)), (m2, .inl (cI, 480, .inl K)), (m3, .inl (cI, 480, .inl (nF O))), (m4, .inl (cI, 480, .inl T)), (m5, .inl (cI, 41, .inl (nF M))), (m6, .inl (cI, 40, .inl Z)), (m7, .inl (cZ, 40, .inl (prF k))), (m8, .inl (cI, 6, .inl (nF Y))), (m9, .inl (cI, 48, .inl G)), (m10, .inl (cI, 8, .inl g))]) (st2 := fun _ => [.int (nI j)]) (k := 0) (n2 := 0) ⟨hx, hb, hml, hown, hts⟩ (c_X4_before_s l D cI cZ z m1 m2 m3 m4 m5 m6 m7 m8 m9 m10 th f K O T M Z k n nc Y G g (nI y) j hn hk hc hM hO hY hl0) (cwV 1 hts gX4_from_X4_before rfl rfl rfl (by decide +kernel) ⟨Nat.le_of_ble_eq_true rfl, Nat.le_of_ble_eq_true rfl⟩) 0 rfl rfl rfl [0, 1] rfl hK hP hD hS hA [0, 1, 2, 3, 4, 5, 6, 7, 8, 9, 10] [] rfl (by decide) rfl (by decide) (by decide) [0, 1, 2, 3, 4, 5, 6, 7, 8, 9, 10] (by decide) (fun _ => rfl) (Nat.le_refl _) (Nat.le_refl _) (Nat.le_of_ble_eq_true rfl) (Nat.le_of_ble_eq_true rfl) rfl hl.1 (Nat.le_of_ble_eq_true rfl) (fun _ => rfl) rfl dX4_from_2 (fun u H locs hu hP hD hS => ?_)
  refine k_if_ge hx hb (tgt := 12) (by omega) dX4_from_5 (by decide) (fun _ => ?_) (fun h => h.elim)
  refine lv_aload_n hx hb dX4_from_12 rfl (lv_at hl 0 rfl) ?_
  refine va_get (D := D) (ci := 4) (v := .ref m8) (C := RX4) (T := TX4) (N := 13) hx hb hts iu_X4_from_X4 hown hK hP 0 rfl rfl 10 (by decide) (hts _ (List.mem_of_getElem? (i := 1) rfl)) (fun _ h9 => h9) rfl dX4_from_13 ?_
  refine lv_aload_n hx hb dX4_from_16 rfl (lv_at hl 0 rfl) ?_
  refine lv_iload_n hx hb dX4_from_17 rfl (lv_at hl 1 rfl) ?_
  refine kM_callV (As := [.int (nI y)]) (rest := [.ref m8]) (wr := []) (w2 := fun _ => [(z, .inr (4, [.int th, .ref m1, .ref m2, .ref m3, .ref m4, .ref m5, .ref m6, .ref m7, .int (nI n), .int (nI nc), .ref m8, .ref m9, .ref m10])), (m1, .inl (cI, 8, .inl f)), (m2, .inl (cI, 480, .inl K)), (m3, .inl (cI, 480, .inl (nF O))), (m4, .inl (cI, 480, .inl T)), (m5, .inl (cI, 41, .inl (nF M))), (m6, .inl (cI, 40, .inl Z)), (m7, .inl (cZ, 40, .inl (prF k))), (m8, .inl (cI, 6, .inl (nF Y))), (m9, .inl (cI, 48, .inl G)), (m10, .inl (cI, 8, .inl g))]) (st2 := fun _ => [.int (nI j), .ref m8]) (k := 0) (n2 := 0) ⟨hx, hb, hml, hown, hts⟩ (c_X4_before_s l D cI cZ z m1 m2 m3 m4 m5 m6 m7 m8 m9 m10 th f K O T M Z k n nc Y G g (nI y) j hn hk hc hM hO hY hl0) (cwV 1 hts gX4_from_X4_before rfl rfl rfl (by decide +kernel) ⟨Nat.le_of_ble_eq_true rfl, Nat.le_of_ble_eq_true rfl⟩) 0 rfl rfl rfl [0, 1] rfl hK hP hD hS hA [0, 1, 2, 3, 4, 5, 6, 7, 8, 9, 10] [] rfl (by decide) rfl (by decide) (by decide) [0, 1, 2, 3, 4, 5, 6, 7, 8, 9, 10] (by decide) (fun _ => rfl) (Nat.le_refl _) (Nat.le_refl _) (Nat.le_of_ble_eq_true rfl) (Nat.le_of_ble_eq_true rfl) rfl hl.1 (Nat.le_of_ble_eq_true rfl) (fun _ => rfl) rfl dX4_from_18 (fun u H locs hu hP hD hS => ?_)
  refine k_iald hx hb hK hP 8 0 (i := j) rfl rfl (by omega) (by decide) dX4_from_21 ?_
  refine k_top (y := (nI (Y j))) rfl ?_
  exact kM_iret hx hb hr hlk hQ hP hD hK hS () rfl (Nat.le_of_ble_eq_true rfl) (Nat.le_of_ble_eq_true rfl) rfl trivial dX4_from_22
def rm_c_X4_from : Room := rm_c_X4_from_s
theorem c_X4_from (l : Launch) (D : va_G) (cI : ClassId) (cZ : ClassId) (z m1 m2 m3 m4 m5 m6 m7 m8 m9 m10 : Nat) (th : Int32) (f K : Nat → Int32) (O : Nat → Nat) (T : Nat → Int32) (M : Nat → Nat) (Z : Nat → Int32) (k n nc : Nat) (Y : Nat → Nat) (G g : Nat → Int32) (y : Nat) (hn : n ≤ 40) (hk : k ≤ n) (hc : nc ≤ 6) (hM : ∀ i, M i ≤ 12) (hO : ∀ i, O i < 8) (hY : ∀ i, Y i ≤ 40) :
    kM l yX4_from wsX4_from rm_c_X4_from D [(cI, FieldType.int), (cZ, FieldType.boolean)] [.ref z, .int (nI y)] [(z, .inr (4, [.int th, .ref m1, .ref m2, .ref m3, .ref m4, .ref m5, .ref m6, .ref m7, .int (nI n), .int (nI nc), .ref m8, .ref m9, .ref m10])), (m1, .inl (cI, 8, .inl f)), (m2, .inl (cI, 480, .inl K)), (m3, .inl (cI, 480, .inl (nF O))), (m4, .inl (cI, 480, .inl T)), (m5, .inl (cI, 41, .inl (nF M))), (m6, .inl (cI, 40, .inl Z)), (m7, .inl (cZ, 40, .inl (prF k))), (m8, .inl (cI, 6, .inl (nF Y))), (m9, .inl (cI, 48, .inl G)), (m10, .inl (cI, 8, .inl g))] (fun _ : Unit => True) (fun _ => some (.int (nI (fromO Y (latO Y (nI y) nc))))) (fun _ => [(z, .inr (4, [.int th, .ref m1, .ref m2, .ref m3, .ref m4, .ref m5, .ref m6, .ref m7, .int (nI n), .int (nI nc), .ref m8, .ref m9, .ref m10])), (m1, .inl (cI, 8, .inl f)), (m2, .inl (cI, 480, .inl K)), (m3, .inl (cI, 480, .inl (nF O))), (m4, .inl (cI, 480, .inl T)), (m5, .inl (cI, 41, .inl (nF M))), (m6, .inl (cI, 40, .inl Z)), (m7, .inl (cZ, 40, .inl (prF k))), (m8, .inl (cI, 6, .inl (nF Y))), (m9, .inl (cI, 48, .inl G)), (m10, .inl (cI, 8, .inl g))]) := by
  cases hl0 : latO Y (nI y) nc with
  | none => exact c_X4_from_n l D cI cZ z m1 m2 m3 m4 m5 m6 m7 m8 m9 m10 th f K O T M Z k n nc Y G g y hn hk hc hM hO hY hl0
  | some j => exact c_X4_from_s l D cI cZ z m1 m2 m3 m4 m5 m6 m7 m8 m9 m10 th f K O T M Z k n nc Y G g y j hn hk hc hM hO hY hl0
theorem iu_X4_can_X4 : ∀ w ∈ wsX40, w ∈ wsX4_can := fun w h => (List.mem_cons_of_mem _ (List.mem_append_right _ h))
def rm_c_X4_can : Room := { frames := 2, cells := 0, slots := 0, locals := 43 }
set_option maxHeartbeats 4000000 in
set_option maxRecDepth 100000 in
theorem c_X4_can (l : Launch) (D : va_G) (cI : ClassId) (cZ : ClassId) (z m1 m2 m3 m4 m5 m6 m7 m8 m9 m10 : Nat) (th : Int32) (f K : Nat → Int32) (O : Nat → Nat) (T : Nat → Int32) (M : Nat → Nat) (Z : Nat → Int32) (k n nc : Nat) (Y : Nat → Nat) (G g : Nat → Int32) (y : Nat) (hn : n ≤ 40) (hk : k ≤ n) (hc : nc ≤ 6) (hM : ∀ i, M i ≤ 12) (hO : ∀ i, O i < 8) (hY : ∀ i, Y i ≤ 40) (hy : y ≤ n) :
    kM l yX4_can wsX4_can rm_c_X4_can D [(cI, FieldType.int), (cZ, FieldType.boolean)] [.ref z, .int (nI y)] [(z, .inr (4, [.int th, .ref m1, .ref m2, .ref m3, .ref m4, .ref m5, .ref m6, .ref m7, .int (nI n), .int (nI nc), .ref m8, .ref m9, .ref m10])), (m1, .inl (cI, 8, .inl f)), (m2, .inl (cI, 480, .inl K)), (m3, .inl (cI, 480, .inl (nF O))), (m4, .inl (cI, 480, .inl T)), (m5, .inl (cI, 41, .inl (nF M))), (m6, .inl (cI, 40, .inl Z)), (m7, .inl (cZ, 40, .inl (prF k))), (m8, .inl (cI, 6, .inl (nF Y))), (m9, .inl (cI, 48, .inl G)), (m10, .inl (cI, 8, .inl g))] (fun _ : Unit => True) (fun _ => some (.int (b2i (y ≤ fromO Y (latO Y (nI y) nc) ∨ ¬ fromO Y (latO Y (nI y) nc) < k)))) (fun _ => [(z, .inr (4, [.int th, .ref m1, .ref m2, .ref m3, .ref m4, .ref m5, .ref m6, .ref m7, .int (nI n), .int (nI nc), .ref m8, .ref m9, .ref m10])), (m1, .inl (cI, 8, .inl f)), (m2, .inl (cI, 480, .inl K)), (m3, .inl (cI, 480, .inl (nF O))), (m4, .inl (cI, 480, .inl T)), (m5, .inl (cI, 41, .inl (nF M))), (m6, .inl (cI, 40, .inl Z)), (m7, .inl (cZ, 40, .inl (prF k))), (m8, .inl (cI, 6, .inl (nF Y))), (m9, .inl (cI, 48, .inl G)), (m10, .inl (cI, 8, .inl g))]) := by
  refine kM_of (cc := cX4_can) (maxL := 3) (ret := (some .boolean)) (own := RX4) (by decide) rfl rfl (Nat.le_of_ble_eq_true rfl) ?_
  intro p e s m args below meth c A ls Qz hx hb hml hr hts hown hlk hin hQ hA hS hP hD hK hl
  have hl : lv_has ls 3 [(0, .ref z), (1, .int (nI y))] := hl
  have hfr := fromO_le (latO Y (nI y) nc) hY
  refine lv_aload_n hx hb dX4_can_0 rfl (lv_at hl 0 rfl) ?_
  refine lv_iload_n hx hb dX4_can_1 rfl (lv_at hl 1 rfl) ?_
  refine kM_callV (As := [.int (nI y)]) (rest := []) (wr := []) (w2 := fun _ => [(z, .inr (4, [.int th, .ref m1, .ref m2, .ref m3, .ref m4, .ref m5, .ref m6, .ref m7, .int (nI n), .int (nI nc), .ref m8, .ref m9, .ref m10])), (m1, .inl (cI, 8, .inl f)), (m2, .inl (cI, 480, .inl K)), (m3, .inl (cI, 480, .inl (nF O))), (m4, .inl (cI, 480, .inl T)), (m5, .inl (cI, 41, .inl (nF M))), (m6, .inl (cI, 40, .inl Z)), (m7, .inl (cZ, 40, .inl (prF k))), (m8, .inl (cI, 6, .inl (nF Y))), (m9, .inl (cI, 48, .inl G)), (m10, .inl (cI, 8, .inl g))]) (st2 := fun _ => [.int (nI (fromO Y (latO Y (nI y) nc)))]) (k := 0) (n2 := 0) ⟨hx, hb, hml, hown, hts⟩ (c_X4_from l D cI cZ z m1 m2 m3 m4 m5 m6 m7 m8 m9 m10 th f K O T M Z k n nc Y G g y hn hk hc hM hO hY) (cwV 1 hts gX4_can_X4_from rfl rfl rfl (by decide +kernel) ⟨Nat.le_of_ble_eq_true rfl, Nat.le_of_ble_eq_true rfl⟩) 0 rfl rfl rfl [0, 1] rfl hK hP hD hS hA [0, 1, 2, 3, 4, 5, 6, 7, 8, 9, 10] [] rfl (by decide) rfl (by decide) (by decide) [0, 1, 2, 3, 4, 5, 6, 7, 8, 9, 10] (by decide) (fun _ => rfl) (Nat.le_refl _) (Nat.le_refl _) (Nat.le_of_ble_eq_true rfl) (Nat.le_of_ble_eq_true rfl) rfl hl.1 (Nat.le_of_ble_eq_true rfl) (fun _ => rfl) rfl dX4_can_2 (fun u H locs hu hP hD hS => ?_)
  refine lv_istore_n (lv' := [(2, .int (nI (fromO Y (latO Y (nI y) nc)))), (0, .ref z), (1, .int (nI y))]) hx hb dX4_can_5 rfl hl (by decide) rfl (fun ls hl => ?_)
  have lp_6 : ∀ (fu d : Nat), 0 ≤ d → d ≤ y - (fromO Y (latO Y (nI y) nc)) → (y - (fromO Y (latO Y (nI y) nc))) + 1 ≤ d + fu → (d = 0 ∨ ¬ fromO Y (latO Y (nI y) nc) < k) → ∀ (H : Heap) (locs : List Loc), va_P D vwCl [(z, .inr (4, [.int th, .ref m1, .ref m2, .ref m3, .ref m4, .ref m5, .ref m6, .ref m7, .int (nI n), .int (nI nc), .ref m8, .ref m9, .ref m10])), (m1, .inl (cI, 8, .inl f)), (m2, .inl (cI, 480, .inl K)), (m3, .inl (cI, 480, .inl (nF O))), (m4, .inl (cI, 480, .inl T)), (m5, .inl (cI, 41, .inl (nF M))), (m6, .inl (cI, 40, .inl Z)), (m7, .inl (cZ, 40, .inl (prF k))), (m8, .inl (cI, 6, .inl (nF Y))), (m9, .inl (cI, 48, .inl G)), (m10, .inl (cI, 8, .inl g))] H → va_D A [(z, .inr (4, [.int th, .ref m1, .ref m2, .ref m3, .ref m4, .ref m5, .ref m6, .ref m7, .int (nI n), .int (nI nc), .ref m8, .ref m9, .ref m10])), (m1, .inl (cI, 8, .inl f)), (m2, .inl (cI, 480, .inl K)), (m3, .inl (cI, 480, .inl (nF O))), (m4, .inl (cI, 480, .inl T)), (m5, .inl (cI, 41, .inl (nF M))), (m6, .inl (cI, 40, .inl Z)), (m7, .inl (cZ, 40, .inl (prF k))), (m8, .inl (cI, 6, .inl (nF Y))), (m9, .inl (cI, 48, .inl G)), (m10, .inl (cI, 8, .inl g))] → va_S A s.heap H locs → ∀ (ls : Array Slot), lv_has ls 3 [(2, .int (nI (fromO Y (latO Y (nI y) nc) + d))), (0, .ref z), (1, .int (nI y))] → W p l e rm_c_X4_can s m args below meth c H locs 0 0 Qz (F0 m 6 ls []) := by
    intro fu
    induction fu with
    | zero => intro d h1_6 h2_6 h3_6; exact absurd h3_6 (by omega)
    | succ fu ih_6 =>
      intro d h1_6 h2_6 h3_6 hd0 H locs hP hD hS ls hl
      refine lv_iload_n hx hb dX4_can_6 rfl (lv_at hl 0 rfl) ?_
      refine lv_iload_n hx hb dX4_can_7 rfl (lv_at hl 2 rfl) ?_
      refine k_icmp_ge hx hb (tgt := 28) (by omega) (by omega) dX4_can_8 (by decide) (fun c_1 => ?_) (fun c_1 => ?_)
      · have e_2 : y - (fromO Y (latO Y (nI y) nc)) = d := by omega
        subst e_2
        refine lv_iconst (v := (nI 1)) hx hb dX4_can_28 (by decide) ?_
        exact kM_zret hx hb hr hlk hQ hP hD hK hS () rfl (Nat.le_of_ble_eq_true rfl) (Nat.le_of_ble_eq_true rfl) (by decide) (congrArg (fun z => some (Value.int z)) (if_pos (by omega))) trivial dX4_can_29
      · refine lv_aload_n hx hb dX4_can_11 rfl (lv_at hl 1 rfl) ?_
        refine va_get (D := D) (ci := 4) (v := .ref m7) (C := RX4) (T := TX4) (N := 13) hx hb hts iu_X4_can_X4 hown hK hP 0 rfl rfl 7 (by decide) (hts _ (List.mem_of_getElem? (i := 1) rfl)) (fun _ h9 => h9) rfl dX4_can_12 ?_
        refine lv_iload_n hx hb dX4_can_15 rfl (lv_at hl 0 rfl) ?_
        refine k_zald hx hb hK hP 7 1 (i := (fromO Y (latO Y (nI y) nc) + d)) rfl rfl (by omega) (by decide) dX4_can_16 ?_
        refine k_top (y := (b2i ((fromO Y (latO Y (nI y) nc) + d) < k))) rfl ?_
        refine k_bif_eq hx hb (tgt := 22) dX4_can_17 (by decide) (fun c_3 => ?_) (fun c_3 => ?_)
        · have h17 := c_3
          refine lv_iinc (v := (nI ((fromO Y (latO Y (nI y) nc) + d) + 1))) (lv' := [(2, .int (nI ((fromO Y (latO Y (nI y) nc) + d) + 1))), (0, .ref z), (1, .int (nI y))]) (k := 0) hx hb dX4_can_22 hl rfl (nI_add (fromO Y (latO Y (nI y) nc) + d) 1) (by decide) rfl (fun ls hl => ?_)
          refine lv_goto (tgt := 6) hx hb dX4_can_25 (by decide) ?_
          exact ih_6 (d + 1) (by omega) (by omega) (by omega) (by omega) _ _ hP hD hS ls (lv_sub hl [0, 1, 2] rfl)
        · have h17 := c_3
          refine lv_iconst (v := (nI 0)) hx hb dX4_can_20 (by decide) ?_
          exact kM_zret hx hb hr hlk hQ hP hD hK hS () rfl (Nat.le_of_ble_eq_true rfl) (Nat.le_of_ble_eq_true rfl) (by decide) (congrArg (fun z => some (Value.int z)) (if_neg (by omega))) trivial dX4_can_21
  exact lp_6 ((y - (fromO Y (latO Y (nI y) nc))) + 1) 0 (by omega) (by omega) (by omega) (Or.inl rfl) _ _ hP hD hS ls (lv_sub hl [0, 1, 2] rfl)
theorem iu_X4_cost_X4 : ∀ w ∈ wsX40, w ∈ wsX4_cost := fun w h => (List.mem_cons_of_mem _ (List.mem_append_right _ h))
def rm_c_X4_cost : Room := { frames := 0, cells := 0, slots := 0, locals := 0 }
set_option maxHeartbeats 4000000 in
set_option maxRecDepth 100000 in
theorem c_X4_cost (l : Launch) (D : va_G) (cI : ClassId) (cZ : ClassId) (z m1 m2 m3 m4 m5 m6 m7 m8 m9 m10 : Nat) (th : Int32) (f K : Nat → Int32) (O : Nat → Nat) (T : Nat → Int32) (M : Nat → Nat) (Z : Nat → Int32) (k n nc : Nat) (Y : Nat → Nat) (G g : Nat → Int32) (a y : Nat) (hn : n ≤ 40) (hk : k ≤ n) (hc : nc ≤ 6) (hM : ∀ i, M i ≤ 12) (hO : ∀ i, O i < 8) (hY : ∀ i, Y i ≤ 40) (ha : a ≤ 40) (hy : y ≤ 41) :
    kM l yX4_cost wsX4_cost rm_c_X4_cost D [(cI, FieldType.int), (cZ, FieldType.boolean)] [.ref z, .int (nI a), .int (nI y)] [(z, .inr (4, [.int th, .ref m1, .ref m2, .ref m3, .ref m4, .ref m5, .ref m6, .ref m7, .int (nI n), .int (nI nc), .ref m8, .ref m9, .ref m10])), (m1, .inl (cI, 8, .inl f)), (m2, .inl (cI, 480, .inl K)), (m3, .inl (cI, 480, .inl (nF O))), (m4, .inl (cI, 480, .inl T)), (m5, .inl (cI, 41, .inl (nF M))), (m6, .inl (cI, 40, .inl Z)), (m7, .inl (cZ, 40, .inl (prF k))), (m8, .inl (cI, 6, .inl (nF Y))), (m9, .inl (cI, 48, .inl G)), (m10, .inl (cI, 8, .inl g))] (fun _ : Unit => True) (fun _ => some (.int (nI (sumM M a (y - a))))) (fun _ => [(z, .inr (4, [.int th, .ref m1, .ref m2, .ref m3, .ref m4, .ref m5, .ref m6, .ref m7, .int (nI n), .int (nI nc), .ref m8, .ref m9, .ref m10])), (m1, .inl (cI, 8, .inl f)), (m2, .inl (cI, 480, .inl K)), (m3, .inl (cI, 480, .inl (nF O))), (m4, .inl (cI, 480, .inl T)), (m5, .inl (cI, 41, .inl (nF M))), (m6, .inl (cI, 40, .inl Z)), (m7, .inl (cZ, 40, .inl (prF k))), (m8, .inl (cI, 6, .inl (nF Y))), (m9, .inl (cI, 48, .inl G)), (m10, .inl (cI, 8, .inl g))]) := by
  refine kM_of (cc := cX4_cost) (maxL := 5) (ret := (some .int)) (own := RX4) (by decide) rfl rfl (Nat.le_of_ble_eq_true rfl) ?_
  intro p e s m args below meth c A ls Qz hx hb hml hr hts hown hlk hin hQ hA hS hP hD hK hl
  have hl : lv_has ls 5 [(0, .ref z), (1, .int (nI a)), (2, .int (nI y))] := hl
  refine lv_iconst (v := (nI 0)) hx hb dX4_cost_0 (by decide) ?_
  refine lv_istore_n (lv' := [(3, .int (nI 0)), (0, .ref z), (1, .int (nI a)), (2, .int (nI y))]) hx hb dX4_cost_1 rfl hl (by decide) rfl (fun ls hl => ?_)
  refine lv_iload_n hx hb dX4_cost_2 rfl (lv_at hl 2 rfl) ?_
  refine lv_istore (lv' := [(4, .int (nI a)), (3, .int (nI 0)), (0, .ref z), (1, .int (nI a)), (2, .int (nI y))]) hx hb dX4_cost_3 hl (by decide) rfl (fun ls hl => ?_)
  have lp_5 : ∀ (fu d : Nat), 0 ≤ d → d ≤ y - a → (y - a) + 1 ≤ d + fu → ∀ (H : Heap) (locs : List Loc), va_P D vwCl [(z, .inr (4, [.int th, .ref m1, .ref m2, .ref m3, .ref m4, .ref m5, .ref m6, .ref m7, .int (nI n), .int (nI nc), .ref m8, .ref m9, .ref m10])), (m1, .inl (cI, 8, .inl f)), (m2, .inl (cI, 480, .inl K)), (m3, .inl (cI, 480, .inl (nF O))), (m4, .inl (cI, 480, .inl T)), (m5, .inl (cI, 41, .inl (nF M))), (m6, .inl (cI, 40, .inl Z)), (m7, .inl (cZ, 40, .inl (prF k))), (m8, .inl (cI, 6, .inl (nF Y))), (m9, .inl (cI, 48, .inl G)), (m10, .inl (cI, 8, .inl g))] H → va_D A [(z, .inr (4, [.int th, .ref m1, .ref m2, .ref m3, .ref m4, .ref m5, .ref m6, .ref m7, .int (nI n), .int (nI nc), .ref m8, .ref m9, .ref m10])), (m1, .inl (cI, 8, .inl f)), (m2, .inl (cI, 480, .inl K)), (m3, .inl (cI, 480, .inl (nF O))), (m4, .inl (cI, 480, .inl T)), (m5, .inl (cI, 41, .inl (nF M))), (m6, .inl (cI, 40, .inl Z)), (m7, .inl (cZ, 40, .inl (prF k))), (m8, .inl (cI, 6, .inl (nF Y))), (m9, .inl (cI, 48, .inl G)), (m10, .inl (cI, 8, .inl g))] → va_S A s.heap H locs → ∀ (ls : Array Slot), lv_has ls 5 [(4, .int (nI (a + d))), (3, .int (nI (sumM M a d))), (0, .ref z), (1, .int (nI a)), (2, .int (nI y))] → W p l e rm_c_X4_cost s m args below meth c H locs 0 0 Qz (F0 m 5 ls []) := by
    intro fu
    induction fu with
    | zero => intro d h1_5 h2_5 h3_5; exact absurd h3_5 (by omega)
    | succ fu ih_5 =>
      intro d h1_5 h2_5 h3_5 H locs hP hD hS ls hl
      refine lv_iload hx hb dX4_cost_5 (lv_at hl 0 rfl) ?_
      refine lv_iload_n hx hb dX4_cost_7 rfl (lv_at hl 4 rfl) ?_
      refine k_icmp_ge hx hb (tgt := 27) (by omega) (by omega) dX4_cost_8 (by decide) (fun c_1 => ?_) (fun c_1 => ?_)
      · have e_2 : y - a = d := by omega
        subst e_2
        refine lv_iload_n hx hb dX4_cost_27 rfl (lv_at hl 1 rfl) ?_
        exact kM_iret hx hb hr hlk hQ hP hD hK hS () rfl (Nat.le_of_ble_eq_true rfl) (Nat.le_of_ble_eq_true rfl) rfl trivial dX4_cost_28
      · refine lv_iload_n hx hb dX4_cost_11 rfl (lv_at hl 1 rfl) ?_
        refine lv_aload_n hx hb dX4_cost_12 rfl (lv_at hl 2 rfl) ?_
        refine va_get (D := D) (ci := 4) (v := .ref m5) (C := RX4) (T := TX4) (N := 13) hx hb hts iu_X4_cost_X4 hown hK hP 0 rfl rfl 5 (by decide) (hts _ (List.mem_of_getElem? (i := 1) rfl)) (fun _ h9 => h9) rfl dX4_cost_13 ?_
        refine lv_iload hx hb dX4_cost_16 (lv_at hl 0 rfl) ?_
        refine k_iald hx hb hK hP 5 0 (i := (a + d)) rfl rfl (by omega) (by decide) dX4_cost_18 ?_
        refine k_top (y := (nI (M (a + d)))) rfl ?_
        refine k_iadd hx hb dX4_cost_19 ?_
        refine lv_istore_n (lv' := [(3, .int (nI ((sumM M a d) + (M (a + d))))), (4, .int (nI (a + d))), (0, .ref z), (1, .int (nI a)), (2, .int (nI y))]) hx hb dX4_cost_20 rfl hl (by decide) rfl (fun ls hl => ?_)
        refine lv_iinc (v := (nI ((a + d) + 1))) (lv' := [(4, .int (nI ((a + d) + 1))), (3, .int (nI ((sumM M a d) + (M (a + d))))), (0, .ref z), (1, .int (nI a)), (2, .int (nI y))]) (k := 1) hx hb dX4_cost_21 hl rfl (nI_add (a + d) 1) (by decide) rfl (fun ls hl => ?_)
        refine lv_goto (tgt := 5) hx hb dX4_cost_24 (by decide) ?_
        exact ih_5 (d + 1) (by omega) (by omega) (by omega) _ _ hP hD hS ls (lv_sub hl [0, 1, 2, 3, 4] rfl)
  exact lp_5 ((y - a) + 1) 0 (by omega) (by omega) (by omega) _ _ hP hD hS ls (lv_sub hl [0, 1, 2, 3, 4] rfl)
theorem iu_X4_replay_X4 : ∀ w ∈ wsX40, w ∈ wsX4_replay := fun w h => (List.mem_cons_of_mem _ (List.mem_append_right _ h))
def rm_c_X4_replay_n : Room := { frames := 2, cells := 0, slots := 0, locals := 48 }
set_option maxHeartbeats 4000000 in
set_option maxRecDepth 100000 in
theorem c_X4_replay_n (l : Launch) (D : va_G) (cI : ClassId) (cZ : ClassId) (z m1 m2 m3 m4 m5 m6 m7 m8 m9 m10 : Nat) (th : Int32) (f K : Nat → Int32) (O : Nat → Nat) (T : Nat → Int32) (M : Nat → Nat) (Z : Nat → Int32) (k n nc : Nat) (Y : Nat → Nat) (G g : Nat → Int32) (y : Nat) (hn : n ≤ 40) (hk : k ≤ n) (hc : nc ≤ 6) (hM : ∀ i, M i ≤ 12) (hO : ∀ i, O i < 8) (hY : ∀ i, Y i ≤ 40) (hy : y ≤ n) (hl0 : latO Y (nI y) nc = none) :
    kM l yX4_replay wsX4_replay rm_c_X4_replay_n D [(cI, FieldType.int), (cZ, FieldType.boolean)] [.ref z, .int (nI y)] [(z, .inr (4, [.int th, .ref m1, .ref m2, .ref m3, .ref m4, .ref m5, .ref m6, .ref m7, .int (nI n), .int (nI nc), .ref m8, .ref m9, .ref m10])), (m1, .inl (cI, 8, .inl f)), (m2, .inl (cI, 480, .inl K)), (m3, .inl (cI, 480, .inl (nF O))), (m4, .inl (cI, 480, .inl T)), (m5, .inl (cI, 41, .inl (nF M))), (m6, .inl (cI, 40, .inl Z)), (m7, .inl (cZ, 40, .inl (prF k))), (m8, .inl (cI, 6, .inl (nF Y))), (m9, .inl (cI, 48, .inl G)), (m10, .inl (cI, 8, .inl g))] (fun _ : Unit => True) (fun _ => none) (fun _ => [(z, .inr (4, [.int th, .ref m1, .ref m2, .ref m3, .ref m4, .ref m5, .ref m6, .ref m7, .int (nI n), .int (nI nc), .ref m8, .ref m9, .ref m10])), (m1, .inl (cI, 8, .inl f)), (m2, .inl (cI, 480, .inl K)), (m3, .inl (cI, 480, .inl (nF O))), (m4, .inl (cI, 480, .inl T)), (m5, .inl (cI, 41, .inl (nF M))), (m6, .inl (cI, 40, .inl Z)), (m7, .inl (cZ, 40, .inl (prF k))), (m8, .inl (cI, 6, .inl (nF Y))), (m9, .inl (cI, 48, .inl G)), (m10, .inl (cI, 8, .inl (againL K O T M (fromO Y (latO Y (nI y) nc)) (clrN g 8) (y - (fromO Y (latO Y (nI y) nc))))))]) := by
  refine kM_of (cc := cX4_replay) (maxL := 5) (ret := none) (own := RX4) (by decide) rfl rfl (Nat.le_of_ble_eq_true rfl) ?_
  intro p e s m args below meth c A ls Qz hx hb hml hr hts hown hlk hin hQ hA hS hP hD hK hl
  have hl : lv_has ls 5 [(0, .ref z), (1, .int (nI y))] := hl
  have hfr := fromO_le (latO Y (nI y) nc) hY
  refine lv_aload_n hx hb dX4_replay_0 rfl (lv_at hl 0 rfl) ?_
  refine lv_iload_n hx hb dX4_replay_1 rfl (lv_at hl 1 rfl) ?_
  refine kM_callV (As := [.int (nI y)]) (rest := []) (wr := []) (w2 := fun _ => [(z, .inr (4, [.int th, .ref m1, .ref m2, .ref m3, .ref m4, .ref m5, .ref m6, .ref m7, .int (nI n), .int (nI nc), .ref m8, .ref m9, .ref m10])), (m1, .inl (cI, 8, .inl f)), (m2, .inl (cI, 480, .inl K)), (m3, .inl (cI, 480, .inl (nF O))), (m4, .inl (cI, 480, .inl T)), (m5, .inl (cI, 41, .inl (nF M))), (m6, .inl (cI, 40, .inl Z)), (m7, .inl (cZ, 40, .inl (prF k))), (m8, .inl (cI, 6, .inl (nF Y))), (m9, .inl (cI, 48, .inl G)), (m10, .inl (cI, 8, .inl g))]) (st2 := fun _ => [.int (-1)]) (k := 0) (n2 := 0) ⟨hx, hb, hml, hown, hts⟩ (c_X4_before_n l D cI cZ z m1 m2 m3 m4 m5 m6 m7 m8 m9 m10 th f K O T M Z k n nc Y G g (nI y) hn hk hc hM hO hY hl0) (cwV 1 hts gX4_replay_X4_before rfl rfl rfl (by decide +kernel) ⟨Nat.le_of_ble_eq_true rfl, Nat.le_of_ble_eq_true rfl⟩) 0 rfl rfl rfl [0, 1] rfl hK hP hD hS hA [0, 1, 2, 3, 4, 5, 6, 7, 8, 9, 10] [] rfl (by decide) rfl (by decide) (by decide) [0, 1, 2, 3, 4, 5, 6, 7, 8, 9, 10] (by decide) (fun _ => rfl) (Nat.le_refl _) (Nat.le_refl _) (Nat.le_of_ble_eq_true rfl) (Nat.le_of_ble_eq_true rfl) rfl hl.1 (Nat.le_of_ble_eq_true rfl) (fun _ => rfl) rfl dX4_replay_2 (fun u H locs hu hP hD hS => ?_)
  refine lv_istore_n (lv' := [(2, .int (-1)), (0, .ref z), (1, .int (nI y))]) hx hb dX4_replay_5 rfl hl (by decide) rfl (fun ls hl => ?_)
  refine lv_iconst (v := (nI 0)) hx hb dX4_replay_6 (by decide) ?_
  refine lv_istore_n (lv' := [(3, .int (nI 0)), (2, .int (-1)), (0, .ref z), (1, .int (nI y))]) hx hb dX4_replay_7 rfl hl (by decide) rfl (fun ls hl => ?_)
  have lp_8 : ∀ (fu i : Nat), 0 ≤ i → i ≤ 8 → 8 + 1 ≤ i + fu → ∀ (x1 : Nat → Int32), x1 = clrN g i → ∀ (H : Heap) (locs : List Loc), va_P D vwCl [(z, .inr (4, [.int th, .ref m1, .ref m2, .ref m3, .ref m4, .ref m5, .ref m6, .ref m7, .int (nI n), .int (nI nc), .ref m8, .ref m9, .ref m10])), (m1, .inl (cI, 8, .inl f)), (m2, .inl (cI, 480, .inl K)), (m3, .inl (cI, 480, .inl (nF O))), (m4, .inl (cI, 480, .inl T)), (m5, .inl (cI, 41, .inl (nF M))), (m6, .inl (cI, 40, .inl Z)), (m7, .inl (cZ, 40, .inl (prF k))), (m8, .inl (cI, 6, .inl (nF Y))), (m9, .inl (cI, 48, .inl G)), (m10, .inl (cI, 8, .inl x1))] H → va_D A [(z, .inr (4, [.int th, .ref m1, .ref m2, .ref m3, .ref m4, .ref m5, .ref m6, .ref m7, .int (nI n), .int (nI nc), .ref m8, .ref m9, .ref m10])), (m1, .inl (cI, 8, .inl f)), (m2, .inl (cI, 480, .inl K)), (m3, .inl (cI, 480, .inl (nF O))), (m4, .inl (cI, 480, .inl T)), (m5, .inl (cI, 41, .inl (nF M))), (m6, .inl (cI, 40, .inl Z)), (m7, .inl (cZ, 40, .inl (prF k))), (m8, .inl (cI, 6, .inl (nF Y))), (m9, .inl (cI, 48, .inl G)), (m10, .inl (cI, 8, .inl x1))] → va_S A s.heap H locs → ∀ (ls : Array Slot), lv_has ls 5 [(3, .int (nI i)), (2, .int (-1)), (0, .ref z), (1, .int (nI y))] → W p l e rm_c_X4_replay_n s m args below meth c H locs 0 0 Qz (F0 m 8 ls []) := by
    intro fu
    induction fu with
    | zero => intro i h1_8 h2_8 h3_8; exact absurd h3_8 (by omega)
    | succ fu ih_8 =>
      intro i h1_8 h2_8 h3_8 x1 ex1 H locs hP hD hS ls hl
      subst ex1
      refine lv_iload_n hx hb dX4_replay_8 rfl (lv_at hl 0 rfl) ?_
      refine lv_bipush (v := (nI 8)) hx hb dX4_replay_9 (by decide) ?_
      refine k_icmp_ge hx hb (tgt := 45) (by omega) (by decide) dX4_replay_11 (by decide) (fun c_1 => ?_) (fun c_1 => ?_)
      · have e_2 : 8 = i := by omega
        subst e_2
        refine lv_aload_n hx hb dX4_replay_45 rfl (lv_at hl 2 rfl) ?_
        refine lv_iload_n hx hb dX4_replay_46 rfl (lv_at hl 3 rfl) ?_
        refine kM_callV (As := [.int (nI y)]) (rest := []) (wr := []) (w2 := fun _ => [(z, .inr (4, [.int th, .ref m1, .ref m2, .ref m3, .ref m4, .ref m5, .ref m6, .ref m7, .int (nI n), .int (nI nc), .ref m8, .ref m9, .ref m10])), (m1, .inl (cI, 8, .inl f)), (m2, .inl (cI, 480, .inl K)), (m3, .inl (cI, 480, .inl (nF O))), (m4, .inl (cI, 480, .inl T)), (m5, .inl (cI, 41, .inl (nF M))), (m6, .inl (cI, 40, .inl Z)), (m7, .inl (cZ, 40, .inl (prF k))), (m8, .inl (cI, 6, .inl (nF Y))), (m9, .inl (cI, 48, .inl G)), (m10, .inl (cI, 8, .inl (clrN g 8)))]) (st2 := fun _ => [.int (nI (fromO Y (latO Y (nI y) nc)))]) (k := 0) (n2 := 0) ⟨hx, hb, hml, hown, hts⟩ (c_X4_from l D cI cZ z m1 m2 m3 m4 m5 m6 m7 m8 m9 m10 th f K O T M Z k n nc Y G (clrN g 8) y hn hk hc hM hO hY) (cwV 1 hts gX4_replay_X4_from rfl rfl rfl (by decide +kernel) ⟨Nat.le_of_ble_eq_true rfl, Nat.le_of_ble_eq_true rfl⟩) 0 rfl rfl rfl [0, 1] rfl hK hP hD hS hA [0, 1, 2, 3, 4, 5, 6, 7, 8, 9, 10] [] rfl (by decide) rfl (by decide) (by decide) [0, 1, 2, 3, 4, 5, 6, 7, 8, 9, 10] (by decide) (fun _ => rfl) (Nat.le_refl _) (Nat.le_refl _) (Nat.le_of_ble_eq_true rfl) (Nat.le_of_ble_eq_true rfl) rfl hl.1 (Nat.le_of_ble_eq_true rfl) (fun _ => rfl) rfl dX4_replay_47 (fun u H locs hu hP hD hS => ?_)
        refine lv_istore_n (lv' := [(3, .int (nI (fromO Y (latO Y (nI y) nc)))), (2, .int (-1)), (0, .ref z), (1, .int (nI y))]) hx hb dX4_replay_50 rfl hl (by decide) rfl (fun ls hl => ?_)
        have lp_51 : ∀ (fu d : Nat), 0 ≤ d → d ≤ y - (fromO Y (latO Y (nI y) nc)) → (y - (fromO Y (latO Y (nI y) nc))) + 1 ≤ d + fu → ∀ (x2 : Nat → Int32), x2 = againL K O T M (fromO Y (latO Y (nI y) nc)) (clrN g 8) d → ∀ (H : Heap) (locs : List Loc), va_P D vwCl [(z, .inr (4, [.int th, .ref m1, .ref m2, .ref m3, .ref m4, .ref m5, .ref m6, .ref m7, .int (nI n), .int (nI nc), .ref m8, .ref m9, .ref m10])), (m1, .inl (cI, 8, .inl f)), (m2, .inl (cI, 480, .inl K)), (m3, .inl (cI, 480, .inl (nF O))), (m4, .inl (cI, 480, .inl T)), (m5, .inl (cI, 41, .inl (nF M))), (m6, .inl (cI, 40, .inl Z)), (m7, .inl (cZ, 40, .inl (prF k))), (m8, .inl (cI, 6, .inl (nF Y))), (m9, .inl (cI, 48, .inl G)), (m10, .inl (cI, 8, .inl x2))] H → va_D A [(z, .inr (4, [.int th, .ref m1, .ref m2, .ref m3, .ref m4, .ref m5, .ref m6, .ref m7, .int (nI n), .int (nI nc), .ref m8, .ref m9, .ref m10])), (m1, .inl (cI, 8, .inl f)), (m2, .inl (cI, 480, .inl K)), (m3, .inl (cI, 480, .inl (nF O))), (m4, .inl (cI, 480, .inl T)), (m5, .inl (cI, 41, .inl (nF M))), (m6, .inl (cI, 40, .inl Z)), (m7, .inl (cZ, 40, .inl (prF k))), (m8, .inl (cI, 6, .inl (nF Y))), (m9, .inl (cI, 48, .inl G)), (m10, .inl (cI, 8, .inl x2))] → va_S A s.heap H locs → ∀ (ls : Array Slot), lv_has ls 5 [(3, .int (nI (fromO Y (latO Y (nI y) nc) + d))), (0, .ref z), (1, .int (nI y))] → W p l e rm_c_X4_replay_n s m args below meth c H locs 0 0 Qz (F0 m 51 ls []) := by
          intro fu
          induction fu with
          | zero => intro d h1_51 h2_51 h3_51; exact absurd h3_51 (by omega)
          | succ fu ih_51 =>
            intro d h1_51 h2_51 h3_51 x2 ex2 H locs hP hD hS ls hl
            subst ex2
            have hMd := hM ((fromO Y (latO Y (nI y) nc)) + d)
            refine lv_iload_n hx hb dX4_replay_51 rfl (lv_at hl 0 rfl) ?_
            refine lv_iload_n hx hb dX4_replay_52 rfl (lv_at hl 2 rfl) ?_
            refine k_icmp_ge hx hb (tgt := 100) (by omega) (by omega) dX4_replay_53 (by decide) (fun c_3 => ?_) (fun c_3 => ?_)
            · have e_4 : y - (fromO Y (latO Y (nI y) nc)) = d := by omega
              subst e_4
              exact kM_vret hx hb hr hlk hQ hP hD hK hS () rfl (Nat.le_of_ble_eq_true rfl) (Nat.le_of_ble_eq_true rfl) rfl trivial dX4_replay_100
            · refine lv_bipush (v := (nI 12)) hx hb dX4_replay_56 (by decide) ?_
              refine lv_iload_n hx hb dX4_replay_58 rfl (lv_at hl 0 rfl) ?_
              refine k_imul hx hb dX4_replay_59 ?_
              refine k_top (y := (nI ((fromO Y (latO Y (nI y) nc) + d) * 12))) (congrArg nI (Nat.mul_comm _ _)) ?_
              refine lv_istore (lv' := [(4, .int (nI ((fromO Y (latO Y (nI y) nc) + d) * 12))), (3, .int (nI (fromO Y (latO Y (nI y) nc) + d))), (0, .ref z), (1, .int (nI y))]) hx hb dX4_replay_60 hl (by decide) rfl (fun ls hl => ?_)
              have lp_62 : ∀ (fu e_ : Nat), 0 ≤ e_ → e_ ≤ M ((fromO Y (latO Y (nI y) nc)) + d) → (M ((fromO Y (latO Y (nI y) nc)) + d)) + 1 ≤ e_ + fu → ∀ (x3 : Nat → Int32), x3 = againN K O T ((fromO Y (latO Y (nI y) nc)) + d) (againL K O T M (fromO Y (latO Y (nI y) nc)) (clrN g 8) d) e_ → ∀ (H : Heap) (locs : List Loc), va_P D vwCl [(z, .inr (4, [.int th, .ref m1, .ref m2, .ref m3, .ref m4, .ref m5, .ref m6, .ref m7, .int (nI n), .int (nI nc), .ref m8, .ref m9, .ref m10])), (m1, .inl (cI, 8, .inl f)), (m2, .inl (cI, 480, .inl K)), (m3, .inl (cI, 480, .inl (nF O))), (m4, .inl (cI, 480, .inl T)), (m5, .inl (cI, 41, .inl (nF M))), (m6, .inl (cI, 40, .inl Z)), (m7, .inl (cZ, 40, .inl (prF k))), (m8, .inl (cI, 6, .inl (nF Y))), (m9, .inl (cI, 48, .inl G)), (m10, .inl (cI, 8, .inl x3))] H → va_D A [(z, .inr (4, [.int th, .ref m1, .ref m2, .ref m3, .ref m4, .ref m5, .ref m6, .ref m7, .int (nI n), .int (nI nc), .ref m8, .ref m9, .ref m10])), (m1, .inl (cI, 8, .inl f)), (m2, .inl (cI, 480, .inl K)), (m3, .inl (cI, 480, .inl (nF O))), (m4, .inl (cI, 480, .inl T)), (m5, .inl (cI, 41, .inl (nF M))), (m6, .inl (cI, 40, .inl Z)), (m7, .inl (cZ, 40, .inl (prF k))), (m8, .inl (cI, 6, .inl (nF Y))), (m9, .inl (cI, 48, .inl G)), (m10, .inl (cI, 8, .inl x3))] → va_S A s.heap H locs → ∀ (ls : Array Slot), lv_has ls 5 [(4, .int (nI (((fromO Y (latO Y (nI y) nc)) + d) * 12 + e_))), (3, .int (nI (fromO Y (latO Y (nI y) nc) + d))), (0, .ref z), (1, .int (nI y))] → W p l e rm_c_X4_replay_n s m args below meth c H locs 0 0 Qz (F0 m 62 ls []) := by
                intro fu
                induction fu with
                | zero => intro e_ h1_62 h2_62 h3_62; exact absurd h3_62 (by omega)
                | succ fu ih_62 =>
                  intro e_ h1_62 h2_62 h3_62 x3 ex3 H locs hP hD hS ls hl
                  subst ex3
                  refine lv_iload hx hb dX4_replay_62 (lv_at hl 0 rfl) ?_
                  refine lv_bipush (v := (nI 12)) hx hb dX4_replay_64 (by decide) ?_
                  refine lv_iload_n hx hb dX4_replay_66 rfl (lv_at hl 1 rfl) ?_
                  refine k_imul hx hb dX4_replay_67 ?_
                  refine k_top (y := (nI ((fromO Y (latO Y (nI y) nc) + d) * 12))) (congrArg nI (Nat.mul_comm _ _)) ?_
                  refine lv_aload_n hx hb dX4_replay_68 rfl (lv_at hl 2 rfl) ?_
                  refine va_get (D := D) (ci := 4) (v := .ref m5) (C := RX4) (T := TX4) (N := 13) hx hb hts iu_X4_replay_X4 hown hK hP 0 rfl rfl 5 (by decide) (hts _ (List.mem_of_getElem? (i := 3) rfl)) (fun _ h9 => h9) rfl dX4_replay_69 ?_
                  refine lv_iload_n hx hb dX4_replay_72 rfl (lv_at hl 1 rfl) ?_
                  refine k_iald hx hb hK hP 5 0 (i := (fromO Y (latO Y (nI y) nc) + d)) rfl rfl (by omega) (by decide) dX4_replay_73 ?_
                  refine k_top (y := (nI (M (fromO Y (latO Y (nI y) nc) + d)))) rfl ?_
                  refine k_iadd hx hb dX4_replay_74 ?_
                  refine k_icmp_ge hx hb (tgt := 94) (by omega) (by omega) dX4_replay_75 (by decide) (fun c_5 => ?_) (fun c_5 => ?_)
                  · have e_6 : M ((fromO Y (latO Y (nI y) nc)) + d) = e_ := by omega
                    subst e_6
                    refine lv_iinc (v := (nI ((fromO Y (latO Y (nI y) nc) + d) + 1))) (lv' := [(3, .int (nI ((fromO Y (latO Y (nI y) nc) + d) + 1))), (4, .int (nI (((fromO Y (latO Y (nI y) nc)) + d) * 12 + (M ((fromO Y (latO Y (nI y) nc)) + d))))), (0, .ref z), (1, .int (nI y))]) (k := 1) hx hb dX4_replay_94 hl rfl (nI_add (fromO Y (latO Y (nI y) nc) + d) 1) (by decide) rfl (fun ls hl => ?_)
                    refine lv_goto (tgt := 51) hx hb dX4_replay_97 (by decide) ?_
                    exact ih_51 (d + 1) (by omega) (by omega) (by omega) (againN K O T ((fromO Y (latO Y (nI y) nc)) + d) (againL K O T M (fromO Y (latO Y (nI y) nc)) (clrN g 8) d) (M ((fromO Y (latO Y (nI y) nc)) + d))) rfl _ _ hP hD hS ls (lv_sub hl [0, 2, 3] rfl)
                  · refine lv_aload_n hx hb dX4_replay_78 rfl (lv_at hl 2 rfl) ?_
                    refine lv_aload_n hx hb dX4_replay_79 rfl (lv_at hl 2 rfl) ?_
                    refine va_get (D := D) (ci := 4) (v := .ref m10) (C := RX4) (T := TX4) (N := 13) hx hb hts iu_X4_replay_X4 hown hK hP 0 rfl rfl 12 (by decide) (hts _ (List.mem_of_getElem? (i := 1) rfl)) (fun _ h9 => h9) rfl dX4_replay_80 ?_
                    refine lv_iload hx hb dX4_replay_83 (lv_at hl 0 rfl) ?_
                    refine kM_callV (As := [.ref m10, .int (nI (((fromO Y (latO Y (nI y) nc)) + d) * 12 + e_))]) (rest := []) (wr := [(m1, .inl (cI, 8, .inl f)), (m5, .inl (cI, 41, .inl (nF M))), (m6, .inl (cI, 40, .inl Z)), (m7, .inl (cZ, 40, .inl (prF k))), (m8, .inl (cI, 6, .inl (nF Y))), (m9, .inl (cI, 48, .inl G))]) (w2 := fun _ => [(z, .inr (4, [.int th, .ref m1, .ref m2, .ref m3, .ref m4, .ref m5, .ref m6, .ref m7, .int (nI n), .int (nI nc), .ref m8, .ref m9, .ref m10])), (m1, .inl (cI, 8, .inl f)), (m2, .inl (cI, 480, .inl K)), (m3, .inl (cI, 480, .inl (nF O))), (m4, .inl (cI, 480, .inl T)), (m5, .inl (cI, 41, .inl (nF M))), (m6, .inl (cI, 40, .inl Z)), (m7, .inl (cZ, 40, .inl (prF k))), (m8, .inl (cI, 6, .inl (nF Y))), (m9, .inl (cI, 48, .inl G)), (m10, .inl (cI, 8, .inl (perf (againN K O T ((fromO Y (latO Y (nI y) nc)) + d) (againL K O T M (fromO Y (latO Y (nI y) nc)) (clrN g 8) d) e_) (K (((fromO Y (latO Y (nI y) nc)) + d) * 12 + e_)) (O (((fromO Y (latO Y (nI y) nc)) + d) * 12 + e_)) (T (((fromO Y (latO Y (nI y) nc)) + d) * 12 + e_)))))]) (st2 := fun _ => []) (k := 0) (n2 := 0) ⟨hx, hb, hml, hown, hts⟩ (c_X4_work l D cI cZ z m1 m2 m3 m4 m5 m6 m7 m8 m9 m10 m10 th K O T n nc (againN K O T ((fromO Y (latO Y (nI y) nc)) + d) (againL K O T M (fromO Y (latO Y (nI y) nc)) (clrN g 8) d) e_) (((fromO Y (latO Y (nI y) nc)) + d) * 12 + e_) (by omega) hO) (cwV 2 hts gX4_replay_X4_work rfl rfl rfl (by decide +kernel) ⟨Nat.le_of_ble_eq_true rfl, Nat.le_of_ble_eq_true rfl⟩) 0 rfl rfl rfl [0, 1] rfl hK hP hD hS hA [0, 2, 3, 4, 10] [1, 5, 6, 7, 8, 9] rfl (by decide) rfl (by decide) (by decide) [6, 0, 7, 8, 9, 1, 2, 3, 4, 5, 10] (by decide) (fun _ => rfl) (Nat.le_refl _) (Nat.le_refl _) (Nat.le_of_ble_eq_true rfl) (Nat.le_of_ble_eq_true rfl) rfl hl.1 (Nat.le_of_ble_eq_true rfl) (fun _ => rfl) rfl dX4_replay_85 (fun u H locs hu hP hD hS => ?_)
                    refine lv_iinc (v := (nI ((((fromO Y (latO Y (nI y) nc)) + d) * 12 + e_) + 1))) (lv' := [(4, .int (nI ((((fromO Y (latO Y (nI y) nc)) + d) * 12 + e_) + 1))), (3, .int (nI (fromO Y (latO Y (nI y) nc) + d))), (0, .ref z), (1, .int (nI y))]) (k := 0) hx hb dX4_replay_88 hl rfl (nI_add (((fromO Y (latO Y (nI y) nc)) + d) * 12 + e_) 1) (by decide) rfl (fun ls hl => ?_)
                    refine lv_goto (tgt := 62) hx hb dX4_replay_91 (by decide) ?_
                    exact ih_62 (e_ + 1) (by omega) (by omega) (by omega) (perf (againN K O T ((fromO Y (latO Y (nI y) nc)) + d) (againL K O T M (fromO Y (latO Y (nI y) nc)) (clrN g 8) d) e_) (K (((fromO Y (latO Y (nI y) nc)) + d) * 12 + e_)) (O (((fromO Y (latO Y (nI y) nc)) + d) * 12 + e_)) (T (((fromO Y (latO Y (nI y) nc)) + d) * 12 + e_))) rfl _ _ hP hD hS ls (lv_sub hl [0, 1, 2, 3] rfl)
              exact lp_62 ((M ((fromO Y (latO Y (nI y) nc)) + d)) + 1) 0 (by omega) (by omega) (by omega) (againL K O T M (fromO Y (latO Y (nI y) nc)) (clrN g 8) d) rfl _ _ hP hD hS ls (lv_sub hl [0, 1, 2, 3] rfl)
        exact lp_51 ((y - (fromO Y (latO Y (nI y) nc))) + 1) 0 (by omega) (by omega) (by omega) (clrN g 8) rfl _ _ hP hD hS ls (lv_sub hl [0, 2, 3] rfl)
      · refine lv_aload_n hx hb dX4_replay_14 rfl (lv_at hl 2 rfl) ?_
        refine va_get (D := D) (ci := 4) (v := .ref m10) (C := RX4) (T := TX4) (N := 13) hx hb hts iu_X4_replay_X4 hown hK hP 0 rfl rfl 12 (by decide) (hts _ (List.mem_of_getElem? (i := 1) rfl)) (fun _ h9 => h9) rfl dX4_replay_15 ?_
        refine lv_iload_n hx hb dX4_replay_18 rfl (lv_at hl 0 rfl) ?_
        refine lv_iload_n hx hb dX4_replay_19 rfl (lv_at hl 1 rfl) ?_
        refine lv_if_ge hx hb (tgt := 27) dX4_replay_20 (by decide) (fun h => absurd h (by decide)) (fun c_7 => ?_)
        refine lv_iconst (v := (nI 0)) hx hb dX4_replay_23 (by decide) ?_
        refine lv_goto (tgt := 38) hx hb dX4_replay_24 (by decide) ?_
        refine k_iast (w2 := [(z, .inr (4, [.int th, .ref m1, .ref m2, .ref m3, .ref m4, .ref m5, .ref m6, .ref m7, .int (nI n), .int (nI nc), .ref m8, .ref m9, .ref m10])), (m1, .inl (cI, 8, .inl f)), (m2, .inl (cI, 480, .inl K)), (m3, .inl (cI, 480, .inl (nF O))), (m4, .inl (cI, 480, .inl T)), (m5, .inl (cI, 41, .inl (nF M))), (m6, .inl (cI, 40, .inl Z)), (m7, .inl (cZ, 40, .inl (prF k))), (m8, .inl (cI, 6, .inl (nF Y))), (m9, .inl (cI, 48, .inl G)), (m10, .inl (cI, 8, .inl (upd (clrN g i) i (nI 0))))]) hx hb hK hP hD hS 10 0 (i := i) rfl rfl (by omega) (by decide) dX4_replay_38 (g := upd (clrN g i) i (nI 0)) rfl rfl (fun H locs hP hD hS => ?_)
        refine lv_iinc (v := (nI (i + 1))) (lv' := [(3, .int (nI (i + 1))), (2, .int (-1)), (0, .ref z), (1, .int (nI y))]) (k := 0) hx hb dX4_replay_39 hl rfl (nI_add i 1) (by decide) rfl (fun ls hl => ?_)
        refine lv_goto (tgt := 8) hx hb dX4_replay_42 (by decide) ?_
        exact ih_8 (i + 1) (by omega) (by omega) (by omega) (upd (clrN g i) i (nI 0)) rfl _ _ hP hD hS ls (lv_sub hl [0, 1, 2, 3] rfl)
  exact lp_8 (8 + 1) 0 (by omega) (by omega) (by omega) g rfl _ _ hP hD hS ls (lv_sub hl [0, 1, 2, 3] rfl)
def rm_c_X4_replay_s : Room := { frames := 2, cells := 0, slots := 0, locals := 48 }
set_option maxHeartbeats 4000000 in
set_option maxRecDepth 100000 in
theorem c_X4_replay_s (l : Launch) (D : va_G) (cI : ClassId) (cZ : ClassId) (z m1 m2 m3 m4 m5 m6 m7 m8 m9 m10 : Nat) (th : Int32) (f K : Nat → Int32) (O : Nat → Nat) (T : Nat → Int32) (M : Nat → Nat) (Z : Nat → Int32) (k n nc : Nat) (Y : Nat → Nat) (G g : Nat → Int32) (y : Nat) (j : Nat) (hn : n ≤ 40) (hk : k ≤ n) (hc : nc ≤ 6) (hM : ∀ i, M i ≤ 12) (hO : ∀ i, O i < 8) (hY : ∀ i, Y i ≤ 40) (hy : y ≤ n) (hl0 : latO Y (nI y) nc = some j) :
    kM l yX4_replay wsX4_replay rm_c_X4_replay_s D [(cI, FieldType.int), (cZ, FieldType.boolean)] [.ref z, .int (nI y)] [(z, .inr (4, [.int th, .ref m1, .ref m2, .ref m3, .ref m4, .ref m5, .ref m6, .ref m7, .int (nI n), .int (nI nc), .ref m8, .ref m9, .ref m10])), (m1, .inl (cI, 8, .inl f)), (m2, .inl (cI, 480, .inl K)), (m3, .inl (cI, 480, .inl (nF O))), (m4, .inl (cI, 480, .inl T)), (m5, .inl (cI, 41, .inl (nF M))), (m6, .inl (cI, 40, .inl Z)), (m7, .inl (cZ, 40, .inl (prF k))), (m8, .inl (cI, 6, .inl (nF Y))), (m9, .inl (cI, 48, .inl G)), (m10, .inl (cI, 8, .inl g))] (fun _ : Unit => True) (fun _ => none) (fun _ => [(z, .inr (4, [.int th, .ref m1, .ref m2, .ref m3, .ref m4, .ref m5, .ref m6, .ref m7, .int (nI n), .int (nI nc), .ref m8, .ref m9, .ref m10])), (m1, .inl (cI, 8, .inl f)), (m2, .inl (cI, 480, .inl K)), (m3, .inl (cI, 480, .inl (nF O))), (m4, .inl (cI, 480, .inl T)), (m5, .inl (cI, 41, .inl (nF M))), (m6, .inl (cI, 40, .inl Z)), (m7, .inl (cZ, 40, .inl (prF k))), (m8, .inl (cI, 6, .inl (nF Y))), (m9, .inl (cI, 48, .inl G)), (m10, .inl (cI, 8, .inl (againL K O T M (fromO Y (latO Y (nI y) nc)) (pbN G j g 8) (y - (fromO Y (latO Y (nI y) nc))))))]) := by
  refine kM_of (cc := cX4_replay) (maxL := 5) (ret := none) (own := RX4) (by decide) rfl rfl (Nat.le_of_ble_eq_true rfl) ?_
  intro p e s m args below meth c A ls Qz hx hb hml hr hts hown hlk hin hQ hA hS hP hD hK hl
  have hl : lv_has ls 5 [(0, .ref z), (1, .int (nI y))] := hl
  have hfr := fromO_le (latO Y (nI y) nc) hY
  have hj := lat_lt hl0
  refine lv_aload_n hx hb dX4_replay_0 rfl (lv_at hl 0 rfl) ?_
  refine lv_iload_n hx hb dX4_replay_1 rfl (lv_at hl 1 rfl) ?_
  refine kM_callV (As := [.int (nI y)]) (rest := []) (wr := []) (w2 := fun _ => [(z, .inr (4, [.int th, .ref m1, .ref m2, .ref m3, .ref m4, .ref m5, .ref m6, .ref m7, .int (nI n), .int (nI nc), .ref m8, .ref m9, .ref m10])), (m1, .inl (cI, 8, .inl f)), (m2, .inl (cI, 480, .inl K)), (m3, .inl (cI, 480, .inl (nF O))), (m4, .inl (cI, 480, .inl T)), (m5, .inl (cI, 41, .inl (nF M))), (m6, .inl (cI, 40, .inl Z)), (m7, .inl (cZ, 40, .inl (prF k))), (m8, .inl (cI, 6, .inl (nF Y))), (m9, .inl (cI, 48, .inl G)), (m10, .inl (cI, 8, .inl g))]) (st2 := fun _ => [.int (nI j)]) (k := 0) (n2 := 0) ⟨hx, hb, hml, hown, hts⟩ (c_X4_before_s l D cI cZ z m1 m2 m3 m4 m5 m6 m7 m8 m9 m10 th f K O T M Z k n nc Y G g (nI y) j hn hk hc hM hO hY hl0) (cwV 1 hts gX4_replay_X4_before rfl rfl rfl (by decide +kernel) ⟨Nat.le_of_ble_eq_true rfl, Nat.le_of_ble_eq_true rfl⟩) 0 rfl rfl rfl [0, 1] rfl hK hP hD hS hA [0, 1, 2, 3, 4, 5, 6, 7, 8, 9, 10] [] rfl (by decide) rfl (by decide) (by decide) [0, 1, 2, 3, 4, 5, 6, 7, 8, 9, 10] (by decide) (fun _ => rfl) (Nat.le_refl _) (Nat.le_refl _) (Nat.le_of_ble_eq_true rfl) (Nat.le_of_ble_eq_true rfl) rfl hl.1 (Nat.le_of_ble_eq_true rfl) (fun _ => rfl) rfl dX4_replay_2 (fun u H locs hu hP hD hS => ?_)
  refine lv_istore_n (lv' := [(2, .int (nI j)), (0, .ref z), (1, .int (nI y))]) hx hb dX4_replay_5 rfl hl (by decide) rfl (fun ls hl => ?_)
  refine lv_iconst (v := (nI 0)) hx hb dX4_replay_6 (by decide) ?_
  refine lv_istore_n (lv' := [(3, .int (nI 0)), (2, .int (nI j)), (0, .ref z), (1, .int (nI y))]) hx hb dX4_replay_7 rfl hl (by decide) rfl (fun ls hl => ?_)
  have lp_8 : ∀ (fu i : Nat), 0 ≤ i → i ≤ 8 → 8 + 1 ≤ i + fu → ∀ (x1 : Nat → Int32), x1 = pbN G j g i → ∀ (H : Heap) (locs : List Loc), va_P D vwCl [(z, .inr (4, [.int th, .ref m1, .ref m2, .ref m3, .ref m4, .ref m5, .ref m6, .ref m7, .int (nI n), .int (nI nc), .ref m8, .ref m9, .ref m10])), (m1, .inl (cI, 8, .inl f)), (m2, .inl (cI, 480, .inl K)), (m3, .inl (cI, 480, .inl (nF O))), (m4, .inl (cI, 480, .inl T)), (m5, .inl (cI, 41, .inl (nF M))), (m6, .inl (cI, 40, .inl Z)), (m7, .inl (cZ, 40, .inl (prF k))), (m8, .inl (cI, 6, .inl (nF Y))), (m9, .inl (cI, 48, .inl G)), (m10, .inl (cI, 8, .inl x1))] H → va_D A [(z, .inr (4, [.int th, .ref m1, .ref m2, .ref m3, .ref m4, .ref m5, .ref m6, .ref m7, .int (nI n), .int (nI nc), .ref m8, .ref m9, .ref m10])), (m1, .inl (cI, 8, .inl f)), (m2, .inl (cI, 480, .inl K)), (m3, .inl (cI, 480, .inl (nF O))), (m4, .inl (cI, 480, .inl T)), (m5, .inl (cI, 41, .inl (nF M))), (m6, .inl (cI, 40, .inl Z)), (m7, .inl (cZ, 40, .inl (prF k))), (m8, .inl (cI, 6, .inl (nF Y))), (m9, .inl (cI, 48, .inl G)), (m10, .inl (cI, 8, .inl x1))] → va_S A s.heap H locs → ∀ (ls : Array Slot), lv_has ls 5 [(3, .int (nI i)), (2, .int (nI j)), (0, .ref z), (1, .int (nI y))] → W p l e rm_c_X4_replay_s s m args below meth c H locs 0 0 Qz (F0 m 8 ls []) := by
    intro fu
    induction fu with
    | zero => intro i h1_8 h2_8 h3_8; exact absurd h3_8 (by omega)
    | succ fu ih_8 =>
      intro i h1_8 h2_8 h3_8 x1 ex1 H locs hP hD hS ls hl
      subst ex1
      refine lv_iload_n hx hb dX4_replay_8 rfl (lv_at hl 0 rfl) ?_
      refine lv_bipush (v := (nI 8)) hx hb dX4_replay_9 (by decide) ?_
      refine k_icmp_ge hx hb (tgt := 45) (by omega) (by decide) dX4_replay_11 (by decide) (fun c_1 => ?_) (fun c_1 => ?_)
      · have e_2 : 8 = i := by omega
        subst e_2
        refine lv_aload_n hx hb dX4_replay_45 rfl (lv_at hl 2 rfl) ?_
        refine lv_iload_n hx hb dX4_replay_46 rfl (lv_at hl 3 rfl) ?_
        refine kM_callV (As := [.int (nI y)]) (rest := []) (wr := []) (w2 := fun _ => [(z, .inr (4, [.int th, .ref m1, .ref m2, .ref m3, .ref m4, .ref m5, .ref m6, .ref m7, .int (nI n), .int (nI nc), .ref m8, .ref m9, .ref m10])), (m1, .inl (cI, 8, .inl f)), (m2, .inl (cI, 480, .inl K)), (m3, .inl (cI, 480, .inl (nF O))), (m4, .inl (cI, 480, .inl T)), (m5, .inl (cI, 41, .inl (nF M))), (m6, .inl (cI, 40, .inl Z)), (m7, .inl (cZ, 40, .inl (prF k))), (m8, .inl (cI, 6, .inl (nF Y))), (m9, .inl (cI, 48, .inl G)), (m10, .inl (cI, 8, .inl (pbN G j g 8)))]) (st2 := fun _ => [.int (nI (fromO Y (latO Y (nI y) nc)))]) (k := 0) (n2 := 0) ⟨hx, hb, hml, hown, hts⟩ (c_X4_from l D cI cZ z m1 m2 m3 m4 m5 m6 m7 m8 m9 m10 th f K O T M Z k n nc Y G (pbN G j g 8) y hn hk hc hM hO hY) (cwV 1 hts gX4_replay_X4_from rfl rfl rfl (by decide +kernel) ⟨Nat.le_of_ble_eq_true rfl, Nat.le_of_ble_eq_true rfl⟩) 0 rfl rfl rfl [0, 1] rfl hK hP hD hS hA [0, 1, 2, 3, 4, 5, 6, 7, 8, 9, 10] [] rfl (by decide) rfl (by decide) (by decide) [0, 1, 2, 3, 4, 5, 6, 7, 8, 9, 10] (by decide) (fun _ => rfl) (Nat.le_refl _) (Nat.le_refl _) (Nat.le_of_ble_eq_true rfl) (Nat.le_of_ble_eq_true rfl) rfl hl.1 (Nat.le_of_ble_eq_true rfl) (fun _ => rfl) rfl dX4_replay_47 (fun u H locs hu hP hD hS => ?_)
        refine lv_istore_n (lv' := [(3, .int (nI (fromO Y (latO Y (nI y) nc)))), (2, .int (nI j)), (0, .ref z), (1, .int (nI y))]) hx hb dX4_replay_50 rfl hl (by decide) rfl (fun ls hl => ?_)
        have lp_51 : ∀ (fu d : Nat), 0 ≤ d → d ≤ y - (fromO Y (latO Y (nI y) nc)) → (y - (fromO Y (latO Y (nI y) nc))) + 1 ≤ d + fu → ∀ (x2 : Nat → Int32), x2 = againL K O T M (fromO Y (latO Y (nI y) nc)) (pbN G j g 8) d → ∀ (H : Heap) (locs : List Loc), va_P D vwCl [(z, .inr (4, [.int th, .ref m1, .ref m2, .ref m3, .ref m4, .ref m5, .ref m6, .ref m7, .int (nI n), .int (nI nc), .ref m8, .ref m9, .ref m10])), (m1, .inl (cI, 8, .inl f)), (m2, .inl (cI, 480, .inl K)), (m3, .inl (cI, 480, .inl (nF O))), (m4, .inl (cI, 480, .inl T)), (m5, .inl (cI, 41, .inl (nF M))), (m6, .inl (cI, 40, .inl Z)), (m7, .inl (cZ, 40, .inl (prF k))), (m8, .inl (cI, 6, .inl (nF Y))), (m9, .inl (cI, 48, .inl G)), (m10, .inl (cI, 8, .inl x2))] H → va_D A [(z, .inr (4, [.int th, .ref m1, .ref m2, .ref m3, .ref m4, .ref m5, .ref m6, .ref m7, .int (nI n), .int (nI nc), .ref m8, .ref m9, .ref m10])), (m1, .inl (cI, 8, .inl f)), (m2, .inl (cI, 480, .inl K)), (m3, .inl (cI, 480, .inl (nF O))), (m4, .inl (cI, 480, .inl T)), (m5, .inl (cI, 41, .inl (nF M))), (m6, .inl (cI, 40, .inl Z)), (m7, .inl (cZ, 40, .inl (prF k))), (m8, .inl (cI, 6, .inl (nF Y))), (m9, .inl (cI, 48, .inl G)), (m10, .inl (cI, 8, .inl x2))] → va_S A s.heap H locs → ∀ (ls : Array Slot), lv_has ls 5 [(3, .int (nI (fromO Y (latO Y (nI y) nc) + d))), (0, .ref z), (1, .int (nI y))] → W p l e rm_c_X4_replay_s s m args below meth c H locs 0 0 Qz (F0 m 51 ls []) := by
          intro fu
          induction fu with
          | zero => intro d h1_51 h2_51 h3_51; exact absurd h3_51 (by omega)
          | succ fu ih_51 =>
            intro d h1_51 h2_51 h3_51 x2 ex2 H locs hP hD hS ls hl
            subst ex2
            have hMd := hM ((fromO Y (latO Y (nI y) nc)) + d)
            refine lv_iload_n hx hb dX4_replay_51 rfl (lv_at hl 0 rfl) ?_
            refine lv_iload_n hx hb dX4_replay_52 rfl (lv_at hl 2 rfl) ?_
            refine k_icmp_ge hx hb (tgt := 100) (by omega) (by omega) dX4_replay_53 (by decide) (fun c_3 => ?_) (fun c_3 => ?_)
            · have e_4 : y - (fromO Y (latO Y (nI y) nc)) = d := by omega
              subst e_4
              exact kM_vret hx hb hr hlk hQ hP hD hK hS () rfl (Nat.le_of_ble_eq_true rfl) (Nat.le_of_ble_eq_true rfl) rfl trivial dX4_replay_100
            · refine lv_bipush (v := (nI 12)) hx hb dX4_replay_56 (by decide) ?_
              refine lv_iload_n hx hb dX4_replay_58 rfl (lv_at hl 0 rfl) ?_
              refine k_imul hx hb dX4_replay_59 ?_
              refine k_top (y := (nI ((fromO Y (latO Y (nI y) nc) + d) * 12))) (congrArg nI (Nat.mul_comm _ _)) ?_
              refine lv_istore (lv' := [(4, .int (nI ((fromO Y (latO Y (nI y) nc) + d) * 12))), (3, .int (nI (fromO Y (latO Y (nI y) nc) + d))), (0, .ref z), (1, .int (nI y))]) hx hb dX4_replay_60 hl (by decide) rfl (fun ls hl => ?_)
              have lp_62 : ∀ (fu e_ : Nat), 0 ≤ e_ → e_ ≤ M ((fromO Y (latO Y (nI y) nc)) + d) → (M ((fromO Y (latO Y (nI y) nc)) + d)) + 1 ≤ e_ + fu → ∀ (x3 : Nat → Int32), x3 = againN K O T ((fromO Y (latO Y (nI y) nc)) + d) (againL K O T M (fromO Y (latO Y (nI y) nc)) (pbN G j g 8) d) e_ → ∀ (H : Heap) (locs : List Loc), va_P D vwCl [(z, .inr (4, [.int th, .ref m1, .ref m2, .ref m3, .ref m4, .ref m5, .ref m6, .ref m7, .int (nI n), .int (nI nc), .ref m8, .ref m9, .ref m10])), (m1, .inl (cI, 8, .inl f)), (m2, .inl (cI, 480, .inl K)), (m3, .inl (cI, 480, .inl (nF O))), (m4, .inl (cI, 480, .inl T)), (m5, .inl (cI, 41, .inl (nF M))), (m6, .inl (cI, 40, .inl Z)), (m7, .inl (cZ, 40, .inl (prF k))), (m8, .inl (cI, 6, .inl (nF Y))), (m9, .inl (cI, 48, .inl G)), (m10, .inl (cI, 8, .inl x3))] H → va_D A [(z, .inr (4, [.int th, .ref m1, .ref m2, .ref m3, .ref m4, .ref m5, .ref m6, .ref m7, .int (nI n), .int (nI nc), .ref m8, .ref m9, .ref m10])), (m1, .inl (cI, 8, .inl f)), (m2, .inl (cI, 480, .inl K)), (m3, .inl (cI, 480, .inl (nF O))), (m4, .inl (cI, 480, .inl T)), (m5, .inl (cI, 41, .inl (nF M))), (m6, .inl (cI, 40, .inl Z)), (m7, .inl (cZ, 40, .inl (prF k))), (m8, .inl (cI, 6, .inl (nF Y))), (m9, .inl (cI, 48, .inl G)), (m10, .inl (cI, 8, .inl x3))] → va_S A s.heap H locs → ∀ (ls : Array Slot), lv_has ls 5 [(4, .int (nI (((fromO Y (latO Y (nI y) nc)) + d) * 12 + e_))), (3, .int (nI (fromO Y (latO Y (nI y) nc) + d))), (0, .ref z), (1, .int (nI y))] → W p l e rm_c_X4_replay_s s m args below meth c H locs 0 0 Qz (F0 m 62 ls []) := by
                intro fu
                induction fu with
                | zero => intro e_ h1_62 h2_62 h3_62; exact absurd h3_62 (by omega)
                | succ fu ih_62 =>
                  intro e_ h1_62 h2_62 h3_62 x3 ex3 H locs hP hD hS ls hl
                  subst ex3
                  refine lv_iload hx hb dX4_replay_62 (lv_at hl 0 rfl) ?_
                  refine lv_bipush (v := (nI 12)) hx hb dX4_replay_64 (by decide) ?_
                  refine lv_iload_n hx hb dX4_replay_66 rfl (lv_at hl 1 rfl) ?_
                  refine k_imul hx hb dX4_replay_67 ?_
                  refine k_top (y := (nI ((fromO Y (latO Y (nI y) nc) + d) * 12))) (congrArg nI (Nat.mul_comm _ _)) ?_
                  refine lv_aload_n hx hb dX4_replay_68 rfl (lv_at hl 2 rfl) ?_
                  refine va_get (D := D) (ci := 4) (v := .ref m5) (C := RX4) (T := TX4) (N := 13) hx hb hts iu_X4_replay_X4 hown hK hP 0 rfl rfl 5 (by decide) (hts _ (List.mem_of_getElem? (i := 3) rfl)) (fun _ h9 => h9) rfl dX4_replay_69 ?_
                  refine lv_iload_n hx hb dX4_replay_72 rfl (lv_at hl 1 rfl) ?_
                  refine k_iald hx hb hK hP 5 0 (i := (fromO Y (latO Y (nI y) nc) + d)) rfl rfl (by omega) (by decide) dX4_replay_73 ?_
                  refine k_top (y := (nI (M (fromO Y (latO Y (nI y) nc) + d)))) rfl ?_
                  refine k_iadd hx hb dX4_replay_74 ?_
                  refine k_icmp_ge hx hb (tgt := 94) (by omega) (by omega) dX4_replay_75 (by decide) (fun c_5 => ?_) (fun c_5 => ?_)
                  · have e_6 : M ((fromO Y (latO Y (nI y) nc)) + d) = e_ := by omega
                    subst e_6
                    refine lv_iinc (v := (nI ((fromO Y (latO Y (nI y) nc) + d) + 1))) (lv' := [(3, .int (nI ((fromO Y (latO Y (nI y) nc) + d) + 1))), (4, .int (nI (((fromO Y (latO Y (nI y) nc)) + d) * 12 + (M ((fromO Y (latO Y (nI y) nc)) + d))))), (0, .ref z), (1, .int (nI y))]) (k := 1) hx hb dX4_replay_94 hl rfl (nI_add (fromO Y (latO Y (nI y) nc) + d) 1) (by decide) rfl (fun ls hl => ?_)
                    refine lv_goto (tgt := 51) hx hb dX4_replay_97 (by decide) ?_
                    exact ih_51 (d + 1) (by omega) (by omega) (by omega) (againN K O T ((fromO Y (latO Y (nI y) nc)) + d) (againL K O T M (fromO Y (latO Y (nI y) nc)) (pbN G j g 8) d) (M ((fromO Y (latO Y (nI y) nc)) + d))) rfl _ _ hP hD hS ls (lv_sub hl [0, 2, 3] rfl)
                  · refine lv_aload_n hx hb dX4_replay_78 rfl (lv_at hl 2 rfl) ?_
                    refine lv_aload_n hx hb dX4_replay_79 rfl (lv_at hl 2 rfl) ?_
                    refine va_get (D := D) (ci := 4) (v := .ref m10) (C := RX4) (T := TX4) (N := 13) hx hb hts iu_X4_replay_X4 hown hK hP 0 rfl rfl 12 (by decide) (hts _ (List.mem_of_getElem? (i := 1) rfl)) (fun _ h9 => h9) rfl dX4_replay_80 ?_
                    refine lv_iload hx hb dX4_replay_83 (lv_at hl 0 rfl) ?_
                    refine kM_callV (As := [.ref m10, .int (nI (((fromO Y (latO Y (nI y) nc)) + d) * 12 + e_))]) (rest := []) (wr := [(m1, .inl (cI, 8, .inl f)), (m5, .inl (cI, 41, .inl (nF M))), (m6, .inl (cI, 40, .inl Z)), (m7, .inl (cZ, 40, .inl (prF k))), (m8, .inl (cI, 6, .inl (nF Y))), (m9, .inl (cI, 48, .inl G))]) (w2 := fun _ => [(z, .inr (4, [.int th, .ref m1, .ref m2, .ref m3, .ref m4, .ref m5, .ref m6, .ref m7, .int (nI n), .int (nI nc), .ref m8, .ref m9, .ref m10])), (m1, .inl (cI, 8, .inl f)), (m2, .inl (cI, 480, .inl K)), (m3, .inl (cI, 480, .inl (nF O))), (m4, .inl (cI, 480, .inl T)), (m5, .inl (cI, 41, .inl (nF M))), (m6, .inl (cI, 40, .inl Z)), (m7, .inl (cZ, 40, .inl (prF k))), (m8, .inl (cI, 6, .inl (nF Y))), (m9, .inl (cI, 48, .inl G)), (m10, .inl (cI, 8, .inl (perf (againN K O T ((fromO Y (latO Y (nI y) nc)) + d) (againL K O T M (fromO Y (latO Y (nI y) nc)) (pbN G j g 8) d) e_) (K (((fromO Y (latO Y (nI y) nc)) + d) * 12 + e_)) (O (((fromO Y (latO Y (nI y) nc)) + d) * 12 + e_)) (T (((fromO Y (latO Y (nI y) nc)) + d) * 12 + e_)))))]) (st2 := fun _ => []) (k := 0) (n2 := 0) ⟨hx, hb, hml, hown, hts⟩ (c_X4_work l D cI cZ z m1 m2 m3 m4 m5 m6 m7 m8 m9 m10 m10 th K O T n nc (againN K O T ((fromO Y (latO Y (nI y) nc)) + d) (againL K O T M (fromO Y (latO Y (nI y) nc)) (pbN G j g 8) d) e_) (((fromO Y (latO Y (nI y) nc)) + d) * 12 + e_) (by omega) hO) (cwV 2 hts gX4_replay_X4_work rfl rfl rfl (by decide +kernel) ⟨Nat.le_of_ble_eq_true rfl, Nat.le_of_ble_eq_true rfl⟩) 0 rfl rfl rfl [0, 1] rfl hK hP hD hS hA [0, 2, 3, 4, 10] [1, 5, 6, 7, 8, 9] rfl (by decide) rfl (by decide) (by decide) [6, 0, 7, 8, 9, 1, 2, 3, 4, 5, 10] (by decide) (fun _ => rfl) (Nat.le_refl _) (Nat.le_refl _) (Nat.le_of_ble_eq_true rfl) (Nat.le_of_ble_eq_true rfl) rfl hl.1 (Nat.le_of_ble_eq_true rfl) (fun _ => rfl) rfl dX4_replay_85 (fun u H locs hu hP hD hS => ?_)
                    refine lv_iinc (v := (nI ((((fromO Y (latO Y (nI y) nc)) + d) * 12 + e_) + 1))) (lv' := [(4, .int (nI ((((fromO Y (latO Y (nI y) nc)) + d) * 12 + e_) + 1))), (3, .int (nI (fromO Y (latO Y (nI y) nc) + d))), (0, .ref z), (1, .int (nI y))]) (k := 0) hx hb dX4_replay_88 hl rfl (nI_add (((fromO Y (latO Y (nI y) nc)) + d) * 12 + e_) 1) (by decide) rfl (fun ls hl => ?_)
                    refine lv_goto (tgt := 62) hx hb dX4_replay_91 (by decide) ?_
                    exact ih_62 (e_ + 1) (by omega) (by omega) (by omega) (perf (againN K O T ((fromO Y (latO Y (nI y) nc)) + d) (againL K O T M (fromO Y (latO Y (nI y) nc)) (pbN G j g 8) d) e_) (K (((fromO Y (latO Y (nI y) nc)) + d) * 12 + e_)) (O (((fromO Y (latO Y (nI y) nc)) + d) * 12 + e_)) (T (((fromO Y (latO Y (nI y) nc)) + d) * 12 + e_))) rfl _ _ hP hD hS ls (lv_sub hl [0, 1, 2, 3] rfl)
              exact lp_62 ((M ((fromO Y (latO Y (nI y) nc)) + d)) + 1) 0 (by omega) (by omega) (by omega) (againL K O T M (fromO Y (latO Y (nI y) nc)) (pbN G j g 8) d) rfl _ _ hP hD hS ls (lv_sub hl [0, 1, 2, 3] rfl)
        exact lp_51 ((y - (fromO Y (latO Y (nI y) nc))) + 1) 0 (by omega) (by omega) (by omega) (pbN G j g 8) rfl _ _ hP hD hS ls (lv_sub hl [0, 2, 3] rfl)
      · refine lv_aload_n hx hb dX4_replay_14 rfl (lv_at hl 2 rfl) ?_
        refine va_get (D := D) (ci := 4) (v := .ref m10) (C := RX4) (T := TX4) (N := 13) hx hb hts iu_X4_replay_X4 hown hK hP 0 rfl rfl 12 (by decide) (hts _ (List.mem_of_getElem? (i := 1) rfl)) (fun _ h9 => h9) rfl dX4_replay_15 ?_
        refine lv_iload_n hx hb dX4_replay_18 rfl (lv_at hl 0 rfl) ?_
        refine lv_iload_n hx hb dX4_replay_19 rfl (lv_at hl 1 rfl) ?_
        refine k_if_ge hx hb (tgt := 27) (by omega) dX4_replay_20 (by decide) (fun _ => ?_) (fun h => h.elim)
        refine lv_aload_n hx hb dX4_replay_27 rfl (lv_at hl 2 rfl) ?_
        refine va_get (D := D) (ci := 4) (v := .ref m9) (C := RX4) (T := TX4) (N := 13) hx hb hts iu_X4_replay_X4 hown hK hP 0 rfl rfl 11 (by decide) (hts _ (List.mem_of_getElem? (i := 2) rfl)) (fun _ h9 => h9) rfl dX4_replay_28 ?_
        refine lv_bipush (v := (nI 8)) hx hb dX4_replay_31 (by decide) ?_
        refine lv_iload_n hx hb dX4_replay_33 rfl (lv_at hl 1 rfl) ?_
        refine k_imul hx hb dX4_replay_34 ?_
        refine k_top (y := (nI (j * 8))) (congrArg nI (Nat.mul_comm _ _)) ?_
        refine lv_iload_n hx hb dX4_replay_35 rfl (lv_at hl 0 rfl) ?_
        refine k_iadd hx hb dX4_replay_36 ?_
        refine k_iald hx hb hK hP 9 0 (i := ((j * 8) + i)) rfl rfl (by omega) (by decide) dX4_replay_37 ?_
        refine k_iast (w2 := [(z, .inr (4, [.int th, .ref m1, .ref m2, .ref m3, .ref m4, .ref m5, .ref m6, .ref m7, .int (nI n), .int (nI nc), .ref m8, .ref m9, .ref m10])), (m1, .inl (cI, 8, .inl f)), (m2, .inl (cI, 480, .inl K)), (m3, .inl (cI, 480, .inl (nF O))), (m4, .inl (cI, 480, .inl T)), (m5, .inl (cI, 41, .inl (nF M))), (m6, .inl (cI, 40, .inl Z)), (m7, .inl (cZ, 40, .inl (prF k))), (m8, .inl (cI, 6, .inl (nF Y))), (m9, .inl (cI, 48, .inl G)), (m10, .inl (cI, 8, .inl (upd (pbN G j g i) i (G ((j * 8) + i)))))]) hx hb hK hP hD hS 10 0 (i := i) rfl rfl (by omega) (by decide) dX4_replay_38 (g := upd (pbN G j g i) i (G ((j * 8) + i))) rfl rfl (fun H locs hP hD hS => ?_)
        refine lv_iinc (v := (nI (i + 1))) (lv' := [(3, .int (nI (i + 1))), (2, .int (nI j)), (0, .ref z), (1, .int (nI y))]) (k := 0) hx hb dX4_replay_39 hl rfl (nI_add i 1) (by decide) rfl (fun ls hl => ?_)
        refine lv_goto (tgt := 8) hx hb dX4_replay_42 (by decide) ?_
        exact ih_8 (i + 1) (by omega) (by omega) (by omega) (upd (pbN G j g i) i (G ((j * 8) + i))) rfl _ _ hP hD hS ls (lv_sub hl [0, 1, 2, 3] rfl)
  exact lp_8 (8 + 1) 0 (by omega) (by omega) (by omega) g rfl _ _ hP hD hS ls (lv_sub hl [0, 1, 2, 3] rfl)
def rm_c_X4_replay : Room := rm_c_X4_replay_s
theorem c_X4_replay (l : Launch) (D : va_G) (cI : ClassId) (cZ : ClassId) (z m1 m2 m3 m4 m5 m6 m7 m8 m9 m10 : Nat) (th : Int32) (f K : Nat → Int32) (O : Nat → Nat) (T : Nat → Int32) (M : Nat → Nat) (Z : Nat → Int32) (k n nc : Nat) (Y : Nat → Nat) (G g : Nat → Int32) (y : Nat) (hn : n ≤ 40) (hk : k ≤ n) (hc : nc ≤ 6) (hM : ∀ i, M i ≤ 12) (hO : ∀ i, O i < 8) (hY : ∀ i, Y i ≤ 40) (hy : y ≤ n) :
    kM l yX4_replay wsX4_replay rm_c_X4_replay D [(cI, FieldType.int), (cZ, FieldType.boolean)] [.ref z, .int (nI y)] [(z, .inr (4, [.int th, .ref m1, .ref m2, .ref m3, .ref m4, .ref m5, .ref m6, .ref m7, .int (nI n), .int (nI nc), .ref m8, .ref m9, .ref m10])), (m1, .inl (cI, 8, .inl f)), (m2, .inl (cI, 480, .inl K)), (m3, .inl (cI, 480, .inl (nF O))), (m4, .inl (cI, 480, .inl T)), (m5, .inl (cI, 41, .inl (nF M))), (m6, .inl (cI, 40, .inl Z)), (m7, .inl (cZ, 40, .inl (prF k))), (m8, .inl (cI, 6, .inl (nF Y))), (m9, .inl (cI, 48, .inl G)), (m10, .inl (cI, 8, .inl g))] (fun _ : Unit => True) (fun _ => none) (fun _ => [(z, .inr (4, [.int th, .ref m1, .ref m2, .ref m3, .ref m4, .ref m5, .ref m6, .ref m7, .int (nI n), .int (nI nc), .ref m8, .ref m9, .ref m10])), (m1, .inl (cI, 8, .inl f)), (m2, .inl (cI, 480, .inl K)), (m3, .inl (cI, 480, .inl (nF O))), (m4, .inl (cI, 480, .inl T)), (m5, .inl (cI, 41, .inl (nF M))), (m6, .inl (cI, 40, .inl Z)), (m7, .inl (cZ, 40, .inl (prF k))), (m8, .inl (cI, 6, .inl (nF Y))), (m9, .inl (cI, 48, .inl G)), (m10, .inl (cI, 8, .inl (replG K O T M Y G nc g y)))]) := by
  unfold replG
  cases hl0 : latO Y (nI y) nc with
  | none => have h9 := c_X4_replay_n l D cI cZ z m1 m2 m3 m4 m5 m6 m7 m8 m9 m10 th f K O T M Z k n nc Y G g y hn hk hc hM hO hY hy hl0; rw [hl0] at h9; exact h9
  | some j => have h9 := c_X4_replay_s l D cI cZ z m1 m2 m3 m4 m5 m6 m7 m8 m9 m10 th f K O T M Z k n nc Y G g y j hn hk hc hM hO hY hy hl0; rw [hl0] at h9; exact h9
def rm_c_X4_sum8 : Room := { frames := 0, cells := 0, slots := 0, locals := 0 }
set_option maxHeartbeats 4000000 in
set_option maxRecDepth 100000 in
theorem c_X4_sum8 (l : Launch) (D : va_G) (cI : ClassId) (cZ : ClassId) (r : Nat) (f : Nat → Int32) :
    kM l yX4_sum wsX4_sum rm_c_X4_sum8 D [(cI, FieldType.int), (cZ, FieldType.boolean)] [.ref r, .int (nI 0)] [(r, .inl (cI, 8, .inl f))] (fun _ : Unit => True) (fun _ => some (.int (sumZ f 8))) (fun _ => [(r, .inl (cI, 8, .inl f))]) := by
  refine kM_of (cc := cX4_sum) (maxL := 4) (ret := (some .int)) (own := RX4) (by decide) rfl rfl (Nat.le_of_ble_eq_true rfl) ?_
  intro p e s m args below meth c A ls Qz hx hb hml hr hts hown hlk hin hQ hA hS hP hD hK hl
  have hl : lv_has ls 4 [(0, .ref r), (1, .int (nI 0))] := hl
  refine lv_iconst (v := (nI 0)) hx hb dX4_sum_0 (by decide) ?_
  refine lv_istore_n (lv' := [(2, .int (nI 0)), (0, .ref r), (1, .int (nI 0))]) hx hb dX4_sum_1 rfl hl (by decide) rfl (fun ls hl => ?_)
  refine lv_iload_n hx hb dX4_sum_2 rfl (lv_at hl 2 rfl) ?_
  refine lv_istore_n (lv' := [(3, .int (nI 0)), (2, .int (nI 0)), (0, .ref r), (1, .int (nI 0))]) hx hb dX4_sum_3 rfl hl (by decide) rfl (fun ls hl => ?_)
  have lp_4 : ∀ (fu i : Nat), 0 ≤ i → i ≤ 8 → 8 + 1 ≤ i + fu → ∀ (x1 : Int32), x1 = sumZ f i → ∀ (H : Heap) (locs : List Loc), va_P D vwCl [(r, .inl (cI, 8, .inl f))] H → va_D A [(r, .inl (cI, 8, .inl f))] → va_S A s.heap H locs → ∀ (ls : Array Slot), lv_has ls 4 [(3, .int (nI i)), (2, .int x1), (0, .ref r), (1, .int (nI 0))] → W p l e rm_c_X4_sum8 s m args below meth c H locs 0 0 Qz (F0 m 4 ls []) := by
    intro fu
    induction fu with
    | zero => intro i h1_4 h2_4 h3_4; exact absurd h3_4 (by omega)
    | succ fu ih_4 =>
      intro i h1_4 h2_4 h3_4 x1 ex1 H locs hP hD hS ls hl
      subst ex1
      refine lv_iload_n hx hb dX4_sum_4 rfl (lv_at hl 0 rfl) ?_
      refine lv_iload_n hx hb dX4_sum_5 rfl (lv_at hl 3 rfl) ?_
      refine lv_bipush (v := (nI 8)) hx hb dX4_sum_6 (by decide) ?_
      refine k_iadd hx hb dX4_sum_8 ?_
      refine k_top (y := (nI 8)) rfl ?_
      refine k_icmp_ge hx hb (tgt := 24) (by omega) (by decide) dX4_sum_9 (by decide) (fun c_1 => ?_) (fun c_1 => ?_)
      · have e_2 : 8 = i := by omega
        subst e_2
        refine lv_iload_n hx hb dX4_sum_24 rfl (lv_at hl 1 rfl) ?_
        exact kM_iret hx hb hr hlk hQ hP hD hK hS () rfl (Nat.le_of_ble_eq_true rfl) (Nat.le_of_ble_eq_true rfl) (congrArg (fun z => some (Value.int z)) (by rfl)) trivial dX4_sum_25
      · refine lv_iload_n hx hb dX4_sum_12 rfl (lv_at hl 1 rfl) ?_
        refine lv_aload_n hx hb dX4_sum_13 rfl (lv_at hl 2 rfl) ?_
        refine lv_iload_n hx hb dX4_sum_14 rfl (lv_at hl 0 rfl) ?_
        refine k_iald hx hb hK hP 0 0 (i := i) rfl rfl (by omega) (by decide) dX4_sum_15 ?_
        refine lv_iadd hx hb dX4_sum_16 ?_
        refine lv_istore_n (lv' := [(2, .int ((sumZ f i) + (f i))), (3, .int (nI i)), (0, .ref r), (1, .int (nI 0))]) hx hb dX4_sum_17 rfl hl (by decide) rfl (fun ls hl => ?_)
        refine lv_iinc (v := (nI (i + 1))) (lv' := [(3, .int (nI (i + 1))), (2, .int ((sumZ f i) + (f i))), (0, .ref r), (1, .int (nI 0))]) (k := 1) hx hb dX4_sum_18 hl rfl (nI_add i 1) (by decide) rfl (fun ls hl => ?_)
        refine lv_goto (tgt := 4) hx hb dX4_sum_21 (by decide) ?_
        exact ih_4 (i + 1) (by omega) (by omega) (by omega) ((sumZ f i) + (f i)) rfl _ _ hP hD hS ls (lv_sub hl [0, 1, 2, 3] rfl)
  exact lp_4 (8 + 1) 0 (by omega) (by omega) (by omega) (nI 0) rfl _ _ hP hD hS ls (lv_sub hl [0, 1, 2, 3] rfl)
def rm_c_X4_sum48 : Room := { frames := 0, cells := 0, slots := 0, locals := 0 }
set_option maxHeartbeats 4000000 in
set_option maxRecDepth 100000 in
theorem c_X4_sum48 (l : Launch) (D : va_G) (cI : ClassId) (cZ : ClassId) (r : Nat) (G : Nat → Int32) (j : Nat) (hj : j < 6) :
    kM l yX4_sum wsX4_sum rm_c_X4_sum48 D [(cI, FieldType.int), (cZ, FieldType.boolean)] [.ref r, .int (nI (j * 8))] [(r, .inl (cI, 48, .inl G))] (fun _ : Unit => True) (fun _ => some (.int (sumZ (fun i_ => G (j * 8 + i_)) 8))) (fun _ => [(r, .inl (cI, 48, .inl G))]) := by
  refine kM_of (cc := cX4_sum) (maxL := 4) (ret := (some .int)) (own := RX4) (by decide) rfl rfl (Nat.le_of_ble_eq_true rfl) ?_
  intro p e s m args below meth c A ls Qz hx hb hml hr hts hown hlk hin hQ hA hS hP hD hK hl
  have hl : lv_has ls 4 [(0, .ref r), (1, .int (nI (j * 8)))] := hl
  refine lv_iconst (v := (nI 0)) hx hb dX4_sum_0 (by decide) ?_
  refine lv_istore_n (lv' := [(2, .int (nI 0)), (0, .ref r), (1, .int (nI (j * 8)))]) hx hb dX4_sum_1 rfl hl (by decide) rfl (fun ls hl => ?_)
  refine lv_iload_n hx hb dX4_sum_2 rfl (lv_at hl 2 rfl) ?_
  refine lv_istore_n (lv' := [(3, .int (nI (j * 8))), (2, .int (nI 0)), (0, .ref r), (1, .int (nI (j * 8)))]) hx hb dX4_sum_3 rfl hl (by decide) rfl (fun ls hl => ?_)
  have lp_4 : ∀ (fu i : Nat), 0 ≤ i → i ≤ 8 → 8 + 1 ≤ i + fu → ∀ (x1 : Int32), x1 = sumZ (fun i_ => G (j * 8 + i_)) i → ∀ (H : Heap) (locs : List Loc), va_P D vwCl [(r, .inl (cI, 48, .inl G))] H → va_D A [(r, .inl (cI, 48, .inl G))] → va_S A s.heap H locs → ∀ (ls : Array Slot), lv_has ls 4 [(3, .int (nI (j * 8 + i))), (2, .int x1), (0, .ref r), (1, .int (nI (j * 8)))] → W p l e rm_c_X4_sum48 s m args below meth c H locs 0 0 Qz (F0 m 4 ls []) := by
    intro fu
    induction fu with
    | zero => intro i h1_4 h2_4 h3_4; exact absurd h3_4 (by omega)
    | succ fu ih_4 =>
      intro i h1_4 h2_4 h3_4 x1 ex1 H locs hP hD hS ls hl
      subst ex1
      refine lv_iload_n hx hb dX4_sum_4 rfl (lv_at hl 0 rfl) ?_
      refine lv_iload_n hx hb dX4_sum_5 rfl (lv_at hl 3 rfl) ?_
      refine lv_bipush (v := (nI 8)) hx hb dX4_sum_6 (by decide) ?_
      refine k_iadd hx hb dX4_sum_8 ?_
      refine k_icmp_ge hx hb (tgt := 24) (by omega) (by omega) dX4_sum_9 (by decide) (fun c_1 => ?_) (fun c_1 => ?_)
      · have e_2 : 8 = i := by omega
        subst e_2
        refine lv_iload_n hx hb dX4_sum_24 rfl (lv_at hl 1 rfl) ?_
        exact kM_iret hx hb hr hlk hQ hP hD hK hS () rfl (Nat.le_of_ble_eq_true rfl) (Nat.le_of_ble_eq_true rfl) (congrArg (fun z => some (Value.int z)) (by rfl)) trivial dX4_sum_25
      · refine lv_iload_n hx hb dX4_sum_12 rfl (lv_at hl 1 rfl) ?_
        refine lv_aload_n hx hb dX4_sum_13 rfl (lv_at hl 2 rfl) ?_
        refine lv_iload_n hx hb dX4_sum_14 rfl (lv_at hl 0 rfl) ?_
        refine k_iald hx hb hK hP 0 0 (i := (j * 8 + i)) rfl rfl (by omega) (by decide) dX4_sum_15 ?_
        refine lv_iadd hx hb dX4_sum_16 ?_
        refine lv_istore_n (lv' := [(2, .int ((sumZ (fun i_ => G (j * 8 + i_)) i) + (G (j * 8 + i)))), (3, .int (nI (j * 8 + i))), (0, .ref r), (1, .int (nI (j * 8)))]) hx hb dX4_sum_17 rfl hl (by decide) rfl (fun ls hl => ?_)
        refine lv_iinc (v := (nI ((j * 8 + i) + 1))) (lv' := [(3, .int (nI ((j * 8 + i) + 1))), (2, .int ((sumZ (fun i_ => G (j * 8 + i_)) i) + (G (j * 8 + i)))), (0, .ref r), (1, .int (nI (j * 8)))]) (k := 1) hx hb dX4_sum_18 hl rfl (nI_add (j * 8 + i) 1) (by decide) rfl (fun ls hl => ?_)
        refine lv_goto (tgt := 4) hx hb dX4_sum_21 (by decide) ?_
        exact ih_4 (i + 1) (by omega) (by omega) (by omega) ((sumZ (fun i_ => G (j * 8 + i_)) i) + (G (j * 8 + i))) rfl _ _ hP hD hS ls (lv_sub hl [0, 1, 2, 3] rfl)
  exact lp_4 (8 + 1) 0 (by omega) (by omega) (by omega) (nI 0) rfl _ _ hP hD hS ls (lv_sub hl [0, 1, 2, 3] rfl)
theorem iu_X4_thick_X4 : ∀ w ∈ wsX40, w ∈ wsX4_thick := fun w h => (List.mem_cons_of_mem _ (List.mem_append_right _ h))
def rm_c_X4_thick : Room := { frames := 0, cells := 0, slots := 0, locals := 0 }
set_option maxHeartbeats 4000000 in
set_option maxRecDepth 100000 in
theorem c_X4_thick (l : Launch) (D : va_G) (cI : ClassId) (cZ : ClassId) (z m1 m2 m3 m4 m5 m6 m7 m8 m9 m10 : Nat) (th : Int32) (f K : Nat → Int32) (O : Nat → Nat) (T : Nat → Int32) (M : Nat → Nat) (Z : Nat → Int32) (k n nc : Nat) (Y : Nat → Nat) (G g : Nat → Int32) (hn : n ≤ 40) (hk : k ≤ n) (hc : nc ≤ 6) (hM : ∀ i, M i ≤ 12) (hO : ∀ i, O i < 8) (hY : ∀ i, Y i ≤ 40) :
    kM l yX4_thick wsX4_thick rm_c_X4_thick D [(cI, FieldType.int), (cZ, FieldType.boolean)] [.ref z] [(z, .inr (4, [.int th, .ref m1, .ref m2, .ref m3, .ref m4, .ref m5, .ref m6, .ref m7, .int (nI n), .int (nI nc), .ref m8, .ref m9, .ref m10])), (m1, .inl (cI, 8, .inl f)), (m2, .inl (cI, 480, .inl K)), (m3, .inl (cI, 480, .inl (nF O))), (m4, .inl (cI, 480, .inl T)), (m5, .inl (cI, 41, .inl (nF M))), (m6, .inl (cI, 40, .inl Z)), (m7, .inl (cZ, 40, .inl (prF k))), (m8, .inl (cI, 6, .inl (nF Y))), (m9, .inl (cI, 48, .inl G)), (m10, .inl (cI, 8, .inl g))] (fun _ : Unit => True) (fun _ => some (.int (nI (thkF f 8)))) (fun _ => [(z, .inr (4, [.int th, .ref m1, .ref m2, .ref m3, .ref m4, .ref m5, .ref m6, .ref m7, .int (nI n), .int (nI nc), .ref m8, .ref m9, .ref m10])), (m1, .inl (cI, 8, .inl f)), (m2, .inl (cI, 480, .inl K)), (m3, .inl (cI, 480, .inl (nF O))), (m4, .inl (cI, 480, .inl T)), (m5, .inl (cI, 41, .inl (nF M))), (m6, .inl (cI, 40, .inl Z)), (m7, .inl (cZ, 40, .inl (prF k))), (m8, .inl (cI, 6, .inl (nF Y))), (m9, .inl (cI, 48, .inl G)), (m10, .inl (cI, 8, .inl g))]) := by
  refine kM_of (cc := cX4_thick) (maxL := 3) (ret := (some .int)) (own := RX4) (by decide) rfl rfl (Nat.le_of_ble_eq_true rfl) ?_
  intro p e s m args below meth c A ls Qz hx hb hml hr hts hown hlk hin hQ hA hS hP hD hK hl
  have hl : lv_has ls 3 [(0, .ref z)] := hl
  refine lv_iconst (v := (nI 0)) hx hb dX4_thick_0 (by decide) ?_
  refine lv_istore_n (lv' := [(1, .int (nI 0)), (0, .ref z)]) hx hb dX4_thick_1 rfl hl (by decide) rfl (fun ls hl => ?_)
  refine lv_iconst (v := (nI 1)) hx hb dX4_thick_2 (by decide) ?_
  refine lv_istore_n (lv' := [(2, .int (nI 1)), (1, .int (nI 0)), (0, .ref z)]) hx hb dX4_thick_3 rfl hl (by decide) rfl (fun ls hl => ?_)
  have lp_4 : ∀ (fu i : Nat), 1 ≤ i → i ≤ 8 → 8 + 1 ≤ i + fu → ∀ (b : Nat), b = thkF f i → ∀ (H : Heap) (locs : List Loc), va_P D vwCl [(z, .inr (4, [.int th, .ref m1, .ref m2, .ref m3, .ref m4, .ref m5, .ref m6, .ref m7, .int (nI n), .int (nI nc), .ref m8, .ref m9, .ref m10])), (m1, .inl (cI, 8, .inl f)), (m2, .inl (cI, 480, .inl K)), (m3, .inl (cI, 480, .inl (nF O))), (m4, .inl (cI, 480, .inl T)), (m5, .inl (cI, 41, .inl (nF M))), (m6, .inl (cI, 40, .inl Z)), (m7, .inl (cZ, 40, .inl (prF k))), (m8, .inl (cI, 6, .inl (nF Y))), (m9, .inl (cI, 48, .inl G)), (m10, .inl (cI, 8, .inl g))] H → va_D A [(z, .inr (4, [.int th, .ref m1, .ref m2, .ref m3, .ref m4, .ref m5, .ref m6, .ref m7, .int (nI n), .int (nI nc), .ref m8, .ref m9, .ref m10])), (m1, .inl (cI, 8, .inl f)), (m2, .inl (cI, 480, .inl K)), (m3, .inl (cI, 480, .inl (nF O))), (m4, .inl (cI, 480, .inl T)), (m5, .inl (cI, 41, .inl (nF M))), (m6, .inl (cI, 40, .inl Z)), (m7, .inl (cZ, 40, .inl (prF k))), (m8, .inl (cI, 6, .inl (nF Y))), (m9, .inl (cI, 48, .inl G)), (m10, .inl (cI, 8, .inl g))] → va_S A s.heap H locs → ∀ (ls : Array Slot), lv_has ls 3 [(2, .int (nI i)), (1, .int (nI b)), (0, .ref z)] → W p l e rm_c_X4_thick s m args below meth c H locs 0 0 Qz (F0 m 4 ls []) := by
    intro fu
    induction fu with
    | zero => intro i h1_4 h2_4 h3_4; exact absurd h3_4 (by omega)
    | succ fu ih_4 =>
      intro i h1_4 h2_4 h3_4 b eb H locs hP hD hS ls hl
      subst eb
      have hb8 := thk_le f i
      refine lv_iload_n hx hb dX4_thick_4 rfl (lv_at hl 0 rfl) ?_
      refine lv_bipush (v := (nI 8)) hx hb dX4_thick_5 (by decide) ?_
      refine k_icmp_ge hx hb (tgt := 33) (by omega) (by decide) dX4_thick_7 (by decide) (fun c_1 => ?_) (fun c_1 => ?_)
      · have e_2 : 8 = i := by omega
        subst e_2
        refine lv_iload_n hx hb dX4_thick_33 rfl (lv_at hl 1 rfl) ?_
        exact kM_iret hx hb hr hlk hQ hP hD hK hS () rfl (Nat.le_of_ble_eq_true rfl) (Nat.le_of_ble_eq_true rfl) (congrArg (fun z => some (Value.int z)) (by rfl)) trivial dX4_thick_34
      · refine lv_aload_n hx hb dX4_thick_10 rfl (lv_at hl 2 rfl) ?_
        refine va_get (D := D) (ci := 4) (v := .ref m1) (C := RX4) (T := TX4) (N := 13) hx hb hts iu_X4_thick_X4 hown hK hP 0 rfl rfl 1 (by decide) (hts _ (List.mem_of_getElem? (i := 1) rfl)) (fun _ h9 => h9) rfl dX4_thick_11 ?_
        refine lv_iload_n hx hb dX4_thick_14 rfl (lv_at hl 0 rfl) ?_
        refine k_iald hx hb hK hP 1 0 (i := i) rfl rfl (by omega) (by decide) dX4_thick_15 ?_
        refine lv_aload_n hx hb dX4_thick_16 rfl (lv_at hl 2 rfl) ?_
        refine va_get (D := D) (ci := 4) (v := .ref m1) (C := RX4) (T := TX4) (N := 13) hx hb hts iu_X4_thick_X4 hown hK hP 0 rfl rfl 1 (by decide) (hts _ (List.mem_of_getElem? (i := 1) rfl)) (fun _ h9 => h9) rfl dX4_thick_17 ?_
        refine lv_iload_n hx hb dX4_thick_20 rfl (lv_at hl 1 rfl) ?_
        refine k_iald hx hb hK hP 1 0 (i := (thkF f i)) rfl rfl (by omega) (by decide) dX4_thick_21 ?_
        refine lv_icmp_le hx hb (tgt := 27) dX4_thick_22 (by decide) (fun c_3 => ?_) (fun c_3 => ?_)
        · have ex : thkF f i = thkF f (i + 1) := by rw [thkF, if_pos c_3]
          refine lv_iinc (v := (nI (i + 1))) (lv' := [(2, .int (nI (i + 1))), (1, .int (nI (thkF f i))), (0, .ref z)]) (k := 0) hx hb dX4_thick_27 hl rfl (nI_add i 1) (by decide) rfl (fun ls hl => ?_)
          refine lv_goto (tgt := 4) hx hb dX4_thick_30 (by decide) ?_
          exact ih_4 (i + 1) (by omega) (by omega) (by omega) (thkF f i) ex _ _ hP hD hS ls (lv_sub hl [0, 1, 2] rfl)
        · have ex : i = thkF f (i + 1) := by rw [thkF, if_neg c_3]
          refine lv_iload_n hx hb dX4_thick_25 rfl (lv_at hl 0 rfl) ?_
          refine lv_istore_n (lv' := [(1, .int (nI i)), (2, .int (nI i)), (0, .ref z)]) hx hb dX4_thick_26 rfl hl (by decide) rfl (fun ls hl => ?_)
          refine lv_iinc (v := (nI (i + 1))) (lv' := [(2, .int (nI (i + 1))), (1, .int (nI i)), (0, .ref z)]) (k := 1) hx hb dX4_thick_27 hl rfl (nI_add i 1) (by decide) rfl (fun ls hl => ?_)
          refine lv_goto (tgt := 4) hx hb dX4_thick_30 (by decide) ?_
          exact ih_4 (i + 1) (by omega) (by omega) (by omega) i ex _ _ hP hD hS ls (lv_sub hl [0, 1, 2] rfl)
  exact lp_4 (8 + 1) 1 (by omega) (by omega) (by omega) 0 (thk_1 f) _ _ hP hD hS ls (lv_sub hl [0, 1, 2] rfl)
theorem iu_X4_isForged_X4 : ∀ w ∈ wsX40, w ∈ wsX4_isForged := fun w h => (List.mem_cons_of_mem _ (List.mem_append_right _ h))
def rm_c_X4_isForged : Room := { frames := 1, cells := 0, slots := 0, locals := 23 }
set_option maxHeartbeats 4000000 in
set_option maxRecDepth 100000 in
theorem c_X4_isForged (l : Launch) (D : va_G) (cI : ClassId) (cZ : ClassId) (z m1 m2 m3 m4 m5 m6 m7 m8 m9 m10 : Nat) (th : Int32) (f K : Nat → Int32) (O : Nat → Nat) (T : Nat → Int32) (M : Nat → Nat) (Z : Nat → Int32) (k n nc : Nat) (Y : Nat → Nat) (G g : Nat → Int32) (j : Nat) (hn : n ≤ 40) (hk : k ≤ n) (hc : nc ≤ 6) (hM : ∀ i, M i ≤ 12) (hO : ∀ i, O i < 8) (hY : ∀ i, Y i ≤ 40) (hj : j < n) :
    kM l yX4_isForged wsX4_isForged rm_c_X4_isForged D [(cI, FieldType.int), (cZ, FieldType.boolean)] [.ref z, .int (nI j)] [(z, .inr (4, [.int th, .ref m1, .ref m2, .ref m3, .ref m4, .ref m5, .ref m6, .ref m7, .int (nI n), .int (nI nc), .ref m8, .ref m9, .ref m10])), (m1, .inl (cI, 8, .inl f)), (m2, .inl (cI, 480, .inl K)), (m3, .inl (cI, 480, .inl (nF O))), (m4, .inl (cI, 480, .inl T)), (m5, .inl (cI, 41, .inl (nF M))), (m6, .inl (cI, 40, .inl Z)), (m7, .inl (cZ, 40, .inl (prF k))), (m8, .inl (cI, 6, .inl (nF Y))), (m9, .inl (cI, 48, .inl G)), (m10, .inl (cI, 8, .inl g))] (fun _ : Unit => True) (fun _ => some (.int (b2i (¬ j < k ∧ sealF K O T M Z j ≠ Z j)))) (fun _ => [(z, .inr (4, [.int th, .ref m1, .ref m2, .ref m3, .ref m4, .ref m5, .ref m6, .ref m7, .int (nI n), .int (nI nc), .ref m8, .ref m9, .ref m10])), (m1, .inl (cI, 8, .inl f)), (m2, .inl (cI, 480, .inl K)), (m3, .inl (cI, 480, .inl (nF O))), (m4, .inl (cI, 480, .inl T)), (m5, .inl (cI, 41, .inl (nF M))), (m6, .inl (cI, 40, .inl Z)), (m7, .inl (cZ, 40, .inl (prF k))), (m8, .inl (cI, 6, .inl (nF Y))), (m9, .inl (cI, 48, .inl G)), (m10, .inl (cI, 8, .inl g))]) := by
  refine kM_of (cc := cX4_isForged) (maxL := 2) (ret := (some .boolean)) (own := RX4) (by decide) rfl rfl (Nat.le_of_ble_eq_true rfl) ?_
  intro p e s m args below meth c A ls Qz hx hb hml hr hts hown hlk hin hQ hA hS hP hD hK hl
  have hl : lv_has ls 2 [(0, .ref z), (1, .int (nI j))] := hl
  refine lv_aload_n hx hb dX4_isForged_0 rfl (lv_at hl 0 rfl) ?_
  refine va_get (D := D) (ci := 4) (v := .ref m7) (C := RX4) (T := TX4) (N := 13) hx hb hts iu_X4_isForged_X4 hown hK hP 0 rfl rfl 7 (by decide) (hts _ (List.mem_of_getElem? (i := 1) rfl)) (fun _ h9 => h9) rfl dX4_isForged_1 ?_
  refine lv_iload_n hx hb dX4_isForged_4 rfl (lv_at hl 1 rfl) ?_
  refine k_zald hx hb hK hP 7 1 (i := j) rfl rfl (by omega) (by decide) dX4_isForged_5 ?_
  refine k_top (y := (b2i (j < k))) rfl ?_
  refine k_bif_ne hx hb (tgt := 27) dX4_isForged_6 (by decide) (fun c_1 => ?_) (fun c_1 => ?_)
  · have hc5 := c_1
    refine lv_iconst (v := (nI 0)) hx hb dX4_isForged_27 (by decide) ?_
    exact kM_zret hx hb hr hlk hQ hP hD hK hS () rfl (Nat.le_of_ble_eq_true rfl) (Nat.le_of_ble_eq_true rfl) (by decide) (congrArg (fun z => some (Value.int z)) (if_neg (fun h => h.1 hc5))) trivial dX4_isForged_28
  · have hc5 := c_1
    refine lv_aload_n hx hb dX4_isForged_9 rfl (lv_at hl 0 rfl) ?_
    refine lv_iload_n hx hb dX4_isForged_10 rfl (lv_at hl 1 rfl) ?_
    refine kM_callV (As := [.int (nI j)]) (rest := []) (wr := []) (w2 := fun _ => [(z, .inr (4, [.int th, .ref m1, .ref m2, .ref m3, .ref m4, .ref m5, .ref m6, .ref m7, .int (nI n), .int (nI nc), .ref m8, .ref m9, .ref m10])), (m1, .inl (cI, 8, .inl f)), (m2, .inl (cI, 480, .inl K)), (m3, .inl (cI, 480, .inl (nF O))), (m4, .inl (cI, 480, .inl T)), (m5, .inl (cI, 41, .inl (nF M))), (m6, .inl (cI, 40, .inl Z)), (m7, .inl (cZ, 40, .inl (prF k))), (m8, .inl (cI, 6, .inl (nF Y))), (m9, .inl (cI, 48, .inl G)), (m10, .inl (cI, 8, .inl g))]) (st2 := fun _ => [.int (sealF K O T M Z j)]) (k := 0) (n2 := 0) ⟨hx, hb, hml, hown, hts⟩ (c_X4_sealed l D cI cZ z m1 m2 m3 m4 m5 m6 m7 m8 m9 m10 th f K O T M Z k n nc Y G g j hn hk hc hM hO hY (by omega)) (cwV 1 hts gX4_isForged_X4_sealed rfl rfl rfl (by decide +kernel) ⟨Nat.le_of_ble_eq_true rfl, Nat.le_of_ble_eq_true rfl⟩) 0 rfl rfl rfl [0, 1] rfl hK hP hD hS hA [0, 1, 2, 3, 4, 5, 6, 7, 8, 9, 10] [] rfl (by decide) rfl (by decide) (by decide) [0, 1, 2, 3, 4, 5, 6, 7, 8, 9, 10] (by decide) (fun _ => rfl) (Nat.le_refl _) (Nat.le_refl _) (Nat.le_of_ble_eq_true rfl) (Nat.le_of_ble_eq_true rfl) rfl hl.1 (Nat.le_of_ble_eq_true rfl) (fun _ => rfl) rfl dX4_isForged_11 (fun u H locs hu hP hD hS => ?_)
    refine lv_aload_n hx hb dX4_isForged_14 rfl (lv_at hl 0 rfl) ?_
    refine va_get (D := D) (ci := 4) (v := .ref m6) (C := RX4) (T := TX4) (N := 13) hx hb hts iu_X4_isForged_X4 hown hK hP 0 rfl rfl 6 (by decide) (hts _ (List.mem_of_getElem? (i := 2) rfl)) (fun _ h9 => h9) rfl dX4_isForged_15 ?_
    refine lv_iload_n hx hb dX4_isForged_18 rfl (lv_at hl 1 rfl) ?_
    refine k_iald hx hb hK hP 6 0 (i := j) rfl rfl (by omega) (by decide) dX4_isForged_19 ?_
    refine lv_icmp_eq hx hb (tgt := 27) dX4_isForged_20 (by decide) (fun c_2 => ?_) (fun c_2 => ?_)
    · have hc18 := c_2
      refine lv_iconst (v := (nI 0)) hx hb dX4_isForged_27 (by decide) ?_
      exact kM_zret hx hb hr hlk hQ hP hD hK hS () rfl (Nat.le_of_ble_eq_true rfl) (Nat.le_of_ble_eq_true rfl) (by decide) (congrArg (fun z => some (Value.int z)) (if_neg (fun h => h.2 hc18))) trivial dX4_isForged_28
    · have hc18 := c_2
      refine lv_iconst (v := (nI 1)) hx hb dX4_isForged_23 (by decide) ?_
      refine lv_goto (tgt := 28) hx hb dX4_isForged_24 (by decide) ?_
      exact kM_zret hx hb hr hlk hQ hP hD hK hS () rfl (Nat.le_of_ble_eq_true rfl) (Nat.le_of_ble_eq_true rfl) (by decide) (congrArg (fun z => some (Value.int z)) (if_pos ⟨hc5, hc18⟩)) trivial dX4_isForged_28
theorem iu_X4_firstForged_X4 : ∀ w ∈ wsX40, w ∈ wsX4_firstForged := fun w h => (List.mem_cons_of_mem _ (List.mem_append_right _ h))
def rm_c_X4_firstForged : Room := { frames := 2, cells := 0, slots := 0, locals := 44 }
set_option maxHeartbeats 4000000 in
set_option maxRecDepth 100000 in
theorem c_X4_firstForged (l : Launch) (D : va_G) (cI : ClassId) (cZ : ClassId) (z m1 m2 m3 m4 m5 m6 m7 m8 m9 m10 : Nat) (th : Int32) (f K : Nat → Int32) (O : Nat → Nat) (T : Nat → Int32) (M : Nat → Nat) (Z : Nat → Int32) (k n nc : Nat) (Y : Nat → Nat) (G g : Nat → Int32) (hn : n ≤ 40) (hk : k ≤ n) (hc : nc ≤ 6) (hM : ∀ i, M i ≤ 12) (hO : ∀ i, O i < 8) (hY : ∀ i, Y i ≤ 40) :
    kM l yX4_firstForged wsX4_firstForged rm_c_X4_firstForged D [(cI, FieldType.int), (cZ, FieldType.boolean)] [.ref z] [(z, .inr (4, [.int th, .ref m1, .ref m2, .ref m3, .ref m4, .ref m5, .ref m6, .ref m7, .int (nI n), .int (nI nc), .ref m8, .ref m9, .ref m10])), (m1, .inl (cI, 8, .inl f)), (m2, .inl (cI, 480, .inl K)), (m3, .inl (cI, 480, .inl (nF O))), (m4, .inl (cI, 480, .inl T)), (m5, .inl (cI, 41, .inl (nF M))), (m6, .inl (cI, 40, .inl Z)), (m7, .inl (cZ, 40, .inl (prF k))), (m8, .inl (cI, 6, .inl (nF Y))), (m9, .inl (cI, 48, .inl G)), (m10, .inl (cI, 8, .inl g))] (fun _ : Unit => True) (fun _ => some (.int (oI (fstO (forgB K O T M Z k) 0 n)))) (fun _ => [(z, .inr (4, [.int th, .ref m1, .ref m2, .ref m3, .ref m4, .ref m5, .ref m6, .ref m7, .int (nI n), .int (nI nc), .ref m8, .ref m9, .ref m10])), (m1, .inl (cI, 8, .inl f)), (m2, .inl (cI, 480, .inl K)), (m3, .inl (cI, 480, .inl (nF O))), (m4, .inl (cI, 480, .inl T)), (m5, .inl (cI, 41, .inl (nF M))), (m6, .inl (cI, 40, .inl Z)), (m7, .inl (cZ, 40, .inl (prF k))), (m8, .inl (cI, 6, .inl (nF Y))), (m9, .inl (cI, 48, .inl G)), (m10, .inl (cI, 8, .inl g))]) := by
  refine kM_of (cc := cX4_firstForged) (maxL := 2) (ret := (some .int)) (own := RX4) (by decide) rfl rfl (Nat.le_of_ble_eq_true rfl) ?_
  intro p e s m args below meth c A ls Qz hx hb hml hr hts hown hlk hin hQ hA hS hP hD hK hl
  have hl : lv_has ls 2 [(0, .ref z)] := hl
  refine lv_iconst (v := (nI 0)) hx hb dX4_firstForged_0 (by decide) ?_
  refine lv_istore_n (lv' := [(1, .int (nI 0)), (0, .ref z)]) hx hb dX4_firstForged_1 rfl hl (by decide) rfl (fun ls hl => ?_)
  have lp_2 : ∀ (fu i : Nat), 0 ≤ i → i ≤ n → n + 1 ≤ i + fu → (fstO (forgB K O T M Z k) i (n - i) = fstO (forgB K O T M Z k) 0 n) → ∀ (H : Heap) (locs : List Loc), va_P D vwCl [(z, .inr (4, [.int th, .ref m1, .ref m2, .ref m3, .ref m4, .ref m5, .ref m6, .ref m7, .int (nI n), .int (nI nc), .ref m8, .ref m9, .ref m10])), (m1, .inl (cI, 8, .inl f)), (m2, .inl (cI, 480, .inl K)), (m3, .inl (cI, 480, .inl (nF O))), (m4, .inl (cI, 480, .inl T)), (m5, .inl (cI, 41, .inl (nF M))), (m6, .inl (cI, 40, .inl Z)), (m7, .inl (cZ, 40, .inl (prF k))), (m8, .inl (cI, 6, .inl (nF Y))), (m9, .inl (cI, 48, .inl G)), (m10, .inl (cI, 8, .inl g))] H → va_D A [(z, .inr (4, [.int th, .ref m1, .ref m2, .ref m3, .ref m4, .ref m5, .ref m6, .ref m7, .int (nI n), .int (nI nc), .ref m8, .ref m9, .ref m10])), (m1, .inl (cI, 8, .inl f)), (m2, .inl (cI, 480, .inl K)), (m3, .inl (cI, 480, .inl (nF O))), (m4, .inl (cI, 480, .inl T)), (m5, .inl (cI, 41, .inl (nF M))), (m6, .inl (cI, 40, .inl Z)), (m7, .inl (cZ, 40, .inl (prF k))), (m8, .inl (cI, 6, .inl (nF Y))), (m9, .inl (cI, 48, .inl G)), (m10, .inl (cI, 8, .inl g))] → va_S A s.heap H locs → ∀ (ls : Array Slot), lv_has ls 2 [(1, .int (nI i)), (0, .ref z)] → W p l e rm_c_X4_firstForged s m args below meth c H locs 0 0 Qz (F0 m 2 ls []) := by
    intro fu
    induction fu with
    | zero => intro i h1_2 h2_2 h3_2; exact absurd h3_2 (by omega)
    | succ fu ih_2 =>
      intro i h1_2 h2_2 h3_2 hf H locs hP hD hS ls hl
      refine lv_iload_n hx hb dX4_firstForged_2 rfl (lv_at hl 0 rfl) ?_
      refine lv_aload_n hx hb dX4_firstForged_3 rfl (lv_at hl 1 rfl) ?_
      refine va_get (D := D) (ci := 4) (v := .int (nI n)) (C := RX4) (T := TX4) (N := 13) hx hb hts iu_X4_firstForged_X4 hown hK hP 0 rfl rfl 8 (by decide) (hts _ (List.mem_of_getElem? (i := 1) rfl)) (fun _ h9 => h9) rfl dX4_firstForged_4 ?_
      refine k_icmp_ge hx hb (tgt := 26) (by omega) (by omega) dX4_firstForged_7 (by decide) (fun c_1 => ?_) (fun c_1 => ?_)
      · have e_2 : n = i := by omega
        subst e_2
        refine lv_iconst (v := (-1)) hx hb dX4_firstForged_26 (by decide) ?_
        exact kM_iret hx hb hr hlk hQ hP hD hK hS () rfl (Nat.le_of_ble_eq_true rfl) (Nat.le_of_ble_eq_true rfl) (congrArg (fun z => some (Value.int z)) (by rw [← hf, Nat.sub_self]; rfl)) trivial dX4_firstForged_27
      · refine lv_aload_n hx hb dX4_firstForged_10 rfl (lv_at hl 1 rfl) ?_
        refine lv_iload_n hx hb dX4_firstForged_11 rfl (lv_at hl 0 rfl) ?_
        refine kM_callV (As := [.int (nI i)]) (rest := []) (wr := []) (w2 := fun _ => [(z, .inr (4, [.int th, .ref m1, .ref m2, .ref m3, .ref m4, .ref m5, .ref m6, .ref m7, .int (nI n), .int (nI nc), .ref m8, .ref m9, .ref m10])), (m1, .inl (cI, 8, .inl f)), (m2, .inl (cI, 480, .inl K)), (m3, .inl (cI, 480, .inl (nF O))), (m4, .inl (cI, 480, .inl T)), (m5, .inl (cI, 41, .inl (nF M))), (m6, .inl (cI, 40, .inl Z)), (m7, .inl (cZ, 40, .inl (prF k))), (m8, .inl (cI, 6, .inl (nF Y))), (m9, .inl (cI, 48, .inl G)), (m10, .inl (cI, 8, .inl g))]) (st2 := fun _ => [.int (b2i (¬ i < k ∧ sealF K O T M Z i ≠ Z i))]) (k := 0) (n2 := 0) ⟨hx, hb, hml, hown, hts⟩ (c_X4_isForged l D cI cZ z m1 m2 m3 m4 m5 m6 m7 m8 m9 m10 th f K O T M Z k n nc Y G g i hn hk hc hM hO hY (by omega)) (cwV 1 hts gX4_firstForged_X4_isForged rfl rfl rfl (by decide +kernel) ⟨Nat.le_of_ble_eq_true rfl, Nat.le_of_ble_eq_true rfl⟩) 0 rfl rfl rfl [0, 1] rfl hK hP hD hS hA [0, 1, 2, 3, 4, 5, 6, 7, 8, 9, 10] [] rfl (by decide) rfl (by decide) (by decide) [0, 1, 2, 3, 4, 5, 6, 7, 8, 9, 10] (by decide) (fun _ => rfl) (Nat.le_refl _) (Nat.le_refl _) (Nat.le_of_ble_eq_true rfl) (Nat.le_of_ble_eq_true rfl) rfl hl.1 (Nat.le_of_ble_eq_true rfl) (fun _ => rfl) rfl dX4_firstForged_12 (fun u H locs hu hP hD hS => ?_)
        refine k_bif_eq hx hb (tgt := 20) dX4_firstForged_15 (by decide) (fun c_3 => ?_) (fun c_3 => ?_)
        · have hf2 := hf
          rw [fst_step (by omega), if_neg (forgB_f c_3)] at hf2
          refine lv_iinc (v := (nI (i + 1))) (lv' := [(1, .int (nI (i + 1))), (0, .ref z)]) (k := 0) hx hb dX4_firstForged_20 hl rfl (nI_add i 1) (by decide) rfl (fun ls hl => ?_)
          refine lv_goto (tgt := 2) hx hb dX4_firstForged_23 (by decide) ?_
          exact ih_2 (i + 1) (by omega) (by omega) (by omega) hf2 _ _ hP hD hS ls (lv_sub hl [0, 1] rfl)
        · have hf3 := hf
          rw [fst_step (by omega), if_pos (forgB_t c_3)] at hf3
          refine lv_iload_n hx hb dX4_firstForged_18 rfl (lv_at hl 0 rfl) ?_
          exact kM_iret hx hb hr hlk hQ hP hD hK hS () rfl (Nat.le_of_ble_eq_true rfl) (Nat.le_of_ble_eq_true rfl) (congrArg (fun z => some (Value.int z)) (by rw [← hf3]; rfl)) trivial dX4_firstForged_19
  exact lp_2 (n + 1) 0 (by omega) (by omega) (by omega) rfl _ _ hP hD hS ls (lv_sub hl [0, 1] rfl)
theorem iu_X4_richest_X4 : ∀ w ∈ wsX40, w ∈ wsX4_richest := fun w h => (List.mem_cons_of_mem _ (List.mem_append_right _ h))
def rm_c_X4_richest : Room := { frames := 3, cells := 0, slots := 0, locals := 72 }
set_option maxHeartbeats 4000000 in
set_option maxRecDepth 100000 in
theorem c_X4_richest (l : Launch) (D : va_G) (cI : ClassId) (cZ : ClassId) (z m1 m2 m3 m4 m5 m6 m7 m8 m9 m10 : Nat) (th : Int32) (f K : Nat → Int32) (O : Nat → Nat) (T : Nat → Int32) (M : Nat → Nat) (Z : Nat → Int32) (k n nc : Nat) (Y : Nat → Nat) (G g : Nat → Int32) (hn : n ≤ 40) (hk : k ≤ n) (hc : nc ≤ 6) (hM : ∀ i, M i ≤ 12) (hO : ∀ i, O i < 8) (hY : ∀ i, Y i ≤ 40) :
    kM l yX4_richest wsX4_richest rm_c_X4_richest D [(cI, FieldType.int), (cZ, FieldType.boolean)] [.ref z] [(z, .inr (4, [.int th, .ref m1, .ref m2, .ref m3, .ref m4, .ref m5, .ref m6, .ref m7, .int (nI n), .int (nI nc), .ref m8, .ref m9, .ref m10])), (m1, .inl (cI, 8, .inl f)), (m2, .inl (cI, 480, .inl K)), (m3, .inl (cI, 480, .inl (nF O))), (m4, .inl (cI, 480, .inl T)), (m5, .inl (cI, 41, .inl (nF M))), (m6, .inl (cI, 40, .inl Z)), (m7, .inl (cZ, 40, .inl (prF k))), (m8, .inl (cI, 6, .inl (nF Y))), (m9, .inl (cI, 48, .inl G)), (m10, .inl (cI, 8, .inl g))] (fun _ : Unit => True) (fun _ => some (.int ((rmR K O T M Y G nc k g (n + 1)).1))) (fun _ => [(z, .inr (4, [.int th, .ref m1, .ref m2, .ref m3, .ref m4, .ref m5, .ref m6, .ref m7, .int (nI n), .int (nI nc), .ref m8, .ref m9, .ref m10])), (m1, .inl (cI, 8, .inl f)), (m2, .inl (cI, 480, .inl K)), (m3, .inl (cI, 480, .inl (nF O))), (m4, .inl (cI, 480, .inl T)), (m5, .inl (cI, 41, .inl (nF M))), (m6, .inl (cI, 40, .inl Z)), (m7, .inl (cZ, 40, .inl (prF k))), (m8, .inl (cI, 6, .inl (nF Y))), (m9, .inl (cI, 48, .inl G)), (m10, .inl (cI, 8, .inl (thM K O T M Y G nc k g (n + 1))))]) := by
  refine kM_of (cc := cX4_richest) (maxL := 4) (ret := (some .int)) (own := RX4) (by decide) rfl rfl (Nat.le_of_ble_eq_true rfl) ?_
  intro p e s m args below meth c A ls Qz hx hb hml hr hts hown hlk hin hQ hA hS hP hD hK hl
  have hl : lv_has ls 4 [(0, .ref z)] := hl
  refine lv_iconst (v := (-1)) hx hb dX4_richest_0 (by decide) ?_
  refine lv_istore_n (lv' := [(1, .int (-1)), (0, .ref z)]) hx hb dX4_richest_1 rfl hl (by decide) rfl (fun ls hl => ?_)
  refine lv_iconst (v := (-1)) hx hb dX4_richest_2 (by decide) ?_
  refine lv_istore_n (lv' := [(2, .int (-1)), (1, .int (-1)), (0, .ref z)]) hx hb dX4_richest_3 rfl hl (by decide) rfl (fun ls hl => ?_)
  refine lv_iconst (v := (nI 0)) hx hb dX4_richest_4 (by decide) ?_
  refine lv_istore_n (lv' := [(3, .int (nI 0)), (2, .int (-1)), (1, .int (-1)), (0, .ref z)]) hx hb dX4_richest_5 rfl hl (by decide) rfl (fun ls hl => ?_)
  have lp_6 : ∀ (fu i : Nat), 0 ≤ i → i ≤ n + 1 → (n + 1) + 1 ≤ i + fu → ∀ (b : Int32), b = (rmR K O T M Y G nc k g i).1 → ∀ (mo : Int32), mo = (rmR K O T M Y G nc k g i).2 → ∀ (x1 : Nat → Int32), x1 = thM K O T M Y G nc k g i → ∀ (H : Heap) (locs : List Loc), va_P D vwCl [(z, .inr (4, [.int th, .ref m1, .ref m2, .ref m3, .ref m4, .ref m5, .ref m6, .ref m7, .int (nI n), .int (nI nc), .ref m8, .ref m9, .ref m10])), (m1, .inl (cI, 8, .inl f)), (m2, .inl (cI, 480, .inl K)), (m3, .inl (cI, 480, .inl (nF O))), (m4, .inl (cI, 480, .inl T)), (m5, .inl (cI, 41, .inl (nF M))), (m6, .inl (cI, 40, .inl Z)), (m7, .inl (cZ, 40, .inl (prF k))), (m8, .inl (cI, 6, .inl (nF Y))), (m9, .inl (cI, 48, .inl G)), (m10, .inl (cI, 8, .inl x1))] H → va_D A [(z, .inr (4, [.int th, .ref m1, .ref m2, .ref m3, .ref m4, .ref m5, .ref m6, .ref m7, .int (nI n), .int (nI nc), .ref m8, .ref m9, .ref m10])), (m1, .inl (cI, 8, .inl f)), (m2, .inl (cI, 480, .inl K)), (m3, .inl (cI, 480, .inl (nF O))), (m4, .inl (cI, 480, .inl T)), (m5, .inl (cI, 41, .inl (nF M))), (m6, .inl (cI, 40, .inl Z)), (m7, .inl (cZ, 40, .inl (prF k))), (m8, .inl (cI, 6, .inl (nF Y))), (m9, .inl (cI, 48, .inl G)), (m10, .inl (cI, 8, .inl x1))] → va_S A s.heap H locs → ∀ (ls : Array Slot), lv_has ls 4 [(3, .int (nI i)), (2, .int mo), (1, .int b), (0, .ref z)] → W p l e rm_c_X4_richest s m args below meth c H locs 0 0 Qz (F0 m 6 ls []) := by
    intro fu
    induction fu with
    | zero => intro i h1_6 h2_6 h3_6; exact absurd h3_6 (by omega)
    | succ fu ih_6 =>
      intro i h1_6 h2_6 h3_6 b eb mo emo x1 ex1 H locs hP hD hS ls hl
      subst eb
      subst emo
      subst ex1
      refine lv_iload_n hx hb dX4_richest_6 rfl (lv_at hl 0 rfl) ?_
      refine lv_aload_n hx hb dX4_richest_7 rfl (lv_at hl 3 rfl) ?_
      refine va_get (D := D) (ci := 4) (v := .int (nI n)) (C := RX4) (T := TX4) (N := 13) hx hb hts iu_X4_richest_X4 hown hK hP 0 rfl rfl 8 (by decide) (hts _ (List.mem_of_getElem? (i := 1) rfl)) (fun _ h9 => h9) rfl dX4_richest_8 ?_
      refine k_icmp_gt hx hb (tgt := 62) (by omega) (by omega) dX4_richest_11 (by decide) (fun c_1 => ?_) (fun c_1 => ?_)
      · have e_2 : n + 1 = i := by omega
        subst e_2
        refine lv_iload_n hx hb dX4_richest_62 rfl (lv_at hl 2 rfl) ?_
        exact kM_iret hx hb hr hlk hQ hP hD hK hS () rfl (Nat.le_of_ble_eq_true rfl) (Nat.le_of_ble_eq_true rfl) (congrArg (fun z => some (Value.int z)) (by rfl)) trivial dX4_richest_63
      · refine lv_aload_n hx hb dX4_richest_14 rfl (lv_at hl 3 rfl) ?_
        refine lv_iload_n hx hb dX4_richest_15 rfl (lv_at hl 0 rfl) ?_
        refine kM_callV (As := [.int (nI i)]) (rest := []) (wr := []) (w2 := fun _ => [(z, .inr (4, [.int th, .ref m1, .ref m2, .ref m3, .ref m4, .ref m5, .ref m6, .ref m7, .int (nI n), .int (nI nc), .ref m8, .ref m9, .ref m10])), (m1, .inl (cI, 8, .inl f)), (m2, .inl (cI, 480, .inl K)), (m3, .inl (cI, 480, .inl (nF O))), (m4, .inl (cI, 480, .inl T)), (m5, .inl (cI, 41, .inl (nF M))), (m6, .inl (cI, 40, .inl Z)), (m7, .inl (cZ, 40, .inl (prF k))), (m8, .inl (cI, 6, .inl (nF Y))), (m9, .inl (cI, 48, .inl G)), (m10, .inl (cI, 8, .inl (thM K O T M Y G nc k g i)))]) (st2 := fun _ => [.int (b2i (i ≤ fromO Y (latO Y (nI i) nc) ∨ ¬ fromO Y (latO Y (nI i) nc) < k))]) (k := 0) (n2 := 0) ⟨hx, hb, hml, hown, hts⟩ (c_X4_can l D cI cZ z m1 m2 m3 m4 m5 m6 m7 m8 m9 m10 th f K O T M Z k n nc Y G (thM K O T M Y G nc k g i) i hn hk hc hM hO hY (by omega)) (cwV 1 hts gX4_richest_X4_can rfl rfl rfl (by decide +kernel) ⟨Nat.le_of_ble_eq_true rfl, Nat.le_of_ble_eq_true rfl⟩) 0 rfl rfl rfl [0, 1] rfl hK hP hD hS hA [0, 1, 2, 3, 4, 5, 6, 7, 8, 9, 10] [] rfl (by decide) rfl (by decide) (by decide) [0, 1, 2, 3, 4, 5, 6, 7, 8, 9, 10] (by decide) (fun _ => rfl) (Nat.le_refl _) (Nat.le_refl _) (Nat.le_of_ble_eq_true rfl) (Nat.le_of_ble_eq_true rfl) rfl hl.1 (Nat.le_of_ble_eq_true rfl) (fun _ => rfl) rfl dX4_richest_16 (fun u H locs hu hP hD hS => ?_)
        refine k_bif_ne hx hb (tgt := 25) dX4_richest_19 (by decide) (fun c_3 => ?_) (fun c_3 => ?_)
        · have hca := c_3
          have et : thM K O T M Y G nc k g (i + 1) = replG K O T M Y G nc (thM K O T M Y G nc k g i) i := if_pos c_3
          refine lv_aload_n hx hb dX4_richest_25 rfl (lv_at hl 3 rfl) ?_
          refine lv_iload_n hx hb dX4_richest_26 rfl (lv_at hl 0 rfl) ?_
          refine kM_callV (As := [.int (nI i)]) (rest := []) (wr := []) (w2 := fun _ => [(z, .inr (4, [.int th, .ref m1, .ref m2, .ref m3, .ref m4, .ref m5, .ref m6, .ref m7, .int (nI n), .int (nI nc), .ref m8, .ref m9, .ref m10])), (m1, .inl (cI, 8, .inl f)), (m2, .inl (cI, 480, .inl K)), (m3, .inl (cI, 480, .inl (nF O))), (m4, .inl (cI, 480, .inl T)), (m5, .inl (cI, 41, .inl (nF M))), (m6, .inl (cI, 40, .inl Z)), (m7, .inl (cZ, 40, .inl (prF k))), (m8, .inl (cI, 6, .inl (nF Y))), (m9, .inl (cI, 48, .inl G)), (m10, .inl (cI, 8, .inl (replG K O T M Y G nc (thM K O T M Y G nc k g i) i)))]) (st2 := fun _ => []) (k := 0) (n2 := 0) ⟨hx, hb, hml, hown, hts⟩ (c_X4_replay l D cI cZ z m1 m2 m3 m4 m5 m6 m7 m8 m9 m10 th f K O T M Z k n nc Y G (thM K O T M Y G nc k g i) i hn hk hc hM hO hY (by omega)) (cwV 1 hts gX4_richest_X4_replay rfl rfl rfl (by decide +kernel) ⟨Nat.le_of_ble_eq_true rfl, Nat.le_of_ble_eq_true rfl⟩) 0 rfl rfl rfl [0, 1] rfl hK hP hD hS hA [0, 1, 2, 3, 4, 5, 6, 7, 8, 9, 10] [] rfl (by decide) rfl (by decide) (by decide) [0, 1, 2, 3, 4, 5, 6, 7, 8, 9, 10] (by decide) (fun _ => rfl) (Nat.le_refl _) (Nat.le_refl _) (Nat.le_of_ble_eq_true rfl) (Nat.le_of_ble_eq_true rfl) rfl hl.1 (Nat.le_of_ble_eq_true rfl) (fun _ => rfl) rfl dX4_richest_27 (fun u H locs hu hP hD hS => ?_)
          refine lv_aload_n hx hb dX4_richest_30 rfl (lv_at hl 3 rfl) ?_
          refine va_get (D := D) (ci := 4) (v := .ref m10) (C := RX4) (T := TX4) (N := 13) hx hb hts iu_X4_richest_X4 hown hK hP 0 rfl rfl 12 (by decide) (hts _ (List.mem_of_getElem? (i := 2) rfl)) (fun _ h9 => h9) rfl dX4_richest_31 ?_
          refine lv_iconst (v := (nI 0)) hx hb dX4_richest_34 (by decide) ?_
          refine kM_callS (As := [.ref m10, .int (nI 0)]) (rest := []) (wr := [(z, .inr (4, [.int th, .ref m1, .ref m2, .ref m3, .ref m4, .ref m5, .ref m6, .ref m7, .int (nI n), .int (nI nc), .ref m8, .ref m9, .ref m10])), (m1, .inl (cI, 8, .inl f)), (m2, .inl (cI, 480, .inl K)), (m3, .inl (cI, 480, .inl (nF O))), (m4, .inl (cI, 480, .inl T)), (m5, .inl (cI, 41, .inl (nF M))), (m6, .inl (cI, 40, .inl Z)), (m7, .inl (cZ, 40, .inl (prF k))), (m8, .inl (cI, 6, .inl (nF Y))), (m9, .inl (cI, 48, .inl G))]) (w2 := fun _ => [(z, .inr (4, [.int th, .ref m1, .ref m2, .ref m3, .ref m4, .ref m5, .ref m6, .ref m7, .int (nI n), .int (nI nc), .ref m8, .ref m9, .ref m10])), (m1, .inl (cI, 8, .inl f)), (m2, .inl (cI, 480, .inl K)), (m3, .inl (cI, 480, .inl (nF O))), (m4, .inl (cI, 480, .inl T)), (m5, .inl (cI, 41, .inl (nF M))), (m6, .inl (cI, 40, .inl Z)), (m7, .inl (cZ, 40, .inl (prF k))), (m8, .inl (cI, 6, .inl (nF Y))), (m9, .inl (cI, 48, .inl G)), (m10, .inl (cI, 8, .inl (replG K O T M Y G nc (thM K O T M Y G nc k g i) i)))]) (st2 := fun _ => [.int (sumZ (replG K O T M Y G nc (thM K O T M Y G nc k g i) i) 8)]) (k := 0) (n2 := 0) ⟨hx, hb, hml, hown, hts⟩ (c_X4_sum8 l D cI cZ m10 (replG K O T M Y G nc (thM K O T M Y G nc k g i) i)) (va_cwS 2 hts gX4_richest_X4_sum rfl rfl rfl (by decide +kernel) ⟨Nat.le_of_ble_eq_true rfl, Nat.le_of_ble_eq_true rfl⟩) [0, 1] rfl hK hP hD hS hA [10] [0, 1, 2, 3, 4, 5, 6, 7, 8, 9] rfl (by decide) rfl (by decide) (by decide) [0, 1, 2, 3, 4, 5, 6, 7, 8, 9, 10] (by decide) (fun _ => rfl) (Nat.le_refl _) (Nat.le_refl _) (Nat.le_of_ble_eq_true rfl) (Nat.le_of_ble_eq_true rfl) rfl hl.1 (Nat.le_of_ble_eq_true rfl) (fun _ => rfl) rfl dX4_richest_35 (fun u H locs hu hP hD hS => ?_)
          refine lv_iload_n hx hb dX4_richest_38 rfl (lv_at hl 1 rfl) ?_
          refine lv_icmp_gt hx hb (tgt := 45) dX4_richest_39 (by decide) (fun c_4 => ?_) (fun c_4 => ?_)
          · have er : rmR K O T M Y G nc k g (i + 1) = (nI i, sumZ (replG K O T M Y G nc (thM K O T M Y G nc k g i) i) 8) := if_pos ⟨hca, c_4⟩
            refine lv_iload_n hx hb dX4_richest_45 rfl (lv_at hl 0 rfl) ?_
            refine lv_istore_n (lv' := [(1, .int (nI i)), (3, .int (nI i)), (2, .int ((rmR K O T M Y G nc k g i).2)), (0, .ref z)]) hx hb dX4_richest_46 rfl hl (by decide) rfl (fun ls hl => ?_)
            refine lv_aload_n hx hb dX4_richest_47 rfl (lv_at hl 3 rfl) ?_
            refine va_get (D := D) (ci := 4) (v := .ref m10) (C := RX4) (T := TX4) (N := 13) hx hb hts iu_X4_richest_X4 hown hK hP 0 rfl rfl 12 (by decide) (hts _ (List.mem_of_getElem? (i := 2) rfl)) (fun _ h9 => h9) rfl dX4_richest_48 ?_
            refine lv_iconst (v := (nI 0)) hx hb dX4_richest_51 (by decide) ?_
            refine kM_callS (As := [.ref m10, .int (nI 0)]) (rest := []) (wr := [(z, .inr (4, [.int th, .ref m1, .ref m2, .ref m3, .ref m4, .ref m5, .ref m6, .ref m7, .int (nI n), .int (nI nc), .ref m8, .ref m9, .ref m10])), (m1, .inl (cI, 8, .inl f)), (m2, .inl (cI, 480, .inl K)), (m3, .inl (cI, 480, .inl (nF O))), (m4, .inl (cI, 480, .inl T)), (m5, .inl (cI, 41, .inl (nF M))), (m6, .inl (cI, 40, .inl Z)), (m7, .inl (cZ, 40, .inl (prF k))), (m8, .inl (cI, 6, .inl (nF Y))), (m9, .inl (cI, 48, .inl G))]) (w2 := fun _ => [(z, .inr (4, [.int th, .ref m1, .ref m2, .ref m3, .ref m4, .ref m5, .ref m6, .ref m7, .int (nI n), .int (nI nc), .ref m8, .ref m9, .ref m10])), (m1, .inl (cI, 8, .inl f)), (m2, .inl (cI, 480, .inl K)), (m3, .inl (cI, 480, .inl (nF O))), (m4, .inl (cI, 480, .inl T)), (m5, .inl (cI, 41, .inl (nF M))), (m6, .inl (cI, 40, .inl Z)), (m7, .inl (cZ, 40, .inl (prF k))), (m8, .inl (cI, 6, .inl (nF Y))), (m9, .inl (cI, 48, .inl G)), (m10, .inl (cI, 8, .inl (replG K O T M Y G nc (thM K O T M Y G nc k g i) i)))]) (st2 := fun _ => [.int (sumZ (replG K O T M Y G nc (thM K O T M Y G nc k g i) i) 8)]) (k := 0) (n2 := 0) ⟨hx, hb, hml, hown, hts⟩ (c_X4_sum8 l D cI cZ m10 (replG K O T M Y G nc (thM K O T M Y G nc k g i) i)) (va_cwS 2 hts gX4_richest_X4_sum rfl rfl rfl (by decide +kernel) ⟨Nat.le_of_ble_eq_true rfl, Nat.le_of_ble_eq_true rfl⟩) [0, 1] rfl hK hP hD hS hA [10] [0, 1, 2, 3, 4, 5, 6, 7, 8, 9] rfl (by decide) rfl (by decide) (by decide) [0, 1, 2, 3, 4, 5, 6, 7, 8, 9, 10] (by decide) (fun _ => rfl) (Nat.le_refl _) (Nat.le_refl _) (Nat.le_of_ble_eq_true rfl) (Nat.le_of_ble_eq_true rfl) rfl hl.1 (Nat.le_of_ble_eq_true rfl) (fun _ => rfl) rfl dX4_richest_52 (fun u H locs hu hP hD hS => ?_)
            refine lv_istore_n (lv' := [(2, .int (sumZ (replG K O T M Y G nc (thM K O T M Y G nc k g i) i) 8)), (1, .int (nI i)), (3, .int (nI i)), (0, .ref z)]) hx hb dX4_richest_55 rfl hl (by decide) rfl (fun ls hl => ?_)
            refine lv_iinc (v := (nI (i + 1))) (lv' := [(3, .int (nI (i + 1))), (2, .int (sumZ (replG K O T M Y G nc (thM K O T M Y G nc k g i) i) 8)), (1, .int (nI i)), (0, .ref z)]) (k := 2) hx hb dX4_richest_56 hl rfl (nI_add i 1) (by decide) rfl (fun ls hl => ?_)
            refine lv_goto (tgt := 6) hx hb dX4_richest_59 (by decide) ?_
            exact ih_6 (i + 1) (by omega) (by omega) (by omega) (nI i) (congrArg Prod.fst er).symm (sumZ (replG K O T M Y G nc (thM K O T M Y G nc k g i) i) 8) (congrArg Prod.snd er).symm (replG K O T M Y G nc (thM K O T M Y G nc k g i) i) et.symm _ _ hP hD hS ls (lv_sub hl [0, 1, 2, 3] rfl)
          · have er : rmR K O T M Y G nc k g (i + 1) = rmR K O T M Y G nc k g i := if_neg (fun q => c_4 q.2)
            refine lv_goto (tgt := 56) hx hb dX4_richest_42 (by decide) ?_
            refine lv_iinc (v := (nI (i + 1))) (lv' := [(3, .int (nI (i + 1))), (2, .int ((rmR K O T M Y G nc k g i).2)), (1, .int ((rmR K O T M Y G nc k g i).1)), (0, .ref z)]) (k := 0) hx hb dX4_richest_56 hl rfl (nI_add i 1) (by decide) rfl (fun ls hl => ?_)
            refine lv_goto (tgt := 6) hx hb dX4_richest_59 (by decide) ?_
            exact ih_6 (i + 1) (by omega) (by omega) (by omega) ((rmR K O T M Y G nc k g i).1) (congrArg Prod.fst er).symm ((rmR K O T M Y G nc k g i).2) (congrArg Prod.snd er).symm (replG K O T M Y G nc (thM K O T M Y G nc k g i) i) et.symm _ _ hP hD hS ls (lv_sub hl [0, 1, 2, 3] rfl)
        · have er : rmR K O T M Y G nc k g (i + 1) = rmR K O T M Y G nc k g i := if_neg (fun q => c_3 q.1)
          have et : thM K O T M Y G nc k g (i + 1) = thM K O T M Y G nc k g i := if_neg c_3
          refine lv_goto (tgt := 56) hx hb dX4_richest_22 (by decide) ?_
          refine lv_iinc (v := (nI (i + 1))) (lv' := [(3, .int (nI (i + 1))), (2, .int ((rmR K O T M Y G nc k g i).2)), (1, .int ((rmR K O T M Y G nc k g i).1)), (0, .ref z)]) (k := 0) hx hb dX4_richest_56 hl rfl (nI_add i 1) (by decide) rfl (fun ls hl => ?_)
          refine lv_goto (tgt := 6) hx hb dX4_richest_59 (by decide) ?_
          exact ih_6 (i + 1) (by omega) (by omega) (by omega) ((rmR K O T M Y G nc k g i).1) (congrArg Prod.fst er).symm ((rmR K O T M Y G nc k g i).2) (congrArg Prod.snd er).symm (thM K O T M Y G nc k g i) et.symm _ _ hP hD hS ls (lv_sub hl [0, 1, 2, 3] rfl)
  exact lp_6 ((n + 1) + 1) 0 (by omega) (by omega) (by omega) (-1) rfl (-1) rfl g rfl _ _ hP hD hS ls (lv_sub hl [0, 1, 2, 3] rfl)
theorem iu_X4_all_X4 : ∀ w ∈ wsX40, w ∈ wsX4_all := fun w h => (List.mem_cons_of_mem _ (List.mem_append_right _ h))
def rm_c_X4_all : Room := { frames := 3, cells := 0, slots := 0, locals := 65 }
set_option maxHeartbeats 4000000 in
set_option maxRecDepth 100000 in
theorem c_X4_all (l : Launch) (D : va_G) (cI : ClassId) (cZ : ClassId) (z m1 m2 m3 m4 m5 m6 m7 m8 m9 m10 : Nat) (th : Int32) (f K : Nat → Int32) (O : Nat → Nat) (T : Nat → Int32) (M : Nat → Nat) (Z : Nat → Int32) (k n nc : Nat) (Y : Nat → Nat) (G g : Nat → Int32) (y : Nat) (hn : n ≤ 40) (hk : k ≤ n) (hc : nc ≤ 6) (hM : ∀ i, M i ≤ 12) (hO : ∀ i, O i < 8) (hY : ∀ i, Y i ≤ 40) (hy : y ≤ 40) :
    kM l yX4_all wsX4_all rm_c_X4_all D [(cI, FieldType.int), (cZ, FieldType.boolean)] [.ref z, .int (nI y)] [(z, .inr (4, [.int th, .ref m1, .ref m2, .ref m3, .ref m4, .ref m5, .ref m6, .ref m7, .int (nI n), .int (nI nc), .ref m8, .ref m9, .ref m10])), (m1, .inl (cI, 8, .inl f)), (m2, .inl (cI, 480, .inl K)), (m3, .inl (cI, 480, .inl (nF O))), (m4, .inl (cI, 480, .inl T)), (m5, .inl (cI, 41, .inl (nF M))), (m6, .inl (cI, 40, .inl Z)), (m7, .inl (cZ, 40, .inl (prF k))), (m8, .inl (cI, 6, .inl (nF Y))), (m9, .inl (cI, 48, .inl G)), (m10, .inl (cI, 8, .inl g))] (fun _ : Unit => True) (fun _ => some (.int (nI (allM M Y nc k y (n + 1))))) (fun _ => [(z, .inr (4, [.int th, .ref m1, .ref m2, .ref m3, .ref m4, .ref m5, .ref m6, .ref m7, .int (nI n), .int (nI nc), .ref m8, .ref m9, .ref m10])), (m1, .inl (cI, 8, .inl f)), (m2, .inl (cI, 480, .inl K)), (m3, .inl (cI, 480, .inl (nF O))), (m4, .inl (cI, 480, .inl T)), (m5, .inl (cI, 41, .inl (nF M))), (m6, .inl (cI, 40, .inl Z)), (m7, .inl (cZ, 40, .inl (prF k))), (m8, .inl (cI, 6, .inl (nF Y))), (m9, .inl (cI, 48, .inl G)), (m10, .inl (cI, 8, .inl g))]) := by
  refine kM_of (cc := cX4_all) (maxL := 4) (ret := (some .int)) (own := RX4) (by decide) rfl rfl (Nat.le_of_ble_eq_true rfl) ?_
  intro p e s m args below meth c A ls Qz hx hb hml hr hts hown hlk hin hQ hA hS hP hD hK hl
  have hl : lv_has ls 4 [(0, .ref z), (1, .int (nI y))] := hl
  refine lv_iconst (v := (nI 0)) hx hb dX4_all_0 (by decide) ?_
  refine lv_istore_n (lv' := [(2, .int (nI 0)), (0, .ref z), (1, .int (nI y))]) hx hb dX4_all_1 rfl hl (by decide) rfl (fun ls hl => ?_)
  refine lv_iconst (v := (nI 0)) hx hb dX4_all_2 (by decide) ?_
  refine lv_istore_n (lv' := [(3, .int (nI 0)), (2, .int (nI 0)), (0, .ref z), (1, .int (nI y))]) hx hb dX4_all_3 rfl hl (by decide) rfl (fun ls hl => ?_)
  have lp_4 : ∀ (fu i : Nat), 0 ≤ i → i ≤ n + 1 → (n + 1) + 1 ≤ i + fu → ∀ (x1 : Nat), x1 = allM M Y nc k y i → ∀ (H : Heap) (locs : List Loc), va_P D vwCl [(z, .inr (4, [.int th, .ref m1, .ref m2, .ref m3, .ref m4, .ref m5, .ref m6, .ref m7, .int (nI n), .int (nI nc), .ref m8, .ref m9, .ref m10])), (m1, .inl (cI, 8, .inl f)), (m2, .inl (cI, 480, .inl K)), (m3, .inl (cI, 480, .inl (nF O))), (m4, .inl (cI, 480, .inl T)), (m5, .inl (cI, 41, .inl (nF M))), (m6, .inl (cI, 40, .inl Z)), (m7, .inl (cZ, 40, .inl (prF k))), (m8, .inl (cI, 6, .inl (nF Y))), (m9, .inl (cI, 48, .inl G)), (m10, .inl (cI, 8, .inl g))] H → va_D A [(z, .inr (4, [.int th, .ref m1, .ref m2, .ref m3, .ref m4, .ref m5, .ref m6, .ref m7, .int (nI n), .int (nI nc), .ref m8, .ref m9, .ref m10])), (m1, .inl (cI, 8, .inl f)), (m2, .inl (cI, 480, .inl K)), (m3, .inl (cI, 480, .inl (nF O))), (m4, .inl (cI, 480, .inl T)), (m5, .inl (cI, 41, .inl (nF M))), (m6, .inl (cI, 40, .inl Z)), (m7, .inl (cZ, 40, .inl (prF k))), (m8, .inl (cI, 6, .inl (nF Y))), (m9, .inl (cI, 48, .inl G)), (m10, .inl (cI, 8, .inl g))] → va_S A s.heap H locs → ∀ (ls : Array Slot), lv_has ls 4 [(3, .int (nI i)), (2, .int (nI x1)), (0, .ref z), (1, .int (nI y))] → W p l e rm_c_X4_all s m args below meth c H locs 0 0 Qz (F0 m 4 ls []) := by
    intro fu
    induction fu with
    | zero => intro i h1_4 h2_4 h3_4; exact absurd h3_4 (by omega)
    | succ fu ih_4 =>
      intro i h1_4 h2_4 h3_4 x1 ex1 H locs hP hD hS ls hl
      subst ex1
      have hfr := fromO_le (latO Y (nI i) nc) hY
      refine lv_iload_n hx hb dX4_all_4 rfl (lv_at hl 0 rfl) ?_
      refine lv_aload_n hx hb dX4_all_5 rfl (lv_at hl 2 rfl) ?_
      refine va_get (D := D) (ci := 4) (v := .int (nI n)) (C := RX4) (T := TX4) (N := 13) hx hb hts iu_X4_all_X4 hown hK hP 0 rfl rfl 8 (by decide) (hts _ (List.mem_of_getElem? (i := 1) rfl)) (fun _ h9 => h9) rfl dX4_all_6 ?_
      refine k_icmp_gt hx hb (tgt := 56) (by omega) (by omega) dX4_all_9 (by decide) (fun c_1 => ?_) (fun c_1 => ?_)
      · have e_2 : n + 1 = i := by omega
        subst e_2
        refine lv_iload_n hx hb dX4_all_56 rfl (lv_at hl 1 rfl) ?_
        exact kM_iret hx hb hr hlk hQ hP hD hK hS () rfl (Nat.le_of_ble_eq_true rfl) (Nat.le_of_ble_eq_true rfl) (congrArg (fun z => some (Value.int z)) (by rfl)) trivial dX4_all_57
      · refine lv_aload_n hx hb dX4_all_12 rfl (lv_at hl 2 rfl) ?_
        refine lv_iload_n hx hb dX4_all_13 rfl (lv_at hl 0 rfl) ?_
        refine kM_callV (As := [.int (nI i)]) (rest := []) (wr := []) (w2 := fun _ => [(z, .inr (4, [.int th, .ref m1, .ref m2, .ref m3, .ref m4, .ref m5, .ref m6, .ref m7, .int (nI n), .int (nI nc), .ref m8, .ref m9, .ref m10])), (m1, .inl (cI, 8, .inl f)), (m2, .inl (cI, 480, .inl K)), (m3, .inl (cI, 480, .inl (nF O))), (m4, .inl (cI, 480, .inl T)), (m5, .inl (cI, 41, .inl (nF M))), (m6, .inl (cI, 40, .inl Z)), (m7, .inl (cZ, 40, .inl (prF k))), (m8, .inl (cI, 6, .inl (nF Y))), (m9, .inl (cI, 48, .inl G)), (m10, .inl (cI, 8, .inl g))]) (st2 := fun _ => [.int (b2i (i ≤ fromO Y (latO Y (nI i) nc) ∨ ¬ fromO Y (latO Y (nI i) nc) < k))]) (k := 0) (n2 := 0) ⟨hx, hb, hml, hown, hts⟩ (c_X4_can l D cI cZ z m1 m2 m3 m4 m5 m6 m7 m8 m9 m10 th f K O T M Z k n nc Y G g i hn hk hc hM hO hY (by omega)) (cwV 1 hts gX4_all_X4_can rfl rfl rfl (by decide +kernel) ⟨Nat.le_of_ble_eq_true rfl, Nat.le_of_ble_eq_true rfl⟩) 0 rfl rfl rfl [0, 1] rfl hK hP hD hS hA [0, 1, 2, 3, 4, 5, 6, 7, 8, 9, 10] [] rfl (by decide) rfl (by decide) (by decide) [0, 1, 2, 3, 4, 5, 6, 7, 8, 9, 10] (by decide) (fun _ => rfl) (Nat.le_refl _) (Nat.le_refl _) (Nat.le_of_ble_eq_true rfl) (Nat.le_of_ble_eq_true rfl) rfl hl.1 (Nat.le_of_ble_eq_true rfl) (fun _ => rfl) rfl dX4_all_14 (fun u H locs hu hP hD hS => ?_)
        refine k_bif_eq hx hb (tgt := 50) dX4_all_17 (by decide) (fun c_3 => ?_) (fun c_3 => ?_)
        · have ea : allM M Y nc k y i = allM M Y nc k y (i + 1) := (if_neg c_3).symm
          refine lv_iinc (v := (nI (i + 1))) (lv' := [(3, .int (nI (i + 1))), (2, .int (nI (allM M Y nc k y i))), (0, .ref z), (1, .int (nI y))]) (k := 0) hx hb dX4_all_50 hl rfl (nI_add i 1) (by decide) rfl (fun ls hl => ?_)
          refine lv_goto (tgt := 4) hx hb dX4_all_53 (by decide) ?_
          exact ih_4 (i + 1) (by omega) (by omega) (by omega) (allM M Y nc k y i) ea _ _ hP hD hS ls (lv_sub hl [0, 1, 2, 3] rfl)
        · have hca := c_3
          refine lv_iload_n hx hb dX4_all_20 rfl (lv_at hl 1 rfl) ?_
          refine lv_aload_n hx hb dX4_all_21 rfl (lv_at hl 2 rfl) ?_
          refine lv_iload_n hx hb dX4_all_22 rfl (lv_at hl 3 rfl) ?_
          refine lv_iload_n hx hb dX4_all_23 rfl (lv_at hl 0 rfl) ?_
          refine k_icmp_gt hx hb (tgt := 39) (by omega) (by omega) dX4_all_24 (by decide) (fun c_4 => ?_) (fun c_4 => ?_)
          · have ec := c_4
            refine lv_aload_n hx hb dX4_all_39 rfl (lv_at hl 2 rfl) ?_
            refine lv_iload_n hx hb dX4_all_40 rfl (lv_at hl 0 rfl) ?_
            refine kM_callV (As := [.int (nI i)]) (rest := [.ref z, .int (nI (allM M Y nc k y i))]) (wr := []) (w2 := fun _ => [(z, .inr (4, [.int th, .ref m1, .ref m2, .ref m3, .ref m4, .ref m5, .ref m6, .ref m7, .int (nI n), .int (nI nc), .ref m8, .ref m9, .ref m10])), (m1, .inl (cI, 8, .inl f)), (m2, .inl (cI, 480, .inl K)), (m3, .inl (cI, 480, .inl (nF O))), (m4, .inl (cI, 480, .inl T)), (m5, .inl (cI, 41, .inl (nF M))), (m6, .inl (cI, 40, .inl Z)), (m7, .inl (cZ, 40, .inl (prF k))), (m8, .inl (cI, 6, .inl (nF Y))), (m9, .inl (cI, 48, .inl G)), (m10, .inl (cI, 8, .inl g))]) (st2 := fun _ => [.int (nI (fromO Y (latO Y (nI i) nc))), .ref z, .int (nI (allM M Y nc k y i))]) (k := 0) (n2 := 0) ⟨hx, hb, hml, hown, hts⟩ (c_X4_from l D cI cZ z m1 m2 m3 m4 m5 m6 m7 m8 m9 m10 th f K O T M Z k n nc Y G g i hn hk hc hM hO hY) (cwV 1 hts gX4_all_X4_from rfl rfl rfl (by decide +kernel) ⟨Nat.le_of_ble_eq_true rfl, Nat.le_of_ble_eq_true rfl⟩) 0 rfl rfl rfl [0, 1] rfl hK hP hD hS hA [0, 1, 2, 3, 4, 5, 6, 7, 8, 9, 10] [] rfl (by decide) rfl (by decide) (by decide) [0, 1, 2, 3, 4, 5, 6, 7, 8, 9, 10] (by decide) (fun _ => rfl) (Nat.le_refl _) (Nat.le_refl _) (Nat.le_of_ble_eq_true rfl) (Nat.le_of_ble_eq_true rfl) rfl hl.1 (Nat.le_of_ble_eq_true rfl) (fun _ => rfl) rfl dX4_all_41 (fun u H locs hu hP hD hS => ?_)
            refine lv_iload_n hx hb dX4_all_44 rfl (lv_at hl 0 rfl) ?_
            refine kM_callV (As := [.int (nI (fromO Y (latO Y (nI i) nc))), .int (nI i)]) (rest := [.int (nI (allM M Y nc k y i))]) (wr := []) (w2 := fun _ => [(z, .inr (4, [.int th, .ref m1, .ref m2, .ref m3, .ref m4, .ref m5, .ref m6, .ref m7, .int (nI n), .int (nI nc), .ref m8, .ref m9, .ref m10])), (m1, .inl (cI, 8, .inl f)), (m2, .inl (cI, 480, .inl K)), (m3, .inl (cI, 480, .inl (nF O))), (m4, .inl (cI, 480, .inl T)), (m5, .inl (cI, 41, .inl (nF M))), (m6, .inl (cI, 40, .inl Z)), (m7, .inl (cZ, 40, .inl (prF k))), (m8, .inl (cI, 6, .inl (nF Y))), (m9, .inl (cI, 48, .inl G)), (m10, .inl (cI, 8, .inl g))]) (st2 := fun _ => [.int (nI (sumM M (fromO Y (latO Y (nI i) nc)) (i - (fromO Y (latO Y (nI i) nc))))), .int (nI (allM M Y nc k y i))]) (k := 0) (n2 := 0) ⟨hx, hb, hml, hown, hts⟩ (c_X4_cost l D cI cZ z m1 m2 m3 m4 m5 m6 m7 m8 m9 m10 th f K O T M Z k n nc Y G g (fromO Y (latO Y (nI i) nc)) i hn hk hc hM hO hY (by omega) (by omega)) (cwV 2 hts gX4_all_X4_cost rfl rfl rfl (by decide +kernel) ⟨Nat.le_of_ble_eq_true rfl, Nat.le_of_ble_eq_true rfl⟩) 0 rfl rfl rfl [0, 1] rfl hK hP hD hS hA [0, 1, 2, 3, 4, 5, 6, 7, 8, 9, 10] [] rfl (by decide) rfl (by decide) (by decide) [0, 1, 2, 3, 4, 5, 6, 7, 8, 9, 10] (by decide) (fun _ => rfl) (Nat.le_refl _) (Nat.le_refl _) (Nat.le_of_ble_eq_true rfl) (Nat.le_of_ble_eq_true rfl) rfl hl.1 (Nat.le_of_ble_eq_true rfl) (fun _ => rfl) rfl dX4_all_45 (fun u H locs hu hP hD hS => ?_)
            have ea : allM M Y nc k y i + (sumM M (fromO Y (latO Y (nI i) nc)) (i - (fromO Y (latO Y (nI i) nc)))) = allM M Y nc k y (i + 1) := by rw [allM, if_pos hca, costM, if_pos (by omega)]
            refine k_iadd hx hb dX4_all_48 ?_
            refine lv_istore_n (lv' := [(2, .int (nI ((allM M Y nc k y i) + (sumM M (fromO Y (latO Y (nI i) nc)) (i - (fromO Y (latO Y (nI i) nc))))))), (3, .int (nI i)), (0, .ref z), (1, .int (nI y))]) hx hb dX4_all_49 rfl hl (by decide) rfl (fun ls hl => ?_)
            refine lv_iinc (v := (nI (i + 1))) (lv' := [(3, .int (nI (i + 1))), (2, .int (nI ((allM M Y nc k y i) + (sumM M (fromO Y (latO Y (nI i) nc)) (i - (fromO Y (latO Y (nI i) nc))))))), (0, .ref z), (1, .int (nI y))]) (k := 1) hx hb dX4_all_50 hl rfl (nI_add i 1) (by decide) rfl (fun ls hl => ?_)
            refine lv_goto (tgt := 4) hx hb dX4_all_53 (by decide) ?_
            exact ih_4 (i + 1) (by omega) (by omega) (by omega) ((allM M Y nc k y i) + (sumM M (fromO Y (latO Y (nI i) nc)) (i - (fromO Y (latO Y (nI i) nc))))) ea _ _ hP hD hS ls (lv_sub hl [0, 1, 2, 3] rfl)
          · have ec := c_4
            refine lv_iload_n hx hb dX4_all_27 rfl (lv_at hl 3 rfl) ?_
            refine lv_aload_n hx hb dX4_all_28 rfl (lv_at hl 2 rfl) ?_
            refine lv_iload_n hx hb dX4_all_29 rfl (lv_at hl 0 rfl) ?_
            refine kM_callV (As := [.int (nI i)]) (rest := [.int (nI y), .ref z, .int (nI (allM M Y nc k y i))]) (wr := []) (w2 := fun _ => [(z, .inr (4, [.int th, .ref m1, .ref m2, .ref m3, .ref m4, .ref m5, .ref m6, .ref m7, .int (nI n), .int (nI nc), .ref m8, .ref m9, .ref m10])), (m1, .inl (cI, 8, .inl f)), (m2, .inl (cI, 480, .inl K)), (m3, .inl (cI, 480, .inl (nF O))), (m4, .inl (cI, 480, .inl T)), (m5, .inl (cI, 41, .inl (nF M))), (m6, .inl (cI, 40, .inl Z)), (m7, .inl (cZ, 40, .inl (prF k))), (m8, .inl (cI, 6, .inl (nF Y))), (m9, .inl (cI, 48, .inl G)), (m10, .inl (cI, 8, .inl g))]) (st2 := fun _ => [.int (nI (fromO Y (latO Y (nI i) nc))), .int (nI y), .ref z, .int (nI (allM M Y nc k y i))]) (k := 0) (n2 := 0) ⟨hx, hb, hml, hown, hts⟩ (c_X4_from l D cI cZ z m1 m2 m3 m4 m5 m6 m7 m8 m9 m10 th f K O T M Z k n nc Y G g i hn hk hc hM hO hY) (cwV 1 hts gX4_all_X4_from rfl rfl rfl (by decide +kernel) ⟨Nat.le_of_ble_eq_true rfl, Nat.le_of_ble_eq_true rfl⟩) 0 rfl rfl rfl [0, 1] rfl hK hP hD hS hA [0, 1, 2, 3, 4, 5, 6, 7, 8, 9, 10] [] rfl (by decide) rfl (by decide) (by decide) [0, 1, 2, 3, 4, 5, 6, 7, 8, 9, 10] (by decide) (fun _ => rfl) (Nat.le_refl _) (Nat.le_refl _) (Nat.le_of_ble_eq_true rfl) (Nat.le_of_ble_eq_true rfl) rfl hl.1 (Nat.le_of_ble_eq_true rfl) (fun _ => rfl) rfl dX4_all_30 (fun u H locs hu hP hD hS => ?_)
            refine va_mmax hx hb (hml.trans hl.1.symm) hown (hts _ (List.mem_of_getElem? (i := 2) rfl)) (hts _ (List.mem_of_getElem? (i := 3) rfl)) (hts _ (List.mem_of_getElem? (i := 4) rfl)) (hts _ (List.mem_of_getElem? (i := 5) rfl)) (Nat.le_of_ble_eq_true rfl) (Nat.le_of_ble_eq_true rfl) (Nat.le_of_ble_eq_true rfl) (Nat.le_of_ble_eq_true rfl) dX4_all_33 ?_
            refine k_top (y := (jmax (nI y) (nI (fromO Y (latO Y (nI i) nc))))) rfl ?_
            refine k_top (y := (nI (max y (fromO Y (latO Y (nI i) nc))))) (k_maxN (by omega) (by omega)) ?_
            refine lv_goto (tgt := 44) hx hb dX4_all_36 (by decide) ?_
            refine lv_iload_n hx hb dX4_all_44 rfl (lv_at hl 0 rfl) ?_
            refine kM_callV (As := [.int (nI (max y (fromO Y (latO Y (nI i) nc)))), .int (nI i)]) (rest := [.int (nI (allM M Y nc k y i))]) (wr := []) (w2 := fun _ => [(z, .inr (4, [.int th, .ref m1, .ref m2, .ref m3, .ref m4, .ref m5, .ref m6, .ref m7, .int (nI n), .int (nI nc), .ref m8, .ref m9, .ref m10])), (m1, .inl (cI, 8, .inl f)), (m2, .inl (cI, 480, .inl K)), (m3, .inl (cI, 480, .inl (nF O))), (m4, .inl (cI, 480, .inl T)), (m5, .inl (cI, 41, .inl (nF M))), (m6, .inl (cI, 40, .inl Z)), (m7, .inl (cZ, 40, .inl (prF k))), (m8, .inl (cI, 6, .inl (nF Y))), (m9, .inl (cI, 48, .inl G)), (m10, .inl (cI, 8, .inl g))]) (st2 := fun _ => [.int (nI (sumM M (max y (fromO Y (latO Y (nI i) nc))) (i - (max y (fromO Y (latO Y (nI i) nc)))))), .int (nI (allM M Y nc k y i))]) (k := 0) (n2 := 0) ⟨hx, hb, hml, hown, hts⟩ (c_X4_cost l D cI cZ z m1 m2 m3 m4 m5 m6 m7 m8 m9 m10 th f K O T M Z k n nc Y G g (max y (fromO Y (latO Y (nI i) nc))) i hn hk hc hM hO hY (by omega) (by omega)) (cwV 2 hts gX4_all_X4_cost rfl rfl rfl (by decide +kernel) ⟨Nat.le_of_ble_eq_true rfl, Nat.le_of_ble_eq_true rfl⟩) 0 rfl rfl rfl [0, 1] rfl hK hP hD hS hA [0, 1, 2, 3, 4, 5, 6, 7, 8, 9, 10] [] rfl (by decide) rfl (by decide) (by decide) [0, 1, 2, 3, 4, 5, 6, 7, 8, 9, 10] (by decide) (fun _ => rfl) (Nat.le_refl _) (Nat.le_refl _) (Nat.le_of_ble_eq_true rfl) (Nat.le_of_ble_eq_true rfl) rfl hl.1 (Nat.le_of_ble_eq_true rfl) (fun _ => rfl) rfl dX4_all_45 (fun u H locs hu hP hD hS => ?_)
            have ea : allM M Y nc k y i + (sumM M (max y (fromO Y (latO Y (nI i) nc))) (i - (max y (fromO Y (latO Y (nI i) nc))))) = allM M Y nc k y (i + 1) := by rw [allM, if_pos hca, costM, if_neg (by omega)]
            refine k_iadd hx hb dX4_all_48 ?_
            refine lv_istore_n (lv' := [(2, .int (nI ((allM M Y nc k y i) + (sumM M (max y (fromO Y (latO Y (nI i) nc))) (i - (max y (fromO Y (latO Y (nI i) nc)))))))), (3, .int (nI i)), (0, .ref z), (1, .int (nI y))]) hx hb dX4_all_49 rfl hl (by decide) rfl (fun ls hl => ?_)
            refine lv_iinc (v := (nI (i + 1))) (lv' := [(3, .int (nI (i + 1))), (2, .int (nI ((allM M Y nc k y i) + (sumM M (max y (fromO Y (latO Y (nI i) nc))) (i - (max y (fromO Y (latO Y (nI i) nc)))))))), (0, .ref z), (1, .int (nI y))]) (k := 1) hx hb dX4_all_50 hl rfl (nI_add i 1) (by decide) rfl (fun ls hl => ?_)
            refine lv_goto (tgt := 4) hx hb dX4_all_53 (by decide) ?_
            exact ih_4 (i + 1) (by omega) (by omega) (by omega) ((allM M Y nc k y i) + (sumM M (max y (fromO Y (latO Y (nI i) nc))) (i - (max y (fromO Y (latO Y (nI i) nc)))))) ea _ _ hP hD hS ls (lv_sub hl [0, 1, 2, 3] rfl)
  exact lp_4 ((n + 1) + 1) 0 (by omega) (by omega) (by omega) 0 rfl _ _ hP hD hS ls (lv_sub hl [0, 1, 2, 3] rfl)
theorem iu_X4_coreWanted_X4 : ∀ w ∈ wsX40, w ∈ wsX4_coreWanted := fun w h => (List.mem_cons_of_mem _ (List.mem_append_right _ h))
def rm_c_X4_coreWanted : Room := { frames := 4, cells := 0, slots := 0, locals := 88 }
set_option maxHeartbeats 4000000 in
set_option maxRecDepth 100000 in
theorem c_X4_coreWanted (l : Launch) (D : va_G) (cI : ClassId) (cZ : ClassId) (z m1 m2 m3 m4 m5 m6 m7 m8 m9 m10 : Nat) (th : Int32) (f K : Nat → Int32) (O : Nat → Nat) (T : Nat → Int32) (M : Nat → Nat) (Z : Nat → Int32) (k n nc : Nat) (Y : Nat → Nat) (G g : Nat → Int32) (hn : n ≤ 40) (hk : k ≤ n) (hc : nc ≤ 6) (hM : ∀ i, M i ≤ 12) (hO : ∀ i, O i < 8) (hY : ∀ i, Y i ≤ 40) :
    kM l yX4_coreWanted wsX4_coreWanted rm_c_X4_coreWanted D [(cI, FieldType.int), (cZ, FieldType.boolean)] [.ref z] [(z, .inr (4, [.int th, .ref m1, .ref m2, .ref m3, .ref m4, .ref m5, .ref m6, .ref m7, .int (nI n), .int (nI nc), .ref m8, .ref m9, .ref m10])), (m1, .inl (cI, 8, .inl f)), (m2, .inl (cI, 480, .inl K)), (m3, .inl (cI, 480, .inl (nF O))), (m4, .inl (cI, 480, .inl T)), (m5, .inl (cI, 41, .inl (nF M))), (m6, .inl (cI, 40, .inl Z)), (m7, .inl (cZ, 40, .inl (prF k))), (m8, .inl (cI, 6, .inl (nF Y))), (m9, .inl (cI, 48, .inl G)), (m10, .inl (cI, 8, .inl g))] (fun _ : Unit => True) (fun _ => some (.int ((cwR M Y n nc k n).1))) (fun _ => [(z, .inr (4, [.int th, .ref m1, .ref m2, .ref m3, .ref m4, .ref m5, .ref m6, .ref m7, .int (nI n), .int (nI nc), .ref m8, .ref m9, .ref m10])), (m1, .inl (cI, 8, .inl f)), (m2, .inl (cI, 480, .inl K)), (m3, .inl (cI, 480, .inl (nF O))), (m4, .inl (cI, 480, .inl T)), (m5, .inl (cI, 41, .inl (nF M))), (m6, .inl (cI, 40, .inl Z)), (m7, .inl (cZ, 40, .inl (prF k))), (m8, .inl (cI, 6, .inl (nF Y))), (m9, .inl (cI, 48, .inl G)), (m10, .inl (cI, 8, .inl g))]) := by
  refine kM_of (cc := cX4_coreWanted) (maxL := 4) (ret := (some .int)) (own := RX4) (by decide) rfl rfl (Nat.le_of_ble_eq_true rfl) ?_
  intro p e s m args below meth c A ls Qz hx hb hml hr hts hown hlk hin hQ hA hS hP hD hK hl
  have hl : lv_has ls 4 [(0, .ref z)] := hl
  refine lv_iconst (v := (-1)) hx hb dX4_coreWanted_0 (by decide) ?_
  refine lv_istore_n (lv' := [(1, .int (-1)), (0, .ref z)]) hx hb dX4_coreWanted_1 rfl hl (by decide) rfl (fun ls hl => ?_)
  refine lv_aload_n hx hb dX4_coreWanted_2 rfl (lv_at hl 1 rfl) ?_
  refine lv_iconst (v := (nI 0)) hx hb dX4_coreWanted_3 (by decide) ?_
  refine kM_callV (As := [.int (nI 0)]) (rest := []) (wr := []) (w2 := fun _ => [(z, .inr (4, [.int th, .ref m1, .ref m2, .ref m3, .ref m4, .ref m5, .ref m6, .ref m7, .int (nI n), .int (nI nc), .ref m8, .ref m9, .ref m10])), (m1, .inl (cI, 8, .inl f)), (m2, .inl (cI, 480, .inl K)), (m3, .inl (cI, 480, .inl (nF O))), (m4, .inl (cI, 480, .inl T)), (m5, .inl (cI, 41, .inl (nF M))), (m6, .inl (cI, 40, .inl Z)), (m7, .inl (cZ, 40, .inl (prF k))), (m8, .inl (cI, 6, .inl (nF Y))), (m9, .inl (cI, 48, .inl G)), (m10, .inl (cI, 8, .inl g))]) (st2 := fun _ => [.int (nI (allM M Y nc k 0 (n + 1)))]) (k := 0) (n2 := 0) ⟨hx, hb, hml, hown, hts⟩ (c_X4_all l D cI cZ z m1 m2 m3 m4 m5 m6 m7 m8 m9 m10 th f K O T M Z k n nc Y G g 0 hn hk hc hM hO hY (by omega)) (cwV 1 hts gX4_coreWanted_X4_all rfl rfl rfl (by decide +kernel) ⟨Nat.le_of_ble_eq_true rfl, Nat.le_of_ble_eq_true rfl⟩) 0 rfl rfl rfl [0, 1] rfl hK hP hD hS hA [0, 1, 2, 3, 4, 5, 6, 7, 8, 9, 10] [] rfl (by decide) rfl (by decide) (by decide) [0, 1, 2, 3, 4, 5, 6, 7, 8, 9, 10] (by decide) (fun _ => rfl) (Nat.le_refl _) (Nat.le_refl _) (Nat.le_of_ble_eq_true rfl) (Nat.le_of_ble_eq_true rfl) rfl hl.1 (Nat.le_of_ble_eq_true rfl) (fun _ => rfl) rfl dX4_coreWanted_4 (fun u H locs hu hP hD hS => ?_)
  refine lv_istore_n (lv' := [(2, .int (nI (allM M Y nc k 0 (n + 1)))), (1, .int (-1)), (0, .ref z)]) hx hb dX4_coreWanted_7 rfl hl (by decide) rfl (fun ls hl => ?_)
  refine lv_iconst (v := (nI 1)) hx hb dX4_coreWanted_8 (by decide) ?_
  refine lv_istore_n (lv' := [(3, .int (nI 1)), (2, .int (nI (allM M Y nc k 0 (n + 1)))), (1, .int (-1)), (0, .ref z)]) hx hb dX4_coreWanted_9 rfl hl (by decide) rfl (fun ls hl => ?_)
  have lp_10 : ∀ (fu i : Nat), 0 ≤ i → i ≤ n → n + 1 ≤ i + fu → ∀ (b : Int32), b = (cwR M Y n nc k i).1 → ∀ (mo : Nat), mo = (cwR M Y n nc k i).2 → ∀ (H : Heap) (locs : List Loc), va_P D vwCl [(z, .inr (4, [.int th, .ref m1, .ref m2, .ref m3, .ref m4, .ref m5, .ref m6, .ref m7, .int (nI n), .int (nI nc), .ref m8, .ref m9, .ref m10])), (m1, .inl (cI, 8, .inl f)), (m2, .inl (cI, 480, .inl K)), (m3, .inl (cI, 480, .inl (nF O))), (m4, .inl (cI, 480, .inl T)), (m5, .inl (cI, 41, .inl (nF M))), (m6, .inl (cI, 40, .inl Z)), (m7, .inl (cZ, 40, .inl (prF k))), (m8, .inl (cI, 6, .inl (nF Y))), (m9, .inl (cI, 48, .inl G)), (m10, .inl (cI, 8, .inl g))] H → va_D A [(z, .inr (4, [.int th, .ref m1, .ref m2, .ref m3, .ref m4, .ref m5, .ref m6, .ref m7, .int (nI n), .int (nI nc), .ref m8, .ref m9, .ref m10])), (m1, .inl (cI, 8, .inl f)), (m2, .inl (cI, 480, .inl K)), (m3, .inl (cI, 480, .inl (nF O))), (m4, .inl (cI, 480, .inl T)), (m5, .inl (cI, 41, .inl (nF M))), (m6, .inl (cI, 40, .inl Z)), (m7, .inl (cZ, 40, .inl (prF k))), (m8, .inl (cI, 6, .inl (nF Y))), (m9, .inl (cI, 48, .inl G)), (m10, .inl (cI, 8, .inl g))] → va_S A s.heap H locs → ∀ (ls : Array Slot), lv_has ls 4 [(3, .int (nI (i + 1))), (2, .int (nI mo)), (1, .int b), (0, .ref z)] → W p l e rm_c_X4_coreWanted s m args below meth c H locs 0 0 Qz (F0 m 10 ls []) := by
    intro fu
    induction fu with
    | zero => intro i h1_10 h2_10 h3_10; exact absurd h3_10 (by omega)
    | succ fu ih_10 =>
      intro i h1_10 h2_10 h3_10 b eb mo emo H locs hP hD hS ls hl
      subst eb
      subst emo
      have hmo := cw_le (Y := Y) (nc := nc) (k := k) hn hM i
      have hal := all_le (Y := Y) nc k (i + 1) hM (n + 1) (by omega)
      refine lv_iload_n hx hb dX4_coreWanted_10 rfl (lv_at hl 0 rfl) ?_
      refine lv_aload_n hx hb dX4_coreWanted_11 rfl (lv_at hl 3 rfl) ?_
      refine va_get (D := D) (ci := 4) (v := .int (nI n)) (C := RX4) (T := TX4) (N := 13) hx hb hts iu_X4_coreWanted_X4 hown hK hP 0 rfl rfl 8 (by decide) (hts _ (List.mem_of_getElem? (i := 1) rfl)) (fun _ h9 => h9) rfl dX4_coreWanted_12 ?_
      refine k_icmp_gt hx hb (tgt := 52) (by omega) (by omega) dX4_coreWanted_15 (by decide) (fun c_1 => ?_) (fun c_1 => ?_)
      · have e_2 : n = i := by omega
        subst e_2
        refine lv_iload_n hx hb dX4_coreWanted_52 rfl (lv_at hl 2 rfl) ?_
        exact kM_iret hx hb hr hlk hQ hP hD hK hS () rfl (Nat.le_of_ble_eq_true rfl) (Nat.le_of_ble_eq_true rfl) (congrArg (fun z => some (Value.int z)) (by rfl)) trivial dX4_coreWanted_53
      · refine lv_aload_n hx hb dX4_coreWanted_18 rfl (lv_at hl 3 rfl) ?_
        refine lv_iload_n hx hb dX4_coreWanted_19 rfl (lv_at hl 0 rfl) ?_
        refine kM_callV (As := [.int (nI (i + 1))]) (rest := []) (wr := []) (w2 := fun _ => [(z, .inr (4, [.int th, .ref m1, .ref m2, .ref m3, .ref m4, .ref m5, .ref m6, .ref m7, .int (nI n), .int (nI nc), .ref m8, .ref m9, .ref m10])), (m1, .inl (cI, 8, .inl f)), (m2, .inl (cI, 480, .inl K)), (m3, .inl (cI, 480, .inl (nF O))), (m4, .inl (cI, 480, .inl T)), (m5, .inl (cI, 41, .inl (nF M))), (m6, .inl (cI, 40, .inl Z)), (m7, .inl (cZ, 40, .inl (prF k))), (m8, .inl (cI, 6, .inl (nF Y))), (m9, .inl (cI, 48, .inl G)), (m10, .inl (cI, 8, .inl g))]) (st2 := fun _ => [.int (b2i ((i + 1) ≤ fromO Y (latO Y (nI (i + 1)) nc) ∨ ¬ fromO Y (latO Y (nI (i + 1)) nc) < k))]) (k := 0) (n2 := 0) ⟨hx, hb, hml, hown, hts⟩ (c_X4_can l D cI cZ z m1 m2 m3 m4 m5 m6 m7 m8 m9 m10 th f K O T M Z k n nc Y G g (i + 1) hn hk hc hM hO hY (by omega)) (cwV 1 hts gX4_coreWanted_X4_can rfl rfl rfl (by decide +kernel) ⟨Nat.le_of_ble_eq_true rfl, Nat.le_of_ble_eq_true rfl⟩) 0 rfl rfl rfl [0, 1] rfl hK hP hD hS hA [0, 1, 2, 3, 4, 5, 6, 7, 8, 9, 10] [] rfl (by decide) rfl (by decide) (by decide) [0, 1, 2, 3, 4, 5, 6, 7, 8, 9, 10] (by decide) (fun _ => rfl) (Nat.le_refl _) (Nat.le_refl _) (Nat.le_of_ble_eq_true rfl) (Nat.le_of_ble_eq_true rfl) rfl hl.1 (Nat.le_of_ble_eq_true rfl) (fun _ => rfl) rfl dX4_coreWanted_20 (fun u H locs hu hP hD hS => ?_)
        refine k_bif_eq hx hb (tgt := 46) dX4_coreWanted_23 (by decide) (fun c_3 => ?_) (fun c_3 => ?_)
        · have er : cwR M Y n nc k (i + 1) = cwR M Y n nc k i := if_neg (fun q => c_3 q.1)
          refine lv_iinc (v := (nI ((i + 1) + 1))) (lv' := [(3, .int (nI ((i + 1) + 1))), (2, .int (nI ((cwR M Y n nc k i).2))), (1, .int ((cwR M Y n nc k i).1)), (0, .ref z)]) (k := 0) hx hb dX4_coreWanted_46 hl rfl (nI_add (i + 1) 1) (by decide) rfl (fun ls hl => ?_)
          refine lv_goto (tgt := 10) hx hb dX4_coreWanted_49 (by decide) ?_
          exact ih_10 (i + 1) (by omega) (by omega) (by omega) ((cwR M Y n nc k i).1) (congrArg Prod.fst er).symm ((cwR M Y n nc k i).2) (congrArg Prod.snd er).symm _ _ hP hD hS ls (lv_sub hl [0, 1, 2, 3] rfl)
        · have hca := c_3
          refine lv_aload_n hx hb dX4_coreWanted_26 rfl (lv_at hl 3 rfl) ?_
          refine lv_iload_n hx hb dX4_coreWanted_27 rfl (lv_at hl 0 rfl) ?_
          refine kM_callV (As := [.int (nI (i + 1))]) (rest := []) (wr := []) (w2 := fun _ => [(z, .inr (4, [.int th, .ref m1, .ref m2, .ref m3, .ref m4, .ref m5, .ref m6, .ref m7, .int (nI n), .int (nI nc), .ref m8, .ref m9, .ref m10])), (m1, .inl (cI, 8, .inl f)), (m2, .inl (cI, 480, .inl K)), (m3, .inl (cI, 480, .inl (nF O))), (m4, .inl (cI, 480, .inl T)), (m5, .inl (cI, 41, .inl (nF M))), (m6, .inl (cI, 40, .inl Z)), (m7, .inl (cZ, 40, .inl (prF k))), (m8, .inl (cI, 6, .inl (nF Y))), (m9, .inl (cI, 48, .inl G)), (m10, .inl (cI, 8, .inl g))]) (st2 := fun _ => [.int (nI (allM M Y nc k (i + 1) (n + 1)))]) (k := 0) (n2 := 0) ⟨hx, hb, hml, hown, hts⟩ (c_X4_all l D cI cZ z m1 m2 m3 m4 m5 m6 m7 m8 m9 m10 th f K O T M Z k n nc Y G g (i + 1) hn hk hc hM hO hY (by omega)) (cwV 1 hts gX4_coreWanted_X4_all rfl rfl rfl (by decide +kernel) ⟨Nat.le_of_ble_eq_true rfl, Nat.le_of_ble_eq_true rfl⟩) 0 rfl rfl rfl [0, 1] rfl hK hP hD hS hA [0, 1, 2, 3, 4, 5, 6, 7, 8, 9, 10] [] rfl (by decide) rfl (by decide) (by decide) [0, 1, 2, 3, 4, 5, 6, 7, 8, 9, 10] (by decide) (fun _ => rfl) (Nat.le_refl _) (Nat.le_refl _) (Nat.le_of_ble_eq_true rfl) (Nat.le_of_ble_eq_true rfl) rfl hl.1 (Nat.le_of_ble_eq_true rfl) (fun _ => rfl) rfl dX4_coreWanted_28 (fun u H locs hu hP hD hS => ?_)
          refine lv_iload_n hx hb dX4_coreWanted_31 rfl (lv_at hl 1 rfl) ?_
          refine k_icmp_lt hx hb (tgt := 38) (by omega) (by omega) dX4_coreWanted_32 (by decide) (fun c_4 => ?_) (fun c_4 => ?_)
          · have er : cwR M Y n nc k (i + 1) = (nI (i + 1), allM M Y nc k (i + 1) (n + 1)) := if_pos ⟨hca, c_4⟩
            refine lv_iload_n hx hb dX4_coreWanted_38 rfl (lv_at hl 0 rfl) ?_
            refine lv_istore_n (lv' := [(1, .int (nI (i + 1))), (3, .int (nI (i + 1))), (2, .int (nI ((cwR M Y n nc k i).2))), (0, .ref z)]) hx hb dX4_coreWanted_39 rfl hl (by decide) rfl (fun ls hl => ?_)
            refine lv_aload_n hx hb dX4_coreWanted_40 rfl (lv_at hl 3 rfl) ?_
            refine lv_iload_n hx hb dX4_coreWanted_41 rfl (lv_at hl 1 rfl) ?_
            refine kM_callV (As := [.int (nI (i + 1))]) (rest := []) (wr := []) (w2 := fun _ => [(z, .inr (4, [.int th, .ref m1, .ref m2, .ref m3, .ref m4, .ref m5, .ref m6, .ref m7, .int (nI n), .int (nI nc), .ref m8, .ref m9, .ref m10])), (m1, .inl (cI, 8, .inl f)), (m2, .inl (cI, 480, .inl K)), (m3, .inl (cI, 480, .inl (nF O))), (m4, .inl (cI, 480, .inl T)), (m5, .inl (cI, 41, .inl (nF M))), (m6, .inl (cI, 40, .inl Z)), (m7, .inl (cZ, 40, .inl (prF k))), (m8, .inl (cI, 6, .inl (nF Y))), (m9, .inl (cI, 48, .inl G)), (m10, .inl (cI, 8, .inl g))]) (st2 := fun _ => [.int (nI (allM M Y nc k (i + 1) (n + 1)))]) (k := 0) (n2 := 0) ⟨hx, hb, hml, hown, hts⟩ (c_X4_all l D cI cZ z m1 m2 m3 m4 m5 m6 m7 m8 m9 m10 th f K O T M Z k n nc Y G g (i + 1) hn hk hc hM hO hY (by omega)) (cwV 1 hts gX4_coreWanted_X4_all rfl rfl rfl (by decide +kernel) ⟨Nat.le_of_ble_eq_true rfl, Nat.le_of_ble_eq_true rfl⟩) 0 rfl rfl rfl [0, 1] rfl hK hP hD hS hA [0, 1, 2, 3, 4, 5, 6, 7, 8, 9, 10] [] rfl (by decide) rfl (by decide) (by decide) [0, 1, 2, 3, 4, 5, 6, 7, 8, 9, 10] (by decide) (fun _ => rfl) (Nat.le_refl _) (Nat.le_refl _) (Nat.le_of_ble_eq_true rfl) (Nat.le_of_ble_eq_true rfl) rfl hl.1 (Nat.le_of_ble_eq_true rfl) (fun _ => rfl) rfl dX4_coreWanted_42 (fun u H locs hu hP hD hS => ?_)
            refine lv_istore_n (lv' := [(2, .int (nI (allM M Y nc k (i + 1) (n + 1)))), (1, .int (nI (i + 1))), (3, .int (nI (i + 1))), (0, .ref z)]) hx hb dX4_coreWanted_45 rfl hl (by decide) rfl (fun ls hl => ?_)
            refine lv_iinc (v := (nI ((i + 1) + 1))) (lv' := [(3, .int (nI ((i + 1) + 1))), (2, .int (nI (allM M Y nc k (i + 1) (n + 1)))), (1, .int (nI (i + 1))), (0, .ref z)]) (k := 2) hx hb dX4_coreWanted_46 hl rfl (nI_add (i + 1) 1) (by decide) rfl (fun ls hl => ?_)
            refine lv_goto (tgt := 10) hx hb dX4_coreWanted_49 (by decide) ?_
            exact ih_10 (i + 1) (by omega) (by omega) (by omega) (nI (i + 1)) (congrArg Prod.fst er).symm (allM M Y nc k (i + 1) (n + 1)) (congrArg Prod.snd er).symm _ _ hP hD hS ls (lv_sub hl [0, 1, 2, 3] rfl)
          · have er : cwR M Y n nc k (i + 1) = cwR M Y n nc k i := if_neg (fun q => by have := q.2; omega)
            refine lv_goto (tgt := 46) hx hb dX4_coreWanted_35 (by decide) ?_
            refine lv_iinc (v := (nI ((i + 1) + 1))) (lv' := [(3, .int (nI ((i + 1) + 1))), (2, .int (nI ((cwR M Y n nc k i).2))), (1, .int ((cwR M Y n nc k i).1)), (0, .ref z)]) (k := 0) hx hb dX4_coreWanted_46 hl rfl (nI_add (i + 1) 1) (by decide) rfl (fun ls hl => ?_)
            refine lv_goto (tgt := 10) hx hb dX4_coreWanted_49 (by decide) ?_
            exact ih_10 (i + 1) (by omega) (by omega) (by omega) ((cwR M Y n nc k i).1) (congrArg Prod.fst er).symm ((cwR M Y n nc k i).2) (congrArg Prod.snd er).symm _ _ hP hD hS ls (lv_sub hl [0, 1, 2, 3] rfl)
  exact lp_10 (n + 1) 0 (by omega) (by omega) (by omega) (-1) rfl (allM M Y nc k 0 (n + 1)) rfl _ _ hP hD hS ls (lv_sub hl [0, 1, 2, 3] rfl)

/-! 03c: Shelf, its methods (laid by wip/p32/gen) -/
def oI : Option Nat → Int32
  | none => (-1)
  | some j => nI j
/-- the last core (of the first ones) whose year is not behind y -/
def latO (Y : Nat → Nat) (y : Int32) : Nat → Option Nat
  | 0 => none
  | k + 1 => if y < nI (Y k) then latO Y y k else some k
theorem lat_lt {Y : Nat → Nat} {y : Int32} {nc j : Nat} (h : latO Y y nc = some j) : j < nc := by
  induction nc with
  | zero => simp [latO] at h
  | succ k ih =>
    simp only [latO] at h
    split at h
    · exact Nat.lt_succ_of_lt (ih h)
    · cases h; exact Nat.lt_succ_self _
def finO (Y : Nat → Nat) (y : Int32) (nc : Nat) : Option Nat := match latO Y y nc with
  | none => none
  | some j => if nI (Y j) = y then some j else none
/-- the year of the first core (from i on, k of them) that is behind y; w if there is none -/
def fyb (Y : Nat → Nat) (y w : Nat) : Nat → Nat → Nat
  | _, 0 => w
  | i, k + 1 => if Y i ≤ y then fyb Y y w (i + 1) k else Y i
theorem fyb_step {Y : Nat → Nat} {y w i nc : Nat} (h : i < nc) : fyb Y y w i (nc - i) = if Y i ≤ y then fyb Y y w (i + 1) (nc - (i + 1)) else Y i := by
  rw [show nc - i = (nc - (i + 1)) + 1 by omega]; rfl
def shY (Y : Nat → Nat) (j : Nat) : Nat → Nat → Nat
  | 0 => Y
  | d + 1 => upN (shY Y j d) (j + d) (shY Y j d (j + d + 1))
def cp8 (G : Nat → Int32) (t : Nat) : Nat → Nat → Int32
  | 0 => G
  | k + 1 => upd (cp8 G t k) (t * 8 + k) (cp8 G t k ((t + 1) * 8 + k))
def shG (G : Nat → Int32) (j : Nat) : Nat → Nat → Int32
  | 0 => G
  | d + 1 => cp8 (shG G j d) (j + d) 8
def drG (G : Nat → Int32) (t : Nat) (f : Nat → Int32) : Nat → Nat → Int32
  | 0 => G
  | k + 1 => upd (drG G t f k) (t * 8 + k) (f k)
def pbN (G : Nat → Int32) (j : Nat) (f : Nat → Int32) : Nat → Nat → Int32
  | 0 => f
  | k + 1 => upd (pbN G j f k) k (G (j * 8 + k))
theorem k_nm1 {j : Nat} (h : j < 2147483648) : ¬ nI j = (-1) := by
  intro e
  have h1 := nI_toInt (n := j) (by omega)
  rw [e] at h1
  have h2 : (-1 : Int32).toInt = -1 := by decide
  omega
theorem k_nm1' {j : Nat} (h : j < 2147483648) : ¬ (-1) = nI j := fun e => k_nm1 h e.symm
theorem iu_X1_init_X1 : ∀ w ∈ wsX10, w ∈ wsX1_init := fun w h => (List.mem_cons_of_mem _ (List.mem_append_right _ h))
def rm_c_X1_init : Room := { frames := 1, cells := 2, slots := 54, locals := 24 }
set_option maxHeartbeats 4000000 in
set_option maxRecDepth 100000 in
theorem c_X1_init (l : Launch) (D : va_G) (cI : ClassId) (oH : Nat) :
    kM l yX1_init wsX1_init rm_c_X1_init D [(cI, FieldType.int)] [.ref oH] [(oH, .inr (1, [.null, .null, .int (nI 0)]))] (fun _ : Nat × Nat => True) (fun u => none) (fun u => [(oH, .inr (1, [.ref u.1, .ref u.2, .int (nI 0)])), (u.1, .inl (cI, 6, .inl (nF zN))), (u.2, .inl (cI, 48, .inl zF))]) := by
  refine kM_of (cc := cX1_init) (maxL := 1) (ret := none) (own := RX1) (by decide) rfl rfl (Nat.le_of_ble_eq_true rfl) ?_
  intro p e s m args below meth c A ls Qz hx hb hml hr hts hown hlk hin hQ hA hS hP hD hK hl
  have hl : lv_has ls 1 [(0, .ref oH)] := hl
  refine lv_aload_n hx hb dX1_init_0 rfl (lv_at hl 0 rfl) ?_
  refine W.objInit hx hb hown (hts _ (List.mem_of_getElem? (i := 1) rfl)) (hts _ (List.mem_of_getElem? (i := 2) rfl)) (hts _ (List.mem_of_getElem? (i := 3) rfl)) rfl (by rw [hml]; exact hl.1) rfl dX1_init_1 (Nat.le_of_ble_eq_true rfl) (Nat.le_of_ble_eq_true rfl) ?_
  refine W.eq (g2 := F0 m 4 ls []) rfl ?_
  refine lv_aload_n hx hb dX1_init_4 rfl (lv_at hl 0 rfl) ?_
  refine lv_bipush (v := (nI 6)) hx hb dX1_init_5 (by decide) ?_
  refine k_newa (ty := .int) (atype := .int) (cA := cI) (con := .inl zF) (k := 1) (n2 := 6) hx hb (hts _ (List.mem_of_getElem? (i := 4) rfl)) rfl hK 0 rfl hP hD hS hA (N9 := 6) (fun _ => rfl) (nI_clamp (by decide)) (by decide) (by decide) (Nat.le_refl _) (Nat.le_refl _) (Nat.le_of_ble_eq_true rfl) (Nat.le_of_ble_eq_true rfl) dX1_init_7 (fun q_1 H hP hD hS => ?_)
  have hP : va_P D vwCl [(oH, .inr (1, [.null, .null, .int (nI 0)])), (q_1, .inl (cI, 6, .inl zF))] H := hP
  have hD : va_D A [(oH, .inr (1, [.null, .null, .int (nI 0)])), (q_1, .inl (cI, 6, .inl zF))] := hD
  refine va_putF (D := D) (ci := 1) (v := .ref q_1) (ty := .array .int) (C := RX1) (T := TX1) (N := 3) hx hb hts iu_X1_init_X1 tyX1 tyX1_ok nmX1 hown hK hP hD hS 0 rfl rfl 0 (by decide) (hts _ (List.mem_of_getElem? (i := 5) rfl)) (fun _ h9 => h9) rfl (hin rfl) rfl (by decide +kernel) rfl rfl (Nat.le_of_ble_eq_true rfl) dX1_init_9 (fun H locs hP hD hS => ?_)
  have hP : va_P D vwCl [(oH, .inr (1, [.ref q_1, .null, .int (nI 0)])), (q_1, .inl (cI, 6, .inl zF))] H := hP
  have hD : va_D A [(oH, .inr (1, [.ref q_1, .null, .int (nI 0)])), (q_1, .inl (cI, 6, .inl zF))] := hD
  refine lv_aload_n hx hb dX1_init_12 rfl (lv_at hl 0 rfl) ?_
  refine lv_bipush (v := (nI 48)) hx hb dX1_init_13 (by decide) ?_
  refine k_newa (ty := .int) (atype := .int) (cA := cI) (con := .inl zF) (k := 2) (n2 := 54) hx hb (hts _ (List.mem_of_getElem? (i := 4) rfl)) rfl hK 0 rfl hP hD hS hA (N9 := 48) (fun _ => rfl) (nI_clamp (by decide)) (by decide) (by decide) (Nat.le_refl _) (Nat.le_refl _) (Nat.le_of_ble_eq_true rfl) (Nat.le_of_ble_eq_true rfl) dX1_init_15 (fun q_2 H hP hD hS => ?_)
  have hP : va_P D vwCl [(oH, .inr (1, [.ref q_1, .null, .int (nI 0)])), (q_1, .inl (cI, 6, .inl zF)), (q_2, .inl (cI, 48, .inl zF))] H := hP
  have hD : va_D A [(oH, .inr (1, [.ref q_1, .null, .int (nI 0)])), (q_1, .inl (cI, 6, .inl zF)), (q_2, .inl (cI, 48, .inl zF))] := hD
  refine va_putF (D := D) (ci := 1) (v := .ref q_2) (ty := .array .int) (C := RX1) (T := TX1) (N := 3) hx hb hts iu_X1_init_X1 tyX1 tyX1_ok nmX1 hown hK hP hD hS 0 rfl rfl 1 (by decide) (hts _ (List.mem_of_getElem? (i := 6) rfl)) (fun _ h9 => h9) rfl (hin rfl) rfl (by decide +kernel) rfl rfl (Nat.le_of_ble_eq_true rfl) dX1_init_17 (fun H locs hP hD hS => ?_)
  have hP : va_P D vwCl [(oH, .inr (1, [.ref q_1, .ref q_2, .int (nI 0)])), (q_1, .inl (cI, 6, .inl zF)), (q_2, .inl (cI, 48, .inl zF))] H := hP
  have hD : va_D A [(oH, .inr (1, [.ref q_1, .ref q_2, .int (nI 0)])), (q_1, .inl (cI, 6, .inl zF)), (q_2, .inl (cI, 48, .inl zF))] := hD
  exact kM_vret hx hb hr hlk hQ hP hD hK hS ⟨q_1, q_2⟩ rfl (Nat.le_of_ble_eq_true rfl) (Nat.le_of_ble_eq_true rfl) rfl trivial dX1_init_20
theorem iu_X1_count_X1 : ∀ w ∈ wsX10, w ∈ wsX1_count := fun w h => (List.mem_cons_of_mem _ (List.mem_append_right _ h))
def rm_c_X1_count : Room := { frames := 0, cells := 0, slots := 0, locals := 0 }
set_option maxHeartbeats 4000000 in
set_option maxRecDepth 100000 in
theorem c_X1_count (l : Launch) (D : va_G) (cI : ClassId) (oH b1 b2 : Nat) (Y : Nat → Nat) (G : Nat → Int32) (nc : Nat) :
    kM l yX1_count wsX1_count rm_c_X1_count D [(cI, FieldType.int)] [.ref oH] [(oH, .inr (1, [.ref b1, .ref b2, .int (nI nc)])), (b1, .inl (cI, 6, .inl (nF Y))), (b2, .inl (cI, 48, .inl G))] (fun _ : Unit => True) (fun _ => some (.int (nI nc))) (fun _ => [(oH, .inr (1, [.ref b1, .ref b2, .int (nI nc)])), (b1, .inl (cI, 6, .inl (nF Y))), (b2, .inl (cI, 48, .inl G))]) := by
  refine kM_of (cc := cX1_count) (maxL := 1) (ret := (some .int)) (own := RX1) (by decide) rfl rfl (Nat.le_of_ble_eq_true rfl) ?_
  intro p e s m args below meth c A ls Qz hx hb hml hr hts hown hlk hin hQ hA hS hP hD hK hl
  have hl : lv_has ls 1 [(0, .ref oH)] := hl
  refine lv_aload_n hx hb dX1_count_0 rfl (lv_at hl 0 rfl) ?_
  refine va_get (D := D) (ci := 1) (v := .int (nI nc)) (C := RX1) (T := TX1) (N := 3) hx hb hts iu_X1_count_X1 hown hK hP 0 rfl rfl 2 (by decide) (hts _ (List.mem_of_getElem? (i := 1) rfl)) (fun _ h9 => h9) rfl dX1_count_1 ?_
  exact kM_iret hx hb hr hlk hQ hP hD hK hS () rfl (Nat.le_of_ble_eq_true rfl) (Nat.le_of_ble_eq_true rfl) rfl trivial dX1_count_4
theorem iu_X1_has_X1 : ∀ w ∈ wsX10, w ∈ wsX1_has := fun w h => (List.mem_cons_of_mem _ (List.mem_append_right _ h))
def rm_c_X1_has : Room := { frames := 0, cells := 0, slots := 0, locals := 0 }
set_option maxHeartbeats 4000000 in
set_option maxRecDepth 100000 in
theorem c_X1_has (l : Launch) (D : va_G) (cI : ClassId) (oH b1 b2 : Nat) (Y : Nat → Nat) (G : Nat → Int32) (nc : Nat) (j : Nat) (hj : j < 2147483648) (hc : nc ≤ 6) :
    kM l yX1_has wsX1_has rm_c_X1_has D [(cI, FieldType.int)] [.ref oH, .int (nI j)] [(oH, .inr (1, [.ref b1, .ref b2, .int (nI nc)])), (b1, .inl (cI, 6, .inl (nF Y))), (b2, .inl (cI, 48, .inl G))] (fun _ : Unit => True) (fun _ => some (.int (b2i (j < nc)))) (fun _ => [(oH, .inr (1, [.ref b1, .ref b2, .int (nI nc)])), (b1, .inl (cI, 6, .inl (nF Y))), (b2, .inl (cI, 48, .inl G))]) := by
  refine kM_of (cc := cX1_has) (maxL := 2) (ret := (some .boolean)) (own := RX1) (by decide) rfl rfl (Nat.le_of_ble_eq_true rfl) ?_
  intro p e s m args below meth c A ls Qz hx hb hml hr hts hown hlk hin hQ hA hS hP hD hK hl
  have hl : lv_has ls 2 [(0, .ref oH), (1, .int (nI j))] := hl
  refine lv_iload_n hx hb dX1_has_0 rfl (lv_at hl 1 rfl) ?_
  refine k_if_lt hx hb (tgt := 22) (by omega) dX1_has_1 (by decide) (fun h => h.elim) (fun _ => ?_)
  refine lv_iload_n hx hb dX1_has_4 rfl (lv_at hl 1 rfl) ?_
  refine lv_aload_n hx hb dX1_has_5 rfl (lv_at hl 0 rfl) ?_
  refine va_get (D := D) (ci := 1) (v := .int (nI nc)) (C := RX1) (T := TX1) (N := 3) hx hb hts iu_X1_has_X1 hown hK hP 0 rfl rfl 2 (by decide) (hts _ (List.mem_of_getElem? (i := 1) rfl)) (fun _ h9 => h9) rfl dX1_has_6 ?_
  refine k_icmp_ge hx hb (tgt := 22) (by omega) (by omega) dX1_has_9 (by decide) (fun c_2 => ?_) (fun c_2 => ?_)
  · refine lv_iconst (v := (nI 0)) hx hb dX1_has_22 (by decide) ?_
    exact kM_zret hx hb hr hlk hQ hP hD hK hS () rfl (Nat.le_of_ble_eq_true rfl) (Nat.le_of_ble_eq_true rfl) (by decide) (congrArg (fun z => some (Value.int z)) (if_neg (by omega))) trivial dX1_has_23
  · refine lv_iload_n hx hb dX1_has_12 rfl (lv_at hl 1 rfl) ?_
    refine lv_bipush (v := (nI 6)) hx hb dX1_has_13 (by decide) ?_
    refine k_icmp_ge hx hb (tgt := 22) (by omega) (by decide) dX1_has_15 (by decide) (fun c_3 => ((by omega) : False).elim) (fun c_3 => ?_)
    refine lv_iconst (v := (nI 1)) hx hb dX1_has_18 (by decide) ?_
    refine lv_goto (tgt := 23) hx hb dX1_has_19 (by decide) ?_
    exact kM_zret hx hb hr hlk hQ hP hD hK hS () rfl (Nat.le_of_ble_eq_true rfl) (Nat.le_of_ble_eq_true rfl) (by decide) (congrArg (fun z => some (Value.int z)) (if_pos (by omega))) trivial dX1_has_23
def rm_c_X1_has_m1 : Room := { frames := 0, cells := 0, slots := 0, locals := 0 }
set_option maxHeartbeats 4000000 in
set_option maxRecDepth 100000 in
theorem c_X1_has_m1 (l : Launch) (D : va_G) (cI : ClassId) (oH b1 b2 : Nat) (Y : Nat → Nat) (G : Nat → Int32) (nc : Nat) :
    kM l yX1_has wsX1_has rm_c_X1_has_m1 D [(cI, FieldType.int)] [.ref oH, .int (-1)] [(oH, .inr (1, [.ref b1, .ref b2, .int (nI nc)])), (b1, .inl (cI, 6, .inl (nF Y))), (b2, .inl (cI, 48, .inl G))] (fun _ : Unit => True) (fun _ => some (.int (b2i (False)))) (fun _ => [(oH, .inr (1, [.ref b1, .ref b2, .int (nI nc)])), (b1, .inl (cI, 6, .inl (nF Y))), (b2, .inl (cI, 48, .inl G))]) := by
  refine kM_of (cc := cX1_has) (maxL := 2) (ret := (some .boolean)) (own := RX1) (by decide) rfl rfl (Nat.le_of_ble_eq_true rfl) ?_
  intro p e s m args below meth c A ls Qz hx hb hml hr hts hown hlk hin hQ hA hS hP hD hK hl
  have hl : lv_has ls 2 [(0, .ref oH), (1, .int (-1))] := hl
  refine lv_iload_n hx hb dX1_has_0 rfl (lv_at hl 1 rfl) ?_
  refine lv_if_lt hx hb (tgt := 22) dX1_has_1 (by decide) (fun c_1 => ?_) (fun h => absurd h (by decide))
  refine lv_iconst (v := (nI 0)) hx hb dX1_has_22 (by decide) ?_
  exact kM_zret hx hb hr hlk hQ hP hD hK hS () rfl (Nat.le_of_ble_eq_true rfl) (Nat.le_of_ble_eq_true rfl) (by decide) (congrArg (fun z => some (Value.int z)) (if_neg (by exact id))) trivial dX1_has_23
theorem iu_X1_yearAt_X1 : ∀ w ∈ wsX10, w ∈ wsX1_yearAt := fun w h => (List.mem_cons_of_mem _ (List.mem_append_right _ h))
def rm_c_X1_yearAt : Room := { frames := 1, cells := 0, slots := 0, locals := 21 }
set_option maxHeartbeats 4000000 in
set_option maxRecDepth 100000 in
theorem c_X1_yearAt (l : Launch) (D : va_G) (cI : ClassId) (oH b1 b2 : Nat) (Y : Nat → Nat) (G : Nat → Int32) (nc : Nat) (j : Nat) (hj : j < nc) (hc : nc ≤ 6) :
    kM l yX1_yearAt wsX1_yearAt rm_c_X1_yearAt D [(cI, FieldType.int)] [.ref oH, .int (nI j)] [(oH, .inr (1, [.ref b1, .ref b2, .int (nI nc)])), (b1, .inl (cI, 6, .inl (nF Y))), (b2, .inl (cI, 48, .inl G))] (fun _ : Unit => True) (fun _ => some (.int (nI (Y j)))) (fun _ => [(oH, .inr (1, [.ref b1, .ref b2, .int (nI nc)])), (b1, .inl (cI, 6, .inl (nF Y))), (b2, .inl (cI, 48, .inl G))]) := by
  refine kM_of (cc := cX1_yearAt) (maxL := 2) (ret := (some .int)) (own := RX1) (by decide) rfl rfl (Nat.le_of_ble_eq_true rfl) ?_
  intro p e s m args below meth c A ls Qz hx hb hml hr hts hown hlk hin hQ hA hS hP hD hK hl
  have hl : lv_has ls 2 [(0, .ref oH), (1, .int (nI j))] := hl
  refine lv_aload_n hx hb dX1_yearAt_0 rfl (lv_at hl 0 rfl) ?_
  refine lv_iload_n hx hb dX1_yearAt_1 rfl (lv_at hl 1 rfl) ?_
  refine kM_callV (As := [.int (nI j)]) (rest := []) (wr := []) (w2 := fun _ => [(oH, .inr (1, [.ref b1, .ref b2, .int (nI nc)])), (b1, .inl (cI, 6, .inl (nF Y))), (b2, .inl (cI, 48, .inl G))]) (st2 := fun _ => [.int (b2i (j < nc))]) (k := 0) (n2 := 0) ⟨hx, hb, hml, hown, hts⟩ (c_X1_has l D cI oH b1 b2 Y G nc j (by omega) hc) (cwV 1 hts gX1_yearAt_X1_has rfl rfl rfl (by decide +kernel) ⟨Nat.le_of_ble_eq_true rfl, Nat.le_of_ble_eq_true rfl⟩) 0 rfl rfl rfl [0] rfl hK hP hD hS hA [0, 1, 2] [] rfl (by decide) rfl (by decide) (by decide) [0, 1, 2] (by decide) (fun _ => rfl) (Nat.le_refl _) (Nat.le_refl _) (Nat.le_of_ble_eq_true rfl) (Nat.le_of_ble_eq_true rfl) rfl hl.1 (Nat.le_of_ble_eq_true rfl) (fun _ => rfl) rfl dX1_yearAt_2 (fun u H locs hu hP hD hS => ?_)
  refine k_bif_eq hx hb (tgt := 17) dX1_yearAt_5 (by decide) (fun c_1 => (absurd hj c_1 : False).elim) (fun c_1 => ?_)
  refine lv_aload_n hx hb dX1_yearAt_8 rfl (lv_at hl 0 rfl) ?_
  refine va_get (D := D) (ci := 1) (v := .ref b1) (C := RX1) (T := TX1) (N := 3) hx hb hts iu_X1_yearAt_X1 hown hK hP 0 rfl rfl 0 (by decide) (hts _ (List.mem_of_getElem? (i := 1) rfl)) (fun _ h9 => h9) rfl dX1_yearAt_9 ?_
  refine lv_iload_n hx hb dX1_yearAt_12 rfl (lv_at hl 1 rfl) ?_
  refine k_iald hx hb hK hP 1 0 (i := j) rfl rfl (by omega) (by decide) dX1_yearAt_13 ?_
  refine k_top (y := (nI (Y j))) rfl ?_
  refine lv_goto (tgt := 18) hx hb dX1_yearAt_14 (by decide) ?_
  exact kM_iret hx hb hr hlk hQ hP hD hK hS () rfl (Nat.le_of_ble_eq_true rfl) (Nat.le_of_ble_eq_true rfl) rfl trivial dX1_yearAt_18
def rm_c_X1_yearAt_m1 : Room := { frames := 1, cells := 0, slots := 0, locals := 21 }
set_option maxHeartbeats 4000000 in
set_option maxRecDepth 100000 in
theorem c_X1_yearAt_m1 (l : Launch) (D : va_G) (cI : ClassId) (oH b1 b2 : Nat) (Y : Nat → Nat) (G : Nat → Int32) (nc : Nat) :
    kM l yX1_yearAt wsX1_yearAt rm_c_X1_yearAt_m1 D [(cI, FieldType.int)] [.ref oH, .int (-1)] [(oH, .inr (1, [.ref b1, .ref b2, .int (nI nc)])), (b1, .inl (cI, 6, .inl (nF Y))), (b2, .inl (cI, 48, .inl G))] (fun _ : Unit => True) (fun _ => some (.int (-1))) (fun _ => [(oH, .inr (1, [.ref b1, .ref b2, .int (nI nc)])), (b1, .inl (cI, 6, .inl (nF Y))), (b2, .inl (cI, 48, .inl G))]) := by
  refine kM_of (cc := cX1_yearAt) (maxL := 2) (ret := (some .int)) (own := RX1) (by decide) rfl rfl (Nat.le_of_ble_eq_true rfl) ?_
  intro p e s m args below meth c A ls Qz hx hb hml hr hts hown hlk hin hQ hA hS hP hD hK hl
  have hl : lv_has ls 2 [(0, .ref oH), (1, .int (-1))] := hl
  refine lv_aload_n hx hb dX1_yearAt_0 rfl (lv_at hl 0 rfl) ?_
  refine lv_iload_n hx hb dX1_yearAt_1 rfl (lv_at hl 1 rfl) ?_
  refine kM_callV (As := [.int (-1)]) (rest := []) (wr := []) (w2 := fun _ => [(oH, .inr (1, [.ref b1, .ref b2, .int (nI nc)])), (b1, .inl (cI, 6, .inl (nF Y))), (b2, .inl (cI, 48, .inl G))]) (st2 := fun _ => [.int (b2i (False))]) (k := 0) (n2 := 0) ⟨hx, hb, hml, hown, hts⟩ (c_X1_has_m1 l D cI oH b1 b2 Y G nc) (cwV 1 hts gX1_yearAt_X1_has rfl rfl rfl (by decide +kernel) ⟨Nat.le_of_ble_eq_true rfl, Nat.le_of_ble_eq_true rfl⟩) 0 rfl rfl rfl [0] rfl hK hP hD hS hA [0, 1, 2] [] rfl (by decide) rfl (by decide) (by decide) [0, 1, 2] (by decide) (fun _ => rfl) (Nat.le_refl _) (Nat.le_refl _) (Nat.le_of_ble_eq_true rfl) (Nat.le_of_ble_eq_true rfl) rfl hl.1 (Nat.le_of_ble_eq_true rfl) (fun _ => rfl) rfl dX1_yearAt_2 (fun u H locs hu hP hD hS => ?_)
  refine k_bif_eq hx hb (tgt := 17) dX1_yearAt_5 (by decide) (fun c_1 => ?_) (fun c_1 => (c_1 : False).elim)
  refine lv_iconst (v := (-1)) hx hb dX1_yearAt_17 (by decide) ?_
  exact kM_iret hx hb hr hlk hQ hP hD hK hS () rfl (Nat.le_of_ble_eq_true rfl) (Nat.le_of_ble_eq_true rfl) rfl trivial dX1_yearAt_18
theorem iu_X1_latestUpTo_X1 : ∀ w ∈ wsX10, w ∈ wsX1_latestUpTo := fun w h => (List.mem_cons_of_mem _ (List.mem_append_right _ h))
def rm_c_X1_latestUpTo : Room := { frames := 2, cells := 0, slots := 0, locals := 42 }
set_option maxHeartbeats 4000000 in
set_option maxRecDepth 100000 in
theorem c_X1_latestUpTo (l : Launch) (D : va_G) (cI : ClassId) (oH b1 b2 : Nat) (Y : Nat → Nat) (G : Nat → Int32) (nc : Nat) (y : Int32) (hc : nc ≤ 6) :
    kM l yX1_latestUpTo wsX1_latestUpTo rm_c_X1_latestUpTo D [(cI, FieldType.int)] [.ref oH, .int y] [(oH, .inr (1, [.ref b1, .ref b2, .int (nI nc)])), (b1, .inl (cI, 6, .inl (nF Y))), (b2, .inl (cI, 48, .inl G))] (fun _ : Unit => True) (fun _ => some (.int (oI (latO Y y nc)))) (fun _ => [(oH, .inr (1, [.ref b1, .ref b2, .int (nI nc)])), (b1, .inl (cI, 6, .inl (nF Y))), (b2, .inl (cI, 48, .inl G))]) := by
  refine kM_of (cc := cX1_latestUpTo) (maxL := 4) (ret := (some .int)) (own := RX1) (by decide) rfl rfl (Nat.le_of_ble_eq_true rfl) ?_
  intro p e s m args below meth c A ls Qz hx hb hml hr hts hown hlk hin hQ hA hS hP hD hK hl
  have hl : lv_has ls 4 [(0, .ref oH), (1, .int y)] := hl
  refine lv_iconst (v := (-1)) hx hb dX1_latestUpTo_0 (by decide) ?_
  refine lv_istore_n (lv' := [(2, .int (-1)), (0, .ref oH), (1, .int y)]) hx hb dX1_latestUpTo_1 rfl hl (by decide) rfl (fun ls hl => ?_)
  refine lv_iconst (v := (nI 0)) hx hb dX1_latestUpTo_2 (by decide) ?_
  refine lv_istore_n (lv' := [(3, .int (nI 0)), (2, .int (-1)), (0, .ref oH), (1, .int y)]) hx hb dX1_latestUpTo_3 rfl hl (by decide) rfl (fun ls hl => ?_)
  have lp_4 : ∀ (fu i : Nat), 0 ≤ i → i ≤ nc → nc + 1 ≤ i + fu → ∀ (x1 : Int32), x1 = oI (latO Y y i) → ∀ (H : Heap) (locs : List Loc), va_P D vwCl [(oH, .inr (1, [.ref b1, .ref b2, .int (nI nc)])), (b1, .inl (cI, 6, .inl (nF Y))), (b2, .inl (cI, 48, .inl G))] H → va_D A [(oH, .inr (1, [.ref b1, .ref b2, .int (nI nc)])), (b1, .inl (cI, 6, .inl (nF Y))), (b2, .inl (cI, 48, .inl G))] → va_S A s.heap H locs → ∀ (ls : Array Slot), lv_has ls 4 [(3, .int (nI i)), (2, .int x1), (0, .ref oH), (1, .int y)] → W p l e rm_c_X1_latestUpTo s m args below meth c H locs 0 0 Qz (F0 m 4 ls []) := by
    intro fu
    induction fu with
    | zero => intro i h1_4 h2_4 h3_4; exact absurd h3_4 (by omega)
    | succ fu ih_4 =>
      intro i h1_4 h2_4 h3_4 x1 ex1 H locs hP hD hS ls hl
      subst ex1
      refine lv_iload_n hx hb dX1_latestUpTo_4 rfl (lv_at hl 0 rfl) ?_
      refine lv_aload_n hx hb dX1_latestUpTo_5 rfl (lv_at hl 2 rfl) ?_
      refine va_get (D := D) (ci := 1) (v := .int (nI nc)) (C := RX1) (T := TX1) (N := 3) hx hb hts iu_X1_latestUpTo_X1 hown hK hP 0 rfl rfl 2 (by decide) (hts _ (List.mem_of_getElem? (i := 1) rfl)) (fun _ h9 => h9) rfl dX1_latestUpTo_6 ?_
      refine k_icmp_ge hx hb (tgt := 29) (by omega) (by omega) dX1_latestUpTo_9 (by decide) (fun c_1 => ?_) (fun c_1 => ?_)
      · have e_2 : nc = i := by omega
        subst e_2
        refine lv_iload_n hx hb dX1_latestUpTo_29 rfl (lv_at hl 1 rfl) ?_
        exact kM_iret hx hb hr hlk hQ hP hD hK hS () rfl (Nat.le_of_ble_eq_true rfl) (Nat.le_of_ble_eq_true rfl) (congrArg (fun z => some (Value.int z)) (by rfl)) trivial dX1_latestUpTo_30
      · refine lv_aload_n hx hb dX1_latestUpTo_12 rfl (lv_at hl 2 rfl) ?_
        refine lv_iload_n hx hb dX1_latestUpTo_13 rfl (lv_at hl 0 rfl) ?_
        refine kM_callV (As := [.int (nI i)]) (rest := []) (wr := []) (w2 := fun _ => [(oH, .inr (1, [.ref b1, .ref b2, .int (nI nc)])), (b1, .inl (cI, 6, .inl (nF Y))), (b2, .inl (cI, 48, .inl G))]) (st2 := fun _ => [.int (nI (Y i))]) (k := 0) (n2 := 0) ⟨hx, hb, hml, hown, hts⟩ (c_X1_yearAt l D cI oH b1 b2 Y G nc i (by omega) hc) (cwV 1 hts gX1_latestUpTo_X1_yearAt rfl rfl rfl (by decide +kernel) ⟨Nat.le_of_ble_eq_true rfl, Nat.le_of_ble_eq_true rfl⟩) 0 rfl rfl rfl [0] rfl hK hP hD hS hA [0, 1, 2] [] rfl (by decide) rfl (by decide) (by decide) [0, 1, 2] (by decide) (fun _ => rfl) (Nat.le_refl _) (Nat.le_refl _) (Nat.le_of_ble_eq_true rfl) (Nat.le_of_ble_eq_true rfl) rfl hl.1 (Nat.le_of_ble_eq_true rfl) (fun _ => rfl) rfl dX1_latestUpTo_14 (fun u H locs hu hP hD hS => ?_)
        refine lv_iload_n hx hb dX1_latestUpTo_17 rfl (lv_at hl 3 rfl) ?_
        refine lv_icmp_gt hx hb (tgt := 23) dX1_latestUpTo_18 (by decide) (fun c_3 => ?_) (fun c_3 => ?_)
        · have ex : oI (latO Y y i) = oI (latO Y y (i + 1)) := by rw [latO, if_pos c_3]
          refine lv_iinc (v := (nI (i + 1))) (lv' := [(3, .int (nI (i + 1))), (2, .int (oI (latO Y y i))), (0, .ref oH), (1, .int y)]) (k := 0) hx hb dX1_latestUpTo_23 hl rfl (nI_add i 1) (by decide) rfl (fun ls hl => ?_)
          refine lv_goto (tgt := 4) hx hb dX1_latestUpTo_26 (by decide) ?_
          exact ih_4 (i + 1) (by omega) (by omega) (by omega) (oI (latO Y y i)) ex _ _ hP hD hS ls (lv_sub hl [0, 1, 2, 3] rfl)
        · have ex : nI i = oI (latO Y y (i + 1)) := by rw [latO, if_neg c_3]; rfl
          refine lv_iload_n hx hb dX1_latestUpTo_21 rfl (lv_at hl 0 rfl) ?_
          refine lv_istore_n (lv' := [(2, .int (nI i)), (3, .int (nI i)), (0, .ref oH), (1, .int y)]) hx hb dX1_latestUpTo_22 rfl hl (by decide) rfl (fun ls hl => ?_)
          refine lv_iinc (v := (nI (i + 1))) (lv' := [(3, .int (nI (i + 1))), (2, .int (nI i)), (0, .ref oH), (1, .int y)]) (k := 1) hx hb dX1_latestUpTo_23 hl rfl (nI_add i 1) (by decide) rfl (fun ls hl => ?_)
          refine lv_goto (tgt := 4) hx hb dX1_latestUpTo_26 (by decide) ?_
          exact ih_4 (i + 1) (by omega) (by omega) (by omega) (nI i) ex _ _ hP hD hS ls (lv_sub hl [0, 1, 2, 3] rfl)
  exact lp_4 (nc + 1) 0 (by omega) (by omega) (by omega) (-1) rfl _ _ hP hD hS ls (lv_sub hl [0, 1, 2, 3] rfl)
def rm_c_X1_latestUpTo_n : Room := rm_c_X1_latestUpTo
theorem c_X1_latestUpTo_n (l : Launch) (D : va_G) (cI : ClassId) (oH b1 b2 : Nat) (Y : Nat → Nat) (G : Nat → Int32) (nc : Nat) (y : Int32) (hc : nc ≤ 6) (hl0 : latO Y y nc = none) :
    kM l yX1_latestUpTo wsX1_latestUpTo rm_c_X1_latestUpTo_n D [(cI, FieldType.int)] [.ref oH, .int y] [(oH, .inr (1, [.ref b1, .ref b2, .int (nI nc)])), (b1, .inl (cI, 6, .inl (nF Y))), (b2, .inl (cI, 48, .inl G))] (fun _ : Unit => True) (fun _ => some (.int (-1))) (fun _ => [(oH, .inr (1, [.ref b1, .ref b2, .int (nI nc)])), (b1, .inl (cI, 6, .inl (nF Y))), (b2, .inl (cI, 48, .inl G))]) := by
  have h9 := c_X1_latestUpTo l D cI oH b1 b2 Y G nc y hc
  rw [hl0] at h9
  exact h9
def rm_c_X1_latestUpTo_s : Room := rm_c_X1_latestUpTo
theorem c_X1_latestUpTo_s (l : Launch) (D : va_G) (cI : ClassId) (oH b1 b2 : Nat) (Y : Nat → Nat) (G : Nat → Int32) (nc : Nat) (y : Int32) (j : Nat) (hc : nc ≤ 6) (hl0 : latO Y y nc = some j) :
    kM l yX1_latestUpTo wsX1_latestUpTo rm_c_X1_latestUpTo_s D [(cI, FieldType.int)] [.ref oH, .int y] [(oH, .inr (1, [.ref b1, .ref b2, .int (nI nc)])), (b1, .inl (cI, 6, .inl (nF Y))), (b2, .inl (cI, 48, .inl G))] (fun _ : Unit => True) (fun _ => some (.int (nI j))) (fun _ => [(oH, .inr (1, [.ref b1, .ref b2, .int (nI nc)])), (b1, .inl (cI, 6, .inl (nF Y))), (b2, .inl (cI, 48, .inl G))]) := by
  have h9 := c_X1_latestUpTo l D cI oH b1 b2 Y G nc y hc
  rw [hl0] at h9
  exact h9
theorem iu_X1_find_X1 : ∀ w ∈ wsX10, w ∈ wsX1_find := fun w h => (List.mem_cons_of_mem _ (List.mem_append_right _ h))
def rm_c_X1_find_n : Room := { frames := 3, cells := 0, slots := 0, locals := 65 }
set_option maxHeartbeats 4000000 in
set_option maxRecDepth 100000 in
theorem c_X1_find_n (l : Launch) (D : va_G) (cI : ClassId) (oH b1 b2 : Nat) (Y : Nat → Nat) (G : Nat → Int32) (nc : Nat) (y : Int32) (hc : nc ≤ 6) (hl0 : latO Y y nc = none) :
    kM l yX1_find wsX1_find rm_c_X1_find_n D [(cI, FieldType.int)] [.ref oH, .int y] [(oH, .inr (1, [.ref b1, .ref b2, .int (nI nc)])), (b1, .inl (cI, 6, .inl (nF Y))), (b2, .inl (cI, 48, .inl G))] (fun _ : Unit => True) (fun _ => some (.int (-1))) (fun _ => [(oH, .inr (1, [.ref b1, .ref b2, .int (nI nc)])), (b1, .inl (cI, 6, .inl (nF Y))), (b2, .inl (cI, 48, .inl G))]) := by
  refine kM_of (cc := cX1_find) (maxL := 3) (ret := (some .int)) (own := RX1) (by decide) rfl rfl (Nat.le_of_ble_eq_true rfl) ?_
  intro p e s m args below meth c A ls Qz hx hb hml hr hts hown hlk hin hQ hA hS hP hD hK hl
  have hl : lv_has ls 3 [(0, .ref oH), (1, .int y)] := hl
  refine lv_aload_n hx hb dX1_find_0 rfl (lv_at hl 0 rfl) ?_
  refine lv_iload_n hx hb dX1_find_1 rfl (lv_at hl 1 rfl) ?_
  refine kM_callV (As := [.int y]) (rest := []) (wr := []) (w2 := fun _ => [(oH, .inr (1, [.ref b1, .ref b2, .int (nI nc)])), (b1, .inl (cI, 6, .inl (nF Y))), (b2, .inl (cI, 48, .inl G))]) (st2 := fun _ => [.int (-1)]) (k := 0) (n2 := 0) ⟨hx, hb, hml, hown, hts⟩ (c_X1_latestUpTo_n l D cI oH b1 b2 Y G nc y hc hl0) (cwV 1 hts gX1_find_X1_latestUpTo rfl rfl rfl (by decide +kernel) ⟨Nat.le_of_ble_eq_true rfl, Nat.le_of_ble_eq_true rfl⟩) 0 rfl rfl rfl [0] rfl hK hP hD hS hA [0, 1, 2] [] rfl (by decide) rfl (by decide) (by decide) [0, 1, 2] (by decide) (fun _ => rfl) (Nat.le_refl _) (Nat.le_refl _) (Nat.le_of_ble_eq_true rfl) (Nat.le_of_ble_eq_true rfl) rfl hl.1 (Nat.le_of_ble_eq_true rfl) (fun _ => rfl) rfl dX1_find_2 (fun u H locs hu hP hD hS => ?_)
  refine lv_istore_n (lv' := [(2, .int (-1)), (0, .ref oH), (1, .int y)]) hx hb dX1_find_5 rfl hl (by decide) rfl (fun ls hl => ?_)
  refine lv_iload_n hx hb dX1_find_6 rfl (lv_at hl 0 rfl) ?_
  refine lv_iconst (v := (-1)) hx hb dX1_find_7 (by decide) ?_
  refine lv_icmp_eq hx hb (tgt := 24) dX1_find_8 (by decide) (fun _ => ?_) (fun h => absurd rfl h)
  refine lv_iconst (v := (-1)) hx hb dX1_find_24 (by decide) ?_
  exact kM_iret hx hb hr hlk hQ hP hD hK hS () rfl (Nat.le_of_ble_eq_true rfl) (Nat.le_of_ble_eq_true rfl) rfl trivial dX1_find_25
def rm_c_X1_find_m : Room := { frames := 3, cells := 0, slots := 0, locals := 65 }
set_option maxHeartbeats 4000000 in
set_option maxRecDepth 100000 in
theorem c_X1_find_m (l : Launch) (D : va_G) (cI : ClassId) (oH b1 b2 : Nat) (Y : Nat → Nat) (G : Nat → Int32) (nc : Nat) (y : Int32) (j : Nat) (hc : nc ≤ 6) (hl0 : latO Y y nc = some j) (hy : ¬ nI (Y j) = y) :
    kM l yX1_find wsX1_find rm_c_X1_find_m D [(cI, FieldType.int)] [.ref oH, .int y] [(oH, .inr (1, [.ref b1, .ref b2, .int (nI nc)])), (b1, .inl (cI, 6, .inl (nF Y))), (b2, .inl (cI, 48, .inl G))] (fun _ : Unit => True) (fun _ => some (.int (-1))) (fun _ => [(oH, .inr (1, [.ref b1, .ref b2, .int (nI nc)])), (b1, .inl (cI, 6, .inl (nF Y))), (b2, .inl (cI, 48, .inl G))]) := by
  refine kM_of (cc := cX1_find) (maxL := 3) (ret := (some .int)) (own := RX1) (by decide) rfl rfl (Nat.le_of_ble_eq_true rfl) ?_
  intro p e s m args below meth c A ls Qz hx hb hml hr hts hown hlk hin hQ hA hS hP hD hK hl
  have hl : lv_has ls 3 [(0, .ref oH), (1, .int y)] := hl
  have hj := lat_lt hl0
  refine lv_aload_n hx hb dX1_find_0 rfl (lv_at hl 0 rfl) ?_
  refine lv_iload_n hx hb dX1_find_1 rfl (lv_at hl 1 rfl) ?_
  refine kM_callV (As := [.int y]) (rest := []) (wr := []) (w2 := fun _ => [(oH, .inr (1, [.ref b1, .ref b2, .int (nI nc)])), (b1, .inl (cI, 6, .inl (nF Y))), (b2, .inl (cI, 48, .inl G))]) (st2 := fun _ => [.int (nI j)]) (k := 0) (n2 := 0) ⟨hx, hb, hml, hown, hts⟩ (c_X1_latestUpTo_s l D cI oH b1 b2 Y G nc y j hc hl0) (cwV 1 hts gX1_find_X1_latestUpTo rfl rfl rfl (by decide +kernel) ⟨Nat.le_of_ble_eq_true rfl, Nat.le_of_ble_eq_true rfl⟩) 0 rfl rfl rfl [0] rfl hK hP hD hS hA [0, 1, 2] [] rfl (by decide) rfl (by decide) (by decide) [0, 1, 2] (by decide) (fun _ => rfl) (Nat.le_refl _) (Nat.le_refl _) (Nat.le_of_ble_eq_true rfl) (Nat.le_of_ble_eq_true rfl) rfl hl.1 (Nat.le_of_ble_eq_true rfl) (fun _ => rfl) rfl dX1_find_2 (fun u H locs hu hP hD hS => ?_)
  refine lv_istore_n (lv' := [(2, .int (nI j)), (0, .ref oH), (1, .int y)]) hx hb dX1_find_5 rfl hl (by decide) rfl (fun ls hl => ?_)
  refine lv_iload_n hx hb dX1_find_6 rfl (lv_at hl 0 rfl) ?_
  refine lv_iconst (v := (-1)) hx hb dX1_find_7 (by decide) ?_
  refine lv_icmp_eq hx hb (tgt := 24) dX1_find_8 (by decide) (fun h => absurd h (k_nm1 (by omega))) (fun _ => ?_)
  refine lv_aload_n hx hb dX1_find_11 rfl (lv_at hl 1 rfl) ?_
  refine lv_iload_n hx hb dX1_find_12 rfl (lv_at hl 0 rfl) ?_
  refine kM_callV (As := [.int (nI j)]) (rest := []) (wr := []) (w2 := fun _ => [(oH, .inr (1, [.ref b1, .ref b2, .int (nI nc)])), (b1, .inl (cI, 6, .inl (nF Y))), (b2, .inl (cI, 48, .inl G))]) (st2 := fun _ => [.int (nI (Y j))]) (k := 0) (n2 := 0) ⟨hx, hb, hml, hown, hts⟩ (c_X1_yearAt l D cI oH b1 b2 Y G nc j (lat_lt hl0) hc) (cwV 1 hts gX1_find_X1_yearAt rfl rfl rfl (by decide +kernel) ⟨Nat.le_of_ble_eq_true rfl, Nat.le_of_ble_eq_true rfl⟩) 0 rfl rfl rfl [0] rfl hK hP hD hS hA [0, 1, 2] [] rfl (by decide) rfl (by decide) (by decide) [0, 1, 2] (by decide) (fun _ => rfl) (Nat.le_refl _) (Nat.le_refl _) (Nat.le_of_ble_eq_true rfl) (Nat.le_of_ble_eq_true rfl) rfl hl.1 (Nat.le_of_ble_eq_true rfl) (fun _ => rfl) rfl dX1_find_13 (fun u H locs hu hP hD hS => ?_)
  refine lv_iload_n hx hb dX1_find_16 rfl (lv_at hl 2 rfl) ?_
  refine lv_icmp_ne hx hb (tgt := 24) dX1_find_17 (by decide) (fun c_2 => ?_) (fun c_2 => (hy c_2 : False).elim)
  refine lv_iconst (v := (-1)) hx hb dX1_find_24 (by decide) ?_
  exact kM_iret hx hb hr hlk hQ hP hD hK hS () rfl (Nat.le_of_ble_eq_true rfl) (Nat.le_of_ble_eq_true rfl) rfl trivial dX1_find_25
def rm_c_X1_find_s : Room := { frames := 3, cells := 0, slots := 0, locals := 65 }
set_option maxHeartbeats 4000000 in
set_option maxRecDepth 100000 in
theorem c_X1_find_s (l : Launch) (D : va_G) (cI : ClassId) (oH b1 b2 : Nat) (Y : Nat → Nat) (G : Nat → Int32) (nc : Nat) (y : Int32) (j : Nat) (hc : nc ≤ 6) (hl0 : latO Y y nc = some j) (hy : nI (Y j) = y) :
    kM l yX1_find wsX1_find rm_c_X1_find_s D [(cI, FieldType.int)] [.ref oH, .int y] [(oH, .inr (1, [.ref b1, .ref b2, .int (nI nc)])), (b1, .inl (cI, 6, .inl (nF Y))), (b2, .inl (cI, 48, .inl G))] (fun _ : Unit => True) (fun _ => some (.int (nI j))) (fun _ => [(oH, .inr (1, [.ref b1, .ref b2, .int (nI nc)])), (b1, .inl (cI, 6, .inl (nF Y))), (b2, .inl (cI, 48, .inl G))]) := by
  refine kM_of (cc := cX1_find) (maxL := 3) (ret := (some .int)) (own := RX1) (by decide) rfl rfl (Nat.le_of_ble_eq_true rfl) ?_
  intro p e s m args below meth c A ls Qz hx hb hml hr hts hown hlk hin hQ hA hS hP hD hK hl
  have hl : lv_has ls 3 [(0, .ref oH), (1, .int y)] := hl
  have hj := lat_lt hl0
  refine lv_aload_n hx hb dX1_find_0 rfl (lv_at hl 0 rfl) ?_
  refine lv_iload_n hx hb dX1_find_1 rfl (lv_at hl 1 rfl) ?_
  refine kM_callV (As := [.int y]) (rest := []) (wr := []) (w2 := fun _ => [(oH, .inr (1, [.ref b1, .ref b2, .int (nI nc)])), (b1, .inl (cI, 6, .inl (nF Y))), (b2, .inl (cI, 48, .inl G))]) (st2 := fun _ => [.int (nI j)]) (k := 0) (n2 := 0) ⟨hx, hb, hml, hown, hts⟩ (c_X1_latestUpTo_s l D cI oH b1 b2 Y G nc y j hc hl0) (cwV 1 hts gX1_find_X1_latestUpTo rfl rfl rfl (by decide +kernel) ⟨Nat.le_of_ble_eq_true rfl, Nat.le_of_ble_eq_true rfl⟩) 0 rfl rfl rfl [0] rfl hK hP hD hS hA [0, 1, 2] [] rfl (by decide) rfl (by decide) (by decide) [0, 1, 2] (by decide) (fun _ => rfl) (Nat.le_refl _) (Nat.le_refl _) (Nat.le_of_ble_eq_true rfl) (Nat.le_of_ble_eq_true rfl) rfl hl.1 (Nat.le_of_ble_eq_true rfl) (fun _ => rfl) rfl dX1_find_2 (fun u H locs hu hP hD hS => ?_)
  refine lv_istore_n (lv' := [(2, .int (nI j)), (0, .ref oH), (1, .int y)]) hx hb dX1_find_5 rfl hl (by decide) rfl (fun ls hl => ?_)
  refine lv_iload_n hx hb dX1_find_6 rfl (lv_at hl 0 rfl) ?_
  refine lv_iconst (v := (-1)) hx hb dX1_find_7 (by decide) ?_
  refine lv_icmp_eq hx hb (tgt := 24) dX1_find_8 (by decide) (fun h => absurd h (k_nm1 (by omega))) (fun _ => ?_)
  refine lv_aload_n hx hb dX1_find_11 rfl (lv_at hl 1 rfl) ?_
  refine lv_iload_n hx hb dX1_find_12 rfl (lv_at hl 0 rfl) ?_
  refine kM_callV (As := [.int (nI j)]) (rest := []) (wr := []) (w2 := fun _ => [(oH, .inr (1, [.ref b1, .ref b2, .int (nI nc)])), (b1, .inl (cI, 6, .inl (nF Y))), (b2, .inl (cI, 48, .inl G))]) (st2 := fun _ => [.int (nI (Y j))]) (k := 0) (n2 := 0) ⟨hx, hb, hml, hown, hts⟩ (c_X1_yearAt l D cI oH b1 b2 Y G nc j (lat_lt hl0) hc) (cwV 1 hts gX1_find_X1_yearAt rfl rfl rfl (by decide +kernel) ⟨Nat.le_of_ble_eq_true rfl, Nat.le_of_ble_eq_true rfl⟩) 0 rfl rfl rfl [0] rfl hK hP hD hS hA [0, 1, 2] [] rfl (by decide) rfl (by decide) (by decide) [0, 1, 2] (by decide) (fun _ => rfl) (Nat.le_refl _) (Nat.le_refl _) (Nat.le_of_ble_eq_true rfl) (Nat.le_of_ble_eq_true rfl) rfl hl.1 (Nat.le_of_ble_eq_true rfl) (fun _ => rfl) rfl dX1_find_13 (fun u H locs hu hP hD hS => ?_)
  refine lv_iload_n hx hb dX1_find_16 rfl (lv_at hl 2 rfl) ?_
  refine lv_icmp_ne hx hb (tgt := 24) dX1_find_17 (by decide) (fun c_2 => (c_2 hy : False).elim) (fun c_2 => ?_)
  refine lv_iload_n hx hb dX1_find_20 rfl (lv_at hl 0 rfl) ?_
  refine lv_goto (tgt := 25) hx hb dX1_find_21 (by decide) ?_
  exact kM_iret hx hb hr hlk hQ hP hD hK hS () rfl (Nat.le_of_ble_eq_true rfl) (Nat.le_of_ble_eq_true rfl) rfl trivial dX1_find_25
def rm_c_X1_find : Room := rm_c_X1_find_s
theorem c_X1_find (l : Launch) (D : va_G) (cI : ClassId) (oH b1 b2 : Nat) (Y : Nat → Nat) (G : Nat → Int32) (nc : Nat) (y : Int32) (hc : nc ≤ 6) :
    kM l yX1_find wsX1_find rm_c_X1_find D [(cI, FieldType.int)] [.ref oH, .int y] [(oH, .inr (1, [.ref b1, .ref b2, .int (nI nc)])), (b1, .inl (cI, 6, .inl (nF Y))), (b2, .inl (cI, 48, .inl G))] (fun _ : Unit => True) (fun _ => some (.int (oI (finO Y y nc)))) (fun _ => [(oH, .inr (1, [.ref b1, .ref b2, .int (nI nc)])), (b1, .inl (cI, 6, .inl (nF Y))), (b2, .inl (cI, 48, .inl G))]) := by
  unfold finO
  cases hl0 : latO Y y nc with
  | none => exact c_X1_find_n l D cI oH b1 b2 Y G nc y hc hl0
  | some j =>
    by_cases hy : nI (Y j) = y
    · simp only [if_pos hy]; exact c_X1_find_s l D cI oH b1 b2 Y G nc y j hc hl0 hy
    · simp only [if_neg hy]; exact c_X1_find_m l D cI oH b1 b2 Y G nc y j hc hl0 hy
def rm_c_X1_find_none : Room := rm_c_X1_find
theorem c_X1_find_none (l : Launch) (D : va_G) (cI : ClassId) (oH b1 b2 : Nat) (Y : Nat → Nat) (G : Nat → Int32) (nc : Nat) (y : Int32) (hc : nc ≤ 6) (hf0 : finO Y y nc = none) :
    kM l yX1_find wsX1_find rm_c_X1_find_none D [(cI, FieldType.int)] [.ref oH, .int y] [(oH, .inr (1, [.ref b1, .ref b2, .int (nI nc)])), (b1, .inl (cI, 6, .inl (nF Y))), (b2, .inl (cI, 48, .inl G))] (fun _ : Unit => True) (fun _ => some (.int (-1))) (fun _ => [(oH, .inr (1, [.ref b1, .ref b2, .int (nI nc)])), (b1, .inl (cI, 6, .inl (nF Y))), (b2, .inl (cI, 48, .inl G))]) := by
  have h9 := c_X1_find l D cI oH b1 b2 Y G nc y hc
  rw [hf0] at h9
  exact h9
def rm_c_X1_find_some : Room := rm_c_X1_find
theorem c_X1_find_some (l : Launch) (D : va_G) (cI : ClassId) (oH b1 b2 : Nat) (Y : Nat → Nat) (G : Nat → Int32) (nc : Nat) (y : Int32) (j : Nat) (hc : nc ≤ 6) (hf0 : finO Y y nc = some j) :
    kM l yX1_find wsX1_find rm_c_X1_find_some D [(cI, FieldType.int)] [.ref oH, .int y] [(oH, .inr (1, [.ref b1, .ref b2, .int (nI nc)])), (b1, .inl (cI, 6, .inl (nF Y))), (b2, .inl (cI, 48, .inl G))] (fun _ : Unit => True) (fun _ => some (.int (nI j))) (fun _ => [(oH, .inr (1, [.ref b1, .ref b2, .int (nI nc)])), (b1, .inl (cI, 6, .inl (nF Y))), (b2, .inl (cI, 48, .inl G))]) := by
  have h9 := c_X1_find l D cI oH b1 b2 Y G nc y hc
  rw [hf0] at h9
  exact h9
theorem iu_X1_firstYearBehind_X1 : ∀ w ∈ wsX10, w ∈ wsX1_firstYearBehind := fun w h => (List.mem_cons_of_mem _ (List.mem_append_right _ h))
def rm_c_X1_firstYearBehind : Room := { frames := 2, cells := 0, slots := 0, locals := 42 }
set_option maxHeartbeats 4000000 in
set_option maxRecDepth 100000 in
theorem c_X1_firstYearBehind (l : Launch) (D : va_G) (cI : ClassId) (oH b1 b2 : Nat) (Y : Nat → Nat) (G : Nat → Int32) (nc : Nat) (y w : Nat) (hc : nc ≤ 6) (hY : ∀ i, Y i ≤ 40) (hy : y ≤ 41) :
    kM l yX1_firstYearBehind wsX1_firstYearBehind rm_c_X1_firstYearBehind D [(cI, FieldType.int)] [.ref oH, .int (nI y), .int (nI w)] [(oH, .inr (1, [.ref b1, .ref b2, .int (nI nc)])), (b1, .inl (cI, 6, .inl (nF Y))), (b2, .inl (cI, 48, .inl G))] (fun _ : Unit => True) (fun _ => some (.int (nI (fyb Y y w 0 nc)))) (fun _ => [(oH, .inr (1, [.ref b1, .ref b2, .int (nI nc)])), (b1, .inl (cI, 6, .inl (nF Y))), (b2, .inl (cI, 48, .inl G))]) := by
  refine kM_of (cc := cX1_firstYearBehind) (maxL := 4) (ret := (some .int)) (own := RX1) (by decide) rfl rfl (Nat.le_of_ble_eq_true rfl) ?_
  intro p e s m args below meth c A ls Qz hx hb hml hr hts hown hlk hin hQ hA hS hP hD hK hl
  have hl : lv_has ls 4 [(0, .ref oH), (1, .int (nI y)), (2, .int (nI w))] := hl
  refine lv_iconst (v := (nI 0)) hx hb dX1_firstYearBehind_0 (by decide) ?_
  refine lv_istore_n (lv' := [(3, .int (nI 0)), (0, .ref oH), (1, .int (nI y)), (2, .int (nI w))]) hx hb dX1_firstYearBehind_1 rfl hl (by decide) rfl (fun ls hl => ?_)
  have lp_2 : ∀ (fu i : Nat), 0 ≤ i → i ≤ nc → nc + 1 ≤ i + fu → (fyb Y y w i (nc - i) = fyb Y y w 0 nc) → ∀ (H : Heap) (locs : List Loc), va_P D vwCl [(oH, .inr (1, [.ref b1, .ref b2, .int (nI nc)])), (b1, .inl (cI, 6, .inl (nF Y))), (b2, .inl (cI, 48, .inl G))] H → va_D A [(oH, .inr (1, [.ref b1, .ref b2, .int (nI nc)])), (b1, .inl (cI, 6, .inl (nF Y))), (b2, .inl (cI, 48, .inl G))] → va_S A s.heap H locs → ∀ (ls : Array Slot), lv_has ls 4 [(3, .int (nI i)), (0, .ref oH), (1, .int (nI y)), (2, .int (nI w))] → W p l e rm_c_X1_firstYearBehind s m args below meth c H locs 0 0 Qz (F0 m 2 ls []) := by
    intro fu
    induction fu with
    | zero => intro i h1_2 h2_2 h3_2; exact absurd h3_2 (by omega)
    | succ fu ih_2 =>
      intro i h1_2 h2_2 h3_2 hf H locs hP hD hS ls hl
      refine lv_iload_n hx hb dX1_firstYearBehind_2 rfl (lv_at hl 0 rfl) ?_
      refine lv_aload_n hx hb dX1_firstYearBehind_3 rfl (lv_at hl 1 rfl) ?_
      refine va_get (D := D) (ci := 1) (v := .int (nI nc)) (C := RX1) (T := TX1) (N := 3) hx hb hts iu_X1_firstYearBehind_X1 hown hK hP 0 rfl rfl 2 (by decide) (hts _ (List.mem_of_getElem? (i := 1) rfl)) (fun _ h9 => h9) rfl dX1_firstYearBehind_4 ?_
      refine k_icmp_ge hx hb (tgt := 31) (by omega) (by omega) dX1_firstYearBehind_7 (by decide) (fun c_1 => ?_) (fun c_1 => ?_)
      · have e_2 : nc = i := by omega
        subst e_2
        refine lv_iload_n hx hb dX1_firstYearBehind_31 rfl (lv_at hl 3 rfl) ?_
        exact kM_iret hx hb hr hlk hQ hP hD hK hS () rfl (Nat.le_of_ble_eq_true rfl) (Nat.le_of_ble_eq_true rfl) (congrArg (fun z => some (Value.int z)) (by rw [← hf, Nat.sub_self]; rfl)) trivial dX1_firstYearBehind_32
      · have hYi := hY i
        refine lv_aload_n hx hb dX1_firstYearBehind_10 rfl (lv_at hl 1 rfl) ?_
        refine lv_iload_n hx hb dX1_firstYearBehind_11 rfl (lv_at hl 0 rfl) ?_
        refine kM_callV (As := [.int (nI i)]) (rest := []) (wr := []) (w2 := fun _ => [(oH, .inr (1, [.ref b1, .ref b2, .int (nI nc)])), (b1, .inl (cI, 6, .inl (nF Y))), (b2, .inl (cI, 48, .inl G))]) (st2 := fun _ => [.int (nI (Y i))]) (k := 0) (n2 := 0) ⟨hx, hb, hml, hown, hts⟩ (c_X1_yearAt l D cI oH b1 b2 Y G nc i (by omega) hc) (cwV 1 hts gX1_firstYearBehind_X1_yearAt rfl rfl rfl (by decide +kernel) ⟨Nat.le_of_ble_eq_true rfl, Nat.le_of_ble_eq_true rfl⟩) 0 rfl rfl rfl [0] rfl hK hP hD hS hA [0, 1, 2] [] rfl (by decide) rfl (by decide) (by decide) [0, 1, 2] (by decide) (fun _ => rfl) (Nat.le_refl _) (Nat.le_refl _) (Nat.le_of_ble_eq_true rfl) (Nat.le_of_ble_eq_true rfl) rfl hl.1 (Nat.le_of_ble_eq_true rfl) (fun _ => rfl) rfl dX1_firstYearBehind_12 (fun u H locs hu hP hD hS => ?_)
        refine lv_iload_n hx hb dX1_firstYearBehind_15 rfl (lv_at hl 2 rfl) ?_
        refine k_icmp_le hx hb (tgt := 25) (by omega) (by omega) dX1_firstYearBehind_16 (by decide) (fun c_3 => ?_) (fun c_3 => ?_)
        · have hf2 := hf
          rw [fyb_step (by omega), if_pos c_3] at hf2
          refine lv_iinc (v := (nI (i + 1))) (lv' := [(3, .int (nI (i + 1))), (0, .ref oH), (1, .int (nI y)), (2, .int (nI w))]) (k := 0) hx hb dX1_firstYearBehind_25 hl rfl (nI_add i 1) (by decide) rfl (fun ls hl => ?_)
          refine lv_goto (tgt := 2) hx hb dX1_firstYearBehind_28 (by decide) ?_
          exact ih_2 (i + 1) (by omega) (by omega) (by omega) hf2 _ _ hP hD hS ls (lv_sub hl [0, 1, 2, 3] rfl)
        · rw [fyb_step (by omega), if_neg (by omega)] at hf
          refine lv_aload_n hx hb dX1_firstYearBehind_19 rfl (lv_at hl 1 rfl) ?_
          refine lv_iload_n hx hb dX1_firstYearBehind_20 rfl (lv_at hl 0 rfl) ?_
          refine kM_callV (As := [.int (nI i)]) (rest := []) (wr := []) (w2 := fun _ => [(oH, .inr (1, [.ref b1, .ref b2, .int (nI nc)])), (b1, .inl (cI, 6, .inl (nF Y))), (b2, .inl (cI, 48, .inl G))]) (st2 := fun _ => [.int (nI (Y i))]) (k := 0) (n2 := 0) ⟨hx, hb, hml, hown, hts⟩ (c_X1_yearAt l D cI oH b1 b2 Y G nc i (by omega) hc) (cwV 1 hts gX1_firstYearBehind_X1_yearAt rfl rfl rfl (by decide +kernel) ⟨Nat.le_of_ble_eq_true rfl, Nat.le_of_ble_eq_true rfl⟩) 0 rfl rfl rfl [0] rfl hK hP hD hS hA [0, 1, 2] [] rfl (by decide) rfl (by decide) (by decide) [0, 1, 2] (by decide) (fun _ => rfl) (Nat.le_refl _) (Nat.le_refl _) (Nat.le_of_ble_eq_true rfl) (Nat.le_of_ble_eq_true rfl) rfl hl.1 (Nat.le_of_ble_eq_true rfl) (fun _ => rfl) rfl dX1_firstYearBehind_21 (fun u H locs hu hP hD hS => ?_)
          exact kM_iret hx hb hr hlk hQ hP hD hK hS () rfl (Nat.le_of_ble_eq_true rfl) (Nat.le_of_ble_eq_true rfl) (congrArg (fun z => some (Value.int z)) (by rw [← hf])) trivial dX1_firstYearBehind_24
  exact lp_2 (nc + 1) 0 (by omega) (by omega) (by omega) rfl _ _ hP hD hS ls (lv_sub hl [0, 1, 2, 3] rfl)
theorem iu_X1_heightAt_X1 : ∀ w ∈ wsX10, w ∈ wsX1_heightAt := fun w h => (List.mem_cons_of_mem _ (List.mem_append_right _ h))
def rm_c_X1_heightAt : Room := { frames := 1, cells := 0, slots := 0, locals := 21 }
set_option maxHeartbeats 4000000 in
set_option maxRecDepth 100000 in
theorem c_X1_heightAt (l : Launch) (D : va_G) (cI : ClassId) (oH b1 b2 : Nat) (Y : Nat → Nat) (G : Nat → Int32) (nc : Nat) (j i : Nat) (hj : j < nc) (hc : nc ≤ 6) (hi : i < 8) :
    kM l yX1_heightAt wsX1_heightAt rm_c_X1_heightAt D [(cI, FieldType.int)] [.ref oH, .int (nI j), .int (nI i)] [(oH, .inr (1, [.ref b1, .ref b2, .int (nI nc)])), (b1, .inl (cI, 6, .inl (nF Y))), (b2, .inl (cI, 48, .inl G))] (fun _ : Unit => True) (fun _ => some (.int (G (j * 8 + i)))) (fun _ => [(oH, .inr (1, [.ref b1, .ref b2, .int (nI nc)])), (b1, .inl (cI, 6, .inl (nF Y))), (b2, .inl (cI, 48, .inl G))]) := by
  refine kM_of (cc := cX1_heightAt) (maxL := 3) (ret := (some .int)) (own := RX1) (by decide) rfl rfl (Nat.le_of_ble_eq_true rfl) ?_
  intro p e s m args below meth c A ls Qz hx hb hml hr hts hown hlk hin hQ hA hS hP hD hK hl
  have hl : lv_has ls 3 [(0, .ref oH), (1, .int (nI j)), (2, .int (nI i))] := hl
  refine lv_aload_n hx hb dX1_heightAt_0 rfl (lv_at hl 0 rfl) ?_
  refine lv_iload_n hx hb dX1_heightAt_1 rfl (lv_at hl 1 rfl) ?_
  refine kM_callV (As := [.int (nI j)]) (rest := []) (wr := []) (w2 := fun _ => [(oH, .inr (1, [.ref b1, .ref b2, .int (nI nc)])), (b1, .inl (cI, 6, .inl (nF Y))), (b2, .inl (cI, 48, .inl G))]) (st2 := fun _ => [.int (b2i (j < nc))]) (k := 0) (n2 := 0) ⟨hx, hb, hml, hown, hts⟩ (c_X1_has l D cI oH b1 b2 Y G nc j (by omega) hc) (cwV 1 hts gX1_heightAt_X1_has rfl rfl rfl (by decide +kernel) ⟨Nat.le_of_ble_eq_true rfl, Nat.le_of_ble_eq_true rfl⟩) 0 rfl rfl rfl [0] rfl hK hP hD hS hA [0, 1, 2] [] rfl (by decide) rfl (by decide) (by decide) [0, 1, 2] (by decide) (fun _ => rfl) (Nat.le_refl _) (Nat.le_refl _) (Nat.le_of_ble_eq_true rfl) (Nat.le_of_ble_eq_true rfl) rfl hl.1 (Nat.le_of_ble_eq_true rfl) (fun _ => rfl) rfl dX1_heightAt_2 (fun u H locs hu hP hD hS => ?_)
  refine k_bif_eq hx hb (tgt := 32) dX1_heightAt_5 (by decide) (fun c_1 => (absurd hj c_1 : False).elim) (fun c_1 => ?_)
  refine lv_iload_n hx hb dX1_heightAt_8 rfl (lv_at hl 2 rfl) ?_
  refine k_if_lt hx hb (tgt := 32) (by omega) dX1_heightAt_9 (by decide) (fun h => h.elim) (fun _ => ?_)
  refine lv_iload_n hx hb dX1_heightAt_12 rfl (lv_at hl 2 rfl) ?_
  refine lv_bipush (v := (nI 8)) hx hb dX1_heightAt_13 (by decide) ?_
  refine k_icmp_ge hx hb (tgt := 32) (by omega) (by decide) dX1_heightAt_15 (by decide) (fun c_3 => ((by omega) : False).elim) (fun c_3 => ?_)
  refine lv_aload_n hx hb dX1_heightAt_18 rfl (lv_at hl 0 rfl) ?_
  refine va_get (D := D) (ci := 1) (v := .ref b2) (C := RX1) (T := TX1) (N := 3) hx hb hts iu_X1_heightAt_X1 hown hK hP 0 rfl rfl 1 (by decide) (hts _ (List.mem_of_getElem? (i := 1) rfl)) (fun _ h9 => h9) rfl dX1_heightAt_19 ?_
  refine lv_iload_n hx hb dX1_heightAt_22 rfl (lv_at hl 1 rfl) ?_
  refine lv_bipush (v := (nI 8)) hx hb dX1_heightAt_23 (by decide) ?_
  refine k_imul hx hb dX1_heightAt_25 ?_
  refine lv_iload_n hx hb dX1_heightAt_26 rfl (lv_at hl 2 rfl) ?_
  refine k_iadd hx hb dX1_heightAt_27 ?_
  refine k_iald hx hb hK hP 2 0 (i := ((j * 8) + i)) rfl rfl (by omega) (by decide) dX1_heightAt_28 ?_
  refine lv_goto (tgt := 33) hx hb dX1_heightAt_29 (by decide) ?_
  exact kM_iret hx hb hr hlk hQ hP hD hK hS () rfl (Nat.le_of_ble_eq_true rfl) (Nat.le_of_ble_eq_true rfl) (congrArg (fun z => some (Value.int z)) (by rfl)) trivial dX1_heightAt_33
theorem iu_X1_totalOf_X1 : ∀ w ∈ wsX10, w ∈ wsX1_totalOf := fun w h => (List.mem_cons_of_mem _ (List.mem_append_right _ h))
def rm_c_X1_totalOf : Room := { frames := 2, cells := 0, slots := 0, locals := 43 }
set_option maxHeartbeats 4000000 in
set_option maxRecDepth 100000 in
theorem c_X1_totalOf (l : Launch) (D : va_G) (cI : ClassId) (oH b1 b2 : Nat) (Y : Nat → Nat) (G : Nat → Int32) (nc : Nat) (j : Nat) (hj : j < nc) (hc : nc ≤ 6) :
    kM l yX1_totalOf wsX1_totalOf rm_c_X1_totalOf D [(cI, FieldType.int)] [.ref oH, .int (nI j)] [(oH, .inr (1, [.ref b1, .ref b2, .int (nI nc)])), (b1, .inl (cI, 6, .inl (nF Y))), (b2, .inl (cI, 48, .inl G))] (fun _ : Unit => True) (fun _ => some (.int (sumZ (fun i_ => G (j * 8 + i_)) 8))) (fun _ => [(oH, .inr (1, [.ref b1, .ref b2, .int (nI nc)])), (b1, .inl (cI, 6, .inl (nF Y))), (b2, .inl (cI, 48, .inl G))]) := by
  refine kM_of (cc := cX1_totalOf) (maxL := 4) (ret := (some .int)) (own := RX1) (by decide) rfl rfl (Nat.le_of_ble_eq_true rfl) ?_
  intro p e s m args below meth c A ls Qz hx hb hml hr hts hown hlk hin hQ hA hS hP hD hK hl
  have hl : lv_has ls 4 [(0, .ref oH), (1, .int (nI j))] := hl
  refine lv_iconst (v := (nI 0)) hx hb dX1_totalOf_0 (by decide) ?_
  refine lv_istore_n (lv' := [(2, .int (nI 0)), (0, .ref oH), (1, .int (nI j))]) hx hb dX1_totalOf_1 rfl hl (by decide) rfl (fun ls hl => ?_)
  refine lv_iconst (v := (nI 0)) hx hb dX1_totalOf_2 (by decide) ?_
  refine lv_istore_n (lv' := [(3, .int (nI 0)), (2, .int (nI 0)), (0, .ref oH), (1, .int (nI j))]) hx hb dX1_totalOf_3 rfl hl (by decide) rfl (fun ls hl => ?_)
  have lp_4 : ∀ (fu i : Nat), 0 ≤ i → i ≤ 8 → 8 + 1 ≤ i + fu → ∀ (x1 : Int32), x1 = sumZ (fun i_ => G (j * 8 + i_)) i → ∀ (H : Heap) (locs : List Loc), va_P D vwCl [(oH, .inr (1, [.ref b1, .ref b2, .int (nI nc)])), (b1, .inl (cI, 6, .inl (nF Y))), (b2, .inl (cI, 48, .inl G))] H → va_D A [(oH, .inr (1, [.ref b1, .ref b2, .int (nI nc)])), (b1, .inl (cI, 6, .inl (nF Y))), (b2, .inl (cI, 48, .inl G))] → va_S A s.heap H locs → ∀ (ls : Array Slot), lv_has ls 4 [(3, .int (nI i)), (2, .int x1), (0, .ref oH), (1, .int (nI j))] → W p l e rm_c_X1_totalOf s m args below meth c H locs 0 0 Qz (F0 m 4 ls []) := by
    intro fu
    induction fu with
    | zero => intro i h1_4 h2_4 h3_4; exact absurd h3_4 (by omega)
    | succ fu ih_4 =>
      intro i h1_4 h2_4 h3_4 x1 ex1 H locs hP hD hS ls hl
      subst ex1
      refine lv_iload_n hx hb dX1_totalOf_4 rfl (lv_at hl 0 rfl) ?_
      refine lv_bipush (v := (nI 8)) hx hb dX1_totalOf_5 (by decide) ?_
      refine k_icmp_ge hx hb (tgt := 25) (by omega) (by decide) dX1_totalOf_7 (by decide) (fun c_1 => ?_) (fun c_1 => ?_)
      · have e_2 : 8 = i := by omega
        subst e_2
        refine lv_iload_n hx hb dX1_totalOf_25 rfl (lv_at hl 1 rfl) ?_
        exact kM_iret hx hb hr hlk hQ hP hD hK hS () rfl (Nat.le_of_ble_eq_true rfl) (Nat.le_of_ble_eq_true rfl) (congrArg (fun z => some (Value.int z)) (by rfl)) trivial dX1_totalOf_26
      · refine lv_iload_n hx hb dX1_totalOf_10 rfl (lv_at hl 1 rfl) ?_
        refine lv_aload_n hx hb dX1_totalOf_11 rfl (lv_at hl 2 rfl) ?_
        refine lv_iload_n hx hb dX1_totalOf_12 rfl (lv_at hl 3 rfl) ?_
        refine lv_iload_n hx hb dX1_totalOf_13 rfl (lv_at hl 0 rfl) ?_
        refine kM_callV (As := [.int (nI j), .int (nI i)]) (rest := [.int (sumZ (fun i_ => G (j * 8 + i_)) i)]) (wr := []) (w2 := fun _ => [(oH, .inr (1, [.ref b1, .ref b2, .int (nI nc)])), (b1, .inl (cI, 6, .inl (nF Y))), (b2, .inl (cI, 48, .inl G))]) (st2 := fun _ => [.int (G (j * 8 + i)), .int (sumZ (fun i_ => G (j * 8 + i_)) i)]) (k := 0) (n2 := 0) ⟨hx, hb, hml, hown, hts⟩ (c_X1_heightAt l D cI oH b1 b2 Y G nc j i (by omega) hc (by omega)) (cwV 2 hts gX1_totalOf_X1_heightAt rfl rfl rfl (by decide +kernel) ⟨Nat.le_of_ble_eq_true rfl, Nat.le_of_ble_eq_true rfl⟩) 0 rfl rfl rfl [0] rfl hK hP hD hS hA [0, 1, 2] [] rfl (by decide) rfl (by decide) (by decide) [0, 1, 2] (by decide) (fun _ => rfl) (Nat.le_refl _) (Nat.le_refl _) (Nat.le_of_ble_eq_true rfl) (Nat.le_of_ble_eq_true rfl) rfl hl.1 (Nat.le_of_ble_eq_true rfl) (fun _ => rfl) rfl dX1_totalOf_14 (fun u H locs hu hP hD hS => ?_)
        refine lv_iadd hx hb dX1_totalOf_17 ?_
        refine lv_istore_n (lv' := [(2, .int ((sumZ (fun i_ => G (j * 8 + i_)) i) + (G (j * 8 + i)))), (3, .int (nI i)), (0, .ref oH), (1, .int (nI j))]) hx hb dX1_totalOf_18 rfl hl (by decide) rfl (fun ls hl => ?_)
        refine lv_iinc (v := (nI (i + 1))) (lv' := [(3, .int (nI (i + 1))), (2, .int ((sumZ (fun i_ => G (j * 8 + i_)) i) + (G (j * 8 + i)))), (0, .ref oH), (1, .int (nI j))]) (k := 1) hx hb dX1_totalOf_19 hl rfl (nI_add i 1) (by decide) rfl (fun ls hl => ?_)
        refine lv_goto (tgt := 4) hx hb dX1_totalOf_22 (by decide) ?_
        exact ih_4 (i + 1) (by omega) (by omega) (by omega) ((sumZ (fun i_ => G (j * 8 + i_)) i) + (G (j * 8 + i))) rfl _ _ hP hD hS ls (lv_sub hl [0, 1, 2, 3] rfl)
  exact lp_4 (8 + 1) 0 (by omega) (by omega) (by omega) (nI 0) rfl _ _ hP hD hS ls (lv_sub hl [0, 1, 2, 3] rfl)
theorem iu_X1_putBack_X1 : ∀ w ∈ wsX10, w ∈ wsX1_putBack := fun w h => (List.mem_cons_of_mem _ (List.mem_append_left _ (List.mem_append_right _ h)))
theorem iu_X1_putBack_X2 : ∀ w ∈ wsX20, w ∈ wsX1_putBack := fun w h => (List.mem_cons_of_mem _ (List.mem_append_right _ h))
def rm_c_X1_putBack : Room := { frames := 2, cells := 0, slots := 0, locals := 43 }
set_option maxHeartbeats 4000000 in
set_option maxRecDepth 100000 in
theorem c_X1_putBack (l : Launch) (D : va_G) (cI : ClassId) (oH b1 b2 : Nat) (Y : Nat → Nat) (G : Nat → Int32) (nc : Nat) (j h a : Nat) (f : Nat → Int32) (hj : j < nc) (hc : nc ≤ 6) :
    kM l yX1_putBack wsX1_putBack rm_c_X1_putBack D [(cI, FieldType.int)] [.ref oH, .int (nI j), .ref h] [(oH, .inr (1, [.ref b1, .ref b2, .int (nI nc)])), (b1, .inl (cI, 6, .inl (nF Y))), (b2, .inl (cI, 48, .inl G)), (h, .inr (2, [.ref a])), (a, .inl (cI, 8, .inl f))] (fun _ : Unit => True) (fun _ => none) (fun _ => [(oH, .inr (1, [.ref b1, .ref b2, .int (nI nc)])), (b1, .inl (cI, 6, .inl (nF Y))), (b2, .inl (cI, 48, .inl G)), (h, .inr (2, [.ref a])), (a, .inl (cI, 8, .inl (pbN G j f 8)))]) := by
  refine kM_of (cc := cX1_putBack) (maxL := 4) (ret := none) (own := RX1) (by decide) rfl rfl (Nat.le_of_ble_eq_true rfl) ?_
  intro p e s m args below meth c A ls Qz hx hb hml hr hts hown hlk hin hQ hA hS hP hD hK hl
  have hl : lv_has ls 4 [(0, .ref oH), (1, .int (nI j)), (2, .ref h)] := hl
  refine lv_iconst (v := (nI 0)) hx hb dX1_putBack_0 (by decide) ?_
  refine lv_istore_n (lv' := [(3, .int (nI 0)), (0, .ref oH), (1, .int (nI j)), (2, .ref h)]) hx hb dX1_putBack_1 rfl hl (by decide) rfl (fun ls hl => ?_)
  have lp_2 : ∀ (fu i : Nat), 0 ≤ i → i ≤ 8 → 8 + 1 ≤ i + fu → ∀ (x1 : Nat → Int32), x1 = pbN G j f i → ∀ (H : Heap) (locs : List Loc), va_P D vwCl [(oH, .inr (1, [.ref b1, .ref b2, .int (nI nc)])), (b1, .inl (cI, 6, .inl (nF Y))), (b2, .inl (cI, 48, .inl G)), (h, .inr (2, [.ref a])), (a, .inl (cI, 8, .inl x1))] H → va_D A [(oH, .inr (1, [.ref b1, .ref b2, .int (nI nc)])), (b1, .inl (cI, 6, .inl (nF Y))), (b2, .inl (cI, 48, .inl G)), (h, .inr (2, [.ref a])), (a, .inl (cI, 8, .inl x1))] → va_S A s.heap H locs → ∀ (ls : Array Slot), lv_has ls 4 [(3, .int (nI i)), (0, .ref oH), (1, .int (nI j)), (2, .ref h)] → W p l e rm_c_X1_putBack s m args below meth c H locs 0 0 Qz (F0 m 2 ls []) := by
    intro fu
    induction fu with
    | zero => intro i h1_2 h2_2 h3_2; exact absurd h3_2 (by omega)
    | succ fu ih_2 =>
      intro i h1_2 h2_2 h3_2 x1 ex1 H locs hP hD hS ls hl
      subst ex1
      refine lv_iload_n hx hb dX1_putBack_2 rfl (lv_at hl 0 rfl) ?_
      refine lv_bipush (v := (nI 8)) hx hb dX1_putBack_3 (by decide) ?_
      refine k_icmp_ge hx hb (tgt := 25) (by omega) (by decide) dX1_putBack_5 (by decide) (fun c_1 => ?_) (fun c_1 => ?_)
      · have e_2 : 8 = i := by omega
        subst e_2
        exact kM_vret hx hb hr hlk hQ hP hD hK hS () rfl (Nat.le_of_ble_eq_true rfl) (Nat.le_of_ble_eq_true rfl) rfl trivial dX1_putBack_25
      · refine lv_aload_n hx hb dX1_putBack_8 rfl (lv_at hl 3 rfl) ?_
        refine lv_iload_n hx hb dX1_putBack_9 rfl (lv_at hl 0 rfl) ?_
        refine lv_aload_n hx hb dX1_putBack_10 rfl (lv_at hl 1 rfl) ?_
        refine lv_iload_n hx hb dX1_putBack_11 rfl (lv_at hl 2 rfl) ?_
        refine lv_iload_n hx hb dX1_putBack_12 rfl (lv_at hl 0 rfl) ?_
        refine kM_callV (As := [.int (nI j), .int (nI i)]) (rest := [.int (nI i), .ref h]) (wr := [(h, .inr (2, [.ref a])), (a, .inl (cI, 8, .inl (pbN G j f i)))]) (w2 := fun _ => [(oH, .inr (1, [.ref b1, .ref b2, .int (nI nc)])), (b1, .inl (cI, 6, .inl (nF Y))), (b2, .inl (cI, 48, .inl G)), (h, .inr (2, [.ref a])), (a, .inl (cI, 8, .inl (pbN G j f i)))]) (st2 := fun _ => [.int (G (j * 8 + i)), .int (nI i), .ref h]) (k := 0) (n2 := 0) ⟨hx, hb, hml, hown, hts⟩ (c_X1_heightAt l D cI oH b1 b2 Y G nc j i hj hc (by omega)) (cwV 2 hts gX1_putBack_X1_heightAt rfl rfl rfl (by decide +kernel) ⟨Nat.le_of_ble_eq_true rfl, Nat.le_of_ble_eq_true rfl⟩) 0 rfl rfl rfl [0] rfl hK hP hD hS hA [0, 1, 2] [3, 4] rfl (by decide) rfl (by decide) (by decide) [2, 3, 4, 0, 1] (by decide) (fun _ => rfl) (Nat.le_refl _) (Nat.le_refl _) (Nat.le_of_ble_eq_true rfl) (Nat.le_of_ble_eq_true rfl) rfl hl.1 (Nat.le_of_ble_eq_true rfl) (fun _ => rfl) rfl dX1_putBack_13 (fun u H locs hu hP hD hS => ?_)
        refine kM_callV (As := [.int (nI i), .int (G (j * 8 + i))]) (rest := []) (wr := [(oH, .inr (1, [.ref b1, .ref b2, .int (nI nc)])), (b1, .inl (cI, 6, .inl (nF Y))), (b2, .inl (cI, 48, .inl G))]) (w2 := fun _ => [(oH, .inr (1, [.ref b1, .ref b2, .int (nI nc)])), (b1, .inl (cI, 6, .inl (nF Y))), (b2, .inl (cI, 48, .inl G)), (h, .inr (2, [.ref a])), (a, .inl (cI, 8, .inl (upd (pbN G j f i) i (G (j * 8 + i)))))]) (st2 := fun _ => []) (k := 0) (n2 := 0) ⟨hx, hb, hml, hown, hts⟩ (c_X2_setHeight l D cI h a (pbN G j f i) i (G (j * 8 + i)) (by omega)) (cwV 2 hts gX1_putBack_X2_setHeight rfl rfl rfl (by decide +kernel) ⟨Nat.le_of_ble_eq_true rfl, Nat.le_of_ble_eq_true rfl⟩) 3 rfl rfl rfl [0] rfl hK hP hD hS hA [3, 4] [0, 1, 2] rfl (by decide) rfl (by decide) (by decide) [0, 1, 2, 3, 4] (by decide) (fun _ => rfl) (Nat.le_refl _) (Nat.le_refl _) (Nat.le_of_ble_eq_true rfl) (Nat.le_of_ble_eq_true rfl) rfl hl.1 (Nat.le_of_ble_eq_true rfl) (fun _ => rfl) rfl dX1_putBack_16 (fun u H locs hu hP hD hS => ?_)
        refine lv_iinc (v := (nI (i + 1))) (lv' := [(3, .int (nI (i + 1))), (0, .ref oH), (1, .int (nI j)), (2, .ref h)]) (k := 0) hx hb dX1_putBack_19 hl rfl (nI_add i 1) (by decide) rfl (fun ls hl => ?_)
        refine lv_goto (tgt := 2) hx hb dX1_putBack_22 (by decide) ?_
        exact ih_2 (i + 1) (by omega) (by omega) (by omega) (upd (pbN G j f i) i (G (j * 8 + i))) rfl _ _ hP hD hS ls (lv_sub hl [0, 1, 2, 3] rfl)
  exact lp_2 (8 + 1) 0 (by omega) (by omega) (by omega) f rfl _ _ hP hD hS ls (lv_sub hl [0, 1, 2, 3] rfl)
theorem iu_X1_remove_X1 : ∀ w ∈ wsX10, w ∈ wsX1_remove := fun w h => (List.mem_cons_of_mem _ (List.mem_append_right _ h))
def rm_c_X1_remove : Room := { frames := 1, cells := 0, slots := 0, locals := 21 }
set_option maxHeartbeats 4000000 in
set_option maxRecDepth 100000 in
theorem c_X1_remove (l : Launch) (D : va_G) (cI : ClassId) (oH b1 b2 : Nat) (Y : Nat → Nat) (G : Nat → Int32) (nc : Nat) (j : Nat) (hj : j < nc) (hc : nc ≤ 6) :
    kM l yX1_remove wsX1_remove rm_c_X1_remove D [(cI, FieldType.int)] [.ref oH, .int (nI j)] [(oH, .inr (1, [.ref b1, .ref b2, .int (nI nc)])), (b1, .inl (cI, 6, .inl (nF Y))), (b2, .inl (cI, 48, .inl G))] (fun _ : Unit => True) (fun _ => none) (fun _ => [(oH, .inr (1, [.ref b1, .ref b2, .int (nI (nc - 1))])), (b1, .inl (cI, 6, .inl (nF (shY Y j (nc - 1 - j))))), (b2, .inl (cI, 48, .inl (shG G j (nc - 1 - j))))]) := by
  refine kM_of (cc := cX1_remove) (maxL := 4) (ret := none) (own := RX1) (by decide) rfl rfl (Nat.le_of_ble_eq_true rfl) ?_
  intro p e s m args below meth c A ls Qz hx hb hml hr hts hown hlk hin hQ hA hS hP hD hK hl
  have hl : lv_has ls 4 [(0, .ref oH), (1, .int (nI j))] := hl
  refine lv_aload_n hx hb dX1_remove_0 rfl (lv_at hl 0 rfl) ?_
  refine lv_iload_n hx hb dX1_remove_1 rfl (lv_at hl 1 rfl) ?_
  refine kM_callV (As := [.int (nI j)]) (rest := []) (wr := []) (w2 := fun _ => [(oH, .inr (1, [.ref b1, .ref b2, .int (nI nc)])), (b1, .inl (cI, 6, .inl (nF Y))), (b2, .inl (cI, 48, .inl G))]) (st2 := fun _ => [.int (b2i (j < nc))]) (k := 0) (n2 := 0) ⟨hx, hb, hml, hown, hts⟩ (c_X1_has l D cI oH b1 b2 Y G nc j (by omega) hc) (cwV 1 hts gX1_remove_X1_has rfl rfl rfl (by decide +kernel) ⟨Nat.le_of_ble_eq_true rfl, Nat.le_of_ble_eq_true rfl⟩) 0 rfl rfl rfl [0] rfl hK hP hD hS hA [0, 1, 2] [] rfl (by decide) rfl (by decide) (by decide) [0, 1, 2] (by decide) (fun _ => rfl) (Nat.le_refl _) (Nat.le_refl _) (Nat.le_of_ble_eq_true rfl) (Nat.le_of_ble_eq_true rfl) rfl hl.1 (Nat.le_of_ble_eq_true rfl) (fun _ => rfl) rfl dX1_remove_2 (fun u H locs hu hP hD hS => ?_)
  refine k_bif_ne hx hb (tgt := 9) dX1_remove_5 (by decide) (fun c_1 => ?_) (fun c_1 => (c_1 hj : False).elim)
  refine lv_iload_n hx hb dX1_remove_9 rfl (lv_at hl 1 rfl) ?_
  refine lv_istore_n (lv' := [(2, .int (nI j)), (0, .ref oH), (1, .int (nI j))]) hx hb dX1_remove_10 rfl hl (by decide) rfl (fun ls hl => ?_)
  have lp_11 : ∀ (fu d : Nat), 0 ≤ d → d ≤ nc - 1 - j → (nc - 1 - j) + 1 ≤ d + fu → ∀ (x1 : Nat → Nat), x1 = shY Y j d → ∀ (x2 : Nat → Int32), x2 = shG G j d → ∀ (H : Heap) (locs : List Loc), va_P D vwCl [(oH, .inr (1, [.ref b1, .ref b2, .int (nI nc)])), (b1, .inl (cI, 6, .inl (nF x1))), (b2, .inl (cI, 48, .inl x2))] H → va_D A [(oH, .inr (1, [.ref b1, .ref b2, .int (nI nc)])), (b1, .inl (cI, 6, .inl (nF x1))), (b2, .inl (cI, 48, .inl x2))] → va_S A s.heap H locs → ∀ (ls : Array Slot), lv_has ls 4 [(2, .int (nI (j + d))), (0, .ref oH), (1, .int (nI j))] → W p l e rm_c_X1_remove s m args below meth c H locs 0 0 Qz (F0 m 11 ls []) := by
    intro fu
    induction fu with
    | zero => intro d h1_11 h2_11 h3_11; exact absurd h3_11 (by omega)
    | succ fu ih_11 =>
      intro d h1_11 h2_11 h3_11 x1 ex1 x2 ex2 H locs hP hD hS ls hl
      subst ex1
      subst ex2
      refine lv_iload_n hx hb dX1_remove_11 rfl (lv_at hl 0 rfl) ?_
      refine lv_iconst (v := (nI 1)) hx hb dX1_remove_12 (by decide) ?_
      refine k_iadd hx hb dX1_remove_13 ?_
      refine lv_aload_n hx hb dX1_remove_14 rfl (lv_at hl 1 rfl) ?_
      refine va_get (D := D) (ci := 1) (v := .int (nI nc)) (C := RX1) (T := TX1) (N := 3) hx hb hts iu_X1_remove_X1 hown hK hP 0 rfl rfl 2 (by decide) (hts _ (List.mem_of_getElem? (i := 1) rfl)) (fun _ h9 => h9) rfl dX1_remove_15 ?_
      refine k_icmp_ge hx hb (tgt := 87) (by omega) (by omega) dX1_remove_18 (by decide) (fun c_2 => ?_) (fun c_2 => ?_)
      · have e_3 : nc - 1 - j = d := by omega
        subst e_3
        refine lv_aload_n hx hb dX1_remove_87 rfl (lv_at hl 1 rfl) ?_
        refine lv_dup hx hb dX1_remove_88 rfl ?_
        refine va_get (D := D) (ci := 1) (v := .int (nI nc)) (C := RX1) (T := TX1) (N := 3) hx hb hts iu_X1_remove_X1 hown hK hP 0 rfl rfl 2 (by decide) (hts _ (List.mem_of_getElem? (i := 1) rfl)) (fun _ h9 => h9) rfl dX1_remove_89 ?_
        refine lv_iconst (v := (nI 1)) hx hb dX1_remove_92 (by decide) ?_
        refine k_isub hx hb (by omega) dX1_remove_93 ?_
        refine va_put (D := D) (ci := 1) (v := .int (nI (nc - 1))) (ty := .int) (C := RX1) (T := TX1) (N := 3) hx hb hts iu_X1_remove_X1 tyX1 tyX1_ok nmX1 hown hK hP hD hS 0 rfl rfl 2 (by decide) (hts _ (List.mem_of_getElem? (i := 1) rfl)) (fun _ h9 => h9) rfl (by decide +kernel) rfl rfl (Nat.le_of_ble_eq_true rfl) dX1_remove_94 (fun H locs hP hD hS => ?_)
        have hP : va_P D vwCl [(oH, .inr (1, [.ref b1, .ref b2, .int (nI (nc - 1))])), (b1, .inl (cI, 6, .inl (nF (shY Y j (nc - 1 - j))))), (b2, .inl (cI, 48, .inl (shG G j (nc - 1 - j))))] H := hP
        have hD : va_D A [(oH, .inr (1, [.ref b1, .ref b2, .int (nI (nc - 1))])), (b1, .inl (cI, 6, .inl (nF (shY Y j (nc - 1 - j))))), (b2, .inl (cI, 48, .inl (shG G j (nc - 1 - j))))] := hD
        exact kM_vret hx hb hr hlk hQ hP hD hK hS () rfl (Nat.le_of_ble_eq_true rfl) (Nat.le_of_ble_eq_true rfl) rfl trivial dX1_remove_97
      · refine lv_iload_n hx hb dX1_remove_21 rfl (lv_at hl 0 rfl) ?_
        refine lv_iconst (v := (nI 1)) hx hb dX1_remove_22 (by decide) ?_
        refine k_iadd hx hb dX1_remove_23 ?_
        refine lv_bipush (v := (nI 6)) hx hb dX1_remove_24 (by decide) ?_
        refine k_icmp_ge hx hb (tgt := 87) (by omega) (by decide) dX1_remove_26 (by decide) (fun c_4 => ((by omega) : False).elim) (fun c_4 => ?_)
        refine lv_aload_n hx hb dX1_remove_29 rfl (lv_at hl 1 rfl) ?_
        refine va_get (D := D) (ci := 1) (v := .ref b1) (C := RX1) (T := TX1) (N := 3) hx hb hts iu_X1_remove_X1 hown hK hP 0 rfl rfl 0 (by decide) (hts _ (List.mem_of_getElem? (i := 2) rfl)) (fun _ h9 => h9) rfl dX1_remove_30 ?_
        refine lv_iload_n hx hb dX1_remove_33 rfl (lv_at hl 0 rfl) ?_
        refine lv_aload_n hx hb dX1_remove_34 rfl (lv_at hl 1 rfl) ?_
        refine va_get (D := D) (ci := 1) (v := .ref b1) (C := RX1) (T := TX1) (N := 3) hx hb hts iu_X1_remove_X1 hown hK hP 0 rfl rfl 0 (by decide) (hts _ (List.mem_of_getElem? (i := 2) rfl)) (fun _ h9 => h9) rfl dX1_remove_35 ?_
        refine lv_iload_n hx hb dX1_remove_38 rfl (lv_at hl 0 rfl) ?_
        refine lv_iconst (v := (nI 1)) hx hb dX1_remove_39 (by decide) ?_
        refine k_iadd hx hb dX1_remove_40 ?_
        refine k_iald hx hb hK hP 1 0 (i := ((j + d) + 1)) rfl rfl (by omega) (by decide) dX1_remove_41 ?_
        refine k_top (y := (nI ((shY Y j d) ((j + d) + 1)))) rfl ?_
        refine k_iast (w2 := [(oH, .inr (1, [.ref b1, .ref b2, .int (nI nc)])), (b1, .inl (cI, 6, .inl (nF (upN (shY Y j d) (j + d) ((shY Y j d) ((j + d) + 1)))))), (b2, .inl (cI, 48, .inl (shG G j d)))]) hx hb hK hP hD hS 1 0 (i := (j + d)) rfl rfl (by omega) (by decide) dX1_remove_42 (g := nF (upN (shY Y j d) (j + d) ((shY Y j d) ((j + d) + 1)))) (nF_upd (shY Y j d) (j + d) ((shY Y j d) ((j + d) + 1))) rfl (fun H locs hP hD hS => ?_)
        refine lv_iconst (v := (nI 0)) hx hb dX1_remove_43 (by decide) ?_
        refine lv_istore_n (lv' := [(3, .int (nI 0)), (2, .int (nI (j + d))), (0, .ref oH), (1, .int (nI j))]) hx hb dX1_remove_44 rfl hl (by decide) rfl (fun ls hl => ?_)
        have lp_45 : ∀ (fu k : Nat), 0 ≤ k → k ≤ 8 → 8 + 1 ≤ k + fu → ∀ (x3 : Nat → Int32), x3 = cp8 (shG G j d) (j + d) k → ∀ (H : Heap) (locs : List Loc), va_P D vwCl [(oH, .inr (1, [.ref b1, .ref b2, .int (nI nc)])), (b1, .inl (cI, 6, .inl (nF (upN (shY Y j d) (j + d) ((shY Y j d) ((j + d) + 1)))))), (b2, .inl (cI, 48, .inl x3))] H → va_D A [(oH, .inr (1, [.ref b1, .ref b2, .int (nI nc)])), (b1, .inl (cI, 6, .inl (nF (upN (shY Y j d) (j + d) ((shY Y j d) ((j + d) + 1)))))), (b2, .inl (cI, 48, .inl x3))] → va_S A s.heap H locs → ∀ (ls : Array Slot), lv_has ls 4 [(3, .int (nI k)), (2, .int (nI (j + d))), (0, .ref oH), (1, .int (nI j))] → W p l e rm_c_X1_remove s m args below meth c H locs 0 0 Qz (F0 m 45 ls []) := by
          intro fu
          induction fu with
          | zero => intro k h1_45 h2_45 h3_45; exact absurd h3_45 (by omega)
          | succ fu ih_45 =>
            intro k h1_45 h2_45 h3_45 x3 ex3 H locs hP hD hS ls hl
            subst ex3
            refine lv_iload_n hx hb dX1_remove_45 rfl (lv_at hl 0 rfl) ?_
            refine lv_bipush (v := (nI 8)) hx hb dX1_remove_46 (by decide) ?_
            refine k_icmp_ge hx hb (tgt := 81) (by omega) (by decide) dX1_remove_48 (by decide) (fun c_5 => ?_) (fun c_5 => ?_)
            · have e_6 : 8 = k := by omega
              subst e_6
              refine lv_iinc (v := (nI ((j + d) + 1))) (lv' := [(2, .int (nI ((j + d) + 1))), (3, .int (nI 8)), (0, .ref oH), (1, .int (nI j))]) (k := 1) hx hb dX1_remove_81 hl rfl (nI_add (j + d) 1) (by decide) rfl (fun ls hl => ?_)
              refine lv_goto (tgt := 11) hx hb dX1_remove_84 (by decide) ?_
              exact ih_11 (d + 1) (by omega) (by omega) (by omega) (upN (shY Y j d) (j + d) ((shY Y j d) ((j + d) + 1))) rfl (cp8 (shG G j d) (j + d) 8) rfl _ _ hP hD hS ls (lv_sub hl [0, 2, 3] rfl)
            · refine lv_aload_n hx hb dX1_remove_51 rfl (lv_at hl 2 rfl) ?_
              refine va_get (D := D) (ci := 1) (v := .ref b2) (C := RX1) (T := TX1) (N := 3) hx hb hts iu_X1_remove_X1 hown hK hP 0 rfl rfl 1 (by decide) (hts _ (List.mem_of_getElem? (i := 3) rfl)) (fun _ h9 => h9) rfl dX1_remove_52 ?_
              refine lv_iload_n hx hb dX1_remove_55 rfl (lv_at hl 1 rfl) ?_
              refine lv_bipush (v := (nI 8)) hx hb dX1_remove_56 (by decide) ?_
              refine k_imul hx hb dX1_remove_58 ?_
              refine lv_iload_n hx hb dX1_remove_59 rfl (lv_at hl 0 rfl) ?_
              refine k_iadd hx hb dX1_remove_60 ?_
              refine lv_aload_n hx hb dX1_remove_61 rfl (lv_at hl 2 rfl) ?_
              refine va_get (D := D) (ci := 1) (v := .ref b2) (C := RX1) (T := TX1) (N := 3) hx hb hts iu_X1_remove_X1 hown hK hP 0 rfl rfl 1 (by decide) (hts _ (List.mem_of_getElem? (i := 3) rfl)) (fun _ h9 => h9) rfl dX1_remove_62 ?_
              refine lv_iload_n hx hb dX1_remove_65 rfl (lv_at hl 1 rfl) ?_
              refine lv_iconst (v := (nI 1)) hx hb dX1_remove_66 (by decide) ?_
              refine k_iadd hx hb dX1_remove_67 ?_
              refine lv_bipush (v := (nI 8)) hx hb dX1_remove_68 (by decide) ?_
              refine k_imul hx hb dX1_remove_70 ?_
              refine lv_iload_n hx hb dX1_remove_71 rfl (lv_at hl 0 rfl) ?_
              refine k_iadd hx hb dX1_remove_72 ?_
              refine k_iald hx hb hK hP 2 0 (i := ((((j + d) + 1) * 8) + k)) rfl rfl (by omega) (by decide) dX1_remove_73 ?_
              refine k_iast (w2 := [(oH, .inr (1, [.ref b1, .ref b2, .int (nI nc)])), (b1, .inl (cI, 6, .inl (nF (upN (shY Y j d) (j + d) ((shY Y j d) ((j + d) + 1)))))), (b2, .inl (cI, 48, .inl (upd (cp8 (shG G j d) (j + d) k) (((j + d) * 8) + k) ((cp8 (shG G j d) (j + d) k) ((((j + d) + 1) * 8) + k)))))]) hx hb hK hP hD hS 2 0 (i := (((j + d) * 8) + k)) rfl rfl (by omega) (by decide) dX1_remove_74 (g := upd (cp8 (shG G j d) (j + d) k) (((j + d) * 8) + k) ((cp8 (shG G j d) (j + d) k) ((((j + d) + 1) * 8) + k))) rfl rfl (fun H locs hP hD hS => ?_)
              refine lv_iinc (v := (nI (k + 1))) (lv' := [(3, .int (nI (k + 1))), (2, .int (nI (j + d))), (0, .ref oH), (1, .int (nI j))]) (k := 0) hx hb dX1_remove_75 hl rfl (nI_add k 1) (by decide) rfl (fun ls hl => ?_)
              refine lv_goto (tgt := 45) hx hb dX1_remove_78 (by decide) ?_
              exact ih_45 (k + 1) (by omega) (by omega) (by omega) (upd (cp8 (shG G j d) (j + d) k) (((j + d) * 8) + k) ((cp8 (shG G j d) (j + d) k) ((((j + d) + 1) * 8) + k))) rfl _ _ hP hD hS ls (lv_sub hl [0, 1, 2, 3] rfl)
        exact lp_45 (8 + 1) 0 (by omega) (by omega) (by omega) (shG G j d) rfl _ _ hP hD hS ls (lv_sub hl [0, 1, 2, 3] rfl)
  exact lp_11 ((nc - 1 - j) + 1) 0 (by omega) (by omega) (by omega) Y rfl G rfl _ _ hP hD hS ls (lv_sub hl [0, 1, 2] rfl)
theorem iu_X1_draw_X1 : ∀ w ∈ wsX10, w ∈ wsX1_draw := fun w h => (List.mem_cons_of_mem _ (List.mem_append_left _ (List.mem_append_right _ h)))
theorem iu_X1_draw_X2 : ∀ w ∈ wsX20, w ∈ wsX1_draw := fun w h => (List.mem_cons_of_mem _ (List.mem_append_right _ h))
def rm_c_X1_draw_lt : Room := { frames := 2, cells := 0, slots := 0, locals := 44 }
set_option maxHeartbeats 4000000 in
set_option maxRecDepth 100000 in
theorem c_X1_draw_lt (l : Launch) (D : va_G) (cI : ClassId) (oH b1 b2 : Nat) (Y : Nat → Nat) (G : Nat → Int32) (nc : Nat) (y h a : Nat) (f : Nat → Int32) (hc : nc < 6) :
    kM l yX1_draw wsX1_draw rm_c_X1_draw_lt D [(cI, FieldType.int)] [.ref oH, .int (nI y), .ref h] [(oH, .inr (1, [.ref b1, .ref b2, .int (nI nc)])), (b1, .inl (cI, 6, .inl (nF Y))), (b2, .inl (cI, 48, .inl G)), (h, .inr (2, [.ref a])), (a, .inl (cI, 8, .inl f))] (fun _ : Unit => True) (fun _ => none) (fun _ => [(oH, .inr (1, [.ref b1, .ref b2, .int (nI (nc + 1))])), (b1, .inl (cI, 6, .inl (nF (upN Y nc y)))), (b2, .inl (cI, 48, .inl (drG G nc f 8))), (h, .inr (2, [.ref a])), (a, .inl (cI, 8, .inl f))]) := by
  refine kM_of (cc := cX1_draw) (maxL := 5) (ret := none) (own := RX1) (by decide) rfl rfl (Nat.le_of_ble_eq_true rfl) ?_
  intro p e s m args below meth c A ls Qz hx hb hml hr hts hown hlk hin hQ hA hS hP hD hK hl
  have hl : lv_has ls 5 [(0, .ref oH), (1, .int (nI y)), (2, .ref h)] := hl
  refine lv_aload_n hx hb dX1_draw_0 rfl (lv_at hl 0 rfl) ?_
  refine va_get (D := D) (ci := 1) (v := .int (nI nc)) (C := RX1) (T := TX1) (N := 3) hx hb hts iu_X1_draw_X1 hown hK hP 0 rfl rfl 2 (by decide) (hts _ (List.mem_of_getElem? (i := 1) rfl)) (fun _ h9 => h9) rfl dX1_draw_1 ?_
  refine lv_bipush (v := (nI 6)) hx hb dX1_draw_4 (by decide) ?_
  refine k_icmp_lt hx hb (tgt := 14) (by omega) (by decide) dX1_draw_6 (by decide) (fun c_1 => ?_) (fun c_1 => ((by omega) : False).elim)
  refine lv_aload_n hx hb dX1_draw_14 rfl (lv_at hl 0 rfl) ?_
  refine va_get (D := D) (ci := 1) (v := .int (nI nc)) (C := RX1) (T := TX1) (N := 3) hx hb hts iu_X1_draw_X1 hown hK hP 0 rfl rfl 2 (by decide) (hts _ (List.mem_of_getElem? (i := 1) rfl)) (fun _ h9 => h9) rfl dX1_draw_15 ?_
  refine lv_istore_n (lv' := [(3, .int (nI nc)), (0, .ref oH), (1, .int (nI y)), (2, .ref h)]) hx hb dX1_draw_18 rfl hl (by decide) rfl (fun ls hl => ?_)
  refine lv_iload_n hx hb dX1_draw_19 rfl (lv_at hl 0 rfl) ?_
  refine k_if_lt hx hb (tgt := 29) (by omega) dX1_draw_20 (by decide) (fun h => h.elim) (fun _ => ?_)
  refine lv_iload_n hx hb dX1_draw_23 rfl (lv_at hl 0 rfl) ?_
  refine lv_bipush (v := (nI 6)) hx hb dX1_draw_24 (by decide) ?_
  refine k_icmp_lt hx hb (tgt := 30) (by omega) (by decide) dX1_draw_26 (by decide) (fun c_3 => ?_) (fun c_3 => ((by omega) : False).elim)
  refine lv_aload_n hx hb dX1_draw_30 rfl (lv_at hl 1 rfl) ?_
  refine lv_dup hx hb dX1_draw_31 rfl ?_
  refine va_get (D := D) (ci := 1) (v := .int (nI nc)) (C := RX1) (T := TX1) (N := 3) hx hb hts iu_X1_draw_X1 hown hK hP 0 rfl rfl 2 (by decide) (hts _ (List.mem_of_getElem? (i := 1) rfl)) (fun _ h9 => h9) rfl dX1_draw_32 ?_
  refine lv_iconst (v := (nI 1)) hx hb dX1_draw_35 (by decide) ?_
  refine k_iadd hx hb dX1_draw_36 ?_
  refine va_put (D := D) (ci := 1) (v := .int (nI (nc + 1))) (ty := .int) (C := RX1) (T := TX1) (N := 3) hx hb hts iu_X1_draw_X1 tyX1 tyX1_ok nmX1 hown hK hP hD hS 0 rfl rfl 2 (by decide) (hts _ (List.mem_of_getElem? (i := 1) rfl)) (fun _ h9 => h9) rfl (by decide +kernel) rfl rfl (Nat.le_of_ble_eq_true rfl) dX1_draw_37 (fun H locs hP hD hS => ?_)
  have hP : va_P D vwCl [(oH, .inr (1, [.ref b1, .ref b2, .int (nI (nc + 1))])), (b1, .inl (cI, 6, .inl (nF Y))), (b2, .inl (cI, 48, .inl G)), (h, .inr (2, [.ref a])), (a, .inl (cI, 8, .inl f))] H := hP
  have hD : va_D A [(oH, .inr (1, [.ref b1, .ref b2, .int (nI (nc + 1))])), (b1, .inl (cI, 6, .inl (nF Y))), (b2, .inl (cI, 48, .inl G)), (h, .inr (2, [.ref a])), (a, .inl (cI, 8, .inl f))] := hD
  refine lv_aload_n hx hb dX1_draw_40 rfl (lv_at hl 1 rfl) ?_
  refine va_get (D := D) (ci := 1) (v := .ref b1) (C := RX1) (T := TX1) (N := 3) hx hb hts iu_X1_draw_X1 hown hK hP 0 rfl rfl 0 (by decide) (hts _ (List.mem_of_getElem? (i := 2) rfl)) (fun _ h9 => h9) rfl dX1_draw_41 ?_
  refine lv_iload_n hx hb dX1_draw_44 rfl (lv_at hl 0 rfl) ?_
  refine lv_iload_n hx hb dX1_draw_45 rfl (lv_at hl 2 rfl) ?_
  refine k_iast (w2 := [(oH, .inr (1, [.ref b1, .ref b2, .int (nI (nc + 1))])), (b1, .inl (cI, 6, .inl (nF (upN Y nc y)))), (b2, .inl (cI, 48, .inl G)), (h, .inr (2, [.ref a])), (a, .inl (cI, 8, .inl f))]) hx hb hK hP hD hS 1 0 (i := nc) rfl rfl (by omega) (by decide) dX1_draw_46 (g := nF (upN Y nc y)) (nF_upd Y nc y) rfl (fun H locs hP hD hS => ?_)
  refine lv_iconst (v := (nI 0)) hx hb dX1_draw_47 (by decide) ?_
  refine lv_istore (lv' := [(4, .int (nI 0)), (3, .int (nI nc)), (0, .ref oH), (1, .int (nI y)), (2, .ref h)]) hx hb dX1_draw_48 hl (by decide) rfl (fun ls hl => ?_)
  have lp_50 : ∀ (fu i : Nat), 0 ≤ i → i ≤ 8 → 8 + 1 ≤ i + fu → ∀ (x1 : Nat → Int32), x1 = drG G nc f i → ∀ (H : Heap) (locs : List Loc), va_P D vwCl [(oH, .inr (1, [.ref b1, .ref b2, .int (nI (nc + 1))])), (b1, .inl (cI, 6, .inl (nF (upN Y nc y)))), (b2, .inl (cI, 48, .inl x1)), (h, .inr (2, [.ref a])), (a, .inl (cI, 8, .inl f))] H → va_D A [(oH, .inr (1, [.ref b1, .ref b2, .int (nI (nc + 1))])), (b1, .inl (cI, 6, .inl (nF (upN Y nc y)))), (b2, .inl (cI, 48, .inl x1)), (h, .inr (2, [.ref a])), (a, .inl (cI, 8, .inl f))] → va_S A s.heap H locs → ∀ (ls : Array Slot), lv_has ls 5 [(4, .int (nI i)), (3, .int (nI nc)), (0, .ref oH), (1, .int (nI y)), (2, .ref h)] → W p l e rm_c_X1_draw_lt s m args below meth c H locs 0 0 Qz (F0 m 50 ls []) := by
    intro fu
    induction fu with
    | zero => intro i h1_50 h2_50 h3_50; exact absurd h3_50 (by omega)
    | succ fu ih_50 =>
      intro i h1_50 h2_50 h3_50 x1 ex1 H locs hP hD hS ls hl
      subst ex1
      refine lv_iload hx hb dX1_draw_50 (lv_at hl 0 rfl) ?_
      refine lv_bipush (v := (nI 8)) hx hb dX1_draw_52 (by decide) ?_
      refine k_icmp_ge hx hb (tgt := 81) (by omega) (by decide) dX1_draw_54 (by decide) (fun c_4 => ?_) (fun c_4 => ?_)
      · have e_5 : 8 = i := by omega
        subst e_5
        exact kM_vret hx hb hr hlk hQ hP hD hK hS () rfl (Nat.le_of_ble_eq_true rfl) (Nat.le_of_ble_eq_true rfl) rfl trivial dX1_draw_81
      · refine lv_aload_n hx hb dX1_draw_57 rfl (lv_at hl 2 rfl) ?_
        refine va_get (D := D) (ci := 1) (v := .ref b2) (C := RX1) (T := TX1) (N := 3) hx hb hts iu_X1_draw_X1 hown hK hP 0 rfl rfl 1 (by decide) (hts _ (List.mem_of_getElem? (i := 3) rfl)) (fun _ h9 => h9) rfl dX1_draw_58 ?_
        refine lv_iload_n hx hb dX1_draw_61 rfl (lv_at hl 1 rfl) ?_
        refine lv_bipush (v := (nI 8)) hx hb dX1_draw_62 (by decide) ?_
        refine k_imul hx hb dX1_draw_64 ?_
        refine lv_iload hx hb dX1_draw_65 (lv_at hl 0 rfl) ?_
        refine k_iadd hx hb dX1_draw_67 ?_
        refine lv_aload_n hx hb dX1_draw_68 rfl (lv_at hl 4 rfl) ?_
        refine lv_iload hx hb dX1_draw_69 (lv_at hl 0 rfl) ?_
        refine kM_callV (As := [.int (nI i)]) (rest := [.int (nI ((nc * 8) + i)), .ref b2]) (wr := [(oH, .inr (1, [.ref b1, .ref b2, .int (nI (nc + 1))])), (b1, .inl (cI, 6, .inl (nF (upN Y nc y)))), (b2, .inl (cI, 48, .inl (drG G nc f i)))]) (w2 := fun _ => [(oH, .inr (1, [.ref b1, .ref b2, .int (nI (nc + 1))])), (b1, .inl (cI, 6, .inl (nF (upN Y nc y)))), (b2, .inl (cI, 48, .inl (drG G nc f i))), (h, .inr (2, [.ref a])), (a, .inl (cI, 8, .inl f))]) (st2 := fun _ => [.int (f i), .int (nI ((nc * 8) + i)), .ref b2]) (k := 0) (n2 := 0) ⟨hx, hb, hml, hown, hts⟩ (c_X2_heightAt l D cI h a f i (by omega)) (cwV 1 hts gX1_draw_X2_heightAt rfl rfl rfl (by decide +kernel) ⟨Nat.le_of_ble_eq_true rfl, Nat.le_of_ble_eq_true rfl⟩) 3 rfl rfl rfl [0] rfl hK hP hD hS hA [3, 4] [0, 1, 2] rfl (by decide) rfl (by decide) (by decide) [0, 1, 2, 3, 4] (by decide) (fun _ => rfl) (Nat.le_refl _) (Nat.le_refl _) (Nat.le_of_ble_eq_true rfl) (Nat.le_of_ble_eq_true rfl) rfl hl.1 (Nat.le_of_ble_eq_true rfl) (fun _ => rfl) rfl dX1_draw_71 (fun u H locs hu hP hD hS => ?_)
        refine k_iast (w2 := [(oH, .inr (1, [.ref b1, .ref b2, .int (nI (nc + 1))])), (b1, .inl (cI, 6, .inl (nF (upN Y nc y)))), (b2, .inl (cI, 48, .inl (upd (drG G nc f i) ((nc * 8) + i) (f i)))), (h, .inr (2, [.ref a])), (a, .inl (cI, 8, .inl f))]) hx hb hK hP hD hS 2 0 (i := ((nc * 8) + i)) rfl rfl (by omega) (by decide) dX1_draw_74 (g := upd (drG G nc f i) ((nc * 8) + i) (f i)) rfl rfl (fun H locs hP hD hS => ?_)
        refine lv_iinc (v := (nI (i + 1))) (lv' := [(4, .int (nI (i + 1))), (3, .int (nI nc)), (0, .ref oH), (1, .int (nI y)), (2, .ref h)]) (k := 0) hx hb dX1_draw_75 hl rfl (nI_add i 1) (by decide) rfl (fun ls hl => ?_)
        refine lv_goto (tgt := 50) hx hb dX1_draw_78 (by decide) ?_
        exact ih_50 (i + 1) (by omega) (by omega) (by omega) (upd (drG G nc f i) ((nc * 8) + i) (f i)) rfl _ _ hP hD hS ls (lv_sub hl [0, 1, 2, 3, 4] rfl)
  exact lp_50 (8 + 1) 0 (by omega) (by omega) (by omega) G rfl _ _ hP hD hS ls (lv_sub hl [0, 1, 2, 3, 4] rfl)
def rm_c_X1_draw_full : Room := { frames := 2, cells := 0, slots := 0, locals := 44 }
set_option maxHeartbeats 4000000 in
set_option maxRecDepth 100000 in
theorem c_X1_draw_full (l : Launch) (D : va_G) (cI : ClassId) (oH b1 b2 : Nat) (Y : Nat → Nat) (G : Nat → Int32) (y h a : Nat) (f : Nat → Int32) :
    kM l yX1_draw wsX1_draw rm_c_X1_draw_full D [(cI, FieldType.int)] [.ref oH, .int (nI y), .ref h] [(oH, .inr (1, [.ref b1, .ref b2, .int (nI 6)])), (b1, .inl (cI, 6, .inl (nF Y))), (b2, .inl (cI, 48, .inl G)), (h, .inr (2, [.ref a])), (a, .inl (cI, 8, .inl f))] (fun _ : Unit => True) (fun _ => none) (fun _ => [(oH, .inr (1, [.ref b1, .ref b2, .int (nI 6)])), (b1, .inl (cI, 6, .inl (nF (upN (shY Y 0 5) 5 y)))), (b2, .inl (cI, 48, .inl (drG (shG G 0 5) 5 f 8))), (h, .inr (2, [.ref a])), (a, .inl (cI, 8, .inl f))]) := by
  refine kM_of (cc := cX1_draw) (maxL := 5) (ret := none) (own := RX1) (by decide) rfl rfl (Nat.le_of_ble_eq_true rfl) ?_
  intro p e s m args below meth c A ls Qz hx hb hml hr hts hown hlk hin hQ hA hS hP hD hK hl
  have hl : lv_has ls 5 [(0, .ref oH), (1, .int (nI y)), (2, .ref h)] := hl
  refine lv_aload_n hx hb dX1_draw_0 rfl (lv_at hl 0 rfl) ?_
  refine va_get (D := D) (ci := 1) (v := .int (nI 6)) (C := RX1) (T := TX1) (N := 3) hx hb hts iu_X1_draw_X1 hown hK hP 0 rfl rfl 2 (by decide) (hts _ (List.mem_of_getElem? (i := 1) rfl)) (fun _ h9 => h9) rfl dX1_draw_1 ?_
  refine lv_bipush (v := (nI 6)) hx hb dX1_draw_4 (by decide) ?_
  refine k_icmp_lt hx hb (tgt := 14) (by decide) (by decide) dX1_draw_6 (by decide) (fun h => absurd h (by decide)) (fun c_1 => ?_)
  refine lv_aload_n hx hb dX1_draw_9 rfl (lv_at hl 0 rfl) ?_
  refine lv_iconst (v := (nI 0)) hx hb dX1_draw_10 (by decide) ?_
  refine kM_callV (As := [.int (nI 0)]) (rest := []) (wr := [(h, .inr (2, [.ref a])), (a, .inl (cI, 8, .inl f))]) (w2 := fun _ => [(oH, .inr (1, [.ref b1, .ref b2, .int (nI (6 - 1))])), (b1, .inl (cI, 6, .inl (nF (shY Y 0 (6 - 1 - 0))))), (b2, .inl (cI, 48, .inl (shG G 0 (6 - 1 - 0)))), (h, .inr (2, [.ref a])), (a, .inl (cI, 8, .inl f))]) (st2 := fun _ => []) (k := 0) (n2 := 0) ⟨hx, hb, hml, hown, hts⟩ (c_X1_remove l D cI oH b1 b2 Y G 6 0 (by omega) (by omega)) (cwV 1 hts gX1_draw_X1_remove rfl rfl rfl (by decide +kernel) ⟨Nat.le_of_ble_eq_true rfl, Nat.le_of_ble_eq_true rfl⟩) 0 rfl rfl rfl [0] rfl hK hP hD hS hA [0, 1, 2] [3, 4] rfl (by decide) rfl (by decide) (by decide) [2, 3, 4, 0, 1] (by decide) (fun _ => rfl) (Nat.le_refl _) (Nat.le_refl _) (Nat.le_of_ble_eq_true rfl) (Nat.le_of_ble_eq_true rfl) rfl hl.1 (Nat.le_of_ble_eq_true rfl) (fun _ => rfl) rfl dX1_draw_11 (fun u H locs hu hP hD hS => ?_)
  refine lv_aload_n hx hb dX1_draw_14 rfl (lv_at hl 0 rfl) ?_
  refine va_get (D := D) (ci := 1) (v := .int (nI (6 - 1))) (C := RX1) (T := TX1) (N := 3) hx hb hts iu_X1_draw_X1 hown hK hP 0 rfl rfl 2 (by decide) (hts _ (List.mem_of_getElem? (i := 1) rfl)) (fun _ h9 => h9) rfl dX1_draw_15 ?_
  refine lv_istore_n (lv' := [(3, .int (nI (6 - 1))), (0, .ref oH), (1, .int (nI y)), (2, .ref h)]) hx hb dX1_draw_18 rfl hl (by decide) rfl (fun ls hl => ?_)
  refine lv_iload_n hx hb dX1_draw_19 rfl (lv_at hl 0 rfl) ?_
  refine k_if_lt hx hb (tgt := 29) (by omega) dX1_draw_20 (by decide) (fun h => h.elim) (fun _ => ?_)
  refine lv_iload_n hx hb dX1_draw_23 rfl (lv_at hl 0 rfl) ?_
  refine lv_bipush (v := (nI 6)) hx hb dX1_draw_24 (by decide) ?_
  refine k_icmp_lt hx hb (tgt := 30) (by omega) (by decide) dX1_draw_26 (by decide) (fun c_3 => ?_) (fun c_3 => ((by omega) : False).elim)
  refine lv_aload_n hx hb dX1_draw_30 rfl (lv_at hl 1 rfl) ?_
  refine lv_dup hx hb dX1_draw_31 rfl ?_
  refine va_get (D := D) (ci := 1) (v := .int (nI (6 - 1))) (C := RX1) (T := TX1) (N := 3) hx hb hts iu_X1_draw_X1 hown hK hP 0 rfl rfl 2 (by decide) (hts _ (List.mem_of_getElem? (i := 1) rfl)) (fun _ h9 => h9) rfl dX1_draw_32 ?_
  refine lv_iconst (v := (nI 1)) hx hb dX1_draw_35 (by decide) ?_
  refine k_iadd hx hb dX1_draw_36 ?_
  refine va_put (D := D) (ci := 1) (v := .int (nI ((6 - 1) + 1))) (ty := .int) (C := RX1) (T := TX1) (N := 3) hx hb hts iu_X1_draw_X1 tyX1 tyX1_ok nmX1 hown hK hP hD hS 0 rfl rfl 2 (by decide) (hts _ (List.mem_of_getElem? (i := 1) rfl)) (fun _ h9 => h9) rfl (by decide +kernel) rfl rfl (Nat.le_of_ble_eq_true rfl) dX1_draw_37 (fun H locs hP hD hS => ?_)
  have hP : va_P D vwCl [(oH, .inr (1, [.ref b1, .ref b2, .int (nI ((6 - 1) + 1))])), (b1, .inl (cI, 6, .inl (nF (shY Y 0 (6 - 1 - 0))))), (b2, .inl (cI, 48, .inl (shG G 0 (6 - 1 - 0)))), (h, .inr (2, [.ref a])), (a, .inl (cI, 8, .inl f))] H := hP
  have hD : va_D A [(oH, .inr (1, [.ref b1, .ref b2, .int (nI ((6 - 1) + 1))])), (b1, .inl (cI, 6, .inl (nF (shY Y 0 (6 - 1 - 0))))), (b2, .inl (cI, 48, .inl (shG G 0 (6 - 1 - 0)))), (h, .inr (2, [.ref a])), (a, .inl (cI, 8, .inl f))] := hD
  refine lv_aload_n hx hb dX1_draw_40 rfl (lv_at hl 1 rfl) ?_
  refine va_get (D := D) (ci := 1) (v := .ref b1) (C := RX1) (T := TX1) (N := 3) hx hb hts iu_X1_draw_X1 hown hK hP 0 rfl rfl 0 (by decide) (hts _ (List.mem_of_getElem? (i := 2) rfl)) (fun _ h9 => h9) rfl dX1_draw_41 ?_
  refine lv_iload_n hx hb dX1_draw_44 rfl (lv_at hl 0 rfl) ?_
  refine lv_iload_n hx hb dX1_draw_45 rfl (lv_at hl 2 rfl) ?_
  refine k_iast (w2 := [(oH, .inr (1, [.ref b1, .ref b2, .int (nI ((6 - 1) + 1))])), (b1, .inl (cI, 6, .inl (nF (upN (shY Y 0 (6 - 1 - 0)) (6 - 1) y)))), (b2, .inl (cI, 48, .inl (shG G 0 (6 - 1 - 0)))), (h, .inr (2, [.ref a])), (a, .inl (cI, 8, .inl f))]) hx hb hK hP hD hS 1 0 (i := (6 - 1)) rfl rfl (by omega) (by decide) dX1_draw_46 (g := nF (upN (shY Y 0 (6 - 1 - 0)) (6 - 1) y)) (nF_upd (shY Y 0 (6 - 1 - 0)) (6 - 1) y) rfl (fun H locs hP hD hS => ?_)
  refine lv_iconst (v := (nI 0)) hx hb dX1_draw_47 (by decide) ?_
  refine lv_istore (lv' := [(4, .int (nI 0)), (3, .int (nI (6 - 1))), (0, .ref oH), (1, .int (nI y)), (2, .ref h)]) hx hb dX1_draw_48 hl (by decide) rfl (fun ls hl => ?_)
  have lp_50 : ∀ (fu i : Nat), 0 ≤ i → i ≤ 8 → 8 + 1 ≤ i + fu → ∀ (x1 : Nat → Int32), x1 = drG (shG G 0 (6 - 1 - 0)) (6 - 1) f i → ∀ (H : Heap) (locs : List Loc), va_P D vwCl [(oH, .inr (1, [.ref b1, .ref b2, .int (nI ((6 - 1) + 1))])), (b1, .inl (cI, 6, .inl (nF (upN (shY Y 0 (6 - 1 - 0)) (6 - 1) y)))), (b2, .inl (cI, 48, .inl x1)), (h, .inr (2, [.ref a])), (a, .inl (cI, 8, .inl f))] H → va_D A [(oH, .inr (1, [.ref b1, .ref b2, .int (nI ((6 - 1) + 1))])), (b1, .inl (cI, 6, .inl (nF (upN (shY Y 0 (6 - 1 - 0)) (6 - 1) y)))), (b2, .inl (cI, 48, .inl x1)), (h, .inr (2, [.ref a])), (a, .inl (cI, 8, .inl f))] → va_S A s.heap H locs → ∀ (ls : Array Slot), lv_has ls 5 [(4, .int (nI i)), (3, .int (nI (6 - 1))), (0, .ref oH), (1, .int (nI y)), (2, .ref h)] → W p l e rm_c_X1_draw_full s m args below meth c H locs 0 0 Qz (F0 m 50 ls []) := by
    intro fu
    induction fu with
    | zero => intro i h1_50 h2_50 h3_50; exact absurd h3_50 (by omega)
    | succ fu ih_50 =>
      intro i h1_50 h2_50 h3_50 x1 ex1 H locs hP hD hS ls hl
      subst ex1
      refine lv_iload hx hb dX1_draw_50 (lv_at hl 0 rfl) ?_
      refine lv_bipush (v := (nI 8)) hx hb dX1_draw_52 (by decide) ?_
      refine k_icmp_ge hx hb (tgt := 81) (by omega) (by decide) dX1_draw_54 (by decide) (fun c_4 => ?_) (fun c_4 => ?_)
      · have e_5 : 8 = i := by omega
        subst e_5
        exact kM_vret hx hb hr hlk hQ hP hD hK hS () rfl (Nat.le_of_ble_eq_true rfl) (Nat.le_of_ble_eq_true rfl) rfl trivial dX1_draw_81
      · refine lv_aload_n hx hb dX1_draw_57 rfl (lv_at hl 2 rfl) ?_
        refine va_get (D := D) (ci := 1) (v := .ref b2) (C := RX1) (T := TX1) (N := 3) hx hb hts iu_X1_draw_X1 hown hK hP 0 rfl rfl 1 (by decide) (hts _ (List.mem_of_getElem? (i := 3) rfl)) (fun _ h9 => h9) rfl dX1_draw_58 ?_
        refine lv_iload_n hx hb dX1_draw_61 rfl (lv_at hl 1 rfl) ?_
        refine lv_bipush (v := (nI 8)) hx hb dX1_draw_62 (by decide) ?_
        refine k_imul hx hb dX1_draw_64 ?_
        refine lv_iload hx hb dX1_draw_65 (lv_at hl 0 rfl) ?_
        refine k_iadd hx hb dX1_draw_67 ?_
        refine lv_aload_n hx hb dX1_draw_68 rfl (lv_at hl 4 rfl) ?_
        refine lv_iload hx hb dX1_draw_69 (lv_at hl 0 rfl) ?_
        refine kM_callV (As := [.int (nI i)]) (rest := [.int (nI (((6 - 1) * 8) + i)), .ref b2]) (wr := [(oH, .inr (1, [.ref b1, .ref b2, .int (nI ((6 - 1) + 1))])), (b1, .inl (cI, 6, .inl (nF (upN (shY Y 0 (6 - 1 - 0)) (6 - 1) y)))), (b2, .inl (cI, 48, .inl (drG (shG G 0 (6 - 1 - 0)) (6 - 1) f i)))]) (w2 := fun _ => [(oH, .inr (1, [.ref b1, .ref b2, .int (nI ((6 - 1) + 1))])), (b1, .inl (cI, 6, .inl (nF (upN (shY Y 0 (6 - 1 - 0)) (6 - 1) y)))), (b2, .inl (cI, 48, .inl (drG (shG G 0 (6 - 1 - 0)) (6 - 1) f i))), (h, .inr (2, [.ref a])), (a, .inl (cI, 8, .inl f))]) (st2 := fun _ => [.int (f i), .int (nI (((6 - 1) * 8) + i)), .ref b2]) (k := 0) (n2 := 0) ⟨hx, hb, hml, hown, hts⟩ (c_X2_heightAt l D cI h a f i (by omega)) (cwV 1 hts gX1_draw_X2_heightAt rfl rfl rfl (by decide +kernel) ⟨Nat.le_of_ble_eq_true rfl, Nat.le_of_ble_eq_true rfl⟩) 3 rfl rfl rfl [0] rfl hK hP hD hS hA [3, 4] [0, 1, 2] rfl (by decide) rfl (by decide) (by decide) [0, 1, 2, 3, 4] (by decide) (fun _ => rfl) (Nat.le_refl _) (Nat.le_refl _) (Nat.le_of_ble_eq_true rfl) (Nat.le_of_ble_eq_true rfl) rfl hl.1 (Nat.le_of_ble_eq_true rfl) (fun _ => rfl) rfl dX1_draw_71 (fun u H locs hu hP hD hS => ?_)
        refine k_iast (w2 := [(oH, .inr (1, [.ref b1, .ref b2, .int (nI ((6 - 1) + 1))])), (b1, .inl (cI, 6, .inl (nF (upN (shY Y 0 (6 - 1 - 0)) (6 - 1) y)))), (b2, .inl (cI, 48, .inl (upd (drG (shG G 0 (6 - 1 - 0)) (6 - 1) f i) (((6 - 1) * 8) + i) (f i)))), (h, .inr (2, [.ref a])), (a, .inl (cI, 8, .inl f))]) hx hb hK hP hD hS 2 0 (i := (((6 - 1) * 8) + i)) rfl rfl (by omega) (by decide) dX1_draw_74 (g := upd (drG (shG G 0 (6 - 1 - 0)) (6 - 1) f i) (((6 - 1) * 8) + i) (f i)) rfl rfl (fun H locs hP hD hS => ?_)
        refine lv_iinc (v := (nI (i + 1))) (lv' := [(4, .int (nI (i + 1))), (3, .int (nI (6 - 1))), (0, .ref oH), (1, .int (nI y)), (2, .ref h)]) (k := 0) hx hb dX1_draw_75 hl rfl (nI_add i 1) (by decide) rfl (fun ls hl => ?_)
        refine lv_goto (tgt := 50) hx hb dX1_draw_78 (by decide) ?_
        exact ih_50 (i + 1) (by omega) (by omega) (by omega) (upd (drG (shG G 0 (6 - 1 - 0)) (6 - 1) f i) (((6 - 1) * 8) + i) (f i)) rfl _ _ hP hD hS ls (lv_sub hl [0, 1, 2, 3, 4] rfl)
  exact lp_50 (8 + 1) 0 (by omega) (by omega) (by omega) (shG G 0 (6 - 1 - 0)) rfl _ _ hP hD hS ls (lv_sub hl [0, 1, 2, 3, 4] rfl)

/-! 09b0: below, cell (laid by wip/p32/gen) -/
def kmod : Unit := ()
def rm_c_L_below : Room := { frames := 0, cells := 0, slots := 0, locals := 0 }
set_option maxHeartbeats 4000000 in
set_option maxRecDepth 100000 in
theorem c_L_below (l : Launch) (D : va_G) (cI : ClassId) (a_ : Int32) (m9 : Nat) (hm : 0 < m9) (hm2 : m9 < 1000) :
    kM l yL_below wsL_below rm_c_L_below D [(cI, FieldType.int)] [.int a_, .int (nI m9)] [] (fun u : Nat => u < m9) (fun u => some (.int (nI u))) (fun u => []) := by
  refine kM_of (cc := cL_below) (maxL := 2) (ret := (some .int)) (own := RL) (by decide) rfl rfl (Nat.le_of_ble_eq_true rfl) ?_
  intro p e s m args below meth c A ls Qz hx hb hml hr hts hown hlk hin hQ hA hS hP hD hK hl
  have hl : lv_has ls 2 [(0, .int a_), (1, .int (nI m9))] := hl
  refine lv_iload_n hx hb dL_below_0 rfl (lv_at hl 0 rfl) ?_
  refine lv_ldc (v := (2147483647)) hx hb hown (hts _ (List.mem_of_getElem? (i := 1) rfl)) dL_below_1 ?_
  refine lv_iand hx hb dL_below_3 ?_
  obtain ⟨j9, hj9, ej9⟩ := pk_andE a_ (m := 2147483647) 31 (by decide)
  refine k_top ej9 ?_
  refine lv_iload_n hx hb dL_below_4 rfl (lv_at hl 1 rfl) ?_
  refine lv_irem hx hb dL_below_5 (nI_ne0 (by omega) (by omega)) ?_
  refine k_top (y := (irem (nI j9) (nI m9))) rfl ?_
  refine k_top (y := (nI (j9 % m9))) (pk_rem hj9 hm (by omega)) ?_
  exact kM_iret hx hb hr hlk hQ hP hD hK hS (j9 % m9) rfl (Nat.le_of_ble_eq_true rfl) (Nat.le_of_ble_eq_true rfl) (congrArg (fun z => some (Value.int z)) (by rfl)) (Nat.mod_lt _ hm) dL_below_6
def rm_c_L_cell : Room := { frames := 0, cells := 0, slots := 0, locals := 0 }
set_option maxHeartbeats 4000000 in
set_option maxRecDepth 100000 in
theorem c_L_cell (l : Launch) (D : va_G) (cI : ClassId) (cQ : ClassId) (b L : Nat) (xs : Nat → Int32) (i : Nat) (hL : L ≤ 2048) (hi : i < 1000) :
    kN l yL_cell wsL_cell rm_c_L_cell D [(cI, FieldType.int), (cQ, FieldType.array FieldType.int)] cI cQ (some (b, L, xs)) [.ref b, .int (nI i)] ([]) (fun _ : Int32 => True) (fun u => some (.int u)) (fun u => []) := by
  refine kN_of (cc := cL_cell) (maxL := 2) (ret := (some .int)) (own := RL) (by decide) rfl rfl (Nat.le_of_ble_eq_true rfl) ?_
  intro p e s m args below meth c A ls Qz hx hb hml hr hts hown hlk hin hQ hA hS hP hD hK hJ hsc hl
  have hl : lv_has ls 2 [(0, .ref b), (1, .int (nI i))] := hl
  obtain ⟨hX, hbA⟩ := hsc
  have hbl : b < s.heap.size := by obtain ⟨scr, h1, -⟩ := hX; exact (Array.getElem?_eq_some_iff.mp h1).1
  refine lv_iload_n hx hb dL_cell_0 rfl (lv_at hl 1 rfl) ?_
  refine lv_aload_n hx hb dL_cell_1 rfl (lv_at hl 0 rfl) ?_
  refine va_slen hx hb hX hbl hbA hS dL_cell_2 ?_
  refine k_top (y := (nI L)) rfl ?_
  refine k_icmp_ge hx hb (tgt := 12) (by omega) (by omega) dL_cell_3 (by decide) (fun c_1 => ?_) (fun c_1 => ?_)
  · refine lv_ldc (v := (790386105)) hx hb hown (hts _ (List.mem_of_getElem? (i := 1) rfl)) dL_cell_12 ?_
    refine lv_iload_n hx hb dL_cell_14 rfl (lv_at hl 1 rfl) ?_
    refine lv_iconst (v := (nI 3)) hx hb dL_cell_15 (by decide) ?_
    refine k_iadd hx hb dL_cell_16 ?_
    refine lv_imul hx hb dL_cell_17 ?_
    exact kM_iret hx hb hr hlk hQ hP hD hK hS ((790386105) * (nI (i + 3))) rfl (Nat.le_of_ble_eq_true rfl) (Nat.le_of_ble_eq_true rfl) (congrArg (fun z => some (Value.int z)) (by rfl)) trivial dL_cell_18
  · refine lv_aload_n hx hb dL_cell_6 rfl (lv_at hl 0 rfl) ?_
    refine lv_iload_n hx hb dL_cell_7 rfl (lv_at hl 1 rfl) ?_
    refine k_sld hx hb hX hbl hbA hS (i := i) (by omega) hL dL_cell_8 ?_
    refine lv_goto (tgt := 18) hx hb dL_cell_9 (by decide) ?_
    exact kM_iret hx hb hr hlk hQ hP hD hK hS (xs i) rfl (Nat.le_of_ble_eq_true rfl) (Nat.le_of_ble_eq_true rfl) (congrArg (fun z => some (Value.int z)) (by rfl)) trivial dL_cell_18
theorem iu_L_act_X0 : ∀ w ∈ wsX00, w ∈ wsL_act := fun w h => (List.mem_cons_of_mem _ (List.mem_append_left _ (List.mem_append_left _ (List.mem_append_left _ (List.mem_append_left _ (List.mem_append_left _ (List.mem_append_right _ h)))))))
theorem iu_L_act_X1 : ∀ w ∈ wsX10, w ∈ wsL_act := fun w h => (List.mem_cons_of_mem _ (List.mem_append_left _ (List.mem_append_left _ (List.mem_append_left _ (List.mem_append_right _ h)))))
theorem iu_L_act_X2 : ∀ w ∈ wsX20, w ∈ wsL_act := fun w h => (List.mem_cons_of_mem _ (List.mem_append_left _ (List.mem_append_left _ (List.mem_append_left _ (List.mem_append_left _ (List.mem_append_right _ h))))))
theorem iu_L_act_X3 : ∀ w ∈ wsX30, w ∈ wsL_act := fun w h => (List.mem_cons_of_mem _ (List.mem_append_left _ (List.mem_append_left _ (List.mem_append_left _ (List.mem_append_left _ (List.mem_append_left _ (List.mem_append_left _ (List.mem_append_right _ h))))))))
theorem iu_L_act_X4 : ∀ w ∈ wsX40, w ∈ wsL_act := fun w h => (List.mem_cons_of_mem _ (List.mem_append_left _ (List.mem_append_left _ (List.mem_append_left _ (List.mem_append_left _ (List.mem_append_left _ (List.mem_append_left _ (List.mem_append_left _ (List.mem_append_right _ h)))))))))
def rm_c_L_act : Room := { frames := 6, cells := 40, slots := 140, locals := 133 }

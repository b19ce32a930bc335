/-! 03a: Slope, its methods (laid by wip/p32/gen) -/
def sumZ (f : Nat → Int32) : Nat → Int32
  | 0 => nI 0
  | k + 1 => sumZ f k + f k
def clrN (f : Nat → Int32) : Nat → Nat → Int32
  | 0 => f
  | k + 1 => upd (clrN f k) k (nI 0)
def cpN (f g : Nat → Int32) : Nat → Nat → Int32
  | 0 => f
  | k + 1 => upd (cpN f g k) k (g k)
def slideF (f : Nat → Int32) (j : Nat) : Nat → Int32 :=
  if j + 1 < 8 then upd (upd f (j + 1) (f (j + 1) + jmin (f j / nI 10) (nI 999 - f (j + 1)))) j ((upd f (j + 1) (f (j + 1) + jmin (f j / nI 10) (nI 999 - f (j + 1)))) j - jmin (f j / nI 10) (nI 999 - f (j + 1)))
  else upd f j (f j - f j / nI 10)
def perf (f : Nat → Int32) (kd : Int32) (o : Nat) (tw : Int32) : Nat → Int32 :=
  if ¬ kd = 0 then (if ¬ kd = nI 1 then slideF f o else upd f o (jmax (nI 0) (f o - tw))) else upd f o (jmin (nI 999) (f o + tw))
theorem iu_X2_init_X2 : ∀ w ∈ wsX20, w ∈ wsX2_init := fun w h => (List.mem_cons_of_mem _ (List.mem_append_right _ h))
def rm_c_X2_init : Room := { frames := 1, cells := 1, slots := 8, locals := 24 }
set_option maxHeartbeats 4000000 in
set_option maxRecDepth 100000 in
theorem c_X2_init (l : Launch) (D : va_G) (cI : ClassId) (h : Nat) :
    kM l yX2_init wsX2_init rm_c_X2_init D [(cI, FieldType.int)] [.ref h] [(h, .inr (2, [.null]))] (fun _ : Nat => True) (fun u => none) (fun u => [(h, .inr (2, [.ref u])), (u, .inl (cI, 8, .inl zF))]) := by
  refine kM_of (cc := cX2_init) (maxL := 1) (ret := none) (own := RX2) (by decide) rfl rfl (Nat.le_of_ble_eq_true rfl) ?_
  intro p e s m args below meth c A ls Qz hx hb hml hr hts hown hlk hin hQ hA hS hP hD hK hl
  have hl : lv_has ls 1 [(0, .ref h)] := hl
  refine lv_aload_n hx hb dX2_init_0 rfl (lv_at hl 0 rfl) ?_
  refine W.objInit hx hb hown (hts _ (List.mem_of_getElem? (i := 1) rfl)) (hts _ (List.mem_of_getElem? (i := 2) rfl)) (hts _ (List.mem_of_getElem? (i := 3) rfl)) rfl (by rw [hml]; exact hl.1) rfl dX2_init_1 (Nat.le_of_ble_eq_true rfl) (Nat.le_of_ble_eq_true rfl) ?_
  refine W.eq (g2 := F0 m 4 ls []) rfl ?_
  refine lv_aload_n hx hb dX2_init_4 rfl (lv_at hl 0 rfl) ?_
  refine lv_bipush (v := (nI 8)) hx hb dX2_init_5 (by decide) ?_
  refine k_newa (ty := .int) (atype := .int) (cA := cI) (con := .inl zF) (k := 1) (n2 := 8) hx hb (hts _ (List.mem_of_getElem? (i := 4) rfl)) rfl hK 0 rfl hP hD hS hA (N9 := 8) (fun _ => rfl) (nI_clamp (by decide)) (by decide) (by decide) (Nat.le_refl _) (Nat.le_refl _) (Nat.le_of_ble_eq_true rfl) (Nat.le_of_ble_eq_true rfl) dX2_init_7 (fun q_1 H hP hD hS => ?_)
  have hP : va_P D vwCl [(h, .inr (2, [.null])), (q_1, .inl (cI, 8, .inl zF))] H := hP
  have hD : va_D A [(h, .inr (2, [.null])), (q_1, .inl (cI, 8, .inl zF))] := hD
  refine va_putF (D := D) (ci := 2) (v := .ref q_1) (ty := .array .int) (C := RX2) (T := TX2) (N := 1) hx hb hts iu_X2_init_X2 tyX2 tyX2_ok nmX2 hown hK hP hD hS 0 rfl rfl 0 (by decide) (hts _ (List.mem_of_getElem? (i := 5) rfl)) (fun _ h9 => h9) rfl (hin rfl) rfl (by decide +kernel) rfl rfl (Nat.le_of_ble_eq_true rfl) dX2_init_9 (fun H locs hP hD hS => ?_)
  have hP : va_P D vwCl [(h, .inr (2, [.ref q_1])), (q_1, .inl (cI, 8, .inl zF))] H := hP
  have hD : va_D A [(h, .inr (2, [.ref q_1])), (q_1, .inl (cI, 8, .inl zF))] := hD
  exact kM_vret hx hb hr hlk hQ hP hD hK hS q_1 rfl (Nat.le_of_ble_eq_true rfl) (Nat.le_of_ble_eq_true rfl) rfl trivial dX2_init_12
def rm_c_X2_has : Room := { frames := 0, cells := 0, slots := 0, locals := 0 }
set_option maxHeartbeats 4000000 in
set_option maxRecDepth 100000 in
theorem c_X2_has (l : Launch) (D : va_G) (cI : ClassId) (j : Nat) (hj : j < 2147483648) :
    kM l yX2_has wsX2_has rm_c_X2_has D [(cI, FieldType.int)] [.int (nI j)] [] (fun _ : Unit => True) (fun _ => some (.int (b2i (j < 8)))) (fun _ => []) := by
  refine kM_of (cc := cX2_has) (maxL := 1) (ret := (some .boolean)) (own := RX2) (by decide) rfl rfl (Nat.le_of_ble_eq_true rfl) ?_
  intro p e s m args below meth c A ls Qz hx hb hml hr hts hown hlk hin hQ hA hS hP hD hK hl
  have hl : lv_has ls 1 [(0, .int (nI j))] := hl
  refine lv_iload_n hx hb dX2_has_0 rfl (lv_at hl 0 rfl) ?_
  refine k_if_lt hx hb (tgt := 14) (by omega) dX2_has_1 (by decide) (fun h => h.elim) (fun _ => ?_)
  refine lv_iload_n hx hb dX2_has_4 rfl (lv_at hl 0 rfl) ?_
  refine lv_bipush (v := (nI 8)) hx hb dX2_has_5 (by decide) ?_
  refine k_icmp_ge hx hb (tgt := 14) (by omega) (by decide) dX2_has_7 (by decide) (fun c_2 => ?_) (fun c_2 => ?_)
  · refine lv_iconst (v := (nI 0)) hx hb dX2_has_14 (by decide) ?_
    exact kM_zret hx hb hr hlk hQ hP hD hK hS () rfl (Nat.le_of_ble_eq_true rfl) (Nat.le_of_ble_eq_true rfl) (by decide) (congrArg (fun z => some (Value.int z)) (if_neg (by omega))) trivial dX2_has_15
  · refine lv_iconst (v := (nI 1)) hx hb dX2_has_10 (by decide) ?_
    refine lv_goto (tgt := 15) hx hb dX2_has_11 (by decide) ?_
    exact kM_zret hx hb hr hlk hQ hP hD hK hS () rfl (Nat.le_of_ble_eq_true rfl) (Nat.le_of_ble_eq_true rfl) (by decide) (congrArg (fun z => some (Value.int z)) (if_pos (by omega))) trivial dX2_has_15
theorem iu_X2_heightAt_X2 : ∀ w ∈ wsX20, w ∈ wsX2_heightAt := fun w h => (List.mem_cons_of_mem _ (List.mem_append_right _ h))
def rm_c_X2_heightAt : Room := { frames := 1, cells := 0, slots := 0, locals := 20 }
set_option maxHeartbeats 4000000 in
set_option maxRecDepth 100000 in
theorem c_X2_heightAt (l : Launch) (D : va_G) (cI : ClassId) (h a : Nat) (f : Nat → Int32) (j : Nat) (hj : j < 8) :
    kM l yX2_heightAt wsX2_heightAt rm_c_X2_heightAt D [(cI, FieldType.int)] [.ref h, .int (nI j)] [(h, .inr (2, [.ref a])), (a, .inl (cI, 8, .inl f))] (fun _ : Unit => True) (fun _ => some (.int (f j))) (fun _ => [(h, .inr (2, [.ref a])), (a, .inl (cI, 8, .inl f))]) := by
  refine kM_of (cc := cX2_heightAt) (maxL := 2) (ret := (some .int)) (own := RX2) (by decide) rfl rfl (Nat.le_of_ble_eq_true rfl) ?_
  intro p e s m args below meth c A ls Qz hx hb hml hr hts hown hlk hin hQ hA hS hP hD hK hl
  have hl : lv_has ls 2 [(0, .ref h), (1, .int (nI j))] := hl
  refine lv_iload_n hx hb dX2_heightAt_0 rfl (lv_at hl 1 rfl) ?_
  refine kM_callS (As := [.int (nI j)]) (rest := []) (wr := [(h, .inr (2, [.ref a])), (a, .inl (cI, 8, .inl f))]) (w2 := fun _ => [(h, .inr (2, [.ref a])), (a, .inl (cI, 8, .inl f))]) (st2 := fun _ => [.int (b2i (j < 8))]) (k := 0) (n2 := 0) ⟨hx, hb, hml, hown, hts⟩ (c_X2_has l D cI j (by omega)) (va_cwS 1 hts gX2_heightAt_X2_has rfl rfl rfl (by decide +kernel) ⟨Nat.le_of_ble_eq_true rfl, Nat.le_of_ble_eq_true rfl⟩) [0] rfl hK hP hD hS hA [] [0, 1] rfl (by decide) rfl (by decide) (by decide) [0, 1] (by decide) (fun _ => rfl) (Nat.le_refl _) (Nat.le_refl _) (Nat.le_of_ble_eq_true rfl) (Nat.le_of_ble_eq_true rfl) rfl hl.1 (Nat.le_of_ble_eq_true rfl) (fun _ => rfl) rfl dX2_heightAt_1 (fun u H locs hu hP hD hS => ?_)
  refine k_bif_eq hx hb (tgt := 16) dX2_heightAt_4 (by decide) (fun c_1 => (absurd hj c_1 : False).elim) (fun c_1 => ?_)
  refine lv_aload_n hx hb dX2_heightAt_7 rfl (lv_at hl 0 rfl) ?_
  refine va_get (D := D) (ci := 2) (v := .ref a) (C := RX2) (T := TX2) (N := 1) hx hb hts iu_X2_heightAt_X2 hown hK hP 0 rfl rfl 0 (by decide) (hts _ (List.mem_of_getElem? (i := 1) rfl)) (fun _ h9 => h9) rfl dX2_heightAt_8 ?_
  refine lv_iload_n hx hb dX2_heightAt_11 rfl (lv_at hl 1 rfl) ?_
  refine k_iald hx hb hK hP 1 0 (i := j) rfl rfl (by omega) (by decide) dX2_heightAt_12 ?_
  refine lv_goto (tgt := 17) hx hb dX2_heightAt_13 (by decide) ?_
  exact kM_iret hx hb hr hlk hQ hP hD hK hS () rfl (Nat.le_of_ble_eq_true rfl) (Nat.le_of_ble_eq_true rfl) rfl trivial dX2_heightAt_17
theorem iu_X2_setHeight_X2 : ∀ w ∈ wsX20, w ∈ wsX2_setHeight := fun w h => (List.mem_cons_of_mem _ (List.mem_append_right _ h))
def rm_c_X2_setHeight : Room := { frames := 1, cells := 0, slots := 0, locals := 20 }
set_option maxHeartbeats 4000000 in
set_option maxRecDepth 100000 in
theorem c_X2_setHeight (l : Launch) (D : va_G) (cI : ClassId) (h a : Nat) (f : Nat → Int32) (j : Nat) (v : Int32) (hj : j < 8) :
    kM l yX2_setHeight wsX2_setHeight rm_c_X2_setHeight D [(cI, FieldType.int)] [.ref h, .int (nI j), .int v] [(h, .inr (2, [.ref a])), (a, .inl (cI, 8, .inl f))] (fun _ : Unit => True) (fun _ => none) (fun _ => [(h, .inr (2, [.ref a])), (a, .inl (cI, 8, .inl (upd f j v)))]) := by
  refine kM_of (cc := cX2_setHeight) (maxL := 3) (ret := none) (own := RX2) (by decide) rfl rfl (Nat.le_of_ble_eq_true rfl) ?_
  intro p e s m args below meth c A ls Qz hx hb hml hr hts hown hlk hin hQ hA hS hP hD hK hl
  have hl : lv_has ls 3 [(0, .ref h), (1, .int (nI j)), (2, .int v)] := hl
  refine lv_iload_n hx hb dX2_setHeight_0 rfl (lv_at hl 1 rfl) ?_
  refine kM_callS (As := [.int (nI j)]) (rest := []) (wr := [(h, .inr (2, [.ref a])), (a, .inl (cI, 8, .inl f))]) (w2 := fun _ => [(h, .inr (2, [.ref a])), (a, .inl (cI, 8, .inl f))]) (st2 := fun _ => [.int (b2i (j < 8))]) (k := 0) (n2 := 0) ⟨hx, hb, hml, hown, hts⟩ (c_X2_has l D cI j (by omega)) (va_cwS 1 hts gX2_setHeight_X2_has rfl rfl rfl (by decide +kernel) ⟨Nat.le_of_ble_eq_true rfl, Nat.le_of_ble_eq_true rfl⟩) [0] rfl hK hP hD hS hA [] [0, 1] rfl (by decide) rfl (by decide) (by decide) [0, 1] (by decide) (fun _ => rfl) (Nat.le_refl _) (Nat.le_refl _) (Nat.le_of_ble_eq_true rfl) (Nat.le_of_ble_eq_true rfl) rfl hl.1 (Nat.le_of_ble_eq_true rfl) (fun _ => rfl) rfl dX2_setHeight_1 (fun u H locs hu hP hD hS => ?_)
  refine k_bif_eq hx hb (tgt := 14) dX2_setHeight_4 (by decide) (fun c_1 => (absurd hj c_1 : False).elim) (fun c_1 => ?_)
  refine lv_aload_n hx hb dX2_setHeight_7 rfl (lv_at hl 0 rfl) ?_
  refine va_get (D := D) (ci := 2) (v := .ref a) (C := RX2) (T := TX2) (N := 1) hx hb hts iu_X2_setHeight_X2 hown hK hP 0 rfl rfl 0 (by decide) (hts _ (List.mem_of_getElem? (i := 1) rfl)) (fun _ h9 => h9) rfl dX2_setHeight_8 ?_
  refine lv_iload_n hx hb dX2_setHeight_11 rfl (lv_at hl 1 rfl) ?_
  refine lv_iload_n hx hb dX2_setHeight_12 rfl (lv_at hl 2 rfl) ?_
  refine k_iast (w2 := [(h, .inr (2, [.ref a])), (a, .inl (cI, 8, .inl (upd f j v)))]) hx hb hK hP hD hS 1 0 (i := j) rfl rfl (by omega) (by decide) dX2_setHeight_13 (g := upd f j v) rfl rfl (fun H locs hP hD hS => ?_)
  exact kM_vret hx hb hr hlk hQ hP hD hK hS () rfl (Nat.le_of_ble_eq_true rfl) (Nat.le_of_ble_eq_true rfl) rfl trivial dX2_setHeight_14
theorem iu_X2_total_X2 : ∀ w ∈ wsX20, w ∈ wsX2_total := fun w h => (List.mem_cons_of_mem _ (List.mem_append_right _ h))
def rm_c_X2_total : Room := { frames := 0, cells := 0, slots := 0, locals := 0 }
set_option maxHeartbeats 4000000 in
set_option maxRecDepth 100000 in
theorem c_X2_total (l : Launch) (D : va_G) (cI : ClassId) (h a : Nat) (f : Nat → Int32) :
    kM l yX2_total wsX2_total rm_c_X2_total D [(cI, FieldType.int)] [.ref h] [(h, .inr (2, [.ref a])), (a, .inl (cI, 8, .inl f))] (fun _ : Unit => True) (fun _ => some (.int (sumZ f 8))) (fun _ => [(h, .inr (2, [.ref a])), (a, .inl (cI, 8, .inl f))]) := by
  refine kM_of (cc := cX2_total) (maxL := 3) (ret := (some .int)) (own := RX2) (by decide) rfl rfl (Nat.le_of_ble_eq_true rfl) ?_
  intro p e s m args below meth c A ls Qz hx hb hml hr hts hown hlk hin hQ hA hS hP hD hK hl
  have hl : lv_has ls 3 [(0, .ref h)] := hl
  refine lv_iconst (v := (nI 0)) hx hb dX2_total_0 (by decide) ?_
  refine lv_istore_n (lv' := [(1, .int (nI 0)), (0, .ref h)]) hx hb dX2_total_1 rfl hl (by decide) rfl (fun ls hl => ?_)
  refine lv_iconst (v := (nI 0)) hx hb dX2_total_2 (by decide) ?_
  refine lv_istore_n (lv' := [(2, .int (nI 0)), (1, .int (nI 0)), (0, .ref h)]) hx hb dX2_total_3 rfl hl (by decide) rfl (fun ls hl => ?_)
  have lp_4 : ∀ (fu i : Nat), 0 ≤ i → i ≤ 8 → 8 + 1 ≤ i + fu → ∀ (x1 : Int32), x1 = sumZ f i → ∀ (H : Heap) (locs : List Loc), va_P D vwCl [(h, .inr (2, [.ref a])), (a, .inl (cI, 8, .inl f))] H → va_D A [(h, .inr (2, [.ref a])), (a, .inl (cI, 8, .inl f))] → va_S A s.heap H locs → ∀ (ls : Array Slot), lv_has ls 3 [(2, .int (nI i)), (1, .int x1), (0, .ref h)] → W p l e rm_c_X2_total s m args below meth c H locs 0 0 Qz (F0 m 4 ls []) := by
    intro fu
    induction fu with
    | zero => intro i h1_4 h2_4 h3_4; exact absurd h3_4 (by omega)
    | succ fu ih_4 =>
      intro i h1_4 h2_4 h3_4 x1 ex1 H locs hP hD hS ls hl
      subst ex1
      refine lv_iload_n hx hb dX2_total_4 rfl (lv_at hl 0 rfl) ?_
      refine lv_bipush (v := (nI 8)) hx hb dX2_total_5 (by decide) ?_
      refine k_icmp_ge hx hb (tgt := 25) (by omega) (by decide) dX2_total_7 (by decide) (fun c_1 => ?_) (fun c_1 => ?_)
      · have e_2 : 8 = i := by omega
        subst e_2
        refine lv_iload_n hx hb dX2_total_25 rfl (lv_at hl 1 rfl) ?_
        exact kM_iret hx hb hr hlk hQ hP hD hK hS () rfl (Nat.le_of_ble_eq_true rfl) (Nat.le_of_ble_eq_true rfl) (congrArg (fun z => some (Value.int z)) (by rfl)) trivial dX2_total_26
      · refine lv_iload_n hx hb dX2_total_10 rfl (lv_at hl 1 rfl) ?_
        refine lv_aload_n hx hb dX2_total_11 rfl (lv_at hl 2 rfl) ?_
        refine va_get (D := D) (ci := 2) (v := .ref a) (C := RX2) (T := TX2) (N := 1) hx hb hts iu_X2_total_X2 hown hK hP 0 rfl rfl 0 (by decide) (hts _ (List.mem_of_getElem? (i := 1) rfl)) (fun _ h9 => h9) rfl dX2_total_12 ?_
        refine lv_iload_n hx hb dX2_total_15 rfl (lv_at hl 0 rfl) ?_
        refine k_iald hx hb hK hP 1 0 (i := i) rfl rfl (by omega) (by decide) dX2_total_16 ?_
        refine lv_iadd hx hb dX2_total_17 ?_
        refine lv_istore_n (lv' := [(1, .int ((sumZ f i) + (f i))), (2, .int (nI i)), (0, .ref h)]) hx hb dX2_total_18 rfl hl (by decide) rfl (fun ls hl => ?_)
        refine lv_iinc (v := (nI (i + 1))) (lv' := [(2, .int (nI (i + 1))), (1, .int ((sumZ f i) + (f i))), (0, .ref h)]) (k := 1) hx hb dX2_total_19 hl rfl (nI_add i 1) (by decide) rfl (fun ls hl => ?_)
        refine lv_goto (tgt := 4) hx hb dX2_total_22 (by decide) ?_
        exact ih_4 (i + 1) (by omega) (by omega) (by omega) ((sumZ f i) + (f i)) rfl _ _ hP hD hS ls (lv_sub hl [0, 1, 2] rfl)
  exact lp_4 (8 + 1) 0 (by omega) (by omega) (by omega) (nI 0) rfl _ _ hP hD hS ls (lv_sub hl [0, 1, 2] rfl)
theorem iu_X2_clear_X2 : ∀ w ∈ wsX20, w ∈ wsX2_clear := fun w h => (List.mem_cons_of_mem _ (List.mem_append_right _ h))
def rm_c_X2_clear : Room := { frames := 0, cells := 0, slots := 0, locals := 0 }
set_option maxHeartbeats 4000000 in
set_option maxRecDepth 100000 in
theorem c_X2_clear (l : Launch) (D : va_G) (cI : ClassId) (h a : Nat) (f : Nat → Int32) :
    kM l yX2_clear wsX2_clear rm_c_X2_clear D [(cI, FieldType.int)] [.ref h] [(h, .inr (2, [.ref a])), (a, .inl (cI, 8, .inl f))] (fun _ : Unit => True) (fun _ => none) (fun _ => [(h, .inr (2, [.ref a])), (a, .inl (cI, 8, .inl (clrN f 8)))]) := by
  refine kM_of (cc := cX2_clear) (maxL := 2) (ret := none) (own := RX2) (by decide) rfl rfl (Nat.le_of_ble_eq_true rfl) ?_
  intro p e s m args below meth c A ls Qz hx hb hml hr hts hown hlk hin hQ hA hS hP hD hK hl
  have hl : lv_has ls 2 [(0, .ref h)] := hl
  refine lv_iconst (v := (nI 0)) hx hb dX2_clear_0 (by decide) ?_
  refine lv_istore_n (lv' := [(1, .int (nI 0)), (0, .ref h)]) hx hb dX2_clear_1 rfl hl (by decide) rfl (fun ls hl => ?_)
  have lp_2 : ∀ (fu i : Nat), 0 ≤ i → i ≤ 8 → 8 + 1 ≤ i + fu → ∀ (x1 : Nat → Int32), x1 = clrN f i → ∀ (H : Heap) (locs : List Loc), va_P D vwCl [(h, .inr (2, [.ref a])), (a, .inl (cI, 8, .inl x1))] H → va_D A [(h, .inr (2, [.ref a])), (a, .inl (cI, 8, .inl x1))] → va_S A s.heap H locs → ∀ (ls : Array Slot), lv_has ls 2 [(1, .int (nI i)), (0, .ref h)] → W p l e rm_c_X2_clear s m args below meth c H locs 0 0 Qz (F0 m 2 ls []) := by
    intro fu
    induction fu with
    | zero => intro i h1_2 h2_2 h3_2; exact absurd h3_2 (by omega)
    | succ fu ih_2 =>
      intro i h1_2 h2_2 h3_2 x1 ex1 H locs hP hD hS ls hl
      subst ex1
      refine lv_iload_n hx hb dX2_clear_2 rfl (lv_at hl 0 rfl) ?_
      refine lv_bipush (v := (nI 8)) hx hb dX2_clear_3 (by decide) ?_
      refine k_icmp_ge hx hb (tgt := 21) (by omega) (by decide) dX2_clear_5 (by decide) (fun c_1 => ?_) (fun c_1 => ?_)
      · have e_2 : 8 = i := by omega
        subst e_2
        exact kM_vret hx hb hr hlk hQ hP hD hK hS () rfl (Nat.le_of_ble_eq_true rfl) (Nat.le_of_ble_eq_true rfl) rfl trivial dX2_clear_21
      · refine lv_aload_n hx hb dX2_clear_8 rfl (lv_at hl 1 rfl) ?_
        refine va_get (D := D) (ci := 2) (v := .ref a) (C := RX2) (T := TX2) (N := 1) hx hb hts iu_X2_clear_X2 hown hK hP 0 rfl rfl 0 (by decide) (hts _ (List.mem_of_getElem? (i := 1) rfl)) (fun _ h9 => h9) rfl dX2_clear_9 ?_
        refine lv_iload_n hx hb dX2_clear_12 rfl (lv_at hl 0 rfl) ?_
        refine lv_iconst (v := (nI 0)) hx hb dX2_clear_13 (by decide) ?_
        refine k_iast (w2 := [(h, .inr (2, [.ref a])), (a, .inl (cI, 8, .inl (upd (clrN f i) i (nI 0))))]) hx hb hK hP hD hS 1 0 (i := i) rfl rfl (by omega) (by decide) dX2_clear_14 (g := upd (clrN f i) i (nI 0)) rfl rfl (fun H locs hP hD hS => ?_)
        refine lv_iinc (v := (nI (i + 1))) (lv' := [(1, .int (nI (i + 1))), (0, .ref h)]) (k := 0) hx hb dX2_clear_15 hl rfl (nI_add i 1) (by decide) rfl (fun ls hl => ?_)
        refine lv_goto (tgt := 2) hx hb dX2_clear_18 (by decide) ?_
        exact ih_2 (i + 1) (by omega) (by omega) (by omega) (upd (clrN f i) i (nI 0)) rfl _ _ hP hD hS ls (lv_sub hl [0, 1] rfl)
  exact lp_2 (8 + 1) 0 (by omega) (by omega) (by omega) f rfl _ _ hP hD hS ls (lv_sub hl [0, 1] rfl)
theorem iu_X2_slide_X2 : ∀ w ∈ wsX20, w ∈ wsX2_slide := fun w h => (List.mem_cons_of_mem _ (List.mem_append_right _ h))
def rm_c_X2_slide : Room := { frames := 2, cells := 0, slots := 0, locals := 42 }
set_option maxHeartbeats 4000000 in
set_option maxRecDepth 100000 in
theorem c_X2_slide (l : Launch) (D : va_G) (cI : ClassId) (h a : Nat) (f : Nat → Int32) (j : Nat) (hj : j < 8) :
    kM l yX2_slide wsX2_slide rm_c_X2_slide D [(cI, FieldType.int)] [.ref h, .int (nI j)] [(h, .inr (2, [.ref a])), (a, .inl (cI, 8, .inl f))] (fun _ : Unit => True) (fun _ => none) (fun _ => [(h, .inr (2, [.ref a])), (a, .inl (cI, 8, .inl (slideF f j)))]) := by
  refine kM_of (cc := cX2_slide) (maxL := 4) (ret := none) (own := RX2) (by decide) rfl rfl (Nat.le_of_ble_eq_true rfl) ?_
  intro p e s m args below meth c A ls Qz hx hb hml hr hts hown hlk hin hQ hA hS hP hD hK hl
  have hl : lv_has ls 4 [(0, .ref h), (1, .int (nI j))] := hl
  refine lv_iload_n hx hb dX2_slide_0 rfl (lv_at hl 1 rfl) ?_
  refine lv_iconst (v := (nI 1)) hx hb dX2_slide_1 (by decide) ?_
  refine k_iadd hx hb dX2_slide_2 ?_
  refine lv_istore_n (lv' := [(2, .int (nI (j + 1))), (0, .ref h), (1, .int (nI j))]) hx hb dX2_slide_3 rfl hl (by decide) rfl (fun ls hl => ?_)
  refine lv_aload_n hx hb dX2_slide_4 rfl (lv_at hl 1 rfl) ?_
  refine lv_iload_n hx hb dX2_slide_5 rfl (lv_at hl 2 rfl) ?_
  refine kM_callV (As := [.int (nI j)]) (rest := []) (wr := []) (w2 := fun _ => [(h, .inr (2, [.ref a])), (a, .inl (cI, 8, .inl f))]) (st2 := fun _ => [.int (f j)]) (k := 0) (n2 := 0) ⟨hx, hb, hml, hown, hts⟩ (c_X2_heightAt l D cI h a f j (by omega)) (cwV 1 hts gX2_slide_X2_heightAt rfl rfl rfl (by decide +kernel) ⟨Nat.le_of_ble_eq_true rfl, Nat.le_of_ble_eq_true rfl⟩) 0 rfl rfl rfl [0] rfl hK hP hD hS hA [0, 1] [] rfl (by decide) rfl (by decide) (by decide) [0, 1] (by decide) (fun _ => rfl) (Nat.le_refl _) (Nat.le_refl _) (Nat.le_of_ble_eq_true rfl) (Nat.le_of_ble_eq_true rfl) rfl hl.1 (Nat.le_of_ble_eq_true rfl) (fun _ => rfl) rfl dX2_slide_6 (fun u H locs hu hP hD hS => ?_)
  refine lv_bipush (v := (nI 10)) hx hb dX2_slide_9 (by decide) ?_
  refine lv_idiv hx hb dX2_slide_11 (by decide) ?_
  refine lv_istore_n (lv' := [(3, .int ((f j) / (nI 10))), (2, .int (nI (j + 1))), (0, .ref h), (1, .int (nI j))]) hx hb dX2_slide_12 rfl hl (by decide) rfl (fun ls hl => ?_)
  refine lv_iload_n hx hb dX2_slide_13 rfl (lv_at hl 1 rfl) ?_
  refine kM_callS (As := [.int (nI (j + 1))]) (rest := []) (wr := [(h, .inr (2, [.ref a])), (a, .inl (cI, 8, .inl f))]) (w2 := fun _ => [(h, .inr (2, [.ref a])), (a, .inl (cI, 8, .inl f))]) (st2 := fun _ => [.int (b2i ((j + 1) < 8))]) (k := 0) (n2 := 0) ⟨hx, hb, hml, hown, hts⟩ (c_X2_has l D cI (j + 1) (by omega)) (va_cwS 1 hts gX2_slide_X2_has rfl rfl rfl (by decide +kernel) ⟨Nat.le_of_ble_eq_true rfl, Nat.le_of_ble_eq_true rfl⟩) [0] rfl hK hP hD hS hA [] [0, 1] rfl (by decide) rfl (by decide) (by decide) [0, 1] (by decide) (fun _ => rfl) (Nat.le_refl _) (Nat.le_refl _) (Nat.le_of_ble_eq_true rfl) (Nat.le_of_ble_eq_true rfl) rfl hl.1 (Nat.le_of_ble_eq_true rfl) (fun _ => rfl) rfl dX2_slide_14 (fun u H locs hu hP hD hS => ?_)
  refine k_bif_eq hx hb (tgt := 46) dX2_slide_17 (by decide) (fun c_1 => ?_) (fun c_1 => ?_)
  · have hc := c_1
    refine lv_aload_n hx hb dX2_slide_46 rfl (lv_at hl 2 rfl) ?_
    refine lv_iload_n hx hb dX2_slide_47 rfl (lv_at hl 3 rfl) ?_
    refine lv_aload_n hx hb dX2_slide_48 rfl (lv_at hl 2 rfl) ?_
    refine lv_iload_n hx hb dX2_slide_49 rfl (lv_at hl 3 rfl) ?_
    refine kM_callV (As := [.int (nI j)]) (rest := [.int (nI j), .ref h]) (wr := []) (w2 := fun _ => [(h, .inr (2, [.ref a])), (a, .inl (cI, 8, .inl f))]) (st2 := fun _ => [.int (f j), .int (nI j), .ref h]) (k := 0) (n2 := 0) ⟨hx, hb, hml, hown, hts⟩ (c_X2_heightAt l D cI h a f j (by omega)) (cwV 1 hts gX2_slide_X2_heightAt rfl rfl rfl (by decide +kernel) ⟨Nat.le_of_ble_eq_true rfl, Nat.le_of_ble_eq_true rfl⟩) 0 rfl rfl rfl [0] rfl hK hP hD hS hA [0, 1] [] rfl (by decide) rfl (by decide) (by decide) [0, 1] (by decide) (fun _ => rfl) (Nat.le_refl _) (Nat.le_refl _) (Nat.le_of_ble_eq_true rfl) (Nat.le_of_ble_eq_true rfl) rfl hl.1 (Nat.le_of_ble_eq_true rfl) (fun _ => rfl) rfl dX2_slide_50 (fun u H locs hu hP hD hS => ?_)
    refine lv_iload_n hx hb dX2_slide_53 rfl (lv_at hl 0 rfl) ?_
    refine lv_isub hx hb dX2_slide_54 ?_
    refine kM_callV (As := [.int (nI j), .int ((f j) - ((f j) / (nI 10)))]) (rest := []) (wr := []) (w2 := fun _ => [(h, .inr (2, [.ref a])), (a, .inl (cI, 8, .inl (upd f j ((f j) - ((f j) / (nI 10))))))]) (st2 := fun _ => []) (k := 0) (n2 := 0) ⟨hx, hb, hml, hown, hts⟩ (c_X2_setHeight l D cI h a f j ((f j) - ((f j) / (nI 10))) (by omega)) (cwV 2 hts gX2_slide_X2_setHeight rfl rfl rfl (by decide +kernel) ⟨Nat.le_of_ble_eq_true rfl, Nat.le_of_ble_eq_true rfl⟩) 0 rfl rfl rfl [0] rfl hK hP hD hS hA [0, 1] [] rfl (by decide) rfl (by decide) (by decide) [0, 1] (by decide) (fun _ => rfl) (Nat.le_refl _) (Nat.le_refl _) (Nat.le_of_ble_eq_true rfl) (Nat.le_of_ble_eq_true rfl) rfl hl.1 (Nat.le_of_ble_eq_true rfl) (fun _ => rfl) rfl dX2_slide_55 (fun u H locs hu hP hD hS => ?_)
    exact kM_vret hx hb hr hlk hQ hP hD hK hS () (by simp only [slideF]; rw [if_neg hc]) (Nat.le_of_ble_eq_true rfl) (Nat.le_of_ble_eq_true rfl) rfl trivial dX2_slide_58
  · have hc := c_1
    refine lv_iload_n hx hb dX2_slide_20 rfl (lv_at hl 0 rfl) ?_
    refine lv_sipush (v := (nI 999)) hx hb dX2_slide_21 (by decide) ?_
    refine lv_aload_n hx hb dX2_slide_24 rfl (lv_at hl 2 rfl) ?_
    refine lv_iload_n hx hb dX2_slide_25 rfl (lv_at hl 1 rfl) ?_
    refine kM_callV (As := [.int (nI (j + 1))]) (rest := [.int (nI 999), .int ((f j) / (nI 10))]) (wr := []) (w2 := fun _ => [(h, .inr (2, [.ref a])), (a, .inl (cI, 8, .inl f))]) (st2 := fun _ => [.int (f (j + 1)), .int (nI 999), .int ((f j) / (nI 10))]) (k := 0) (n2 := 0) ⟨hx, hb, hml, hown, hts⟩ (c_X2_heightAt l D cI h a f (j + 1) (by omega)) (cwV 1 hts gX2_slide_X2_heightAt rfl rfl rfl (by decide +kernel) ⟨Nat.le_of_ble_eq_true rfl, Nat.le_of_ble_eq_true rfl⟩) 0 rfl rfl rfl [0] rfl hK hP hD hS hA [0, 1] [] rfl (by decide) rfl (by decide) (by decide) [0, 1] (by decide) (fun _ => rfl) (Nat.le_refl _) (Nat.le_refl _) (Nat.le_of_ble_eq_true rfl) (Nat.le_of_ble_eq_true rfl) rfl hl.1 (Nat.le_of_ble_eq_true rfl) (fun _ => rfl) rfl dX2_slide_26 (fun u H locs hu hP hD hS => ?_)
    refine lv_isub hx hb dX2_slide_29 ?_
    refine va_mmin hx hb (hml.trans hl.1.symm) hown (hts _ (List.mem_of_getElem? (i := 1) rfl)) (hts _ (List.mem_of_getElem? (i := 2) rfl)) (hts _ (List.mem_of_getElem? (i := 3) rfl)) (hts _ (List.mem_of_getElem? (i := 4) rfl)) (Nat.le_of_ble_eq_true rfl) (Nat.le_of_ble_eq_true rfl) (Nat.le_of_ble_eq_true rfl) (Nat.le_of_ble_eq_true rfl) dX2_slide_30 ?_
    refine k_top (y := (jmin ((f j) / (nI 10)) ((nI 999) - (f (j + 1))))) rfl ?_
    refine lv_istore_n (lv' := [(3, .int (jmin ((f j) / (nI 10)) ((nI 999) - (f (j + 1))))), (2, .int (nI (j + 1))), (0, .ref h), (1, .int (nI j))]) hx hb dX2_slide_33 rfl hl (by decide) rfl (fun ls hl => ?_)
    refine lv_aload_n hx hb dX2_slide_34 rfl (lv_at hl 2 rfl) ?_
    refine lv_iload_n hx hb dX2_slide_35 rfl (lv_at hl 1 rfl) ?_
    refine lv_aload_n hx hb dX2_slide_36 rfl (lv_at hl 2 rfl) ?_
    refine lv_iload_n hx hb dX2_slide_37 rfl (lv_at hl 1 rfl) ?_
    refine kM_callV (As := [.int (nI (j + 1))]) (rest := [.int (nI (j + 1)), .ref h]) (wr := []) (w2 := fun _ => [(h, .inr (2, [.ref a])), (a, .inl (cI, 8, .inl f))]) (st2 := fun _ => [.int (f (j + 1)), .int (nI (j + 1)), .ref h]) (k := 0) (n2 := 0) ⟨hx, hb, hml, hown, hts⟩ (c_X2_heightAt l D cI h a f (j + 1) (by omega)) (cwV 1 hts gX2_slide_X2_heightAt rfl rfl rfl (by decide +kernel) ⟨Nat.le_of_ble_eq_true rfl, Nat.le_of_ble_eq_true rfl⟩) 0 rfl rfl rfl [0] rfl hK hP hD hS hA [0, 1] [] rfl (by decide) rfl (by decide) (by decide) [0, 1] (by decide) (fun _ => rfl) (Nat.le_refl _) (Nat.le_refl _) (Nat.le_of_ble_eq_true rfl) (Nat.le_of_ble_eq_true rfl) rfl hl.1 (Nat.le_of_ble_eq_true rfl) (fun _ => rfl) rfl dX2_slide_38 (fun u H locs hu hP hD hS => ?_)
    refine lv_iload_n hx hb dX2_slide_41 rfl (lv_at hl 0 rfl) ?_
    refine lv_iadd hx hb dX2_slide_42 ?_
    refine kM_callV (As := [.int (nI (j + 1)), .int ((f (j + 1)) + (jmin ((f j) / (nI 10)) ((nI 999) - (f (j + 1)))))]) (rest := []) (wr := []) (w2 := fun _ => [(h, .inr (2, [.ref a])), (a, .inl (cI, 8, .inl (upd f (j + 1) ((f (j + 1)) + (jmin ((f j) / (nI 10)) ((nI 999) - (f (j + 1))))))))]) (st2 := fun _ => []) (k := 0) (n2 := 0) ⟨hx, hb, hml, hown, hts⟩ (c_X2_setHeight l D cI h a f (j + 1) ((f (j + 1)) + (jmin ((f j) / (nI 10)) ((nI 999) - (f (j + 1))))) (by omega)) (cwV 2 hts gX2_slide_X2_setHeight rfl rfl rfl (by decide +kernel) ⟨Nat.le_of_ble_eq_true rfl, Nat.le_of_ble_eq_true rfl⟩) 0 rfl rfl rfl [0] rfl hK hP hD hS hA [0, 1] [] rfl (by decide) rfl (by decide) (by decide) [0, 1] (by decide) (fun _ => rfl) (Nat.le_refl _) (Nat.le_refl _) (Nat.le_of_ble_eq_true rfl) (Nat.le_of_ble_eq_true rfl) rfl hl.1 (Nat.le_of_ble_eq_true rfl) (fun _ => rfl) rfl dX2_slide_43 (fun u H locs hu hP hD hS => ?_)
    refine lv_aload_n hx hb dX2_slide_46 rfl (lv_at hl 2 rfl) ?_
    refine lv_iload_n hx hb dX2_slide_47 rfl (lv_at hl 3 rfl) ?_
    refine lv_aload_n hx hb dX2_slide_48 rfl (lv_at hl 2 rfl) ?_
    refine lv_iload_n hx hb dX2_slide_49 rfl (lv_at hl 3 rfl) ?_
    refine kM_callV (As := [.int (nI j)]) (rest := [.int (nI j), .ref h]) (wr := []) (w2 := fun _ => [(h, .inr (2, [.ref a])), (a, .inl (cI, 8, .inl (upd f (j + 1) ((f (j + 1)) + (jmin ((f j) / (nI 10)) ((nI 999) - (f (j + 1))))))))]) (st2 := fun _ => [.int ((upd f (j + 1) ((f (j + 1)) + (jmin ((f j) / (nI 10)) ((nI 999) - (f (j + 1)))))) j), .int (nI j), .ref h]) (k := 0) (n2 := 0) ⟨hx, hb, hml, hown, hts⟩ (c_X2_heightAt l D cI h a (upd f (j + 1) ((f (j + 1)) + (jmin ((f j) / (nI 10)) ((nI 999) - (f (j + 1)))))) j (by omega)) (cwV 1 hts gX2_slide_X2_heightAt rfl rfl rfl (by decide +kernel) ⟨Nat.le_of_ble_eq_true rfl, Nat.le_of_ble_eq_true rfl⟩) 0 rfl rfl rfl [0] rfl hK hP hD hS hA [0, 1] [] rfl (by decide) rfl (by decide) (by decide) [0, 1] (by decide) (fun _ => rfl) (Nat.le_refl _) (Nat.le_refl _) (Nat.le_of_ble_eq_true rfl) (Nat.le_of_ble_eq_true rfl) rfl hl.1 (Nat.le_of_ble_eq_true rfl) (fun _ => rfl) rfl dX2_slide_50 (fun u H locs hu hP hD hS => ?_)
    refine lv_iload_n hx hb dX2_slide_53 rfl (lv_at hl 0 rfl) ?_
    refine lv_isub hx hb dX2_slide_54 ?_
    refine kM_callV (As := [.int (nI j), .int (((upd f (j + 1) ((f (j + 1)) + (jmin ((f j) / (nI 10)) ((nI 999) - (f (j + 1)))))) j) - (jmin ((f j) / (nI 10)) ((nI 999) - (f (j + 1)))))]) (rest := []) (wr := []) (w2 := fun _ => [(h, .inr (2, [.ref a])), (a, .inl (cI, 8, .inl (upd (upd f (j + 1) ((f (j + 1)) + (jmin ((f j) / (nI 10)) ((nI 999) - (f (j + 1)))))) j (((upd f (j + 1) ((f (j + 1)) + (jmin ((f j) / (nI 10)) ((nI 999) - (f (j + 1)))))) j) - (jmin ((f j) / (nI 10)) ((nI 999) - (f (j + 1))))))))]) (st2 := fun _ => []) (k := 0) (n2 := 0) ⟨hx, hb, hml, hown, hts⟩ (c_X2_setHeight l D cI h a (upd f (j + 1) ((f (j + 1)) + (jmin ((f j) / (nI 10)) ((nI 999) - (f (j + 1)))))) j (((upd f (j + 1) ((f (j + 1)) + (jmin ((f j) / (nI 10)) ((nI 999) - (f (j + 1)))))) j) - (jmin ((f j) / (nI 10)) ((nI 999) - (f (j + 1))))) (by omega)) (cwV 2 hts gX2_slide_X2_setHeight rfl rfl rfl (by decide +kernel) ⟨Nat.le_of_ble_eq_true rfl, Nat.le_of_ble_eq_true rfl⟩) 0 rfl rfl rfl [0] rfl hK hP hD hS hA [0, 1] [] rfl (by decide) rfl (by decide) (by decide) [0, 1] (by decide) (fun _ => rfl) (Nat.le_refl _) (Nat.le_refl _) (Nat.le_of_ble_eq_true rfl) (Nat.le_of_ble_eq_true rfl) rfl hl.1 (Nat.le_of_ble_eq_true rfl) (fun _ => rfl) rfl dX2_slide_55 (fun u H locs hu hP hD hS => ?_)
    exact kM_vret hx hb hr hlk hQ hP hD hK hS () (by simp only [slideF]; rw [if_pos hc]) (Nat.le_of_ble_eq_true rfl) (Nat.le_of_ble_eq_true rfl) rfl trivial dX2_slide_58
theorem iu_X2_perform_X2 : ∀ w ∈ wsX20, w ∈ wsX2_perform := fun w h => (List.mem_cons_of_mem _ (List.mem_append_right _ h))
def rm_c_X2_perform : Room := { frames := 3, cells := 0, slots := 0, locals := 65 }
set_option maxHeartbeats 4000000 in
set_option maxRecDepth 100000 in
theorem c_X2_perform (l : Launch) (D : va_G) (cI : ClassId) (h a : Nat) (f : Nat → Int32) (kd : Int32) (o : Nat) (tw : Int32) (ho : o < 8) :
    kM l yX2_perform wsX2_perform rm_c_X2_perform D [(cI, FieldType.int)] [.ref h, .int kd, .int (nI o), .int tw] [(h, .inr (2, [.ref a])), (a, .inl (cI, 8, .inl f))] (fun _ : Unit => True) (fun _ => none) (fun _ => [(h, .inr (2, [.ref a])), (a, .inl (cI, 8, .inl (perf f kd o tw)))]) := by
  refine kM_of (cc := cX2_perform) (maxL := 4) (ret := none) (own := RX2) (by decide) rfl rfl (Nat.le_of_ble_eq_true rfl) ?_
  intro p e s m args below meth c A ls Qz hx hb hml hr hts hown hlk hin hQ hA hS hP hD hK hl
  have hl : lv_has ls 4 [(0, .ref h), (1, .int kd), (2, .int (nI o)), (3, .int tw)] := hl
  refine lv_iload_n hx hb dX2_perform_0 rfl (lv_at hl 1 rfl) ?_
  refine lv_if_ne hx hb (tgt := 25) dX2_perform_1 (by decide) (fun c_1 => ?_) (fun c_1 => ?_)
  · have hk0 := c_1
    refine lv_iload_n hx hb dX2_perform_25 rfl (lv_at hl 1 rfl) ?_
    refine lv_iconst (v := (nI 1)) hx hb dX2_perform_26 (by decide) ?_
    refine lv_icmp_ne hx hb (tgt := 49) dX2_perform_27 (by decide) (fun c_2 => ?_) (fun c_2 => ?_)
    · have hk1 := c_2
      refine lv_aload_n hx hb dX2_perform_49 rfl (lv_at hl 0 rfl) ?_
      refine lv_iload_n hx hb dX2_perform_50 rfl (lv_at hl 2 rfl) ?_
      refine kM_callV (As := [.int (nI o)]) (rest := []) (wr := []) (w2 := fun _ => [(h, .inr (2, [.ref a])), (a, .inl (cI, 8, .inl (slideF f o)))]) (st2 := fun _ => []) (k := 0) (n2 := 0) ⟨hx, hb, hml, hown, hts⟩ (c_X2_slide l D cI h a f o (by omega)) (cwV 1 hts gX2_perform_X2_slide rfl rfl rfl (by decide +kernel) ⟨Nat.le_of_ble_eq_true rfl, Nat.le_of_ble_eq_true rfl⟩) 0 rfl rfl rfl [0] rfl hK hP hD hS hA [0, 1] [] rfl (by decide) rfl (by decide) (by decide) [0, 1] (by decide) (fun _ => rfl) (Nat.le_refl _) (Nat.le_refl _) (Nat.le_of_ble_eq_true rfl) (Nat.le_of_ble_eq_true rfl) rfl hl.1 (Nat.le_of_ble_eq_true rfl) (fun _ => rfl) rfl dX2_perform_51 (fun u H locs hu hP hD hS => ?_)
      exact kM_vret hx hb hr hlk hQ hP hD hK hS () (by simp only [perf]; rw [if_pos hk0, if_pos hk1]) (Nat.le_of_ble_eq_true rfl) (Nat.le_of_ble_eq_true rfl) rfl trivial dX2_perform_54
    · have hk1 := c_2
      refine lv_aload_n hx hb dX2_perform_30 rfl (lv_at hl 0 rfl) ?_
      refine lv_iload_n hx hb dX2_perform_31 rfl (lv_at hl 2 rfl) ?_
      refine lv_iconst (v := (nI 0)) hx hb dX2_perform_32 (by decide) ?_
      refine lv_aload_n hx hb dX2_perform_33 rfl (lv_at hl 0 rfl) ?_
      refine lv_iload_n hx hb dX2_perform_34 rfl (lv_at hl 2 rfl) ?_
      refine kM_callV (As := [.int (nI o)]) (rest := [.int (nI 0), .int (nI o), .ref h]) (wr := []) (w2 := fun _ => [(h, .inr (2, [.ref a])), (a, .inl (cI, 8, .inl f))]) (st2 := fun _ => [.int (f o), .int (nI 0), .int (nI o), .ref h]) (k := 0) (n2 := 0) ⟨hx, hb, hml, hown, hts⟩ (c_X2_heightAt l D cI h a f o (by omega)) (cwV 1 hts gX2_perform_X2_heightAt rfl rfl rfl (by decide +kernel) ⟨Nat.le_of_ble_eq_true rfl, Nat.le_of_ble_eq_true rfl⟩) 0 rfl rfl rfl [0] rfl hK hP hD hS hA [0, 1] [] rfl (by decide) rfl (by decide) (by decide) [0, 1] (by decide) (fun _ => rfl) (Nat.le_refl _) (Nat.le_refl _) (Nat.le_of_ble_eq_true rfl) (Nat.le_of_ble_eq_true rfl) rfl hl.1 (Nat.le_of_ble_eq_true rfl) (fun _ => rfl) rfl dX2_perform_35 (fun u H locs hu hP hD hS => ?_)
      refine lv_iload_n hx hb dX2_perform_38 rfl (lv_at hl 3 rfl) ?_
      refine lv_isub hx hb dX2_perform_39 ?_
      refine va_mmax hx hb (hml.trans hl.1.symm) hown (hts _ (List.mem_of_getElem? (i := 5) rfl)) (hts _ (List.mem_of_getElem? (i := 6) rfl)) (hts _ (List.mem_of_getElem? (i := 3) rfl)) (hts _ (List.mem_of_getElem? (i := 7) rfl)) (Nat.le_of_ble_eq_true rfl) (Nat.le_of_ble_eq_true rfl) (Nat.le_of_ble_eq_true rfl) (Nat.le_of_ble_eq_true rfl) dX2_perform_40 ?_
      refine k_top (y := (jmax (nI 0) ((f o) - tw))) rfl ?_
      refine kM_callV (As := [.int (nI o), .int (jmax (nI 0) ((f o) - tw))]) (rest := []) (wr := []) (w2 := fun _ => [(h, .inr (2, [.ref a])), (a, .inl (cI, 8, .inl (upd f o (jmax (nI 0) ((f o) - tw)))))]) (st2 := fun _ => []) (k := 0) (n2 := 0) ⟨hx, hb, hml, hown, hts⟩ (c_X2_setHeight l D cI h a f o (jmax (nI 0) ((f o) - tw)) (by omega)) (cwV 2 hts gX2_perform_X2_setHeight rfl rfl rfl (by decide +kernel) ⟨Nat.le_of_ble_eq_true rfl, Nat.le_of_ble_eq_true rfl⟩) 0 rfl rfl rfl [0] rfl hK hP hD hS hA [0, 1] [] rfl (by decide) rfl (by decide) (by decide) [0, 1] (by decide) (fun _ => rfl) (Nat.le_refl _) (Nat.le_refl _) (Nat.le_of_ble_eq_true rfl) (Nat.le_of_ble_eq_true rfl) rfl hl.1 (Nat.le_of_ble_eq_true rfl) (fun _ => rfl) rfl dX2_perform_43 (fun u H locs hu hP hD hS => ?_)
      refine lv_goto (tgt := 54) hx hb dX2_perform_46 (by decide) ?_
      exact kM_vret hx hb hr hlk hQ hP hD hK hS () (by simp only [perf]; rw [if_pos hk0, if_neg (fun h => h hk1)]) (Nat.le_of_ble_eq_true rfl) (Nat.le_of_ble_eq_true rfl) rfl trivial dX2_perform_54
  · have hk0 := c_1
    refine lv_aload_n hx hb dX2_perform_4 rfl (lv_at hl 0 rfl) ?_
    refine lv_iload_n hx hb dX2_perform_5 rfl (lv_at hl 2 rfl) ?_
    refine lv_sipush (v := (nI 999)) hx hb dX2_perform_6 (by decide) ?_
    refine lv_aload_n hx hb dX2_perform_9 rfl (lv_at hl 0 rfl) ?_
    refine lv_iload_n hx hb dX2_perform_10 rfl (lv_at hl 2 rfl) ?_
    refine kM_callV (As := [.int (nI o)]) (rest := [.int (nI 999), .int (nI o), .ref h]) (wr := []) (w2 := fun _ => [(h, .inr (2, [.ref a])), (a, .inl (cI, 8, .inl f))]) (st2 := fun _ => [.int (f o), .int (nI 999), .int (nI o), .ref h]) (k := 0) (n2 := 0) ⟨hx, hb, hml, hown, hts⟩ (c_X2_heightAt l D cI h a f o (by omega)) (cwV 1 hts gX2_perform_X2_heightAt rfl rfl rfl (by decide +kernel) ⟨Nat.le_of_ble_eq_true rfl, Nat.le_of_ble_eq_true rfl⟩) 0 rfl rfl rfl [0] rfl hK hP hD hS hA [0, 1] [] rfl (by decide) rfl (by decide) (by decide) [0, 1] (by decide) (fun _ => rfl) (Nat.le_refl _) (Nat.le_refl _) (Nat.le_of_ble_eq_true rfl) (Nat.le_of_ble_eq_true rfl) rfl hl.1 (Nat.le_of_ble_eq_true rfl) (fun _ => rfl) rfl dX2_perform_11 (fun u H locs hu hP hD hS => ?_)
    refine lv_iload_n hx hb dX2_perform_14 rfl (lv_at hl 3 rfl) ?_
    refine lv_iadd hx hb dX2_perform_15 ?_
    refine va_mmin hx hb (hml.trans hl.1.symm) hown (hts _ (List.mem_of_getElem? (i := 1) rfl)) (hts _ (List.mem_of_getElem? (i := 2) rfl)) (hts _ (List.mem_of_getElem? (i := 3) rfl)) (hts _ (List.mem_of_getElem? (i := 4) rfl)) (Nat.le_of_ble_eq_true rfl) (Nat.le_of_ble_eq_true rfl) (Nat.le_of_ble_eq_true rfl) (Nat.le_of_ble_eq_true rfl) dX2_perform_16 ?_
    refine k_top (y := (jmin (nI 999) ((f o) + tw))) rfl ?_
    refine kM_callV (As := [.int (nI o), .int (jmin (nI 999) ((f o) + tw))]) (rest := []) (wr := []) (w2 := fun _ => [(h, .inr (2, [.ref a])), (a, .inl (cI, 8, .inl (upd f o (jmin (nI 999) ((f o) + tw)))))]) (st2 := fun _ => []) (k := 0) (n2 := 0) ⟨hx, hb, hml, hown, hts⟩ (c_X2_setHeight l D cI h a f o (jmin (nI 999) ((f o) + tw)) (by omega)) (cwV 2 hts gX2_perform_X2_setHeight rfl rfl rfl (by decide +kernel) ⟨Nat.le_of_ble_eq_true rfl, Nat.le_of_ble_eq_true rfl⟩) 0 rfl rfl rfl [0] rfl hK hP hD hS hA [0, 1] [] rfl (by decide) rfl (by decide) (by decide) [0, 1] (by decide) (fun _ => rfl) (Nat.le_refl _) (Nat.le_refl _) (Nat.le_of_ble_eq_true rfl) (Nat.le_of_ble_eq_true rfl) rfl hl.1 (Nat.le_of_ble_eq_true rfl) (fun _ => rfl) rfl dX2_perform_19 (fun u H locs hu hP hD hS => ?_)
    refine lv_goto (tgt := 54) hx hb dX2_perform_22 (by decide) ?_
    exact kM_vret hx hb hr hlk hQ hP hD hK hS () (by simp only [perf]; rw [if_neg (fun h => h hk0)]) (Nat.le_of_ble_eq_true rfl) (Nat.le_of_ble_eq_true rfl) rfl trivial dX2_perform_54

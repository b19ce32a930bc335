/-! 07a: Sim, its smaller methods (laid by wip/p32/gen) -/
theorem iu_X4_init_X4 : ∀ w ∈ wsX40, w ∈ wsX4_init := fun w h => (List.mem_cons_of_mem _ (List.mem_append_right _ h))
def rm_c_X4_init : Room := { frames := 1, cells := 4, slots := 8, locals := 24 }
set_option maxHeartbeats 4000000 in
set_option maxRecDepth 100000 in
theorem c_X4_init (l : Launch) (D : va_G) (cI : ClassId) (cQ : ClassId) (z : Nat) :
    kN l yX4_init wsX4_init rm_c_X4_init D [(cI, FieldType.int), (cQ, FieldType.array FieldType.int)] cI cQ (none) [.ref z] ([(z, .inr (4, [.null, .null, .null, .null, .int (nI 0)]))]) (fun _ : Nat × Nat × Nat × Nat => True) (fun u => none) (fun u => [(z, .inr (4, [.ref u.1, .ref u.2.1, .ref u.2.2.1, .ref u.2.2.2, .int (nI 0)])), (u.1, .inl (cI, 8, .inl zF)), (u.2.1, .inl (cI, 0, .inl zF)), (u.2.2.1, .inl (cQ, 0, .inr (.inr (.inr (.inr (fun _ => none)))))), (u.2.2.2, .inl (cQ, 0, .inr (.inr (.inr (.inr (fun _ => none))))))]) := by
  refine kN_of (cc := cX4_init) (maxL := 1) (ret := none) (own := RX4) (by decide) rfl rfl (Nat.le_of_ble_eq_true rfl) ?_
  intro p e s m args below meth c A ls Qz hx hb hml hr hts hown hlk hin hQ hA hS hP hD hK hJ hsc hl
  have hl : lv_has ls 1 [(0, .ref z)] := hl
  refine lv_aload_n hx hb dX4_init_0 rfl (lv_at hl 0 rfl) ?_
  refine W.objInit hx hb hown (hts _ (List.mem_of_getElem? (i := 1) rfl)) (hts _ (List.mem_of_getElem? (i := 2) rfl)) (hts _ (List.mem_of_getElem? (i := 3) rfl)) rfl (by rw [hml]; exact hl.1) rfl dX4_init_1 (Nat.le_of_ble_eq_true rfl) (Nat.le_of_ble_eq_true rfl) ?_
  refine W.eq (g2 := F0 m 4 ls []) rfl ?_
  refine lv_aload_n hx hb dX4_init_4 rfl (lv_at hl 0 rfl) ?_
  refine lv_bipush (v := (nI 8)) hx hb dX4_init_5 (by decide) ?_
  refine k_newa (ty := .int) (atype := .int) (cA := cI) (con := .inl zF) (k := 1) (n2 := 8) hx hb (hts _ (List.mem_of_getElem? (i := 4) rfl)) rfl hK 0 rfl hP hD hS hA (N9 := 8) (fun _ => rfl) (nI_clamp (by decide)) (by decide) (by decide) (Nat.le_refl _) (Nat.le_refl _) (Nat.le_of_ble_eq_true rfl) (Nat.le_of_ble_eq_true rfl) dX4_init_7 (fun q_1 H hP hD hS => ?_)
  have hP : va_P D vwCl [(z, .inr (4, [.null, .null, .null, .null, .int (nI 0)])), (q_1, .inl (cI, 8, .inl zF))] H := hP
  have hD : va_D A [(z, .inr (4, [.null, .null, .null, .null, .int (nI 0)])), (q_1, .inl (cI, 8, .inl zF))] := hD
  refine va_put (D := D) (ci := 4) (v := .ref q_1) (ty := .array .int) (C := RX4) (T := TX4) (N := 5) hx hb hts iu_X4_init_X4 tyX4 tyX4_ok nmX4 hown hK hP hD hS 0 rfl rfl 0 (by decide) (hts _ (List.mem_of_getElem? (i := 5) rfl)) (fun _ h9 => h9) rfl (by decide +kernel) rfl rfl (Nat.le_of_ble_eq_true rfl) dX4_init_9 (fun H locs hP hD hS => ?_)
  have hP : va_P D vwCl [(z, .inr (4, [.ref q_1, .null, .null, .null, .int (nI 0)])), (q_1, .inl (cI, 8, .inl zF))] H := hP
  have hD : va_D A [(z, .inr (4, [.ref q_1, .null, .null, .null, .int (nI 0)])), (q_1, .inl (cI, 8, .inl zF))] := hD
  refine lv_aload_n hx hb dX4_init_12 rfl (lv_at hl 0 rfl) ?_
  refine lv_iconst (v := (nI 0)) hx hb dX4_init_13 (by decide) ?_
  refine k_newa (ty := .int) (atype := .int) (cA := cI) (con := .inl zF) (k := 2) (n2 := 8) hx hb (hts _ (List.mem_of_getElem? (i := 4) rfl)) rfl hK 0 rfl hP hD hS hA (N9 := 0) (fun _ => rfl) (nI_clamp (by decide)) (by decide) (by decide) (Nat.le_refl _) (Nat.le_refl _) (Nat.le_of_ble_eq_true rfl) (Nat.le_of_ble_eq_true rfl) dX4_init_14 (fun q_2 H hP hD hS => ?_)
  have hP : va_P D vwCl [(z, .inr (4, [.ref q_1, .null, .null, .null, .int (nI 0)])), (q_1, .inl (cI, 8, .inl zF)), (q_2, .inl (cI, 0, .inl zF))] H := hP
  have hD : va_D A [(z, .inr (4, [.ref q_1, .null, .null, .null, .int (nI 0)])), (q_1, .inl (cI, 8, .inl zF)), (q_2, .inl (cI, 0, .inl zF))] := hD
  refine va_put (D := D) (ci := 4) (v := .ref q_2) (ty := .array .int) (C := RX4) (T := TX4) (N := 5) hx hb hts iu_X4_init_X4 tyX4 tyX4_ok nmX4 hown hK hP hD hS 0 rfl rfl 1 (by decide) (hts _ (List.mem_of_getElem? (i := 6) rfl)) (fun _ h9 => h9) rfl (by decide +kernel) rfl rfl (Nat.le_of_ble_eq_true rfl) dX4_init_16 (fun H locs hP hD hS => ?_)
  have hP : va_P D vwCl [(z, .inr (4, [.ref q_1, .ref q_2, .null, .null, .int (nI 0)])), (q_1, .inl (cI, 8, .inl zF)), (q_2, .inl (cI, 0, .inl zF))] H := hP
  have hD : va_D A [(z, .inr (4, [.ref q_1, .ref q_2, .null, .null, .int (nI 0)])), (q_1, .inl (cI, 8, .inl zF)), (q_2, .inl (cI, 0, .inl zF))] := hD
  refine lv_aload_n hx hb dX4_init_19 rfl (lv_at hl 0 rfl) ?_
  refine lv_iconst (v := (nI 0)) hx hb dX4_init_20 (by decide) ?_
  refine k_anewq (N9 := 0) (k := 3) (n2 := 8) hx hb hown (hts _ (List.mem_of_getElem? (i := 7) rfl)) hJ hP hD hS hA (nI_clamp (by omega)) (nI_pos (by omega)) (by omega) (Nat.le_refl _) (Nat.le_refl _) (Nat.le_of_ble_eq_true rfl) (Nat.le_of_ble_eq_true rfl) dX4_init_21 (fun q_3 H hP hD hS => ?_)
  have hP : va_P D vwCl [(z, .inr (4, [.ref q_1, .ref q_2, .null, .null, .int (nI 0)])), (q_1, .inl (cI, 8, .inl zF)), (q_2, .inl (cI, 0, .inl zF)), (q_3, .inl (cQ, 0, .inr (.inr (.inr (.inr (fun _ => none))))))] H := hP
  have hD : va_D A [(z, .inr (4, [.ref q_1, .ref q_2, .null, .null, .int (nI 0)])), (q_1, .inl (cI, 8, .inl zF)), (q_2, .inl (cI, 0, .inl zF)), (q_3, .inl (cQ, 0, .inr (.inr (.inr (.inr (fun _ => none))))))] := hD
  refine va_put (D := D) (ci := 4) (v := .ref q_3) (ty := .array (.array .int)) (C := RX4) (T := TX4) (N := 5) hx hb hts iu_X4_init_X4 tyX4 tyX4_ok nmX4 hown hK hP hD hS 0 rfl rfl 2 (by decide) (hts _ (List.mem_of_getElem? (i := 8) rfl)) (fun _ h9 => h9) rfl (by decide +kernel) rfl rfl (Nat.le_of_ble_eq_true rfl) dX4_init_24 (fun H locs hP hD hS => ?_)
  have hP : va_P D vwCl [(z, .inr (4, [.ref q_1, .ref q_2, .ref q_3, .null, .int (nI 0)])), (q_1, .inl (cI, 8, .inl zF)), (q_2, .inl (cI, 0, .inl zF)), (q_3, .inl (cQ, 0, .inr (.inr (.inr (.inr (fun _ => none))))))] H := hP
  have hD : va_D A [(z, .inr (4, [.ref q_1, .ref q_2, .ref q_3, .null, .int (nI 0)])), (q_1, .inl (cI, 8, .inl zF)), (q_2, .inl (cI, 0, .inl zF)), (q_3, .inl (cQ, 0, .inr (.inr (.inr (.inr (fun _ => none))))))] := hD
  refine lv_aload_n hx hb dX4_init_27 rfl (lv_at hl 0 rfl) ?_
  refine lv_iconst (v := (nI 0)) hx hb dX4_init_28 (by decide) ?_
  refine k_anewq (N9 := 0) (k := 4) (n2 := 8) hx hb hown (hts _ (List.mem_of_getElem? (i := 7) rfl)) hJ hP hD hS hA (nI_clamp (by omega)) (nI_pos (by omega)) (by omega) (Nat.le_refl _) (Nat.le_refl _) (Nat.le_of_ble_eq_true rfl) (Nat.le_of_ble_eq_true rfl) dX4_init_29 (fun q_4 H hP hD hS => ?_)
  have hP : va_P D vwCl [(z, .inr (4, [.ref q_1, .ref q_2, .ref q_3, .null, .int (nI 0)])), (q_1, .inl (cI, 8, .inl zF)), (q_2, .inl (cI, 0, .inl zF)), (q_3, .inl (cQ, 0, .inr (.inr (.inr (.inr (fun _ => none)))))), (q_4, .inl (cQ, 0, .inr (.inr (.inr (.inr (fun _ => none))))))] H := hP
  have hD : va_D A [(z, .inr (4, [.ref q_1, .ref q_2, .ref q_3, .null, .int (nI 0)])), (q_1, .inl (cI, 8, .inl zF)), (q_2, .inl (cI, 0, .inl zF)), (q_3, .inl (cQ, 0, .inr (.inr (.inr (.inr (fun _ => none)))))), (q_4, .inl (cQ, 0, .inr (.inr (.inr (.inr (fun _ => none))))))] := hD
  refine va_put (D := D) (ci := 4) (v := .ref q_4) (ty := .array (.array .int)) (C := RX4) (T := TX4) (N := 5) hx hb hts iu_X4_init_X4 tyX4 tyX4_ok nmX4 hown hK hP hD hS 0 rfl rfl 3 (by decide) (hts _ (List.mem_of_getElem? (i := 9) rfl)) (fun _ h9 => h9) rfl (by decide +kernel) rfl rfl (Nat.le_of_ble_eq_true rfl) dX4_init_32 (fun H locs hP hD hS => ?_)
  have hP : va_P D vwCl [(z, .inr (4, [.ref q_1, .ref q_2, .ref q_3, .ref q_4, .int (nI 0)])), (q_1, .inl (cI, 8, .inl zF)), (q_2, .inl (cI, 0, .inl zF)), (q_3, .inl (cQ, 0, .inr (.inr (.inr (.inr (fun _ => none)))))), (q_4, .inl (cQ, 0, .inr (.inr (.inr (.inr (fun _ => none))))))] H := hP
  have hD : va_D A [(z, .inr (4, [.ref q_1, .ref q_2, .ref q_3, .ref q_4, .int (nI 0)])), (q_1, .inl (cI, 8, .inl zF)), (q_2, .inl (cI, 0, .inl zF)), (q_3, .inl (cQ, 0, .inr (.inr (.inr (.inr (fun _ => none)))))), (q_4, .inl (cQ, 0, .inr (.inr (.inr (.inr (fun _ => none))))))] := hD
  exact kM_vret hx hb hr hlk hQ hP hD hK hS ⟨q_1, q_2, q_3, q_4⟩ rfl (Nat.le_of_ble_eq_true rfl) (Nat.le_of_ble_eq_true rfl) rfl trivial dX4_init_35
def rm_c_X4_with : Room := { frames := 0, cells := 1, slots := 39, locals := 0 }
set_option maxHeartbeats 4000000 in
set_option maxRecDepth 100000 in
theorem c_X4_with (l : Launch) (D : va_G) (cI : ClassId) (r L : Nat) (f : Nat → Int32) (a b c_ : Int32) (hL : L ≤ 36) :
    kM l yX4_with wsX4_with rm_c_X4_with D [(cI, FieldType.int)] [.ref r, .int a, .int b, .int c_] [(r, .inl (cI, L, .inl f))] (fun _ : Nat => True) (fun u => some (.ref u)) (fun u => [(r, .inl (cI, L, .inl f)), (u, .inl (cI, L + 3, .inl (wF f L a b c_)))]) := by
  refine kM_of (cc := cX4_with) (maxL := 6) (ret := (some (.array .int))) (own := RX4) (by decide) rfl rfl (Nat.le_of_ble_eq_true rfl) ?_
  intro p e s m args below meth c A ls Qz hx hb hml hr hts hown hlk hin hQ hA hS hP hD hK hl
  have hl : lv_has ls 6 [(0, .ref r), (1, .int a), (2, .int b), (3, .int c_)] := hl
  refine lv_aload_n hx hb dX4_with_0 rfl (lv_at hl 0 rfl) ?_
  refine va_alen hx hb hK hP 0 0 rfl rfl (v := (nI L)) rfl dX4_with_1 ?_
  refine lv_iconst (v := (nI 3)) hx hb dX4_with_2 (by decide) ?_
  refine k_iadd hx hb dX4_with_3 ?_
  refine k_newa (ty := .int) (atype := .int) (cA := cI) (con := .inl zF) (k := 1) (n2 := 0 + (L + 3)) hx hb (hts _ (List.mem_of_getElem? (i := 1) rfl)) rfl hK 0 rfl hP hD hS hA (N9 := L + 3) (fun _ => rfl) (nI_clamp (by omega)) (nI_pos (by omega)) (show (L + 3) * 4 ≤ 536870912 by omega) (Nat.le_refl _) (Nat.le_refl _) (Nat.le_of_ble_eq_true rfl) (show 0 + (L + 3) ≤ 39 by omega) dX4_with_4 (fun q_1 H hP hD hS => ?_)
  have hP : va_P D vwCl [(r, .inl (cI, L, .inl f)), (q_1, .inl (cI, L + 3, .inl zF))] H := hP
  have hD : va_D A [(r, .inl (cI, L, .inl f)), (q_1, .inl (cI, L + 3, .inl zF))] := hD
  refine lv_astore (lv' := [(4, .ref q_1), (0, .ref r), (1, .int a), (2, .int b), (3, .int c_)]) hx hb dX4_with_6 hl (by decide) rfl (fun ls hl => ?_)
  refine lv_iconst (v := (nI 0)) hx hb dX4_with_8 (by decide) ?_
  refine lv_istore (lv' := [(5, .int (nI 0)), (4, .ref q_1), (0, .ref r), (1, .int a), (2, .int b), (3, .int c_)]) hx hb dX4_with_9 hl (by decide) rfl (fun ls hl => ?_)
  have lp_11 : ∀ (fu i : Nat), 0 ≤ i → i ≤ L → L + 1 ≤ i + fu → ∀ (x1 : Nat → Int32), x1 = cpF f i → ∀ (H : Heap) (locs : List Loc), va_P D vwCl [(r, .inl (cI, L, .inl f)), (q_1, .inl (cI, L + 3, .inl x1))] H → va_D A [(r, .inl (cI, L, .inl f)), (q_1, .inl (cI, L + 3, .inl x1))] → va_S A s.heap H locs → ∀ (ls : Array Slot), lv_has ls 6 [(5, .int (nI i)), (4, .ref q_1), (0, .ref r), (1, .int a), (2, .int b), (3, .int c_)] → W p l e rm_c_X4_with s m args below meth c H locs 1 (0 + (L + 3)) Qz (F0 m 11 ls []) := by
    intro fu
    induction fu with
    | zero => intro i h1_11 h2_11 h3_11; exact absurd h3_11 (by omega)
    | succ fu ih_11 =>
      intro i h1_11 h2_11 h3_11 x1 ex1 H locs hP hD hS ls hl
      subst ex1
      refine lv_iload hx hb dX4_with_11 (lv_at hl 0 rfl) ?_
      refine lv_aload_n hx hb dX4_with_13 rfl (lv_at hl 2 rfl) ?_
      refine va_alen hx hb hK hP 0 0 rfl rfl (v := (nI L)) rfl dX4_with_14 ?_
      refine k_icmp_ge hx hb (tgt := 33) (by omega) (by omega) dX4_with_15 (by decide) (fun c_2 => ?_) (fun c_2 => ?_)
      · have e_3 : L = i := by omega
        subst e_3
        refine lv_aload hx hb dX4_with_33 (lv_at hl 1 rfl) ?_
        refine lv_aload_n hx hb dX4_with_35 rfl (lv_at hl 2 rfl) ?_
        refine va_alen hx hb hK hP 0 0 rfl rfl (v := (nI L)) rfl dX4_with_36 ?_
        refine lv_iload_n hx hb dX4_with_37 rfl (lv_at hl 3 rfl) ?_
        refine k_iast (w2 := [(r, .inl (cI, L, .inl f)), (q_1, .inl (cI, L + 3, .inl (upd (cpF f L) L a)))]) hx hb hK hP hD hS 1 0 (i := L) rfl rfl (by omega) (by omega) dX4_with_38 (g := upd (cpF f L) L a) rfl rfl (fun H locs hP hD hS => ?_)
        refine lv_aload hx hb dX4_with_39 (lv_at hl 1 rfl) ?_
        refine lv_aload_n hx hb dX4_with_41 rfl (lv_at hl 2 rfl) ?_
        refine va_alen hx hb hK hP 0 0 rfl rfl (v := (nI L)) rfl dX4_with_42 ?_
        refine lv_iconst (v := (nI 1)) hx hb dX4_with_43 (by decide) ?_
        refine k_iadd hx hb dX4_with_44 ?_
        refine lv_iload_n hx hb dX4_with_45 rfl (lv_at hl 4 rfl) ?_
        refine k_iast (w2 := [(r, .inl (cI, L, .inl f)), (q_1, .inl (cI, L + 3, .inl (upd (upd (cpF f L) L a) (L + 1) b)))]) hx hb hK hP hD hS 1 0 (i := (L + 1)) rfl rfl (by omega) (by omega) dX4_with_46 (g := upd (upd (cpF f L) L a) (L + 1) b) rfl rfl (fun H locs hP hD hS => ?_)
        refine lv_aload hx hb dX4_with_47 (lv_at hl 1 rfl) ?_
        refine lv_aload_n hx hb dX4_with_49 rfl (lv_at hl 2 rfl) ?_
        refine va_alen hx hb hK hP 0 0 rfl rfl (v := (nI L)) rfl dX4_with_50 ?_
        refine lv_iconst (v := (nI 2)) hx hb dX4_with_51 (by decide) ?_
        refine k_iadd hx hb dX4_with_52 ?_
        refine lv_iload_n hx hb dX4_with_53 rfl (lv_at hl 5 rfl) ?_
        refine k_iast (w2 := [(r, .inl (cI, L, .inl f)), (q_1, .inl (cI, L + 3, .inl (upd (upd (upd (cpF f L) L a) (L + 1) b) (L + 2) c_)))]) hx hb hK hP hD hS 1 0 (i := (L + 2)) rfl rfl (by omega) (by omega) dX4_with_54 (g := upd (upd (upd (cpF f L) L a) (L + 1) b) (L + 2) c_) rfl rfl (fun H locs hP hD hS => ?_)
        refine lv_aload hx hb dX4_with_55 (lv_at hl 1 rfl) ?_
        exact kM_aret hx hb hr (by first | exact Or.inr ⟨_, rfl⟩ | exact Or.inl ⟨_, rfl⟩) hlk hQ hP hD hK hS q_1 rfl (Nat.le_of_ble_eq_true rfl) (show 0 + (L + 3) ≤ 39 by omega) rfl trivial dX4_with_57
      · refine lv_aload hx hb dX4_with_18 (lv_at hl 1 rfl) ?_
        refine lv_iload hx hb dX4_with_20 (lv_at hl 0 rfl) ?_
        refine lv_aload_n hx hb dX4_with_22 rfl (lv_at hl 2 rfl) ?_
        refine lv_iload hx hb dX4_with_23 (lv_at hl 0 rfl) ?_
        refine k_iald hx hb hK hP 0 0 (i := i) rfl rfl (by omega) (by omega) dX4_with_25 ?_
        refine k_iast (w2 := [(r, .inl (cI, L, .inl f)), (q_1, .inl (cI, L + 3, .inl (cpF f (i + 1))))]) hx hb hK hP hD hS 1 0 (i := i) rfl rfl (by omega) (by omega) dX4_with_26 (g := cpF f (i + 1)) (cpF_s f i) rfl (fun H locs hP hD hS => ?_)
        refine lv_iinc (v := (nI (i + 1))) (lv' := [(5, .int (nI (i + 1))), (4, .ref q_1), (0, .ref r), (1, .int a), (2, .int b), (3, .int c_)]) (k := 0) hx hb dX4_with_27 hl rfl (nI_add i 1) (by decide) rfl (fun ls hl => ?_)
        refine lv_goto (tgt := 11) hx hb dX4_with_30 (by decide) ?_
        exact ih_11 (i + 1) (by omega) (by omega) (by omega) (cpF f (i + 1)) rfl _ _ hP hD hS ls (lv_sub hl [0, 1, 2, 3, 4, 5] rfl)
  exact lp_11 (L + 1) 0 (by omega) (by omega) (by omega) zF (cpF_0 f) _ _ hP hD hS ls (lv_sub hl [0, 1, 2, 3, 4, 5] rfl)
def rm_c_X4_with_ : Room := { frames := 0, cells := 1, slots := 41, locals := 0 }
set_option maxHeartbeats 4000000 in
set_option maxRecDepth 100000 in
theorem c_X4_with_ (l : Launch) (D : va_G) (cI : ClassId) (cQ : ClassId) (r v n : Nat) (a : Nat → Nat) (pl : va_W) (hn : n ≤ 40) (hrow : ∀ i, i < n → ∃ (N : Nat) (f : Nat → Int32), (a i, (.inl (cI, N, .inl f) : va_E)) ∈ pl) (hv : ∃ (N : Nat) (f : Nat → Int32), (v, (.inl (cI, N, .inl f) : va_E)) ∈ pl) :
    kN l yX4_with_ wsX4_with_ rm_c_X4_with_ D [(cI, FieldType.int), (cQ, FieldType.array FieldType.int)] cI cQ (none) [.ref r, .ref v] (([(r, .inl (cQ, n, .inr (.inr (.inr (.inr (rF a))))))] ++ pl)) (fun _ : Nat => True) (fun u => some (.ref u)) (fun u => ([(r, .inl (cQ, n, .inr (.inr (.inr (.inr (rF a)))))), (u, .inl (cQ, n + 1, .inr (.inr (.inr (.inr (rF (upN a n v)))))))] ++ pl)) := by
  refine kN_of (cc := cX4_with_) (maxL := 4) (ret := (some (.array (.array .int)))) (own := RX4) (by decide) rfl rfl (Nat.le_of_ble_eq_true rfl) ?_
  intro p e s m args below meth c A ls Qz hx hb hml hr hts hown hlk hin hQ hA hS hP hD hK hJ hsc hl
  have hl : lv_has ls 4 [(0, .ref r), (1, .ref v)] := hl
  refine lv_aload_n hx hb dX4_with__0 rfl (lv_at hl 0 rfl) ?_
  refine va_alen hx hb hK hP 0 1 rfl rfl (v := (nI n)) rfl dX4_with__1 ?_
  refine lv_iconst (v := (nI 1)) hx hb dX4_with__2 (by decide) ?_
  refine k_iadd hx hb dX4_with__3 ?_
  refine k_anewq (N9 := n + 1) (k := 1) (n2 := 0 + (n + 1)) hx hb hown (hts _ (List.mem_of_getElem? (i := 1) rfl)) hJ hP hD hS hA (nI_clamp (by omega)) (nI_pos (by omega)) (by omega) (Nat.le_refl _) (Nat.le_refl _) (Nat.le_of_ble_eq_true rfl) (show 0 + (n + 1) ≤ 41 by omega) dX4_with__4 (fun q_1 H hP hD hS => ?_)
  have hP := hP.swap (a := [(r, .inl (cQ, n, .inr (.inr (.inr (.inr (rF a))))))]) (b := pl) (c := [(q_1, .inl (cQ, n + 1, .inr (.inr (.inr (.inr (fun _ => none))))))])
  have hD := hD.swap (a := [(r, .inl (cQ, n, .inr (.inr (.inr (.inr (rF a))))))]) (b := pl) (c := [(q_1, .inl (cQ, n + 1, .inr (.inr (.inr (.inr (fun _ => none))))))])
  have hP : va_P D vwCl ([(r, .inl (cQ, n, .inr (.inr (.inr (.inr (rF a)))))), (q_1, .inl (cQ, n + 1, .inr (.inr (.inr (.inr (fun _ => none))))))] ++ pl) H := hP
  have hD : va_D A ([(r, .inl (cQ, n, .inr (.inr (.inr (.inr (rF a)))))), (q_1, .inl (cQ, n + 1, .inr (.inr (.inr (.inr (fun _ => none))))))] ++ pl) := hD
  refine lv_astore_n (lv' := [(2, .ref q_1), (0, .ref r), (1, .ref v)]) hx hb dX4_with__7 rfl hl (by decide) rfl (fun ls hl => ?_)
  refine lv_iconst (v := (nI 0)) hx hb dX4_with__8 (by decide) ?_
  refine lv_istore_n (lv' := [(3, .int (nI 0)), (2, .ref q_1), (0, .ref r), (1, .ref v)]) hx hb dX4_with__9 rfl hl (by decide) rfl (fun ls hl => ?_)
  have lp_10 : ∀ (fu i : Nat), 0 ≤ i → i ≤ n → n + 1 ≤ i + fu → ∀ (x1 : Nat → Option Nat), x1 = cpQ a i → ∀ (H : Heap) (locs : List Loc), va_P D vwCl ([(r, .inl (cQ, n, .inr (.inr (.inr (.inr (rF a)))))), (q_1, .inl (cQ, n + 1, .inr (.inr (.inr (.inr x1)))))] ++ pl) H → va_D A ([(r, .inl (cQ, n, .inr (.inr (.inr (.inr (rF a)))))), (q_1, .inl (cQ, n + 1, .inr (.inr (.inr (.inr x1)))))] ++ pl) → va_S A s.heap H locs → ∀ (ls : Array Slot), lv_has ls 4 [(3, .int (nI i)), (2, .ref q_1), (0, .ref r), (1, .ref v)] → W p l e rm_c_X4_with_ s m args below meth c H locs 1 (0 + (n + 1)) Qz (F0 m 10 ls []) := by
    intro fu
    induction fu with
    | zero => intro i h1_10 h2_10 h3_10; exact absurd h3_10 (by omega)
    | succ fu ih_10 =>
      intro i h1_10 h2_10 h3_10 x1 ex1 H locs hP hD hS ls hl
      subst ex1
      refine lv_iload_n hx hb dX4_with__10 rfl (lv_at hl 0 rfl) ?_
      refine lv_aload_n hx hb dX4_with__11 rfl (lv_at hl 2 rfl) ?_
      refine va_alen hx hb hK hP 0 1 rfl rfl (v := (nI n)) rfl dX4_with__12 ?_
      refine k_icmp_ge hx hb (tgt := 28) (by omega) (by omega) dX4_with__13 (by decide) (fun c_2 => ?_) (fun c_2 => ?_)
      · have e_3 : n = i := by omega
        subst e_3
        refine lv_aload_n hx hb dX4_with__28 rfl (lv_at hl 1 rfl) ?_
        refine lv_aload_n hx hb dX4_with__29 rfl (lv_at hl 2 rfl) ?_
        refine va_alen hx hb hK hP 0 1 rfl rfl (v := (nI n)) rfl dX4_with__30 ?_
        refine lv_aload_n hx hb dX4_with__31 rfl (lv_at hl 3 rfl) ?_
        obtain ⟨N_9, f_9, h_9⟩ := hv
        obtain ⟨k_4, hk_4⟩ := kpos (X := [(r, .inl (cQ, n, .inr (.inr (.inr (.inr (rF a)))))), (q_1, .inl (cQ, n + 1, .inr (.inr (.inr (.inr (cpQ a n))))))]) (pl := pl) (q := (v, .inl (cI, N_9, .inl f_9))) h_9
        refine k_aast (w2 := ([(r, .inl (cQ, n, .inr (.inr (.inr (.inr (rF a)))))), (q_1, .inl (cQ, n + 1, .inr (.inr (.inr (.inr (va_up (cpQ a n) n (some v)))))))] ++ pl)) hx hb hK hJ hP hD hS 1 0 k_4 (i := n) rfl rfl hk_4 (by omega) (by omega) dX4_with__32 (g := va_up (cpQ a n) n (some v)) rfl rfl (fun H locs hP hD hS => ?_)
        have hP : va_P D vwCl (([(r, .inl (cQ, n, .inr (.inr (.inr (.inr (rF a)))))), (q_1, .inl (cQ, n + 1, .inr (.inr (.inr (.inr (rF (upN a n v)))))))] ++ pl)) H := kP_at 1 (x := (q_1, .inl (cQ, n + 1, .inr (.inr (.inr (.inr (va_up (cpQ a n) n (some v)))))))) (y := (q_1, .inl (cQ, n + 1, .inr (.inr (.inr (.inr (rF (upN a n v)))))))) rfl rfl (at_q rfl (cpQ_end a n v)) hP
        have hD : va_D A (([(r, .inl (cQ, n, .inr (.inr (.inr (.inr (rF a)))))), (q_1, .inl (cQ, n + 1, .inr (.inr (.inr (.inr (rF (upN a n v)))))))] ++ pl)) := kD_at 1 (x := (q_1, .inl (cQ, n + 1, .inr (.inr (.inr (.inr (va_up (cpQ a n) n (some v)))))))) (y := (q_1, .inl (cQ, n + 1, .inr (.inr (.inr (.inr (rF (upN a n v)))))))) rfl rfl rfl hD
        refine lv_aload_n hx hb dX4_with__33 rfl (lv_at hl 1 rfl) ?_
        exact kM_aret hx hb hr (by first | exact Or.inr ⟨_, rfl⟩ | exact Or.inl ⟨_, rfl⟩) hlk hQ hP hD hK hS q_1 rfl (Nat.le_of_ble_eq_true rfl) (show 0 + (n + 1) ≤ 41 by omega) rfl trivial dX4_with__34
      · refine lv_aload_n hx hb dX4_with__16 rfl (lv_at hl 1 rfl) ?_
        refine lv_iload_n hx hb dX4_with__17 rfl (lv_at hl 0 rfl) ?_
        refine lv_aload_n hx hb dX4_with__18 rfl (lv_at hl 2 rfl) ?_
        refine lv_iload_n hx hb dX4_with__19 rfl (lv_at hl 0 rfl) ?_
        refine k_aald hx hb hK hP 0 1 (i := i) (v := a i) rfl rfl (by omega) (by omega) rfl dX4_with__20 ?_
        obtain ⟨N_9, f_9, h_9⟩ := hrow i (by omega)
        obtain ⟨k_5, hk_5⟩ := kpos (X := [(r, .inl (cQ, n, .inr (.inr (.inr (.inr (rF a)))))), (q_1, .inl (cQ, n + 1, .inr (.inr (.inr (.inr (cpQ a i))))))]) (pl := pl) (q := (a i, .inl (cI, N_9, .inl f_9))) h_9
        refine k_aast (w2 := ([(r, .inl (cQ, n, .inr (.inr (.inr (.inr (rF a)))))), (q_1, .inl (cQ, n + 1, .inr (.inr (.inr (.inr (cpQ a (i + 1)))))))] ++ pl)) hx hb hK hJ hP hD hS 1 0 k_5 (i := i) rfl rfl hk_5 (by omega) (by omega) dX4_with__21 (g := cpQ a (i + 1)) (cpQ_s a rfl) rfl (fun H locs hP hD hS => ?_)
        refine lv_iinc (v := (nI (i + 1))) (lv' := [(3, .int (nI (i + 1))), (2, .ref q_1), (0, .ref r), (1, .ref v)]) (k := 0) hx hb dX4_with__22 hl rfl (nI_add i 1) (by decide) rfl (fun ls hl => ?_)
        refine lv_goto (tgt := 10) hx hb dX4_with__25 (by decide) ?_
        exact ih_10 (i + 1) (by omega) (by omega) (by omega) (cpQ a (i + 1)) rfl _ _ hP hD hS ls (lv_sub hl [0, 1, 2, 3] rfl)
  exact lp_10 (n + 1) 0 (by omega) (by omega) (by omega) (fun _ => none) (cpQ_0 a) _ _ hP hD hS ls (lv_sub hl [0, 1, 2, 3] rfl)
def rm_c_X4_without : Room := { frames := 0, cells := 1, slots := 5, locals := 0 }
set_option maxHeartbeats 4000000 in
set_option maxRecDepth 100000 in
theorem c_X4_without (l : Launch) (D : va_G) (cI : ClassId) (cQ : ClassId) (r j n : Nat) (a : Nat → Nat) (pl : va_W) (hn : n ≤ 6) (hj : j < n) (hrow : ∀ i, i < n → ∃ (N : Nat) (f : Nat → Int32), (a i, (.inl (cI, N, .inl f) : va_E)) ∈ pl) :
    kN l yX4_without wsX4_without rm_c_X4_without D [(cI, FieldType.int), (cQ, FieldType.array FieldType.int)] cI cQ (none) [.ref r, .int (nI j)] (([(r, .inl (cQ, n, .inr (.inr (.inr (.inr (rF a))))))] ++ pl)) (fun _ : Nat => True) (fun u => some (.ref u)) (fun u => ([(r, .inl (cQ, n, .inr (.inr (.inr (.inr (rF a)))))), (u, .inl (cQ, n - 1, .inr (.inr (.inr (.inr (rF (shA a j)))))))] ++ pl)) := by
  refine kN_of (cc := cX4_without) (maxL := 4) (ret := (some (.array (.array .int)))) (own := RX4) (by decide) rfl rfl (Nat.le_of_ble_eq_true rfl) ?_
  intro p e s m args below meth c A ls Qz hx hb hml hr hts hown hlk hin hQ hA hS hP hD hK hJ hsc hl
  have hl : lv_has ls 4 [(0, .ref r), (1, .int (nI j))] := hl
  refine lv_aload_n hx hb dX4_without_0 rfl (lv_at hl 0 rfl) ?_
  refine va_alen hx hb hK hP 0 1 rfl rfl (v := (nI n)) rfl dX4_without_1 ?_
  refine lv_iconst (v := (nI 1)) hx hb dX4_without_2 (by decide) ?_
  refine k_isub hx hb (by omega) dX4_without_3 ?_
  refine k_anewq (N9 := n - 1) (k := 1) (n2 := 0 + (n - 1)) hx hb hown (hts _ (List.mem_of_getElem? (i := 1) rfl)) hJ hP hD hS hA (nI_clamp (by omega)) (nI_pos (by omega)) (by omega) (Nat.le_refl _) (Nat.le_refl _) (Nat.le_of_ble_eq_true rfl) (show 0 + (n - 1) ≤ 5 by omega) dX4_without_4 (fun q_1 H hP hD hS => ?_)
  have hP := hP.swap (a := [(r, .inl (cQ, n, .inr (.inr (.inr (.inr (rF a))))))]) (b := pl) (c := [(q_1, .inl (cQ, n - 1, .inr (.inr (.inr (.inr (fun _ => none))))))])
  have hD := hD.swap (a := [(r, .inl (cQ, n, .inr (.inr (.inr (.inr (rF a))))))]) (b := pl) (c := [(q_1, .inl (cQ, n - 1, .inr (.inr (.inr (.inr (fun _ => none))))))])
  have hP : va_P D vwCl ([(r, .inl (cQ, n, .inr (.inr (.inr (.inr (rF a)))))), (q_1, .inl (cQ, n - 1, .inr (.inr (.inr (.inr (fun _ => none))))))] ++ pl) H := hP
  have hD : va_D A ([(r, .inl (cQ, n, .inr (.inr (.inr (.inr (rF a)))))), (q_1, .inl (cQ, n - 1, .inr (.inr (.inr (.inr (fun _ => none))))))] ++ pl) := hD
  refine lv_astore_n (lv' := [(2, .ref q_1), (0, .ref r), (1, .int (nI j))]) hx hb dX4_without_7 rfl hl (by decide) rfl (fun ls hl => ?_)
  refine lv_iconst (v := (nI 0)) hx hb dX4_without_8 (by decide) ?_
  refine lv_istore_n (lv' := [(3, .int (nI 0)), (2, .ref q_1), (0, .ref r), (1, .int (nI j))]) hx hb dX4_without_9 rfl hl (by decide) rfl (fun ls hl => ?_)
  have lp_10 : ∀ (fu i : Nat), 0 ≤ i → i ≤ n - 1 → (n - 1) + 1 ≤ i + fu → ∀ (x1 : Nat → Option Nat), x1 = cpQ (shA a j) i → ∀ (H : Heap) (locs : List Loc), va_P D vwCl ([(r, .inl (cQ, n, .inr (.inr (.inr (.inr (rF a)))))), (q_1, .inl (cQ, n - 1, .inr (.inr (.inr (.inr x1)))))] ++ pl) H → va_D A ([(r, .inl (cQ, n, .inr (.inr (.inr (.inr (rF a)))))), (q_1, .inl (cQ, n - 1, .inr (.inr (.inr (.inr x1)))))] ++ pl) → va_S A s.heap H locs → ∀ (ls : Array Slot), lv_has ls 4 [(3, .int (nI i)), (2, .ref q_1), (0, .ref r), (1, .int (nI j))] → W p l e rm_c_X4_without s m args below meth c H locs 1 (0 + (n - 1)) Qz (F0 m 10 ls []) := by
    intro fu
    induction fu with
    | zero => intro i h1_10 h2_10 h3_10; exact absurd h3_10 (by omega)
    | succ fu ih_10 =>
      intro i h1_10 h2_10 h3_10 x1 ex1 H locs hP hD hS ls hl
      subst ex1
      refine lv_iload_n hx hb dX4_without_10 rfl (lv_at hl 0 rfl) ?_
      refine lv_aload_n hx hb dX4_without_11 rfl (lv_at hl 1 rfl) ?_
      refine va_alen hx hb hK hP 1 1 rfl rfl (v := (nI (n - 1))) rfl dX4_without_12 ?_
      refine k_icmp_ge hx hb (tgt := 39) (by omega) (by omega) dX4_without_13 (by decide) (fun c_2 => ?_) (fun c_2 => ?_)
      · have e_3 : n - 1 = i := by omega
        subst e_3
        have hP : va_P D vwCl (([(r, .inl (cQ, n, .inr (.inr (.inr (.inr (rF a)))))), (q_1, .inl (cQ, n - 1, .inr (.inr (.inr (.inr (rF (shA a j)))))))] ++ pl)) H := kP_at 1 (x := (q_1, .inl (cQ, n - 1, .inr (.inr (.inr (.inr (cpQ (shA a j) (n - 1)))))))) (y := (q_1, .inl (cQ, n - 1, .inr (.inr (.inr (.inr (rF (shA a j)))))))) rfl rfl (at_q rfl (cpQ_lt (shA a j) (n - 1))) hP
        have hD : va_D A (([(r, .inl (cQ, n, .inr (.inr (.inr (.inr (rF a)))))), (q_1, .inl (cQ, n - 1, .inr (.inr (.inr (.inr (rF (shA a j)))))))] ++ pl)) := kD_at 1 (x := (q_1, .inl (cQ, n - 1, .inr (.inr (.inr (.inr (cpQ (shA a j) (n - 1)))))))) (y := (q_1, .inl (cQ, n - 1, .inr (.inr (.inr (.inr (rF (shA a j)))))))) rfl rfl rfl hD
        refine lv_aload_n hx hb dX4_without_39 rfl (lv_at hl 1 rfl) ?_
        exact kM_aret hx hb hr (by first | exact Or.inr ⟨_, rfl⟩ | exact Or.inl ⟨_, rfl⟩) hlk hQ hP hD hK hS q_1 rfl (Nat.le_of_ble_eq_true rfl) (show 0 + (n - 1) ≤ 5 by omega) rfl trivial dX4_without_40
      · refine lv_aload_n hx hb dX4_without_16 rfl (lv_at hl 1 rfl) ?_
        refine lv_iload_n hx hb dX4_without_17 rfl (lv_at hl 0 rfl) ?_
        refine lv_aload_n hx hb dX4_without_18 rfl (lv_at hl 2 rfl) ?_
        refine lv_iload_n hx hb dX4_without_19 rfl (lv_at hl 0 rfl) ?_
        refine lv_iload_n hx hb dX4_without_20 rfl (lv_at hl 3 rfl) ?_
        refine k_icmp_ge hx hb (tgt := 28) (by omega) (by omega) dX4_without_21 (by decide) (fun c_4 => ?_) (fun c_4 => ?_)
        · refine lv_iload_n hx hb dX4_without_28 rfl (lv_at hl 0 rfl) ?_
          refine lv_iconst (v := (nI 1)) hx hb dX4_without_29 (by decide) ?_
          refine k_iadd hx hb dX4_without_30 ?_
          refine k_aald hx hb hK hP 0 1 (i := (i + 1)) (v := a (i + 1)) rfl rfl (by omega) (by omega) rfl dX4_without_31 ?_
          obtain ⟨N_9, f_9, h_9⟩ := hrow (i + 1) (by omega)
          obtain ⟨k_5, hk_5⟩ := kpos (X := [(r, .inl (cQ, n, .inr (.inr (.inr (.inr (rF a)))))), (q_1, .inl (cQ, n - 1, .inr (.inr (.inr (.inr (cpQ (shA a j) i))))))]) (pl := pl) (q := (a (i + 1), .inl (cI, N_9, .inl f_9))) h_9
          refine k_aast (w2 := ([(r, .inl (cQ, n, .inr (.inr (.inr (.inr (rF a)))))), (q_1, .inl (cQ, n - 1, .inr (.inr (.inr (.inr (cpQ (shA a j) (i + 1)))))))] ++ pl)) hx hb hK hJ hP hD hS 1 0 k_5 (i := i) rfl rfl hk_5 (by omega) (by omega) dX4_without_32 (g := cpQ (shA a j) (i + 1)) (cpQ_s (shA a j) (by simp only [shA]; first | rw [if_pos (by omega)] | rw [if_neg (by omega)])) rfl (fun H locs hP hD hS => ?_)
          refine lv_iinc (v := (nI (i + 1))) (lv' := [(3, .int (nI (i + 1))), (2, .ref q_1), (0, .ref r), (1, .int (nI j))]) (k := 0) hx hb dX4_without_33 hl rfl (nI_add i 1) (by decide) rfl (fun ls hl => ?_)
          refine lv_goto (tgt := 10) hx hb dX4_without_36 (by decide) ?_
          exact ih_10 (i + 1) (by omega) (by omega) (by omega) (cpQ (shA a j) (i + 1)) rfl _ _ hP hD hS ls (lv_sub hl [0, 1, 2, 3] rfl)
        · refine lv_iload_n hx hb dX4_without_24 rfl (lv_at hl 0 rfl) ?_
          refine lv_goto (tgt := 31) hx hb dX4_without_25 (by decide) ?_
          refine k_aald hx hb hK hP 0 1 (i := i) (v := a i) rfl rfl (by omega) (by omega) rfl dX4_without_31 ?_
          obtain ⟨N_9, f_9, h_9⟩ := hrow i (by omega)
          obtain ⟨k_6, hk_6⟩ := kpos (X := [(r, .inl (cQ, n, .inr (.inr (.inr (.inr (rF a)))))), (q_1, .inl (cQ, n - 1, .inr (.inr (.inr (.inr (cpQ (shA a j) i))))))]) (pl := pl) (q := (a i, .inl (cI, N_9, .inl f_9))) h_9
          refine k_aast (w2 := ([(r, .inl (cQ, n, .inr (.inr (.inr (.inr (rF a)))))), (q_1, .inl (cQ, n - 1, .inr (.inr (.inr (.inr (cpQ (shA a j) (i + 1)))))))] ++ pl)) hx hb hK hJ hP hD hS 1 0 k_6 (i := i) rfl rfl hk_6 (by omega) (by omega) dX4_without_32 (g := cpQ (shA a j) (i + 1)) (cpQ_s (shA a j) (by simp only [shA]; first | rw [if_pos (by omega)] | rw [if_neg (by omega)])) rfl (fun H locs hP hD hS => ?_)
          refine lv_iinc (v := (nI (i + 1))) (lv' := [(3, .int (nI (i + 1))), (2, .ref q_1), (0, .ref r), (1, .int (nI j))]) (k := 0) hx hb dX4_without_33 hl rfl (nI_add i 1) (by decide) rfl (fun ls hl => ?_)
          refine lv_goto (tgt := 10) hx hb dX4_without_36 (by decide) ?_
          exact ih_10 (i + 1) (by omega) (by omega) (by omega) (cpQ (shA a j) (i + 1)) rfl _ _ hP hD hS ls (lv_sub hl [0, 1, 2, 3] rfl)
  exact lp_10 ((n - 1) + 1) 0 (by omega) (by omega) (by omega) (fun _ => none) (cpQ_0 (shA a j)) _ _ hP hD hS ls (lv_sub hl [0, 1, 2, 3] rfl)
def rm_c_X4_work_0 : Room := { frames := 1, cells := 0, slots := 0, locals := 24 }
set_option maxHeartbeats 4000000 in
set_option maxRecDepth 100000 in
theorem c_X4_work_0 (l : Launch) (D : va_G) (cI : ClassId) (aI : Nat) (f : Nat → Int32) (o a tw : Nat) (ho : o < 8) (hf : f o = nI a) (ha : a ≤ 999) (ht : tw ≤ 99) :
    kM l yX4_work wsX4_work rm_c_X4_work_0 D [(cI, FieldType.int)] [.ref aI, .int (nI 0), .int (nI o), .int (nI tw)] [(aI, .inl (cI, 8, .inl f))] (fun _ : Unit => True) (fun _ => none) (fun _ => [(aI, .inl (cI, 8, .inl (perf f (nI 0) o (nI tw))))]) := by
  refine kM_of (cc := cX4_work) (maxL := 5) (ret := none) (own := RX4) (by decide) rfl rfl (Nat.le_of_ble_eq_true rfl) ?_
  intro p e s m args below meth c A ls Qz hx hb hml hr hts hown hlk hin hQ hA hS hP hD hK hl
  have hl : lv_has ls 5 [(0, .ref aI), (1, .int (nI 0)), (2, .int (nI o)), (3, .int (nI tw))] := hl
  refine lv_iload_n hx hb dX4_work_0 rfl (lv_at hl 1 rfl) ?_
  refine k_if_ne hx hb (tgt := 21) (by decide) dX4_work_1 (by decide) (fun h => absurd h (by decide)) (fun c_1 => ?_)
  refine lv_aload_n hx hb dX4_work_4 rfl (lv_at hl 0 rfl) ?_
  refine lv_iload_n hx hb dX4_work_5 rfl (lv_at hl 2 rfl) ?_
  refine lv_dup2_11 hx hb dX4_work_6 rfl rfl ?_
  refine k_iald hx hb hK hP 0 0 (i := o) rfl rfl (by omega) (by decide) dX4_work_7 ?_
  refine lv_iload_n hx hb dX4_work_8 rfl (lv_at hl 3 rfl) ?_
  refine lv_sipush (v := (nI 999)) hx hb dX4_work_9 (by decide) ?_
  refine lv_aload_n hx hb dX4_work_12 rfl (lv_at hl 0 rfl) ?_
  refine lv_iload_n hx hb dX4_work_13 rfl (lv_at hl 2 rfl) ?_
  refine k_iald hx hb hK hP 0 0 (i := o) rfl rfl (by omega) (by decide) dX4_work_14 ?_
  refine lv_isub hx hb dX4_work_15 ?_
  refine va_mmin hx hb (hml.trans hl.1.symm) hown (hts _ (List.mem_of_getElem? (i := 1) rfl)) (hts _ (List.mem_of_getElem? (i := 2) rfl)) (hts _ (List.mem_of_getElem? (i := 3) rfl)) (hts _ (List.mem_of_getElem? (i := 4) rfl)) (Nat.le_of_ble_eq_true rfl) (Nat.le_of_ble_eq_true rfl) (Nat.le_of_ble_eq_true rfl) (Nat.le_of_ble_eq_true rfl) dX4_work_16 ?_
  refine k_top (y := (jmin (nI tw) ((nI 999) - (f o)))) rfl ?_
  refine lv_iadd hx hb dX4_work_19 ?_
  refine k_iast (w2 := [(aI, .inl (cI, 8, .inl (perf f (nI 0) o (nI tw))))]) hx hb hK hP hD hS 0 0 (i := o) rfl rfl (by omega) (by decide) dX4_work_20 (g := perf f (nI 0) o (nI tw)) (work0 hf ha ht) rfl (fun H locs hP hD hS => ?_)
  refine lv_iload_n hx hb dX4_work_21 rfl (lv_at hl 1 rfl) ?_
  refine lv_iconst (v := (nI 1)) hx hb dX4_work_22 (by decide) ?_
  refine k_icmp_ne hx hb (tgt := 39) (by decide) (by decide) dX4_work_23 (by decide) (fun c_2 => ?_) (fun h => absurd h (by decide))
  refine lv_iload_n hx hb dX4_work_39 rfl (lv_at hl 1 rfl) ?_
  refine lv_iconst (v := (nI 2)) hx hb dX4_work_40 (by decide) ?_
  refine k_icmp_ge hx hb (tgt := 45) (by decide) (by decide) dX4_work_41 (by decide) (fun h => absurd h (by decide)) (fun c_3 => ?_)
  exact kM_vret hx hb hr hlk hQ hP hD hK hS () rfl (Nat.le_of_ble_eq_true rfl) (Nat.le_of_ble_eq_true rfl) rfl trivial dX4_work_44
def rm_c_X4_work_1 : Room := { frames := 1, cells := 0, slots := 0, locals := 24 }
set_option maxHeartbeats 4000000 in
set_option maxRecDepth 100000 in
theorem c_X4_work_1 (l : Launch) (D : va_G) (cI : ClassId) (aI : Nat) (f : Nat → Int32) (o a tw : Nat) (ho : o < 8) (hf : f o = nI a) (ha : a ≤ 999) (ht : tw ≤ 99) :
    kM l yX4_work wsX4_work rm_c_X4_work_1 D [(cI, FieldType.int)] [.ref aI, .int (nI 1), .int (nI o), .int (nI tw)] [(aI, .inl (cI, 8, .inl f))] (fun _ : Unit => True) (fun _ => none) (fun _ => [(aI, .inl (cI, 8, .inl (perf f (nI 1) o (nI tw))))]) := by
  refine kM_of (cc := cX4_work) (maxL := 5) (ret := none) (own := RX4) (by decide) rfl rfl (Nat.le_of_ble_eq_true rfl) ?_
  intro p e s m args below meth c A ls Qz hx hb hml hr hts hown hlk hin hQ hA hS hP hD hK hl
  have hl : lv_has ls 5 [(0, .ref aI), (1, .int (nI 1)), (2, .int (nI o)), (3, .int (nI tw))] := hl
  refine lv_iload_n hx hb dX4_work_0 rfl (lv_at hl 1 rfl) ?_
  refine k_if_ne hx hb (tgt := 21) (by decide) dX4_work_1 (by decide) (fun c_1 => ?_) (fun h => absurd h (by decide))
  refine lv_iload_n hx hb dX4_work_21 rfl (lv_at hl 1 rfl) ?_
  refine lv_iconst (v := (nI 1)) hx hb dX4_work_22 (by decide) ?_
  refine k_icmp_ne hx hb (tgt := 39) (by decide) (by decide) dX4_work_23 (by decide) (fun h => absurd h (by decide)) (fun c_2 => ?_)
  refine lv_aload_n hx hb dX4_work_26 rfl (lv_at hl 0 rfl) ?_
  refine lv_iload_n hx hb dX4_work_27 rfl (lv_at hl 2 rfl) ?_
  refine lv_dup2_11 hx hb dX4_work_28 rfl rfl ?_
  refine k_iald hx hb hK hP 0 0 (i := o) rfl rfl (by omega) (by decide) dX4_work_29 ?_
  refine lv_iload_n hx hb dX4_work_30 rfl (lv_at hl 3 rfl) ?_
  refine lv_aload_n hx hb dX4_work_31 rfl (lv_at hl 0 rfl) ?_
  refine lv_iload_n hx hb dX4_work_32 rfl (lv_at hl 2 rfl) ?_
  refine k_iald hx hb hK hP 0 0 (i := o) rfl rfl (by omega) (by decide) dX4_work_33 ?_
  refine va_mmin hx hb (hml.trans hl.1.symm) hown (hts _ (List.mem_of_getElem? (i := 1) rfl)) (hts _ (List.mem_of_getElem? (i := 2) rfl)) (hts _ (List.mem_of_getElem? (i := 3) rfl)) (hts _ (List.mem_of_getElem? (i := 4) rfl)) (Nat.le_of_ble_eq_true rfl) (Nat.le_of_ble_eq_true rfl) (Nat.le_of_ble_eq_true rfl) (Nat.le_of_ble_eq_true rfl) dX4_work_34 ?_
  refine k_top (y := (jmin (nI tw) (f o))) rfl ?_
  refine lv_isub hx hb dX4_work_37 ?_
  refine k_iast (w2 := [(aI, .inl (cI, 8, .inl (perf f (nI 1) o (nI tw))))]) hx hb hK hP hD hS 0 0 (i := o) rfl rfl (by omega) (by decide) dX4_work_38 (g := perf f (nI 1) o (nI tw)) (work1 hf ha ht) rfl (fun H locs hP hD hS => ?_)
  refine lv_iload_n hx hb dX4_work_39 rfl (lv_at hl 1 rfl) ?_
  refine lv_iconst (v := (nI 2)) hx hb dX4_work_40 (by decide) ?_
  refine k_icmp_ge hx hb (tgt := 45) (by decide) (by decide) dX4_work_41 (by decide) (fun h => absurd h (by decide)) (fun c_3 => ?_)
  exact kM_vret hx hb hr hlk hQ hP hD hK hS () rfl (Nat.le_of_ble_eq_true rfl) (Nat.le_of_ble_eq_true rfl) rfl trivial dX4_work_44
def rm_c_X4_work_7 : Room := { frames := 1, cells := 0, slots := 0, locals := 24 }
set_option maxHeartbeats 4000000 in
set_option maxRecDepth 100000 in
theorem c_X4_work_7 (l : Launch) (D : va_G) (cI : ClassId) (aI : Nat) (f : Nat → Int32) (a : Nat) (hf : f 7 = nI a) (ha : a ≤ 999) :
    kM l yX4_work wsX4_work rm_c_X4_work_7 D [(cI, FieldType.int)] [.ref aI, .int (nI 2), .int (nI 7), .int (nI 0)] [(aI, .inl (cI, 8, .inl f))] (fun _ : Unit => True) (fun _ => none) (fun _ => [(aI, .inl (cI, 8, .inl (perf f (nI 2) 7 (nI 0))))]) := by
  refine kM_of (cc := cX4_work) (maxL := 5) (ret := none) (own := RX4) (by decide) rfl rfl (Nat.le_of_ble_eq_true rfl) ?_
  intro p e s m args below meth c A ls Qz hx hb hml hr hts hown hlk hin hQ hA hS hP hD hK hl
  have hl : lv_has ls 5 [(0, .ref aI), (1, .int (nI 2)), (2, .int (nI 7)), (3, .int (nI 0))] := hl
  refine lv_iload_n hx hb dX4_work_0 rfl (lv_at hl 1 rfl) ?_
  refine k_if_ne hx hb (tgt := 21) (by decide) dX4_work_1 (by decide) (fun c_1 => ?_) (fun h => absurd h (by decide))
  refine lv_iload_n hx hb dX4_work_21 rfl (lv_at hl 1 rfl) ?_
  refine lv_iconst (v := (nI 1)) hx hb dX4_work_22 (by decide) ?_
  refine k_icmp_ne hx hb (tgt := 39) (by decide) (by decide) dX4_work_23 (by decide) (fun c_2 => ?_) (fun h => absurd h (by decide))
  refine lv_iload_n hx hb dX4_work_39 rfl (lv_at hl 1 rfl) ?_
  refine lv_iconst (v := (nI 2)) hx hb dX4_work_40 (by decide) ?_
  refine k_icmp_ge hx hb (tgt := 45) (by decide) (by decide) dX4_work_41 (by decide) (fun c_3 => ?_) (fun h => absurd h (by decide))
  refine lv_aload_n hx hb dX4_work_45 rfl (lv_at hl 0 rfl) ?_
  refine lv_iload_n hx hb dX4_work_46 rfl (lv_at hl 2 rfl) ?_
  refine k_iald hx hb hK hP 0 0 (i := 7) rfl rfl (by decide) (by decide) dX4_work_47 ?_
  refine k_top (y := (nI a)) hf ?_
  refine lv_bipush (v := (nI 10)) hx hb dX4_work_48 (by decide) ?_
  refine lv_idiv hx hb dX4_work_50 (by decide) ?_
  refine k_top (y := (nI (a / 10))) (pk_div (by omega) (by decide) (by decide)) ?_
  refine lv_istore (lv' := [(4, .int (nI (a / 10))), (0, .ref aI), (1, .int (nI 2)), (2, .int (nI 7)), (3, .int (nI 0))]) hx hb dX4_work_51 hl (by decide) rfl (fun ls hl => ?_)
  refine lv_iload_n hx hb dX4_work_53 rfl (lv_at hl 3 rfl) ?_
  refine lv_bipush (v := (nI 7)) hx hb dX4_work_54 (by decide) ?_
  refine k_icmp_ne hx hb (tgt := 69) (by decide) (by decide) dX4_work_56 (by decide) (fun h => absurd h (by decide)) (fun c_4 => ?_)
  refine lv_aload_n hx hb dX4_work_59 rfl (lv_at hl 1 rfl) ?_
  refine lv_bipush (v := (nI 7)) hx hb dX4_work_60 (by decide) ?_
  refine lv_dup2_11 hx hb dX4_work_62 rfl rfl ?_
  refine k_iald hx hb hK hP 0 0 (i := 7) rfl rfl (by decide) (by decide) dX4_work_63 ?_
  refine k_top (y := (nI a)) hf ?_
  refine lv_iload hx hb dX4_work_64 (lv_at hl 0 rfl) ?_
  refine k_isub hx hb (by omega) dX4_work_66 ?_
  refine k_iast (w2 := [(aI, .inl (cI, 8, .inl (perf f (nI 2) 7 (nI 0))))]) hx hb hK hP hD hS 0 0 (i := 7) rfl rfl (by decide) (by decide) dX4_work_67 (g := perf f (nI 2) 7 (nI 0)) (work7 hf ha) rfl (fun H locs hP hD hS => ?_)
  exact kM_vret hx hb hr hlk hQ hP hD hK hS () rfl (Nat.le_of_ble_eq_true rfl) (Nat.le_of_ble_eq_true rfl) rfl trivial dX4_work_68
def rm_c_X4_work_2 : Room := { frames := 1, cells := 0, slots := 0, locals := 24 }
set_option maxHeartbeats 4000000 in
set_option maxRecDepth 100000 in
theorem c_X4_work_2 (l : Launch) (D : va_G) (cI : ClassId) (aI : Nat) (f : Nat → Int32) (o a b : Nat) (ho : o < 7) (hf : f o = nI a) (hf2 : f (o + 1) = nI b) (ha : a ≤ 999) (hb_ : b ≤ 999) :
    kM l yX4_work wsX4_work rm_c_X4_work_2 D [(cI, FieldType.int)] [.ref aI, .int (nI 2), .int (nI o), .int (nI 0)] [(aI, .inl (cI, 8, .inl f))] (fun _ : Unit => True) (fun _ => none) (fun _ => [(aI, .inl (cI, 8, .inl (perf f (nI 2) o (nI 0))))]) := by
  refine kM_of (cc := cX4_work) (maxL := 5) (ret := none) (own := RX4) (by decide) rfl rfl (Nat.le_of_ble_eq_true rfl) ?_
  intro p e s m args below meth c A ls Qz hx hb hml hr hts hown hlk hin hQ hA hS hP hD hK hl
  have hl : lv_has ls 5 [(0, .ref aI), (1, .int (nI 2)), (2, .int (nI o)), (3, .int (nI 0))] := hl
  refine lv_iload_n hx hb dX4_work_0 rfl (lv_at hl 1 rfl) ?_
  refine k_if_ne hx hb (tgt := 21) (by decide) dX4_work_1 (by decide) (fun c_1 => ?_) (fun h => absurd h (by decide))
  refine lv_iload_n hx hb dX4_work_21 rfl (lv_at hl 1 rfl) ?_
  refine lv_iconst (v := (nI 1)) hx hb dX4_work_22 (by decide) ?_
  refine k_icmp_ne hx hb (tgt := 39) (by decide) (by decide) dX4_work_23 (by decide) (fun c_2 => ?_) (fun h => absurd h (by decide))
  refine lv_iload_n hx hb dX4_work_39 rfl (lv_at hl 1 rfl) ?_
  refine lv_iconst (v := (nI 2)) hx hb dX4_work_40 (by decide) ?_
  refine k_icmp_ge hx hb (tgt := 45) (by decide) (by decide) dX4_work_41 (by decide) (fun c_3 => ?_) (fun h => absurd h (by decide))
  refine lv_aload_n hx hb dX4_work_45 rfl (lv_at hl 0 rfl) ?_
  refine lv_iload_n hx hb dX4_work_46 rfl (lv_at hl 2 rfl) ?_
  refine k_iald hx hb hK hP 0 0 (i := o) rfl rfl (by omega) (by decide) dX4_work_47 ?_
  refine k_top (y := (nI a)) hf ?_
  refine lv_bipush (v := (nI 10)) hx hb dX4_work_48 (by decide) ?_
  refine lv_idiv hx hb dX4_work_50 (by decide) ?_
  refine k_top (y := (nI (a / 10))) (pk_div (by omega) (by decide) (by decide)) ?_
  refine lv_istore (lv' := [(4, .int (nI (a / 10))), (0, .ref aI), (1, .int (nI 2)), (2, .int (nI o)), (3, .int (nI 0))]) hx hb dX4_work_51 hl (by decide) rfl (fun ls hl => ?_)
  refine lv_iload_n hx hb dX4_work_53 rfl (lv_at hl 3 rfl) ?_
  refine lv_bipush (v := (nI 7)) hx hb dX4_work_54 (by decide) ?_
  refine k_icmp_ne hx hb (tgt := 69) (by omega) (by decide) dX4_work_56 (by decide) (fun c_4 => ?_) (fun c_4 => ((by omega) : False).elim)
  have lp_69 : ∀ (fu d : Nat), 0 ≤ d → d ≤ min (a / 10) (999 - b) → (min (a / 10) (999 - b)) + 1 ≤ d + fu → ∀ (x1 : Nat → Int32), x1 = flF f o a b d → ∀ (H : Heap) (locs : List Loc), va_P D vwCl [(aI, .inl (cI, 8, .inl x1))] H → va_D A [(aI, .inl (cI, 8, .inl x1))] → va_S A s.heap H locs → ∀ (ls : Array Slot), lv_has ls 5 [(4, .int (nI (a / 10 - d))), (0, .ref aI), (1, .int (nI 2)), (2, .int (nI o)), (3, .int (nI 0))] → W p l e rm_c_X4_work_2 s m args below meth c H locs 0 0 Qz (F0 m 69 ls []) := by
    intro fu
    induction fu with
    | zero => intro d h1_69 h2_69 h3_69; exact absurd h3_69 (by omega)
    | succ fu ih_69 =>
      intro d h1_69 h2_69 h3_69 x1 ex1 H locs hP hD hS ls hl
      subst ex1
      refine lv_iload hx hb dX4_work_69 (lv_at hl 0 rfl) ?_
      refine k_if_le hx hb (tgt := 107) (by omega) dX4_work_71 (by decide) (fun c_5 => ?_) (fun c_5 => ?_)
      · exact kM_vret hx hb hr hlk hQ hP hD hK hS () (by rw [← work2 hf hf2 ha hb_ ho (show d = min (a / 10) (999 - b) by omega)]) (Nat.le_of_ble_eq_true rfl) (Nat.le_of_ble_eq_true rfl) rfl trivial dX4_work_107
      · refine lv_aload_n hx hb dX4_work_74 rfl (lv_at hl 1 rfl) ?_
        refine lv_iload_n hx hb dX4_work_75 rfl (lv_at hl 3 rfl) ?_
        refine lv_iconst (v := (nI 1)) hx hb dX4_work_76 (by decide) ?_
        refine k_iadd hx hb dX4_work_77 ?_
        refine k_iald hx hb hK hP 0 0 (i := (o + 1)) rfl rfl (by omega) (by decide) dX4_work_78 ?_
        refine k_top (y := (nI (b + d))) (flF_b f o a b d) ?_
        refine lv_sipush (v := (nI 999)) hx hb dX4_work_79 (by decide) ?_
        refine k_icmp_ge hx hb (tgt := 107) (by omega) (by decide) dX4_work_82 (by decide) (fun c_6 => ?_) (fun c_6 => ?_)
        · exact kM_vret hx hb hr hlk hQ hP hD hK hS () (by rw [← work2 hf hf2 ha hb_ ho (show d = min (a / 10) (999 - b) by omega)]) (Nat.le_of_ble_eq_true rfl) (Nat.le_of_ble_eq_true rfl) rfl trivial dX4_work_107
        · refine lv_aload_n hx hb dX4_work_85 rfl (lv_at hl 1 rfl) ?_
          refine lv_iload_n hx hb dX4_work_86 rfl (lv_at hl 3 rfl) ?_
          refine lv_dup2_11 hx hb dX4_work_87 rfl rfl ?_
          refine k_iald hx hb hK hP 0 0 (i := o) rfl rfl (by omega) (by decide) dX4_work_88 ?_
          refine k_top (y := (nI (a - d))) (flF_a f o a b d) ?_
          refine lv_iconst (v := (nI 1)) hx hb dX4_work_89 (by decide) ?_
          refine k_isub hx hb (by omega) dX4_work_90 ?_
          refine k_iast (w2 := [(aI, .inl (cI, 8, .inl (upd (flF f o a b d) o (nI ((a - d) - 1)))))]) hx hb hK hP hD hS 0 0 (i := o) rfl rfl (by omega) (by decide) dX4_work_91 (g := upd (flF f o a b d) o (nI ((a - d) - 1))) rfl rfl (fun H locs hP hD hS => ?_)
          refine lv_aload_n hx hb dX4_work_92 rfl (lv_at hl 1 rfl) ?_
          refine lv_iload_n hx hb dX4_work_93 rfl (lv_at hl 3 rfl) ?_
          refine lv_iconst (v := (nI 1)) hx hb dX4_work_94 (by decide) ?_
          refine k_iadd hx hb dX4_work_95 ?_
          refine lv_dup2_11 hx hb dX4_work_96 rfl rfl ?_
          refine k_iald hx hb hK hP 0 0 (i := (o + 1)) rfl rfl (by omega) (by decide) dX4_work_97 ?_
          refine k_top (y := (nI (b + d))) (flF_b2 f o a b d _) ?_
          refine lv_iconst (v := (nI 1)) hx hb dX4_work_98 (by decide) ?_
          refine k_iadd hx hb dX4_work_99 ?_
          refine k_iast (w2 := [(aI, .inl (cI, 8, .inl (flF f o a b (d + 1))))]) hx hb hK hP hD hS 0 0 (i := (o + 1)) rfl rfl (by omega) (by decide) dX4_work_100 (g := flF f o a b (d + 1)) (flF_s f o a b d) rfl (fun H locs hP hD hS => ?_)
          refine lv_iinc (v := (nI (a / 10 - (d + 1)))) (lv' := [(4, .int (nI (a / 10 - (d + 1)))), (0, .ref aI), (1, .int (nI 2)), (2, .int (nI o)), (3, .int (nI 0))]) (k := 0) hx hb dX4_work_101 hl rfl (by rw [show a / 10 - d = (a / 10 - (d + 1)) + 1 by omega]; exact m1_inc) (by decide) rfl (fun ls hl => ?_)
          refine lv_goto (tgt := 69) hx hb dX4_work_104 (by decide) ?_
          exact ih_69 (d + 1) (by omega) (by omega) (by omega) (flF f o a b (d + 1)) rfl _ _ hP hD hS ls (lv_sub hl [0, 1, 2, 3, 4] rfl)
  exact lp_69 ((min (a / 10) (999 - b)) + 1) 0 (by omega) (by omega) (by omega) f (flF_0 hf hf2) _ _ hP hD hS ls (lv_sub hl [0, 1, 2, 3, 4] rfl)
def rm_c_X4_total : Room := { frames := 0, cells := 0, slots := 0, locals := 0 }
set_option maxHeartbeats 4000000 in
set_option maxRecDepth 100000 in
theorem c_X4_total (l : Launch) (D : va_G) (cI : ClassId) (r w : Nat) (f : Nat → Int32) (hw : w ≤ 9) :
    kM l yX4_total wsX4_total rm_c_X4_total D [(cI, FieldType.int)] [.ref r] [(r, .inl (cI, w, .inl f))] (fun _ : Unit => True) (fun _ => some (.int (sumZ f w))) (fun _ => [(r, .inl (cI, w, .inl f))]) := by
  refine kM_of (cc := cX4_total) (maxL := 6) (ret := (some .int)) (own := RX4) (by decide) rfl rfl (Nat.le_of_ble_eq_true rfl) ?_
  intro p e s m args below meth c A ls Qz hx hb hml hr hts hown hlk hin hQ hA hS hP hD hK hl
  have hl : lv_has ls 6 [(0, .ref r)] := hl
  refine lv_iconst (v := (nI 0)) hx hb dX4_total_0 (by decide) ?_
  refine lv_istore_n (lv' := [(1, .int (nI 0)), (0, .ref r)]) hx hb dX4_total_1 rfl hl (by decide) rfl (fun ls hl => ?_)
  refine lv_aload_n hx hb dX4_total_2 rfl (lv_at hl 1 rfl) ?_
  refine lv_astore_n (lv' := [(2, .ref r), (1, .int (nI 0)), (0, .ref r)]) hx hb dX4_total_3 rfl hl (by decide) rfl (fun ls hl => ?_)
  refine lv_aload_n hx hb dX4_total_4 rfl (lv_at hl 0 rfl) ?_
  refine va_alen hx hb hK hP 0 0 rfl rfl (v := (nI w)) rfl dX4_total_5 ?_
  refine lv_istore_n (lv' := [(3, .int (nI w)), (2, .ref r), (1, .int (nI 0)), (0, .ref r)]) hx hb dX4_total_6 rfl hl (by decide) rfl (fun ls hl => ?_)
  refine lv_iconst (v := (nI 0)) hx hb dX4_total_7 (by decide) ?_
  refine lv_istore (lv' := [(4, .int (nI 0)), (3, .int (nI w)), (2, .ref r), (1, .int (nI 0)), (0, .ref r)]) hx hb dX4_total_8 hl (by decide) rfl (fun ls hl => ?_)
  have lp_10 : ∀ (fu i : Nat), 0 ≤ i → i ≤ w → w + 1 ≤ i + fu → ∀ (x1 : Int32), x1 = sumZ f i → ∀ (H : Heap) (locs : List Loc), va_P D vwCl [(r, .inl (cI, w, .inl f))] H → va_D A [(r, .inl (cI, w, .inl f))] → va_S A s.heap H locs → ∀ (ls : Array Slot), lv_has ls 6 [(4, .int (nI i)), (3, .int (nI w)), (2, .ref r), (1, .int x1), (0, .ref r)] → W p l e rm_c_X4_total s m args below meth c H locs 0 0 Qz (F0 m 10 ls []) := by
    intro fu
    induction fu with
    | zero => intro i h1_10 h2_10 h3_10; exact absurd h3_10 (by omega)
    | succ fu ih_10 =>
      intro i h1_10 h2_10 h3_10 x1 ex1 H locs hP hD hS ls hl
      subst ex1
      refine lv_iload hx hb dX4_total_10 (lv_at hl 0 rfl) ?_
      refine lv_iload_n hx hb dX4_total_12 rfl (lv_at hl 1 rfl) ?_
      refine k_icmp_ge hx hb (tgt := 33) (by omega) (by omega) dX4_total_13 (by decide) (fun c_1 => ?_) (fun c_1 => ?_)
      · have e_2 : w = i := by omega
        subst e_2
        refine lv_iload_n hx hb dX4_total_33 rfl (lv_at hl 3 rfl) ?_
        exact kM_iret hx hb hr hlk hQ hP hD hK hS () rfl (Nat.le_of_ble_eq_true rfl) (Nat.le_of_ble_eq_true rfl) (congrArg (fun z => some (Value.int z)) (by rfl)) trivial dX4_total_34
      · refine lv_aload_n hx hb dX4_total_16 rfl (lv_at hl 2 rfl) ?_
        refine lv_iload hx hb dX4_total_17 (lv_at hl 0 rfl) ?_
        refine k_iald hx hb hK hP 0 0 (i := i) rfl rfl (by omega) (by omega) dX4_total_19 ?_
        refine lv_istore (lv' := [(5, .int (f i)), (4, .int (nI i)), (3, .int (nI w)), (2, .ref r), (1, .int (sumZ f i)), (0, .ref r)]) hx hb dX4_total_20 hl (by decide) rfl (fun ls hl => ?_)
        refine lv_iload_n hx hb dX4_total_22 rfl (lv_at hl 4 rfl) ?_
        refine lv_iload hx hb dX4_total_23 (lv_at hl 0 rfl) ?_
        refine lv_iadd hx hb dX4_total_25 ?_
        refine lv_istore_n (lv' := [(1, .int ((sumZ f i) + (f i))), (5, .int (f i)), (4, .int (nI i)), (3, .int (nI w)), (2, .ref r), (0, .ref r)]) hx hb dX4_total_26 rfl hl (by decide) rfl (fun ls hl => ?_)
        refine lv_iinc (v := (nI (i + 1))) (lv' := [(4, .int (nI (i + 1))), (1, .int ((sumZ f i) + (f i))), (5, .int (f i)), (3, .int (nI w)), (2, .ref r), (0, .ref r)]) (k := 2) hx hb dX4_total_27 hl rfl (nI_add i 1) (by decide) rfl (fun ls hl => ?_)
        refine lv_goto (tgt := 10) hx hb dX4_total_30 (by decide) ?_
        exact ih_10 (i + 1) (by omega) (by omega) (by omega) ((sumZ f i) + (f i)) rfl _ _ hP hD hS ls (lv_sub hl [0, 3, 4, 1, 5] rfl)
  exact lp_10 (w + 1) 0 (by omega) (by omega) (by omega) (nI 0) rfl _ _ hP hD hS ls (lv_sub hl [0, 1, 2, 3, 4] rfl)
theorem iu_X4_deed_X4 : ∀ w ∈ wsX40, w ∈ wsX4_deed := fun w h => (List.mem_cons_of_mem _ (List.mem_append_right _ h))
def rm_c_X4_deed_0 : Room := { frames := 2, cells := 1, slots := 39, locals := 48 }
set_option maxHeartbeats 4000000 in
set_option maxRecDepth 100000 in
theorem c_X4_deed_0 (l : Launch) (D : va_G) (cI : ClassId) (z aI aD aLy aCo : Nat) (wf : Int32) (f K : Nat → Int32) (O : Nat → Nat) (T : Nat → Int32) (M : Nat → Nat) (n : Nat) (o a tw : Nat) (hm : M n < 12) (ho : o < 8) (hf : f o = nI a) (ha : a ≤ 999) (ht : tw ≤ 99) :
    kM l yX4_deed wsX4_deed rm_c_X4_deed_0 D [(cI, FieldType.int)] [.ref z, .int (nI 0), .int (nI o), .int (nI tw)] [(z, .inr (4, [.ref aI, .ref aD, .ref aLy, .ref aCo, .int wf])), (aI, .inl (cI, 8, .inl f)), (aD, .inl (cI, 3 * M n, .inl (q3 K O T n)))] (fun _ : Nat => True) (fun u => some (.int (perf f (nI 0) o (nI tw) o))) (fun u => [(z, .inr (4, [.ref aI, .ref u, .ref aLy, .ref aCo, .int wf])), (aI, .inl (cI, 8, .inl (perf f (nI 0) o (nI tw)))), (u, .inl (cI, 3 * upN M n (M n + 1) n, .inl (q3 (upd K (n * 12 + M n) (nI 0)) (upN O (n * 12 + M n) o) (upd T (n * 12 + M n) (nI tw)) n)))]) := by
  refine kM_of (cc := cX4_deed) (maxL := 4) (ret := (some .int)) (own := RX4) (by decide) rfl rfl (Nat.le_of_ble_eq_true rfl) ?_
  intro p e s m args below meth c A ls Qz hx hb hml hr hts hown hlk hin hQ hA hS hP hD hK hl
  have hl : lv_has ls 4 [(0, .ref z), (1, .int (nI 0)), (2, .int (nI o)), (3, .int (nI tw))] := hl
  have hlen : 3 * M n + 3 = 3 * upN M n (M n + 1) n := by simp only [upN, if_pos]; omega
  refine lv_aload_n hx hb dX4_deed_0 rfl (lv_at hl 0 rfl) ?_
  refine lv_aload_n hx hb dX4_deed_1 rfl (lv_at hl 0 rfl) ?_
  refine va_get (D := D) (ci := 4) (v := .ref aD) (C := RX4) (T := TX4) (N := 5) hx hb hts iu_X4_deed_X4 hown hK hP 0 rfl rfl 1 (by decide) (hts _ (List.mem_of_getElem? (i := 1) rfl)) (fun _ h9 => h9) rfl dX4_deed_2 ?_
  refine lv_iload_n hx hb dX4_deed_5 rfl (lv_at hl 1 rfl) ?_
  refine lv_iload_n hx hb dX4_deed_6 rfl (lv_at hl 2 rfl) ?_
  refine lv_iload_n hx hb dX4_deed_7 rfl (lv_at hl 3 rfl) ?_
  refine kM_callS (As := [.ref aD, .int (nI 0), .int (nI o), .int (nI tw)]) (rest := [.ref z]) (wr := [(z, .inr (4, [.ref aI, .ref aD, .ref aLy, .ref aCo, .int wf])), (aI, .inl (cI, 8, .inl f))]) (w2 := fun u => [(z, .inr (4, [.ref aI, .ref aD, .ref aLy, .ref aCo, .int wf])), (aI, .inl (cI, 8, .inl f)), (aD, .inl (cI, (3 * M n), .inl (q3 K O T n))), (u, .inl (cI, (3 * M n) + 3, .inl (wF (q3 K O T n) (3 * M n) (nI 0) (nI o) (nI tw))))]) (st2 := fun u => [.ref u, .ref z]) (k := 1) (n2 := 39) ⟨hx, hb, hml, hown, hts⟩ (c_X4_with l D cI aD (3 * M n) (q3 K O T n) (nI 0) (nI o) (nI tw) (by omega)) (va_cwS 4 hts gX4_deed_X4_with rfl rfl rfl (by decide +kernel) ⟨Nat.le_of_ble_eq_true rfl, Nat.le_of_ble_eq_true rfl⟩) [0] rfl hK hP hD hS hA [2] [0, 1] rfl (by decide) rfl (by decide) (by decide) [0, 1, 2, 3] (by decide) (fun _ => rfl) (Nat.le_refl _) (Nat.le_refl _) (Nat.le_of_ble_eq_true rfl) (Nat.le_of_ble_eq_true rfl) rfl hl.1 (Nat.le_of_ble_eq_true rfl) (fun _ => rfl) rfl dX4_deed_8 (fun u H locs hu hP hD hS => ?_)
  obtain ⟨q_1, rfl⟩ : ∃ z, z = u := ⟨_, rfl⟩
  have hP : va_P D vwCl [(z, .inr (4, [.ref aI, .ref aD, .ref aLy, .ref aCo, .int wf])), (aI, .inl (cI, 8, .inl f)), (aD, .inl (cI, (3 * M n), .inl (q3 K O T n))), (q_1, .inl (cI, (3 * M n) + 3, .inl (wF (q3 K O T n) (3 * M n) (nI 0) (nI o) (nI tw))))] H := hP
  have hD : va_D A [(z, .inr (4, [.ref aI, .ref aD, .ref aLy, .ref aCo, .int wf])), (aI, .inl (cI, 8, .inl f)), (aD, .inl (cI, (3 * M n), .inl (q3 K O T n))), (q_1, .inl (cI, (3 * M n) + 3, .inl (wF (q3 K O T n) (3 * M n) (nI 0) (nI o) (nI tw))))] := hD
  show W p l e _ s m _ below meth c H locs _ _ _ (F0 m 11 ls [.ref q_1, .ref z])
  refine va_put (D := D) (ci := 4) (v := .ref q_1) (ty := .array .int) (C := RX4) (T := TX4) (N := 5) hx hb hts iu_X4_deed_X4 tyX4 tyX4_ok nmX4 hown hK hP hD hS 0 rfl rfl 1 (by decide) (hts _ (List.mem_of_getElem? (i := 1) rfl)) (fun _ h9 => h9) rfl (by decide +kernel) rfl rfl (Nat.le_of_ble_eq_true rfl) dX4_deed_11 (fun H locs hP hD hS => ?_)
  have hP : va_P D vwCl [(z, .inr (4, [.ref aI, .ref q_1, .ref aLy, .ref aCo, .int wf])), (aI, .inl (cI, 8, .inl f)), (aD, .inl (cI, (3 * M n), .inl (q3 K O T n))), (q_1, .inl (cI, (3 * M n) + 3, .inl (wF (q3 K O T n) (3 * M n) (nI 0) (nI o) (nI tw))))] H := hP
  have hD : va_D A [(z, .inr (4, [.ref aI, .ref q_1, .ref aLy, .ref aCo, .int wf])), (aI, .inl (cI, 8, .inl f)), (aD, .inl (cI, (3 * M n), .inl (q3 K O T n))), (q_1, .inl (cI, (3 * M n) + 3, .inl (wF (q3 K O T n) (3 * M n) (nI 0) (nI o) (nI tw))))] := hD
  refine lv_aload_n hx hb dX4_deed_14 rfl (lv_at hl 0 rfl) ?_
  refine va_get (D := D) (ci := 4) (v := .ref aI) (C := RX4) (T := TX4) (N := 5) hx hb hts iu_X4_deed_X4 hown hK hP 0 rfl rfl 0 (by decide) (hts _ (List.mem_of_getElem? (i := 2) rfl)) (fun _ h9 => h9) rfl dX4_deed_15 ?_
  refine lv_iload_n hx hb dX4_deed_18 rfl (lv_at hl 1 rfl) ?_
  refine lv_iload_n hx hb dX4_deed_19 rfl (lv_at hl 2 rfl) ?_
  refine lv_iload_n hx hb dX4_deed_20 rfl (lv_at hl 3 rfl) ?_
  refine kM_callS (As := [.ref aI, .int (nI 0), .int (nI o), .int (nI tw)]) (rest := []) (wr := [(z, .inr (4, [.ref aI, .ref q_1, .ref aLy, .ref aCo, .int wf])), (aD, .inl (cI, (3 * M n), .inl (q3 K O T n))), (q_1, .inl (cI, (3 * M n) + 3, .inl (wF (q3 K O T n) (3 * M n) (nI 0) (nI o) (nI tw))))]) (w2 := fun _ => [(z, .inr (4, [.ref aI, .ref q_1, .ref aLy, .ref aCo, .int wf])), (aI, .inl (cI, 8, .inl (perf f (nI 0) o (nI tw)))), (aD, .inl (cI, (3 * M n), .inl (q3 K O T n))), (q_1, .inl (cI, (3 * M n) + 3, .inl (wF (q3 K O T n) (3 * M n) (nI 0) (nI o) (nI tw))))]) (st2 := fun _ => []) (k := 1) (n2 := 39) ⟨hx, hb, hml, hown, hts⟩ (c_X4_work_0 l D cI aI f o a tw ho hf ha ht) (va_cwS 4 hts gX4_deed_X4_work rfl rfl rfl (by decide +kernel) ⟨Nat.le_of_ble_eq_true rfl, Nat.le_of_ble_eq_true rfl⟩) [0] rfl hK hP hD hS hA [1] [0, 2, 3] rfl (by decide) rfl (by decide) (by decide) [0, 3, 1, 2] (by decide) (fun _ => rfl) (Nat.le_refl _) (Nat.le_refl _) (Nat.le_of_ble_eq_true rfl) (Nat.le_of_ble_eq_true rfl) rfl hl.1 (Nat.le_of_ble_eq_true rfl) (fun _ => rfl) rfl dX4_deed_21 (fun u H locs hu hP hD hS => ?_)
  have hP : va_P D vwCl ([(z, .inr (4, [.ref aI, .ref q_1, .ref aLy, .ref aCo, .int wf])), (aI, .inl (cI, 8, .inl (perf f (nI 0) o (nI tw)))), (aD, .inl (cI, (3 * M n), .inl (q3 K O T n))), (q_1, .inl (cI, 3 * upN M n (M n + 1) n, .inl (q3 (upd K (n * 12 + M n) (nI 0)) (upN O (n * 12 + M n) o) (upd T (n * 12 + M n) (nI tw)) n)))]) H := kP_at 3 (x := (q_1, .inl (cI, (3 * M n) + 3, .inl (wF (q3 K O T n) (3 * M n) (nI 0) (nI o) (nI tw))))) (y := (q_1, .inl (cI, 3 * upN M n (M n + 1) n, .inl (q3 (upd K (n * 12 + M n) (nI 0)) (upN O (n * 12 + M n) o) (upd T (n * 12 + M n) (nI tw)) n)))) rfl rfl (at_i hlen (fun i hi => q3_note (n := 0) (s := 0) i hi)) hP
  have hD : va_D A ([(z, .inr (4, [.ref aI, .ref q_1, .ref aLy, .ref aCo, .int wf])), (aI, .inl (cI, 8, .inl (perf f (nI 0) o (nI tw)))), (aD, .inl (cI, (3 * M n), .inl (q3 K O T n))), (q_1, .inl (cI, 3 * upN M n (M n + 1) n, .inl (q3 (upd K (n * 12 + M n) (nI 0)) (upN O (n * 12 + M n) o) (upd T (n * 12 + M n) (nI tw)) n)))]) := kD_at 3 (x := (q_1, .inl (cI, (3 * M n) + 3, .inl (wF (q3 K O T n) (3 * M n) (nI 0) (nI o) (nI tw))))) (y := (q_1, .inl (cI, 3 * upN M n (M n + 1) n, .inl (q3 (upd K (n * 12 + M n) (nI 0)) (upN O (n * 12 + M n) o) (upd T (n * 12 + M n) (nI tw)) n)))) rfl rfl rfl hD
  refine lv_aload_n hx hb dX4_deed_24 rfl (lv_at hl 0 rfl) ?_
  refine va_get (D := D) (ci := 4) (v := .ref aI) (C := RX4) (T := TX4) (N := 5) hx hb hts iu_X4_deed_X4 hown hK hP 0 rfl rfl 0 (by decide) (hts _ (List.mem_of_getElem? (i := 2) rfl)) (fun _ h9 => h9) rfl dX4_deed_25 ?_
  refine lv_iload_n hx hb dX4_deed_28 rfl (lv_at hl 2 rfl) ?_
  refine k_iald hx hb hK hP 1 0 (i := o) rfl rfl (by omega) (by decide) dX4_deed_29 ?_
  have hP := hP.sub (ws' := [(z, .inr (4, [.ref aI, .ref q_1, .ref aLy, .ref aCo, .int wf])), (aI, .inl (cI, 8, .inl (perf f (nI 0) o (nI tw)))), (q_1, .inl (cI, 3 * upN M n (M n + 1) n, .inl (q3 (upd K (n * 12 + M n) (nI 0)) (upN O (n * 12 + M n) o) (upd T (n * 12 + M n) (nI tw)) n)))]) [0, 1, 3] rfl
  have hD := hD.sub (ws' := [(z, .inr (4, [.ref aI, .ref q_1, .ref aLy, .ref aCo, .int wf])), (aI, .inl (cI, 8, .inl (perf f (nI 0) o (nI tw)))), (q_1, .inl (cI, 3 * upN M n (M n + 1) n, .inl (q3 (upd K (n * 12 + M n) (nI 0)) (upN O (n * 12 + M n) o) (upd T (n * 12 + M n) (nI tw)) n)))]) [0, 1, 3] (by decide) rfl
  exact kM_iret hx hb hr hlk hQ hP hD hK hS q_1 rfl (Nat.le_of_ble_eq_true rfl) (Nat.le_of_ble_eq_true rfl) (congrArg (fun z => some (Value.int z)) (by rfl)) trivial dX4_deed_30
def rm_c_X4_deed_1 : Room := { frames := 2, cells := 1, slots := 39, locals := 48 }
set_option maxHeartbeats 4000000 in
set_option maxRecDepth 100000 in
theorem c_X4_deed_1 (l : Launch) (D : va_G) (cI : ClassId) (z aI aD aLy aCo : Nat) (wf : Int32) (f K : Nat → Int32) (O : Nat → Nat) (T : Nat → Int32) (M : Nat → Nat) (n : Nat) (o a tw : Nat) (hm : M n < 12) (ho : o < 8) (hf : f o = nI a) (ha : a ≤ 999) (ht : tw ≤ 99) :
    kM l yX4_deed wsX4_deed rm_c_X4_deed_1 D [(cI, FieldType.int)] [.ref z, .int (nI 1), .int (nI o), .int (nI tw)] [(z, .inr (4, [.ref aI, .ref aD, .ref aLy, .ref aCo, .int wf])), (aI, .inl (cI, 8, .inl f)), (aD, .inl (cI, 3 * M n, .inl (q3 K O T n)))] (fun _ : Nat => True) (fun u => some (.int (perf f (nI 1) o (nI tw) o))) (fun u => [(z, .inr (4, [.ref aI, .ref u, .ref aLy, .ref aCo, .int wf])), (aI, .inl (cI, 8, .inl (perf f (nI 1) o (nI tw)))), (u, .inl (cI, 3 * upN M n (M n + 1) n, .inl (q3 (upd K (n * 12 + M n) (nI 1)) (upN O (n * 12 + M n) o) (upd T (n * 12 + M n) (nI tw)) n)))]) := by
  refine kM_of (cc := cX4_deed) (maxL := 4) (ret := (some .int)) (own := RX4) (by decide) rfl rfl (Nat.le_of_ble_eq_true rfl) ?_
  intro p e s m args below meth c A ls Qz hx hb hml hr hts hown hlk hin hQ hA hS hP hD hK hl
  have hl : lv_has ls 4 [(0, .ref z), (1, .int (nI 1)), (2, .int (nI o)), (3, .int (nI tw))] := hl
  have hlen : 3 * M n + 3 = 3 * upN M n (M n + 1) n := by simp only [upN, if_pos]; omega
  refine lv_aload_n hx hb dX4_deed_0 rfl (lv_at hl 0 rfl) ?_
  refine lv_aload_n hx hb dX4_deed_1 rfl (lv_at hl 0 rfl) ?_
  refine va_get (D := D) (ci := 4) (v := .ref aD) (C := RX4) (T := TX4) (N := 5) hx hb hts iu_X4_deed_X4 hown hK hP 0 rfl rfl 1 (by decide) (hts _ (List.mem_of_getElem? (i := 1) rfl)) (fun _ h9 => h9) rfl dX4_deed_2 ?_
  refine lv_iload_n hx hb dX4_deed_5 rfl (lv_at hl 1 rfl) ?_
  refine lv_iload_n hx hb dX4_deed_6 rfl (lv_at hl 2 rfl) ?_
  refine lv_iload_n hx hb dX4_deed_7 rfl (lv_at hl 3 rfl) ?_
  refine kM_callS (As := [.ref aD, .int (nI 1), .int (nI o), .int (nI tw)]) (rest := [.ref z]) (wr := [(z, .inr (4, [.ref aI, .ref aD, .ref aLy, .ref aCo, .int wf])), (aI, .inl (cI, 8, .inl f))]) (w2 := fun u => [(z, .inr (4, [.ref aI, .ref aD, .ref aLy, .ref aCo, .int wf])), (aI, .inl (cI, 8, .inl f)), (aD, .inl (cI, (3 * M n), .inl (q3 K O T n))), (u, .inl (cI, (3 * M n) + 3, .inl (wF (q3 K O T n) (3 * M n) (nI 1) (nI o) (nI tw))))]) (st2 := fun u => [.ref u, .ref z]) (k := 1) (n2 := 39) ⟨hx, hb, hml, hown, hts⟩ (c_X4_with l D cI aD (3 * M n) (q3 K O T n) (nI 1) (nI o) (nI tw) (by omega)) (va_cwS 4 hts gX4_deed_X4_with rfl rfl rfl (by decide +kernel) ⟨Nat.le_of_ble_eq_true rfl, Nat.le_of_ble_eq_true rfl⟩) [0] rfl hK hP hD hS hA [2] [0, 1] rfl (by decide) rfl (by decide) (by decide) [0, 1, 2, 3] (by decide) (fun _ => rfl) (Nat.le_refl _) (Nat.le_refl _) (Nat.le_of_ble_eq_true rfl) (Nat.le_of_ble_eq_true rfl) rfl hl.1 (Nat.le_of_ble_eq_true rfl) (fun _ => rfl) rfl dX4_deed_8 (fun u H locs hu hP hD hS => ?_)
  obtain ⟨q_1, rfl⟩ : ∃ z, z = u := ⟨_, rfl⟩
  have hP : va_P D vwCl [(z, .inr (4, [.ref aI, .ref aD, .ref aLy, .ref aCo, .int wf])), (aI, .inl (cI, 8, .inl f)), (aD, .inl (cI, (3 * M n), .inl (q3 K O T n))), (q_1, .inl (cI, (3 * M n) + 3, .inl (wF (q3 K O T n) (3 * M n) (nI 1) (nI o) (nI tw))))] H := hP
  have hD : va_D A [(z, .inr (4, [.ref aI, .ref aD, .ref aLy, .ref aCo, .int wf])), (aI, .inl (cI, 8, .inl f)), (aD, .inl (cI, (3 * M n), .inl (q3 K O T n))), (q_1, .inl (cI, (3 * M n) + 3, .inl (wF (q3 K O T n) (3 * M n) (nI 1) (nI o) (nI tw))))] := hD
  show W p l e _ s m _ below meth c H locs _ _ _ (F0 m 11 ls [.ref q_1, .ref z])
  refine va_put (D := D) (ci := 4) (v := .ref q_1) (ty := .array .int) (C := RX4) (T := TX4) (N := 5) hx hb hts iu_X4_deed_X4 tyX4 tyX4_ok nmX4 hown hK hP hD hS 0 rfl rfl 1 (by decide) (hts _ (List.mem_of_getElem? (i := 1) rfl)) (fun _ h9 => h9) rfl (by decide +kernel) rfl rfl (Nat.le_of_ble_eq_true rfl) dX4_deed_11 (fun H locs hP hD hS => ?_)
  have hP : va_P D vwCl [(z, .inr (4, [.ref aI, .ref q_1, .ref aLy, .ref aCo, .int wf])), (aI, .inl (cI, 8, .inl f)), (aD, .inl (cI, (3 * M n), .inl (q3 K O T n))), (q_1, .inl (cI, (3 * M n) + 3, .inl (wF (q3 K O T n) (3 * M n) (nI 1) (nI o) (nI tw))))] H := hP
  have hD : va_D A [(z, .inr (4, [.ref aI, .ref q_1, .ref aLy, .ref aCo, .int wf])), (aI, .inl (cI, 8, .inl f)), (aD, .inl (cI, (3 * M n), .inl (q3 K O T n))), (q_1, .inl (cI, (3 * M n) + 3, .inl (wF (q3 K O T n) (3 * M n) (nI 1) (nI o) (nI tw))))] := hD
  refine lv_aload_n hx hb dX4_deed_14 rfl (lv_at hl 0 rfl) ?_
  refine va_get (D := D) (ci := 4) (v := .ref aI) (C := RX4) (T := TX4) (N := 5) hx hb hts iu_X4_deed_X4 hown hK hP 0 rfl rfl 0 (by decide) (hts _ (List.mem_of_getElem? (i := 2) rfl)) (fun _ h9 => h9) rfl dX4_deed_15 ?_
  refine lv_iload_n hx hb dX4_deed_18 rfl (lv_at hl 1 rfl) ?_
  refine lv_iload_n hx hb dX4_deed_19 rfl (lv_at hl 2 rfl) ?_
  refine lv_iload_n hx hb dX4_deed_20 rfl (lv_at hl 3 rfl) ?_
  refine kM_callS (As := [.ref aI, .int (nI 1), .int (nI o), .int (nI tw)]) (rest := []) (wr := [(z, .inr (4, [.ref aI, .ref q_1, .ref aLy, .ref aCo, .int wf])), (aD, .inl (cI, (3 * M n), .inl (q3 K O T n))), (q_1, .inl (cI, (3 * M n) + 3, .inl (wF (q3 K O T n) (3 * M n) (nI 1) (nI o) (nI tw))))]) (w2 := fun _ => [(z, .inr (4, [.ref aI, .ref q_1, .ref aLy, .ref aCo, .int wf])), (aI, .inl (cI, 8, .inl (perf f (nI 1) o (nI tw)))), (aD, .inl (cI, (3 * M n), .inl (q3 K O T n))), (q_1, .inl (cI, (3 * M n) + 3, .inl (wF (q3 K O T n) (3 * M n) (nI 1) (nI o) (nI tw))))]) (st2 := fun _ => []) (k := 1) (n2 := 39) ⟨hx, hb, hml, hown, hts⟩ (c_X4_work_1 l D cI aI f o a tw ho hf ha ht) (va_cwS 4 hts gX4_deed_X4_work rfl rfl rfl (by decide +kernel) ⟨Nat.le_of_ble_eq_true rfl, Nat.le_of_ble_eq_true rfl⟩) [0] rfl hK hP hD hS hA [1] [0, 2, 3] rfl (by decide) rfl (by decide) (by decide) [0, 3, 1, 2] (by decide) (fun _ => rfl) (Nat.le_refl _) (Nat.le_refl _) (Nat.le_of_ble_eq_true rfl) (Nat.le_of_ble_eq_true rfl) rfl hl.1 (Nat.le_of_ble_eq_true rfl) (fun _ => rfl) rfl dX4_deed_21 (fun u H locs hu hP hD hS => ?_)
  have hP : va_P D vwCl ([(z, .inr (4, [.ref aI, .ref q_1, .ref aLy, .ref aCo, .int wf])), (aI, .inl (cI, 8, .inl (perf f (nI 1) o (nI tw)))), (aD, .inl (cI, (3 * M n), .inl (q3 K O T n))), (q_1, .inl (cI, 3 * upN M n (M n + 1) n, .inl (q3 (upd K (n * 12 + M n) (nI 1)) (upN O (n * 12 + M n) o) (upd T (n * 12 + M n) (nI tw)) n)))]) H := kP_at 3 (x := (q_1, .inl (cI, (3 * M n) + 3, .inl (wF (q3 K O T n) (3 * M n) (nI 1) (nI o) (nI tw))))) (y := (q_1, .inl (cI, 3 * upN M n (M n + 1) n, .inl (q3 (upd K (n * 12 + M n) (nI 1)) (upN O (n * 12 + M n) o) (upd T (n * 12 + M n) (nI tw)) n)))) rfl rfl (at_i hlen (fun i hi => q3_note (n := 0) (s := 0) i hi)) hP
  have hD : va_D A ([(z, .inr (4, [.ref aI, .ref q_1, .ref aLy, .ref aCo, .int wf])), (aI, .inl (cI, 8, .inl (perf f (nI 1) o (nI tw)))), (aD, .inl (cI, (3 * M n), .inl (q3 K O T n))), (q_1, .inl (cI, 3 * upN M n (M n + 1) n, .inl (q3 (upd K (n * 12 + M n) (nI 1)) (upN O (n * 12 + M n) o) (upd T (n * 12 + M n) (nI tw)) n)))]) := kD_at 3 (x := (q_1, .inl (cI, (3 * M n) + 3, .inl (wF (q3 K O T n) (3 * M n) (nI 1) (nI o) (nI tw))))) (y := (q_1, .inl (cI, 3 * upN M n (M n + 1) n, .inl (q3 (upd K (n * 12 + M n) (nI 1)) (upN O (n * 12 + M n) o) (upd T (n * 12 + M n) (nI tw)) n)))) rfl rfl rfl hD
  refine lv_aload_n hx hb dX4_deed_24 rfl (lv_at hl 0 rfl) ?_
  refine va_get (D := D) (ci := 4) (v := .ref aI) (C := RX4) (T := TX4) (N := 5) hx hb hts iu_X4_deed_X4 hown hK hP 0 rfl rfl 0 (by decide) (hts _ (List.mem_of_getElem? (i := 2) rfl)) (fun _ h9 => h9) rfl dX4_deed_25 ?_
  refine lv_iload_n hx hb dX4_deed_28 rfl (lv_at hl 2 rfl) ?_
  refine k_iald hx hb hK hP 1 0 (i := o) rfl rfl (by omega) (by decide) dX4_deed_29 ?_
  have hP := hP.sub (ws' := [(z, .inr (4, [.ref aI, .ref q_1, .ref aLy, .ref aCo, .int wf])), (aI, .inl (cI, 8, .inl (perf f (nI 1) o (nI tw)))), (q_1, .inl (cI, 3 * upN M n (M n + 1) n, .inl (q3 (upd K (n * 12 + M n) (nI 1)) (upN O (n * 12 + M n) o) (upd T (n * 12 + M n) (nI tw)) n)))]) [0, 1, 3] rfl
  have hD := hD.sub (ws' := [(z, .inr (4, [.ref aI, .ref q_1, .ref aLy, .ref aCo, .int wf])), (aI, .inl (cI, 8, .inl (perf f (nI 1) o (nI tw)))), (q_1, .inl (cI, 3 * upN M n (M n + 1) n, .inl (q3 (upd K (n * 12 + M n) (nI 1)) (upN O (n * 12 + M n) o) (upd T (n * 12 + M n) (nI tw)) n)))]) [0, 1, 3] (by decide) rfl
  exact kM_iret hx hb hr hlk hQ hP hD hK hS q_1 rfl (Nat.le_of_ble_eq_true rfl) (Nat.le_of_ble_eq_true rfl) (congrArg (fun z => some (Value.int z)) (by rfl)) trivial dX4_deed_30
def rm_c_X4_deed_7 : Room := { frames := 2, cells := 1, slots := 39, locals := 48 }
set_option maxHeartbeats 4000000 in
set_option maxRecDepth 100000 in
theorem c_X4_deed_7 (l : Launch) (D : va_G) (cI : ClassId) (z aI aD aLy aCo : Nat) (wf : Int32) (f K : Nat → Int32) (O : Nat → Nat) (T : Nat → Int32) (M : Nat → Nat) (n : Nat) (a : Nat) (hm : M n < 12) (hf : f 7 = nI a) (ha : a ≤ 999) :
    kM l yX4_deed wsX4_deed rm_c_X4_deed_7 D [(cI, FieldType.int)] [.ref z, .int (nI 2), .int (nI 7), .int (nI 0)] [(z, .inr (4, [.ref aI, .ref aD, .ref aLy, .ref aCo, .int wf])), (aI, .inl (cI, 8, .inl f)), (aD, .inl (cI, 3 * M n, .inl (q3 K O T n)))] (fun _ : Nat => True) (fun u => some (.int (perf f (nI 2) 7 (nI 0) 7))) (fun u => [(z, .inr (4, [.ref aI, .ref u, .ref aLy, .ref aCo, .int wf])), (aI, .inl (cI, 8, .inl (perf f (nI 2) 7 (nI 0)))), (u, .inl (cI, 3 * upN M n (M n + 1) n, .inl (q3 (upd K (n * 12 + M n) (nI 2)) (upN O (n * 12 + M n) 7) (upd T (n * 12 + M n) (nI 0)) n)))]) := by
  refine kM_of (cc := cX4_deed) (maxL := 4) (ret := (some .int)) (own := RX4) (by decide) rfl rfl (Nat.le_of_ble_eq_true rfl) ?_
  intro p e s m args below meth c A ls Qz hx hb hml hr hts hown hlk hin hQ hA hS hP hD hK hl
  have hl : lv_has ls 4 [(0, .ref z), (1, .int (nI 2)), (2, .int (nI 7)), (3, .int (nI 0))] := hl
  have hlen : 3 * M n + 3 = 3 * upN M n (M n + 1) n := by simp only [upN, if_pos]; omega
  refine lv_aload_n hx hb dX4_deed_0 rfl (lv_at hl 0 rfl) ?_
  refine lv_aload_n hx hb dX4_deed_1 rfl (lv_at hl 0 rfl) ?_
  refine va_get (D := D) (ci := 4) (v := .ref aD) (C := RX4) (T := TX4) (N := 5) hx hb hts iu_X4_deed_X4 hown hK hP 0 rfl rfl 1 (by decide) (hts _ (List.mem_of_getElem? (i := 1) rfl)) (fun _ h9 => h9) rfl dX4_deed_2 ?_
  refine lv_iload_n hx hb dX4_deed_5 rfl (lv_at hl 1 rfl) ?_
  refine lv_iload_n hx hb dX4_deed_6 rfl (lv_at hl 2 rfl) ?_
  refine lv_iload_n hx hb dX4_deed_7 rfl (lv_at hl 3 rfl) ?_
  refine kM_callS (As := [.ref aD, .int (nI 2), .int (nI 7), .int (nI 0)]) (rest := [.ref z]) (wr := [(z, .inr (4, [.ref aI, .ref aD, .ref aLy, .ref aCo, .int wf])), (aI, .inl (cI, 8, .inl f))]) (w2 := fun u => [(z, .inr (4, [.ref aI, .ref aD, .ref aLy, .ref aCo, .int wf])), (aI, .inl (cI, 8, .inl f)), (aD, .inl (cI, (3 * M n), .inl (q3 K O T n))), (u, .inl (cI, (3 * M n) + 3, .inl (wF (q3 K O T n) (3 * M n) (nI 2) (nI 7) (nI 0))))]) (st2 := fun u => [.ref u, .ref z]) (k := 1) (n2 := 39) ⟨hx, hb, hml, hown, hts⟩ (c_X4_with l D cI aD (3 * M n) (q3 K O T n) (nI 2) (nI 7) (nI 0) (by omega)) (va_cwS 4 hts gX4_deed_X4_with rfl rfl rfl (by decide +kernel) ⟨Nat.le_of_ble_eq_true rfl, Nat.le_of_ble_eq_true rfl⟩) [0] rfl hK hP hD hS hA [2] [0, 1] rfl (by decide) rfl (by decide) (by decide) [0, 1, 2, 3] (by decide) (fun _ => rfl) (Nat.le_refl _) (Nat.le_refl _) (Nat.le_of_ble_eq_true rfl) (Nat.le_of_ble_eq_true rfl) rfl hl.1 (Nat.le_of_ble_eq_true rfl) (fun _ => rfl) rfl dX4_deed_8 (fun u H locs hu hP hD hS => ?_)
  obtain ⟨q_1, rfl⟩ : ∃ z, z = u := ⟨_, rfl⟩
  have hP : va_P D vwCl [(z, .inr (4, [.ref aI, .ref aD, .ref aLy, .ref aCo, .int wf])), (aI, .inl (cI, 8, .inl f)), (aD, .inl (cI, (3 * M n), .inl (q3 K O T n))), (q_1, .inl (cI, (3 * M n) + 3, .inl (wF (q3 K O T n) (3 * M n) (nI 2) (nI 7) (nI 0))))] H := hP
  have hD : va_D A [(z, .inr (4, [.ref aI, .ref aD, .ref aLy, .ref aCo, .int wf])), (aI, .inl (cI, 8, .inl f)), (aD, .inl (cI, (3 * M n), .inl (q3 K O T n))), (q_1, .inl (cI, (3 * M n) + 3, .inl (wF (q3 K O T n) (3 * M n) (nI 2) (nI 7) (nI 0))))] := hD
  show W p l e _ s m _ below meth c H locs _ _ _ (F0 m 11 ls [.ref q_1, .ref z])
  refine va_put (D := D) (ci := 4) (v := .ref q_1) (ty := .array .int) (C := RX4) (T := TX4) (N := 5) hx hb hts iu_X4_deed_X4 tyX4 tyX4_ok nmX4 hown hK hP hD hS 0 rfl rfl 1 (by decide) (hts _ (List.mem_of_getElem? (i := 1) rfl)) (fun _ h9 => h9) rfl (by decide +kernel) rfl rfl (Nat.le_of_ble_eq_true rfl) dX4_deed_11 (fun H locs hP hD hS => ?_)
  have hP : va_P D vwCl [(z, .inr (4, [.ref aI, .ref q_1, .ref aLy, .ref aCo, .int wf])), (aI, .inl (cI, 8, .inl f)), (aD, .inl (cI, (3 * M n), .inl (q3 K O T n))), (q_1, .inl (cI, (3 * M n) + 3, .inl (wF (q3 K O T n) (3 * M n) (nI 2) (nI 7) (nI 0))))] H := hP
  have hD : va_D A [(z, .inr (4, [.ref aI, .ref q_1, .ref aLy, .ref aCo, .int wf])), (aI, .inl (cI, 8, .inl f)), (aD, .inl (cI, (3 * M n), .inl (q3 K O T n))), (q_1, .inl (cI, (3 * M n) + 3, .inl (wF (q3 K O T n) (3 * M n) (nI 2) (nI 7) (nI 0))))] := hD
  refine lv_aload_n hx hb dX4_deed_14 rfl (lv_at hl 0 rfl) ?_
  refine va_get (D := D) (ci := 4) (v := .ref aI) (C := RX4) (T := TX4) (N := 5) hx hb hts iu_X4_deed_X4 hown hK hP 0 rfl rfl 0 (by decide) (hts _ (List.mem_of_getElem? (i := 2) rfl)) (fun _ h9 => h9) rfl dX4_deed_15 ?_
  refine lv_iload_n hx hb dX4_deed_18 rfl (lv_at hl 1 rfl) ?_
  refine lv_iload_n hx hb dX4_deed_19 rfl (lv_at hl 2 rfl) ?_
  refine lv_iload_n hx hb dX4_deed_20 rfl (lv_at hl 3 rfl) ?_
  refine kM_callS (As := [.ref aI, .int (nI 2), .int (nI 7), .int (nI 0)]) (rest := []) (wr := [(z, .inr (4, [.ref aI, .ref q_1, .ref aLy, .ref aCo, .int wf])), (aD, .inl (cI, (3 * M n), .inl (q3 K O T n))), (q_1, .inl (cI, (3 * M n) + 3, .inl (wF (q3 K O T n) (3 * M n) (nI 2) (nI 7) (nI 0))))]) (w2 := fun _ => [(z, .inr (4, [.ref aI, .ref q_1, .ref aLy, .ref aCo, .int wf])), (aI, .inl (cI, 8, .inl (perf f (nI 2) 7 (nI 0)))), (aD, .inl (cI, (3 * M n), .inl (q3 K O T n))), (q_1, .inl (cI, (3 * M n) + 3, .inl (wF (q3 K O T n) (3 * M n) (nI 2) (nI 7) (nI 0))))]) (st2 := fun _ => []) (k := 1) (n2 := 39) ⟨hx, hb, hml, hown, hts⟩ (c_X4_work_7 l D cI aI f a hf ha) (va_cwS 4 hts gX4_deed_X4_work rfl rfl rfl (by decide +kernel) ⟨Nat.le_of_ble_eq_true rfl, Nat.le_of_ble_eq_true rfl⟩) [0] rfl hK hP hD hS hA [1] [0, 2, 3] rfl (by decide) rfl (by decide) (by decide) [0, 3, 1, 2] (by decide) (fun _ => rfl) (Nat.le_refl _) (Nat.le_refl _) (Nat.le_of_ble_eq_true rfl) (Nat.le_of_ble_eq_true rfl) rfl hl.1 (Nat.le_of_ble_eq_true rfl) (fun _ => rfl) rfl dX4_deed_21 (fun u H locs hu hP hD hS => ?_)
  have hP : va_P D vwCl ([(z, .inr (4, [.ref aI, .ref q_1, .ref aLy, .ref aCo, .int wf])), (aI, .inl (cI, 8, .inl (perf f (nI 2) 7 (nI 0)))), (aD, .inl (cI, (3 * M n), .inl (q3 K O T n))), (q_1, .inl (cI, 3 * upN M n (M n + 1) n, .inl (q3 (upd K (n * 12 + M n) (nI 2)) (upN O (n * 12 + M n) 7) (upd T (n * 12 + M n) (nI 0)) n)))]) H := kP_at 3 (x := (q_1, .inl (cI, (3 * M n) + 3, .inl (wF (q3 K O T n) (3 * M n) (nI 2) (nI 7) (nI 0))))) (y := (q_1, .inl (cI, 3 * upN M n (M n + 1) n, .inl (q3 (upd K (n * 12 + M n) (nI 2)) (upN O (n * 12 + M n) 7) (upd T (n * 12 + M n) (nI 0)) n)))) rfl rfl (at_i hlen (fun i hi => q3_note (n := 0) (s := 0) i hi)) hP
  have hD : va_D A ([(z, .inr (4, [.ref aI, .ref q_1, .ref aLy, .ref aCo, .int wf])), (aI, .inl (cI, 8, .inl (perf f (nI 2) 7 (nI 0)))), (aD, .inl (cI, (3 * M n), .inl (q3 K O T n))), (q_1, .inl (cI, 3 * upN M n (M n + 1) n, .inl (q3 (upd K (n * 12 + M n) (nI 2)) (upN O (n * 12 + M n) 7) (upd T (n * 12 + M n) (nI 0)) n)))]) := kD_at 3 (x := (q_1, .inl (cI, (3 * M n) + 3, .inl (wF (q3 K O T n) (3 * M n) (nI 2) (nI 7) (nI 0))))) (y := (q_1, .inl (cI, 3 * upN M n (M n + 1) n, .inl (q3 (upd K (n * 12 + M n) (nI 2)) (upN O (n * 12 + M n) 7) (upd T (n * 12 + M n) (nI 0)) n)))) rfl rfl rfl hD
  refine lv_aload_n hx hb dX4_deed_24 rfl (lv_at hl 0 rfl) ?_
  refine va_get (D := D) (ci := 4) (v := .ref aI) (C := RX4) (T := TX4) (N := 5) hx hb hts iu_X4_deed_X4 hown hK hP 0 rfl rfl 0 (by decide) (hts _ (List.mem_of_getElem? (i := 2) rfl)) (fun _ h9 => h9) rfl dX4_deed_25 ?_
  refine lv_iload_n hx hb dX4_deed_28 rfl (lv_at hl 2 rfl) ?_
  refine k_iald hx hb hK hP 1 0 (i := 7) rfl rfl (by decide) (by decide) dX4_deed_29 ?_
  have hP := hP.sub (ws' := [(z, .inr (4, [.ref aI, .ref q_1, .ref aLy, .ref aCo, .int wf])), (aI, .inl (cI, 8, .inl (perf f (nI 2) 7 (nI 0)))), (q_1, .inl (cI, 3 * upN M n (M n + 1) n, .inl (q3 (upd K (n * 12 + M n) (nI 2)) (upN O (n * 12 + M n) 7) (upd T (n * 12 + M n) (nI 0)) n)))]) [0, 1, 3] rfl
  have hD := hD.sub (ws' := [(z, .inr (4, [.ref aI, .ref q_1, .ref aLy, .ref aCo, .int wf])), (aI, .inl (cI, 8, .inl (perf f (nI 2) 7 (nI 0)))), (q_1, .inl (cI, 3 * upN M n (M n + 1) n, .inl (q3 (upd K (n * 12 + M n) (nI 2)) (upN O (n * 12 + M n) 7) (upd T (n * 12 + M n) (nI 0)) n)))]) [0, 1, 3] (by decide) rfl
  exact kM_iret hx hb hr hlk hQ hP hD hK hS q_1 rfl (Nat.le_of_ble_eq_true rfl) (Nat.le_of_ble_eq_true rfl) (congrArg (fun z => some (Value.int z)) (by rfl)) trivial dX4_deed_30
def rm_c_X4_deed_2 : Room := { frames := 2, cells := 1, slots := 39, locals := 48 }
set_option maxHeartbeats 4000000 in
set_option maxRecDepth 100000 in
theorem c_X4_deed_2 (l : Launch) (D : va_G) (cI : ClassId) (z aI aD aLy aCo : Nat) (wf : Int32) (f K : Nat → Int32) (O : Nat → Nat) (T : Nat → Int32) (M : Nat → Nat) (n : Nat) (o a b : Nat) (hm : M n < 12) (ho : o < 7) (hf : f o = nI a) (hf2 : f (o + 1) = nI b) (ha : a ≤ 999) (hb_ : b ≤ 999) :
    kM l yX4_deed wsX4_deed rm_c_X4_deed_2 D [(cI, FieldType.int)] [.ref z, .int (nI 2), .int (nI o), .int (nI 0)] [(z, .inr (4, [.ref aI, .ref aD, .ref aLy, .ref aCo, .int wf])), (aI, .inl (cI, 8, .inl f)), (aD, .inl (cI, 3 * M n, .inl (q3 K O T n)))] (fun _ : Nat => True) (fun u => some (.int (perf f (nI 2) o (nI 0) o))) (fun u => [(z, .inr (4, [.ref aI, .ref u, .ref aLy, .ref aCo, .int wf])), (aI, .inl (cI, 8, .inl (perf f (nI 2) o (nI 0)))), (u, .inl (cI, 3 * upN M n (M n + 1) n, .inl (q3 (upd K (n * 12 + M n) (nI 2)) (upN O (n * 12 + M n) o) (upd T (n * 12 + M n) (nI 0)) n)))]) := by
  refine kM_of (cc := cX4_deed) (maxL := 4) (ret := (some .int)) (own := RX4) (by decide) rfl rfl (Nat.le_of_ble_eq_true rfl) ?_
  intro p e s m args below meth c A ls Qz hx hb hml hr hts hown hlk hin hQ hA hS hP hD hK hl
  have hl : lv_has ls 4 [(0, .ref z), (1, .int (nI 2)), (2, .int (nI o)), (3, .int (nI 0))] := hl
  have hlen : 3 * M n + 3 = 3 * upN M n (M n + 1) n := by simp only [upN, if_pos]; omega
  refine lv_aload_n hx hb dX4_deed_0 rfl (lv_at hl 0 rfl) ?_
  refine lv_aload_n hx hb dX4_deed_1 rfl (lv_at hl 0 rfl) ?_
  refine va_get (D := D) (ci := 4) (v := .ref aD) (C := RX4) (T := TX4) (N := 5) hx hb hts iu_X4_deed_X4 hown hK hP 0 rfl rfl 1 (by decide) (hts _ (List.mem_of_getElem? (i := 1) rfl)) (fun _ h9 => h9) rfl dX4_deed_2 ?_
  refine lv_iload_n hx hb dX4_deed_5 rfl (lv_at hl 1 rfl) ?_
  refine lv_iload_n hx hb dX4_deed_6 rfl (lv_at hl 2 rfl) ?_
  refine lv_iload_n hx hb dX4_deed_7 rfl (lv_at hl 3 rfl) ?_
  refine kM_callS (As := [.ref aD, .int (nI 2), .int (nI o), .int (nI 0)]) (rest := [.ref z]) (wr := [(z, .inr (4, [.ref aI, .ref aD, .ref aLy, .ref aCo, .int wf])), (aI, .inl (cI, 8, .inl f))]) (w2 := fun u => [(z, .inr (4, [.ref aI, .ref aD, .ref aLy, .ref aCo, .int wf])), (aI, .inl (cI, 8, .inl f)), (aD, .inl (cI, (3 * M n), .inl (q3 K O T n))), (u, .inl (cI, (3 * M n) + 3, .inl (wF (q3 K O T n) (3 * M n) (nI 2) (nI o) (nI 0))))]) (st2 := fun u => [.ref u, .ref z]) (k := 1) (n2 := 39) ⟨hx, hb, hml, hown, hts⟩ (c_X4_with l D cI aD (3 * M n) (q3 K O T n) (nI 2) (nI o) (nI 0) (by omega)) (va_cwS 4 hts gX4_deed_X4_with rfl rfl rfl (by decide +kernel) ⟨Nat.le_of_ble_eq_true rfl, Nat.le_of_ble_eq_true rfl⟩) [0] rfl hK hP hD hS hA [2] [0, 1] rfl (by decide) rfl (by decide) (by decide) [0, 1, 2, 3] (by decide) (fun _ => rfl) (Nat.le_refl _) (Nat.le_refl _) (Nat.le_of_ble_eq_true rfl) (Nat.le_of_ble_eq_true rfl) rfl hl.1 (Nat.le_of_ble_eq_true rfl) (fun _ => rfl) rfl dX4_deed_8 (fun u H locs hu hP hD hS => ?_)
  obtain ⟨q_1, rfl⟩ : ∃ z, z = u := ⟨_, rfl⟩
  have hP : va_P D vwCl [(z, .inr (4, [.ref aI, .ref aD, .ref aLy, .ref aCo, .int wf])), (aI, .inl (cI, 8, .inl f)), (aD, .inl (cI, (3 * M n), .inl (q3 K O T n))), (q_1, .inl (cI, (3 * M n) + 3, .inl (wF (q3 K O T n) (3 * M n) (nI 2) (nI o) (nI 0))))] H := hP
  have hD : va_D A [(z, .inr (4, [.ref aI, .ref aD, .ref aLy, .ref aCo, .int wf])), (aI, .inl (cI, 8, .inl f)), (aD, .inl (cI, (3 * M n), .inl (q3 K O T n))), (q_1, .inl (cI, (3 * M n) + 3, .inl (wF (q3 K O T n) (3 * M n) (nI 2) (nI o) (nI 0))))] := hD
  show W p l e _ s m _ below meth c H locs _ _ _ (F0 m 11 ls [.ref q_1, .ref z])
  refine va_put (D := D) (ci := 4) (v := .ref q_1) (ty := .array .int) (C := RX4) (T := TX4) (N := 5) hx hb hts iu_X4_deed_X4 tyX4 tyX4_ok nmX4 hown hK hP hD hS 0 rfl rfl 1 (by decide) (hts _ (List.mem_of_getElem? (i := 1) rfl)) (fun _ h9 => h9) rfl (by decide +kernel) rfl rfl (Nat.le_of_ble_eq_true rfl) dX4_deed_11 (fun H locs hP hD hS => ?_)
  have hP : va_P D vwCl [(z, .inr (4, [.ref aI, .ref q_1, .ref aLy, .ref aCo, .int wf])), (aI, .inl (cI, 8, .inl f)), (aD, .inl (cI, (3 * M n), .inl (q3 K O T n))), (q_1, .inl (cI, (3 * M n) + 3, .inl (wF (q3 K O T n) (3 * M n) (nI 2) (nI o) (nI 0))))] H := hP
  have hD : va_D A [(z, .inr (4, [.ref aI, .ref q_1, .ref aLy, .ref aCo, .int wf])), (aI, .inl (cI, 8, .inl f)), (aD, .inl (cI, (3 * M n), .inl (q3 K O T n))), (q_1, .inl (cI, (3 * M n) + 3, .inl (wF (q3 K O T n) (3 * M n) (nI 2) (nI o) (nI 0))))] := hD
  refine lv_aload_n hx hb dX4_deed_14 rfl (lv_at hl 0 rfl) ?_
  refine va_get (D := D) (ci := 4) (v := .ref aI) (C := RX4) (T := TX4) (N := 5) hx hb hts iu_X4_deed_X4 hown hK hP 0 rfl rfl 0 (by decide) (hts _ (List.mem_of_getElem? (i := 2) rfl)) (fun _ h9 => h9) rfl dX4_deed_15 ?_
  refine lv_iload_n hx hb dX4_deed_18 rfl (lv_at hl 1 rfl) ?_
  refine lv_iload_n hx hb dX4_deed_19 rfl (lv_at hl 2 rfl) ?_
  refine lv_iload_n hx hb dX4_deed_20 rfl (lv_at hl 3 rfl) ?_
  refine kM_callS (As := [.ref aI, .int (nI 2), .int (nI o), .int (nI 0)]) (rest := []) (wr := [(z, .inr (4, [.ref aI, .ref q_1, .ref aLy, .ref aCo, .int wf])), (aD, .inl (cI, (3 * M n), .inl (q3 K O T n))), (q_1, .inl (cI, (3 * M n) + 3, .inl (wF (q3 K O T n) (3 * M n) (nI 2) (nI o) (nI 0))))]) (w2 := fun _ => [(z, .inr (4, [.ref aI, .ref q_1, .ref aLy, .ref aCo, .int wf])), (aI, .inl (cI, 8, .inl (perf f (nI 2) o (nI 0)))), (aD, .inl (cI, (3 * M n), .inl (q3 K O T n))), (q_1, .inl (cI, (3 * M n) + 3, .inl (wF (q3 K O T n) (3 * M n) (nI 2) (nI o) (nI 0))))]) (st2 := fun _ => []) (k := 1) (n2 := 39) ⟨hx, hb, hml, hown, hts⟩ (c_X4_work_2 l D cI aI f o a b ho hf hf2 ha hb_) (va_cwS 4 hts gX4_deed_X4_work rfl rfl rfl (by decide +kernel) ⟨Nat.le_of_ble_eq_true rfl, Nat.le_of_ble_eq_true rfl⟩) [0] rfl hK hP hD hS hA [1] [0, 2, 3] rfl (by decide) rfl (by decide) (by decide) [0, 3, 1, 2] (by decide) (fun _ => rfl) (Nat.le_refl _) (Nat.le_refl _) (Nat.le_of_ble_eq_true rfl) (Nat.le_of_ble_eq_true rfl) rfl hl.1 (Nat.le_of_ble_eq_true rfl) (fun _ => rfl) rfl dX4_deed_21 (fun u H locs hu hP hD hS => ?_)
  have hP : va_P D vwCl ([(z, .inr (4, [.ref aI, .ref q_1, .ref aLy, .ref aCo, .int wf])), (aI, .inl (cI, 8, .inl (perf f (nI 2) o (nI 0)))), (aD, .inl (cI, (3 * M n), .inl (q3 K O T n))), (q_1, .inl (cI, 3 * upN M n (M n + 1) n, .inl (q3 (upd K (n * 12 + M n) (nI 2)) (upN O (n * 12 + M n) o) (upd T (n * 12 + M n) (nI 0)) n)))]) H := kP_at 3 (x := (q_1, .inl (cI, (3 * M n) + 3, .inl (wF (q3 K O T n) (3 * M n) (nI 2) (nI o) (nI 0))))) (y := (q_1, .inl (cI, 3 * upN M n (M n + 1) n, .inl (q3 (upd K (n * 12 + M n) (nI 2)) (upN O (n * 12 + M n) o) (upd T (n * 12 + M n) (nI 0)) n)))) rfl rfl (at_i hlen (fun i hi => q3_note (n := 0) (s := 0) i hi)) hP
  have hD : va_D A ([(z, .inr (4, [.ref aI, .ref q_1, .ref aLy, .ref aCo, .int wf])), (aI, .inl (cI, 8, .inl (perf f (nI 2) o (nI 0)))), (aD, .inl (cI, (3 * M n), .inl (q3 K O T n))), (q_1, .inl (cI, 3 * upN M n (M n + 1) n, .inl (q3 (upd K (n * 12 + M n) (nI 2)) (upN O (n * 12 + M n) o) (upd T (n * 12 + M n) (nI 0)) n)))]) := kD_at 3 (x := (q_1, .inl (cI, (3 * M n) + 3, .inl (wF (q3 K O T n) (3 * M n) (nI 2) (nI o) (nI 0))))) (y := (q_1, .inl (cI, 3 * upN M n (M n + 1) n, .inl (q3 (upd K (n * 12 + M n) (nI 2)) (upN O (n * 12 + M n) o) (upd T (n * 12 + M n) (nI 0)) n)))) rfl rfl rfl hD
  refine lv_aload_n hx hb dX4_deed_24 rfl (lv_at hl 0 rfl) ?_
  refine va_get (D := D) (ci := 4) (v := .ref aI) (C := RX4) (T := TX4) (N := 5) hx hb hts iu_X4_deed_X4 hown hK hP 0 rfl rfl 0 (by decide) (hts _ (List.mem_of_getElem? (i := 2) rfl)) (fun _ h9 => h9) rfl dX4_deed_25 ?_
  refine lv_iload_n hx hb dX4_deed_28 rfl (lv_at hl 2 rfl) ?_
  refine k_iald hx hb hK hP 1 0 (i := o) rfl rfl (by omega) (by decide) dX4_deed_29 ?_
  have hP := hP.sub (ws' := [(z, .inr (4, [.ref aI, .ref q_1, .ref aLy, .ref aCo, .int wf])), (aI, .inl (cI, 8, .inl (perf f (nI 2) o (nI 0)))), (q_1, .inl (cI, 3 * upN M n (M n + 1) n, .inl (q3 (upd K (n * 12 + M n) (nI 2)) (upN O (n * 12 + M n) o) (upd T (n * 12 + M n) (nI 0)) n)))]) [0, 1, 3] rfl
  have hD := hD.sub (ws' := [(z, .inr (4, [.ref aI, .ref q_1, .ref aLy, .ref aCo, .int wf])), (aI, .inl (cI, 8, .inl (perf f (nI 2) o (nI 0)))), (q_1, .inl (cI, 3 * upN M n (M n + 1) n, .inl (q3 (upd K (n * 12 + M n) (nI 2)) (upN O (n * 12 + M n) o) (upd T (n * 12 + M n) (nI 0)) n)))]) [0, 1, 3] (by decide) rfl
  exact kM_iret hx hb hr hlk hQ hP hD hK hS q_1 rfl (Nat.le_of_ble_eq_true rfl) (Nat.le_of_ble_eq_true rfl) (congrArg (fun z => some (Value.int z)) (by rfl)) trivial dX4_deed_30
theorem iu_X4_seal_X4 : ∀ w ∈ wsX40, w ∈ wsX4_seal := fun w h => (List.mem_cons_of_mem _ (List.mem_append_right _ h))
def rm_c_X4_seal_0 : Room := { frames := 0, cells := 0, slots := 0, locals := 0 }
set_option maxHeartbeats 4000000 in
set_option maxRecDepth 100000 in
theorem c_X4_seal_0 (l : Launch) (D : va_G) (cI : ClassId) (cQ : ClassId) (z aI aD aLy aCo : Nat) (wf : Int32) (nl : Nat) (a : Nat → Nat) (pl : va_W) (K : Nat → Int32) (O : Nat → Nat) (T : Nat → Int32) (M : Nat → Nat) (Z : Nat → Int32) (F : Nat → Int32) (hj : 0 < nl) (hnl : nl ≤ 40) (hMj : M 0 ≤ 12) (hrow : (a 0, (.inl (cI, 2 + 3 * M 0, .inl F) : va_E)) ∈ pl) (hq : ∀ i, i < 3 * M 0 → F (i + 2) = q3 K O T 0 i) :
    kN l yX4_seal wsX4_seal rm_c_X4_seal_0 D [(cI, FieldType.int), (cQ, FieldType.array FieldType.int)] cI cQ (none) [.ref z, .int (nI 0)] (([(z, .inr (4, [.ref aI, .ref aD, .ref aLy, .ref aCo, .int wf])), (aLy, .inl (cQ, nl, .inr (.inr (.inr (.inr (rF a))))))] ++ pl)) (fun _ : Unit => True) (fun _ => some (.int (sealW K O T 0 (nI 17) (M 0)))) (fun _ => ([(z, .inr (4, [.ref aI, .ref aD, .ref aLy, .ref aCo, .int wf])), (aLy, .inl (cQ, nl, .inr (.inr (.inr (.inr (rF a))))))] ++ pl)) := by
  refine kN_of (cc := cX4_seal) (maxL := 4) (ret := (some .int)) (own := RX4) (by decide) rfl rfl (Nat.le_of_ble_eq_true rfl) ?_
  intro p e s m args below meth c A ls Qz hx hb hml hr hts hown hlk hin hQ hA hS hP hD hK hJ hsc hl
  have hl : lv_has ls 4 [(0, .ref z), (1, .int (nI 0))] := hl
  refine lv_iload_n hx hb dX4_seal_0 rfl (lv_at hl 1 rfl) ?_
  refine k_if_ne hx hb (tgt := 9) (by decide) dX4_seal_1 (by decide) (fun h => absurd h (by decide)) (fun c_1 => ?_)
  refine lv_bipush (v := (nI 17)) hx hb dX4_seal_4 (by decide) ?_
  refine lv_goto (tgt := 19) hx hb dX4_seal_6 (by decide) ?_
  refine lv_istore_n (lv' := [(2, .int (nI 17)), (0, .ref z), (1, .int (nI 0))]) hx hb dX4_seal_19 rfl hl (by decide) rfl (fun ls hl => ?_)
  refine lv_iconst (v := (nI 2)) hx hb dX4_seal_20 (by decide) ?_
  refine lv_istore_n (lv' := [(3, .int (nI 2)), (2, .int (nI 17)), (0, .ref z), (1, .int (nI 0))]) hx hb dX4_seal_21 rfl hl (by decide) rfl (fun ls hl => ?_)
  have lp_22 : ∀ (fu d : Nat), 0 ≤ d → d ≤ M 0 → (M 0) + 1 ≤ d + fu → ∀ (x1 : Int32), x1 = sealW K O T 0 (nI 17) d → ∀ (H : Heap) (locs : List Loc), va_P D vwCl ([(z, .inr (4, [.ref aI, .ref aD, .ref aLy, .ref aCo, .int wf])), (aLy, .inl (cQ, nl, .inr (.inr (.inr (.inr (rF a))))))] ++ pl) H → va_D A ([(z, .inr (4, [.ref aI, .ref aD, .ref aLy, .ref aCo, .int wf])), (aLy, .inl (cQ, nl, .inr (.inr (.inr (.inr (rF a))))))] ++ pl) → va_S A s.heap H locs → ∀ (ls : Array Slot), lv_has ls 4 [(3, .int (nI (2 + 3 * d))), (2, .int x1), (0, .ref z), (1, .int (nI 0))] → W p l e rm_c_X4_seal_0 s m args below meth c H locs 0 0 Qz (F0 m 22 ls []) := by
    intro fu
    induction fu with
    | zero => intro d h1_22 h2_22 h3_22; exact absurd h3_22 (by omega)
    | succ fu ih_22 =>
      intro d h1_22 h2_22 h3_22 x1 ex1 H locs hP hD hS ls hl
      subst ex1
      refine lv_iload_n hx hb dX4_seal_22 rfl (lv_at hl 0 rfl) ?_
      refine lv_aload_n hx hb dX4_seal_23 rfl (lv_at hl 2 rfl) ?_
      refine va_get (D := D) (ci := 4) (v := .ref aLy) (C := RX4) (T := TX4) (N := 5) hx hb hts iu_X4_seal_X4 hown hK hP 0 rfl rfl 2 (by decide) (hts _ (List.mem_of_getElem? (i := 1) rfl)) (fun _ h9 => h9) rfl dX4_seal_24 ?_
      refine lv_iload_n hx hb dX4_seal_27 rfl (lv_at hl 3 rfl) ?_
      refine k_aald hx hb hK hP 1 1 (i := 0) (v := a 0) rfl rfl (by omega) (by omega) rfl dX4_seal_28 ?_
      obtain ⟨k_2, hk_2⟩ := kpos (X := [(z, .inr (4, [.ref aI, .ref aD, .ref aLy, .ref aCo, .int wf])), (aLy, .inl (cQ, nl, .inr (.inr (.inr (.inr (rF a))))))]) (pl := pl) (q := (a 0, .inl (cI, 2 + 3 * M 0, .inl F))) hrow
      refine va_alen hx hb hK hP k_2 0 hk_2 rfl (v := (nI (2 + 3 * M 0))) rfl dX4_seal_29 ?_
      refine k_icmp_ge hx hb (tgt := 84) (by omega) (by omega) dX4_seal_30 (by decide) (fun c_3 => ?_) (fun c_3 => ?_)
      · have e_4 : M 0 = d := by omega
        subst e_4
        refine lv_iload_n hx hb dX4_seal_84 rfl (lv_at hl 1 rfl) ?_
        exact kM_iret hx hb hr hlk hQ hP hD hK hS () rfl (Nat.le_of_ble_eq_true rfl) (Nat.le_of_ble_eq_true rfl) (congrArg (fun z => some (Value.int z)) (by rfl)) trivial dX4_seal_85
      · refine lv_iload_n hx hb dX4_seal_33 rfl (lv_at hl 1 rfl) ?_
        refine lv_bipush (v := (nI 31)) hx hb dX4_seal_34 (by decide) ?_
        refine lv_imul hx hb dX4_seal_36 ?_
        refine lv_aload_n hx hb dX4_seal_37 rfl (lv_at hl 2 rfl) ?_
        refine va_get (D := D) (ci := 4) (v := .ref aLy) (C := RX4) (T := TX4) (N := 5) hx hb hts iu_X4_seal_X4 hown hK hP 0 rfl rfl 2 (by decide) (hts _ (List.mem_of_getElem? (i := 1) rfl)) (fun _ h9 => h9) rfl dX4_seal_38 ?_
        refine lv_iload_n hx hb dX4_seal_41 rfl (lv_at hl 3 rfl) ?_
        refine k_aald hx hb hK hP 1 1 (i := 0) (v := a 0) rfl rfl (by omega) (by omega) rfl dX4_seal_42 ?_
        refine lv_iload_n hx hb dX4_seal_43 rfl (lv_at hl 0 rfl) ?_
        obtain ⟨k_5, hk_5⟩ := kpos (X := [(z, .inr (4, [.ref aI, .ref aD, .ref aLy, .ref aCo, .int wf])), (aLy, .inl (cQ, nl, .inr (.inr (.inr (.inr (rF a))))))]) (pl := pl) (q := (a 0, .inl (cI, 2 + 3 * M 0, .inl F))) hrow
        refine k_iald hx hb hK hP k_5 0 (i := (2 + 3 * d)) hk_5 rfl (by omega) (by omega) dX4_seal_44 ?_
        refine k_top (y := (K (0 * 12 + d))) (q3_r0 hq (by omega)) ?_
        refine lv_iadd hx hb dX4_seal_45 ?_
        refine lv_aload_n hx hb dX4_seal_46 rfl (lv_at hl 2 rfl) ?_
        refine va_get (D := D) (ci := 4) (v := .ref aLy) (C := RX4) (T := TX4) (N := 5) hx hb hts iu_X4_seal_X4 hown hK hP 0 rfl rfl 2 (by decide) (hts _ (List.mem_of_getElem? (i := 1) rfl)) (fun _ h9 => h9) rfl dX4_seal_47 ?_
        refine lv_iload_n hx hb dX4_seal_50 rfl (lv_at hl 3 rfl) ?_
        refine k_aald hx hb hK hP 1 1 (i := 0) (v := a 0) rfl rfl (by omega) (by omega) rfl dX4_seal_51 ?_
        refine lv_iload_n hx hb dX4_seal_52 rfl (lv_at hl 0 rfl) ?_
        refine lv_iconst (v := (nI 1)) hx hb dX4_seal_53 (by decide) ?_
        refine k_iadd hx hb dX4_seal_54 ?_
        obtain ⟨k_6, hk_6⟩ := kpos (X := [(z, .inr (4, [.ref aI, .ref aD, .ref aLy, .ref aCo, .int wf])), (aLy, .inl (cQ, nl, .inr (.inr (.inr (.inr (rF a))))))]) (pl := pl) (q := (a 0, .inl (cI, 2 + 3 * M 0, .inl F))) hrow
        refine k_iald hx hb hK hP k_6 0 (i := ((2 + 3 * d) + 1)) hk_6 rfl (by omega) (by omega) dX4_seal_55 ?_
        refine k_top (y := (nI (O (0 * 12 + d)))) (q3_r1 hq (by omega)) ?_
        refine lv_iconst (v := (nI 5)) hx hb dX4_seal_56 (by decide) ?_
        refine k_imul hx hb dX4_seal_57 ?_
        refine lv_iadd hx hb dX4_seal_58 ?_
        refine lv_aload_n hx hb dX4_seal_59 rfl (lv_at hl 2 rfl) ?_
        refine va_get (D := D) (ci := 4) (v := .ref aLy) (C := RX4) (T := TX4) (N := 5) hx hb hts iu_X4_seal_X4 hown hK hP 0 rfl rfl 2 (by decide) (hts _ (List.mem_of_getElem? (i := 1) rfl)) (fun _ h9 => h9) rfl dX4_seal_60 ?_
        refine lv_iload_n hx hb dX4_seal_63 rfl (lv_at hl 3 rfl) ?_
        refine k_aald hx hb hK hP 1 1 (i := 0) (v := a 0) rfl rfl (by omega) (by omega) rfl dX4_seal_64 ?_
        refine lv_iload_n hx hb dX4_seal_65 rfl (lv_at hl 0 rfl) ?_
        refine lv_iconst (v := (nI 2)) hx hb dX4_seal_66 (by decide) ?_
        refine k_iadd hx hb dX4_seal_67 ?_
        obtain ⟨k_7, hk_7⟩ := kpos (X := [(z, .inr (4, [.ref aI, .ref aD, .ref aLy, .ref aCo, .int wf])), (aLy, .inl (cQ, nl, .inr (.inr (.inr (.inr (rF a))))))]) (pl := pl) (q := (a 0, .inl (cI, 2 + 3 * M 0, .inl F))) hrow
        refine k_iald hx hb hK hP k_7 0 (i := ((2 + 3 * d) + 2)) hk_7 rfl (by omega) (by omega) dX4_seal_68 ?_
        refine k_top (y := (T (0 * 12 + d))) (q3_r2 hq (by omega)) ?_
        refine lv_bipush (v := (nI 7)) hx hb dX4_seal_69 (by decide) ?_
        refine lv_imul hx hb dX4_seal_71 ?_
        refine lv_iadd hx hb dX4_seal_72 ?_
        refine lv_sipush (v := (nI 10007)) hx hb dX4_seal_73 (by decide) ?_
        refine lv_irem hx hb dX4_seal_76 (by decide) ?_
        refine k_top (y := (irem (((((sealW K O T 0 (nI 17) d) * (nI 31)) + (K (0 * 12 + d))) + (nI ((O (0 * 12 + d)) * 5))) + ((T (0 * 12 + d)) * (nI 7))) (nI 10007))) rfl ?_
        refine lv_istore_n (lv' := [(2, .int (irem (((((sealW K O T 0 (nI 17) d) * (nI 31)) + (K (0 * 12 + d))) + (nI ((O (0 * 12 + d)) * 5))) + ((T (0 * 12 + d)) * (nI 7))) (nI 10007))), (3, .int (nI (2 + 3 * d))), (0, .ref z), (1, .int (nI 0))]) hx hb dX4_seal_77 rfl hl (by decide) rfl (fun ls hl => ?_)
        refine lv_iinc (v := (nI (2 + 3 * (d + 1)))) (lv' := [(3, .int (nI (2 + 3 * (d + 1)))), (2, .int (irem (((((sealW K O T 0 (nI 17) d) * (nI 31)) + (K (0 * 12 + d))) + (nI ((O (0 * 12 + d)) * 5))) + ((T (0 * 12 + d)) * (nI 7))) (nI 10007))), (0, .ref z), (1, .int (nI 0))]) (k := 1) hx hb dX4_seal_78 hl rfl (by rw [show 2 + 3 * (d + 1) = (2 + 3 * d) + 3 by omega]; exact nI_add _ 3) (by decide) rfl (fun ls hl => ?_)
        refine lv_goto (tgt := 22) hx hb dX4_seal_81 (by decide) ?_
        exact ih_22 (d + 1) (by omega) (by omega) (by omega) (irem (((((sealW K O T 0 (nI 17) d) * (nI 31)) + (K (0 * 12 + d))) + (nI ((O (0 * 12 + d)) * 5))) + ((T (0 * 12 + d)) * (nI 7))) (nI 10007)) rfl _ _ hP hD hS ls (lv_sub hl [0, 1, 2, 3] rfl)
  exact lp_22 ((M 0) + 1) 0 (by omega) (by omega) (by omega) (nI 17) rfl _ _ hP hD hS ls (lv_sub hl [0, 1, 2, 3] rfl)
def rm_c_X4_seal_s : Room := { frames := 0, cells := 0, slots := 0, locals := 0 }
set_option maxHeartbeats 4000000 in
set_option maxRecDepth 100000 in
theorem c_X4_seal_s (l : Launch) (D : va_G) (cI : ClassId) (cQ : ClassId) (z aI aD aLy aCo : Nat) (wf : Int32) (nl : Nat) (a : Nat → Nat) (pl : va_W) (K : Nat → Int32) (O : Nat → Nat) (T : Nat → Int32) (M : Nat → Nat) (Z : Nat → Int32) (F : Nat → Int32) (j Np : Nat) (Fp : Nat → Int32) (hj : j + 1 < nl) (hnl : nl ≤ 40) (hMj : M (j + 1) ≤ 12) (hrow : (a (j + 1), (.inl (cI, 2 + 3 * M (j + 1), .inl F) : va_E)) ∈ pl) (hq : ∀ i, i < 3 * M (j + 1) → F (i + 2) = q3 K O T (j + 1) i) (hprow : (a j, (.inl (cI, Np, .inl Fp) : va_E)) ∈ pl) (hNp : 0 < Np) (hNp2 : Np < 2147483648) (hp : Fp 0 = Z j) :
    kN l yX4_seal wsX4_seal rm_c_X4_seal_s D [(cI, FieldType.int), (cQ, FieldType.array FieldType.int)] cI cQ (none) [.ref z, .int (nI (j + 1))] (([(z, .inr (4, [.ref aI, .ref aD, .ref aLy, .ref aCo, .int wf])), (aLy, .inl (cQ, nl, .inr (.inr (.inr (.inr (rF a))))))] ++ pl)) (fun _ : Unit => True) (fun _ => some (.int (sealW K O T (j + 1) (Z j) (M (j + 1))))) (fun _ => ([(z, .inr (4, [.ref aI, .ref aD, .ref aLy, .ref aCo, .int wf])), (aLy, .inl (cQ, nl, .inr (.inr (.inr (.inr (rF a))))))] ++ pl)) := by
  refine kN_of (cc := cX4_seal) (maxL := 4) (ret := (some .int)) (own := RX4) (by decide) rfl rfl (Nat.le_of_ble_eq_true rfl) ?_
  intro p e s m args below meth c A ls Qz hx hb hml hr hts hown hlk hin hQ hA hS hP hD hK hJ hsc hl
  have hl : lv_has ls 4 [(0, .ref z), (1, .int (nI (j + 1)))] := hl
  refine lv_iload_n hx hb dX4_seal_0 rfl (lv_at hl 1 rfl) ?_
  refine k_if_ne hx hb (tgt := 9) (by omega) dX4_seal_1 (by decide) (fun c_1 => ?_) (fun c_1 => ((by omega) : False).elim)
  refine lv_aload_n hx hb dX4_seal_9 rfl (lv_at hl 0 rfl) ?_
  refine va_get (D := D) (ci := 4) (v := .ref aLy) (C := RX4) (T := TX4) (N := 5) hx hb hts iu_X4_seal_X4 hown hK hP 0 rfl rfl 2 (by decide) (hts _ (List.mem_of_getElem? (i := 1) rfl)) (fun _ h9 => h9) rfl dX4_seal_10 ?_
  refine lv_iload_n hx hb dX4_seal_13 rfl (lv_at hl 1 rfl) ?_
  refine lv_iconst (v := (nI 1)) hx hb dX4_seal_14 (by decide) ?_
  refine k_isub hx hb (by omega) dX4_seal_15 ?_
  refine k_top (y := (nI j)) rfl ?_
  refine k_aald hx hb hK hP 1 1 (i := j) (v := a j) rfl rfl (by omega) (by omega) rfl dX4_seal_16 ?_
  refine lv_iconst (v := (nI 0)) hx hb dX4_seal_17 (by decide) ?_
  obtain ⟨k_2, hk_2⟩ := kpos (X := [(z, .inr (4, [.ref aI, .ref aD, .ref aLy, .ref aCo, .int wf])), (aLy, .inl (cQ, nl, .inr (.inr (.inr (.inr (rF a))))))]) (pl := pl) (q := (a j, .inl (cI, Np, .inl Fp))) hprow
  refine k_iald hx hb hK hP k_2 0 (i := 0) hk_2 rfl (by omega) (by omega) dX4_seal_18 ?_
  refine k_top (y := (Z j)) hp ?_
  refine lv_istore_n (lv' := [(2, .int (Z j)), (0, .ref z), (1, .int (nI (j + 1)))]) hx hb dX4_seal_19 rfl hl (by decide) rfl (fun ls hl => ?_)
  refine lv_iconst (v := (nI 2)) hx hb dX4_seal_20 (by decide) ?_
  refine lv_istore_n (lv' := [(3, .int (nI 2)), (2, .int (Z j)), (0, .ref z), (1, .int (nI (j + 1)))]) hx hb dX4_seal_21 rfl hl (by decide) rfl (fun ls hl => ?_)
  have lp_22 : ∀ (fu d : Nat), 0 ≤ d → d ≤ M (j + 1) → (M (j + 1)) + 1 ≤ d + fu → ∀ (x1 : Int32), x1 = sealW K O T (j + 1) (Z j) d → ∀ (H : Heap) (locs : List Loc), va_P D vwCl ([(z, .inr (4, [.ref aI, .ref aD, .ref aLy, .ref aCo, .int wf])), (aLy, .inl (cQ, nl, .inr (.inr (.inr (.inr (rF a))))))] ++ pl) H → va_D A ([(z, .inr (4, [.ref aI, .ref aD, .ref aLy, .ref aCo, .int wf])), (aLy, .inl (cQ, nl, .inr (.inr (.inr (.inr (rF a))))))] ++ pl) → va_S A s.heap H locs → ∀ (ls : Array Slot), lv_has ls 4 [(3, .int (nI (2 + 3 * d))), (2, .int x1), (0, .ref z), (1, .int (nI (j + 1)))] → W p l e rm_c_X4_seal_s s m args below meth c H locs 0 0 Qz (F0 m 22 ls []) := by
    intro fu
    induction fu with
    | zero => intro d h1_22 h2_22 h3_22; exact absurd h3_22 (by omega)
    | succ fu ih_22 =>
      intro d h1_22 h2_22 h3_22 x1 ex1 H locs hP hD hS ls hl
      subst ex1
      refine lv_iload_n hx hb dX4_seal_22 rfl (lv_at hl 0 rfl) ?_
      refine lv_aload_n hx hb dX4_seal_23 rfl (lv_at hl 2 rfl) ?_
      refine va_get (D := D) (ci := 4) (v := .ref aLy) (C := RX4) (T := TX4) (N := 5) hx hb hts iu_X4_seal_X4 hown hK hP 0 rfl rfl 2 (by decide) (hts _ (List.mem_of_getElem? (i := 1) rfl)) (fun _ h9 => h9) rfl dX4_seal_24 ?_
      refine lv_iload_n hx hb dX4_seal_27 rfl (lv_at hl 3 rfl) ?_
      refine k_aald hx hb hK hP 1 1 (i := (j + 1)) (v := a (j + 1)) rfl rfl (by omega) (by omega) rfl dX4_seal_28 ?_
      obtain ⟨k_3, hk_3⟩ := kpos (X := [(z, .inr (4, [.ref aI, .ref aD, .ref aLy, .ref aCo, .int wf])), (aLy, .inl (cQ, nl, .inr (.inr (.inr (.inr (rF a))))))]) (pl := pl) (q := (a (j + 1), .inl (cI, 2 + 3 * M (j + 1), .inl F))) hrow
      refine va_alen hx hb hK hP k_3 0 hk_3 rfl (v := (nI (2 + 3 * M (j + 1)))) rfl dX4_seal_29 ?_
      refine k_icmp_ge hx hb (tgt := 84) (by omega) (by omega) dX4_seal_30 (by decide) (fun c_4 => ?_) (fun c_4 => ?_)
      · have e_5 : M (j + 1) = d := by omega
        subst e_5
        refine lv_iload_n hx hb dX4_seal_84 rfl (lv_at hl 1 rfl) ?_
        exact kM_iret hx hb hr hlk hQ hP hD hK hS () rfl (Nat.le_of_ble_eq_true rfl) (Nat.le_of_ble_eq_true rfl) (congrArg (fun z => some (Value.int z)) (by rfl)) trivial dX4_seal_85
      · refine lv_iload_n hx hb dX4_seal_33 rfl (lv_at hl 1 rfl) ?_
        refine lv_bipush (v := (nI 31)) hx hb dX4_seal_34 (by decide) ?_
        refine lv_imul hx hb dX4_seal_36 ?_
        refine lv_aload_n hx hb dX4_seal_37 rfl (lv_at hl 2 rfl) ?_
        refine va_get (D := D) (ci := 4) (v := .ref aLy) (C := RX4) (T := TX4) (N := 5) hx hb hts iu_X4_seal_X4 hown hK hP 0 rfl rfl 2 (by decide) (hts _ (List.mem_of_getElem? (i := 1) rfl)) (fun _ h9 => h9) rfl dX4_seal_38 ?_
        refine lv_iload_n hx hb dX4_seal_41 rfl (lv_at hl 3 rfl) ?_
        refine k_aald hx hb hK hP 1 1 (i := (j + 1)) (v := a (j + 1)) rfl rfl (by omega) (by omega) rfl dX4_seal_42 ?_
        refine lv_iload_n hx hb dX4_seal_43 rfl (lv_at hl 0 rfl) ?_
        obtain ⟨k_6, hk_6⟩ := kpos (X := [(z, .inr (4, [.ref aI, .ref aD, .ref aLy, .ref aCo, .int wf])), (aLy, .inl (cQ, nl, .inr (.inr (.inr (.inr (rF a))))))]) (pl := pl) (q := (a (j + 1), .inl (cI, 2 + 3 * M (j + 1), .inl F))) hrow
        refine k_iald hx hb hK hP k_6 0 (i := (2 + 3 * d)) hk_6 rfl (by omega) (by omega) dX4_seal_44 ?_
        refine k_top (y := (K ((j + 1) * 12 + d))) (q3_r0 hq (by omega)) ?_
        refine lv_iadd hx hb dX4_seal_45 ?_
        refine lv_aload_n hx hb dX4_seal_46 rfl (lv_at hl 2 rfl) ?_
        refine va_get (D := D) (ci := 4) (v := .ref aLy) (C := RX4) (T := TX4) (N := 5) hx hb hts iu_X4_seal_X4 hown hK hP 0 rfl rfl 2 (by decide) (hts _ (List.mem_of_getElem? (i := 1) rfl)) (fun _ h9 => h9) rfl dX4_seal_47 ?_
        refine lv_iload_n hx hb dX4_seal_50 rfl (lv_at hl 3 rfl) ?_
        refine k_aald hx hb hK hP 1 1 (i := (j + 1)) (v := a (j + 1)) rfl rfl (by omega) (by omega) rfl dX4_seal_51 ?_
        refine lv_iload_n hx hb dX4_seal_52 rfl (lv_at hl 0 rfl) ?_
        refine lv_iconst (v := (nI 1)) hx hb dX4_seal_53 (by decide) ?_
        refine k_iadd hx hb dX4_seal_54 ?_
        obtain ⟨k_7, hk_7⟩ := kpos (X := [(z, .inr (4, [.ref aI, .ref aD, .ref aLy, .ref aCo, .int wf])), (aLy, .inl (cQ, nl, .inr (.inr (.inr (.inr (rF a))))))]) (pl := pl) (q := (a (j + 1), .inl (cI, 2 + 3 * M (j + 1), .inl F))) hrow
        refine k_iald hx hb hK hP k_7 0 (i := ((2 + 3 * d) + 1)) hk_7 rfl (by omega) (by omega) dX4_seal_55 ?_
        refine k_top (y := (nI (O ((j + 1) * 12 + d)))) (q3_r1 hq (by omega)) ?_
        refine lv_iconst (v := (nI 5)) hx hb dX4_seal_56 (by decide) ?_
        refine k_imul hx hb dX4_seal_57 ?_
        refine lv_iadd hx hb dX4_seal_58 ?_
        refine lv_aload_n hx hb dX4_seal_59 rfl (lv_at hl 2 rfl) ?_
        refine va_get (D := D) (ci := 4) (v := .ref aLy) (C := RX4) (T := TX4) (N := 5) hx hb hts iu_X4_seal_X4 hown hK hP 0 rfl rfl 2 (by decide) (hts _ (List.mem_of_getElem? (i := 1) rfl)) (fun _ h9 => h9) rfl dX4_seal_60 ?_
        refine lv_iload_n hx hb dX4_seal_63 rfl (lv_at hl 3 rfl) ?_
        refine k_aald hx hb hK hP 1 1 (i := (j + 1)) (v := a (j + 1)) rfl rfl (by omega) (by omega) rfl dX4_seal_64 ?_
        refine lv_iload_n hx hb dX4_seal_65 rfl (lv_at hl 0 rfl) ?_
        refine lv_iconst (v := (nI 2)) hx hb dX4_seal_66 (by decide) ?_
        refine k_iadd hx hb dX4_seal_67 ?_
        obtain ⟨k_8, hk_8⟩ := kpos (X := [(z, .inr (4, [.ref aI, .ref aD, .ref aLy, .ref aCo, .int wf])), (aLy, .inl (cQ, nl, .inr (.inr (.inr (.inr (rF a))))))]) (pl := pl) (q := (a (j + 1), .inl (cI, 2 + 3 * M (j + 1), .inl F))) hrow
        refine k_iald hx hb hK hP k_8 0 (i := ((2 + 3 * d) + 2)) hk_8 rfl (by omega) (by omega) dX4_seal_68 ?_
        refine k_top (y := (T ((j + 1) * 12 + d))) (q3_r2 hq (by omega)) ?_
        refine lv_bipush (v := (nI 7)) hx hb dX4_seal_69 (by decide) ?_
        refine lv_imul hx hb dX4_seal_71 ?_
        refine lv_iadd hx hb dX4_seal_72 ?_
        refine lv_sipush (v := (nI 10007)) hx hb dX4_seal_73 (by decide) ?_
        refine lv_irem hx hb dX4_seal_76 (by decide) ?_
        refine k_top (y := (irem (((((sealW K O T (j + 1) (Z j) d) * (nI 31)) + (K ((j + 1) * 12 + d))) + (nI ((O ((j + 1) * 12 + d)) * 5))) + ((T ((j + 1) * 12 + d)) * (nI 7))) (nI 10007))) rfl ?_
        refine lv_istore_n (lv' := [(2, .int (irem (((((sealW K O T (j + 1) (Z j) d) * (nI 31)) + (K ((j + 1) * 12 + d))) + (nI ((O ((j + 1) * 12 + d)) * 5))) + ((T ((j + 1) * 12 + d)) * (nI 7))) (nI 10007))), (3, .int (nI (2 + 3 * d))), (0, .ref z), (1, .int (nI (j + 1)))]) hx hb dX4_seal_77 rfl hl (by decide) rfl (fun ls hl => ?_)
        refine lv_iinc (v := (nI (2 + 3 * (d + 1)))) (lv' := [(3, .int (nI (2 + 3 * (d + 1)))), (2, .int (irem (((((sealW K O T (j + 1) (Z j) d) * (nI 31)) + (K ((j + 1) * 12 + d))) + (nI ((O ((j + 1) * 12 + d)) * 5))) + ((T ((j + 1) * 12 + d)) * (nI 7))) (nI 10007))), (0, .ref z), (1, .int (nI (j + 1)))]) (k := 1) hx hb dX4_seal_78 hl rfl (by rw [show 2 + 3 * (d + 1) = (2 + 3 * d) + 3 by omega]; exact nI_add _ 3) (by decide) rfl (fun ls hl => ?_)
        refine lv_goto (tgt := 22) hx hb dX4_seal_81 (by decide) ?_
        exact ih_22 (d + 1) (by omega) (by omega) (by omega) (irem (((((sealW K O T (j + 1) (Z j) d) * (nI 31)) + (K ((j + 1) * 12 + d))) + (nI ((O ((j + 1) * 12 + d)) * 5))) + ((T ((j + 1) * 12 + d)) * (nI 7))) (nI 10007)) rfl _ _ hP hD hS ls (lv_sub hl [0, 1, 2, 3] rfl)
  exact lp_22 ((M (j + 1)) + 1) 0 (by omega) (by omega) (by omega) (Z j) rfl _ _ hP hD hS ls (lv_sub hl [0, 1, 2, 3] rfl)
def rm_c_X4_seal : Room := rm_c_X4_seal_s
theorem rm_seal_eq : rm_c_X4_seal_0 = rm_c_X4_seal_s := rfl
theorem c_X4_seal (l : Launch) (D : va_G) (cI : ClassId) (cQ : ClassId) (z aI aD aLy aCo : Nat) (wf : Int32) (nl : Nat) (a : Nat → Nat) (pl : va_W) (K : Nat → Int32) (O : Nat → Nat) (T : Nat → Int32) (M : Nat → Nat) (Z : Nat → Int32) (F : Nat → Int32) (j : Nat) (hj : j < nl) (hnl : nl ≤ 40) (hMj : M j ≤ 12) (hrow : (a j, (.inl (cI, 2 + 3 * M j, .inl F) : va_E)) ∈ pl) (hq : ∀ i, i < 3 * M j → F (i + 2) = q3 K O T j i) (hprev : ∀ i, i + 1 = j → ∃ (Np : Nat) (Fp : Nat → Int32), 0 < Np ∧ Np < 2147483648 ∧ (a i, (.inl (cI, Np, .inl Fp) : va_E)) ∈ pl ∧ Fp 0 = Z i) :
    kN l yX4_seal wsX4_seal rm_c_X4_seal D [(cI, FieldType.int), (cQ, FieldType.array FieldType.int)] cI cQ (none) [.ref z, .int (nI j)] (([(z, .inr (4, [.ref aI, .ref aD, .ref aLy, .ref aCo, .int wf])), (aLy, .inl (cQ, nl, .inr (.inr (.inr (.inr (rF a))))))] ++ pl)) (fun _ : Unit => True) (fun _ => some (.int (sealF K O T M Z j))) (fun _ => ([(z, .inr (4, [.ref aI, .ref aD, .ref aLy, .ref aCo, .int wf])), (aLy, .inl (cQ, nl, .inr (.inr (.inr (.inr (rF a))))))] ++ pl)) := by
  cases j with
  | zero => exact c_X4_seal_0 l D cI cQ z aI aD aLy aCo wf nl a pl K O T M Z F hj hnl hMj hrow hq
  | succ j =>
    obtain ⟨Np, Fp, h1, h2, h3, h4⟩ := hprev j rfl
    exact c_X4_seal_s l D cI cQ z aI aD aLy aCo wf nl a pl K O T M Z F j Np Fp hj hnl hMj hrow hq h3 h1 h2 h4

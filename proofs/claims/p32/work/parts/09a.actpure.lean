/-! 09a: how the pool goes with each act -/
theorem rF_up (a : Nat → Nat) (i v : Nat) : va_up (rF a) i (some v) = rF (upN a i v) := by
  funext j
  simp only [va_up, rF, upN]
  split <;> rfl
theorem fin_self {Y : Nat → Nat} {nc c : Nat} (hY : ∀ i, Y i ≤ 40) (hinc : ∀ i j, i < j → j < nc → Y i < Y j) (hc : c < nc) : finO Y (nI (Y c)) nc = some c := by
  unfold finO
  rw [lat_self hY hinc hc]
  exact if_pos rfl
theorem note_rows {K : Nat → Int32} {O : Nat → Nat} {T : Nat → Int32} {M : Nat → Nat} {Z : Nat → Int32} {n k o : Nat} {kd tw : Int32} (hM : ∀ i, M i ≤ 12) : ∀ l, l < n → nL M l = nL (upN M n (M n + 1)) l ∧ ∀ i, i < nL M l → rwF K O T Z k l i = rwF (upd K (n * 12 + M n) kd) (upN O (n * 12 + M n) o) (upd T (n * 12 + M n) tw) Z k l i := by
  intro l hl
  refine ⟨by unfold nL; rw [upN_ne (by omega)], fun i hi => ?_⟩
  have hi : i < 2 + 3 * M l := hi
  have hMl := hM l
  unfold rwF
  by_cases h0 : i = 0
  · rw [if_pos h0, if_pos h0]
  · rw [if_neg h0, if_neg h0]
    by_cases h1 : i = 1
    · rw [if_pos h1, if_pos h1]
    · rw [if_neg h1, if_neg h1]
      have hne : l * 12 + (i - 2) / 3 ≠ n * 12 + M n := by omega
      unfold q3
      rw [pk_un hne, upN_ne hne, pk_un hne]
theorem q3_ne {K : Nat → Int32} {O : Nat → Nat} {T : Nat → Int32} {n s : Nat} {v : Int32} (m i : Nat) (hm : m ≤ 12) (hi : i < 3 * m) (hs : ∀ j, j < 12 → n * 12 + j ≠ s) : q3 K O T n i = q3 K O (upd T s v) n i := by
  unfold q3
  rw [pk_un (hs _ (by omega))]
/-- compacting, l layers done -/
def cmM (M : Nat → Nat) (i : Nat) : Nat → Nat := fun l => if l < i then 0 else M l
theorem cmM_0 (M : Nat → Nat) : cmM M 0 = M := by
  funext l
  unfold cmM
  rw [if_neg (by omega)]
theorem cmM_drop {M : Nat → Nat} {k : Nat} (hM0 : ∀ j, j < k → M j = 0) (y : Nat) : cmM M y = dropM M k (y - k) := by
  funext l
  rw [dropM_eq]
  unfold cmM
  by_cases h : l < y
  · rw [if_pos h]
    by_cases h2 : k ≤ l ∧ l < k + (y - k)
    · rw [if_pos h2]
    · rw [if_neg h2, hM0 l (by omega)]
  · rw [if_neg h, if_neg (by omega)]
theorem press_s (i k : Nat) : nI (i - k) + (nI 1 - b2i (i < k)) = nI (i + 1 - k) := by
  unfold b2i
  by_cases h : i < k
  · rw [if_pos h, show i - k = 0 by omega, show i + 1 - k = 0 by omega]; decide
  · rw [if_neg h, show i + 1 - k = (i - k) + 1 by omega]
    show nI (i - k) + (nI 1 - nI 0) = _
    rw [show nI 1 - nI 0 = nI 1 by decide, nI_add]
theorem flag_max (i k : Nat) : b2i (i < max k i) = b2i (i < k) := b2i_eq (by omega)
theorem pool_cmpP {D : va_G} {cl : List vw_C} {H : Heap} {X C : va_W} {cI : ClassId} {a M : Nat → Nat} {K : Nat → Int32} {O : Nat → Nat} {T Z : Nat → Int32} {k n i q : Nat} (h : va_P D cl ((X ++ [(q, .inl (cI, 2, .inl (upd (upd zF 0 (Z i)) 1 (nI 1))))]) ++ (rws cI a (nL (cmM M i)) (rwF K O T Z (max k i)) n ++ C)) H) : va_P D cl (X ++ (rws cI (upN a i q) (nL (cmM M (i + 1))) (rwF K O T Z (max k (i + 1))) n ++ C)) H := by
  refine kP_eqv (fun x hx => ?_) h
  rcases List.mem_append.mp hx with h1 | h1
  · exact ⟨x, List.mem_append_left _ (List.mem_append_left _ h1), id⟩
  rcases List.mem_append.mp h1 with h2 | h2
  · obtain ⟨l, hl, rfl⟩ := List.mem_map.mp h2
    have hl := List.mem_range.mp hl
    by_cases e : l = i
    · subst e
      refine ⟨_, List.mem_append_left _ (List.mem_append_right _ (List.mem_singleton.mpr rfl)), ?_⟩
      rw [upN_eq]
      refine at_i (by unfold nL cmM; rw [if_pos (Nat.lt_succ_self _)]) (fun z hz => ?_)
      rcases (show z = 0 ∨ z = 1 by omega) with rfl | rfl
      · rfl
      · show nI 1 = b2i (l < max k (l + 1))
        unfold b2i
        rw [if_pos (by omega)]
    · refine ⟨_, List.mem_append_right _ (List.mem_append_left _ (rws_mem hl)), ?_⟩
      rw [upN_ne e]
      have e1 : cmM M i l = cmM M (i + 1) l := by
        unfold cmM
        by_cases q : l < i
        · rw [if_pos q, if_pos (by omega)]
        · rw [if_neg q, if_neg (by omega)]
      refine at_i (by unfold nL; rw [e1]) (fun z _ => ?_)
      unfold rwF
      have e2 : b2i (l < max k i) = b2i (l < max k (i + 1)) := b2i_eq (by omega)
      rw [e2]
  · exact ⟨x, List.mem_append_right _ (List.mem_append_right _ h2), id⟩
theorem pool_cmpD {A : Nat → Prop} {X C : va_W} {cI : ClassId} {a N N' : Nat → Nat} {F F' : Nat → Nat → Int32} {n i q : Nat} {e9 : va_E} (hi : i < n) (h : va_D A ((X ++ [(q, e9)]) ++ (rws cI a N F n ++ C))) : va_D A (X ++ (rws cI (upN a i q) N' F' n ++ C)) := by
  have h2 : va_D A (X ++ ((List.range n).map (fun l => if l = i then (q, e9) else (a l, (.inl (cI, N l, .inl (F l)) : va_E))) ++ C)) := by
    refine h.by (fun j => if j < X.length then j else if j = X.length + i then X.length else j + 1) (fun j x hx => ?_) (fun j1 j2 h1 h2 e => ?_)
    · by_cases c1 : j < X.length
      · rw [List.getElem?_append_left c1] at hx
        show ((X ++ [(q, e9)]) ++ _)[if j < X.length then j else _]? = _
        rw [if_pos c1, List.getElem?_append_left (by rw [List.length_append]; omega), List.getElem?_append_left c1]
        exact hx
      · rw [List.getElem?_append_right (by omega)] at hx
        show ((X ++ [(q, e9)]) ++ _)[if j < X.length then j else if j = X.length + i then X.length else j + 1]? = _
        rw [if_neg c1]
        by_cases c2 : j = X.length + i
        · rw [if_pos c2, List.getElem?_append_left (by rw [List.length_append]; simp), List.getElem?_append_right (Nat.le_refl _), Nat.sub_self]
          rw [List.getElem?_append_left (by rw [List.length_map, List.length_range]; omega), List.getElem?_map, List.getElem?_range (by omega)] at hx
          have e1 : j - X.length = i := by omega
          rw [e1] at hx
          simpa using hx
        · rw [if_neg c2, List.getElem?_append_right (by rw [List.length_append]; simp; omega), List.length_append]
          rw [show j + 1 - (X.length + [(q, e9)].length) = j - X.length by simp only [List.length_cons, List.length_nil]; omega]
          by_cases c3 : j - X.length < n
          · rw [List.getElem?_append_left (by rw [List.length_map, List.length_range]; exact c3), List.getElem?_map, List.getElem?_range c3] at hx
            have c4 : ¬ j - X.length = i := by omega
            rw [List.getElem?_append_left (by unfold rws; rw [List.length_map, List.length_range]; exact c3)]
            unfold rws
            rw [List.getElem?_map, List.getElem?_range c3]
            simp only [Option.map_some, if_neg c4] at hx ⊢
            exact hx
          · rw [List.getElem?_append_right (by rw [List.length_map, List.length_range]; omega), List.length_map, List.length_range] at hx
            rw [List.getElem?_append_right (by unfold rws; rw [List.length_map, List.length_range]; omega)]
            unfold rws
            rw [List.length_map, List.length_range]
            exact hx
    · have e : (if j1 < X.length then j1 else if j1 = X.length + i then X.length else j1 + 1) = (if j2 < X.length then j2 else if j2 = X.length + i then X.length else j2 + 1) := e
      split at e <;> split at e <;> (try split at e) <;> (try split at e) <;> omega
  refine kD_eqv ?_ h2
  simp only [rws, List.map_append, List.map_map]
  congr 2
  apply List.map_congr_left
  intro l _
  show upN a i q l = (if l = i then (q, e9) else (a l, (.inl (cI, N l, .inl (F l)) : va_E))).1
  unfold upN
  split <;> rfl
theorem kpos_row {X C : va_W} {cI : ClassId} {a N : Nat → Nat} {F : Nat → Nat → Int32} {n i : Nat} (hi : i < n) : (X ++ (rws cI a N F n ++ C))[X.length + i]? = some (a i, .inl (cI, N i, .inl (F i))) := by
  rw [List.getElem?_append_right (by omega), Nat.add_sub_cancel_left, List.getElem?_append_left (by unfold rws; rw [List.length_map, List.length_range]; exact hi)]
  unfold rws
  rw [List.getElem?_map, List.getElem?_range hi]
  rfl
theorem rws_set {X C : va_W} {cI : ClassId} {a N : Nat → Nat} {F : Nat → Nat → Int32} {n i : Nat} {g : Nat → Int32} (hi : i < n) : (X ++ (rws cI a N F n ++ C)).set (X.length + i) (a i, .inl (cI, N i, .inl g)) = X ++ (rws cI a N (fun l => if l = i then g else F l) n ++ C) := by
  apply List.ext_getElem?
  intro j
  by_cases c1 : j < X.length
  · rw [List.getElem?_set_ne (by omega), List.getElem?_append_left c1, List.getElem?_append_left c1]
  · by_cases c2 : j < X.length + n
    · obtain ⟨l, rfl⟩ : ∃ l, j = X.length + l := ⟨j - X.length, by omega⟩
      by_cases e : l = i
      · subst e
        rw [List.getElem?_set_self (by rw [List.length_append, List.length_append]; unfold rws; rw [List.length_map, List.length_range]; omega), kpos_row hi]
        simp only [if_true]
      · rw [List.getElem?_set_ne (by omega), kpos_row (by omega), kpos_row (by omega)]
        simp only [if_neg e]
    · have e1 : ∀ F' : Nat → Nat → Int32, (X ++ (rws cI a N F' n ++ C))[j]? = C[j - X.length - n]? := by
        intro F'
        rw [List.getElem?_append_right (by omega), List.getElem?_append_right (by unfold rws; rw [List.length_map, List.length_range]; omega)]
        unfold rws
        rw [List.length_map, List.length_range]
      rw [List.getElem?_set_ne (by omega), e1, e1]
theorem forge_rows {K : Nat → Int32} {O : Nat → Nat} {T : Nat → Int32} {M : Nat → Nat} {Z : Nat → Int32} {n k l d : Nat} {v : Int32} (hM : ∀ i, M i ≤ 12) (hd : d < M l) : ∀ r, r < n → nL M r = nL M r ∧ ∀ i, i < nL M r → (if r = l then upd (rwF K O T Z k l) (4 + d * 3) v else rwF K O T Z k r) i = rwF K O (upd T (l * 12 + d) v) Z k r i := by
  intro r _
  refine ⟨rfl, fun i hi => ?_⟩
  have hi : i < 2 + 3 * M r := hi
  have hMr := hM r
  have hMl := hM l
  by_cases e : r = l
  · subst e
    rw [if_pos rfl]
    by_cases h4 : i = 4 + d * 3
    · subst h4
      rw [pk_us, show 4 + d * 3 = (3 * d + 2) + 2 by omega, rwF_2, q3_2, pk_us]
    · rw [pk_un h4]
      unfold rwF
      by_cases h0 : i = 0
      · rw [if_pos h0, if_pos h0]
      · rw [if_neg h0, if_neg h0]
        by_cases h1 : i = 1
        · rw [if_pos h1, if_pos h1]
        · rw [if_neg h1, if_neg h1]
          unfold q3
          by_cases m0 : (i - 2) % 3 = 0
          · rw [if_pos m0, if_pos m0]
          · rw [if_neg m0, if_neg m0]
            by_cases m1 : (i - 2) % 3 = 1
            · rw [if_pos m1, if_pos m1]
            · rw [if_neg m1, if_neg m1, pk_un (by omega)]
  · rw [if_neg e]
    unfold rwF
    by_cases h0 : i = 0
    · rw [if_pos h0, if_pos h0]
    · rw [if_neg h0, if_neg h0]
      by_cases h1 : i = 1
      · rw [if_pos h1, if_pos h1]
      · rw [if_neg h1, if_neg h1]
        unfold q3
        rw [pk_un (by omega)]
theorem div3 (m : Nat) (hm : m ≤ 12) : nI ((2 + 3 * m) - 2) / nI 3 = nI m := by
  rw [pk_div (by omega) (by decide) (by decide), show ((2 + 3 * m) - 2) / 3 = m by omega]
theorem div3d (m : Nat) (hm : m ≤ 12) : nI (3 * m) / nI 3 = nI m := by
  rw [pk_div (by omega) (by decide) (by decide), show (3 * m) / 3 = m by omega]
section KSL
variable {p : Program} {l : Launch} {e : Env} {R : Room} {s : State} {m : MethodId} {args : Array Value} {below : List Frame} {meth : Method} {c : Code} {H : Heap} {locs : List Loc} {cells slots : Nat} {Q : State → Prop}
variable {cc : ByteArray} {pc : Nat} {ls : Array Slot} {rest : List Value} {A : Nat → Prop}
theorem k_sld (hx : p.tables.exec = Jvm.exec) (hb : c.code = cc) {b L : Nat} {xs : Nat → Int32} (hX : va_X b L xs s s.heap) (hbl : b < s.heap.size) (hbA : ¬ A b) (hS : va_S A s.heap H locs) {i : Nat} (hi : i < L) (hL : L ≤ 2048) (hdg : decode cc pc = .ok (.iaload, 1))
    (kk : W p l e R s m args below meth c H locs cells slots Q (F0 m (pc + 1) ls (.int (xs i) :: rest))) : W p l e R s m args below meth c H locs cells slots Q (F0 m pc ls (.int (nI i) :: .ref b :: rest)) :=
  va_sld hx hb hX hbl hbA hS (vp_in_nI hi (by omega)) hdg (k_top (by rw [nI_clamp (by omega)]) kk)
end KSL

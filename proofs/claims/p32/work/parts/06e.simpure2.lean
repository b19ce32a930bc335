/-! 06e: a layer's row, a core's row, and the pool with one more or one less -/
def cpR (f : Nat → Int32) (i : Nat) : Nat → Int32 := fun j => if 2 ≤ j ∧ j < i + 2 then f (j - 2) else 0
theorem cpR_0 (f : Nat → Int32) : zF = cpR f 0 := by
  funext j
  show (0 : Int32) = if 2 ≤ j ∧ j < 0 + 2 then f (j - 2) else 0
  rw [if_neg (by omega)]
theorem cpR_s (f : Nat → Int32) (i : Nat) : upd (cpR f i) (i + 2) (f i) = cpR f (i + 1) := by
  funext j
  simp only [upd, cpR]
  by_cases h : j = i + 2
  · subst h; rw [if_pos rfl, if_pos (by omega), Nat.add_sub_cancel]
  · rw [if_neg h]
    by_cases h2 : 2 ≤ j ∧ j < i + 2
    · rw [if_pos h2, if_pos (by omega)]
    · rw [if_neg h2, if_neg (by omega)]
theorem cpR_q {f : Nat → Int32} {m : Nat} (i : Nat) (hi : i < m) : cpR f m (i + 2) = f i := by
  show (if 2 ≤ i + 2 ∧ i + 2 < m + 2 then f (i + 2 - 2) else 0) = f i
  rw [if_pos (by omega), Nat.add_sub_cancel]
theorem row_end {K : Nat → Int32} {O : Nat → Nat} {T : Nat → Int32} {Z : Nat → Int32} {k n m : Nat} {s : Int32} (hk : k ≤ n) (i : Nat) (hi : i < 2 + 3 * m) : upd (cpR (q3 K O T n) (3 * m)) 0 s i = rwF K O T (upd Z n s) k n i := by
  by_cases h0 : i = 0
  · subst h0
    simp only [upd, rwF, if_pos]
  · rw [pk_un h0]
    by_cases h1 : i = 1
    · subst h1
      show (if 2 ≤ 1 ∧ 1 < 3 * m + 2 then q3 K O T n (1 - 2) else 0) = b2i (n < k)
      rw [if_neg (by omega)]
      unfold b2i
      rw [if_neg (by omega)]
      rfl
    · obtain ⟨j, rfl⟩ : ∃ j, i = j + 2 := ⟨i - 2, by omega⟩
      rw [cpR_q j (by omega), rwF_2]
theorem rws_push {cI : ClassId} {aL M : Nat → Nat} {K : Nat → Int32} {O : Nat → Nat} {T Z : Nat → Int32} {k n q : Nat} {s : Int32} : rws cI aL (nL M) (rwF K O T Z k) n ++ [(q, (.inl (cI, 2 + 3 * M n, .inl (rwF K O T (upd Z n s) k n)) : va_E))] = rws cI (upN aL n q) (nL M) (rwF K O T (upd Z n s) k) (n + 1) := by
  rw [rws_succ]
  have e : upN aL n q n = q := if_pos rfl
  rw [e, rws_congr (a := aL) (a' := upN aL n q) (N := nL M) (N' := nL M) (F := rwF K O T Z k) (F' := rwF K O T (upd Z n s) k) (n := n)]
  · rfl
  · intro i hi
    refine ⟨(if_neg (by omega)).symm, rfl, ?_⟩
    funext j
    simp only [rwF, upd]
    rw [if_neg (show ¬ i = n by omega)]
def crW (y : Nat) (f : Nat → Int32) (i : Nat) : Nat → Int32 := fun j => if j = 0 then nI y else if j < i + 1 then f (j - 1) else 0
theorem crW_0 (y : Nat) (f : Nat → Int32) : upd zF 0 (nI y) = crW y f 0 := by
  funext j
  simp only [upd, crW, zF]
  by_cases h : j = 0
  · rw [if_pos h, if_pos h]
  · rw [if_neg h, if_neg h, if_neg (by omega)]
theorem crW_s (y : Nat) (f : Nat → Int32) (i : Nat) : upd (crW y f i) (i + 1) (f i) = crW y f (i + 1) := by
  funext j
  simp only [upd, crW]
  by_cases h : j = i + 1
  · subst h; rw [if_pos rfl, if_neg (by omega), if_pos (by omega), Nat.add_sub_cancel]
  · rw [if_neg h]
    by_cases h0 : j = 0
    · rw [if_pos h0, if_pos h0]
    · rw [if_neg h0, if_neg h0]
      by_cases h2 : j < i + 1
      · rw [if_pos h2, if_pos (by omega)]
      · rw [if_neg h2, if_neg (by omega)]
theorem shY_at (Y : Nat → Nat) (j d i : Nat) : shY Y j d i = if j ≤ i ∧ i < j + d then Y (i + 1) else Y i := by
  induction d generalizing i with
  | zero => rw [shY, if_neg (by omega)]
  | succ d ih =>
    simp only [shY, upN]
    by_cases h : i = j + d
    · subst h
      rw [if_pos rfl, ih, if_neg (by omega), if_pos (by omega)]
    · rw [if_neg h, ih]
      by_cases h2 : j ≤ i ∧ i < j + d
      · rw [if_pos h2, if_pos (by omega)]
      · rw [if_neg h2, if_neg (by omega)]
theorem cp8_at (G : Nat → Int32) (t k i : Nat) (hk : k ≤ 8) : cp8 G t k i = if t * 8 ≤ i ∧ i < t * 8 + k then G (i + 8) else G i := by
  induction k generalizing i with
  | zero => rw [cp8, if_neg (by omega)]
  | succ k ih =>
    simp only [cp8, upd]
    by_cases h : i = t * 8 + k
    · subst h
      rw [if_pos rfl, ih _ (by omega), if_neg (by omega), if_pos (by omega)]
      congr 1
      omega
    · rw [if_neg h, ih _ (by omega)]
      by_cases h2 : t * 8 ≤ i ∧ i < t * 8 + k
      · rw [if_pos h2, if_pos (by omega)]
      · rw [if_neg h2, if_neg (by omega)]
theorem shG_at (G : Nat → Int32) (j d i : Nat) : shG G j d i = if j * 8 ≤ i ∧ i < (j + d) * 8 then G (i + 8) else G i := by
  induction d generalizing i with
  | zero => rw [shG, if_neg (by omega)]
  | succ d ih =>
    rw [shG, cp8_at _ _ _ _ (Nat.le_refl 8)]
    by_cases h : (j + d) * 8 ≤ i ∧ i < (j + d) * 8 + 8
    · rw [if_pos h, ih, if_neg (by omega), if_pos (by omega)]
    · rw [if_neg h, ih]
      by_cases h2 : j * 8 ≤ i ∧ i < (j + d) * 8
      · rw [if_pos h2, if_pos (by omega)]
      · rw [if_neg h2, if_neg (by omega)]
theorem drG_at (G : Nat → Int32) (t : Nat) (f : Nat → Int32) (k i : Nat) : drG G t f k i = if t * 8 ≤ i ∧ i < t * 8 + k then f (i - t * 8) else G i := by
  induction k generalizing i with
  | zero => rw [drG, if_neg (by omega)]
  | succ k ih =>
    simp only [drG, upd]
    by_cases h : i = t * 8 + k
    · subst h
      rw [if_pos rfl, if_pos (by omega)]
      congr 1
      omega
    · rw [if_neg h, ih]
      by_cases h2 : t * 8 ≤ i ∧ i < t * 8 + k
      · rw [if_pos h2, if_pos (by omega)]
      · rw [if_neg h2, if_neg (by omega)]
def skp (j i : Nat) : Nat := if i < j then i else i + 1
theorem rng_del (j n : Nat) (hj : j < n) : (List.range (n - 1)).map (skp j) = (List.range n).eraseIdx j := by
  apply List.ext_getElem?
  intro i
  rw [List.getElem?_map, List.getElem?_eraseIdx]
  by_cases h : i < n - 1
  · rw [List.getElem?_range h]
    by_cases h2 : i < j
    · rw [if_pos h2, List.getElem?_range (by omega)]
      show some (skp j i) = some i
      unfold skp; rw [if_pos h2]
    · rw [if_neg h2, List.getElem?_range (by omega)]
      show some (skp j i) = some (i + 1)
      unfold skp; rw [if_neg h2]
  · have e1 : (List.range (n - 1))[i]? = none := List.getElem?_eq_none (by rw [List.length_range]; omega)
    rw [e1]
    by_cases h2 : i < j
    · omega
    · rw [if_neg h2, List.getElem?_eq_none (by rw [List.length_range]; omega)]
      rfl
theorem rws_del {cI : ClassId} {a : Nat → Nat} {F : Nat → Nat → Int32} {n j : Nat} (hj : j < n) : (rws cI (shA a j) n9 (fun c => F (skp j c)) (n - 1)).Sublist (rws cI a n9 F n) := by
  have e : rws cI (shA a j) n9 (fun c => F (skp j c)) (n - 1) = ((List.range (n - 1)).map (skp j)).map (fun i => (a i, (.inl (cI, n9 i, .inl (F i)) : va_E))) := by
    unfold rws
    rw [List.map_map]
    apply List.map_congr_left
    intro i _
    have e1 : shA a j i = a (skp j i) := by
      unfold shA skp
      by_cases h : i < j
      · rw [if_pos h, if_pos h]
      · rw [if_neg h, if_neg h]
    show (shA a j i, (.inl (cI, n9 i, .inl (F (skp j i))) : va_E)) = (a (skp j i), _)
    rw [e1]
    rfl
  rw [e, rng_del j n hj]
  unfold rws
  exact (List.eraseIdx_sublist _ _).map _
theorem crF_del {Y : Nat → Nat} {G : Nat → Int32} {nc j c i : Nat} (hj : j < nc) (hc : c < nc - 1) (hi : i < 9) : crF Y G (skp j c) i = crF (shY Y j (nc - 1 - j)) (shG G j (nc - 1 - j)) c i := by
  unfold crF skp
  by_cases h0 : i = 0
  · rw [if_pos h0, if_pos h0, shY_at]
    by_cases h : c < j
    · rw [if_pos h, if_neg (by omega)]
    · rw [if_neg h, if_pos (by omega)]
  · rw [if_neg h0, if_neg h0, shG_at]
    by_cases h : c < j
    · rw [if_pos h, if_neg (by omega)]
    · rw [if_neg h, if_pos (by omega)]
      congr 1
      omega
theorem pool_delP {D : va_G} {cl : List vw_C} {H : Heap} {X L : va_W} {cI : ClassId} {aC Y : Nat → Nat} {G : Nat → Int32} {nc j : Nat} (hj : j < nc) (h : va_P D cl (X ++ (L ++ rws cI aC n9 (crF Y G) nc)) H) : va_P D cl (X ++ (L ++ rws cI (shA aC j) n9 (crF (shY Y j (nc - 1 - j)) (shG G j (nc - 1 - j))) (nc - 1))) H := by
  have h1 := kP_sl (ws' := X ++ (L ++ rws cI (shA aC j) n9 (fun c => crF Y G (skp j c)) (nc - 1))) (List.Sublist.append_left (List.Sublist.append_left (rws_del hj) L) X) h
  exact kP_rws2 (fun c hc => ⟨rfl, fun i hi => crF_del hj hc hi⟩) h1
theorem pool_delD {A : Nat → Prop} {X L : va_W} {cI : ClassId} {aC Y : Nat → Nat} {G : Nat → Int32} {nc j : Nat} (hj : j < nc) (h : va_D A (X ++ (L ++ rws cI aC n9 (crF Y G) nc))) : va_D A (X ++ (L ++ rws cI (shA aC j) n9 (crF (shY Y j (nc - 1 - j)) (shG G j (nc - 1 - j))) (nc - 1))) := by
  have h1 := kD_sl (ws' := X ++ (L ++ rws cI (shA aC j) n9 (fun c => crF Y G (skp j c)) (nc - 1))) (List.Sublist.append_left (List.Sublist.append_left (rws_del hj) L) X) h
  exact kD_rws2 h1
theorem pool_addP {D : va_G} {cl : List vw_C} {H : Heap} {X L : va_W} {cI : ClassId} {aC Y : Nat → Nat} {G f : Nat → Int32} {nc y q : Nat} (h : va_P D cl (X ++ ((L ++ rws cI aC n9 (crF Y G) nc) ++ [(q, .inl (cI, 9, .inl (crW y f 8)))])) H) : va_P D cl (X ++ (L ++ rws cI (upN aC nc q) n9 (crF (upN Y nc y) (drG G nc f 8)) (nc + 1))) H := by
  refine kP_eqv (fun x hx => ?_) h
  rcases List.mem_append.mp hx with h1 | h1
  · exact ⟨x, List.mem_append_left _ h1, id⟩
  rcases List.mem_append.mp h1 with h2 | h2
  · exact ⟨x, List.mem_append_right _ (List.mem_append_left _ (List.mem_append_left _ h2)), id⟩
  obtain ⟨i, hi, rfl⟩ := List.mem_map.mp h2
  have hi := List.mem_range.mp hi
  by_cases e : i = nc
  · subst e
    refine ⟨_, List.mem_append_right _ (List.mem_append_right _ (List.mem_singleton.mpr rfl)), ?_⟩
    rw [show upN aC i q i = q from if_pos rfl]
    refine at_i rfl (fun z hz => ?_)
    unfold crW crF
    by_cases h0 : z = 0
    · rw [if_pos h0, if_pos h0]
      simp only [upN, if_pos]
    · rw [if_neg h0, if_neg h0, if_pos (by omega), drG_at, if_pos (by omega)]
      congr 1
      omega
  · refine ⟨_, List.mem_append_right _ (List.mem_append_left _ (List.mem_append_right _ (rws_mem (show i < nc by omega)))), ?_⟩
    rw [show upN aC nc q i = aC i from if_neg e]
    refine at_i rfl (fun z hz => ?_)
    have hz9 : z < 9 := hz
    unfold crF
    by_cases h0 : z = 0
    · rw [if_pos h0, if_pos h0]
      simp only [upN, if_neg e]
    · rw [if_neg h0, if_neg h0, drG_at, if_neg (by omega)]
theorem pool_addD {A : Nat → Prop} {X L : va_W} {cI : ClassId} {aC Y : Nat → Nat} {G f : Nat → Int32} {nc y q : Nat} (h : va_D A (X ++ ((L ++ rws cI aC n9 (crF Y G) nc) ++ [(q, .inl (cI, 9, .inl (crW y f 8)))]))) : va_D A (X ++ (L ++ rws cI (upN aC nc q) n9 (crF (upN Y nc y) (drG G nc f 8)) (nc + 1))) := by
  refine kD_eqv ?_ h
  have e : ((rws cI (upN aC nc q) n9 (crF (upN Y nc y) (drG G nc f 8)) (nc + 1)).map (·.1)) = (rws cI aC n9 (crF Y G) nc).map (·.1) ++ [q] := by
    rw [rws_succ, List.map_append]
    have e2 : upN aC nc q nc = q := if_pos rfl
    rw [e2]
    congr 1
    unfold rws
    rw [List.map_map, List.map_map]
    apply List.map_congr_left
    intro i hi
    have hi := List.mem_range.mp hi
    exact if_neg (by omega)
  simp only [List.map_append, e, List.map_cons, List.map_nil, List.append_assoc]

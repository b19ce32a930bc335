/-! 06b: rows of rows, worlds with a pool, contracts that may read the script -/
def kJ (cI cQ : ClassId) (U : State) : Prop := (Cond.arrayOver (.array .int)).before #[] U = true ∧ U.vm.findClass "[[I" = some cQ ∧ (∃ k : Class, U.vm.classes[cQ]? = some k ∧ k.kind = .array cI (.array .int)) ∧ va_Nw (.methodLinkNest RL 69 yX4_init "GlacierYearsLaw") U
theorem kJ.moved {cI cQ : ClassId} {u U : State} (hW : u.WarmedH U.vm) (h : kJ cI cQ u) : kJ cI cQ U := by
  obtain ⟨h1, h0, ⟨k, h2, h3⟩, h4⟩ := h
  obtain ⟨k', hk', he⟩ := hW.alike.2.2 _ _ h2
  exact ⟨over_moved hW.alike h1, by rw [hW.alike.findClass]; exact h0, ⟨k', hk', by rw [he]; exact h3⟩, va_Nw.warmM hW h4⟩
theorem kJ.same {cI cQ : ClassId} {u U : State} (hv : u.vm = U.vm) (h : kJ cI cQ u) : kJ cI cQ U := by
  obtain ⟨h1, h0, ⟨k, h2, h3⟩, h4⟩ := h
  have hal : u.vm.Alike U.vm := by rw [← hv]; exact Vm.Alike.refl u.vm
  exact ⟨over_moved hal h1, by rw [← hv]; exact h0, ⟨k, by rw [← hv]; exact h2, h3⟩, va_Nw.same rfl hv h4⟩
def kS (sc : Option (Nat × Nat × (Nat → Int32))) (A : Nat → Prop) (U : State) : Prop := match sc with
  | none => True
  | some (b, L, xs) => va_X b L xs U U.heap ∧ ¬ A b
theorem kS_pass {sc : Option (Nat × Nat × (Nat → Int32))} {A F : Nat → Prop} {s U : State} {H : Heap} {locs : List Loc} (h : kS sc A s) (hS : va_S A s.heap H locs) (hF : ∀ q, F q → A q) (hv : s.vm.Alike U.vm) (hU : U.heap = H) : kS sc F U := by
  match sc, h with
  | none, _ => trivial
  | some (b, L, xs), h =>
    obtain ⟨hX, hbA⟩ := h
    have hlt : b < s.heap.size := by
      obtain ⟨scr, h1, -⟩ := hX
      exact (Array.getElem?_eq_some_iff.mp h1).1
    refine ⟨?_, fun q => hbA (hF _ q)⟩
    rw [hU]
    exact (hX.kept (hS.2.1 b hlt hbA)).moved hv
def kN (l : Launch) (y : MethodName) (wd : List Cond) (rm : Room) (D : va_G) (tys : List (ClassId × FieldType)) (cI cQ : ClassId) (sc : Option (Nat × Nat × (Nat → Int32))) (av : List Value) (w : va_W) {S : Type} (post : S → Prop) (rho : S → Option Value) (w' : S → va_W) : Prop :=
  ∀ sz : Nat, Met l y wd rm (va_Pc av (fun U => kB D tys w sz U ∧ kJ cI cQ U ∧ kS sc (va_A w sz) U)) (kQ post rho (fun u t => kE D tys (va_A w sz) (w' u) t) (va_A w sz)) rm.cells rm.slots (va_A w sz)
theorem kBN_blind {av : List Value} {D : va_G} {tys : List (ClassId × FieldType)} {w : va_W} {sz : Nat} {cI cQ : ClassId} {sc : Option (Nat × Nat × (Nat → Int32))} : FrameBlind (va_Pc av (fun U => kB D tys w sz U ∧ kJ cI cQ U ∧ kS sc (va_A w sz) U)) := fun a U g mk q => by
  obtain ⟨q0, ⟨q1, qP, qK, qD⟩, qJ, qS⟩ := q
  refine ⟨q0, ⟨q1, qP, va_K.moved (u := U) (U := U.calling g mk a) (Vm.Alike.refl U.vm) qK, qD⟩, kJ.same (u := U) (U := U.calling g mk a) rfl qJ, ?_⟩
  match sc, qS with
  | none, _ => trivial
  | some (b, L, xs), qS => exact ⟨va_X.moved (u := U) (U := U.calling g mk a) (Vm.Alike.refl U.vm) qS.1, qS.2⟩
theorem kN_of {l : Launch} {y : MethodName} {wd : List Cond} {rm : Room} {D : va_G} {tys : List (ClassId × FieldType)} {cI cQ : ClassId} {sc : Option (Nat × Nat × (Nat → Int32))} {av : List Value} {w : va_W} {S : Type} {post : S → Prop} {rho : S → Option Value} {w' : S → va_W} {cc : ByteArray} {maxL : Nat} {ret : Option FieldType} {ws' : List Cond} {own : String}
    (hy : plainName y.cls = true) (hw : wd = Cond.code y cc maxL ret :: ws') (hC : y.cls = own) (hn : (lg_sl av).length ≤ maxL)
    (body : ∀ (p : Program) (e : Env) (s : State) (m : MethodId) (args : Array Value) (below : List Frame) (meth : Method) (c : Code) (A : Nat → Prop) (ls : Array Slot) (Qz : State → Prop), p.tables.exec = Jvm.exec → c.code = cc → c.maxLocals = maxL → meth.sig.returnType = ret → (∀ w ∈ wd, w.before args s = true) → s.vm.findClass own = some m.cls → meth.locks = false → (y.name = "<init>" → meth.name = "<init>") → Qz = MQ below (kQ post rho (fun u t => kE D tys A (w' u) t) A) args s rm.cells rm.slots A → (∀ q : Nat, s.heap.size ≤ q → A q) → va_S A s.heap s.heap [] → va_P D vwCl w s.heap → va_D A w → va_K D vwCl tys s → kJ cI cQ s → kS sc A s → lv_has ls maxL (lv_args 0 av) →
      W p l e rm s m args below meth c s.heap [] 0 0 Qz (F0 m 0 ls [])) : kN l y wd rm D tys cI cQ sc av w post rho w' := by
  intro sz
  refine Met.ofW (cc := cc) (maxL := maxL) (ret := ret) hy hw ?_
  intro p e s m args below meth c s₁ B hml hv
  obtain ⟨rfl, ⟨hsz, hP, hK, hD0⟩, hJ, hs⟩ := hv
  subst hsz
  have hl := lv_entry av (n := maxL) hn
  rw [lg_entry_eq]
  generalize (lg_sl av ++ List.replicate (maxL - (lg_sl av).length) Slot.unset).toArray = ls at hl ⊢
  exact body p e s m av.toArray below meth c (va_A w s.heap.size) ls _ B.exec B.bytes hml B.returns (atoms_spec (ws := wd) B.pre) (by rw [← hC]; exact findClass_of_methodNamed B.named) B.notSynchronized (fun h => by rw [(name_of_methodNamed B.named B.method).1]; exact h) rfl (fun q h => Or.inr h) va_S.rf hP hD0.self hK hJ hs hl
theorem kP_mem {D : va_G} {cl : List vw_C} {ws : va_W} {H : Heap} : va_P D cl ws H ↔ ∀ q ∈ ws, va_at D cl q H := by
  constructor
  · intro h q hq
    obtain ⟨k, hk⟩ := List.getElem?_of_mem hq
    exact h k q hk
  · intro h k q hk
    exact h q (List.mem_of_getElem? hk)
theorem kD_iff {A : Nat → Prop} {ws : va_W} : va_D A ws ↔ (ws.map (·.1)).Nodup ∧ ∀ q ∈ ws, A q.1 := by
  constructor
  · intro h
    refine ⟨?_, fun q hq => ?_⟩
    · refine List.pairwise_iff_getElem.mpr (fun i j hi hj hij e => ?_)
      rw [List.length_map] at hi hj
      rw [List.getElem_map, List.getElem_map] at e
      have := h.1 i j _ _ (List.getElem?_eq_getElem hi) (List.getElem?_eq_getElem hj) e
      omega
    · obtain ⟨k, hk⟩ := List.getElem?_of_mem hq
      exact h.2 k q hk
  · intro h
    refine ⟨fun i j x y hx hy hxy => ?_, fun k q hk => h.2 q (List.mem_of_getElem? hk)⟩
    have h1 := List.pairwise_iff_getElem.mp h.1
    obtain ⟨lx, ex⟩ := List.getElem?_eq_some_iff.mp hx
    obtain ⟨ly, ey⟩ := List.getElem?_eq_some_iff.mp hy
    have lx2 : i < (ws.map (·.1)).length := by rw [List.length_map]; exact lx
    have ly2 : j < (ws.map (·.1)).length := by rw [List.length_map]; exact ly
    rcases Nat.lt_trichotomy i j with q | q | q
    · exact absurd (by rw [List.getElem_map, List.getElem_map, ex, ey]; exact hxy) (h1 i j lx2 ly2 q)
    · exact q
    · exact absurd (by rw [List.getElem_map, List.getElem_map, ex, ey]; exact hxy.symm) (h1 j i ly2 lx2 q)
theorem kP_perm {D : va_G} {cl : List vw_C} {ws ws' : va_W} {H : Heap} (e : ws.Perm ws') (h : va_P D cl ws H) : va_P D cl ws' H :=
  kP_mem.mpr fun q hq => kP_mem.mp h q (e.mem_iff.mpr hq)
theorem kD_perm {A : Nat → Prop} {ws ws' : va_W} (e : ws.Perm ws') (h : va_D A ws) : va_D A ws' := by
  obtain ⟨h1, h2⟩ := kD_iff.mp h
  exact kD_iff.mpr ⟨((e.map (·.1)).nodup_iff).mp h1, fun q hq => h2 q (e.mem_iff.mpr hq)⟩
theorem kP_sl {D : va_G} {cl : List vw_C} {ws ws' : va_W} {H : Heap} (e : ws'.Sublist ws) (h : va_P D cl ws H) : va_P D cl ws' H :=
  kP_mem.mpr fun q hq => kP_mem.mp h q (e.subset hq)
theorem kD_sl {A : Nat → Prop} {ws ws' : va_W} (e : ws'.Sublist ws) (h : va_D A ws) : va_D A ws' := by
  obtain ⟨h1, h2⟩ := kD_iff.mp h
  exact kD_iff.mpr ⟨h1.sublist (e.map (·.1)), fun q hq => h2 q (e.subset hq)⟩
theorem kP_l {D : va_G} {cl : List vw_C} {a b : va_W} {H : Heap} (h : va_P D cl (a ++ b) H) : va_P D cl a H := kP_sl (List.sublist_append_left a b) h
theorem kD_l {A : Nat → Prop} {a b : va_W} (h : va_D A (a ++ b)) : va_D A a := kD_sl (List.sublist_append_left a b) h
theorem kW_in (X pl : va_W) (q : Nat × va_E) : ((X ++ [q]) ++ pl).Perm (X ++ (pl ++ [q])) := by
  rw [List.append_assoc]
  exact List.Perm.append_left X List.perm_append_comm
theorem kW_out (X pl : va_W) (q : Nat × va_E) : (X ++ (pl ++ [q])).Perm ((X ++ [q]) ++ pl) := (kW_in X pl q).symm
theorem kW_mid (X a b : va_W) (q : Nat × va_E) : (X ++ ((a ++ b) ++ [q])).Perm (X ++ ((a ++ [q]) ++ b)) := by
  refine List.Perm.append_left X ?_
  rw [List.append_assoc, List.append_assoc]
  exact List.Perm.append_left a List.perm_append_comm
theorem kpos {X pl : va_W} {q : Nat × va_E} (h : q ∈ pl) : ∃ k : Nat, (X ++ pl)[k]? = some q := List.getElem?_of_mem (List.mem_append_right X h)
/-- a world whose cells say the same, one behind another -/
theorem kP_eqv {D : va_G} {cl : List vw_C} {ws ws' : va_W} {H : Heap} (e : ∀ q ∈ ws', ∃ q0 ∈ ws, va_at D cl q0 H → va_at D cl q H) (h : va_P D cl ws H) : va_P D cl ws' H :=
  kP_mem.mpr fun q hq => by
    obtain ⟨q0, h0, h1⟩ := e q hq
    exact h1 (kP_mem.mp h q0 h0)
theorem kD_eqv {A : Nat → Prop} {ws ws' : va_W} (e : ws'.map (·.1) = ws.map (·.1)) (h : va_D A ws) : va_D A ws' := by
  obtain ⟨h1, h2⟩ := kD_iff.mp h
  refine kD_iff.mpr ⟨by rw [e]; exact h1, fun q hq => ?_⟩
  have : q.1 ∈ ws'.map (·.1) := List.mem_map.mpr ⟨q, hq, rfl⟩
  rw [e] at this
  obtain ⟨q0, h3, h4⟩ := List.mem_map.mp this
  rw [← h4]; exact h2 q0 h3
theorem arrV_congr {cA : ClassId} {N : Nat} {f g : Nat → Value} (h : ∀ i, i < N → f i = g i) : arrV cA N f = arrV cA N g := by
  unfold arrV
  congr 1
  apply Array.ext
  · simp
  · intro i h1 h2
    simp at h1
    simp [h i h1]
theorem at_i {D : va_G} {cl : List vw_C} {H : Heap} {a N N' : Nat} {cA : ClassId} {f g : Nat → Int32} (hN : N = N') (h : ∀ i, i < N → f i = g i) (q : va_at D cl (a, .inl (cA, N, .inl f)) H) : va_at D cl (a, .inl (cA, N', .inl g)) H := by
  subst hN
  have q : H[a]? = some (vp_cell cA (N, .inl f)) := q
  show H[a]? = some (vp_cell cA (N, .inl g))
  rw [q, vp_cell_i, vp_cell_i, arrV_congr (fun i hi => congrArg Value.int (h i hi))]
theorem at_q {D : va_G} {cl : List vw_C} {H : Heap} {a N N' : Nat} {cA : ClassId} {f g : Nat → Option Nat} (hN : N = N') (h : ∀ i, i < N → f i = g i) (q : va_at D cl (a, .inl (cA, N, .inr (.inr (.inr (.inr f))))) H) : va_at D cl (a, .inl (cA, N', .inr (.inr (.inr (.inr g))))) H := by
  subst hN
  have q : H[a]? = some (vp_cell cA (N, .inr (.inr (.inr (.inr f))))) := q
  show H[a]? = some (vp_cell cA (N, .inr (.inr (.inr (.inr g)))))
  rw [q, vp_cell_q, vp_cell_q, arrV_congr (fun i hi => congrArg va_rf (h i hi))]
/-- one cell of a world, told otherwise -/
theorem kP_at {D : va_G} {cl : List vw_C} {ws ws' : va_W} {H : Heap} (q0 : Nat) {x y : Nat × va_E} (hx : ws[q0]? = some x) (hw : ws.set q0 y = ws') (h9 : va_at D cl x H → va_at D cl y H) (h : va_P D cl ws H) : va_P D cl ws' H := by
  subst hw
  intro k q hk
  by_cases e : q0 = k
  · subst e
    have hl : q0 < ws.length := (List.getElem?_eq_some_iff.mp hx).1
    rw [List.getElem?_set_self hl] at hk
    cases hk
    exact h9 (h q0 x hx)
  · rw [List.getElem?_set_ne e] at hk
    exact h k q hk
theorem kD_at {A : Nat → Prop} {ws ws' : va_W} (q0 : Nat) {x y : Nat × va_E} (hx : ws[q0]? = some x) (hw : ws.set q0 y = ws') (h9 : y.1 = x.1) (h : va_D A ws) : va_D A ws' := by
  subst hw
  refine kD_eqv ?_ h
  apply List.ext_getElem?
  intro k
  rw [List.getElem?_map, List.getElem?_map]
  by_cases e : q0 = k
  · subst e
    have hl : q0 < ws.length := (List.getElem?_eq_some_iff.mp hx).1
    rw [List.getElem?_set_self hl, hx]
    exact congrArg some h9
  · rw [List.getElem?_set_ne e]
/-- rows one behind another -/
def rws (cI : ClassId) (a N : Nat → Nat) (F : Nat → Nat → Int32) (n : Nat) : va_W := (List.range n).map (fun i => (a i, .inl (cI, N i, .inl (F i))))
theorem rws_mem {cI : ClassId} {a N : Nat → Nat} {F : Nat → Nat → Int32} {n i : Nat} (h : i < n) : (a i, (.inl (cI, N i, .inl (F i)) : va_E)) ∈ rws cI a N F n := List.mem_map.mpr ⟨i, List.mem_range.mpr h, rfl⟩
theorem rws_zero (cI : ClassId) (a N : Nat → Nat) (F : Nat → Nat → Int32) : rws cI a N F 0 = [] := rfl
theorem rws_succ (cI : ClassId) (a N : Nat → Nat) (F : Nat → Nat → Int32) (n : Nat) : rws cI a N F (n + 1) = rws cI a N F n ++ [(a n, .inl (cI, N n, .inl (F n)))] := by
  unfold rws
  rw [List.range_succ, List.map_append]
  rfl
theorem rws_congr {cI : ClassId} {a a' N N' : Nat → Nat} {F F' : Nat → Nat → Int32} {n : Nat} (h : ∀ i, i < n → a i = a' i ∧ N i = N' i ∧ F i = F' i) : rws cI a N F n = rws cI a' N' F' n := by
  unfold rws
  apply List.map_congr_left
  intro i hi
  obtain ⟨h1, h2, h3⟩ := h i (List.mem_range.mp hi)
  rw [h1, h2, h3]
/-- the rows told otherwise, each at its own address -/
theorem kP_rws {D : va_G} {cl : List vw_C} {H : Heap} {X Y : va_W} {cI : ClassId} {a N N' : Nat → Nat} {F F' : Nat → Nat → Int32} {n : Nat} (h : ∀ i, i < n → N i = N' i ∧ ∀ j, j < N i → F i j = F' i j) (hP : va_P D cl (X ++ (rws cI a N F n ++ Y)) H) : va_P D cl (X ++ (rws cI a N' F' n ++ Y)) H := by
  refine kP_eqv (fun q hq => ?_) hP
  rcases List.mem_append.mp hq with h1 | h1
  · exact ⟨q, List.mem_append_left _ h1, id⟩
  rcases List.mem_append.mp h1 with h2 | h2
  · obtain ⟨i, hi, rfl⟩ := List.mem_map.mp h2
    have hi := List.mem_range.mp hi
    exact ⟨_, List.mem_append_right _ (List.mem_append_left _ (rws_mem hi)), at_i (h i hi).1 (h i hi).2⟩
  · exact ⟨q, List.mem_append_right _ (List.mem_append_right _ h2), id⟩
theorem kD_rws {A : Nat → Prop} {X Y : va_W} {cI : ClassId} {a N N' : Nat → Nat} {F F' : Nat → Nat → Int32} {n : Nat} (hD : va_D A (X ++ (rws cI a N F n ++ Y))) : va_D A (X ++ (rws cI a N' F' n ++ Y)) := by
  refine kD_eqv ?_ hD
  simp only [rws, List.map_append, List.map_map]
  rfl
theorem kP_rws2 {D : va_G} {cl : List vw_C} {H : Heap} {X : va_W} {cI : ClassId} {Y : va_W} {a N N' : Nat → Nat} {F F' : Nat → Nat → Int32} {n : Nat} (h : ∀ i, i < n → N i = N' i ∧ ∀ j, j < N i → F i j = F' i j) (hP : va_P D cl (X ++ (Y ++ rws cI a N F n)) H) : va_P D cl (X ++ (Y ++ rws cI a N' F' n)) H := by
  refine kP_eqv (fun q hq => ?_) hP
  rcases List.mem_append.mp hq with h1 | h1
  · exact ⟨q, List.mem_append_left _ h1, id⟩
  rcases List.mem_append.mp h1 with h2 | h2
  · exact ⟨q, List.mem_append_right _ (List.mem_append_left _ h2), id⟩
  · obtain ⟨i, hi, rfl⟩ := List.mem_map.mp h2
    have hi := List.mem_range.mp hi
    exact ⟨_, List.mem_append_right _ (List.mem_append_right _ (rws_mem hi)), at_i (h i hi).1 (h i hi).2⟩
theorem kD_rws2 {A : Nat → Prop} {X Y : va_W} {cI : ClassId} {a N N' : Nat → Nat} {F F' : Nat → Nat → Int32} {n : Nat} (hD : va_D A (X ++ (Y ++ rws cI a N F n))) : va_D A (X ++ (Y ++ rws cI a N' F' n)) := by
  refine kD_eqv ?_ hD
  simp only [rws, List.map_append, List.map_map]
  rfl

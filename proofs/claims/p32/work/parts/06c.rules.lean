/-! 06c: instructions on rows of rows, calls over a world with a pool -/
section KV
variable {p : Program} {l : Launch} {e : Env} {R : Room} {s : State} {m : MethodId} {args : Array Value} {below : List Frame} {meth : Method} {c : Code} {H : Heap} {locs : List Loc} {cells slots : Nat} {Q : State → Prop}
variable {cc : ByteArray} {pc : Nat} {ls : Array Slot} {rest : List Value} {D : va_G} {tys : List (ClassId × FieldType)} {A : Nat → Prop} {ws : va_W} {a : Nat} {cI cQ : ClassId}
theorem k_anewq (hx : p.tables.exec = Jvm.exec) (hb : c.code = cc) {own : String} {index : Nat} (hown : s.vm.findClass own = some m.cls) (hlink : (Cond.classLink own index "[I").before args s = true) (hJ : kJ cI cQ s) (hP : va_P D vwCl ws H) (hD : va_D A ws) (hS : va_S A s.heap H locs) (hA : ∀ q, s.heap.size ≤ q → A q)
    {n : Int32} {N9 k n2 : Nat} (hN : n.toNatClampNeg = N9) (hn : ¬ n < 0) (hbytes : N9 * 4 ≤ 536870912) (hk : cells + 1 ≤ k) (hs2 : slots + N9 ≤ n2) (hkR : k ≤ R.cells) (hnR : n2 ≤ R.slots) (hdg : decode cc pc = .ok (.anewarray index, 3))
    (kk : ∀ (q : Nat) (H1 : Heap), va_P D vwCl (ws ++ [(q, .inl (cQ, N9, .inr (.inr (.inr (.inr (fun _ => none))))))]) H1 → va_D A (ws ++ [(q, .inl (cQ, N9, .inr (.inr (.inr (.inr (fun _ => none))))))]) → va_S A s.heap H1 locs → W p l e R s m args below meth c H1 locs k n2 Q (F0 m (pc + 3) ls (.ref q :: rest))) : W p l e R s m args below meth c H locs cells slots Q (F0 m pc ls (.int n :: rest)) := by
  subst hN
  have e1 : (FieldType.array FieldType.int).toString = "[I" := by decide +kernel
  have e2 : ("[" ++ (FieldType.array FieldType.int).toString : String) = "[[I" := by decide +kernel
  have hover : (Cond.arrayOver (.array .int)).before args s = true := hJ.1
  refine W.anewA (t := .int) hx hb hown (by rw [e1]; exact hlink) hover rfl hdg rfl hn hbytes (Nat.le_trans hk hkR) (Nat.le_trans hs2 hnR) fun cA kA comp f1 f2 f3 f4 => ?_
  rw [e2] at f1
  have ec : cQ = cA := Option.some.inj (hJ.2.1.symm.trans f1)
  subst ec
  refine W.widen hk hs2 ?_
  have hlt : ∀ (i : Nat) (x : Nat × va_E), ws[i]? = some x → x.1 < H.size := fun i x hx => (hP i x hx).lt
  have hpre : ∀ q : Nat, q < H.size → (H.push ({ cls := cQ, slots := Array.replicate n.toNatClampNeg .null, vm := .none } : Cell))[q]? = H[q]? := fun q hq => by rw [Array.getElem?_push, if_neg (Nat.ne_of_lt hq)]
  have hnew : (H.push ({ cls := cQ, slots := Array.replicate n.toNatClampNeg .null, vm := .none } : Cell))[H.size]? = some (arrV cQ n.toNatClampNeg (fun _ => .null)) := by rw [Array.getElem?_push_size, ← arrV_new]
  have hsz : (H.push ({ cls := cQ, slots := Array.replicate n.toNatClampNeg .null, vm := .none } : Cell)).size = H.size + 1 := by rw [Array.size_push]
  refine kk H.size _ (kP_mem.mpr fun q hq => ?_) (hD.push hP rfl (hA _ hS.1)) ⟨Nat.le_trans hS.1 (by rw [hsz]; omega), fun q h1 h2 => (hpre q (Nat.lt_of_lt_of_le h1 hS.1)).trans (hS.2.1 q h1 h2), hS.2.2⟩
  rcases List.mem_append.mp hq with h | h
  · obtain ⟨i, hi⟩ := List.getElem?_of_mem h
    exact (hP i q hi).kept (hpre _ (hlt i q hi))
  · rcases List.mem_singleton.mp h with rfl
    show _ = some (vp_cell _ _)
    rw [vp_cell_q]
    exact hnew
theorem k_aald (hx : p.tables.exec = Jvm.exec) (hb : c.code = cc) (hK : va_K D vwCl tys s) (hP : va_P D vwCl ws H) (q0 t0 : Nat) {n : Nat} {f : Nat → Option Nat} (ha : ws[q0]? = some (a, .inl (cQ, n, .inr (.inr (.inr (.inr f)))))) (ht : tys[t0]? = some (cQ, .array .int)) {i v : Nat} (hi : i < n) (hn : n < 2147483648) (hv : f i = some v) (hdg : decode cc pc = .ok (.aaload, 1))
    (kk : W p l e R s m args below meth c H locs cells slots Q (F0 m (pc + 1) ls (.ref v :: rest))) : W p l e R s m args below meth c H locs cells slots Q (F0 m pc ls (.int (nI i) :: .ref a :: rest)) := by
  have hin := vp_in_nI hi hn
  have hc : (nI i).toNatClampNeg = i := nI_clamp (Nat.lt_trans hi hn)
  have hlt : (nI i).toNatClampNeg < n := by rw [hc]; exact hi
  refine W.aald (v := va_rf (f (nI i).toNatClampNeg)) (ty := .array .int) hx hb (hP q0 _ ha) ((hK.2 t0 _ ht).1 n (fun j => va_rf (f j))) rfl (fun q => by cases q) (by show ¬ (nI i < 0 ∨ (arrV _ _ _).slots.size ≤ _); rw [arrV_size]; exact hin) (by show (arrV _ _ _).slots[_]? = _; rw [arrV_read _ _ hlt]) rfl rfl hdg ?_
  rw [hc, hv]
  exact kk
theorem k_aast (hx : p.tables.exec = Jvm.exec) (hb : c.code = cc) (hK : va_K D vwCl tys s) (hJ : kJ cI cQ s) (hP : va_P D vwCl ws H) (hD : va_D A ws) (hS : va_S A s.heap H locs) (q0 t0 qk : Nat) {n v : Nat} {x : vp_A} {f : Nat → Option Nat} (ha : ws[q0]? = some (a, .inl (cQ, n, .inr (.inr (.inr (.inr f)))))) (ht : tys[t0]? = some (cI, .int)) (hv : ws[qk]? = some (v, .inl (cI, x))) {i : Nat} (hi : i < n) (hn : n < 2147483648) (hdg : decode cc pc = .ok (.aastore, 1)) {g : Nat → Option Nat} (hg : va_up f i (some v) = g) {w2 : va_W} (hw2 : ws.set q0 (a, .inl (cQ, n, .inr (.inr (.inr (.inr g))))) = w2)
    (kk : ∀ (H1 : Heap) (locs1 : List Loc), va_P D vwCl w2 H1 → va_D A w2 → va_S A s.heap H1 locs1 → W p l e R s m args below meth c H1 locs1 cells slots Q (F0 m (pc + 1) ls rest)) : W p l e R s m args below meth c H locs cells slots Q (F0 m pc ls (.ref v :: .int (nI i) :: .ref a :: rest)) := by
  subst hw2
  subst hg
  have hin := vp_in_nI hi hn
  have hc : (nI i).toNatClampNeg = i := nI_clamp (Nat.lt_trans hi hn)
  obtain ⟨-, -, ⟨kQ9, hkQ, hkind⟩, -⟩ := hJ
  have hcv : ∃ cv : Cell, H[v]? = some cv ∧ cv.cls = cI ∧ ∀ q, cv.vm ≠ .statics q := by
    have h9 : H[v]? = some (vp_cell cI x) := hP qk _ hv
    obtain ⟨N, f1 | f1 | f1 | f1 | f1⟩ := x
    all_goals exact ⟨_, h9, rfl, fun q h => by cases h⟩
  obtain ⟨cv, g1, g2, g3⟩ := hcv
  obtain ⟨-, kv, hkv, -⟩ := (hK.2 t0 _ ht).1 0 (fun _ => .null)
  have hkv : s.vm.classes[cI]? = some kv := hkv
  refine W.aast hx hb (hP q0 _ ha) (fun q h => by cases h) (fun h => by cases h) hkQ hkind rfl hkv ⟨fun q => hin (Or.inl q), by show _ < (arrV _ _ _).slots.size; rw [arrV_size, hc]; exact hi⟩ g1 g3 (by rw [g2]; exact hkv) (by rw [g2]; exact va_asg _ _) rfl rfl hdg fun H1 e z oq => ?_
  refine kk H1 _ (hP.set hD ha ?_ oq) (hD.set ha) (hS.put z oq (hD.2 q0 _ ha))
  show H1[a]? = some (vp_cell _ _)
  rw [e, vp_cell_q, vp_cell_q, arrV_store, hc]
  congr 2
  funext q
  by_cases hq : q = i
  · subst hq
    simp [updV, va_up, va_rf]
  · simp [updV, va_up, hq]
variable {Qz : State → Prop} {w : va_W} {S : Type} {post : S → Prop} {rho : S → Option Value} {w' : S → va_W} {mc ms : Nat}
theorem kM_aret {rt : FieldType} (hx : p.tables.exec = Jvm.exec) (hb : c.code = cc) (hr : meth.sig.returnType = some rt) (hrt : (∃ n, rt = .object n) ∨ ∃ t, rt = .array t) (hlk : meth.locks = false) (hQ : Qz = MQ below (kQ post rho (fun u t => kE D tys A (w' u) t) A) args s mc ms A) (hP : va_P D vwCl w H) (hD : va_D A w) (hK : va_K D vwCl tys s) (hS : va_S A s.heap H locs) (u : S) (hw : w' u = w) (hc : cells ≤ mc) (hs : slots ≤ ms) {v : Nat} (hv : rho u = some (.ref v)) (hp : post u) (hdg : decode cc pc = .ok (.areturn, 1)) :
    W p l e R s m args below meth c H locs cells slots Qz (F0 m pc ls [.ref v]) := by
  subst hQ
  refine W.widen hc hs ?_
  exact W.aret hx hb hr hrt (Or.inr ⟨v, rfl⟩) (fun t ht hW => ⟨⟨u, by rw [hv], hp, by rw [ht, hw]; exact hP, va_K.moved hW.alike hK, by rw [hw]; exact hD⟩, hS.F ht⟩) hS.2.2 hdg hlk
end KV
section KG
variable {p : Program} {l : Launch} {e : Env} {R : Room} {s : State} {m : MethodId} {args : Array Value} {below : List Frame} {meth : Method} {c : Code} {H : Heap} {locs : List Loc} {cells slots : Nat} {Q : State → Prop}
variable {D : va_G} {tys tysC : List (ClassId × FieldType)} {A : Nat → Prop} {X wc cx wr pl : va_W} {S : Type} {post : S → Prop} {rho : S → Option Value} {w' rx pl1 X2 : S → va_W} {cc : ByteArray} {pc : Nat} {ls : Array Slot} {rest st0 : List Value} {mc ms : Nat} {args2 : Array Value}
/-- behind a call of what had no pool -/
theorem kM_goQ (hr : va_Run p l e R s m args below meth c H locs cells slots mc ms (F0 m pc ls st0) rest (kQ post rho (fun u t => kE D tysC (va_A wc H.size) (w' u) t) (va_A wc H.size) args2) (va_A wc H.size))
    (hP : va_P D vwCl (X ++ pl) H) (hD : va_D A (X ++ pl)) (hS : va_S A s.heap H locs) (hA : ∀ q, s.heap.size ≤ q → A q)
    (isC isR : List Nat) (hC : isC.map (fun i => X[i]?) = wc.map some) (hR : isR.map (fun i => X[i]?) = wr.map some) (hRn : va_nd isR = true) (hdis : ∀ i ∈ isR, i ∉ isC)
    (is2 : List Nat) (h2n : va_nd is2 = true) (h2 : ∀ u, is2.map (fun i => (wr ++ w' u)[i]?) = (X2 u).map some) {k n2 : Nat} (hk : cells + mc ≤ k) (hn2 : slots + ms ≤ n2) {st2 : S → List Value} (hst : ∀ u, (rho u).toList ++ rest = st2 u)
    (kk : ∀ (u : S) (H1 : Heap) (locs1 : List Loc), post u → va_P D vwCl (X2 u ++ pl) H1 → va_D A (X2 u ++ pl) → va_S A s.heap H1 locs1 → W p l e R s m args below meth c H1 locs1 k n2 Q (F0 m (pc + 3) ls (st2 u))) :
    W p l e R s m args below meth c H locs cells slots Q (F0 m pc ls st0) := by
  intro T hT X9
  obtain ⟨v, st₀, t, T', L, h0, X', hL, e1, e2, ⟨⟨u, hv, hp, hP1, hK1, hD1⟩, hz, hk9⟩, st⟩ := hr T hT X9
  cases hv
  rw [h0] at hz hk9
  have hF : ∀ q, va_A wc H.size q → A q := fun q h => va_freeP (pl := pl) hD hS hA isC hC q (by
    rcases h with ⟨k, x, h⟩ | h
    · exact Or.inl ⟨k, x, by rw [List.getElem?_append_left (List.getElem?_eq_some_iff.mp h).1]; exact h⟩
    · exact Or.inr h)
  rw [← e1] at hP1 hz hk9
  obtain ⟨hP3, hD3⟩ := va_joinQ (wr := wr) (w1 := w' u) hP hD isC isR hC hR hRn hdis hk9 hF hP1 hD1
  have hP4 : va_P D vwCl (X2 u ++ pl) T'.heap := hP3.part is2 (h2 u)
  have hD4 : va_D A (X2 u ++ pl) := hD3.part is2 h2n (h2 u)
  have hS4 : va_S A s.heap T'.heap (locs ++ L) := ⟨Nat.le_trans hS.1 hz, fun q h1 h2 => by rw [hk9 q (Nat.lt_of_lt_of_le h1 hS.1) (fun z => h2 (hF q z))]; exact hS.2.1 q h1 h2, fun q hq => by
      rcases List.mem_append.mp hq with h | h
      · exact hS.2.2 q h
      · exact hF _ (hL q h)⟩
  obtain ⟨t2, a1, b1⟩ := kk u T'.heap (locs ++ L) hp hP4 hD4 hS4 T' rfl (stand_widen X' hk hn2)
  refine ⟨t2, st t2 ?_, b1⟩
  rw [← hst u] at a1
  exact a1
/-- behind a call of what had the pool -/
theorem kM_goP (hr : va_Run p l e R s m args below meth c H locs cells slots mc ms (F0 m pc ls st0) rest (kQ post rho (fun u t => kE D tysC (va_A (cx ++ pl) H.size) (rx u ++ pl1 u) t) (va_A (cx ++ pl) H.size) args2) (va_A (cx ++ pl) H.size))
    (hP : va_P D vwCl (X ++ pl) H) (hD : va_D A (X ++ pl)) (hS : va_S A s.heap H locs) (hA : ∀ q, s.heap.size ≤ q → A q)
    (isC isR : List Nat) (hC : isC.map (fun i => X[i]?) = cx.map some) (hR : isR.map (fun i => X[i]?) = wr.map some) (hRn : va_nd isR = true) (hdis : ∀ i ∈ isR, i ∉ isC)
    (is2 : List Nat) (h2n : va_nd is2 = true) (h2 : ∀ u, is2.map (fun i => (wr ++ rx u)[i]?) = (X2 u).map some) {k n2 : Nat} (hk : cells + mc ≤ k) (hn2 : slots + ms ≤ n2) {st2 : S → List Value} (hst : ∀ u, (rho u).toList ++ rest = st2 u)
    (kk : ∀ (u : S) (H1 : Heap) (locs1 : List Loc), post u → va_P D vwCl (X2 u ++ pl1 u) H1 → va_D A (X2 u ++ pl1 u) → va_S A s.heap H1 locs1 → W p l e R s m args below meth c H1 locs1 k n2 Q (F0 m (pc + 3) ls (st2 u))) :
    W p l e R s m args below meth c H locs cells slots Q (F0 m pc ls st0) := by
  intro T hT X9
  obtain ⟨v, st₀, t, T', L, h0, X', hL, e1, e2, ⟨⟨u, hv, hp, hP1, hK1, hD1⟩, hz, hk9⟩, st⟩ := hr T hT X9
  cases hv
  rw [h0] at hz hk9
  have hF : ∀ q, va_A (cx ++ pl) H.size q → A q := va_freeP hD hS hA isC hC
  rw [← e1] at hP1 hz hk9
  obtain ⟨hP3, hD3⟩ := va_joinP (wr := wr) hP hD isC isR hC hR hRn hdis hk9 hF hP1 hD1
  have hP4 : va_P D vwCl (X2 u ++ pl1 u) T'.heap := hP3.part is2 (h2 u)
  have hD4 : va_D A (X2 u ++ pl1 u) := hD3.part is2 h2n (h2 u)
  have hS4 : va_S A s.heap T'.heap (locs ++ L) := ⟨Nat.le_trans hS.1 hz, fun q h1 h2 => by rw [hk9 q (Nat.lt_of_lt_of_le h1 hS.1) (fun z => h2 (hF q z))]; exact hS.2.1 q h1 h2, fun q hq => by
      rcases List.mem_append.mp hq with h | h
      · exact hS.2.2 q h
      · exact hF _ (hL q h)⟩
  obtain ⟨t2, a1, b1⟩ := kk u T'.heap (locs ++ L) hp hP4 hD4 hS4 T' rfl (stand_widen X' hk hn2)
  refine ⟨t2, st t2 ?_, b1⟩
  rw [← hst u] at a1
  exact a1
variable {y : MethodName} {bytes : ByteArray} {maxL nL n index : Nat} {ret : Option FieldType} {wd : List Cond} {rm : Room} {Ts : List Cond} {own C : String} {b : Addr} {As : List Value} {cI cQ : ClassId} {sc : Option (Nat × Nat × (Nat → Int32))}
theorem kQ_callV (F : CallFix p m c cc nL s args Ts own) (hM : kM l y wd rm D tysC (Value.ref b :: As) wc post rho w') (cw : CallW R s args own C index y bytes maxL ret wd rm rm.cells rm.slots n) (q0 : Nat) {ci : Nat} {fs : List Value} {rr : vw_C} (hq : X[q0]? = some (b, .inr (ci, fs))) (hc : vwCl[ci]? = some rr) (hCC : rr.1 = C)
    (isT : List Nat) (hT : isT.filterMap (fun i => tys[i]?) = tysC) (hK : va_K D vwCl tys s) (hP : va_P D vwCl (X ++ pl) H) (hD : va_D A (X ++ pl)) (hS : va_S A s.heap H locs) (hA : ∀ q, s.heap.size ≤ q → A q)
    (isC isR : List Nat) (hC : isC.map (fun i => X[i]?) = wc.map some) (hCn : va_nd isC = true) (hR : isR.map (fun i => X[i]?) = wr.map some) (hRn : va_nd isR = true) (hdis : ∀ i ∈ isR, i ∉ isC)
    (is2 : List Nat) (h2n : va_nd is2 = true) (h2 : ∀ u, is2.map (fun i => (wr ++ w' u)[i]?) = (X2 u).map some) {k n2 : Nat} (hk : cells + rm.cells ≤ k) (hn2 : slots + rm.slots ≤ n2) (hkR : k ≤ R.cells) (hnR : n2 ≤ R.slots)
    (hn : As.length = n) (hl : ls.size = nL) (hW : (rest.map fun v => v.category).sum ≤ 8) {st2 : S → List Value} (hst : ∀ u, (rho u).toList ++ rest = st2 u) (hst0 : st0 = As.reverse ++ .ref b :: rest) (hdg : decode cc pc = .ok (.invokevirtual index, 3))
    (kk : ∀ (u : S) (H1 : Heap) (locs1 : List Loc), post u → va_P D vwCl (X2 u ++ pl) H1 → va_D A (X2 u ++ pl) → va_S A s.heap H1 locs1 → W p l e R s m args below meth c H1 locs1 k n2 Q (F0 m (pc + 3) ls (st2 u))) :
    W p l e R s m args below meth c H locs cells slots Q (F0 m pc ls st0) :=
  kM_goQ (mc := rm.cells) (ms := rm.slots) (va_runV (As := As) (rest := rest) F (hM H.size) cw ⟨kB_blind, hCC ▸ va_recv hK (kP_l hP) hc hq, fun U hU hW => ⟨rfl, by rw [hU], by rw [hU]; exact kP_l (hP.part isC hC), va_K.moved hW.alike (hK.sub isT hT), (kD_l (hD.part isC hCn hC)).weaken (fun _ _ _ _ => trivial)⟩⟩ rfl hn hl hst0 (lv_room hW) hdg ⟨Nat.le_trans hk hkR, Nat.le_trans hn2 hnR⟩) hP hD hS hA isC isR hC hR hRn hdis is2 h2n h2 hk hn2 hst kk
theorem kQ_callS (F : CallFix p m c cc nL s args Ts own) (hM : kM l y wd rm D tysC As wc post rho w') (cw : CallB R s args own index y bytes maxL ret wd rm rm.cells rm.slots n ∧ (Cond.static y).before args s = true)
    (isT : List Nat) (hT : isT.filterMap (fun i => tys[i]?) = tysC) (hK : va_K D vwCl tys s) (hP : va_P D vwCl (X ++ pl) H) (hD : va_D A (X ++ pl)) (hS : va_S A s.heap H locs) (hA : ∀ q, s.heap.size ≤ q → A q)
    (isC isR : List Nat) (hC : isC.map (fun i => X[i]?) = wc.map some) (hCn : va_nd isC = true) (hR : isR.map (fun i => X[i]?) = wr.map some) (hRn : va_nd isR = true) (hdis : ∀ i ∈ isR, i ∉ isC)
    (is2 : List Nat) (h2n : va_nd is2 = true) (h2 : ∀ u, is2.map (fun i => (wr ++ w' u)[i]?) = (X2 u).map some) {k n2 : Nat} (hk : cells + rm.cells ≤ k) (hn2 : slots + rm.slots ≤ n2) (hkR : k ≤ R.cells) (hnR : n2 ≤ R.slots)
    (hn : As.length = n) (hl : ls.size = nL) (hW : (rest.map fun v => v.category).sum ≤ 8) {st2 : S → List Value} (hst : ∀ u, (rho u).toList ++ rest = st2 u) (hst0 : st0 = As.reverse ++ rest) (hdg : decode cc pc = .ok (.invokestatic index, 3))
    (kk : ∀ (u : S) (H1 : Heap) (locs1 : List Loc), post u → va_P D vwCl (X2 u ++ pl) H1 → va_D A (X2 u ++ pl) → va_S A s.heap H1 locs1 → W p l e R s m args below meth c H1 locs1 k n2 Q (F0 m (pc + 3) ls (st2 u))) :
    W p l e R s m args below meth c H locs cells slots Q (F0 m pc ls st0) :=
  kM_goQ (mc := rm.cells) (ms := rm.slots) (va_runS (As := As) (rest := rest) F (hM H.size) cw ⟨kB_blind, fun U hU hW => ⟨rfl, by rw [hU], by rw [hU]; exact kP_l (hP.part isC hC), va_K.moved hW.alike (hK.sub isT hT), (kD_l (hD.part isC hCn hC)).weaken (fun _ _ _ _ => trivial)⟩⟩ rfl hn hl hst0 (lv_room hW) hdg ⟨Nat.le_trans hk hkR, Nat.le_trans hn2 hnR⟩) hP hD hS hA isC isR hC hR hRn hdis is2 h2n h2 hk hn2 hst kk
/-- a call of what reads the script, without the pool -/
theorem kR_callS (F : CallFix p m c cc nL s args Ts own) (hM : kN l y wd rm D tysC cI cQ sc As wc post rho w') (cw : CallB R s args own index y bytes maxL ret wd rm rm.cells rm.slots n ∧ (Cond.static y).before args s = true)
    (isT : List Nat) (hT : isT.filterMap (fun i => tys[i]?) = tysC) (hK : va_K D vwCl tys s) (hJ : kJ cI cQ s) (hsc : kS sc A s) (hP : va_P D vwCl (X ++ pl) H) (hD : va_D A (X ++ pl)) (hS : va_S A s.heap H locs) (hA : ∀ q, s.heap.size ≤ q → A q)
    (isC isR : List Nat) (hC : isC.map (fun i => X[i]?) = wc.map some) (hCn : va_nd isC = true) (hR : isR.map (fun i => X[i]?) = wr.map some) (hRn : va_nd isR = true) (hdis : ∀ i ∈ isR, i ∉ isC)
    (is2 : List Nat) (h2n : va_nd is2 = true) (h2 : ∀ u, is2.map (fun i => (wr ++ w' u)[i]?) = (X2 u).map some) {k n2 : Nat} (hk : cells + rm.cells ≤ k) (hn2 : slots + rm.slots ≤ n2) (hkR : k ≤ R.cells) (hnR : n2 ≤ R.slots)
    (hn : As.length = n) (hl : ls.size = nL) (hW : (rest.map fun v => v.category).sum ≤ 8) {st2 : S → List Value} (hst : ∀ u, (rho u).toList ++ rest = st2 u) (hst0 : st0 = As.reverse ++ rest) (hdg : decode cc pc = .ok (.invokestatic index, 3))
    (kk : ∀ (u : S) (H1 : Heap) (locs1 : List Loc), post u → va_P D vwCl (X2 u ++ pl) H1 → va_D A (X2 u ++ pl) → va_S A s.heap H1 locs1 → W p l e R s m args below meth c H1 locs1 k n2 Q (F0 m (pc + 3) ls (st2 u))) :
    W p l e R s m args below meth c H locs cells slots Q (F0 m pc ls st0) :=
  kM_goQ (mc := rm.cells) (ms := rm.slots) (va_runS (As := As) (rest := rest) F (hM H.size) cw ⟨kBN_blind, fun U hU hW => ⟨rfl, ⟨by rw [hU], by rw [hU]; exact kP_l (hP.part isC hC), va_K.moved hW.alike (hK.sub isT hT), (kD_l (hD.part isC hCn hC)).weaken (fun _ _ _ _ => trivial)⟩, hJ.moved hW, kS_pass hsc hS (fun q h => va_freeP (pl := pl) hD hS hA isC hC q (by
    rcases h with ⟨k, x, h⟩ | h
    · exact Or.inl ⟨k, x, by rw [List.getElem?_append_left (List.getElem?_eq_some_iff.mp h).1]; exact h⟩
    · exact Or.inr h)) hW.alike hU⟩⟩ rfl hn hl hst0 (lv_room hW) hdg ⟨Nat.le_trans hk hkR, Nat.le_trans hn2 hnR⟩) hP hD hS hA isC isR hC hR hRn hdis is2 h2n h2 hk hn2 hst kk
theorem kR_callI {host : String} (F : CallFix p m c cc nL s args Ts own) (hM : kN l y wd rm D tysC cI cQ sc (Value.ref b :: As) wc post rho w') (cw : va_CN R s args own index y host bytes maxL none wd rm rm.cells rm.slots n ∧ y.name = "<init>" ∧ (Cond.instanceMethod y).before args s = true)
    (isT : List Nat) (hT : isT.filterMap (fun i => tys[i]?) = tysC) (hK : va_K D vwCl tys s) (hJ : kJ cI cQ s) (hsc : kS sc A s) (hP : va_P D vwCl (X ++ pl) H) (hD : va_D A (X ++ pl)) (hS : va_S A s.heap H locs) (hA : ∀ q, s.heap.size ≤ q → A q)
    (isC isR : List Nat) (hC : isC.map (fun i => X[i]?) = wc.map some) (hCn : va_nd isC = true) (hR : isR.map (fun i => X[i]?) = wr.map some) (hRn : va_nd isR = true) (hdis : ∀ i ∈ isR, i ∉ isC)
    (is2 : List Nat) (h2n : va_nd is2 = true) (h2 : ∀ u, is2.map (fun i => (wr ++ w' u)[i]?) = (X2 u).map some) {k n2 : Nat} (hk : cells + rm.cells ≤ k) (hn2 : slots + rm.slots ≤ n2) (hkR : k ≤ R.cells) (hnR : n2 ≤ R.slots)
    (hn : As.length = n) (hl : ls.size = nL) (hW : (rest.map fun v => v.category).sum ≤ 8) {st2 : S → List Value} (hst : ∀ u, (rho u).toList ++ rest = st2 u) (hst0 : st0 = As.reverse ++ .ref b :: rest) (hdg : decode cc pc = .ok (.invokespecial index, 3))
    (kk : ∀ (u : S) (H1 : Heap) (locs1 : List Loc), post u → va_P D vwCl (X2 u ++ pl) H1 → va_D A (X2 u ++ pl) → va_S A s.heap H1 locs1 → W p l e R s m args below meth c H1 locs1 k n2 Q (F0 m (pc + 3) ls (st2 u))) :
    W p l e R s m args below meth c H locs cells slots Q (F0 m pc ls st0) :=
  kM_goQ (mc := rm.cells) (ms := rm.slots) (va_runIN (As := As) (rest := rest) F (hM H.size) cw ⟨kBN_blind, fun U hU hW => ⟨rfl, ⟨by rw [hU], by rw [hU]; exact kP_l (hP.part isC hC), va_K.moved hW.alike (hK.sub isT hT), (kD_l (hD.part isC hCn hC)).weaken (fun _ _ _ _ => trivial)⟩, hJ.moved hW, kS_pass hsc hS (fun q h => va_freeP (pl := pl) hD hS hA isC hC q (by
    rcases h with ⟨k, x, h⟩ | h
    · exact Or.inl ⟨k, x, by rw [List.getElem?_append_left (List.getElem?_eq_some_iff.mp h).1]; exact h⟩
    · exact Or.inr h)) hW.alike hU⟩⟩ rfl hn hl hst0 (lv_room hW) hdg ⟨Nat.le_trans hk hkR, Nat.le_trans hn2 hnR⟩) hP hD hS hA isC isR hC hR hRn hdis is2 h2n h2 hk hn2 hst kk
theorem kP_callV (F : CallFix p m c cc nL s args Ts own) (hM : kN l y wd rm D tysC cI cQ sc (Value.ref b :: As) (cx ++ pl) post rho (fun u => rx u ++ pl1 u)) (cw : CallW R s args own C index y bytes maxL ret wd rm rm.cells rm.slots n) (q0 : Nat) {ci : Nat} {fs : List Value} {rr : vw_C} (hq : X[q0]? = some (b, .inr (ci, fs))) (hc : vwCl[ci]? = some rr) (hCC : rr.1 = C)
    (isT : List Nat) (hT : isT.filterMap (fun i => tys[i]?) = tysC) (hK : va_K D vwCl tys s) (hJ : kJ cI cQ s) (hsc : kS sc A s) (hP : va_P D vwCl (X ++ pl) H) (hD : va_D A (X ++ pl)) (hS : va_S A s.heap H locs) (hA : ∀ q, s.heap.size ≤ q → A q)
    (isC isR : List Nat) (hC : isC.map (fun i => X[i]?) = cx.map some) (hCn : va_nd isC = true) (hR : isR.map (fun i => X[i]?) = wr.map some) (hRn : va_nd isR = true) (hdis : ∀ i ∈ isR, i ∉ isC)
    (is2 : List Nat) (h2n : va_nd is2 = true) (h2 : ∀ u, is2.map (fun i => (wr ++ rx u)[i]?) = (X2 u).map some) {k n2 : Nat} (hk : cells + rm.cells ≤ k) (hn2 : slots + rm.slots ≤ n2) (hkR : k ≤ R.cells) (hnR : n2 ≤ R.slots)
    (hn : As.length = n) (hl : ls.size = nL) (hW : (rest.map fun v => v.category).sum ≤ 8) {st2 : S → List Value} (hst : ∀ u, (rho u).toList ++ rest = st2 u) (hst0 : st0 = As.reverse ++ .ref b :: rest) (hdg : decode cc pc = .ok (.invokevirtual index, 3))
    (kk : ∀ (u : S) (H1 : Heap) (locs1 : List Loc), post u → va_P D vwCl (X2 u ++ pl1 u) H1 → va_D A (X2 u ++ pl1 u) → va_S A s.heap H1 locs1 → W p l e R s m args below meth c H1 locs1 k n2 Q (F0 m (pc + 3) ls (st2 u))) :
    W p l e R s m args below meth c H locs cells slots Q (F0 m pc ls st0) :=
  kM_goP (mc := rm.cells) (ms := rm.slots) (va_runV (As := As) (rest := rest) F (hM H.size) cw ⟨kBN_blind, hCC ▸ va_recv hK (kP_l hP) hc hq, fun U hU hW => ⟨rfl, ⟨by rw [hU], by rw [hU]; exact hP.part isC hC, va_K.moved hW.alike (hK.sub isT hT), (hD.part isC hCn hC).weaken (fun _ _ _ _ => trivial)⟩, hJ.moved hW, kS_pass hsc hS (va_freeP hD hS hA isC hC) hW.alike hU⟩⟩ rfl hn hl hst0 (lv_room hW) hdg ⟨Nat.le_trans hk hkR, Nat.le_trans hn2 hnR⟩) hP hD hS hA isC isR hC hR hRn hdis is2 h2n h2 hk hn2 hst kk
theorem kP_callS (F : CallFix p m c cc nL s args Ts own) (hM : kN l y wd rm D tysC cI cQ sc As (cx ++ pl) post rho (fun u => rx u ++ pl1 u)) (cw : CallB R s args own index y bytes maxL ret wd rm rm.cells rm.slots n ∧ (Cond.static y).before args s = true)
    (isT : List Nat) (hT : isT.filterMap (fun i => tys[i]?) = tysC) (hK : va_K D vwCl tys s) (hJ : kJ cI cQ s) (hsc : kS sc A s) (hP : va_P D vwCl (X ++ pl) H) (hD : va_D A (X ++ pl)) (hS : va_S A s.heap H locs) (hA : ∀ q, s.heap.size ≤ q → A q)
    (isC isR : List Nat) (hC : isC.map (fun i => X[i]?) = cx.map some) (hCn : va_nd isC = true) (hR : isR.map (fun i => X[i]?) = wr.map some) (hRn : va_nd isR = true) (hdis : ∀ i ∈ isR, i ∉ isC)
    (is2 : List Nat) (h2n : va_nd is2 = true) (h2 : ∀ u, is2.map (fun i => (wr ++ rx u)[i]?) = (X2 u).map some) {k n2 : Nat} (hk : cells + rm.cells ≤ k) (hn2 : slots + rm.slots ≤ n2) (hkR : k ≤ R.cells) (hnR : n2 ≤ R.slots)
    (hn : As.length = n) (hl : ls.size = nL) (hW : (rest.map fun v => v.category).sum ≤ 8) {st2 : S → List Value} (hst : ∀ u, (rho u).toList ++ rest = st2 u) (hst0 : st0 = As.reverse ++ rest) (hdg : decode cc pc = .ok (.invokestatic index, 3))
    (kk : ∀ (u : S) (H1 : Heap) (locs1 : List Loc), post u → va_P D vwCl (X2 u ++ pl1 u) H1 → va_D A (X2 u ++ pl1 u) → va_S A s.heap H1 locs1 → W p l e R s m args below meth c H1 locs1 k n2 Q (F0 m (pc + 3) ls (st2 u))) :
    W p l e R s m args below meth c H locs cells slots Q (F0 m pc ls st0) :=
  kM_goP (mc := rm.cells) (ms := rm.slots) (va_runS (As := As) (rest := rest) F (hM H.size) cw ⟨kBN_blind, fun U hU hW => ⟨rfl, ⟨by rw [hU], by rw [hU]; exact hP.part isC hC, va_K.moved hW.alike (hK.sub isT hT), (hD.part isC hCn hC).weaken (fun _ _ _ _ => trivial)⟩, hJ.moved hW, kS_pass hsc hS (va_freeP hD hS hA isC hC) hW.alike hU⟩⟩ rfl hn hl hst0 (lv_room hW) hdg ⟨Nat.le_trans hk hkR, Nat.le_trans hn2 hnR⟩) hP hD hS hA isC isR hC hR hRn hdis is2 h2n h2 hk hn2 hst kk
end KG
/-- the one above a number: -1 for 0 -/
def dn : Nat → Int32
  | 0 => (-1)
  | r + 1 => nI r
theorem dn_inc (r : Nat) : nI r + (-1) = dn r := by
  cases r with
  | zero => decide
  | succ r => exact pk_m1 r
theorem dn_sub (n : Nat) : nI n - nI 1 = dn n := by
  rw [← dn_inc n]
  show nI n - 1 = nI n + -1
  exact Int32.sub_eq_add_neg ..

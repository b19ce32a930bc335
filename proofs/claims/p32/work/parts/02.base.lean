/-! 02.base: contracts in one form, their entry, ends and calls. kM: a method that returns; its world w before, w' u behind it, its answer rho u, for a u with post u. -/
def kB (D : va_G) (tys : List (ClassId × FieldType)) (w : va_W) (sz : Nat) (U : State) : Prop :=
  U.heap.size = sz ∧ va_P D vwCl w U.heap ∧ va_K D vwCl tys U ∧ va_D (fun _ => True) w
def kE (D : va_G) (tys : List (ClassId × FieldType)) (A : Nat → Prop) (w : va_W) (t : State) : Prop :=
  va_P D vwCl w t.heap ∧ va_K D vwCl tys t ∧ va_D A w
def kQ {S : Type} (post : S → Prop) (rho : S → Option Value) (B : S → State → Prop) (A : Nat → Prop) : Array Value → State → Outcome → State → Prop :=
  fun _ st oc t => (∃ u : S, oc = .returned (rho u) ∧ post u ∧ B u t) ∧ va_F A st t
def kM (l : Launch) (y : MethodName) (wd : List Cond) (rm : Room) (D : va_G) (tys : List (ClassId × FieldType)) (av : List Value) (w : va_W) {S : Type} (post : S → Prop) (rho : S → Option Value) (w' : S → va_W) : Prop :=
  ∀ sz : Nat, Met l y wd rm (va_Pc av (kB D tys w sz)) (kQ post rho (fun u t => kE D tys (va_A w sz) (w' u) t) (va_A w sz)) rm.cells rm.slots (va_A w sz)
theorem kB_blind {av : List Value} {D : va_G} {tys : List (ClassId × FieldType)} {w : va_W} {sz : Nat} : FrameBlind (va_Pc av (kB D tys w sz)) := fun a U g mk q => by
  obtain ⟨q0, q1, qP, qK, qD⟩ := q
  exact ⟨q0, q1, qP, va_K.moved (u := U) (U := U.calling g mk a) (Vm.Alike.refl U.vm) qK, qD⟩
theorem kM_of {l : Launch} {y : MethodName} {wd : List Cond} {rm : Room} {D : va_G} {tys : List (ClassId × FieldType)} {av : List Value} {w : va_W} {S : Type} {post : S → Prop} {rho : S → Option Value} {w' : S → va_W} {cc : ByteArray} {maxL : Nat} {ret : Option FieldType} {ws' : List Cond} {own : String}
    (hy : plainName y.cls = true) (hw : wd = Cond.code y cc maxL ret :: ws') (hC : y.cls = own) (hn : (lg_sl av).length ≤ maxL)
    (body : ∀ (p : Program) (e : Env) (s : State) (m : MethodId) (args : Array Value) (below : List Frame) (meth : Method) (c : Code) (A : Nat → Prop) (ls : Array Slot) (Qz : State → Prop), p.tables.exec = Jvm.exec → c.code = cc → c.maxLocals = maxL → meth.sig.returnType = ret → (∀ w ∈ wd, w.before args s = true) → s.vm.findClass own = some m.cls → meth.locks = false → (y.name = "<init>" → meth.name = "<init>") → Qz = MQ below (kQ post rho (fun u t => kE D tys A (w' u) t) A) args s rm.cells rm.slots A → (∀ q : Nat, s.heap.size ≤ q → A q) → va_S A s.heap s.heap [] → va_P D vwCl w s.heap → va_D A w → va_K D vwCl tys s → lv_has ls maxL (lv_args 0 av) →
      W p l e rm s m args below meth c s.heap [] 0 0 Qz (F0 m 0 ls [])) : kM l y wd rm D tys av w post rho w' := by
  intro sz
  refine Met.ofW (cc := cc) (maxL := maxL) (ret := ret) hy hw ?_
  intro p e s m args below meth c s₁ B hml hv
  obtain ⟨rfl, hsz, hP, hK, hD0⟩ := hv
  subst hsz
  have hl := lv_entry av (n := maxL) hn
  rw [lg_entry_eq]
  generalize (lg_sl av ++ List.replicate (maxL - (lg_sl av).length) Slot.unset).toArray = ls at hl ⊢
  exact body p e s m av.toArray below meth c (va_A w s.heap.size) ls _ B.exec B.bytes hml B.returns (atoms_spec (ws := wd) B.pre) (by rw [← hC]; exact findClass_of_methodNamed B.named) B.notSynchronized (fun h => by rw [(name_of_methodNamed B.named B.method).1]; exact h) rfl (fun q h => Or.inr h) va_S.rf hP hD0.self hK hl
theorem kFM {w wc : va_W} {is : List Nat} (h : is.map (fun i => w[i]?) = wc.map some) : is.filterMap (fun i => w[i]?) = wc := by
  have e3 : (is.map (fun i => w[i]?)).filterMap id = (wc.map some).filterMap id := by rw [h]
  simpa [List.filterMap_map] using e3
section KR
variable {p : Program} {l : Launch} {e : Env} {R : Room} {s : State} {m : MethodId} {args : Array Value} {below : List Frame} {meth : Method} {c : Code} {H : Heap} {locs : List Loc} {cells slots : Nat} {Q : State → Prop}
variable {Qz : State → Prop} {D : va_G} {tys tysC : List (ClassId × FieldType)} {A : Nat → Prop} {w wc wr : va_W} {S : Type} {post : S → Prop} {rho : S → Option Value} {w' w2 : S → va_W} {mc ms : Nat} {cc : ByteArray} {pc : Nat} {ls : Array Slot} {rest st0 : List Value} {args2 : Array Value}
theorem kM_iret (hx : p.tables.exec = Jvm.exec) (hb : c.code = cc) (hr : meth.sig.returnType = some .int) (hlk : meth.locks = false) (hQ : Qz = MQ below (kQ post rho (fun u t => kE D tys A (w' u) t) A) args s mc ms A) (hP : va_P D vwCl w H) (hD : va_D A w) (hK : va_K D vwCl tys s) (hS : va_S A s.heap H locs) (u : S) (hw : w' u = w) (hc : cells ≤ mc) (hs : slots ≤ ms) {v : Int32} (hv : rho u = some (.int v)) (hp : post u) (hdg : decode cc pc = .ok (.ireturn, 1)) :
    W p l e R s m args below meth c H locs cells slots Qz (F0 m pc ls [.int v]) := by
  subst hQ
  refine W.widen hc hs ?_
  exact W.iret hx hb hr (fun t ht hW => ⟨⟨u, by rw [hv], hp, by rw [ht, hw]; exact hP, va_K.moved hW.alike hK, by rw [hw]; exact hD⟩, hS.F ht⟩) hS.2.2 hdg hlk
theorem kM_zret (hx : p.tables.exec = Jvm.exec) (hb : c.code = cc) (hr : meth.sig.returnType = some .boolean) (hlk : meth.locks = false) (hQ : Qz = MQ below (kQ post rho (fun u t => kE D tys A (w' u) t) A) args s mc ms A) (hP : va_P D vwCl w H) (hD : va_D A w) (hK : va_K D vwCl tys s) (hS : va_S A s.heap H locs) (u : S) (hw : w' u = w) (hc : cells ≤ mc) (hs : slots ≤ ms) {v : Int32} (hn : narrow .boolean (.int v) = .int v) (hv : rho u = some (.int v)) (hp : post u) (hdg : decode cc pc = .ok (.ireturn, 1)) :
    W p l e R s m args below meth c H locs cells slots Qz (F0 m pc ls [.int v]) := by
  subst hQ
  refine W.widen hc hs ?_
  exact W.zret hx hb hr hn (fun t ht hW => ⟨⟨u, by rw [hv], hp, by rw [ht, hw]; exact hP, va_K.moved hW.alike hK, by rw [hw]; exact hD⟩, hS.F ht⟩) hS.2.2 hdg hlk
theorem kM_vret (hx : p.tables.exec = Jvm.exec) (hb : c.code = cc) (hr : meth.sig.returnType = none) (hlk : meth.locks = false) (hQ : Qz = MQ below (kQ post rho (fun u t => kE D tys A (w' u) t) A) args s mc ms A) (hP : va_P D vwCl w H) (hD : va_D A w) (hK : va_K D vwCl tys s) (hS : va_S A s.heap H locs) (u : S) (hw : w' u = w) (hc : cells ≤ mc) (hs : slots ≤ ms) (hv : rho u = none) (hp : post u) (hdg : decode cc pc = .ok (.return_, 1)) :
    W p l e R s m args below meth c H locs cells slots Qz (F0 m pc ls []) := by
  subst hQ
  refine W.widen hc hs ?_
  exact W.vret hx hb hr (fun t ht hW => ⟨⟨u, by rw [hv], hp, by rw [ht, hw]; exact hP, va_K.moved hW.alike hK, by rw [hw]; exact hD⟩, hS.F ht⟩) hS.2.2 hdg hlk
theorem kM_lret (hx : p.tables.exec = Jvm.exec) (hb : c.code = cc) (hr : meth.sig.returnType = some .long) (hlk : meth.locks = false) (hQ : Qz = MQ below (kQ post rho (fun u t => kE D tys A (w' u) t) A) args s mc ms A) (hP : va_P D vwCl w H) (hD : va_D A w) (hK : va_K D vwCl tys s) (hS : va_S A s.heap H locs) (u : S) (hw : w' u = w) (hc : cells ≤ mc) (hs : slots ≤ ms) {v : Int64} (hv : rho u = some (.long v)) (hp : post u) (hdg : decode cc pc = .ok (.lreturn, 1)) :
    W p l e R s m args below meth c H locs cells slots Qz (F0 m pc ls [.long v]) := by
  subst hQ
  refine W.widen hc hs ?_
  exact W.lret hx hb hr (fun t ht hW => ⟨⟨u, by rw [hv], hp, by rw [ht, hw]; exact hP, va_K.moved hW.alike hK, by rw [hw]; exact hD⟩, hS.F ht⟩) hS.2.2 hdg hlk
theorem kM_dret (hx : p.tables.exec = Jvm.exec) (hb : c.code = cc) (hr : meth.sig.returnType = some .double) (hlk : meth.locks = false) (hQ : Qz = MQ below (kQ post rho (fun u t => kE D tys A (w' u) t) A) args s mc ms A) (hP : va_P D vwCl w H) (hD : va_D A w) (hK : va_K D vwCl tys s) (hS : va_S A s.heap H locs) (u : S) (hw : w' u = w) (hc : cells ≤ mc) (hs : slots ≤ ms) {v : UInt64} (hv : rho u = some (.double v)) (hp : post u) (hdg : decode cc pc = .ok (.dreturn, 1)) :
    W p l e R s m args below meth c H locs cells slots Qz (F0 m pc ls [.double v]) := by
  subst hQ
  refine W.widen hc hs ?_
  exact W.dret hx hb hr (fun t ht hW => ⟨⟨u, by rw [hv], hp, by rw [ht, hw]; exact hP, va_K.moved hW.alike hK, by rw [hw]; exact hD⟩, hS.F ht⟩) hS.2.2 hdg hlk
/-- behind a call: the caller's world with the callee's cells as it left them, in the order that is named -/
theorem kM_go (hr : va_Run p l e R s m args below meth c H locs cells slots mc ms (F0 m pc ls st0) rest (kQ post rho (fun u t => kE D tysC (va_A wc H.size) (w' u) t) (va_A wc H.size) args2) (va_A wc H.size))
    (hP : va_P D vwCl w H) (hD : va_D A w) (hS : va_S A s.heap H locs) (hA : ∀ q, s.heap.size ≤ q → A q)
    (isC isR : List Nat) (hC : isC.map (fun i => w[i]?) = wc.map some) (hR : isR.map (fun i => w[i]?) = wr.map some) (hRn : va_nd isR = true) (hdis : ∀ i ∈ isR, i ∉ isC)
    (is2 : List Nat) (h2n : va_nd is2 = true) (h2 : ∀ u, is2.map (fun i => (wr ++ w' u)[i]?) = (w2 u).map some) {k n2 : Nat} (hk : cells + mc ≤ k) (hn2 : slots + ms ≤ n2) {st2 : S → List Value} (hst : ∀ u, (rho u).toList ++ rest = st2 u)
    (kk : ∀ (u : S) (H1 : Heap) (locs1 : List Loc), post u → va_P D vwCl (w2 u) H1 → va_D A (w2 u) → va_S A s.heap H1 locs1 → W p l e R s m args below meth c H1 locs1 k n2 Q (F0 m (pc + 3) ls (st2 u))) :
    W p l e R s m args below meth c H locs cells slots Q (F0 m pc ls st0) := by
  intro T hT X
  obtain ⟨v, st₀, t, T', L, h0, X', hL, e1, e2, ⟨⟨u, hv, hp, hP1, hK1, hD1⟩, hz, hk9⟩, st⟩ := hr T hT X
  cases hv
  rw [h0] at hz hk9
  have hF := va_free (wc := wc) hD hS hA isC hC
  rw [← e1] at hP1 hz hk9
  obtain ⟨hP3, hD3⟩ := va_join (wr := wr) (w1 := w' u) hP hD isC isR hC hR hRn hdis hk9 hF hP1 hD1
  have hP4 : va_P D vwCl (w2 u) T'.heap := hP3.sub is2 (kFM (h2 u))
  have hD4 : va_D A (w2 u) := hD3.sub is2 h2n (h2 u)
  have hS4 : va_S A s.heap T'.heap (locs ++ L) := ⟨Nat.le_trans hS.1 hz, fun q h1 h2 => by rw [hk9 q (Nat.lt_of_lt_of_le h1 hS.1) (fun z => h2 (hF q z))]; exact hS.2.1 q h1 h2, fun q hq => by
      rcases List.mem_append.mp hq with h | h
      · exact hS.2.2 q h
      · exact hF _ (hL q h)⟩
  obtain ⟨t2, a1, b1⟩ := kk u T'.heap (locs ++ L) hp hP4 hD4 hS4 T' rfl (stand_widen X' hk hn2)
  refine ⟨t2, st t2 ?_, b1⟩
  rw [← hst u] at a1
  exact a1
end KR
section KC
variable {p : Program} {l : Launch} {e : Env} {R : Room} {s : State} {m : MethodId} {args : Array Value} {below : List Frame} {meth : Method} {c : Code} {H : Heap} {locs : List Loc} {cells slots : Nat} {Q : State → Prop}
variable {D : va_G} {tys tysC : List (ClassId × FieldType)} {A : Nat → Prop} {w wc wr : va_W} {S : Type} {post : S → Prop} {rho : S → Option Value} {w' w2 : S → va_W} {cc : ByteArray} {pc : Nat} {ls : Array Slot} {rest st0 : List Value}
variable {y : MethodName} {bytes : ByteArray} {maxL nL n index : Nat} {ret : Option FieldType} {wd : List Cond} {rm : Room} {Ts : List Cond} {own C : String} {b : Addr} {As : List Value}
theorem kM_callV (F : CallFix p m c cc nL s args Ts own) (hM : kM l y wd rm D tysC (Value.ref b :: As) wc post rho w') (cw : CallW R s args own C index y bytes maxL ret wd rm rm.cells rm.slots n) (q0 : Nat) {ci : Nat} {fs : List Value} {rr : vw_C} (hq : w[q0]? = some (b, .inr (ci, fs))) (hc : vwCl[ci]? = some rr) (hCC : rr.1 = C)
    (isT : List Nat) (hT : isT.filterMap (fun i => tys[i]?) = tysC) (hK : va_K D vwCl tys s) (hP : va_P D vwCl w H) (hD : va_D A w) (hS : va_S A s.heap H locs) (hA : ∀ q, s.heap.size ≤ q → A q)
    (isC isR : List Nat) (hC : isC.map (fun i => w[i]?) = wc.map some) (hCn : va_nd isC = true) (hR : isR.map (fun i => w[i]?) = wr.map some) (hRn : va_nd isR = true) (hdis : ∀ i ∈ isR, i ∉ isC)
    (is2 : List Nat) (h2n : va_nd is2 = true) (h2 : ∀ u, is2.map (fun i => (wr ++ w' u)[i]?) = (w2 u).map some) {k n2 : Nat} (hk : cells + rm.cells ≤ k) (hn2 : slots + rm.slots ≤ n2) (hkR : k ≤ R.cells) (hnR : n2 ≤ R.slots)
    (hn : As.length = n) (hl : ls.size = nL) (hW : (rest.map fun v => v.category).sum ≤ 8) {st2 : S → List Value} (hst : ∀ u, (rho u).toList ++ rest = st2 u) (hst0 : st0 = As.reverse ++ .ref b :: rest) (hdg : decode cc pc = .ok (.invokevirtual index, 3))
    (kk : ∀ (u : S) (H1 : Heap) (locs1 : List Loc), post u → va_P D vwCl (w2 u) H1 → va_D A (w2 u) → va_S A s.heap H1 locs1 → W p l e R s m args below meth c H1 locs1 k n2 Q (F0 m (pc + 3) ls (st2 u))) :
    W p l e R s m args below meth c H locs cells slots Q (F0 m pc ls st0) :=
  kM_go (mc := rm.cells) (ms := rm.slots) (va_runV (As := As) (rest := rest) F (hM H.size) cw ⟨kB_blind, hCC ▸ va_recv hK hP hc hq, fun U hU hW => ⟨rfl, by rw [hU], by rw [hU]; exact hP.sub isC (kFM hC), va_K.moved hW.alike (hK.sub isT hT), (hD.sub isC hCn hC).weaken (fun _ _ _ _ => trivial)⟩⟩ rfl hn hl hst0 (lv_room hW) hdg ⟨Nat.le_trans hk hkR, Nat.le_trans hn2 hnR⟩) hP hD hS hA isC isR hC hR hRn hdis is2 h2n h2 hk hn2 hst kk
theorem kM_callS (F : CallFix p m c cc nL s args Ts own) (hM : kM l y wd rm D tysC As wc post rho w') (cw : CallB R s args own index y bytes maxL ret wd rm rm.cells rm.slots n ∧ (Cond.static y).before args s = true)
    (isT : List Nat) (hT : isT.filterMap (fun i => tys[i]?) = tysC) (hK : va_K D vwCl tys s) (hP : va_P D vwCl w H) (hD : va_D A w) (hS : va_S A s.heap H locs) (hA : ∀ q, s.heap.size ≤ q → A q)
    (isC isR : List Nat) (hC : isC.map (fun i => w[i]?) = wc.map some) (hCn : va_nd isC = true) (hR : isR.map (fun i => w[i]?) = wr.map some) (hRn : va_nd isR = true) (hdis : ∀ i ∈ isR, i ∉ isC)
    (is2 : List Nat) (h2n : va_nd is2 = true) (h2 : ∀ u, is2.map (fun i => (wr ++ w' u)[i]?) = (w2 u).map some) {k n2 : Nat} (hk : cells + rm.cells ≤ k) (hn2 : slots + rm.slots ≤ n2) (hkR : k ≤ R.cells) (hnR : n2 ≤ R.slots)
    (hn : As.length = n) (hl : ls.size = nL) (hW : (rest.map fun v => v.category).sum ≤ 8) {st2 : S → List Value} (hst : ∀ u, (rho u).toList ++ rest = st2 u) (hst0 : st0 = As.reverse ++ rest) (hdg : decode cc pc = .ok (.invokestatic index, 3))
    (kk : ∀ (u : S) (H1 : Heap) (locs1 : List Loc), post u → va_P D vwCl (w2 u) H1 → va_D A (w2 u) → va_S A s.heap H1 locs1 → W p l e R s m args below meth c H1 locs1 k n2 Q (F0 m (pc + 3) ls (st2 u))) :
    W p l e R s m args below meth c H locs cells slots Q (F0 m pc ls st0) :=
  kM_go (mc := rm.cells) (ms := rm.slots) (va_runS (As := As) (rest := rest) F (hM H.size) cw ⟨kB_blind, fun U hU hW => ⟨rfl, by rw [hU], by rw [hU]; exact hP.sub isC (kFM hC), va_K.moved hW.alike (hK.sub isT hT), (hD.sub isC hCn hC).weaken (fun _ _ _ _ => trivial)⟩⟩ rfl hn hl hst0 (lv_room hW) hdg ⟨Nat.le_trans hk hkR, Nat.le_trans hn2 hnR⟩) hP hD hS hA isC isR hC hR hRn hdis is2 h2n h2 hk hn2 hst kk
theorem kM_callI (F : CallFix p m c cc nL s args Ts own) (hM : kM l y wd rm D tysC (Value.ref b :: As) wc post rho w') (cw : CallB R s args own index y bytes maxL none wd rm rm.cells rm.slots n ∧ y.name = "<init>" ∧ (Cond.instanceMethod y).before args s = true)
    (isT : List Nat) (hT : isT.filterMap (fun i => tys[i]?) = tysC) (hK : va_K D vwCl tys s) (hP : va_P D vwCl w H) (hD : va_D A w) (hS : va_S A s.heap H locs) (hA : ∀ q, s.heap.size ≤ q → A q)
    (isC isR : List Nat) (hC : isC.map (fun i => w[i]?) = wc.map some) (hCn : va_nd isC = true) (hR : isR.map (fun i => w[i]?) = wr.map some) (hRn : va_nd isR = true) (hdis : ∀ i ∈ isR, i ∉ isC)
    (is2 : List Nat) (h2n : va_nd is2 = true) (h2 : ∀ u, is2.map (fun i => (wr ++ w' u)[i]?) = (w2 u).map some) {k n2 : Nat} (hk : cells + rm.cells ≤ k) (hn2 : slots + rm.slots ≤ n2) (hkR : k ≤ R.cells) (hnR : n2 ≤ R.slots)
    (hn : As.length = n) (hl : ls.size = nL) (hW : (rest.map fun v => v.category).sum ≤ 8) {st2 : S → List Value} (hst : ∀ u, (rho u).toList ++ rest = st2 u) (hst0 : st0 = As.reverse ++ .ref b :: rest) (hdg : decode cc pc = .ok (.invokespecial index, 3))
    (kk : ∀ (u : S) (H1 : Heap) (locs1 : List Loc), post u → va_P D vwCl (w2 u) H1 → va_D A (w2 u) → va_S A s.heap H1 locs1 → W p l e R s m args below meth c H1 locs1 k n2 Q (F0 m (pc + 3) ls (st2 u))) :
    W p l e R s m args below meth c H locs cells slots Q (F0 m pc ls st0) :=
  kM_go (mc := rm.cells) (ms := rm.slots) (va_runI (As := As) (rest := rest) F (hM H.size) cw ⟨kB_blind, fun U hU hW => ⟨rfl, by rw [hU], by rw [hU]; exact hP.sub isC (kFM hC), va_K.moved hW.alike (hK.sub isT hT), (hD.sub isC hCn hC).weaken (fun _ _ _ _ => trivial)⟩⟩ rfl hn hl hst0 (lv_room hW) hdg ⟨Nat.le_trans hk hkR, Nat.le_trans hn2 hnR⟩) hP hD hS hA isC isR hC hR hRn hdis is2 h2n h2 hk hn2 hst kk
end KC
/-! numbers that are nI of a Nat -/
section KN
variable {p : Program} {l : Launch} {e : Env} {R : Room} {s : State} {m : MethodId} {args : Array Value} {below : List Frame} {meth : Method} {c : Code} {H : Heap} {locs : List Loc} {cells slots : Nat} {Q : State → Prop}
variable {cc : ByteArray} {pc : Nat} {ls : Array Slot} {rest : List Value}
theorem k_top {x y : Int32} (h : x = y) (k : W p l e R s m args below meth c H locs cells slots Q (F0 m pc ls (.int y :: rest))) : W p l e R s m args below meth c H locs cells slots Q (F0 m pc ls (.int x :: rest)) := by rw [h]; exact k
theorem k_topl {x y : Int64} (h : x = y) (k : W p l e R s m args below meth c H locs cells slots Q (F0 m pc ls (.long y :: rest))) : W p l e R s m args below meth c H locs cells slots Q (F0 m pc ls (.long x :: rest)) := by rw [h]; exact k
theorem k_iadd (hx : p.tables.exec = Jvm.exec) (hb : c.code = cc) {a b : Nat} (hdg : decode cc pc = .ok (.iadd, 1)) (k : W p l e R s m args below meth c H locs cells slots Q (F0 m (pc + 1) ls (.int (nI (a + b)) :: rest))) : W p l e R s m args below meth c H locs cells slots Q (F0 m pc ls (.int (nI b) :: .int (nI a) :: rest)) :=
  lv_iadd hx hb hdg (k_top (nI_add a b) k)
theorem k_imul (hx : p.tables.exec = Jvm.exec) (hb : c.code = cc) {a b : Nat} (hdg : decode cc pc = .ok (.imul, 1)) (k : W p l e R s m args below meth c H locs cells slots Q (F0 m (pc + 1) ls (.int (nI (a * b)) :: rest))) : W p l e R s m args below meth c H locs cells slots Q (F0 m pc ls (.int (nI b) :: .int (nI a) :: rest)) :=
  lv_imul hx hb hdg (k_top (pk_mul a b) k)
theorem k_isub (hx : p.tables.exec = Jvm.exec) (hb : c.code = cc) {a b : Nat} (h : b ≤ a) (hdg : decode cc pc = .ok (.isub, 1)) (k : W p l e R s m args below meth c H locs cells slots Q (F0 m (pc + 1) ls (.int (nI (a - b)) :: rest))) : W p l e R s m args below meth c H locs cells slots Q (F0 m pc ls (.int (nI b) :: .int (nI a) :: rest)) :=
  lv_isub hx hb hdg (k_top (pk_sub h) k)
theorem k_icmp_ge (hx : p.tables.exec = Jvm.exec) (hb : c.code = cc) {a b : Nat} (ha : a < 2147483648) (hbb : b < 2147483648) {off : Int} {tgt : Nat} (hdg : decode cc pc = .ok (.if_icmp .ge off, 3)) (ht : (pc : Int) + off = (tgt : Int))
    (kt : b ≤ a → W p l e R s m args below meth c H locs cells slots Q (F0 m tgt ls rest)) (kf : a < b → W p l e R s m args below meth c H locs cells slots Q (F0 m (pc + 3) ls rest)) : W p l e R s m args below meth c H locs cells slots Q (F0 m pc ls (.int (nI b) :: .int (nI a) :: rest)) :=
  lv_icmp_ge hx hb hdg ht (fun h => kt (by have h9 := (nI_leI (a := b) (b := a) hbb ha); have h := h; first | (rw [h9] at h; omega) | (exact h9.mp h) | (exact fun q => h (h9.mpr q)) | omega)) (fun h => kf (by have h9 := (nI_leI (a := b) (b := a) hbb ha); have h := h; first | (rw [h9] at h; omega) | (exact h9.mp h) | (exact fun q => h (h9.mpr q)) | omega))
theorem k_icmp_lt (hx : p.tables.exec = Jvm.exec) (hb : c.code = cc) {a b : Nat} (ha : a < 2147483648) (hbb : b < 2147483648) {off : Int} {tgt : Nat} (hdg : decode cc pc = .ok (.if_icmp .lt off, 3)) (ht : (pc : Int) + off = (tgt : Int))
    (kt : a < b → W p l e R s m args below meth c H locs cells slots Q (F0 m tgt ls rest)) (kf : b ≤ a → W p l e R s m args below meth c H locs cells slots Q (F0 m (pc + 3) ls rest)) : W p l e R s m args below meth c H locs cells slots Q (F0 m pc ls (.int (nI b) :: .int (nI a) :: rest)) :=
  lv_icmp_lt hx hb hdg ht (fun h => kt (by have h9 := (nI_ltI (a := a) (b := b) ha hbb); have h := h; first | (rw [h9] at h; omega) | (exact h9.mp h) | (exact fun q => h (h9.mpr q)) | omega)) (fun h => kf (by have h9 := (nI_ltI (a := a) (b := b) ha hbb); have h := h; first | (rw [h9] at h; omega) | (exact h9.mp h) | (exact fun q => h (h9.mpr q)) | omega))
theorem k_icmp_gt (hx : p.tables.exec = Jvm.exec) (hb : c.code = cc) {a b : Nat} (ha : a < 2147483648) (hbb : b < 2147483648) {off : Int} {tgt : Nat} (hdg : decode cc pc = .ok (.if_icmp .gt off, 3)) (ht : (pc : Int) + off = (tgt : Int))
    (kt : b < a → W p l e R s m args below meth c H locs cells slots Q (F0 m tgt ls rest)) (kf : a ≤ b → W p l e R s m args below meth c H locs cells slots Q (F0 m (pc + 3) ls rest)) : W p l e R s m args below meth c H locs cells slots Q (F0 m pc ls (.int (nI b) :: .int (nI a) :: rest)) :=
  lv_icmp_gt hx hb hdg ht (fun h => kt (by have h9 := (nI_ltI (a := b) (b := a) hbb ha); have h := h; first | (rw [h9] at h; omega) | (exact h9.mp h) | (exact fun q => h (h9.mpr q)) | omega)) (fun h => kf (by have h9 := (nI_ltI (a := b) (b := a) hbb ha); have h := h; first | (rw [h9] at h; omega) | (exact h9.mp h) | (exact fun q => h (h9.mpr q)) | omega))
theorem k_icmp_le (hx : p.tables.exec = Jvm.exec) (hb : c.code = cc) {a b : Nat} (ha : a < 2147483648) (hbb : b < 2147483648) {off : Int} {tgt : Nat} (hdg : decode cc pc = .ok (.if_icmp .le off, 3)) (ht : (pc : Int) + off = (tgt : Int))
    (kt : a ≤ b → W p l e R s m args below meth c H locs cells slots Q (F0 m tgt ls rest)) (kf : b < a → W p l e R s m args below meth c H locs cells slots Q (F0 m (pc + 3) ls rest)) : W p l e R s m args below meth c H locs cells slots Q (F0 m pc ls (.int (nI b) :: .int (nI a) :: rest)) :=
  lv_icmp_le hx hb hdg ht (fun h => kt (by have h9 := (nI_leI (a := a) (b := b) ha hbb); have h := h; first | (rw [h9] at h; omega) | (exact h9.mp h) | (exact fun q => h (h9.mpr q)) | omega)) (fun h => kf (by have h9 := (nI_leI (a := a) (b := b) ha hbb); have h := h; first | (rw [h9] at h; omega) | (exact h9.mp h) | (exact fun q => h (h9.mpr q)) | omega))
theorem k_icmp_eq (hx : p.tables.exec = Jvm.exec) (hb : c.code = cc) {a b : Nat} (ha : a < 2147483648) (hbb : b < 2147483648) {off : Int} {tgt : Nat} (hdg : decode cc pc = .ok (.if_icmp .eq off, 3)) (ht : (pc : Int) + off = (tgt : Int))
    (kt : a = b → W p l e R s m args below meth c H locs cells slots Q (F0 m tgt ls rest)) (kf : a ≠ b → W p l e R s m args below meth c H locs cells slots Q (F0 m (pc + 3) ls rest)) : W p l e R s m args below meth c H locs cells slots Q (F0 m pc ls (.int (nI b) :: .int (nI a) :: rest)) :=
  lv_icmp_eq hx hb hdg ht (fun h => kt (by have h9 := (nI_eq (a := a) (b := b) ha hbb); have h := h; first | (rw [h9] at h; omega) | (exact h9.mp h) | (exact fun q => h (h9.mpr q)) | omega)) (fun h => kf (by have h9 := (nI_eq (a := a) (b := b) ha hbb); have h := h; first | (rw [h9] at h; omega) | (exact h9.mp h) | (exact fun q => h (h9.mpr q)) | omega))
theorem k_icmp_ne (hx : p.tables.exec = Jvm.exec) (hb : c.code = cc) {a b : Nat} (ha : a < 2147483648) (hbb : b < 2147483648) {off : Int} {tgt : Nat} (hdg : decode cc pc = .ok (.if_icmp .ne off, 3)) (ht : (pc : Int) + off = (tgt : Int))
    (kt : a ≠ b → W p l e R s m args below meth c H locs cells slots Q (F0 m tgt ls rest)) (kf : a = b → W p l e R s m args below meth c H locs cells slots Q (F0 m (pc + 3) ls rest)) : W p l e R s m args below meth c H locs cells slots Q (F0 m pc ls (.int (nI b) :: .int (nI a) :: rest)) :=
  lv_icmp_ne hx hb hdg ht (fun h => kt (by have h9 := (nI_eq (a := a) (b := b) ha hbb); have h := h; first | (rw [h9] at h; omega) | (exact h9.mp h) | (exact fun q => h (h9.mpr q)) | omega)) (fun h => kf (by have h9 := (nI_eq (a := a) (b := b) ha hbb); have h := h; first | (rw [h9] at h; omega) | (exact h9.mp h) | (exact fun q => h (h9.mpr q)) | omega))
theorem k_if_eq (hx : p.tables.exec = Jvm.exec) (hb : c.code = cc) {a : Nat} (ha : a < 2147483648) {off : Int} {tgt : Nat} (hdg : decode cc pc = .ok (.ifCond .eq off, 3)) (ht : (pc : Int) + off = (tgt : Int))
    (kt : a = 0 → W p l e R s m args below meth c H locs cells slots Q (F0 m tgt ls rest)) (kf : a ≠ 0 → W p l e R s m args below meth c H locs cells slots Q (F0 m (pc + 3) ls rest)) : W p l e R s m args below meth c H locs cells slots Q (F0 m pc ls (.int (nI a) :: rest)) :=
  lv_if_eq hx hb hdg ht (fun h => kt (by have h9 := nI_eq (a := a) (b := 0) ha (by decide); rw [show (0 : Int32) = nI 0 from rfl] at h; rw [h9] at h; omega)) (fun h => kf (by have h9 := nI_eq (a := a) (b := 0) ha (by decide); rw [show (0 : Int32) = nI 0 from rfl] at h; rw [h9] at h; omega))
theorem k_if_ne (hx : p.tables.exec = Jvm.exec) (hb : c.code = cc) {a : Nat} (ha : a < 2147483648) {off : Int} {tgt : Nat} (hdg : decode cc pc = .ok (.ifCond .ne off, 3)) (ht : (pc : Int) + off = (tgt : Int))
    (kt : a ≠ 0 → W p l e R s m args below meth c H locs cells slots Q (F0 m tgt ls rest)) (kf : a = 0 → W p l e R s m args below meth c H locs cells slots Q (F0 m (pc + 3) ls rest)) : W p l e R s m args below meth c H locs cells slots Q (F0 m pc ls (.int (nI a) :: rest)) :=
  lv_if_ne hx hb hdg ht (fun h => kt (by have h9 := nI_eq (a := a) (b := 0) ha (by decide); rw [show (0 : Int32) = nI 0 from rfl] at h; rw [h9] at h; omega)) (fun h => kf (by have h9 := nI_eq (a := a) (b := 0) ha (by decide); rw [show (0 : Int32) = nI 0 from rfl] at h; rw [h9] at h; omega))
theorem k_if_lt (hx : p.tables.exec = Jvm.exec) (hb : c.code = cc) {a : Nat} (ha : a < 2147483648) {off : Int} {tgt : Nat} (hdg : decode cc pc = .ok (.ifCond .lt off, 3)) (ht : (pc : Int) + off = (tgt : Int))
    (kt : False → W p l e R s m args below meth c H locs cells slots Q (F0 m tgt ls rest)) (kf : True → W p l e R s m args below meth c H locs cells slots Q (F0 m (pc + 3) ls rest)) : W p l e R s m args below meth c H locs cells slots Q (F0 m pc ls (.int (nI a) :: rest)) :=
  lv_if_lt hx hb hdg ht (fun h => kt (by have h9 := nI_ltI (a := a) (b := 0) ha (by decide); rw [show (0 : Int32) = nI 0 from rfl] at h; rw [h9] at h; omega)) (fun _ => kf trivial)
theorem k_if_ge (hx : p.tables.exec = Jvm.exec) (hb : c.code = cc) {a : Nat} (ha : a < 2147483648) {off : Int} {tgt : Nat} (hdg : decode cc pc = .ok (.ifCond .ge off, 3)) (ht : (pc : Int) + off = (tgt : Int))
    (kt : True → W p l e R s m args below meth c H locs cells slots Q (F0 m tgt ls rest)) (kf : False → W p l e R s m args below meth c H locs cells slots Q (F0 m (pc + 3) ls rest)) : W p l e R s m args below meth c H locs cells slots Q (F0 m pc ls (.int (nI a) :: rest)) :=
  lv_if_ge hx hb hdg ht (fun _ => kt trivial) (fun h => kf (by have h9 := nI_leI (a := 0) (b := a) (by decide) ha; rw [show (0 : Int32) = nI 0 from rfl] at h; rw [h9] at h; omega))
theorem k_if_le (hx : p.tables.exec = Jvm.exec) (hb : c.code = cc) {a : Nat} (ha : a < 2147483648) {off : Int} {tgt : Nat} (hdg : decode cc pc = .ok (.ifCond .le off, 3)) (ht : (pc : Int) + off = (tgt : Int))
    (kt : a = 0 → W p l e R s m args below meth c H locs cells slots Q (F0 m tgt ls rest)) (kf : a ≠ 0 → W p l e R s m args below meth c H locs cells slots Q (F0 m (pc + 3) ls rest)) : W p l e R s m args below meth c H locs cells slots Q (F0 m pc ls (.int (nI a) :: rest)) :=
  lv_if_le hx hb hdg ht (fun h => kt (by have h9 := nI_leI (a := a) (b := 0) ha (by decide); rw [show (0 : Int32) = nI 0 from rfl] at h; rw [h9] at h; omega)) (fun h => kf (by have h9 := nI_leI (a := a) (b := 0) ha (by decide); rw [show (0 : Int32) = nI 0 from rfl] at h; rw [h9] at h; omega))
theorem k_if_gt (hx : p.tables.exec = Jvm.exec) (hb : c.code = cc) {a : Nat} (ha : a < 2147483648) {off : Int} {tgt : Nat} (hdg : decode cc pc = .ok (.ifCond .gt off, 3)) (ht : (pc : Int) + off = (tgt : Int))
    (kt : a ≠ 0 → W p l e R s m args below meth c H locs cells slots Q (F0 m tgt ls rest)) (kf : a = 0 → W p l e R s m args below meth c H locs cells slots Q (F0 m (pc + 3) ls rest)) : W p l e R s m args below meth c H locs cells slots Q (F0 m pc ls (.int (nI a) :: rest)) :=
  lv_if_gt hx hb hdg ht (fun h => kt (by have h9 := nI_ltI (a := 0) (b := a) (by decide) ha; rw [show (0 : Int32) = nI 0 from rfl] at h; rw [h9] at h; omega)) (fun h => kf (by have h9 := nI_ltI (a := 0) (b := a) (by decide) ha; rw [show (0 : Int32) = nI 0 from rfl] at h; rw [h9] at h; omega))
end KN
/-- a row of numbers that are nI of a Nat each -/
def nF (f : Nat → Nat) : Nat → Int32 := fun j => nI (f j)
/-- a row with one place changed -/
def upN (f : Nat → Nat) (k x : Nat) : Nat → Nat := fun j => if j = k then x else f j
theorem nF_upd (f : Nat → Nat) (k x : Nat) : upd (nF f) k (nI x) = nF (upN f k x) := by
  funext j
  simp only [upd, nF, upN]
  split <;> rfl
section KA
variable {p : Program} {l : Launch} {e : Env} {R : Room} {s : State} {m : MethodId} {args : Array Value} {below : List Frame} {meth : Method} {c : Code} {H : Heap} {locs : List Loc} {cells slots : Nat} {Q : State → Prop}
variable {cc : ByteArray} {pc : Nat} {ls : Array Slot} {rest : List Value} {D : va_G} {tys : List (ClassId × FieldType)} {A : Nat → Prop} {ws : va_W} {a : Nat}
theorem k_iald (hx : p.tables.exec = Jvm.exec) (hb : c.code = cc) (hK : va_K D vwCl tys s) (hP : va_P D vwCl ws H) (q0 t0 : Nat) {cA : ClassId} {n : Nat} {f : Nat → Int32} (ha : ws[q0]? = some (a, .inl (cA, n, .inl f))) (ht : tys[t0]? = some (cA, .int)) {i : Nat} (hi : i < n) (hn : n < 2147483648) (hdg : decode cc pc = .ok (.iaload, 1))
    (kk : W p l e R s m args below meth c H locs cells slots Q (F0 m (pc + 1) ls (.int (f i) :: rest))) : W p l e R s m args below meth c H locs cells slots Q (F0 m pc ls (.int (nI i) :: .ref a :: rest)) :=
  va_iald hx hb hK hP q0 t0 ha ht (vp_in_nI hi hn) hdg (k_top (by rw [nI_clamp (Nat.lt_trans hi hn)]) kk)
theorem k_zald (hx : p.tables.exec = Jvm.exec) (hb : c.code = cc) (hK : va_K D vwCl tys s) (hP : va_P D vwCl ws H) (q0 t0 : Nat) {cA : ClassId} {n : Nat} {f : Nat → Int32} (ha : ws[q0]? = some (a, .inl (cA, n, .inl f))) (ht : tys[t0]? = some (cA, .boolean)) {i : Nat} (hi : i < n) (hn : n < 2147483648) (hdg : decode cc pc = .ok (.baload, 1))
    (kk : W p l e R s m args below meth c H locs cells slots Q (F0 m (pc + 1) ls (.int (f i) :: rest))) : W p l e R s m args below meth c H locs cells slots Q (F0 m pc ls (.int (nI i) :: .ref a :: rest)) :=
  va_zald hx hb hK hP q0 t0 ha ht (vp_in_nI hi hn) hdg (k_top (by rw [nI_clamp (Nat.lt_trans hi hn)]) kk)
theorem k_iast (hx : p.tables.exec = Jvm.exec) (hb : c.code = cc) (hK : va_K D vwCl tys s) (hP : va_P D vwCl ws H) (hD : va_D A ws) (hS : va_S A s.heap H locs) (q0 t0 : Nat) {cA : ClassId} {n : Nat} {f : Nat → Int32} (ha : ws[q0]? = some (a, .inl (cA, n, .inl f))) (ht : tys[t0]? = some (cA, .int)) {i : Nat} {x : Int32} (hi : i < n) (hn : n < 2147483648) (hdg : decode cc pc = .ok (.iastore, 1)) {g : Nat → Int32} (hg : upd f i x = g) {w2 : va_W} (hw2 : ws.set q0 (a, .inl (cA, n, .inl g)) = w2)
    (kk : ∀ (H1 : Heap) (locs1 : List Loc), va_P D vwCl w2 H1 → va_D A w2 → va_S A s.heap H1 locs1 → W p l e R s m args below meth c H1 locs1 cells slots Q (F0 m (pc + 1) ls rest)) : W p l e R s m args below meth c H locs cells slots Q (F0 m pc ls (.int x :: .int (nI i) :: .ref a :: rest)) := by
  subst hw2
  subst hg
  refine va_iast hx hb hK hP hD hS q0 t0 ha ht (vp_in_nI hi hn) hdg (fun H1 locs1 h1 h2 h3 => kk H1 locs1 ?_ ?_ h3)
  · rw [nI_clamp (Nat.lt_trans hi hn)] at h1; exact h1
  · rw [nI_clamp (Nat.lt_trans hi hn)] at h2; exact h2
def zF : Nat → Int32 := fun _ => 0
def zN : Nat → Nat := fun _ => 0
def zL : Nat → Int64 := fun _ => 0
theorem k_newa (hx : p.tables.exec = Jvm.exec) (hb : c.code = cc) {atype : ArrayType} {ty : FieldType} {cA : ClassId} {con : (Nat → Int32) ⊕ (Nat → Int64) ⊕ (Nat → UInt32) ⊕ (Nat → UInt64) ⊕ (Nat → Option Nat)} {k n2 N9 : Nat} {n : Int32} (harr : (Cond.arrayClass ty).before args s = true) (hty : newarray.typeOf atype = ty) (hK : va_K D vwCl tys s) (t0 : Nat) (ht : tys[t0]? = some (cA, ty)) (hP : va_P D vwCl ws H) (hD : va_D A ws) (hS : va_S A s.heap H locs) (hA : ∀ q, s.heap.size ≤ q → A q)
    (ha : ∀ cA : ClassId, vp_cell cA (N9, con) = arrV cA N9 (fun _ => defaultValue ty)) (hn : n.toNatClampNeg = N9) (hn0 : ¬ n < 0) (hbytes : N9 * componentBytes ty ≤ 536870912) (hk : cells + 1 ≤ k) (hs2 : slots + N9 ≤ n2) (hkR : k ≤ R.cells) (hnR : n2 ≤ R.slots) (hdg : decode cc pc = .ok (.newarray atype, 2))
    (kk : ∀ (q : Nat) (H1 : Heap), va_P D vwCl (ws ++ [(q, .inl (cA, N9, con))]) H1 → va_D A (ws ++ [(q, .inl (cA, N9, con))]) → va_S A s.heap H1 locs → W p l e R s m args below meth c H1 locs k n2 Q (F0 m (pc + 2) ls (.ref q :: rest))) : W p l e R s m args below meth c H locs cells slots Q (F0 m pc ls (.int n :: rest)) := by
  subst hty
  refine va_newa (atype := atype) (ty := newarray.typeOf atype) hx hb harr rfl hK hP hD hS hA (N' := N9) (a0 := (N9, con)) ha hn0 hn hbytes (Nat.le_trans hk hkR) (Nat.le_trans hs2 hnR) hdg (fun q c2 H1 h1 h2 h3 h4 => ?_)
  have e : c2 = cA := by
    have r1 := (h1.2 tys.length (c2, newarray.typeOf atype) (by simp)).2
    have r2 := (hK.2 t0 _ ht).2
    cases atype <;> exact Option.some.inj (r1.symm.trans r2)
  subst e
  exact W.widen hk hs2 (kk q H1 h2 h3 h4)
theorem k_lald (hx : p.tables.exec = Jvm.exec) (hb : c.code = cc) (hK : va_K D vwCl tys s) (hP : va_P D vwCl ws H) (q0 t0 : Nat) {cA : ClassId} {n : Nat} {f : Nat → Int64} (ha : ws[q0]? = some (a, .inl (cA, n, .inr (.inl f)))) (ht : tys[t0]? = some (cA, .long)) {i : Nat} (hi : i < n) (hn : n < 2147483648) (hdg : decode cc pc = .ok (.laload, 1))
    (kk : W p l e R s m args below meth c H locs cells slots Q (F0 m (pc + 1) ls (.long (f i) :: rest))) : W p l e R s m args below meth c H locs cells slots Q (F0 m pc ls (.int (nI i) :: .ref a :: rest)) :=
  va_lald hx hb hK hP q0 t0 ha ht (vp_in_nI hi hn) hdg (k_topl (by rw [nI_clamp (Nat.lt_trans hi hn)]) kk)
theorem k_last (hx : p.tables.exec = Jvm.exec) (hb : c.code = cc) (hK : va_K D vwCl tys s) (hP : va_P D vwCl ws H) (hD : va_D A ws) (hS : va_S A s.heap H locs) (q0 t0 : Nat) {cA : ClassId} {n : Nat} {f : Nat → Int64} (ha : ws[q0]? = some (a, .inl (cA, n, .inr (.inl f)))) (ht : tys[t0]? = some (cA, .long)) {i : Nat} {x : Int64} (hi : i < n) (hn : n < 2147483648) (hdg : decode cc pc = .ok (.lastore, 1)) {g : Nat → Int64} (hg : vp_updL f i x = g) {w2 : va_W} (hw2 : ws.set q0 (a, .inl (cA, n, .inr (.inl g))) = w2)
    (kk : ∀ (H1 : Heap) (locs1 : List Loc), va_P D vwCl w2 H1 → va_D A w2 → va_S A s.heap H1 locs1 → W p l e R s m args below meth c H1 locs1 cells slots Q (F0 m (pc + 1) ls rest)) : W p l e R s m args below meth c H locs cells slots Q (F0 m pc ls (.long x :: .int (nI i) :: .ref a :: rest)) := by
  subst hw2
  subst hg
  refine va_last hx hb hK hP hD hS q0 t0 ha ht (vp_in_nI hi hn) hdg (fun H1 locs1 h1 h2 h3 => kk H1 locs1 ?_ ?_ h3)
  · rw [nI_clamp (Nat.lt_trans hi hn)] at h1; exact h1
  · rw [nI_clamp (Nat.lt_trans hi hn)] at h2; exact h2
theorem k_zast (hx : p.tables.exec = Jvm.exec) (hb : c.code = cc) (hK : va_K D vwCl tys s) (hP : va_P D vwCl ws H) (hD : va_D A ws) (hS : va_S A s.heap H locs) (q0 t0 : Nat) {cA : ClassId} {n : Nat} {f : Nat → Int32} (ha : ws[q0]? = some (a, .inl (cA, n, .inl f))) (ht : tys[t0]? = some (cA, .boolean)) {i : Nat} {x : Int32} (hi : i < n) (hn : n < 2147483648) (hnar : vp_nar .boolean x = x) (hdg : decode cc pc = .ok (.bastore, 1)) {g : Nat → Int32} (hg : upd f i x = g) {w2 : va_W} (hw2 : ws.set q0 (a, .inl (cA, n, .inl g)) = w2)
    (kk : ∀ (H1 : Heap) (locs1 : List Loc), va_P D vwCl w2 H1 → va_D A w2 → va_S A s.heap H1 locs1 → W p l e R s m args below meth c H1 locs1 cells slots Q (F0 m (pc + 1) ls rest)) : W p l e R s m args below meth c H locs cells slots Q (F0 m pc ls (.int x :: .int (nI i) :: .ref a :: rest)) := by
  subst hw2
  subst hg
  refine va_zast hx hb hK hP hD hS q0 t0 ha ht (vp_in_nI hi hn) hdg (fun H1 locs1 h1 h2 h3 => kk H1 locs1 ?_ ?_ h3)
  · rw [nI_clamp (Nat.lt_trans hi hn), hnar] at h1; exact h1
  · rw [nI_clamp (Nat.lt_trans hi hn), hnar] at h2; exact h2
end KA
def jmin (x y : Int32) : Int32 := if y < x then y else x
def jmax (x y : Int32) : Int32 := if x < y then y else x
def irem (x y : Int32) : Int32 := x - x / y * y
def b2i (P : Prop) [Decidable P] : Int32 := if P then nI 1 else nI 0
theorem b2i_nar (P : Prop) [Decidable P] : narrow .boolean (.int (b2i P)) = .int (b2i P) := by
  unfold b2i; split <;> rfl
section KB
variable {p : Program} {l : Launch} {e : Env} {R : Room} {s : State} {m : MethodId} {args : Array Value} {below : List Frame} {meth : Method} {c : Code} {H : Heap} {locs : List Loc} {cells slots : Nat} {Q : State → Prop}
variable {cc : ByteArray} {pc : Nat} {ls : Array Slot} {rest : List Value}
theorem k_bif_eq (hx : p.tables.exec = Jvm.exec) (hb : c.code = cc) {P : Prop} {dP : Decidable P} {off : Int} {tgt : Nat} (hdg : decode cc pc = .ok (.ifCond .eq off, 3)) (ht : (pc : Int) + off = (tgt : Int))
    (kt : ¬ P → W p l e R s m args below meth c H locs cells slots Q (F0 m tgt ls rest)) (kf : P → W p l e R s m args below meth c H locs cells slots Q (F0 m (pc + 3) ls rest)) : W p l e R s m args below meth c H locs cells slots Q (F0 m pc ls (.int (b2i P) :: rest)) := by
  unfold b2i
  by_cases h : P
  · rw [if_pos h]; exact lv_if_eq hx hb hdg ht (fun h => absurd h (by decide)) (fun _ => kf h)
  · rw [if_neg h]; exact lv_if_eq hx hb hdg ht (fun _ => kt h) (fun h => absurd rfl h)
theorem k_bif_ne (hx : p.tables.exec = Jvm.exec) (hb : c.code = cc) {P : Prop} {dP : Decidable P} {off : Int} {tgt : Nat} (hdg : decode cc pc = .ok (.ifCond .ne off, 3)) (ht : (pc : Int) + off = (tgt : Int))
    (kt : P → W p l e R s m args below meth c H locs cells slots Q (F0 m tgt ls rest)) (kf : ¬ P → W p l e R s m args below meth c H locs cells slots Q (F0 m (pc + 3) ls rest)) : W p l e R s m args below meth c H locs cells slots Q (F0 m pc ls (.int (b2i P) :: rest)) := by
  unfold b2i
  by_cases h : P
  · rw [if_pos h]; exact lv_if_ne hx hb hdg ht (fun _ => kt h) (fun h => absurd h (by decide))
  · rw [if_neg h]; exact lv_if_ne hx hb hdg ht (fun h => absurd rfl h) (fun _ => kf h)
end KB
theorem k_minN {a b : Nat} (ha : a < 2147483648) (hb : b < 2147483648) (h : a ≤ b) : jmin (nI a) (nI b) = nI a := by
  unfold jmin
  rw [if_neg (fun q => by rw [nI_ltI hb ha] at q; omega)]
theorem k_maxN {a b : Nat} (ha : a < 2147483648) (hb : b < 2147483648) : jmax (nI a) (nI b) = nI (max a b) := by
  unfold jmax
  by_cases h : a < b
  · rw [if_pos ((nI_ltI ha hb).mpr h), Nat.max_eq_right (by omega)]
  · rw [if_neg (fun q => h ((nI_ltI ha hb).mp q)), Nat.max_eq_left (by omega)]

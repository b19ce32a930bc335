/-! 04b: methods that throw: kX, a method that throws E and leaves its world as it was (laid by wip/whole/gen) -/
abbrev xEI : String := "java/lang/IndexOutOfBoundsException"
abbrev xEA : String := "java/lang/IllegalArgumentException"
abbrev xES : String := "java/lang/IllegalStateException"
abbrev xNm : List String := ["java/lang/RuntimeException", "java/lang/Exception"]
def kTx : List (Nat × String) := [(111, "the layer of the year ahead of it is compacted"), (165, "years is not 1 to 30"), (217, "there is no such place"), (219, "the number is not 1 to 99"), (224, "12 deeds were done in this year, or there are 40 layers"), (226, "there is no such layer"), (228, "there is no such core"), (230, "year is not 0 to the year of now"), (232, "the year cannot be replayed"), (53, "there are 40 layers"), (71, "year is not 1 to the year of now"), (78, "there is no core of this year"), (92, "the layer has no such deed"), (98, "two of a flow is not 0")]
/-- what the throws ask of the tables beside the good words -/
def kW (U : State) : Prop := (va_Nw (.declares (Bundle.initS "java/lang/RuntimeException")) U ∧ va_Nw (.declares (Bundle.initS "java/lang/Exception")) U ∧ va_Nw (.declares (Bundle.initS "java/lang/Throwable")) U) ∧ (va_Nw (.castable xEI xEI) U ∧ va_Nw (.castable xEA xEA) U ∧ va_Nw (.castable xES xES) U) ∧ (va_Nc xEA xEI U ∧ va_Nc xES xEI U ∧ va_Nc xES xEA U) ∧ (∀ q ∈ kTx, ∃ a : Nat, vk_R RX3 q.1 q.2 a U)
theorem kW.warm {s U : State} (hW : s.WarmedH U.vm) (h : kW s) : kW U := by
  obtain ⟨⟨d1, d2, d3⟩, ⟨c1, c2, c3⟩, ⟨n1, n2, n3⟩, ht⟩ := h
  exact ⟨⟨va_Nw.warmD hW d1, va_Nw.warmD hW d2, va_Nw.warmD hW d3⟩, ⟨va_Nw.warmC hW c1, va_Nw.warmC hW c2, va_Nw.warmC hW c3⟩, ⟨n1.moved hW.alike, n2.moved hW.alike, n3.moved hW.alike⟩, fun q hq => by
    obtain ⟨a, ha⟩ := ht q hq
    exact ⟨a, vk_R.warm hW ha⟩⟩
def kZ (A : Nat → Prop) (U : State) (H : Heap) : Prop := kW U ∧ vx_Zq Bundle.tN "UNASSIGNED_STACK" Bundle.steD A U H ∧ vx_Zq Bundle.tN "SUPPRESSED_SENTINEL" Bundle.listD A U H
theorem kZ.pass {A B : Nat → Prop} {s U : State} {H : Heap} {locs : List Loc} (h : kZ A s s.heap) (hS : va_S A s.heap H locs) (hB : ∀ q, B q → A q) (hW : s.WarmedH U.vm) (hU : U.heap = H) : kZ B U U.heap := by
  obtain ⟨h1, h2, h3⟩ := h
  rw [hU]
  exact ⟨h1.warm hW, (vx_Zq.moved hW.alike (h2.kept hS.2.1)).narrow hB, (vx_Zq.moved hW.alike (h3.kept hS.2.1)).narrow hB⟩
def kBZ (D : va_G) (tys : List (ClassId × FieldType)) (w : va_W) (sz : Nat) (U : State) : Prop := kB D tys w sz U ∧ kZ (va_A w sz) U U.heap
theorem kBZ_blind {av : List Value} {D : va_G} {tys : List (ClassId × FieldType)} {w : va_W} {sz : Nat} : FrameBlind (va_Pc av (kBZ D tys w sz)) := fun a U g mk q => by
  obtain ⟨q0, ⟨q1, qP, qK, qD⟩, z1, z2, z3⟩ := q
  exact ⟨q0, ⟨q1, qP, va_K.moved (u := U) (U := U.calling g mk a) (Vm.Alike.refl U.vm) qK, qD⟩, z1.warm (U := U.calling g mk a) (State.WarmedH.refl U), vx_Zq.moved (u := U) (U := U.calling g mk a) (Vm.Alike.refl U.vm) z2, vx_Zq.moved (u := U) (U := U.calling g mk a) (Vm.Alike.refl U.vm) z3⟩
def kXC (D : va_G) (tys : List (ClassId × FieldType)) (A : Nat → Prop) (w : va_W) (E : String) : String → State → State → Prop := fun E2 st t => E2 = E ∧ kE D tys A w t ∧ va_F A st t
def kNo : Array Value → State → Outcome → State → Prop := fun _ _ _ _ => False
/-- a method that throws E -/
def kX (l : Launch) (y : MethodName) (wd : List Cond) (rm : Room) (D : va_G) (tys : List (ClassId × FieldType)) (av : List Value) (w : va_W) (E : String) : Prop :=
  ∀ sz : Nat, vx_Met l y wd rm (va_Pc av (kBZ D tys w sz)) kNo (kXC D tys (va_A w sz) w E) rm.cells rm.slots (va_A w sz)
theorem kX_of {l : Launch} {y : MethodName} {wd : List Cond} {rm : Room} {D : va_G} {tys : List (ClassId × FieldType)} {av : List Value} {w : va_W} {E : String} {cc : ByteArray} {maxL : Nat} {ret : Option FieldType} {ws' : List Cond} {own : String}
    (hy : plainName y.cls = true) (hw : wd = Cond.code y cc maxL ret :: ws') (hC : y.cls = own) (hn : (lg_sl av).length ≤ maxL)
    (body : ∀ (p : Program) (e : Env) (s : State) (m : MethodId) (args : Array Value) (below : List Frame) (meth : Method) (c : Code) (A : Nat → Prop) (ls : Array Slot) (Qz : State → Prop), p.tables.exec = Jvm.exec → c.code = cc → c.maxLocals = maxL → (∀ w ∈ wd, w.before args s = true) → s.vm.findClass own = some m.cls → meth.locks = false → (∀ x ∈ c.exceptionTable.toList, False) → Qz = vx_MQ below kNo (kXC D tys A w E) args s rm.cells rm.slots A → (∀ q : Nat, s.heap.size ≤ q → A q) → va_S A s.heap s.heap [] → va_P D vwCl w s.heap → va_D A w → va_K D vwCl tys s → kZ A s s.heap → lv_has ls maxL (lv_args 0 av) →
      W p l e rm s m args below meth c s.heap [] 0 0 Qz (F0 m 0 ls [])) : kX l y wd rm D tys av w E := by
  intro sz
  refine vx_ofW (cc := cc) (maxL := maxL) (ret := ret) hy hw ?_
  intro p e s m args below meth c s₁ B hml htab hv
  obtain ⟨rfl, ⟨hsz, hP, hK, hD0⟩, hZ⟩ := hv
  subst hsz
  have hl := lv_entry av (n := maxL) hn
  rw [lg_entry_eq]
  generalize (lg_sl av ++ List.replicate (maxL - (lg_sl av).length) Slot.unset).toArray = ls at hl ⊢
  exact body p e s m av.toArray below meth c (va_A w s.heap.size) ls _ B.exec B.bytes hml (atoms_spec (ws := wd) B.pre) (by rw [← hC]; exact findClass_of_methodNamed B.named) B.notSynchronized htab rfl (fun q h => Or.inr h) va_S.rf hP hD0.self hK hZ hl
section KX
variable {p : Program} {l : Launch} {e : Env} {R : Room} {s : State} {m : MethodId} {args : Array Value} {below : List Frame} {meth : Method} {c : Code} {H : Heap} {locs : List Loc} {cells slots : Nat} {Q Qz : State → Prop}
variable {D : va_G} {tys tysC : List (ClassId × FieldType)} {A : Nat → Prop} {w wc wr : va_W} {E : String} {mc ms : Nat} {cc : ByteArray} {pc : Nat} {ls : Array Slot} {rest st0 : List Value} {args2 : Array Value}
/-- behind a call that threw: the world as it was; the exception lies over the method's frame -/
theorem kX_go (hr : vx_Run p l e R s m args below meth c H locs cells slots mc ms (F0 m pc ls st0) rest (kNo args2) (kXC D tysC (va_A wc H.size) wc E) (va_A wc H.size))
    (hP : va_P D vwCl w H) (hD : va_D A w) (hS : va_S A s.heap H locs) (hA : ∀ q, s.heap.size ≤ q → A q)
    (isC isR : List Nat) (hC : isC.map (fun i => w[i]?) = wc.map some) (hR : isR.map (fun i => w[i]?) = wr.map some) (hRn : va_nd isR = true) (hdis : ∀ i ∈ isR, i ∉ isC)
    (is2 : List Nat) (h2n : va_nd is2 = true) (h2 : is2.map (fun i => (wr ++ wc)[i]?) = w.map some) {k n2 : Nat} (hk : cells + mc ≤ k) (hn2 : slots + ms ≤ n2)
    (kx : ∀ (ce : Cell) (q9 : Addr) (H1 : Heap) (locs1 : List Loc), va_P D vwCl w H1 → va_D A w → va_S A s.heap H1 locs1 → H1[q9]? = some ce → ce.vm = .none → s.vm.findClass E = some ce.cls → vx_W p l e R s m args below meth c H1 locs1 k n2 Q (F0 m pc ls rest) q9) :
    W p l e R s m args below meth c H locs cells slots Q (F0 m pc ls st0) := by
  intro T hT X
  rcases hr T hT X with ⟨v, st₀, t, T', L, h0, X', hL, e1, e2, hq, st⟩ | ⟨q, st₀, t, T', L, E2, ce, h0, X', hL, e1, e2, ⟨rfl, ⟨hP1, hK1, hD1⟩, hz, hk9⟩, hce, hcv, hcl, st⟩
  · exact hq.elim
  · rw [h0] at hz hk9
    have hF := va_free (wc := wc) hD hS hA isC hC
    rw [← e1] at hP1 hz hk9 hce
    obtain ⟨hP3, hD3⟩ := va_join (wr := wr) (w1 := wc) hP hD isC isR hC hR hRn hdis hk9 hF hP1 hD1
    have hP4 : va_P D vwCl w T'.heap := hP3.sub is2 (kFM h2)
    have hS4 : va_S A s.heap T'.heap (locs ++ L) := ⟨Nat.le_trans hS.1 hz, fun q h1 h2 => by rw [hk9 q (Nat.lt_of_lt_of_le h1 hS.1) (fun z => h2 (hF q z))]; exact hS.2.1 q h1 h2, fun q hq => by
      rcases List.mem_append.mp hq with h | h
      · exact hS.2.2 q h
      · exact hF _ (hL q h)⟩
    obtain ⟨t2, a1, b1⟩ := kx ce q T'.heap (locs ++ L) hP4 hD hS4 hce hcv hcl T' rfl (stand_widen X' hk hn2)
    exact ⟨t2, st.trans a1, b1⟩
/-- it goes on to the caller -/
theorem kX_out {ce : Cell} {q9 : Addr} (htab : ∀ x ∈ c.exceptionTable.toList, False) (hlk : meth.locks = false) (hQ : Qz = vx_MQ below kNo (kXC D tys A w E) args s mc ms A) (hK : va_K D vwCl tys s) (hc : cells ≤ mc) (hs : slots ≤ ms)
    (hP : va_P D vwCl w H) (hD : va_D A w) (hS : va_S A s.heap H locs) (hce : H[q9]? = some ce) (hcv : ce.vm = .none) (hcl : s.vm.findClass E = some ce.cls) :
    vx_W p l e R s m args below meth c H locs cells slots Qz (F0 m pc ls rest) q9 := by
  subst hQ
  exact vx_out (fun x hx => (htab x hx).elim) hlk hce hcv hcl (fun t ht hW => ⟨rfl, ⟨by rw [ht]; exact hP, va_K.moved hW hK, hD⟩, hS.F ht⟩) hS.2.2 hc hs
/-- throw new E(text) -/
theorem kX_throw {text : String} {ik is ic : Nat} (hx : p.tables.exec = Jvm.exec) (hb : c.code = cc) (hfl : l.stackTraces = false) (hown : s.vm.findClass RX3 = some m.cls) (htab : ∀ x ∈ c.exceptionTable.toList, False) (hlk : meth.locks = false) (hl : ls.size = c.maxLocals)
    (hQ : Qz = vx_MQ below kNo (kXC D tys A w E) args s mc ms A) (hP : va_P D vwCl w H) (hD : va_D A w) (hK : va_K D vwCl tys s) (hS : va_S A s.heap H locs) (hZ : kZ A s s.heap) (hcls : Bundle.fit E = true)
    (hk : (Cond.classLink RX3 ik E).before args s = true) (hini : (Cond.initialized E).before args s = true) (h1 : ∀ w ∈ (vx_atS RX3 ic E xNm).filter goodWord, w.before args s = true)
    (h2 : ∀ w ∈ (vx_atS RX3 ic E xNm).filter (fun w => !goodWord w), w ∈ [Cond.declares (Bundle.initS "java/lang/RuntimeException"), Cond.declares (Bundle.initS "java/lang/Exception"), Cond.declares (Bundle.initS "java/lang/Throwable"), Cond.castable E E]) (hcast : va_Nw (.castable E E) s)
    (hgood : ∀ w ∈ Cond.classLink RX3 ik E :: Cond.initialized E :: vx_atS RX3 ic E xNm, vx_ot w = true) (hstr : (is, text) ∈ kTx)
    (d0 : decode cc pc = .ok (.new ik, 3)) (d3 : decode cc (pc + 3) = .ok (.dup, 1)) (d4 : decode cc (pc + 4) = .ok (.ldc is, 2)) (d6 : decode cc (pc + 6) = .ok (.invokespecial ic, 3)) (d9 : decode cc (pc + 9) = .ok (.athrow, 1))
    (hfr : 6 ≤ R.frames) (hlo : (rest.map fun v => v.category).sum + 82 ≤ R.locals) (hRc : cells + 1 ≤ R.cells) (hRs : slots + 6 ≤ R.slots) (hc : cells + 1 ≤ mc) (hs : slots + 6 ≤ ms) :
    W p l e R s m args below meth c H locs cells slots Qz (F0 m pc ls rest) := by
  subst hQ
  obtain ⟨⟨⟨w1, w2, w3⟩, -, -, ht⟩, hU, hN⟩ := hZ
  obtain ⟨sa, hsa⟩ := ht _ hstr
  refine vx_throwS (names := xNm) (sa := sa) hx hb hfl hown hcls (by decide) hk hini hsa (vx_hat h1 h2 (vx_c (va_Nw.use rfl w1) (vx_c (va_Nw.use rfl w2) (vx_c (va_Nw.use rfl w3) (vx_c (va_Nw.use rfl hcast) vx_n))))) hgood hU hN hS hl d0 d3 d4 d6 d9 (fun x hx => (htab x hx).elim) (by show 2 + 3 < R.frames; omega) (by show _ + (13 * (2 + 1) + 43) ≤ _; omega) hRc hRs hlk (fun t hW hz hq => ?_) hS.2.2 hc hs
  have hk9 : ∀ q : Nat, q < s.heap.size → ¬ A q → t.heap[q]? = s.heap[q]? := fun q h1 h2 => by rw [hq q (Nat.lt_of_lt_of_le h1 hS.1)]; exact hS.2.1 q h1 h2
  exact ⟨rfl, ⟨hP.kept (fun k x hx => hq x.1 ((hP k x hx).lt)), va_K.moved hW hK, hD⟩, Nat.le_trans hS.1 hz, hk9⟩
end KX
theorem kBadI : ∀ w ∈ (vx_atS RX3 94 xEI xNm).filter (fun w => !goodWord w), w ∈ [Cond.declares (Bundle.initS "java/lang/RuntimeException"), Cond.declares (Bundle.initS "java/lang/Exception"), Cond.declares (Bundle.initS "java/lang/Throwable"), Cond.castable xEI xEI] := by decide +kernel
theorem kOtI : ∀ w ∈ Cond.classLink RX3 90 xEI :: Cond.initialized xEI :: vx_atS RX3 94 xEI xNm, vx_ot w = true := by decide +kernel
theorem kBadA : ∀ w ∈ (vx_atS RX3 73 xEA xNm).filter (fun w => !goodWord w), w ∈ [Cond.declares (Bundle.initS "java/lang/RuntimeException"), Cond.declares (Bundle.initS "java/lang/Exception"), Cond.declares (Bundle.initS "java/lang/Throwable"), Cond.castable xEA xEA] := by decide +kernel
theorem kOtA : ∀ w ∈ Cond.classLink RX3 69 xEA :: Cond.initialized xEA :: vx_atS RX3 73 xEA xNm, vx_ot w = true := by decide +kernel
theorem kBadS : ∀ w ∈ (vx_atS RX3 55 xES xNm).filter (fun w => !goodWord w), w ∈ [Cond.declares (Bundle.initS "java/lang/RuntimeException"), Cond.declares (Bundle.initS "java/lang/Exception"), Cond.declares (Bundle.initS "java/lang/Throwable"), Cond.castable xES xES] := by decide +kernel
theorem kOtS : ∀ w ∈ Cond.classLink RX3 51 xES :: Cond.initialized xES :: vx_atS RX3 55 xES xNm, vx_ot w = true := by decide +kernel
section KXC
variable {p : Program} {l : Launch} {e : Env} {R : Room} {s : State} {m : MethodId} {args : Array Value} {below : List Frame} {meth : Method} {c : Code} {H : Heap} {locs : List Loc} {cells slots : Nat} {Q : State → Prop}
variable {D : va_G} {tys tysC : List (ClassId × FieldType)} {A : Nat → Prop} {w wc wr : va_W} {E : String} {cc : ByteArray} {pc : Nat} {ls : Array Slot} {rest st0 : List Value}
variable {y : MethodName} {bytes : ByteArray} {maxL nL n index : Nat} {ret : Option FieldType} {wd : List Cond} {rm : Room} {Ts : List Cond} {own C : String} {b : Addr} {As : List Value}
theorem kX_callV (F : CallFix p m c cc nL s args Ts own) (hM : kX l y wd rm D tysC (Value.ref b :: As) wc E) (cw : CallW R s args own C index y bytes maxL ret wd rm rm.cells rm.slots n) (q0 : Nat) {ci : Nat} {fs : List Value} {rr : vw_C} (hq : w[q0]? = some (b, .inr (ci, fs))) (hc : vwCl[ci]? = some rr) (hCC : rr.1 = C)
    (isT : List Nat) (hT : isT.filterMap (fun i => tys[i]?) = tysC) (hK : va_K D vwCl tys s) (hP : va_P D vwCl w H) (hD : va_D A w) (hS : va_S A s.heap H locs) (hA : ∀ q, s.heap.size ≤ q → A q) (hZ : kZ A s s.heap)
    (isC isR : List Nat) (hC : isC.map (fun i => w[i]?) = wc.map some) (hCn : va_nd isC = true) (hR : isR.map (fun i => w[i]?) = wr.map some) (hRn : va_nd isR = true) (hdis : ∀ i ∈ isR, i ∉ isC)
    (is2 : List Nat) (h2n : va_nd is2 = true) (h2 : is2.map (fun i => (wr ++ wc)[i]?) = w.map some) {k n2 : Nat} (hk : cells + rm.cells ≤ k) (hn2 : slots + rm.slots ≤ n2) (hkR : k ≤ R.cells) (hnR : n2 ≤ R.slots)
    (hn : As.length = n) (hl : ls.size = nL) (hW : (rest.map fun v => v.category).sum ≤ 8) (hst0 : st0 = As.reverse ++ .ref b :: rest) (hdg : decode cc pc = .ok (.invokevirtual index, 3))
    (kx : ∀ (ce : Cell) (q9 : Addr) (H1 : Heap) (locs1 : List Loc), va_P D vwCl w H1 → va_D A w → va_S A s.heap H1 locs1 → H1[q9]? = some ce → ce.vm = .none → s.vm.findClass E = some ce.cls → vx_W p l e R s m args below meth c H1 locs1 k n2 Q (F0 m pc ls rest) q9) :
    W p l e R s m args below meth c H locs cells slots Q (F0 m pc ls st0) :=
  kX_go (mc := rm.cells) (ms := rm.slots) (vx_runV (As := As) (rest := rest) F (hM H.size) cw ⟨kBZ_blind, hCC ▸ va_recv hK hP hc hq, fun U hU hW => ⟨rfl, ⟨by rw [hU], by rw [hU]; exact hP.sub isC (kFM hC), va_K.moved hW.alike (hK.sub isT hT), (hD.sub isC hCn hC).weaken (fun _ _ _ _ => trivial)⟩, hZ.pass hS (va_free hD hS hA isC hC) hW hU⟩⟩ rfl hn hl hst0 (lv_room hW) hdg ⟨Nat.le_trans hk hkR, Nat.le_trans hn2 hnR⟩) hP hD hS hA isC isR hC hR hRn hdis is2 h2n h2 hk hn2 kx
theorem kX_callS (F : CallFix p m c cc nL s args Ts own) (hM : kX l y wd rm D tysC As wc E) (cw : CallB R s args own index y bytes maxL ret wd rm rm.cells rm.slots n ∧ (Cond.static y).before args s = true)
    (isT : List Nat) (hT : isT.filterMap (fun i => tys[i]?) = tysC) (hK : va_K D vwCl tys s) (hP : va_P D vwCl w H) (hD : va_D A w) (hS : va_S A s.heap H locs) (hA : ∀ q, s.heap.size ≤ q → A q) (hZ : kZ A s s.heap)
    (isC isR : List Nat) (hC : isC.map (fun i => w[i]?) = wc.map some) (hCn : va_nd isC = true) (hR : isR.map (fun i => w[i]?) = wr.map some) (hRn : va_nd isR = true) (hdis : ∀ i ∈ isR, i ∉ isC)
    (is2 : List Nat) (h2n : va_nd is2 = true) (h2 : is2.map (fun i => (wr ++ wc)[i]?) = w.map some) {k n2 : Nat} (hk : cells + rm.cells ≤ k) (hn2 : slots + rm.slots ≤ n2) (hkR : k ≤ R.cells) (hnR : n2 ≤ R.slots)
    (hn : As.length = n) (hl : ls.size = nL) (hW : (rest.map fun v => v.category).sum ≤ 8) (hst0 : st0 = As.reverse ++ rest) (hdg : decode cc pc = .ok (.invokestatic index, 3))
    (kx : ∀ (ce : Cell) (q9 : Addr) (H1 : Heap) (locs1 : List Loc), va_P D vwCl w H1 → va_D A w → va_S A s.heap H1 locs1 → H1[q9]? = some ce → ce.vm = .none → s.vm.findClass E = some ce.cls → vx_W p l e R s m args below meth c H1 locs1 k n2 Q (F0 m pc ls rest) q9) :
    W p l e R s m args below meth c H locs cells slots Q (F0 m pc ls st0) :=
  kX_go (mc := rm.cells) (ms := rm.slots) (vx_runS (As := As) (rest := rest) F (hM H.size) cw ⟨kBZ_blind, fun U hU hW => ⟨rfl, ⟨by rw [hU], by rw [hU]; exact hP.sub isC (kFM hC), va_K.moved hW.alike (hK.sub isT hT), (hD.sub isC hCn hC).weaken (fun _ _ _ _ => trivial)⟩, hZ.pass hS (va_free hD hS hA isC hC) hW hU⟩⟩ rfl hn hl hst0 (lv_room hW) hdg ⟨Nat.le_trans hk hkR, Nat.le_trans hn2 hnR⟩) hP hD hS hA isC isR hC hR hRn hdis is2 h2n h2 hk hn2 kx
end KXC
section KT
variable {p : Program} {l : Launch} {e : Env} {R : Room} {s : State} {m : MethodId} {args : Array Value} {below : List Frame} {meth : Method} {c : Code} {H : Heap} {locs : List Loc} {cells slots : Nat} {Q : State → Prop}
variable {cc : ByteArray} {pc : Nat} {ls : Array Slot} {rest : List Value}
theorem k_tern (hx : p.tables.exec = Jvm.exec) (hb : c.code = cc) {P : Prop} {dP : Decidable P} {off off2 : Int} {tgt tgt2 : Nat} (hdg : decode cc pc = .ok (.ifCond .eq off, 3)) (ht : (pc : Int) + off = (tgt : Int)) (h1 : decode cc (pc + 3) = .ok (.iconst 1, 1)) (h2 : decode cc (pc + 3 + 1) = .ok (.goto off2, 3)) (ht2 : ((pc + 3 + 1 : Nat) : Int) + off2 = (tgt2 : Int)) (h3 : decode cc tgt = .ok (.iconst 0, 1)) (k : W p l e R s m args below meth c H locs cells slots Q (F0 m (tgt + 1) ls (.int (b2i P) :: rest))) (h9 : tgt + 1 = tgt2 := by decide) : W p l e R s m args below meth c H locs cells slots Q (F0 m pc ls (.int (b2i P) :: rest)) := by
  refine k_bif_eq hx hb hdg ht (fun h => ?_) (fun h => ?_)
  · refine lv_iconst (v := nI 0) hx hb h3 (by decide) ?_
    rw [show b2i P = nI 0 from if_neg h] at k
    exact k
  · refine lv_iconst (v := nI 1) hx hb h1 (by decide) ?_
    refine lv_goto (tgt := tgt2) hx hb h2 ht2 ?_
    rw [show b2i P = nI 1 from if_pos h, h9] at k
    exact k
end KT

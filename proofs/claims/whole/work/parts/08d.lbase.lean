/-! 08d: methods with a table of handlers, and what the law needs -/
def kMZ (l : Launch) (y : MethodName) (wd : List Cond) (rm : Room) (D : va_G) (tys : List (ClassId × FieldType)) (av : List Value) (w : va_W) {S : Type} (post : S → Prop) (rho : S → Option Value) (w' : S → va_W) : Prop :=
  ∀ sz : Nat, Met l y wd rm (va_Pc av (kBZ D tys w sz)) (kQ post rho (fun u t => kE D tys (va_A w sz) (w' u) t) (va_A w sz)) rm.cells rm.slots (va_A w sz)
theorem kMZ_ofH {l : Launch} {y : MethodName} {wd : List Cond} {rm : Room} {D : va_G} {tys : List (ClassId × FieldType)} {av : List Value} {w : va_W} {S : Type} {post : S → Prop} {rho : S → Option Value} {w' : S → va_W} {cc : ByteArray} {maxL : Nat} {ret : Option FieldType} {hh : List (Nat × Nat × Nat × Nat)} {ws' : List Cond} {own : String}
    (hy : plainName y.cls = true) (hw : wd = Cond.codeWith y cc maxL ret hh :: ws') (hC : y.cls = own) (hn : (lg_sl av).length ≤ maxL)
    (body : ∀ (p : Program) (e : Env) (s : State) (m : MethodId) (args : Array Value) (below : List Frame) (meth : Method) (c : Code) (A : Nat → Prop) (ls : Array Slot) (Qz : State → Prop), p.tables.exec = Jvm.exec → c.code = cc → c.maxLocals = maxL → meth.sig.returnType = ret → (∀ w ∈ wd, w.before args s = true) → s.vm.findClass own = some m.cls → meth.locks = false → c.exceptionTable.toList = tableOf hh → Qz = MQ below (kQ post rho (fun u t => kE D tys A (w' u) t) A) args s rm.cells rm.slots A → (∀ q : Nat, s.heap.size ≤ q → A q) → va_S A s.heap s.heap [] → va_P D vwCl w s.heap → va_D A w → va_K D vwCl tys s → kZ A s s.heap → lv_has ls maxL (lv_args 0 av) →
      W p l e rm s m args below meth c s.heap [] 0 0 Qz (F0 m 0 ls [])) : kMZ l y wd rm D tys av w post rho w' := by
  intro sz
  refine MetFree.of_bodyS (code := cc) (maxLocals := maxL) (ret := ret) hy ?_ ?_
  · intro args s m h hn9
    obtain ⟨m9, meth, c, hn8, h1, h2, h3, h4, -, h5, h6, -⟩ := Cond.codeWith_spec (atoms_spec (ws := wd) h _ (by rw [hw]; exact List.mem_cons_self))
    cases hn9.symm.trans hn8
    exact ⟨meth, c, h1, h2, h3, h4, h5, h6⟩
  · intro p e s m args below meth c s₁ B hml hv _
    have hh0 : s₁.heap = s.heap := by rw [B.state]; rfl
    obtain ⟨rfl, ⟨hsz, hP, hK, hD0⟩, hZ⟩ := hv
    subst hsz
    have hl := lv_entry av (n := maxL) hn
    have htw := atoms_spec (ws := wd) B.pre
    have htab := vx_table (x := y) B (htw _ (by rw [hw]; exact List.mem_cons_self))
    have K : W p l e rm s m av.toArray below meth c s₁.heap [] 0 0 (MQ below (kQ post rho (fun u t => kE D tys (va_A w s.heap.size) (w' u) t) (va_A w s.heap.size)) av.toArray s rm.cells rm.slots (va_A w s.heap.size)) (entryFrame m av.toArray maxL) := by
      rw [hh0, lg_entry_eq]
      generalize (lg_sl av ++ List.replicate (maxL - (lg_sl av).length) Slot.unset).toArray = ls at hl ⊢
      exact body p e s m av.toArray below meth c (va_A w s.heap.size) ls _ B.exec B.bytes hml B.returns htw (by rw [← hC]; exact findClass_of_methodNamed B.named) B.notSynchronized htab rfl (fun q h => Or.inr h) va_S.rf hP hD0.self hK hZ hl
    obtain ⟨t, a1, o, b1, b2, b3⟩ := K s₁ rfl (Stand.of_body B)
    exact ⟨t, o, a1, b1, b2, ⟨b3.1, b3.2⟩⟩
section KMZ
variable {p : Program} {l : Launch} {e : Env} {R : Room} {s : State} {m : MethodId} {args : Array Value} {below : List Frame} {meth : Method} {c : Code} {H : Heap} {locs : List Loc} {cells slots : Nat} {Q : State → Prop}
variable {D : va_G} {tys tysC : List (ClassId × FieldType)} {A : Nat → Prop} {w wc wr : va_W} {S : Type} {post : S → Prop} {rho : S → Option Value} {w' w2 : S → va_W} {cc : ByteArray} {pc : Nat} {ls : Array Slot} {rest st0 : List Value}
variable {y : MethodName} {bytes : ByteArray} {maxL nL n index : Nat} {ret : Option FieldType} {hh : List (Nat × Nat × Nat × Nat)} {wd : List Cond} {rm : Room} {Ts : List Cond} {own C : String} {b : Addr} {As : List Value}
theorem kMZ_callSW (F : CallFix p m c cc nL s args Ts own) (hM : kMZ l y wd rm D tysC As wc post rho w') (cw : vx_CSW R s args own index y bytes maxL ret hh wd rm rm.cells rm.slots n)
    (isT : List Nat) (hT : isT.filterMap (fun i => tys[i]?) = tysC) (hK : va_K D vwCl tys s) (hP : va_P D vwCl w H) (hD : va_D A w) (hS : va_S A s.heap H locs) (hA : ∀ q, s.heap.size ≤ q → A q) (hZ : kZ A s s.heap)
    (isC isR : List Nat) (hC : isC.map (fun i => w[i]?) = wc.map some) (hCn : va_nd isC = true) (hR : isR.map (fun i => w[i]?) = wr.map some) (hRn : va_nd isR = true) (hdis : ∀ i ∈ isR, i ∉ isC)
    (is2 : List Nat) (h2n : va_nd is2 = true) (h2 : ∀ u, is2.map (fun i => (wr ++ w' u)[i]?) = (w2 u).map some) {k n2 : Nat} (hk : cells + rm.cells ≤ k) (hn2 : slots + rm.slots ≤ n2) (hkR : k ≤ R.cells) (hnR : n2 ≤ R.slots)
    (hn : As.length = n) (hl : ls.size = nL) (hW : (rest.map fun v => v.category).sum ≤ 8) {st2 : S → List Value} (hst : ∀ u, (rho u).toList ++ rest = st2 u) (hst0 : st0 = As.reverse ++ rest) (hdg : decode cc pc = .ok (.invokestatic index, 3))
    (kk : ∀ (u : S) (H1 : Heap) (locs1 : List Loc), post u → va_P D vwCl (w2 u) H1 → va_D A (w2 u) → va_S A s.heap H1 locs1 → W p l e R s m args below meth c H1 locs1 k n2 Q (F0 m (pc + 3) ls (st2 u))) :
    W p l e R s m args below meth c H locs cells slots Q (F0 m pc ls st0) :=
  kM_go (mc := rm.cells) (ms := rm.slots) (vx_runSW (As := As) (rest := rest) F (hM H.size) cw ⟨kBZ_blind, fun U hU hW => ⟨rfl, ⟨by rw [hU], by rw [hU]; exact hP.sub isC (kFM hC), va_K.moved hW.alike (hK.sub isT hT), (hD.sub isC hCn hC).weaken (fun _ _ _ _ => trivial)⟩, hZ.pass hS (va_free hD hS hA isC hC) hW hU⟩⟩ rfl hn hl hst0 (lv_room hW) hdg ⟨Nat.le_trans hk hkR, Nat.le_trans hn2 hnR⟩) hP hD hS hA isC isR hC hR hRn hdis is2 h2n h2 hk hn2 hst kk
theorem k_sld (hx : p.tables.exec = Jvm.exec) (hb : c.code = cc) {b L : Nat} {xs : Nat → Int32} (hX : va_X b L xs s s.heap) (hbl : b < s.heap.size) (hbA : ¬ A b) (hS : va_S A s.heap H locs) {i : Nat} (hi : i < L) (hL : L ≤ 2048) (hdg : decode cc pc = .ok (.iaload, 1))
    (kk : W p l e R s m args below meth c H locs cells slots Q (F0 m (pc + 1) ls (.int (xs i) :: rest))) : W p l e R s m args below meth c H locs cells slots Q (F0 m pc ls (.int (nI i) :: .ref b :: rest)) :=
  va_sld hx hb hX hbl hbA hS (vp_in_nI hi (by omega)) hdg (k_top (by rw [nI_clamp (by omega)]) kk)
end KMZ
theorem lg_self (x : Int64) : lg_cmp x x = nI 0 := by
  unfold lg_cmp
  simp
  rfl
theorem k_lim {L i : Nat} (hL : L ≤ 2048) (hi : i ≤ 4096) (h : ¬ nI L - nI 4 < nI i) : i + 4 ≤ L := by
  have e := pk_sub_toInt (a := L) (b := 4) (by omega) (by decide)
  rw [Int32.lt_iff_toInt_lt, e, nI_toInt (by omega)] at h
  omega
theorem k_place (v : Int32) {n : Nat} (hn : n < 2147483648) : (v < 0 ∨ ¬ v < nI n) ∨ ∃ j : Nat, j < n ∧ v = nI j := by
  rcases pk_ix v hn with h | h | h
  · exact Or.inl (Or.inl h)
  · exact Or.inl (Or.inr (Int32.not_lt.mpr h))
  · exact Or.inr h
theorem k_upto (v : Int32) {n : Nat} (hn : n + 1 < 2147483648) : (v < 0 ∨ ¬ v ≤ nI n) ∨ ∃ j : Nat, j ≤ n ∧ v = nI j := by
  rcases pk_ix v hn with h | h | ⟨j, h1, h2⟩
  · exact Or.inl (Or.inl h)
  · refine Or.inl (Or.inr (fun q => ?_))
    rw [Int32.le_iff_toInt_le, nI_toInt (by omega)] at h q
    omega
  · exact Or.inr ⟨j, by omega, h2⟩
theorem k_range (v : Int32) {n : Nat} (hn : n + 1 < 2147483648) : (v < nI 1 ∨ ¬ v ≤ nI n) ∨ ∃ j : Nat, 1 ≤ j ∧ j ≤ n ∧ v = nI j := by
  rcases k_upto v hn with (h | h) | ⟨j, h1, h2⟩
  · refine Or.inl (Or.inl ?_)
    rw [Int32.lt_iff_toInt_lt] at h ⊢
    have e0 : (0 : Int32).toInt = 0 := by decide
    have e1 : (nI 1).toInt = 1 := by decide
    omega
  · exact Or.inl (Or.inr h)
  · by_cases hz : j = 0
    · subst hz; refine Or.inl (Or.inl ?_); rw [h2]; decide
    · exact Or.inr ⟨j, by omega, h1, h2⟩
theorem k_amount (v : Int32) : (v < nI 1 ∨ ¬ v ≤ nI 99) ∨ (¬ v < nI 1 ∧ v ≤ nI 99) := by
  by_cases h : v < nI 1
  · exact Or.inl (Or.inl h)
  · by_cases h2 : v ≤ nI 99
    · exact Or.inr ⟨h, h2⟩
    · exact Or.inl (Or.inr h2)
theorem k_nan (v : Int32) : vf_n64 (FP.ddiv (FP.i2d v) 4620693217682128896) := by
  have h := FP.Core.ddiv_mag (a := FP.i2d v) (b := 4620693217682128896) (K := 1056) (L := 1026) (FP.Core.i2d_mag v) (by decide) (by decide) (by decide) (by decide)
  unfold vf_n64
  rw [UInt64.le_iff_toNat_le, UInt64.toNat_and]
  have e1 : (0x7fffffffffffffff : UInt64).toNat = 2 ^ 63 - 1 := by decide
  have e2 : (0x7ff0000000000000 : UInt64).toNat = 2047 * 2 ^ 52 := by decide
  rw [e1, e2, Nat.and_two_pow_sub_one_eq_mod]
  show (FP.Core.ddiv (FP.i2d v) 4620693217682128896).toNat % 2 ^ 63 ≤ 2047 * 2 ^ 52
  omega

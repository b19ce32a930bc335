/-! 11: the loop, the start, and the claim out of them (the frame round them: kit/laws/SKELETON) -/
/-! THE CLAIM OUT OF ONE WALK OF THE LAW'S BODY. Your part is whole_start (and what it stands on); all else here is the same for every law, but numbers. -/
def R_law : String := "GlacierYearsLaw"
def lw_P (b : Addr) (xs : List Int32) (args : Array Value) (s : State) : Prop := args = #[.ref b] ∧ s.IntsAt b xs ∧ xs.length ≤ 2048 ∧ (Jvm.Cond.and given_1 narrow_1).before args s = true
/-- what a walk over the start with the record d0 says of its end, said of the start itself -/
theorem lw_closed {s t : State} {o : Outcome} {d0 : Drawn} {L : List Loc} {k n : Nat} (hd0 : s.drawn.sameBut d0 lw_cs) (hv : ∃ v, o = .returned v) (hW : (s.setDrawn d0).WarmedH t.vm) (hs : (s.setDrawn d0).sameButNew ({ t with vm := s.vm } : State) L k n) : State.butDraws s t lw_cs (fun t1 => Framed s o t1 L k n) := by
  have h2 : t.drawn = d0 := congrArg State.drawn hs.1
  refine ⟨⟨hv, hW, State.sameButNew.setDrawn hs s.drawn⟩, ?_, by decide⟩
  rw [h2]
  exact hd0
def lw_Q (_ : Array Value) (s : State) (o : Outcome) (t : State) : Prop := o = .returned (some (.int 1)) ∧ State.butDraws s t lw_cs (fun t1 => Framed s o t1 [] 763464 6805712)
def lw_Z (below : List Frame) (a : Array Value) (s : State) : State → Prop := fun t => ∃ o, t.status = .running ∧ Ended t below o ∧ lw_Q a s o t
/-- the law's own end, with 1 on the stack, nothing written that was there before, its room as the claim has it; d0: the record of draws at this point (at the entry s.drawn: begin with 'refine W.base ?_' and 'have hd0 := Drawn.sameBut.refl s.drawn lw_cs') -/
theorem lw_ret {p : Program} {l : Launch} {e : Env} {s : State} {m : MethodId} {below : List Frame} {meth : Method} {c : Code} {b : Nat} {d0 : Drawn} (hd0 : s.drawn.sameBut d0 lw_cs) (hx : p.tables.exec = Jvm.exec) (hb : c.code = code) (hr : meth.sig.returnType = ret) (hlocks : meth.locks = false) {pc : Nat} {H : Heap} {ls : Array Slot} (hdg : decode code pc = .ok (.ireturn, 1)) : W p l e room_1 (s.setDrawn d0) m #[Value.ref b] below meth c H [] 763464 6805712 (lw_Z below #[Value.ref b] s) (F0 m pc ls [.int 1]) := by
  intro T hT X
  obtain ⟨fs, hret, hrun, hended, hW, hframe⟩ := X.leave (v := some (.int 1)) (hlocks := hlocks) (fun h => by rw [hr] at h; cases h)
  have hmeth' : T.vm.method? m = some meth := X.method'
  refine ⟨T.setFrames fs, ?_, .returned (some (.int 1)), hrun, hended, rfl, lw_closed hd0 ⟨_, rfl⟩ hW hframe⟩
  jvm_step X.here [X.here.top, hx, hb, hdg, hmeth', hr, ret, narrow_b1]
  (try refine ⟨rfl, ?_⟩); (try refine ⟨rfl, ?_⟩)
  first | (intro acts; rw [hret _ acts rfl rfl rfl]) | rw [hret _ _ rfl rfl rfl]
  exact Steps.refl _
/-- what holds at the law's entry: the machine, the code, the tables' words (any of lw_tbl by 'hts w (by decide +kernel)'), the script of L ints xs at the cell b, what the Statement gives of the start (any of its parts by flat_of_before) -/
def lw_At (p : Program) (s : State) (m : MethodId) (meth : Method) (c : Code) (b L : Nat) (xs : Nat → Int32) : Prop :=
  p.tables.exec = Jvm.exec ∧ c.code = code ∧ meth.sig.returnType = ret ∧ c.maxLocals = 9 ∧ s.vm.findClass R_law = some m.cls ∧ (∀ w ∈ lw_tbl, w.before #[Value.ref b] s = true) ∧ va_X b L xs s s.heap ∧ b < s.heap.size ∧ meth.locks = false ∧ (Jvm.Cond.and given_1 narrow_1).before #[Value.ref b] s = true
set_option maxHeartbeats 4000000 in
set_option maxRecDepth 100000 in
/-- the law's loop: t calls are done -/
theorem law_loop {p : Program} {l : Launch} {e : Env} {s : State} {m : MethodId} {below : List Frame} {meth : Method} {c : Code} {D : va_G} {cI cZ cJ : ClassId} {b L : Nat} {xs : Nat → Int32} (hr : meth.sig.returnType = ret) (hlk : meth.locks = false) (hL : L ≤ 2048) (hfl : l.stackTraces = false) (hx : p.tables.exec = Jvm.exec) (hb : c.code = cL_law) (hml : c.maxLocals = 9) (hown : s.vm.findClass RL = some m.cls) (hts : ∀ w ∈ wsL_law, w.before #[Value.ref b] s = true) (hX : va_X b L xs s s.heap) (hbl : b < s.heap.size) (hK : va_K D vwCl [(cI, FieldType.int), (cZ, FieldType.boolean), (cJ, FieldType.long)] s) (hZ : kZ (fun q => s.heap.size ≤ q) s s.heap) (x oS aS oT aT oL a1 a2 a3 a4 a5 oH b1 b2 : Nat) (z m1 m2 m3 m4 m5 m6 m7 m8 m9 m10 : Nat) (o : Nat) :
    ∀ (fu t : Nat), t ≤ 512 → 513 ≤ t + fu → ∀ (f g K : Nat → Int32) (O : Nat → Nat) (T : Nat → Int32) (M : Nat → Nat) (Z : Nat → Int32) (n k : Nat) (Y : Nat → Nat) (G : Nat → Int32) (nc : Nat) (th : Int32) (g2 : Nat → Int32) (w : Nat → Int64), Iv O M n k Y nc → ∀ (H : Heap) (locs : List Loc), va_P D vwCl [(x, .inr (3, [.ref oS, .ref oT, .ref oL, .ref oH])), (oS, .inr (2, [.ref aS])), (aS, .inl (cI, 8, .inl f)), (oT, .inr (2, [.ref aT])), (aT, .inl (cI, 8, .inl g)), (oL, .inr (0, [.ref a1, .ref a2, .ref a3, .ref a4, .ref a5, .int (nI n), .int (nI k)])), (a1, .inl (cI, 480, .inl K)), (a2, .inl (cI, 480, .inl (nF O))), (a3, .inl (cI, 480, .inl T)), (a4, .inl (cI, 40, .inl (nF M))), (a5, .inl (cI, 40, .inl Z)), (oH, .inr (1, [.ref b1, .ref b2, .int (nI nc)])), (b1, .inl (cI, 6, .inl (nF Y))), (b2, .inl (cI, 48, .inl G)), (z, .inr (4, [.int th, .ref m1, .ref m2, .ref m3, .ref m4, .ref m5, .ref m6, .ref m7, .int (nI n), .int (nI nc), .ref m8, .ref m9, .ref m10])), (m1, .inl (cI, 8, .inl f)), (m2, .inl (cI, 480, .inl K)), (m3, .inl (cI, 480, .inl (nF O))), (m4, .inl (cI, 480, .inl T)), (m5, .inl (cI, 41, .inl (nF M))), (m6, .inl (cI, 40, .inl Z)), (m7, .inl (cZ, 40, .inl (prF k))), (m8, .inl (cI, 6, .inl (nF Y))), (m9, .inl (cI, 48, .inl G)), (m10, .inl (cI, 8, .inl g2)), (o, .inl (cJ, 1, .inr (.inl w)))] H → va_D (fun q : Nat => s.heap.size ≤ q) [(x, .inr (3, [.ref oS, .ref oT, .ref oL, .ref oH])), (oS, .inr (2, [.ref aS])), (aS, .inl (cI, 8, .inl f)), (oT, .inr (2, [.ref aT])), (aT, .inl (cI, 8, .inl g)), (oL, .inr (0, [.ref a1, .ref a2, .ref a3, .ref a4, .ref a5, .int (nI n), .int (nI k)])), (a1, .inl (cI, 480, .inl K)), (a2, .inl (cI, 480, .inl (nF O))), (a3, .inl (cI, 480, .inl T)), (a4, .inl (cI, 40, .inl (nF M))), (a5, .inl (cI, 40, .inl Z)), (oH, .inr (1, [.ref b1, .ref b2, .int (nI nc)])), (b1, .inl (cI, 6, .inl (nF Y))), (b2, .inl (cI, 48, .inl G)), (z, .inr (4, [.int th, .ref m1, .ref m2, .ref m3, .ref m4, .ref m5, .ref m6, .ref m7, .int (nI n), .int (nI nc), .ref m8, .ref m9, .ref m10])), (m1, .inl (cI, 8, .inl f)), (m2, .inl (cI, 480, .inl K)), (m3, .inl (cI, 480, .inl (nF O))), (m4, .inl (cI, 480, .inl T)), (m5, .inl (cI, 41, .inl (nF M))), (m6, .inl (cI, 40, .inl Z)), (m7, .inl (cZ, 40, .inl (prF k))), (m8, .inl (cI, 6, .inl (nF Y))), (m9, .inl (cI, 48, .inl G)), (m10, .inl (cI, 8, .inl g2)), (o, .inl (cJ, 1, .inr (.inl w)))] → va_S (fun q : Nat => s.heap.size ≤ q) s.heap H locs → ∀ (ls : Array Slot), lv_has ls 9 [(0, .ref b), (1, .ref x), (2, .ref z), (3, .ref o), (4, .int (nI (4 * t)))] → W p l e room_1 s m #[Value.ref b] below meth c H locs (26 + 42 * t) (3259 + 174 * t) (lw_Z below #[Value.ref b] s) (F0 m 23 ls []) := by
  have hA : ∀ q : Nat, s.heap.size ≤ q → (fun q : Nat => s.heap.size ≤ q) q := fun _ h => h
  have hbA : ¬ (fun q : Nat => s.heap.size ≤ q) b := Nat.not_le.mpr hbl
  intro fu
  induction fu with
  | zero => intro t h1 h2; exact absurd h2 (by omega)
  | succ fu ih =>
    intro t h1 h2 f g K O T M Z n k Y G nc th g2 w hIv H locs hP hD hS ls hl
    refine lv_iload hx hb dL_law_23 (lv_at hl 4 rfl) ?_
    refine lv_aload_n hx hb dL_law_25 rfl (lv_at hl 0 rfl) ?_
    refine va_slen hx hb hX hbl hbA hS dL_law_26 ?_
    refine k_top (y := (nI L)) rfl ?_
    refine lv_iconst (v := (nI 4)) hx hb dL_law_27 (by decide) ?_
    refine lv_isub hx hb dL_law_28 ?_
    refine lv_icmp_gt hx hb (tgt := 1494) dL_law_29 (by decide) (fun cE => ?_) (fun cE => ?_)
    · refine lv_iconst (v := 1) hx hb dL_law_1494 (by decide) ?_
      refine va_forget (fun q hq => hS.2.2 q hq) ?_
      refine W.widen (k := 763464) (n := 6805712) (by omega) (by omega) ?_
      exact W.base (lw_ret (Drawn.sameBut.refl s.drawn lw_cs) hx hb hr hlk dL_law_1495)
    · have ht := k_lim hL (show 4 * t ≤ 4096 by omega) cE
      refine lv_aload_n hx hb dL_law_32 rfl (lv_at hl 0 rfl) ?_
      refine lv_iload hx hb dL_law_33 (lv_at hl 4 rfl) ?_
      refine k_sld hx hb hX hbl hbA hS (i := (4 * t)) (by omega) hL dL_law_35 ?_
      refine lv_bipush (v := (nI 31)) hx hb dL_law_36 (by decide) ?_
      refine lv_iand hx hb dL_law_38 ?_
      obtain ⟨cv, hcv, ecv⟩ := pk_andE (xs (4 * t)) (m := nI 31) 5 (by decide)
      refine k_top ecv ?_
      have hcont : ∀ (f g K : Nat → Int32) (O : Nat → Nat) (T : Nat → Int32) (M : Nat → Nat) (Z : Nat → Int32) (n k : Nat) (Y : Nat → Nat) (G : Nat → Int32) (nc : Nat) (th : Int32) (g2 : Nat → Int32) (w : Nat → Int64) (H : Heap) (locs : List Loc) (ls : Array Slot), Iv O M n k Y nc → va_P D vwCl [(x, .inr (3, [.ref oS, .ref oT, .ref oL, .ref oH])), (oS, .inr (2, [.ref aS])), (aS, .inl (cI, 8, .inl f)), (oT, .inr (2, [.ref aT])), (aT, .inl (cI, 8, .inl g)), (oL, .inr (0, [.ref a1, .ref a2, .ref a3, .ref a4, .ref a5, .int (nI n), .int (nI k)])), (a1, .inl (cI, 480, .inl K)), (a2, .inl (cI, 480, .inl (nF O))), (a3, .inl (cI, 480, .inl T)), (a4, .inl (cI, 40, .inl (nF M))), (a5, .inl (cI, 40, .inl Z)), (oH, .inr (1, [.ref b1, .ref b2, .int (nI nc)])), (b1, .inl (cI, 6, .inl (nF Y))), (b2, .inl (cI, 48, .inl G)), (z, .inr (4, [.int th, .ref m1, .ref m2, .ref m3, .ref m4, .ref m5, .ref m6, .ref m7, .int (nI n), .int (nI nc), .ref m8, .ref m9, .ref m10])), (m1, .inl (cI, 8, .inl f)), (m2, .inl (cI, 480, .inl K)), (m3, .inl (cI, 480, .inl (nF O))), (m4, .inl (cI, 480, .inl T)), (m5, .inl (cI, 41, .inl (nF M))), (m6, .inl (cI, 40, .inl Z)), (m7, .inl (cZ, 40, .inl (prF k))), (m8, .inl (cI, 6, .inl (nF Y))), (m9, .inl (cI, 48, .inl G)), (m10, .inl (cI, 8, .inl g2)), (o, .inl (cJ, 1, .inr (.inl w)))] H → va_D (fun q : Nat => s.heap.size ≤ q) [(x, .inr (3, [.ref oS, .ref oT, .ref oL, .ref oH])), (oS, .inr (2, [.ref aS])), (aS, .inl (cI, 8, .inl f)), (oT, .inr (2, [.ref aT])), (aT, .inl (cI, 8, .inl g)), (oL, .inr (0, [.ref a1, .ref a2, .ref a3, .ref a4, .ref a5, .int (nI n), .int (nI k)])), (a1, .inl (cI, 480, .inl K)), (a2, .inl (cI, 480, .inl (nF O))), (a3, .inl (cI, 480, .inl T)), (a4, .inl (cI, 40, .inl (nF M))), (a5, .inl (cI, 40, .inl Z)), (oH, .inr (1, [.ref b1, .ref b2, .int (nI nc)])), (b1, .inl (cI, 6, .inl (nF Y))), (b2, .inl (cI, 48, .inl G)), (z, .inr (4, [.int th, .ref m1, .ref m2, .ref m3, .ref m4, .ref m5, .ref m6, .ref m7, .int (nI n), .int (nI nc), .ref m8, .ref m9, .ref m10])), (m1, .inl (cI, 8, .inl f)), (m2, .inl (cI, 480, .inl K)), (m3, .inl (cI, 480, .inl (nF O))), (m4, .inl (cI, 480, .inl T)), (m5, .inl (cI, 41, .inl (nF M))), (m6, .inl (cI, 40, .inl Z)), (m7, .inl (cZ, 40, .inl (prF k))), (m8, .inl (cI, 6, .inl (nF Y))), (m9, .inl (cI, 48, .inl G)), (m10, .inl (cI, 8, .inl g2)), (o, .inl (cJ, 1, .inr (.inl w)))] → va_S (fun q : Nat => s.heap.size ≤ q) s.heap H locs → lv_has ls 9 [(0, .ref b), (1, .ref x), (2, .ref z), (3, .ref o), (4, .int (nI (4 * t)))] → W p l e room_1 s m #[Value.ref b] below meth c H locs (26 + 42 * t + 42) (3259 + 174 * t + 174) (lw_Z below #[Value.ref b] s) (F0 m 1488 ls []) := by
        clear hP hD hS hl hIv
        intro f g K O T M Z n k Y G nc th g2 w H locs ls hIv hP hD hS hl
        refine lv_iinc (v := (nI (4 * (t + 1)))) (lv' := [(4, .int (nI (4 * (t + 1)))), (0, .ref b), (1, .ref x), (2, .ref z), (3, .ref o)]) (k := 4) hx hb dL_law_1488 hl rfl (nI_add (4 * t) 4) (by decide) rfl (fun ls hl => ?_)
        refine lv_goto (tgt := 23) hx hb dL_law_1491 (by decide) ?_
        refine W.widen (k := 26 + 42 * (t + 1)) (n := 3259 + 174 * (t + 1)) (by omega) (by omega) ?_
        exact ih (t + 1) (by omega) (by omega) f g K O T M Z n k Y G nc th g2 w hIv _ _ hP hD hS ls (lv_sub hl [1, 2, 3, 4, 0] rfl)
      rcases (show cv = 0 ∨ cv = 1 ∨ cv = 2 ∨ cv = 3 ∨ cv = 4 ∨ cv = 5 ∨ cv = 6 ∨ cv = 7 ∨ cv = 8 ∨ cv = 9 ∨ cv = 10 ∨ cv = 11 ∨ cv = 12 ∨ cv = 13 ∨ cv = 14 ∨ cv = 15 ∨ cv = 16 ∨ cv = 17 ∨ cv = 18 ∨ cv = 19 ∨ cv = 20 ∨ cv = 21 ∨ cv = 22 ∨ cv = 23 ∨ cv = 24 ∨ cv = 25 ∨ cv = 26 ∨ cv = 27 ∨ cv = 28 ∨ 29 ≤ cv by omega) with rfl | rfl | rfl | rfl | rfl | rfl | rfl | rfl | rfl | rfl | rfl | rfl | rfl | rfl | rfl | rfl | rfl | rfl | rfl | rfl | rfl | rfl | rfl | rfl | rfl | rfl | rfl | rfl | rfl | h29
      · refine lv_tableIn (off := 129) (tgt := 168) hx hb dL_law_39 (by decide) (by decide) (by decide) (by decide) ?_
        exact law_c0 hL hfl hx hb hml hown hts hX hbl hbA hA hK hZ ht x oS aS oT aT oL a1 a2 a3 a4 a5 oH b1 b2 f g K O T M Z n k Y G nc z m1 m2 m3 m4 m5 m6 m7 m8 m9 m10 th g2 o w hIv H locs ls hP hD hS hl hcont
      · refine lv_tableIn (off := 197) (tgt := 236) hx hb dL_law_39 (by decide) (by decide) (by decide) (by decide) ?_
        exact law_c1 hL hfl hx hb hml hown hts hX hbl hbA hA hK hZ ht x oS aS oT aT oL a1 a2 a3 a4 a5 oH b1 b2 f g K O T M Z n k Y G nc z m1 m2 m3 m4 m5 m6 m7 m8 m9 m10 th g2 o w hIv H locs ls hP hD hS hl hcont
      · refine lv_tableIn (off := 265) (tgt := 304) hx hb dL_law_39 (by decide) (by decide) (by decide) (by decide) ?_
        exact law_c2 hL hfl hx hb hml hown hts hX hbl hbA hA hK hZ ht x oS aS oT aT oL a1 a2 a3 a4 a5 oH b1 b2 f g K O T M Z n k Y G nc z m1 m2 m3 m4 m5 m6 m7 m8 m9 m10 th g2 o w hIv H locs ls hP hD hS hl hcont
      · refine lv_tableIn (off := 321) (tgt := 360) hx hb dL_law_39 (by decide) (by decide) (by decide) (by decide) ?_
        exact law_c3 hL hfl hx hb hml hown hts hX hbl hbA hA hK hZ ht x oS aS oT aT oL a1 a2 a3 a4 a5 oH b1 b2 f g K O T M Z n k Y G nc z m1 m2 m3 m4 m5 m6 m7 m8 m9 m10 th g2 o w hIv H locs ls hP hD hS hl hcont
      · refine lv_tableIn (off := 393) (tgt := 432) hx hb dL_law_39 (by decide) (by decide) (by decide) (by decide) ?_
        exact law_c4 hL hfl hx hb hml hown hts hX hbl hbA hA hK hZ ht x oS aS oT aT oL a1 a2 a3 a4 a5 oH b1 b2 f g K O T M Z n k Y G nc z m1 m2 m3 m4 m5 m6 m7 m8 m9 m10 th g2 o w hIv H locs ls hP hD hS hl hcont
      · refine lv_tableIn (off := 449) (tgt := 488) hx hb dL_law_39 (by decide) (by decide) (by decide) (by decide) ?_
        exact law_c5 hL hfl hx hb hml hown hts hX hbl hbA hA hK hZ ht x oS aS oT aT oL a1 a2 a3 a4 a5 oH b1 b2 f g K O T M Z n k Y G nc z m1 m2 m3 m4 m5 m6 m7 m8 m9 m10 th g2 o w hIv H locs ls hP hD hS hl hcont
      · refine lv_tableIn (off := 529) (tgt := 568) hx hb dL_law_39 (by decide) (by decide) (by decide) (by decide) ?_
        exact law_c6 hL hfl hx hb hml hown hts hX hbl hbA hA hK hZ ht x oS aS oT aT oL a1 a2 a3 a4 a5 oH b1 b2 f g K O T M Z n k Y G nc z m1 m2 m3 m4 m5 m6 m7 m8 m9 m10 th g2 o w hIv H locs ls hP hD hS hl hcont
      · refine lv_tableIn (off := 585) (tgt := 624) hx hb dL_law_39 (by decide) (by decide) (by decide) (by decide) ?_
        exact law_c7 hL hfl hx hb hml hown hts hX hbl hbA hA hK hZ ht x oS aS oT aT oL a1 a2 a3 a4 a5 oH b1 b2 f g K O T M Z n k Y G nc z m1 m2 m3 m4 m5 m6 m7 m8 m9 m10 th g2 o w hIv H locs ls hP hD hS hl hcont
      · refine lv_tableIn (off := 598) (tgt := 637) hx hb dL_law_39 (by decide) (by decide) (by decide) (by decide) ?_
        exact law_c8 hL hfl hx hb hml hown hts hX hbl hbA hA hK hZ ht x oS aS oT aT oL a1 a2 a3 a4 a5 oH b1 b2 f g K O T M Z n k Y G nc z m1 m2 m3 m4 m5 m6 m7 m8 m9 m10 th g2 o w hIv H locs ls hP hD hS hl hcont
      · refine lv_tableIn (off := 654) (tgt := 693) hx hb dL_law_39 (by decide) (by decide) (by decide) (by decide) ?_
        exact law_c9 hL hfl hx hb hml hown hts hX hbl hbA hA hK hZ ht x oS aS oT aT oL a1 a2 a3 a4 a5 oH b1 b2 f g K O T M Z n k Y G nc z m1 m2 m3 m4 m5 m6 m7 m8 m9 m10 th g2 o w hIv H locs ls hP hD hS hl hcont
      · refine lv_tableIn (off := 667) (tgt := 706) hx hb dL_law_39 (by decide) (by decide) (by decide) (by decide) ?_
        exact law_c10 hL hfl hx hb hml hown hts hX hbl hbA hA hK hZ ht x oS aS oT aT oL a1 a2 a3 a4 a5 oH b1 b2 f g K O T M Z n k Y G nc z m1 m2 m3 m4 m5 m6 m7 m8 m9 m10 th g2 o w hIv H locs ls hP hD hS hl hcont
      · refine lv_tableIn (off := 680) (tgt := 719) hx hb dL_law_39 (by decide) (by decide) (by decide) (by decide) ?_
        exact law_c11 hL hfl hx hb hml hown hts hX hbl hbA hA hK hZ ht x oS aS oT aT oL a1 a2 a3 a4 a5 oH b1 b2 f g K O T M Z n k Y G nc z m1 m2 m3 m4 m5 m6 m7 m8 m9 m10 th g2 o w hIv H locs ls hP hD hS hl hcont
      · refine lv_tableIn (off := 693) (tgt := 732) hx hb dL_law_39 (by decide) (by decide) (by decide) (by decide) ?_
        exact law_c12 hL hfl hx hb hml hown hts hX hbl hbA hA hK hZ ht x oS aS oT aT oL a1 a2 a3 a4 a5 oH b1 b2 f g K O T M Z n k Y G nc z m1 m2 m3 m4 m5 m6 m7 m8 m9 m10 th g2 o w hIv H locs ls hP hD hS hl hcont
      · refine lv_tableIn (off := 749) (tgt := 788) hx hb dL_law_39 (by decide) (by decide) (by decide) (by decide) ?_
        exact law_c13 hL hfl hx hb hml hown hts hX hbl hbA hA hK hZ ht x oS aS oT aT oL a1 a2 a3 a4 a5 oH b1 b2 f g K O T M Z n k Y G nc z m1 m2 m3 m4 m5 m6 m7 m8 m9 m10 th g2 o w hIv H locs ls hP hD hS hl hcont
      · refine lv_tableIn (off := 805) (tgt := 844) hx hb dL_law_39 (by decide) (by decide) (by decide) (by decide) ?_
        exact law_c14 hL hfl hx hb hml hown hts hX hbl hbA hA hK hZ ht x oS aS oT aT oL a1 a2 a3 a4 a5 oH b1 b2 f g K O T M Z n k Y G nc z m1 m2 m3 m4 m5 m6 m7 m8 m9 m10 th g2 o w hIv H locs ls hP hD hS hl hcont
      · refine lv_tableIn (off := 868) (tgt := 907) hx hb dL_law_39 (by decide) (by decide) (by decide) (by decide) ?_
        exact law_c15 hL hfl hx hb hml hown hts hX hbl hbA hA hK hZ ht x oS aS oT aT oL a1 a2 a3 a4 a5 oH b1 b2 f g K O T M Z n k Y G nc z m1 m2 m3 m4 m5 m6 m7 m8 m9 m10 th g2 o w hIv H locs ls hP hD hS hl hcont
      · refine lv_tableIn (off := 931) (tgt := 970) hx hb dL_law_39 (by decide) (by decide) (by decide) (by decide) ?_
        exact law_c16 hL hfl hx hb hml hown hts hX hbl hbA hA hK hZ ht x oS aS oT aT oL a1 a2 a3 a4 a5 oH b1 b2 f g K O T M Z n k Y G nc z m1 m2 m3 m4 m5 m6 m7 m8 m9 m10 th g2 o w hIv H locs ls hP hD hS hl hcont
      · refine lv_tableIn (off := 944) (tgt := 983) hx hb dL_law_39 (by decide) (by decide) (by decide) (by decide) ?_
        exact law_c17 hL hfl hx hb hml hown hts hX hbl hbA hA hK hZ ht x oS aS oT aT oL a1 a2 a3 a4 a5 oH b1 b2 f g K O T M Z n k Y G nc z m1 m2 m3 m4 m5 m6 m7 m8 m9 m10 th g2 o w hIv H locs ls hP hD hS hl hcont
      · refine lv_tableIn (off := 957) (tgt := 996) hx hb dL_law_39 (by decide) (by decide) (by decide) (by decide) ?_
        exact law_c18 hL hfl hx hb hml hown hts hX hbl hbA hA hK hZ ht x oS aS oT aT oL a1 a2 a3 a4 a5 oH b1 b2 f g K O T M Z n k Y G nc z m1 m2 m3 m4 m5 m6 m7 m8 m9 m10 th g2 o w hIv H locs ls hP hD hS hl hcont
      · refine lv_tableIn (off := 1013) (tgt := 1052) hx hb dL_law_39 (by decide) (by decide) (by decide) (by decide) ?_
        exact law_c19 hL hfl hx hb hml hown hts hX hbl hbA hA hK hZ ht x oS aS oT aT oL a1 a2 a3 a4 a5 oH b1 b2 f g K O T M Z n k Y G nc z m1 m2 m3 m4 m5 m6 m7 m8 m9 m10 th g2 o w hIv H locs ls hP hD hS hl hcont
      · refine lv_tableIn (off := 1069) (tgt := 1108) hx hb dL_law_39 (by decide) (by decide) (by decide) (by decide) ?_
        exact law_c20 hL hfl hx hb hml hown hts hX hbl hbA hA hK hZ ht x oS aS oT aT oL a1 a2 a3 a4 a5 oH b1 b2 f g K O T M Z n k Y G nc z m1 m2 m3 m4 m5 m6 m7 m8 m9 m10 th g2 o w hIv H locs ls hP hD hS hl hcont
      · refine lv_tableIn (off := 1132) (tgt := 1171) hx hb dL_law_39 (by decide) (by decide) (by decide) (by decide) ?_
        exact law_c21 hL hfl hx hb hml hown hts hX hbl hbA hA hK hZ ht x oS aS oT aT oL a1 a2 a3 a4 a5 oH b1 b2 f g K O T M Z n k Y G nc z m1 m2 m3 m4 m5 m6 m7 m8 m9 m10 th g2 o w hIv H locs ls hP hD hS hl hcont
      · refine lv_tableIn (off := 1188) (tgt := 1227) hx hb dL_law_39 (by decide) (by decide) (by decide) (by decide) ?_
        exact law_c22 hL hfl hx hb hml hown hts hX hbl hbA hA hK hZ ht x oS aS oT aT oL a1 a2 a3 a4 a5 oH b1 b2 f g K O T M Z n k Y G nc z m1 m2 m3 m4 m5 m6 m7 m8 m9 m10 th g2 o w hIv H locs ls hP hD hS hl hcont
      · refine lv_tableIn (off := 1244) (tgt := 1283) hx hb dL_law_39 (by decide) (by decide) (by decide) (by decide) ?_
        exact law_c23 hL hfl hx hb hml hown hts hX hbl hbA hA hK hZ ht x oS aS oT aT oL a1 a2 a3 a4 a5 oH b1 b2 f g K O T M Z n k Y G nc z m1 m2 m3 m4 m5 m6 m7 m8 m9 m10 th g2 o w hIv H locs ls hP hD hS hl hcont
      · refine lv_tableIn (off := 1312) (tgt := 1351) hx hb dL_law_39 (by decide) (by decide) (by decide) (by decide) ?_
        exact law_c24 hL hfl hx hb hml hown hts hX hbl hbA hA hK hZ ht x oS aS oT aT oL a1 a2 a3 a4 a5 oH b1 b2 f g K O T M Z n k Y G nc z m1 m2 m3 m4 m5 m6 m7 m8 m9 m10 th g2 o w hIv H locs ls hP hD hS hl hcont
      · refine lv_tableIn (off := 1325) (tgt := 1364) hx hb dL_law_39 (by decide) (by decide) (by decide) (by decide) ?_
        exact law_c25 hL hfl hx hb hml hown hts hX hbl hbA hA hK hZ ht x oS aS oT aT oL a1 a2 a3 a4 a5 oH b1 b2 f g K O T M Z n k Y G nc z m1 m2 m3 m4 m5 m6 m7 m8 m9 m10 th g2 o w hIv H locs ls hP hD hS hl hcont
      · refine lv_tableIn (off := 1381) (tgt := 1420) hx hb dL_law_39 (by decide) (by decide) (by decide) (by decide) ?_
        exact law_c26 hL hfl hx hb hml hown hts hX hbl hbA hA hK hZ ht x oS aS oT aT oL a1 a2 a3 a4 a5 oH b1 b2 f g K O T M Z n k Y G nc z m1 m2 m3 m4 m5 m6 m7 m8 m9 m10 th g2 o w hIv H locs ls hP hD hS hl hcont
      · refine lv_tableIn (off := 1394) (tgt := 1433) hx hb dL_law_39 (by decide) (by decide) (by decide) (by decide) ?_
        exact law_c27 hL hfl hx hb hml hown hts hX hbl hbA hA hK hZ ht x oS aS oT aT oL a1 a2 a3 a4 a5 oH b1 b2 f g K O T M Z n k Y G nc z m1 m2 m3 m4 m5 m6 m7 m8 m9 m10 th g2 o w hIv H locs ls hP hD hS hl hcont
      · refine lv_tableIn (off := 1435) (tgt := 1474) hx hb dL_law_39 (by decide) (by decide) (by decide) (by decide) ?_
        exact law_c28 hL hfl hx hb hml hown hts hX hbl hbA hA hK hZ ht x oS aS oT aT oL a1 a2 a3 a4 a5 oH b1 b2 f g K O T M Z n k Y G nc z m1 m2 m3 m4 m5 m6 m7 m8 m9 m10 th g2 o w hIv H locs ls hP hD hS hl hcont
      · refine lv_tableOut (tgt := 1488) hx hb dL_law_39 (Or.inr (by rw [nI_toInt (by omega)]; omega)) (by decide) ?_
        refine W.widen (k := 26 + 42 * t + 42) (n := 3259 + 174 * t + 174) (by omega) (by omega) ?_
        exact hcont f g K O T M Z n k Y G nc th g2 w _ _ _ hIv hP hD hS hl
set_option maxHeartbeats 4000000 in
set_option maxRecDepth 100000 in
/-- THE LAW, from its entry -/
theorem whole_start {p : Program} {e : Env} {s : State} {m : MethodId} {below : List Frame} {meth : Method} {c : Code} (l : Launch) (hflags : l.flags = flags0) {b L : Nat} {xs : Nat → Int32} (hL : L ≤ 2048) (C0 : lw_At p s m meth c b L xs) : W p l e room_1 s m #[Value.ref b] below meth c s.heap [] 0 0 (lw_Z below #[Value.ref b] s) (entryFrame m ([Value.ref b] : List Value).toArray 9) := by
  obtain ⟨hx, hb, hr, hml, hown, hts0, hX, hbl, hlk, hgv⟩ := id C0
  have hfl := k_noTrace hflags
  have hZ := k_start hts0 hgv
  obtain ⟨D, cI, cZ, cJ, hK⟩ := k_world hts0
  have hts : ∀ w ∈ wsL_law, w.before #[Value.ref b] s = true := fun w h => hts0 w (wsL_law_in w h)
  have hown : s.vm.findClass RL = some m.cls := hown
  have hb : c.code = cL_law := hb
  have hA : ∀ q : Nat, s.heap.size ≤ q → (fun q : Nat => s.heap.size ≤ q) q := fun _ h => h
  have hS : va_S (fun q : Nat => s.heap.size ≤ q) s.heap s.heap [] := va_S.rf
  have hP : va_P D vwCl [] s.heap := fun k q h => by simp at h
  have hD : va_D (fun q : Nat => s.heap.size ≤ q) [] := ⟨fun i j p q h => by simp at h, fun k q h => by simp at h⟩
  have hl := lv_entry ([.ref b]) (n := 9) (Nat.le_of_ble_eq_true rfl)
  rw [lg_entry_eq]
  generalize (lg_sl ([.ref b]) ++ List.replicate (9 - (lg_sl ([.ref b])).length) Slot.unset).toArray = ls at hl ⊢
  have hl : lv_has ls 9 [(0, .ref b)] := hl
  refine va_new (ci := 3) (fs := [.null, .null, .null, .null]) (C := RX3) (T := TX3) (N := 4) hx hb hts inlX3 tyX3 tyX3_ok hown (hts _ (List.mem_of_getElem? (i := 0) rfl)) (hts _ (List.mem_of_getElem? (i := 1) rfl)) (hts _ (List.mem_of_getElem? (i := 2) rfl)) hK hP hD hS hA rfl (fun j hj => by rcases (show j = 0 ∨ j = 1 ∨ j = 2 ∨ j = 3 by omega) with rfl | rfl | rfl | rfl <;> rfl) (Nat.le_of_ble_eq_true rfl) (Nat.le_of_ble_eq_true rfl) dL_law_0 (fun q_1 H hP hD hS => ?_)
  have hP : va_P D vwCl [(q_1, .inr (3, [.null, .null, .null, .null]))] H := hP
  have hD : va_D (fun q : Nat => s.heap.size ≤ q) [(q_1, .inr (3, [.null, .null, .null, .null]))] := hD
  refine W.widen (k := 1) (n := 4) (Nat.le_refl _) (Nat.le_refl _) ?_
  refine lv_dup hx hb dL_law_3 rfl ?_
  refine kM_callI (As := []) (rest := [.ref q_1]) (wr := []) (w2 := fun u => [(q_1, .inr (3, [.ref u.1, .ref u.2.2.1, .ref u.2.2.2.2.1, .ref u.2.2.2.2.2.2.2.2.2.2.1])), (u.1, .inr (2, [.ref u.2.1])), (u.2.1, .inl (cI, 8, .inl zF)), (u.2.2.1, .inr (2, [.ref u.2.2.2.1])), (u.2.2.2.1, .inl (cI, 8, .inl zF)), (u.2.2.2.2.1, .inr (0, [.ref u.2.2.2.2.2.1, .ref u.2.2.2.2.2.2.1, .ref u.2.2.2.2.2.2.2.1, .ref u.2.2.2.2.2.2.2.2.1, .ref u.2.2.2.2.2.2.2.2.2.1, .int (nI 0), .int (nI 0)])), (u.2.2.2.2.2.1, .inl (cI, 480, .inl zF)), (u.2.2.2.2.2.2.1, .inl (cI, 480, .inl (nF zN))), (u.2.2.2.2.2.2.2.1, .inl (cI, 480, .inl zF)), (u.2.2.2.2.2.2.2.2.1, .inl (cI, 40, .inl (nF zN))), (u.2.2.2.2.2.2.2.2.2.1, .inl (cI, 40, .inl zF)), (u.2.2.2.2.2.2.2.2.2.2.1, .inr (1, [.ref u.2.2.2.2.2.2.2.2.2.2.2.1, .ref u.2.2.2.2.2.2.2.2.2.2.2.2, .int (nI 0)])), (u.2.2.2.2.2.2.2.2.2.2.2.1, .inl (cI, 6, .inl (nF zN))), (u.2.2.2.2.2.2.2.2.2.2.2.2, .inl (cI, 48, .inl zF))]) (st2 := fun u => [.ref q_1]) (k := 14) (n2 := 1606) ⟨hx, hb, hml, hown, hts⟩ (c_X3_init l D cI q_1) (cwI 0 hts gL_law_X3_init rfl rfl rfl (hts _ (List.mem_of_getElem? (i := 2) rfl)) (hts _ (List.mem_of_getElem? (i := 7) rfl)) (hts _ (List.mem_of_getElem? (i := 8) rfl)) rfl (by decide +kernel) ⟨Nat.le_of_ble_eq_true rfl, Nat.le_of_ble_eq_true rfl⟩) [0] rfl hK hP hD hS hA [0] [] rfl (by decide) rfl (by decide) (by decide) [0, 1, 2, 3, 4, 5, 6, 7, 8, 9, 10, 11, 12, 13] (by decide) (fun _ => rfl) (Nat.le_refl _) (Nat.le_refl _) (Nat.le_of_ble_eq_true rfl) (Nat.le_of_ble_eq_true rfl) rfl hl.1 (Nat.le_of_ble_eq_true rfl) (fun _ => rfl) rfl dL_law_4 (fun u H locs hu hP hD hS => ?_)
  obtain ⟨oS_2, aS_3, oT_4, aT_5, oL_6, a1_7, a2_8, a3_9, a4_10, a5_11, oH_12, b1_13, b2_14⟩ := u
  have hP : va_P D vwCl [(q_1, .inr (3, [.ref oS_2, .ref oT_4, .ref oL_6, .ref oH_12])), (oS_2, .inr (2, [.ref aS_3])), (aS_3, .inl (cI, 8, .inl zF)), (oT_4, .inr (2, [.ref aT_5])), (aT_5, .inl (cI, 8, .inl zF)), (oL_6, .inr (0, [.ref a1_7, .ref a2_8, .ref a3_9, .ref a4_10, .ref a5_11, .int (nI 0), .int (nI 0)])), (a1_7, .inl (cI, 480, .inl zF)), (a2_8, .inl (cI, 480, .inl (nF zN))), (a3_9, .inl (cI, 480, .inl zF)), (a4_10, .inl (cI, 40, .inl (nF zN))), (a5_11, .inl (cI, 40, .inl zF)), (oH_12, .inr (1, [.ref b1_13, .ref b2_14, .int (nI 0)])), (b1_13, .inl (cI, 6, .inl (nF zN))), (b2_14, .inl (cI, 48, .inl zF))] H := hP
  have hD : va_D (fun q : Nat => s.heap.size ≤ q) [(q_1, .inr (3, [.ref oS_2, .ref oT_4, .ref oL_6, .ref oH_12])), (oS_2, .inr (2, [.ref aS_3])), (aS_3, .inl (cI, 8, .inl zF)), (oT_4, .inr (2, [.ref aT_5])), (aT_5, .inl (cI, 8, .inl zF)), (oL_6, .inr (0, [.ref a1_7, .ref a2_8, .ref a3_9, .ref a4_10, .ref a5_11, .int (nI 0), .int (nI 0)])), (a1_7, .inl (cI, 480, .inl zF)), (a2_8, .inl (cI, 480, .inl (nF zN))), (a3_9, .inl (cI, 480, .inl zF)), (a4_10, .inl (cI, 40, .inl (nF zN))), (a5_11, .inl (cI, 40, .inl zF)), (oH_12, .inr (1, [.ref b1_13, .ref b2_14, .int (nI 0)])), (b1_13, .inl (cI, 6, .inl (nF zN))), (b2_14, .inl (cI, 48, .inl zF))] := hD
  show W p l e _ s m _ below meth c H locs _ _ _ (F0 m 7 ls [.ref q_1])
  refine lv_astore_n (lv' := [(1, .ref q_1), (0, .ref b)]) hx hb dL_law_7 rfl hl (by decide) rfl (fun ls hl => ?_)
  refine va_new (ci := 4) (fs := [.int (nI 0), .null, .null, .null, .null, .null, .null, .null, .int (nI 0), .int (nI 0), .null, .null, .null]) (C := RX4) (T := TX4) (N := 13) hx hb hts inlX4 tyX4 tyX4_ok hown (hts _ (List.mem_of_getElem? (i := 3) rfl)) (hts _ (List.mem_of_getElem? (i := 4) rfl)) (hts _ (List.mem_of_getElem? (i := 5) rfl)) hK hP hD hS hA rfl (fun j hj => by rcases (show j = 0 ∨ j = 1 ∨ j = 2 ∨ j = 3 ∨ j = 4 ∨ j = 5 ∨ j = 6 ∨ j = 7 ∨ j = 8 ∨ j = 9 ∨ j = 10 ∨ j = 11 ∨ j = 12 by omega) with rfl | rfl | rfl | rfl | rfl | rfl | rfl | rfl | rfl | rfl | rfl | rfl | rfl <;> rfl) (Nat.le_of_ble_eq_true rfl) (Nat.le_of_ble_eq_true rfl) dL_law_8 (fun q_16 H hP hD hS => ?_)
  have hP : va_P D vwCl [(q_1, .inr (3, [.ref oS_2, .ref oT_4, .ref oL_6, .ref oH_12])), (oS_2, .inr (2, [.ref aS_3])), (aS_3, .inl (cI, 8, .inl zF)), (oT_4, .inr (2, [.ref aT_5])), (aT_5, .inl (cI, 8, .inl zF)), (oL_6, .inr (0, [.ref a1_7, .ref a2_8, .ref a3_9, .ref a4_10, .ref a5_11, .int (nI 0), .int (nI 0)])), (a1_7, .inl (cI, 480, .inl zF)), (a2_8, .inl (cI, 480, .inl (nF zN))), (a3_9, .inl (cI, 480, .inl zF)), (a4_10, .inl (cI, 40, .inl (nF zN))), (a5_11, .inl (cI, 40, .inl zF)), (oH_12, .inr (1, [.ref b1_13, .ref b2_14, .int (nI 0)])), (b1_13, .inl (cI, 6, .inl (nF zN))), (b2_14, .inl (cI, 48, .inl zF)), (q_16, .inr (4, [.int (nI 0), .null, .null, .null, .null, .null, .null, .null, .int (nI 0), .int (nI 0), .null, .null, .null]))] H := hP
  have hD : va_D (fun q : Nat => s.heap.size ≤ q) [(q_1, .inr (3, [.ref oS_2, .ref oT_4, .ref oL_6, .ref oH_12])), (oS_2, .inr (2, [.ref aS_3])), (aS_3, .inl (cI, 8, .inl zF)), (oT_4, .inr (2, [.ref aT_5])), (aT_5, .inl (cI, 8, .inl zF)), (oL_6, .inr (0, [.ref a1_7, .ref a2_8, .ref a3_9, .ref a4_10, .ref a5_11, .int (nI 0), .int (nI 0)])), (a1_7, .inl (cI, 480, .inl zF)), (a2_8, .inl (cI, 480, .inl (nF zN))), (a3_9, .inl (cI, 480, .inl zF)), (a4_10, .inl (cI, 40, .inl (nF zN))), (a5_11, .inl (cI, 40, .inl zF)), (oH_12, .inr (1, [.ref b1_13, .ref b2_14, .int (nI 0)])), (b1_13, .inl (cI, 6, .inl (nF zN))), (b2_14, .inl (cI, 48, .inl zF)), (q_16, .inr (4, [.int (nI 0), .null, .null, .null, .null, .null, .null, .null, .int (nI 0), .int (nI 0), .null, .null, .null]))] := hD
  refine W.widen (k := 15) (n := 1619) (Nat.le_refl _) (Nat.le_refl _) ?_
  refine lv_dup hx hb dL_law_11 rfl ?_
  refine kM_callI (As := []) (rest := [.ref q_16]) (wr := [(q_1, .inr (3, [.ref oS_2, .ref oT_4, .ref oL_6, .ref oH_12])), (oS_2, .inr (2, [.ref aS_3])), (aS_3, .inl (cI, 8, .inl zF)), (oT_4, .inr (2, [.ref aT_5])), (aT_5, .inl (cI, 8, .inl zF)), (oL_6, .inr (0, [.ref a1_7, .ref a2_8, .ref a3_9, .ref a4_10, .ref a5_11, .int (nI 0), .int (nI 0)])), (a1_7, .inl (cI, 480, .inl zF)), (a2_8, .inl (cI, 480, .inl (nF zN))), (a3_9, .inl (cI, 480, .inl zF)), (a4_10, .inl (cI, 40, .inl (nF zN))), (a5_11, .inl (cI, 40, .inl zF)), (oH_12, .inr (1, [.ref b1_13, .ref b2_14, .int (nI 0)])), (b1_13, .inl (cI, 6, .inl (nF zN))), (b2_14, .inl (cI, 48, .inl zF))]) (w2 := fun u => [(q_1, .inr (3, [.ref oS_2, .ref oT_4, .ref oL_6, .ref oH_12])), (oS_2, .inr (2, [.ref aS_3])), (aS_3, .inl (cI, 8, .inl zF)), (oT_4, .inr (2, [.ref aT_5])), (aT_5, .inl (cI, 8, .inl zF)), (oL_6, .inr (0, [.ref a1_7, .ref a2_8, .ref a3_9, .ref a4_10, .ref a5_11, .int (nI 0), .int (nI 0)])), (a1_7, .inl (cI, 480, .inl zF)), (a2_8, .inl (cI, 480, .inl (nF zN))), (a3_9, .inl (cI, 480, .inl zF)), (a4_10, .inl (cI, 40, .inl (nF zN))), (a5_11, .inl (cI, 40, .inl zF)), (oH_12, .inr (1, [.ref b1_13, .ref b2_14, .int (nI 0)])), (b1_13, .inl (cI, 6, .inl (nF zN))), (b2_14, .inl (cI, 48, .inl zF)), (q_16, .inr (4, [.int (nI 0), .ref u.1, .ref u.2.1, .ref u.2.2.1, .ref u.2.2.2.1, .ref u.2.2.2.2.1, .ref u.2.2.2.2.2.1, .ref u.2.2.2.2.2.2.1, .int (nI 0), .int (nI 0), .ref u.2.2.2.2.2.2.2.1, .ref u.2.2.2.2.2.2.2.2.1, .ref u.2.2.2.2.2.2.2.2.2])), (u.1, .inl (cI, 8, .inl zF)), (u.2.1, .inl (cI, 480, .inl zF)), (u.2.2.1, .inl (cI, 480, .inl (nF zN))), (u.2.2.2.1, .inl (cI, 480, .inl zF)), (u.2.2.2.2.1, .inl (cI, 41, .inl (nF zN))), (u.2.2.2.2.2.1, .inl (cI, 40, .inl zF)), (u.2.2.2.2.2.2.1, .inl (cZ, 40, .inl (prF 0))), (u.2.2.2.2.2.2.2.1, .inl (cI, 6, .inl (nF zN))), (u.2.2.2.2.2.2.2.2.1, .inl (cI, 48, .inl zF)), (u.2.2.2.2.2.2.2.2.2, .inl (cI, 8, .inl zF))]) (st2 := fun u => [.ref q_16]) (k := 25) (n2 := 3258) ⟨hx, hb, hml, hown, hts⟩ (c_X4_init l D cI cZ q_16) (cwI 0 hts gL_law_X4_init rfl rfl rfl (hts _ (List.mem_of_getElem? (i := 5) rfl)) (hts _ (List.mem_of_getElem? (i := 47) rfl)) (hts _ (List.mem_of_getElem? (i := 48) rfl)) rfl (by decide +kernel) ⟨Nat.le_of_ble_eq_true rfl, Nat.le_of_ble_eq_true rfl⟩) [0, 1] rfl hK hP hD hS hA [14] [0, 1, 2, 3, 4, 5, 6, 7, 8, 9, 10, 11, 12, 13] rfl (by decide) rfl (by decide) (by decide) [0, 1, 2, 3, 4, 5, 6, 7, 8, 9, 10, 11, 12, 13, 14, 15, 16, 17, 18, 19, 20, 21, 22, 23, 24] (by decide) (fun _ => rfl) (Nat.le_refl _) (Nat.le_refl _) (Nat.le_of_ble_eq_true rfl) (Nat.le_of_ble_eq_true rfl) rfl hl.1 (Nat.le_of_ble_eq_true rfl) (fun _ => rfl) rfl dL_law_12 (fun u H locs hu hP hD hS => ?_)
  obtain ⟨m1_17, m2_18, m3_19, m4_20, m5_21, m6_22, m7_23, m8_24, m9_25, m10_26⟩ := u
  have hP : va_P D vwCl [(q_1, .inr (3, [.ref oS_2, .ref oT_4, .ref oL_6, .ref oH_12])), (oS_2, .inr (2, [.ref aS_3])), (aS_3, .inl (cI, 8, .inl zF)), (oT_4, .inr (2, [.ref aT_5])), (aT_5, .inl (cI, 8, .inl zF)), (oL_6, .inr (0, [.ref a1_7, .ref a2_8, .ref a3_9, .ref a4_10, .ref a5_11, .int (nI 0), .int (nI 0)])), (a1_7, .inl (cI, 480, .inl zF)), (a2_8, .inl (cI, 480, .inl (nF zN))), (a3_9, .inl (cI, 480, .inl zF)), (a4_10, .inl (cI, 40, .inl (nF zN))), (a5_11, .inl (cI, 40, .inl zF)), (oH_12, .inr (1, [.ref b1_13, .ref b2_14, .int (nI 0)])), (b1_13, .inl (cI, 6, .inl (nF zN))), (b2_14, .inl (cI, 48, .inl zF)), (q_16, .inr (4, [.int (nI 0), .ref m1_17, .ref m2_18, .ref m3_19, .ref m4_20, .ref m5_21, .ref m6_22, .ref m7_23, .int (nI 0), .int (nI 0), .ref m8_24, .ref m9_25, .ref m10_26])), (m1_17, .inl (cI, 8, .inl zF)), (m2_18, .inl (cI, 480, .inl zF)), (m3_19, .inl (cI, 480, .inl (nF zN))), (m4_20, .inl (cI, 480, .inl zF)), (m5_21, .inl (cI, 41, .inl (nF zN))), (m6_22, .inl (cI, 40, .inl zF)), (m7_23, .inl (cZ, 40, .inl (prF 0))), (m8_24, .inl (cI, 6, .inl (nF zN))), (m9_25, .inl (cI, 48, .inl zF)), (m10_26, .inl (cI, 8, .inl zF))] H := hP
  have hD : va_D (fun q : Nat => s.heap.size ≤ q) [(q_1, .inr (3, [.ref oS_2, .ref oT_4, .ref oL_6, .ref oH_12])), (oS_2, .inr (2, [.ref aS_3])), (aS_3, .inl (cI, 8, .inl zF)), (oT_4, .inr (2, [.ref aT_5])), (aT_5, .inl (cI, 8, .inl zF)), (oL_6, .inr (0, [.ref a1_7, .ref a2_8, .ref a3_9, .ref a4_10, .ref a5_11, .int (nI 0), .int (nI 0)])), (a1_7, .inl (cI, 480, .inl zF)), (a2_8, .inl (cI, 480, .inl (nF zN))), (a3_9, .inl (cI, 480, .inl zF)), (a4_10, .inl (cI, 40, .inl (nF zN))), (a5_11, .inl (cI, 40, .inl zF)), (oH_12, .inr (1, [.ref b1_13, .ref b2_14, .int (nI 0)])), (b1_13, .inl (cI, 6, .inl (nF zN))), (b2_14, .inl (cI, 48, .inl zF)), (q_16, .inr (4, [.int (nI 0), .ref m1_17, .ref m2_18, .ref m3_19, .ref m4_20, .ref m5_21, .ref m6_22, .ref m7_23, .int (nI 0), .int (nI 0), .ref m8_24, .ref m9_25, .ref m10_26])), (m1_17, .inl (cI, 8, .inl zF)), (m2_18, .inl (cI, 480, .inl zF)), (m3_19, .inl (cI, 480, .inl (nF zN))), (m4_20, .inl (cI, 480, .inl zF)), (m5_21, .inl (cI, 41, .inl (nF zN))), (m6_22, .inl (cI, 40, .inl zF)), (m7_23, .inl (cZ, 40, .inl (prF 0))), (m8_24, .inl (cI, 6, .inl (nF zN))), (m9_25, .inl (cI, 48, .inl zF)), (m10_26, .inl (cI, 8, .inl zF))] := hD
  show W p l e _ s m _ below meth c H locs _ _ _ (F0 m 15 ls [.ref q_16])
  refine lv_astore_n (lv' := [(2, .ref q_16), (1, .ref q_1), (0, .ref b)]) hx hb dL_law_15 rfl hl (by decide) rfl (fun ls hl => ?_)
  refine lv_iconst (v := (nI 1)) hx hb dL_law_16 (by decide) ?_
  refine k_newa (ty := .long) (atype := .long) (cA := cJ) (con := .inr (.inl zL)) (k := 26) (n2 := 3259) hx hb (hts _ (List.mem_of_getElem? (i := 6) rfl)) rfl hK 2 rfl hP hD hS hA (N9 := 1) (fun _ => rfl) (nI_clamp (by decide)) (by decide) (by decide) (Nat.le_refl _) (Nat.le_refl _) (Nat.le_of_ble_eq_true rfl) (Nat.le_of_ble_eq_true rfl) dL_law_17 (fun q_28 H hP hD hS => ?_)
  have hP : va_P D vwCl [(q_1, .inr (3, [.ref oS_2, .ref oT_4, .ref oL_6, .ref oH_12])), (oS_2, .inr (2, [.ref aS_3])), (aS_3, .inl (cI, 8, .inl zF)), (oT_4, .inr (2, [.ref aT_5])), (aT_5, .inl (cI, 8, .inl zF)), (oL_6, .inr (0, [.ref a1_7, .ref a2_8, .ref a3_9, .ref a4_10, .ref a5_11, .int (nI 0), .int (nI 0)])), (a1_7, .inl (cI, 480, .inl zF)), (a2_8, .inl (cI, 480, .inl (nF zN))), (a3_9, .inl (cI, 480, .inl zF)), (a4_10, .inl (cI, 40, .inl (nF zN))), (a5_11, .inl (cI, 40, .inl zF)), (oH_12, .inr (1, [.ref b1_13, .ref b2_14, .int (nI 0)])), (b1_13, .inl (cI, 6, .inl (nF zN))), (b2_14, .inl (cI, 48, .inl zF)), (q_16, .inr (4, [.int (nI 0), .ref m1_17, .ref m2_18, .ref m3_19, .ref m4_20, .ref m5_21, .ref m6_22, .ref m7_23, .int (nI 0), .int (nI 0), .ref m8_24, .ref m9_25, .ref m10_26])), (m1_17, .inl (cI, 8, .inl zF)), (m2_18, .inl (cI, 480, .inl zF)), (m3_19, .inl (cI, 480, .inl (nF zN))), (m4_20, .inl (cI, 480, .inl zF)), (m5_21, .inl (cI, 41, .inl (nF zN))), (m6_22, .inl (cI, 40, .inl zF)), (m7_23, .inl (cZ, 40, .inl (prF 0))), (m8_24, .inl (cI, 6, .inl (nF zN))), (m9_25, .inl (cI, 48, .inl zF)), (m10_26, .inl (cI, 8, .inl zF)), (q_28, .inl (cJ, 1, .inr (.inl zL)))] H := hP
  have hD : va_D (fun q : Nat => s.heap.size ≤ q) [(q_1, .inr (3, [.ref oS_2, .ref oT_4, .ref oL_6, .ref oH_12])), (oS_2, .inr (2, [.ref aS_3])), (aS_3, .inl (cI, 8, .inl zF)), (oT_4, .inr (2, [.ref aT_5])), (aT_5, .inl (cI, 8, .inl zF)), (oL_6, .inr (0, [.ref a1_7, .ref a2_8, .ref a3_9, .ref a4_10, .ref a5_11, .int (nI 0), .int (nI 0)])), (a1_7, .inl (cI, 480, .inl zF)), (a2_8, .inl (cI, 480, .inl (nF zN))), (a3_9, .inl (cI, 480, .inl zF)), (a4_10, .inl (cI, 40, .inl (nF zN))), (a5_11, .inl (cI, 40, .inl zF)), (oH_12, .inr (1, [.ref b1_13, .ref b2_14, .int (nI 0)])), (b1_13, .inl (cI, 6, .inl (nF zN))), (b2_14, .inl (cI, 48, .inl zF)), (q_16, .inr (4, [.int (nI 0), .ref m1_17, .ref m2_18, .ref m3_19, .ref m4_20, .ref m5_21, .ref m6_22, .ref m7_23, .int (nI 0), .int (nI 0), .ref m8_24, .ref m9_25, .ref m10_26])), (m1_17, .inl (cI, 8, .inl zF)), (m2_18, .inl (cI, 480, .inl zF)), (m3_19, .inl (cI, 480, .inl (nF zN))), (m4_20, .inl (cI, 480, .inl zF)), (m5_21, .inl (cI, 41, .inl (nF zN))), (m6_22, .inl (cI, 40, .inl zF)), (m7_23, .inl (cZ, 40, .inl (prF 0))), (m8_24, .inl (cI, 6, .inl (nF zN))), (m9_25, .inl (cI, 48, .inl zF)), (m10_26, .inl (cI, 8, .inl zF)), (q_28, .inl (cJ, 1, .inr (.inl zL)))] := hD
  refine lv_astore_n (lv' := [(3, .ref q_28), (2, .ref q_16), (1, .ref q_1), (0, .ref b)]) hx hb dL_law_19 rfl hl (by decide) rfl (fun ls hl => ?_)
  refine lv_iconst (v := (nI 0)) hx hb dL_law_20 (by decide) ?_
  refine lv_istore (lv' := [(4, .int (nI 0)), (3, .ref q_28), (2, .ref q_16), (1, .ref q_1), (0, .ref b)]) hx hb dL_law_21 hl (by decide) rfl (fun ls hl => ?_)
  refine W.widen (k := 26 + 42 * 0) (n := 3259 + 174 * 0) (by omega) (by omega) ?_
  have hP := hP.sub (ws' := [(q_1, .inr (3, [.ref oS_2, .ref oT_4, .ref oL_6, .ref oH_12])), (oS_2, .inr (2, [.ref aS_3])), (aS_3, .inl (cI, 8, .inl zF)), (oT_4, .inr (2, [.ref aT_5])), (aT_5, .inl (cI, 8, .inl zF)), (oL_6, .inr (0, [.ref a1_7, .ref a2_8, .ref a3_9, .ref a4_10, .ref a5_11, .int (nI 0), .int (nI 0)])), (a1_7, .inl (cI, 480, .inl zF)), (a2_8, .inl (cI, 480, .inl (nF zN))), (a3_9, .inl (cI, 480, .inl zF)), (a4_10, .inl (cI, 40, .inl (nF zN))), (a5_11, .inl (cI, 40, .inl zF)), (oH_12, .inr (1, [.ref b1_13, .ref b2_14, .int (nI 0)])), (b1_13, .inl (cI, 6, .inl (nF zN))), (b2_14, .inl (cI, 48, .inl zF)), (q_16, .inr (4, [.int (nI 0), .ref m1_17, .ref m2_18, .ref m3_19, .ref m4_20, .ref m5_21, .ref m6_22, .ref m7_23, .int (nI 0), .int (nI 0), .ref m8_24, .ref m9_25, .ref m10_26])), (m1_17, .inl (cI, 8, .inl zF)), (m2_18, .inl (cI, 480, .inl zF)), (m3_19, .inl (cI, 480, .inl (nF zN))), (m4_20, .inl (cI, 480, .inl zF)), (m5_21, .inl (cI, 41, .inl (nF zN))), (m6_22, .inl (cI, 40, .inl zF)), (m7_23, .inl (cZ, 40, .inl (prF 0))), (m8_24, .inl (cI, 6, .inl (nF zN))), (m9_25, .inl (cI, 48, .inl zF)), (m10_26, .inl (cI, 8, .inl zF)), (q_28, .inl (cJ, 1, .inr (.inl zL)))]) [0, 1, 2, 3, 4, 5, 6, 7, 8, 9, 10, 11, 12, 13, 14, 15, 16, 17, 18, 19, 20, 21, 22, 23, 24, 25] rfl
  have hD := hD.sub (ws' := [(q_1, .inr (3, [.ref oS_2, .ref oT_4, .ref oL_6, .ref oH_12])), (oS_2, .inr (2, [.ref aS_3])), (aS_3, .inl (cI, 8, .inl zF)), (oT_4, .inr (2, [.ref aT_5])), (aT_5, .inl (cI, 8, .inl zF)), (oL_6, .inr (0, [.ref a1_7, .ref a2_8, .ref a3_9, .ref a4_10, .ref a5_11, .int (nI 0), .int (nI 0)])), (a1_7, .inl (cI, 480, .inl zF)), (a2_8, .inl (cI, 480, .inl (nF zN))), (a3_9, .inl (cI, 480, .inl zF)), (a4_10, .inl (cI, 40, .inl (nF zN))), (a5_11, .inl (cI, 40, .inl zF)), (oH_12, .inr (1, [.ref b1_13, .ref b2_14, .int (nI 0)])), (b1_13, .inl (cI, 6, .inl (nF zN))), (b2_14, .inl (cI, 48, .inl zF)), (q_16, .inr (4, [.int (nI 0), .ref m1_17, .ref m2_18, .ref m3_19, .ref m4_20, .ref m5_21, .ref m6_22, .ref m7_23, .int (nI 0), .int (nI 0), .ref m8_24, .ref m9_25, .ref m10_26])), (m1_17, .inl (cI, 8, .inl zF)), (m2_18, .inl (cI, 480, .inl zF)), (m3_19, .inl (cI, 480, .inl (nF zN))), (m4_20, .inl (cI, 480, .inl zF)), (m5_21, .inl (cI, 41, .inl (nF zN))), (m6_22, .inl (cI, 40, .inl zF)), (m7_23, .inl (cZ, 40, .inl (prF 0))), (m8_24, .inl (cI, 6, .inl (nF zN))), (m9_25, .inl (cI, 48, .inl zF)), (m10_26, .inl (cI, 8, .inl zF)), (q_28, .inl (cJ, 1, .inr (.inl zL)))]) [0, 1, 2, 3, 4, 5, 6, 7, 8, 9, 10, 11, 12, 13, 14, 15, 16, 17, 18, 19, 20, 21, 22, 23, 24, 25] (by decide) rfl
  exact law_loop hr hlk hL hfl hx hb hml hown hts hX hbl hK hZ q_1 oS_2 aS_3 oT_4 aT_5 oL_6 a1_7 a2_8 a3_9 a4_10 a5_11 oH_12 b1_13 b2_14 q_16 m1_17 m2_18 m3_19 m4_20 m5_21 m6_22 m7_23 m8_24 m9_25 m10_26 q_28 513 0 (Nat.zero_le _) (Nat.le_refl _) zF zF zF zN zF zN zF 0 0 zN zF 0 (nI 0) zF zL iv_0 _ _ hP hD hS ls (lv_sub hl [4, 3, 2, 1, 0] rfl)
set_option maxHeartbeats 4000000 in
theorem lw_walk (l : Launch) (hflags : l.flags = flags0) (b : Addr) (xs : List Int32) : MetFree l x (headSpec (Jvm.Cond.code x code maxLocals ret :: tables_1) room_1) (lw_P b xs) (fun _ _ _ _ _ => True) lw_Q := by
  refine MetFree.of_bodyS (code := code) (maxLocals := maxLocals) (ret := ret) (by decide) ?_ ?_
  · intro args s m h hn
    obtain ⟨meth, c, h1, h2, h3, h4, h5, h6, -, -⟩ := Cond.code_spec hn (atoms_spec (ws := Jvm.Cond.code x code maxLocals ret :: tables_1) h _ List.mem_cons_self)
    exact ⟨meth, c, h1, h2, h3, h4, h5, h6⟩
  · intro p e s m args below meth c s₁ B hml0 hP _
    obtain ⟨rfl, hx, hbd, hgv⟩ := hP
    obtain ⟨scr, harrAt, hlist, hof, hsmall⟩ := hx
    obtain ⟨hcb, hkn, -, -⟩ := State.arrayAt?_spec harrAt
    have hown : s.vm.findClass R_law = some m.cls := findClass_of_methodNamed B.named
    have hts0 : ∀ c ∈ (Jvm.Cond.code x code maxLocals ret :: tables_1), c.before #[Value.ref b] s = true := atoms_spec (ws := Jvm.Cond.code x code maxLocals ret :: tables_1) B.pre
    have hts : ∀ w ∈ lw_tbl, w.before #[Value.ref b] s = true := k2_hts_sels lw_privs (fun w hw => hts0 w (List.mem_cons_of_mem _ hw)) lw_privs_ok
    have hml : c.maxLocals = 9 := B.maxLocals_eq (hts0 _ List.mem_cons_self)
    have X₀ : Stand p l e room_1 s m #[Value.ref b] below meth c s₁ [] 0 0 := Stand.of_body B
    have hh0 : s₁.heap = s.heap := by rw [B.state]; rfl
    have hsz : scr.slots.size = xs.length := by rw [← Array.length_toList, hlist, List.length_map]
    have hval : ∀ j : Nat, j < xs.length → scr.slots[j]? = some (.int (xs.getD j 0)) := fun j hj => by
      rw [← Array.getElem?_toList, hlist]
      simp [hj]
    have hbl : b < s.heap.size := (Array.getElem?_eq_some_iff.mp hcb).1
    have hX : va_X b xs.length (fun j => xs.getD j 0) s s.heap := ⟨scr, hcb, hof, hkn, hsz, hval⟩
    have K : W p l e room_1 s m #[Value.ref b] below meth c s₁.heap [] 0 0 (lw_Z below #[Value.ref b] s) (entryFrame m ([Value.ref b] : List Value).toArray 9) := by
      rw [hh0]
      exact whole_start l hflags hbd ⟨B.exec, B.bytes, B.returns, hml, hown, hts, hX, hbl, B.notSynchronized, hgv⟩
    obtain ⟨t, a1, o, b1, b2, b3⟩ := K s₁ rfl X₀
    exact ⟨t, o, a1, b1, b2, b3⟩
theorem lw_pre_spec {args : Array Value} {s : State} (h : (Jvm.Cond.and given_1 narrow_1).before args s = true) (hr : rest_1_c.before args s = true) : ∃ (b : Addr) (xs : List Int32), lw_P b xs args s := by
  have hs := flat_of_before _ h
  have hq := flat_of_before _ hr
  have hc : (Cond.count 1).before args s = true := hs _ (by decide +kernel)
  have harr : (Cond.arrayOf (.arg 0) .int).before args s = true := hs _ (by decide +kernel)
  have hle : (Cond.le (.length (.arg 0)) (.int 2048)).before args s = true := hs _ (by decide +kernel)
  have hlen : (Cond.isInt (.length (.arg 0))).before args s = true := hq _ (by decide +kernel)
  have hall : (Cond.all (.arg 0) (.isInt (.elem (.arg 0) (.index 0)))).before args s = true := hq _ (by decide +kernel)
  obtain ⟨b, xs, hb, hx⟩ := State.ints_of_pre rfl harr hlen hall
  have hsm : xs.length < 2 ^ 31 := hx.choose_spec.2.2.2
  have hev : (Term.length (.arg 0)).eval args s none [] s = some (.int xs.length.toInt32) := hx.length_eval hb
  have hv := Cond.le_ints hev (show (Term.int 2048).eval args s none [] s = some (.int 2048) from rfl)
  have hd : xs.length.toInt32 ≤ 2048 := by
    simpa [Cond.before, Cond.holds, hv] using hle
  have hN : xs.length ≤ 2048 := (Int32.ofNat_le_ofNat hsm (by decide)).mp (show Int32.ofNat xs.length ≤ Int32.ofNat 2048 from hd)
  exact ⟨b, xs, Cond.one_arg hc (show args[0]? = some (.ref b) from hb), hx, hN, h⟩
theorem lw_comes (l : Launch) (hflags : l.flags = flags0) : Comes l x (Jvm.Cond.code x code maxLocals ret :: tables_1) room_1 (fun tb e args s => Calls_1 tb e args s ∧ rest_1 tb e args s ∧ Pre_1 tb e args s)
    (fun _ _ args s o t => lw_Q args s o t) := by
  intro p e ha hc hk s m args below hf hfit hheap happ hpre
  obtain ⟨b, xs, hP⟩ := lw_pre_spec hpre.2.2 hpre.2.1
  obtain ⟨k, o, h1, h2, h3, hQ⟩ := lw_walk l hflags b xs p e ha hc hk s m args below hf ((Spec.applies_iff_loose hf).mp happ).1 hP trivial
  exact ⟨k, o, h1, h2, h3, hQ⟩
theorem lw_frame {s t : State} {o : Outcome} {args : Array Value} (h : State.butDraws s t lw_cs (fun t1 => Framed s o t1 [] 763464 6805712)) :
    State.butDraws s t [Jvm.Choice.named "NaN.bits"] (fun t1 => Framed s o t1 (fieldLocs frame_1_writes args s ++ arrayLocs frame_1_arrays args s ++ staticLocs frame_1_statics s) 763464 6805712) := h
theorem lw_limb (L : Cond) (hL : ∀ (args : Array Value) (s t : State), L.after args s (.returned (some (.int 1))) t = true) :
    ArmFor flags0 classFile x code maxLocals ret World_1 tables_1 room_1 Calls_1 rest_1 Pre_1
      (fun tb e a s o t => postC L tb e a s o t ∧ State.butDraws s t [Jvm.Choice.named "NaN.bits"] (fun t1 => Framed s o t1 (fieldLocs frame_1_writes a s ++ arrayLocs frame_1_arrays a s ++ staticLocs frame_1_statics s) 763464 6805712)) := by
  intro l hflags _ _ p e ha hc hk s m args below hf hfit hheap happ hpre
  obtain ⟨k, o, h1, h2, h3, rfl, hF⟩ := lw_comes l hflags p e ha hc hk s m args below hf hfit hheap happ hpre
  exact ⟨k, _, h1, h2, h3, hL args s _, lw_frame hF⟩
theorem i_vc : Claimed_1_1 ∧ Claimed_1_2 := ⟨lw_limb limb_1_1 (fun args s t => by simp [limb_1_1, Cond.after, Cond.holds, Cond.value]), lw_limb limb_1_2 (fun args s t => Cond.after_iff.mpr (by
  first | (rw [show limb_1_2 = Cond.eq .result (.int 1) from rfl, Cond.eq_ints (x := 1) (y := 1) rfl rfl]; simp; done) | (simp [limb_1_2, Cond.value, Term.eval]; done)))⟩


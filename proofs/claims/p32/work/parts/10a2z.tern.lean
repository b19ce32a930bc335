/-! 10a2z: a choice between 1 and 0 (from whole's 04b) -/
section KT
variable {p : Program} {l : Launch} {e : Env} {R : Room} {s : State} {m : MethodId} {args : Array Value} {below : List Frame} {meth : Method} {c : Code} {H : Heap} {locs : List Loc} {cells slots : Nat} {Q : State → Prop}
variable {cc : ByteArray} {pc : Nat} {ls : Array Slot} {rest : List Value}
theorem k_tern (hx : p.tables.exec = Jvm.exec) (hb : c.code = cc) {P : Prop} {dP : Decidable P} {off off2 : Int} {tgt tgt2 : Nat} (hdg : decode cc pc = .ok (.ifCond .eq off, 3)) (ht : (pc : Int) + off = (tgt : Int)) (h1 : decode cc (pc + 3) = .ok (.iconst 1, 1)) (h2 : decode cc (pc + 3 + 1) = .ok (.goto off2, 3)) (ht2 : ((pc + 3 + 1 : Nat) : Int) + off2 = (tgt2 : Int)) (h3 : decode cc tgt = .ok (.iconst 0, 1)) (k : W p l e R s m args below meth c H locs cells slots Q (F0 m (tgt + 1) ls (.int (b2i P) :: rest))) (h9 : tgt + 1 = tgt2 := by decide) : W p l e R s m args below meth c H locs cells slots Q (F0 m pc ls (.int (b2i P) :: rest)) := by
  refine k_bif_eq hx hb hdg ht (fun h => ?_) (fun h => ?_)
  · refine lv_iconst (v := nI 0) hx hb h3 (by decide) ?_
    rw [show b2i P = nI 0 from if_neg h] at k
    exact k
  · refine lv_iconst (v := nI 1) hx hb h1 (by decide) ?_
    refine lv_goto (tgt := tgt2) hx hb h2 ht2 ?_
    rw [show b2i P = nI 1 from if_pos h, h9] at k
    exact k
end KT

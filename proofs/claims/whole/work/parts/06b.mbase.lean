/-! 06b: what the reference needs beside -/
/-- rows of truths: 1 below k -/
def prF (k : Nat) : Nat → Int32 := fun i => b2i (i < k)
theorem prF_0 : prF 0 = zF := by
  funext i
  show b2i (i < 0) = 0
  unfold b2i
  rw [if_neg (Nat.not_lt_zero i)]; rfl
theorem prF_up (k i : Nat) : upd (prF (max k i)) i (nI 1) = prF (max k (i + 1)) := by
  funext j
  simp only [upd, prF, b2i]
  by_cases h : j = i
  · subst h; rw [if_pos rfl, if_pos (by omega)]
  · rw [if_neg h]
    by_cases h2 : j < max k i
    · rw [if_pos h2, if_pos (by omega)]
    · rw [if_neg h2, if_neg (by omega)]
theorem cpy_sh (F : Nat → Int32) (t : Nat) : va_cpy F F ((t + 1) * 8) (t * 8) 8 = cp8 F t 8 := by
  have key : ∀ m, m ≤ 8 → cp8 F t m = fun k => if t * 8 ≤ k ∧ k < t * 8 + m then F ((t + 1) * 8 + (k - t * 8)) else F k := by
    intro m
    induction m with
    | zero => intro _; funext k; simp only [cp8]; rw [if_neg (by omega)]
    | succ m ih =>
      intro hm
      funext k
      simp only [cp8, ih (by omega), upd]
      by_cases h : k = t * 8 + m
      · subst h
        rw [if_pos rfl, if_neg (by omega), if_pos (by omega)]
        congr 1; omega
      · rw [if_neg h]
        by_cases h2 : t * 8 ≤ k ∧ k < t * 8 + m
        · rw [if_pos h2, if_pos (by omega)]
        · rw [if_neg h2, if_neg (by omega)]
  rw [key 8 (Nat.le_refl _)]; rfl
theorem cpy_dr (f G : Nat → Int32) (t : Nat) : va_cpy f G 0 (t * 8) 8 = drG G t f 8 := by
  have key : ∀ m, drG G t f m = fun k => if t * 8 ≤ k ∧ k < t * 8 + m then f (0 + (k - t * 8)) else G k := by
    intro m
    induction m with
    | zero => funext k; simp only [drG]; rw [if_neg (by omega)]
    | succ m ih =>
      funext k
      simp only [drG, ih, upd]
      by_cases h : k = t * 8 + m
      · subst h
        rw [if_pos rfl, if_pos (by omega)]
        congr 1; omega
      · rw [if_neg h]
        by_cases h2 : t * 8 ≤ k ∧ k < t * 8 + m
        · rw [if_pos h2, if_pos (by omega)]
        · rw [if_neg h2, if_neg (by omega)]
  rw [key 8]; rfl
theorem cpy_cp (f g : Nat → Int32) : va_cpy f g 0 0 8 = cpN g f 8 := by
  have key : ∀ m, cpN g f m = fun k => if 0 ≤ k ∧ k < 0 + m then f (0 + (k - 0)) else g k := by
    intro m
    induction m with
    | zero => funext k; simp only [cpN]; rw [if_neg (by omega)]
    | succ m ih =>
      funext k
      simp only [cpN, ih, upd]
      by_cases h : k = m
      · subst h
        rw [if_pos rfl, if_pos (by omega)]
        congr 1; omega
      · rw [if_neg h]
        by_cases h2 : 0 ≤ k ∧ k < 0 + m
        · rw [if_pos h2, if_pos (by omega)]
        · rw [if_neg h2, if_neg (by omega)]
  rw [key 8]; rfl
section KCP
variable {p : Program} {l : Launch} {e : Env} {R : Room} {s : State} {m : MethodId} {args : Array Value} {below : List Frame} {meth : Method} {c : Code} {H : Heap} {locs : List Loc} {cells slots : Nat} {Q : State → Prop}
variable {cc : ByteArray} {pc : Nat} {ls : Array Slot} {rest : List Value} {D : va_G} {tys : List (ClassId × FieldType)} {A : Nat → Prop} {ws : va_W}
theorem k_copy (hx : p.tables.exec = Jvm.exec) (hb : c.code = cc) (hml : c.maxLocals = ls.size) {own : String} {index : Nat} (hown : s.vm.findClass own = some m.cls) (hlink : (Cond.methodLink own index arraycopyName).before args s = true) (hnat : (Cond.native arraycopyName).before args s = true) (hstat : (Cond.static arraycopyName).before args s = true) (hini : (Cond.initialized "java/lang/System").before args s = true)
    (hK : va_K D vwCl tys s) (hP : va_P D vwCl ws H) (hD : va_D A ws) (hS : va_S A s.heap H locs) (q0 q1 t0 : Nat) {a0 a1 : Nat} {c0 : ClassId} {n0 n1 : Nat} {f g : Nat → Int32} (ha0 : ws[q0]? = some (a0, .inl (c0, n0, .inl f))) (ha1 : ws[q1]? = some (a1, .inl (c0, n1, .inl g))) (ht0 : tys[t0]? = some (c0, .int))
    {a b : Nat} (h4 : a + 8 ≤ n0) (h5 : b + 8 ≤ n1) (hn0 : n0 < 2147483648) (hn1 : n1 < 2147483648) {G2 : Nat → Int32} (hG : va_cpy f g a b 8 = G2) {w2 : va_W} (hw2 : ws.set q1 (a1, .inl (c0, n1, .inl G2)) = w2)
    (hframes : 1 ≤ R.frames) (hlocals : (rest.map fun v => v.category).sum + (nativeFrameWords "java/lang/System" "arraycopy" 5 + 11) ≤ R.locals) (hdg : decode cc pc = .ok (.invokestatic index, 3))
    (kk : ∀ (H1 : Heap) (locs1 : List Loc), va_P D vwCl w2 H1 → va_D A w2 → va_S A s.heap H1 locs1 → W p l e R s m args below meth c H1 locs1 cells slots Q (F0 m (pc + 3) ls rest)) :
    W p l e R s m args below meth c H locs cells slots Q (F0 m pc ls (.int (nI 8) :: .int (nI b) :: .ref a1 :: .int (nI a) :: .ref a0 :: rest)) := by
  have ea : (nI a).toNatClampNeg = a := nI_clamp (by omega)
  have eb : (nI b).toNatClampNeg = b := nI_clamp (by omega)
  have e8 : (nI 8).toNatClampNeg = 8 := nI_clamp (by decide)
  subst hw2
  subst hG
  refine va_copyi hx hb hml hown hlink hnat hstat hini hK hP hD hS q0 q1 t0 t0 ha0 ha1 ht0 ht0 rfl (nI_pos (by omega)) (nI_pos (by omega)) (nI_pos (by decide)) (by rw [ea, e8]; exact h4) (by rw [eb, e8]; exact h5) (fun i _ => rfl) hframes hlocals hdg (fun H1 locs1 h1 h2 h3 => kk H1 locs1 ?_ ?_ h3)
  · rw [ea, eb, e8] at h1; exact h1
  · rw [ea, eb, e8] at h2; exact h2
end KCP
theorem kNlt {a b : Nat} (h : b ≤ a) (ha : a < 2147483648) : ¬ nI a < nI b := nI_nlt h ha
theorem k_ge_gt {v : Int32} {b : Nat} (hb : b + 1 < 2147483648) (h : ¬ v < nI (b + 1)) : nI b < v := by
  rw [Int32.lt_iff_toInt_lt, nI_toInt (by omega)] at h ⊢
  omega
theorem k_nle_gt {v : Int32} {b : Nat} (h : ¬ v ≤ nI b) : nI b < v := Int32.not_le.mp h
theorem k_pred_gt {v : Int32} {b : Nat} (hb : b < 1073741824) (h : ¬ v < nI b) : nI b - nI 1 < v := by
  have e := pk_sub_toInt (a := b) (b := 1) hb (by decide)
  rw [Int32.lt_iff_toInt_lt, nI_toInt (by omega)] at h
  rw [Int32.lt_iff_toInt_lt, e]
  omega
theorem k_pred_ge {v : Int32} {b : Nat} (hb : b < 1073741824) (h : nI b ≤ v) : nI b - nI 1 < v := k_pred_gt hb (fun q => by rw [Int32.lt_iff_toInt_lt] at q; rw [Int32.le_iff_toInt_le] at h; omega)
def prI : Nat → Int32
  | 0 => (-1)
  | r + 1 => nI r
theorem prI_sub (n : Nat) : nI n - nI 1 = prI n := by
  cases n with
  | zero => decide
  | succ n => exact pk_sub (by omega)
theorem prI_pos {n : Nat} (h : 0 < n) : prI n = nI (n - 1) := by
  cases n with
  | zero => omega
  | succ n => rfl
theorem prI_dec (n : Nat) : nI n + Int32.ofInt (-1) = prI n := by
  cases n with
  | zero => decide
  | succ n => exact pk_m1 n

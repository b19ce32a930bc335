/-! 08e: plain facts: what the glacier keeps (most of them as in whole) -/
theorem up_lt {O : Nat → Nat} {a v b : Nat} (h : ∀ i, O i < b) (hv : v < b) : ∀ i, upN O a v i < b := by
  intro i
  simp only [upN]
  split
  · exact hv
  · exact h i
theorem up_le {O : Nat → Nat} {a v b : Nat} (h : ∀ i, O i ≤ b) (hv : v ≤ b) : ∀ i, upN O a v i ≤ b := by
  intro i
  simp only [upN]
  split
  · exact hv
  · exact h i
def Iv (O M : Nat → Nat) (n k : Nat) (Y : Nat → Nat) (nc : Nat) : Prop :=
  n ≤ 40 ∧ k ≤ n ∧ nc ≤ 6 ∧ (∀ i, M i ≤ 12) ∧ (∀ i, O i < 8) ∧ (∀ i, Y i ≤ 40) ∧ M 40 = 0 ∧ (∀ j, j < k → M j = 0) ∧ (∀ i j, i < j → j < nc → Y i < Y j) ∧ (∀ j, j < nc → 1 ≤ Y j ∧ Y j ≤ n)
theorem iv_0 : Iv zN zN 0 0 zN 0 :=
  ⟨by omega, by omega, by omega, fun _ => Nat.zero_le _, fun _ => Nat.zero_lt_succ _, fun _ => Nat.zero_le _, rfl, fun _ _ => rfl, fun i j _ h => by omega, fun j h => by omega⟩
theorem dropM_eq (M : Nat → Nat) (k d i : Nat) : dropM M k d i = if k ≤ i ∧ i < k + d then 0 else M i := by
  induction d generalizing i with
  | zero => rw [dropM, if_neg (by omega)]
  | succ d ih =>
    simp only [dropM, upN]
    by_cases h : i = k + d
    · subst h; rw [if_pos rfl, if_pos (by omega)]
    · rw [if_neg h, ih]
      by_cases h2 : k ≤ i ∧ i < k + d
      · rw [if_pos h2, if_pos (by omega)]
      · rw [if_neg h2, if_neg (by omega)]
theorem iv_note {O M : Nat → Nat} {n k : Nat} {Y : Nat → Nat} {nc j : Nat} (h : Iv O M n k Y nc) (hj : j < 8) (hr : n < 40 ∧ M n < 12) : Iv (upN O (n * 12 + M n) j) (upN M n (M n + 1)) n k Y nc := by
  obtain ⟨h1, h2, h3, h4, h5, h6, h7, h8, h9, h10⟩ := h
  refine ⟨h1, h2, h3, up_le h4 (by omega), up_lt h5 hj, h6, ?_, fun i hi => ?_, h9, h10⟩
  · simp only [upN]; rw [if_neg (by omega)]; exact h7
  · simp only [upN]; rw [if_neg (by omega)]; exact h8 i hi
theorem iv_end0 {O M : Nat → Nat} {n k : Nat} {Y : Nat → Nat} {nc : Nat} (h : Iv O M n k Y nc) (hn : n < 40) : Iv O M (n + 1) k Y nc := by
  obtain ⟨h1, h2, h3, h4, h5, h6, h7, h8, h9, h10⟩ := h
  exact ⟨by omega, by omega, h3, h4, h5, h6, h7, h8, h9, fun j hj => ⟨(h10 j hj).1, by have := (h10 j hj).2; omega⟩⟩
theorem iv_endL {O M : Nat → Nat} {n k : Nat} {Y : Nat → Nat} {nc : Nat} (h : Iv O M n k Y nc) (hn : n < 40) (hc : nc < 6) : Iv O M (n + 1) k (upN Y nc (n + 1)) (nc + 1) := by
  obtain ⟨h1, h2, h3, h4, h5, h6, h7, h8, h9, h10⟩ := h
  refine ⟨by omega, by omega, by omega, h4, h5, up_le h6 (by omega), h7, h8, fun i j hij hj => ?_, fun j hj => ?_⟩
  · simp only [upN]
    rw [if_neg (show ¬ i = nc by omega)]
    by_cases h : j = nc
    · rw [if_pos h]; have := (h10 i (by omega)).2; omega
    · rw [if_neg h]; exact h9 i j hij (by omega)
  · simp only [upN]
    by_cases h : j = nc
    · rw [if_pos h]; omega
    · rw [if_neg h]; have := h10 j (by omega); omega
theorem iv_throw {O M : Nat → Nat} {n k : Nat} {Y : Nat → Nat} {nc j : Nat} (h : Iv O M n k Y nc) (hj : j < nc) : Iv O M n k (shY Y j (nc - 1 - j)) (nc - 1) := by
  obtain ⟨h1, h2, h3, h4, h5, h6, h7, h8, h9, h10⟩ := h
  refine ⟨h1, h2, by omega, h4, h5, fun i => ?_, h7, h8, fun a b hab hb => ?_, fun a ha => ?_⟩
  · rw [shY_at]; split
    · exact h6 _
    · exact h6 _
  · rw [shY_at, shY_at]
    by_cases ha : j ≤ a
    · rw [if_pos (by omega), if_pos (by omega)]; exact h9 _ _ (by omega) (by omega)
    · rw [if_neg (by omega)]
      by_cases hb2 : j ≤ b
      · rw [if_pos (by omega)]; exact h9 _ _ (by omega) (by omega)
      · rw [if_neg (by omega)]; exact h9 _ _ (by omega) (by omega)
  · rw [shY_at]; split
    · exact h10 _ (by omega)
    · exact h10 _ (by omega)
theorem iv_endF {O M : Nat → Nat} {n k : Nat} {Y : Nat → Nat} (h : Iv O M n k Y 6) (hn : n < 40) : Iv O M (n + 1) k (upN (shY Y 0 5) 5 (n + 1)) 6 :=
  iv_endL (nc := 5) (iv_throw (j := 0) h (by omega)) hn (by omega)
theorem iv_comp {O M : Nat → Nat} {n k : Nat} {Y : Nat → Nat} {nc y : Nat} (h : Iv O M n k Y nc) (hy : y ≤ n) : Iv O (dropM M k (y - k)) n (max k y) Y nc := by
  obtain ⟨h1, h2, h3, h4, h5, h6, h7, h8, h9, h10⟩ := h
  refine ⟨h1, by omega, h3, fun i => ?_, h5, h6, ?_, fun i hi => ?_, h9, h10⟩
  · rw [dropM_eq]; split
    · omega
    · exact h4 i
  · rw [dropM_eq]; split
    · rfl
    · exact h7
  · rw [dropM_eq]; split
    · rfl
    · exact h8 i (by omega)
theorem lat_none {Y : Nat → Nat} {v : Int32} {nc : Nat} (h : latO Y v nc = none) : ∀ i, i < nc → v < nI (Y i) := by
  induction nc with
  | zero => intro i hi; omega
  | succ k ih =>
    simp only [latO] at h
    split at h
    · rename_i hv
      intro i hi
      by_cases e : i = k
      · subst e; exact hv
      · exact ih h i (by omega)
    · cases h
theorem lat_some {Y : Nat → Nat} {v : Int32} {nc j : Nat} (h : latO Y v nc = some j) : j < nc ∧ ¬ v < nI (Y j) ∧ ∀ i, j < i → i < nc → v < nI (Y i) := by
  induction nc with
  | zero => cases h
  | succ k ih =>
    simp only [latO] at h
    split at h
    · rename_i hv
      obtain ⟨a, b, c⟩ := ih h
      refine ⟨by omega, b, fun i h1 h2 => ?_⟩
      by_cases e : i = k
      · subst e; exact hv
      · exact c i h1 (by omega)
    · rename_i hv
      cases h
      exact ⟨by omega, hv, fun i h1 h2 => by omega⟩
theorem lat_congr {Y : Nat → Nat} {v u : Int32} {nc : Nat} (h : ∀ i, i < nc → (v < nI (Y i) ↔ u < nI (Y i))) : latO Y v nc = latO Y u nc := by
  induction nc with
  | zero => rfl
  | succ k ih =>
    have h1 := ih (fun i hi => h i (by omega))
    have h2 := h k (by omega)
    simp only [latO]
    by_cases q : v < nI (Y k)
    · rw [if_pos q, if_pos (h2.mp q)]; exact h1
    · rw [if_neg q, if_neg (fun z => q (h2.mpr z))]
theorem fst_none {P : Nat → Bool} {d i : Nat} (h : ∀ j, i ≤ j → j < i + d → P j = false) : fstO P i d = none := by
  induction d generalizing i with
  | zero => rfl
  | succ d ih =>
    rw [fstO, if_neg (by rw [h i (by omega) (by omega)]; decide)]
    exact ih (fun j h1 h2 => h j (by omega) (by omega))
theorem fst_some {P : Nat → Bool} {d i j : Nat} (h1 : i ≤ j) (h2 : j < i + d) (hP : P j = true) (hl : ∀ z, i ≤ z → z < j → P z = false) : fstO P i d = some j := by
  induction d generalizing i with
  | zero => omega
  | succ d ih =>
    rw [fstO]
    by_cases e : i = j
    · subst e; rw [if_pos hP]
    · rw [if_neg (by rw [hl i (by omega) (by omega)]; decide)]
      exact ih (by omega) (by omega) (fun z a b => hl z (by omega) b)
theorem nI_lt40 {a b : Nat} (ha : a ≤ 41) (hb : b ≤ 41) : nI a < nI b ↔ a < b := nI_ltI (by omega) (by omega)
theorem fin_eq {Y : Nat → Nat} {v : Int32} {nc j : Nat} (h : finO Y v nc = some j) : latO Y v nc = some j ∧ nI (Y j) = v := by
  unfold finO at h
  cases hl : latO Y v nc with
  | none => rw [hl] at h; cases h
  | some i =>
    rw [hl] at h
    simp only at h
    split at h
    · rename_i e; cases h; exact ⟨rfl, e⟩
    · cases h
theorem fr_le {Y : Nat → Nat} {nc y : Nat} (hY : ∀ i, Y i ≤ 40) (hy : y ≤ 41) : fromO Y (latO Y (nI y) nc) ≤ y := by
  cases hl : latO Y (nI y) nc with
  | none => exact Nat.zero_le _
  | some j =>
    obtain ⟨-, h2, -⟩ := lat_some hl
    have := hY j
    rw [nI_lt40 hy (by omega)] at h2
    show Y j ≤ y
    omega
theorem fr_ge {Y : Nat → Nat} {nc y j : Nat} (hY : ∀ i, Y i ≤ 40) (hinc : ∀ i j, i < j → j < nc → Y i < Y j) (hy : y ≤ 41) (hj : j < nc) (h : Y j ≤ y) : Y j ≤ fromO Y (latO Y (nI y) nc) := by
  have hYj := hY j
  cases hl : latO Y (nI y) nc with
  | none =>
    have := lat_none hl j hj
    rw [nI_lt40 hy (by omega)] at this
    omega
  | some i =>
    obtain ⟨h1, h2, h3⟩ := lat_some hl
    show Y j ≤ Y i
    by_cases q : i < j
    · have := h3 j q hj
      rw [nI_lt40 hy (by omega)] at this
      omega
    · by_cases e : j = i
      · subst e; exact Nat.le_refl _
      · exact Nat.le_of_lt (hinc j i (by omega) h1)
def agr (f g : Nat → Int32) : Prop := ∀ j, j < 8 → f j = g j
theorem agr_upd {f g : Nat → Int32} (h : agr f g) (o : Nat) (v : Int32) : agr (upd f o v) (upd g o v) := by
  intro j hj
  simp only [upd]
  split
  · rfl
  · exact h j hj
theorem agr_slide {f g : Nat → Int32} (h : agr f g) {o : Nat} (ho : o < 8) : agr (slideF f o) (slideF g o) := by
  have h0 := h o ho
  unfold slideF
  by_cases q : o + 1 < 8
  · have h1 := h (o + 1) q
    rw [if_pos q, if_pos q, h0, h1]
    have h2 := agr_upd h (o + 1) (g (o + 1) + jmin (g o / nI 10) (nI 999 - g (o + 1)))
    rw [h2 o ho]
    exact agr_upd h2 _ _
  · rw [if_neg q, if_neg q, h0]
    exact agr_upd h _ _
theorem agr_perf {f g : Nat → Int32} (h : agr f g) (kd : Int32) {o : Nat} (ho : o < 8) (tw : Int32) : agr (perf f kd o tw) (perf g kd o tw) := by
  have h0 := h o ho
  unfold perf
  by_cases q : ¬ kd = 0
  · rw [if_pos q, if_pos q]
    by_cases q2 : ¬ kd = nI 1
    · rw [if_pos q2, if_pos q2]; exact agr_slide h ho
    · rw [if_neg q2, if_neg q2, h0]; exact agr_upd h _ _
  · rw [if_neg q, if_neg q, h0]; exact agr_upd h _ _
theorem agr_again {K : Nat → Int32} {O : Nat → Nat} {T : Nat → Int32} (hO : ∀ i, O i < 8) {f g : Nat → Int32} (h : agr f g) (j d : Nat) : agr (againN K O T j f d) (againN K O T j g d) := by
  induction d with
  | zero => exact h
  | succ d ih => exact agr_perf ih _ (hO _) _
theorem agr_againL {K : Nat → Int32} {O : Nat → Nat} {T : Nat → Int32} {M : Nat → Nat} (hO : ∀ i, O i < 8) {f g : Nat → Int32} (h : agr f g) (a d : Nat) : agr (againL K O T M a f d) (againL K O T M a g d) := by
  induction d with
  | zero => exact h
  | succ d ih => exact agr_again hO ih _ _
theorem agr_it {K : Nat → Int32} {O : Nat → Nat} {T : Nat → Int32} {M : Nat → Nat} (hO : ∀ i, O i < 8) {f g : Nat → Int32} (h : agr f g) (j d : Nat) : agr (itA K O T M j f d) (itA K O T M j g d) := by
  induction d with
  | zero => exact h
  | succ d ih => exact agr_again hO ih _ _
theorem clr_eq (f : Nat → Int32) (m i : Nat) : clrN f m i = if i < m then nI 0 else f i := by
  induction m with
  | zero => rw [clrN, if_neg (by omega)]
  | succ m ih =>
    simp only [clrN, upd]
    by_cases h : i = m
    · subst h; rw [if_pos rfl, if_pos (by omega)]
    · rw [if_neg h, ih]
      by_cases h2 : i < m
      · rw [if_pos h2, if_pos (by omega)]
      · rw [if_neg h2, if_neg (by omega)]
theorem cp_eq (f g : Nat → Int32) (m i : Nat) : cpN f g m i = if i < m then g i else f i := by
  induction m with
  | zero => rw [cpN, if_neg (by omega)]
  | succ m ih =>
    simp only [cpN, upd]
    by_cases h : i = m
    · subst h; rw [if_pos rfl, if_pos (by omega)]
    · rw [if_neg h, ih]
      by_cases h2 : i < m
      · rw [if_pos h2, if_pos (by omega)]
      · rw [if_neg h2, if_neg (by omega)]
theorem pb_eq (G : Nat → Int32) (j : Nat) (f : Nat → Int32) (m i : Nat) : pbN G j f m i = if i < m then G (j * 8 + i) else f i := by
  induction m with
  | zero => rw [pbN, if_neg (by omega)]
  | succ m ih =>
    simp only [pbN, upd]
    by_cases h : i = m
    · subst h; rw [if_pos rfl, if_pos (by omega)]
    · rw [if_neg h, ih]
      by_cases h2 : i < m
      · rw [if_pos h2, if_pos (by omega)]
      · rw [if_neg h2, if_neg (by omega)]
theorem agr_clr (f g : Nat → Int32) : agr (clrN f 8) (clrN g 8) := fun j hj => by rw [clr_eq, clr_eq, if_pos hj, if_pos hj]
theorem agr_cp (f g h : Nat → Int32) : agr (cpN f h 8) (cpN g h 8) := fun j hj => by rw [cp_eq, cp_eq, if_pos hj, if_pos hj]
theorem agr_pb (G : Nat → Int32) (j : Nat) (f g : Nat → Int32) : agr (pbN G j f 8) (pbN G j g 8) := fun i hi => by rw [pb_eq, pb_eq, if_pos hi, if_pos hi]
theorem agr_start (G g g2 : Nat → Int32) (o : Option Nat) : agr (startG G g o) (startG G g2 o) := by
  cases o with
  | none => exact agr_clr _ _
  | some j => exact agr_pb _ _ _ _
theorem sum_agr {f g : Nat → Int32} (h : agr f g) : sumZ f 8 = sumZ g 8 := by
  have key : ∀ m, m ≤ 8 → sumZ f m = sumZ g m := by
    intro m
    induction m with
    | zero => intro _; rfl
    | succ m ih => intro hm; rw [sumZ, sumZ, ih (by omega), h m (by omega)]
  exact key 8 (Nat.le_refl _)
theorem agr_repl {K : Nat → Int32} {O : Nat → Nat} {T : Nat → Int32} {M Y : Nat → Nat} {G : Nat → Int32} {nc : Nat} (hO : ∀ i, O i < 8) (g g2 : Nat → Int32) (y : Nat) : agr (replG K O T M Y G nc g y) (replG K O T M Y G nc g2 y) :=
  agr_againL hO (agr_start _ _ _ _) _ _
theorem agr_sym {f g : Nat → Int32} (h : agr f g) : agr g f := fun j hj => (h j hj).symm
theorem agr_tr {f g h : Nat → Int32} (h1 : agr f g) (h2 : agr g h) : agr f h := fun j hj => (h1 j hj).trans (h2 j hj)
theorem sumM_add (M : Nat → Nat) (a d e : Nat) : sumM M a (d + e) = sumM M a d + sumM M (a + d) e := by
  induction e with
  | zero => rfl
  | succ e ih =>
    show sumM M a (d + e) + M (a + (d + e)) = sumM M a d + (sumM M (a + d) e + M (a + d + e))
    rw [ih, Nat.add_assoc a d e, Nat.add_assoc]

/-! 09a: plain facts: what both sides' states keep, and that their answers are one -/
def Iv (O M : Nat → Nat) (n k : Nat) (Y : Nat → Nat) (nc : Nat) : Prop :=
  n ≤ 40 ∧ k ≤ n ∧ nc ≤ 6 ∧ (∀ i, M i ≤ 12) ∧ (∀ i, O i < 8) ∧ (∀ i, Y i ≤ 40) ∧ M 40 = 0 ∧ (∀ j, j < k → M j = 0) ∧ (∀ i j, i < j → j < nc → Y i < Y j) ∧ (∀ j, j < nc → 1 ≤ Y j ∧ Y j ≤ n)
theorem iv_0 : Iv zN zN 0 0 zN 0 :=
  ⟨by omega, by omega, by omega, fun _ => Nat.zero_le _, fun _ => Nat.zero_lt_succ _, fun _ => Nat.zero_le _, rfl, fun _ _ => rfl, fun i j _ h => by omega, fun j h => by omega⟩
theorem shY_eq (Y : Nat → Nat) (j d i : Nat) : shY Y j d i = if j ≤ i ∧ i < j + d then Y (i + 1) else Y i := by
  induction d generalizing i with
  | zero => rw [shY, if_neg (by omega)]
  | succ d ih =>
    simp only [shY, upN]
    by_cases h : i = j + d
    · subst h
      rw [if_pos rfl, ih, if_neg (by omega), if_pos (by omega)]
    · rw [if_neg h, ih]
      by_cases h2 : j ≤ i ∧ i < j + d
      · rw [if_pos h2, if_pos (by omega)]
      · rw [if_neg h2, if_neg (by omega)]
theorem dropM_eq (M : Nat → Nat) (k d i : Nat) : dropM M k d i = if k ≤ i ∧ i < k + d then 0 else M i := by
  induction d generalizing i with
  | zero => rw [dropM, if_neg (by omega)]
  | succ d ih =>
    simp only [dropM, upN]
    by_cases h : i = k + d
    · subst h; rw [if_pos rfl, if_pos (by omega)]
    · rw [if_neg h, ih]
      by_cases h2 : k ≤ i ∧ i < k + d
      · rw [if_pos h2, if_pos (by omega)]
      · rw [if_neg h2, if_neg (by omega)]
theorem dropZ_eq (M : Nat → Nat) (y i : Nat) : dropZ M y i = if i < y then 0 else M i := by
  induction y generalizing i with
  | zero => rw [dropZ, if_neg (by omega)]
  | succ y ih =>
    simp only [dropZ, upN]
    by_cases h : i = y
    · subst h; rw [if_pos rfl, if_pos (by omega)]
    · rw [if_neg h, ih]
      by_cases h2 : i < y
      · rw [if_pos h2, if_pos (by omega)]
      · rw [if_neg h2, if_neg (by omega)]
theorem drop_eq {M : Nat → Nat} {k : Nat} (hM0 : ∀ j, j < k → M j = 0) (y : Nat) : dropZ M y = dropM M k (y - k) := by
  funext i
  rw [dropZ_eq, dropM_eq]
  by_cases h : i < y
  · rw [if_pos h]
    by_cases h2 : k ≤ i ∧ i < k + (y - k)
    · rw [if_pos h2]
    · rw [if_neg h2, hM0 i (by omega)]
  · rw [if_neg h, if_neg (by omega)]
theorem iv_note {O M : Nat → Nat} {n k : Nat} {Y : Nat → Nat} {nc j : Nat} (h : Iv O M n k Y nc) (hj : j < 8) (hr : n < 40 ∧ M n < 12) : Iv (upN O (n * 12 + M n) j) (upN M n (M n + 1)) n k Y nc := by
  obtain ⟨h1, h2, h3, h4, h5, h6, h7, h8, h9, h10⟩ := h
  refine ⟨h1, h2, h3, up_le h4 (by omega), up_lt h5 hj, h6, ?_, fun i hi => ?_, h9, h10⟩
  · simp only [upN]; rw [if_neg (by omega)]; exact h7
  · simp only [upN]; rw [if_neg (by omega)]; exact h8 i hi
theorem iv_end0 {O M : Nat → Nat} {n k : Nat} {Y : Nat → Nat} {nc : Nat} (h : Iv O M n k Y nc) (hn : n < 40) : Iv O M (n + 1) k Y nc := by
  obtain ⟨h1, h2, h3, h4, h5, h6, h7, h8, h9, h10⟩ := h
  exact ⟨by omega, by omega, h3, h4, h5, h6, h7, h8, h9, fun j hj => ⟨(h10 j hj).1, by have := (h10 j hj).2; omega⟩⟩
theorem iv_endL {O M : Nat → Nat} {n k : Nat} {Y : Nat → Nat} {nc : Nat} (h : Iv O M n k Y nc) (hn : n < 40) (hc : nc < 6) : Iv O M (n + 1) k (upN Y nc (n + 1)) (nc + 1) := by
  obtain ⟨h1, h2, h3, h4, h5, h6, h7, h8, h9, h10⟩ := h
  refine ⟨by omega, by omega, by omega, h4, h5, up_le h6 (by omega), h7, h8, fun i j hij hj => ?_, fun j hj => ?_⟩
  · simp only [upN]
    rw [if_neg (show ¬ i = nc by omega)]
    by_cases h : j = nc
    · rw [if_pos h]; have := (h10 i (by omega)).2; omega
    · rw [if_neg h]; exact h9 i j hij (by omega)
  · simp only [upN]
    by_cases h : j = nc
    · rw [if_pos h]; omega
    · rw [if_neg h]; have := h10 j (by omega); omega
theorem iv_throw {O M : Nat → Nat} {n k : Nat} {Y : Nat → Nat} {nc j : Nat} (h : Iv O M n k Y nc) (hj : j < nc) : Iv O M n k (shY Y j (nc - 1 - j)) (nc - 1) := by
  obtain ⟨h1, h2, h3, h4, h5, h6, h7, h8, h9, h10⟩ := h
  refine ⟨h1, h2, by omega, h4, h5, fun i => ?_, h7, h8, fun a b hab hb => ?_, fun a ha => ?_⟩
  · rw [shY_eq]; split
    · exact h6 _
    · exact h6 _
  · rw [shY_eq, shY_eq]
    by_cases ha : j ≤ a
    · rw [if_pos (by omega), if_pos (by omega)]; exact h9 _ _ (by omega) (by omega)
    · rw [if_neg (by omega)]
      by_cases hb2 : j ≤ b
      · rw [if_pos (by omega)]; exact h9 _ _ (by omega) (by omega)
      · rw [if_neg (by omega)]; exact h9 _ _ (by omega) (by omega)
  · rw [shY_eq]; split
    · exact h10 _ (by omega)
    · exact h10 _ (by omega)
theorem iv_endF {O M : Nat → Nat} {n k : Nat} {Y : Nat → Nat} (h : Iv O M n k Y 6) (hn : n < 40) : Iv O M (n + 1) k (upN (shY Y 0 5) 5 (n + 1)) 6 :=
  iv_endL (nc := 5) (iv_throw (j := 0) h (by omega)) hn (by omega)
theorem iv_comp {O M : Nat → Nat} {n k : Nat} {Y : Nat → Nat} {nc y : Nat} (h : Iv O M n k Y nc) (hy : y ≤ n) : Iv O (dropM M k (y - k)) n (max k y) Y nc := by
  obtain ⟨h1, h2, h3, h4, h5, h6, h7, h8, h9, h10⟩ := h
  refine ⟨h1, by omega, h3, fun i => ?_, h5, h6, ?_, fun i hi => ?_, h9, h10⟩
  · rw [dropM_eq]; split
    · omega
    · exact h4 i
  · rw [dropM_eq]; split
    · rfl
    · exact h7
  · rw [dropM_eq]; split
    · rfl
    · exact h8 i (by omega)
/-! cores -/
theorem lat_none {Y : Nat → Nat} {v : Int32} {nc : Nat} (h : latO Y v nc = none) : ∀ i, i < nc → v < nI (Y i) := by
  induction nc with
  | zero => intro i hi; omega
  | succ k ih =>
    simp only [latO] at h
    split at h
    · rename_i hv
      intro i hi
      by_cases e : i = k
      · subst e; exact hv
      · exact ih h i (by omega)
    · cases h
theorem lat_some {Y : Nat → Nat} {v : Int32} {nc j : Nat} (h : latO Y v nc = some j) : j < nc ∧ ¬ v < nI (Y j) ∧ ∀ i, j < i → i < nc → v < nI (Y i) := by
  induction nc with
  | zero => cases h
  | succ k ih =>
    simp only [latO] at h
    split at h
    · rename_i hv
      obtain ⟨a, b, c⟩ := ih h
      refine ⟨by omega, b, fun i h1 h2 => ?_⟩
      by_cases e : i = k
      · subst e; exact hv
      · exact c i h1 (by omega)
    · rename_i hv
      cases h
      exact ⟨by omega, hv, fun i h1 h2 => by omega⟩
theorem lat_congr {Y : Nat → Nat} {v u : Int32} {nc : Nat} (h : ∀ i, i < nc → (v < nI (Y i) ↔ u < nI (Y i))) : latO Y v nc = latO Y u nc := by
  induction nc with
  | zero => rfl
  | succ k ih =>
    have h1 := ih (fun i hi => h i (by omega))
    have h2 := h k (by omega)
    simp only [latO]
    by_cases q : v < nI (Y k)
    · rw [if_pos q, if_pos (h2.mp q)]; exact h1
    · rw [if_neg q, if_neg (fun z => q (h2.mpr z))]
theorem fst_none {P : Nat → Bool} {d i : Nat} (h : ∀ j, i ≤ j → j < i + d → P j = false) : fstO P i d = none := by
  induction d generalizing i with
  | zero => rfl
  | succ d ih =>
    rw [fstO, if_neg (by rw [h i (by omega) (by omega)]; decide)]
    exact ih (fun j h1 h2 => h j (by omega) (by omega))
theorem fst_some {P : Nat → Bool} {d i j : Nat} (h1 : i ≤ j) (h2 : j < i + d) (hP : P j = true) (hl : ∀ z, i ≤ z → z < j → P z = false) : fstO P i d = some j := by
  induction d generalizing i with
  | zero => omega
  | succ d ih =>
    rw [fstO]
    by_cases e : i = j
    · subst e; rw [if_pos hP]
    · rw [if_neg (by rw [hl i (by omega) (by omega)]; decide)]
      exact ih (by omega) (by omega) (fun z a b => hl z (by omega) b)
theorem nI_lt40 {a b : Nat} (ha : a ≤ 41) (hb : b ≤ 41) : nI a < nI b ↔ a < b := nI_ltI (by omega) (by omega)
theorem cor_fin {Y : Nat → Nat} {nc : Nat} (hY : ∀ i, Y i ≤ 40) (hinc : ∀ i j, i < j → j < nc → Y i < Y j) (v : Int32) : corO Y v nc = finO Y v nc := by
  unfold corO finO
  cases hl : latO Y v nc with
  | none =>
    have h := lat_none hl
    refine fst_none (fun j _ hj => ?_)
    have h1 := h j (by omega)
    refine decide_eq_false (fun e => ?_)
    rw [e] at h1
    exact Int32.lt_irrefl h1
  | some j =>
    obtain ⟨h1, h2, h3⟩ := lat_some hl
    have hne : ∀ z, z < nc → z ≠ j → ¬ nI (Y z) = v := by
      intro z hz hzj e
      by_cases q : j < z
      · have := h3 z q hz
        rw [e] at this
        exact Int32.lt_irrefl this
      · have h4 := hinc z j (by omega) h1
        apply h2
        rw [← e]
        exact (nI_lt40 (by have := hY z; omega) (by have := hY j; omega)).mpr h4
    by_cases e : nI (Y j) = v
    · simp only [if_pos e]
      exact fst_some (Nat.zero_le _) (by omega) (decide_eq_true e) (fun z _ hz => decide_eq_false (hne z (by omega) (by omega)))
    · simp only [if_neg e]
      refine fst_none (fun z _ hz => decide_eq_false ?_)
      by_cases q : z = j
      · subst q; exact e
      · exact hne z (by omega) q
theorem fin_eq {Y : Nat → Nat} {v : Int32} {nc j : Nat} (h : finO Y v nc = some j) : latO Y v nc = some j ∧ nI (Y j) = v := by
  unfold finO at h
  cases hl : latO Y v nc with
  | none => rw [hl] at h; cases h
  | some i =>
    rw [hl] at h
    simp only at h
    split at h
    · rename_i e; cases h; exact ⟨rfl, e⟩
    · cases h
theorem fin_no {Y : Nat → Nat} {nc : Nat} (hY : ∀ i, Y i ≤ 40) (hinc : ∀ i j, i < j → j < nc → Y i < Y j) {v : Int32} (h : finO Y v nc = none) : ∀ i, i < nc → ¬ nI (Y i) = v := by
  intro i hi e
  rw [← cor_fin hY hinc] at h
  have key : ∀ d a, a ≤ i → i < a + d → fstO (fun i => decide (nI (Y i) = v)) a d ≠ none := by
    intro d
    induction d with
    | zero => intro a h1 h2; omega
    | succ d ih =>
      intro a h1 h2
      rw [fstO]
      split
      · intro q; cases q
      · rename_i q
        have : a ≠ i := fun z => q (by rw [z]; exact decide_eq_true e)
        exact ih (a + 1) (by omega) (by omega)
  exact key nc 0 (Nat.zero_le _) (by omega) h
theorem fr_le {Y : Nat → Nat} {nc y : Nat} (hY : ∀ i, Y i ≤ 40) (hy : y ≤ 41) : fromO Y (latO Y (nI y) nc) ≤ y := by
  cases hl : latO Y (nI y) nc with
  | none => exact Nat.zero_le _
  | some j =>
    obtain ⟨-, h2, -⟩ := lat_some hl
    have := hY j
    rw [nI_lt40 hy (by omega)] at h2
    show Y j ≤ y
    omega
theorem fr_ge {Y : Nat → Nat} {nc y j : Nat} (hY : ∀ i, Y i ≤ 40) (hinc : ∀ i j, i < j → j < nc → Y i < Y j) (hy : y ≤ 41) (hj : j < nc) (h : Y j ≤ y) : Y j ≤ fromO Y (latO Y (nI y) nc) := by
  have hYj := hY j
  cases hl : latO Y (nI y) nc with
  | none =>
    have := lat_none hl j hj
    rw [nI_lt40 hy (by omega)] at this
    omega
  | some i =>
    obtain ⟨h1, h2, h3⟩ := lat_some hl
    show Y j ≤ Y i
    by_cases q : i < j
    · have := h3 j q hj
      rw [nI_lt40 hy (by omega)] at this
      omega
    · by_cases e : j = i
      · subst e; exact Nat.le_refl _
      · exact Nat.le_of_lt (hinc j i (by omega) h1)
/-! ice: rows that agree on the places -/
def agr (f g : Nat → Int32) : Prop := ∀ j, j < 8 → f j = g j
theorem agr_upd {f g : Nat → Int32} (h : agr f g) (o : Nat) (v : Int32) : agr (upd f o v) (upd g o v) := by
  intro j hj
  simp only [upd]
  split
  · rfl
  · exact h j hj
theorem agr_slide {f g : Nat → Int32} (h : agr f g) {o : Nat} (ho : o < 8) : agr (slideF f o) (slideF g o) := by
  have h0 := h o ho
  unfold slideF
  by_cases q : o + 1 < 8
  · have h1 := h (o + 1) q
    rw [if_pos q, if_pos q, h0, h1]
    have h2 := agr_upd h (o + 1) (g (o + 1) + jmin (g o / nI 10) (nI 999 - g (o + 1)))
    rw [h2 o ho]
    exact agr_upd h2 _ _
  · rw [if_neg q, if_neg q, h0]
    exact agr_upd h _ _
theorem agr_perf {f g : Nat → Int32} (h : agr f g) (kd : Int32) {o : Nat} (ho : o < 8) (tw : Int32) : agr (perf f kd o tw) (perf g kd o tw) := by
  have h0 := h o ho
  unfold perf
  by_cases q : ¬ kd = 0
  · rw [if_pos q, if_pos q]
    by_cases q2 : ¬ kd = nI 1
    · rw [if_pos q2, if_pos q2]; exact agr_slide h ho
    · rw [if_neg q2, if_neg q2, h0]; exact agr_upd h _ _
  · rw [if_neg q, if_neg q, h0]; exact agr_upd h _ _
theorem agr_again {K : Nat → Int32} {O : Nat → Nat} {T : Nat → Int32} (hO : ∀ i, O i < 8) {f g : Nat → Int32} (h : agr f g) (j d : Nat) : agr (againN K O T j f d) (againN K O T j g d) := by
  induction d with
  | zero => exact h
  | succ d ih => exact agr_perf ih _ (hO _) _
theorem agr_againL {K : Nat → Int32} {O : Nat → Nat} {T : Nat → Int32} {M : Nat → Nat} (hO : ∀ i, O i < 8) {f g : Nat → Int32} (h : agr f g) (a d : Nat) : agr (againL K O T M a f d) (againL K O T M a g d) := by
  induction d with
  | zero => exact h
  | succ d ih => exact agr_again hO ih _ _
theorem agr_it {K : Nat → Int32} {O : Nat → Nat} {T : Nat → Int32} {M : Nat → Nat} (hO : ∀ i, O i < 8) {f g : Nat → Int32} (h : agr f g) (j d : Nat) : agr (itA K O T M j f d) (itA K O T M j g d) := by
  induction d with
  | zero => exact h
  | succ d ih => exact agr_again hO ih _ _
theorem clr_eq (f : Nat → Int32) (m i : Nat) : clrN f m i = if i < m then nI 0 else f i := by
  induction m with
  | zero => rw [clrN, if_neg (by omega)]
  | succ m ih =>
    simp only [clrN, upd]
    by_cases h : i = m
    · subst h; rw [if_pos rfl, if_pos (by omega)]
    · rw [if_neg h, ih]
      by_cases h2 : i < m
      · rw [if_pos h2, if_pos (by omega)]
      · rw [if_neg h2, if_neg (by omega)]
theorem cp_eq (f g : Nat → Int32) (m i : Nat) : cpN f g m i = if i < m then g i else f i := by
  induction m with
  | zero => rw [cpN, if_neg (by omega)]
  | succ m ih =>
    simp only [cpN, upd]
    by_cases h : i = m
    · subst h; rw [if_pos rfl, if_pos (by omega)]
    · rw [if_neg h, ih]
      by_cases h2 : i < m
      · rw [if_pos h2, if_pos (by omega)]
      · rw [if_neg h2, if_neg (by omega)]
theorem pb_eq (G : Nat → Int32) (j : Nat) (f : Nat → Int32) (m i : Nat) : pbN G j f m i = if i < m then G (j * 8 + i) else f i := by
  induction m with
  | zero => rw [pbN, if_neg (by omega)]
  | succ m ih =>
    simp only [pbN, upd]
    by_cases h : i = m
    · subst h; rw [if_pos rfl, if_pos (by omega)]
    · rw [if_neg h, ih]
      by_cases h2 : i < m
      · rw [if_pos h2, if_pos (by omega)]
      · rw [if_neg h2, if_neg (by omega)]
theorem agr_clr (f g : Nat → Int32) : agr (clrN f 8) (clrN g 8) := fun j hj => by rw [clr_eq, clr_eq, if_pos hj, if_pos hj]
theorem agr_cp (f g h : Nat → Int32) : agr (cpN f h 8) (cpN g h 8) := fun j hj => by rw [cp_eq, cp_eq, if_pos hj, if_pos hj]
theorem agr_pb (G : Nat → Int32) (j : Nat) (f g : Nat → Int32) : agr (pbN G j f 8) (pbN G j g 8) := fun i hi => by rw [pb_eq, pb_eq, if_pos hi, if_pos hi]
theorem agr_start (G g g2 : Nat → Int32) (o : Option Nat) : agr (startG G g o) (startG G g2 o) := by
  cases o with
  | none => exact agr_clr _ _
  | some j => exact agr_pb _ _ _ _
theorem sum_agr {f g : Nat → Int32} (h : agr f g) : sumZ f 8 = sumZ g 8 := by
  have key : ∀ m, m ≤ 8 → sumZ f m = sumZ g m := by
    intro m
    induction m with
    | zero => intro _; rfl
    | succ m ih => intro hm; rw [sumZ, sumZ, ih (by omega), h m (by omega)]
  exact key 8 (Nat.le_refl _)
theorem agr_repl {K : Nat → Int32} {O : Nat → Nat} {T : Nat → Int32} {M Y : Nat → Nat} {G : Nat → Int32} {nc : Nat} (hO : ∀ i, O i < 8) (g g2 : Nat → Int32) (y : Nat) : agr (replG K O T M Y G nc g y) (replG K O T M Y G nc g2 y) :=
  agr_againL hO (agr_start _ _ _ _) _ _
theorem agr_sym {f g : Nat → Int32} (h : agr f g) : agr g f := fun j hj => (h j hj).symm
theorem agr_tr {f g h : Nat → Int32} (h1 : agr f g) (h2 : agr g h) : agr f h := fun j hj => (h1 j hj).trans (h2 j hj)
/-! the walk through the years, and the replays -/
theorem tri_repl {K : Nat → Int32} {O : Nat → Nat} {T : Nat → Int32} {M Y : Nat → Nat} {G : Nat → Int32} {n k nc : Nat} (hIv : Iv O M n k Y nc) (g g2 : Nat → Int32) (y : Nat) (hy : y ≤ n) : agr (triG K O T M Y G nc g y) (replG K O T M Y G nc g2 y) := by
  obtain ⟨h1, h2, h3, h4, h5, h6, h7, h8, h9, h10⟩ := hIv
  induction y with
  | zero =>
    have e : latO Y (nI 0) nc = none := by
      cases hl : latO Y (nI 0) nc with
      | none => rfl
      | some j =>
        obtain ⟨a, b, -⟩ := lat_some hl
        have := h10 j a
        rw [nI_lt40 (by omega) (by have := h6 j; omega)] at b
        omega
    unfold replG
    rw [e]
    exact agr_clr _ _
  | succ y ih =>
    have ih := ih (by omega)
    rw [triG]
    unfold stepG
    cases hf : finO Y (nI (y + 1)) nc with
    | some j =>
      obtain ⟨hl, e⟩ := fin_eq hf
      have e2 : Y j = y + 1 := by
        have := h6 j
        exact (nI_eq (by omega) (by omega)).mp e
      unfold replG
      rw [hl]
      show agr (pbN G j _ 8) (againL K O T M (Y j) (pbN G j g2 8) (y + 1 - Y j))
      rw [e2, Nat.sub_self]
      exact agr_pb _ _ _ _
    | none =>
      have hno := fin_no h6 h9 hf
      have e : latO Y (nI (y + 1)) nc = latO Y (nI y) nc := by
        refine lat_congr (fun i hi => ?_)
        have hYi := h6 i
        rw [nI_lt40 (by omega) (by omega), nI_lt40 (by omega) (by omega)]
        have : Y i ≠ y + 1 := fun q => hno i hi (by rw [q])
        omega
      have hfr := fr_le (nc := nc) h6 (show y ≤ 41 by omega)
      unfold replG
      rw [e]
      rw [show y + 1 - fromO Y (latO Y (nI y) nc) = (y - fromO Y (latO Y (nI y) nc)) + 1 by omega, againL]
      rw [show fromO Y (latO Y (nI y) nc) + (y - fromO Y (latO Y (nI y) nc)) = y by omega]
      exact agr_again h5 ih _ _
theorem ric_rm {K : Nat → Int32} {O : Nat → Nat} {T : Nat → Int32} {M Y : Nat → Nat} {G : Nat → Int32} {n k nc : Nat} (hIv : Iv O M n k Y nc) (g g2 : Nat → Int32) (i : Nat) (hi : i ≤ n) : rmR K O T M Y G nc k g2 (i + 1) = (nI (ricR K O T M Y G nc k g i).1, (ricR K O T M Y G nc k g i).2) := by
  have hs : ∀ y, y ≤ n → sumZ (replG K O T M Y G nc (thM K O T M Y G nc k g2 y) y) 8 = sumZ (triG K O T M Y G nc g y) 8 := fun y hy => sum_agr (agr_sym (tri_repl hIv g _ y hy))
  induction i with
  | zero =>
    have e0 : sumZ (triG K O T M Y G nc g 0) 8 = nI 0 := by
      have : agr (triG K O T M Y G nc g 0) zF := fun j hj => by
        show clrN g 8 j = 0
        rw [clr_eq, if_pos hj]; rfl
      rw [sum_agr this]; decide
    show (if canP Y nc k 0 ∧ ((-1 : Int32)) < sumZ (replG K O T M Y G nc (thM K O T M Y G nc k g2 0) 0) 8 then (nI 0, sumZ (replG K O T M Y G nc (thM K O T M Y G nc k g2 0) 0) 8) else ((-1), (-1))) = (nI 0, nI 0)
    rw [hs 0 (Nat.zero_le _), e0, if_pos ⟨Or.inl (Nat.zero_le _), by decide⟩]
  | succ i ih =>
    have ih := ih (by omega)
    rw [rmR, ih, hs (i + 1) hi, ricR]
    by_cases q : canP Y nc k (i + 1) ∧ ¬ sumZ (triG K O T M Y G nc g (i + 1)) 8 ≤ (ricR K O T M Y G nc k g i).2
    · rw [if_pos q, if_pos ⟨q.1, Int32.not_le.mp q.2⟩]
    · rw [if_neg q, if_neg (fun z => q ⟨z.1, Int32.not_le.mpr z.2⟩)]
theorem ric_eq {K : Nat → Int32} {O : Nat → Nat} {T : Nat → Int32} {M Y : Nat → Nat} {G : Nat → Int32} {n k nc : Nat} (hIv : Iv O M n k Y nc) (g g2 : Nat → Int32) : (rmR K O T M Y G nc k g2 (n + 1)).1 = nI (ricR K O T M Y G nc k g n).1 := by
  rw [ric_rm hIv g g2 n (Nat.le_refl _)]
/-! the best core -/
theorem sumM_add (M : Nat → Nat) (a d e : Nat) : sumM M a (d + e) = sumM M a d + sumM M (a + d) e := by
  induction e with
  | zero => rfl
  | succ e ih =>
    show sumM M a (d + e) + M (a + (d + e)) = sumM M a d + (sumM M (a + d) e + M (a + d + e))
    rw [ih, Nat.add_assoc a d e, Nat.add_assoc]
theorem fyb_spec {Y : Nat → Nat} {y w nc : Nat} (hinc : ∀ i j, i < j → j < nc → Y i < Y j) (d : Nat) : ∀ i, i + d = nc → (∀ j, i ≤ j → j < nc → Y j ≤ y ∨ fyb Y y w i d ≤ Y j) ∧ (fyb Y y w i d = w ∨ ∃ j, i ≤ j ∧ j < nc ∧ Y j = fyb Y y w i d) := by
  induction d with
  | zero => intro i hi; exact ⟨fun j h1 h2 => by omega, Or.inl rfl⟩
  | succ d ih =>
    intro i hi
    simp only [fyb]
    by_cases q : Y i ≤ y
    · rw [if_pos q]
      obtain ⟨a, b⟩ := ih (i + 1) (by omega)
      refine ⟨fun j h1 h2 => ?_, ?_⟩
      · by_cases e : j = i
        · subst e; exact Or.inl q
        · exact a j (by omega) h2
      · rcases b with b | ⟨j, b1, b2, b3⟩
        · exact Or.inl b
        · exact Or.inr ⟨j, by omega, b2, b3⟩
    · rw [if_neg q]
      refine ⟨fun j h1 h2 => ?_, Or.inr ⟨i, Nat.le_refl _, by omega, rfl⟩⟩
      by_cases e : j = i
      · subst e; exact Or.inr (Nat.le_refl _)
      · exact Or.inr (Nat.le_of_lt (hinc i j (by omega) h2))
theorem cost_0 (M Y : Nat → Nat) (nc y : Nat) : costM M Y nc 0 y = sumM M (fromO Y (latO Y (nI y) nc)) (y - fromO Y (latO Y (nI y) nc)) := by
  unfold costM
  rw [if_neg (by omega), Nat.zero_max]
theorem spare {O M : Nat → Nat} {n k : Nat} {Y : Nat → Nat} {nc : Nat} (hIv : Iv O M n k Y nc) {y : Nat} (hy : y ≤ n) (hcan : canP Y nc k y) (m : Nat) (hm : m ≤ n + 1) :
    allM M Y nc k y m + sumM M (fromO Y (latO Y (nI y) nc)) (y - fromO Y (latO Y (nI y) nc)) * (min m (fyb Y y (n + 1) 0 nc) - y) = allM M Y nc k 0 m := by
  obtain ⟨h1, h2, h3, h4, h5, h6, h7, h8, h9, h10⟩ := hIv
  obtain ⟨hE1, hE2⟩ := fyb_spec (y := y) (w := n + 1) h9 nc 0 (by omega)
  have hEgt := fyb_gt (Y := Y) (y := y) (w := n + 1) (by omega) nc 0
  have hFy := fr_le (nc := nc) h6 (show y ≤ 41 by omega)
  unfold canP at hcan
  generalize hE : fyb Y y (n + 1) 0 nc = E at hE1 hE2 hEgt ⊢
  generalize hF : fromO Y (latO Y (nI y) nc) = F at hFy hcan ⊢
  generalize hdA : sumM M F (y - F) = dA
  induction m with
  | zero => rw [Nat.min_eq_left (Nat.zero_le _), Nat.zero_sub, Nat.mul_zero]; rfl
  | succ m ih =>
    have ih := ih (by omega)
    by_cases c1 : m < y
    · -- ahead of the new core
      have ec : costM M Y nc y m = costM M Y nc 0 m := by rw [cost_0]; unfold costM; rw [if_pos c1]
      have ez : min (m + 1) E - y = min m E - y := by omega
      rw [ez]
      simp only [allM, ec]
      split
      · omega
      · exact ih
    · by_cases c2 : m < E
      · -- between it and the next one
        have el : latO Y (nI m) nc = latO Y (nI y) nc := by
          refine lat_congr (fun j hj => ?_)
          have hYj := h6 j
          rw [nI_lt40 (by omega) (by omega), nI_lt40 (by omega) (by omega)]
          have := hE1 j (Nat.zero_le _) hj
          omega
        have ec0 : costM M Y nc 0 m = dA + sumM M y (m - y) := by
          rw [cost_0, el, hF, show m - F = (y - F) + (m - y) by omega, sumM_add, hdA, show F + (y - F) = y by omega]
        have ecy : costM M Y nc y m = sumM M y (m - y) := by
          unfold costM
          rw [if_neg c1, el, hF, Nat.max_eq_left hFy]
        have ez : min (m + 1) E - y = (min m E - y) + 1 := by omega
        rw [ez, Nat.mul_add, Nat.mul_one]
        simp only [allM, canP, ec0, ecy, el, hF]
        by_cases q : m ≤ F ∨ ¬ F < k
        · rw [if_pos q, if_pos q]; omega
        · rw [if_neg q, if_neg q]
          have hFe : F = y := by
            rcases hcan with h | h
            · omega
            · exact absurd (Or.inr h) q
          have : dA = 0 := by rw [← hdA, hFe, Nat.sub_self]; rfl
          omega
      · -- from the next one on
        have hge : y < fromO Y (latO Y (nI m) nc) := by
          rcases hE2 with h | ⟨j, -, hj, h⟩
          · omega
          · have := fr_ge (nc := nc) h6 h9 (show m ≤ 41 by omega) hj (show Y j ≤ m by omega)
            omega
        have ec : costM M Y nc y m = costM M Y nc 0 m := by
          rw [cost_0]; unfold costM; rw [if_neg c1, Nat.max_eq_right (Nat.le_of_lt hge)]
        have ez : min (m + 1) E - y = min m E - y := by omega
        rw [ez]
        simp only [allM, ec]
        split
        · omega
        · exact ih
theorem spa_all {O M : Nat → Nat} {n k : Nat} {Y : Nat → Nat} {nc : Nat} (hIv : Iv O M n k Y nc) {y : Nat} (hy : y ≤ n) (hcan : canP Y nc k y) : allM M Y nc k y (n + 1) + spaN M Y n nc k y = allM M Y nc k 0 (n + 1) := by
  have h := spare hIv hy hcan (n + 1) (Nat.le_refl _)
  have hle : fyb Y y (n + 1) 0 nc ≤ n + 1 := by
    obtain ⟨h1, h2, h3, h4, h5, h6, h7, h8, h9, h10⟩ := hIv
    rcases (fyb_spec (y := y) (w := n + 1) h9 nc 0 (by omega)).2 with e | ⟨j, -, hj, e⟩
    · omega
    · have := (h10 j hj).2; omega
  rw [Nat.min_eq_right hle] at h
  unfold spaN
  rw [if_pos hcan]
  exact h
theorem bst_cw {O M : Nat → Nat} {n k : Nat} {Y : Nat → Nat} {nc : Nat} (hIv : Iv O M n k Y nc) (i : Nat) (hi : i ≤ n) : (cwR M Y n nc k i).1 = oI (bstO M Y n nc k (i + 1)).1 ∧ (cwR M Y n nc k i).2 + (bstO M Y n nc k (i + 1)).2 = allM M Y nc k 0 (n + 1) := by
  induction i with
  | zero =>
    have e : spaN M Y n nc k 0 = 0 := by
      unfold spaN
      rw [Nat.zero_sub, sumM, Nat.zero_mul]; split <;> rfl
    have eb : bstO M Y n nc k 1 = (none, 0) := by
      show (if spaN M Y n nc k 0 ≤ 0 then (none, 0) else (some 0, spaN M Y n nc k 0)) = _
      rw [if_pos (by omega)]
    rw [eb]
    exact ⟨rfl, rfl⟩
  | succ i ih =>
    obtain ⟨i1, i2⟩ := ih (by omega)
    rw [cwR, bstO]
    by_cases c : canP Y nc k (i + 1)
    · have hs := spa_all hIv hi c
      by_cases q : allM M Y nc k (i + 1) (n + 1) < (cwR M Y n nc k i).2
      · rw [if_pos ⟨c, q⟩, if_neg (by omega)]
        exact ⟨rfl, hs⟩
      · rw [if_neg (fun z => q z.2), if_pos (by omega)]
        exact ⟨i1, i2⟩
    · have e : spaN M Y n nc k (i + 1) = 0 := by unfold spaN; rw [if_neg c]
      rw [if_neg (fun z => c z.1), if_pos (by omega)]
      exact ⟨i1, i2⟩
theorem cw_eq {O M : Nat → Nat} {n k : Nat} {Y : Nat → Nat} {nc : Nat} (hIv : Iv O M n k Y nc) : (cwR M Y n nc k n).1 = oI (bstO M Y n nc k (n + 1)).1 := (bst_cw hIv n (Nat.le_refl _)).1

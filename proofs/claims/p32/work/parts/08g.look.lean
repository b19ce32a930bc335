/-! 08g: what the looks at the glacier find -/
theorem sum_bnd {f : Nat → Int32} (m : Nat) (hm : m ≤ 8) (h : ∀ j, j < m → bnd 999 (f j)) : bnd (999 * m) (sumZ f m) := by
  induction m with
  | zero => exact ⟨0, Nat.le_refl _, rfl⟩
  | succ m ih =>
    obtain ⟨a, ha, ea⟩ := ih (by omega) (fun j hj => h j (by omega))
    obtain ⟨b, hb, eb⟩ := h m (by omega)
    exact ⟨a + b, by omega, by rw [sumZ, ea, eb, nI_add]⟩
theorem bnd_ge {m : Nat} {x : Int32} (hm : m < 2147483648) (h : bnd m x) : ¬ x < 0 := by
  obtain ⟨a, ha, rfl⟩ := h
  exact nI_pos (by omega)
theorem bnd_le {m : Nat} {x : Int32} (hm : m < 2147483648) (h : bnd m x) : x ≤ nI m := by
  obtain ⟨a, ha, rfl⟩ := h
  exact nI_le ha hm
theorem thk_lt8 (f : Nat → Int32) : thkF f 8 < 8 := by
  have h := thk_le f 7
  show (if f 7 ≤ f (thkF f 7) then thkF f 7 else 7) < 8
  split <;> omega
theorem thk_spec (f : Nat → Int32) (i : Nat) : ∀ j, j < i → f j ≤ f (thkF f i) ∧ (j < thkF f i → f j < f (thkF f i)) := by
  induction i with
  | zero => intro j hj; omega
  | succ i ih =>
    intro j hj
    have ht := thk_le f i
    simp only [thkF]
    by_cases h : f i ≤ f (thkF f i)
    · rw [if_pos h]
      by_cases e : j = i
      · subst e; exact ⟨h, fun q => by omega⟩
      · exact ih j (by omega)
    · rw [if_neg h]
      have hlt := Int32.not_le.mp h
      by_cases e : j = i
      · subst e; exact ⟨Int32.le_refl _, fun q => by omega⟩
      · have h1 := (ih j (by omega)).1
        have h2 := Int32.lt_of_le_of_lt h1 hlt
        exact ⟨Int32.le_of_lt h2, fun _ => h2⟩
def thR (f : Nat → Int32) : Nat → Nat
  | 0 => 7
  | i + 1 => if f (7 - i) < f (thR f i) then thR f i else 7 - i
theorem thR_spec (f : Nat → Int32) (i : Nat) (hi : i ≤ 8) : thR f i < 8 ∧ (1 ≤ i → 8 - i ≤ thR f i) ∧ ∀ j, 8 - i ≤ j → j < 8 → f j ≤ f (thR f i) ∧ (j < thR f i → f j < f (thR f i)) := by
  induction i with
  | zero => exact ⟨(show 7 < 8 by decide), by omega, fun j h1 h2 => by omega⟩
  | succ i ih =>
    obtain ⟨h1, h2, h3⟩ := ih (by omega)
    simp only [thR]
    by_cases h : f (7 - i) < f (thR f i)
    · rw [if_pos h]
      have hi1 : 1 ≤ i := by
        by_cases e : i = 0
        · subst e; exact absurd h (Int32.lt_irrefl)
        · omega
      refine ⟨h1, fun _ => by have := h2 hi1; omega, fun j h4 h5 => ?_⟩
      by_cases e : j = 7 - i
      · subst e; exact ⟨Int32.le_of_lt h, fun _ => h⟩
      · exact h3 j (by omega) h5
    · rw [if_neg h]
      have hge := Int32.not_lt.mp h
      refine ⟨by omega, fun _ => by omega, fun j h4 h5 => ?_⟩
      by_cases e : j = 7 - i
      · subst e; exact ⟨Int32.le_refl _, fun q => by omega⟩
      · exact ⟨Int32.le_trans (h3 j (by omega) h5).1 hge, fun q => by omega⟩
theorem thR_thk (f : Nat → Int32) : thkF f 8 = thR f 8 := by
  obtain ⟨h1, -, h3⟩ := thR_spec f 8 (Nat.le_refl _)
  have h4 := thk_spec f 8
  have h5 := thk_lt8 f
  rcases Nat.lt_trichotomy (thkF f 8) (thR f 8) with q | q | q
  · exact absurd (Int32.lt_of_lt_of_le ((h3 _ (by omega) h5).2 q) (h4 _ h1).1) Int32.lt_irrefl
  · exact q
  · exact absurd (Int32.lt_of_lt_of_le ((h4 _ h1).2 q) (h3 _ (by omega) h5).1) Int32.lt_irrefl
/-! what an act changed -/
def chN (f0 f : Nat → Int32) : Nat → Nat
  | 0 => 0
  | i + 1 => if f i = f0 i then chN f0 f i else chN f0 f i + 1
def fiN (f0 f : Nat → Int32) : Nat → Nat
  | 0 => 9
  | i + 1 => if f i = f0 i then fiN f0 f i else min (fiN f0 f i) i
def laN (f0 f : Nat → Int32) : Nat → Int32
  | 0 => (-1)
  | i + 1 => if f i = f0 i then laN f0 f i else nI i
theorem chN_le (f0 f : Nat → Int32) (i : Nat) : chN f0 f i ≤ i := by
  induction i with
  | zero => exact Nat.le_refl _
  | succ i ih => simp only [chN]; split <;> omega
theorem fiN_le (f0 f : Nat → Int32) (i : Nat) : fiN f0 f i ≤ 9 := by
  induction i with
  | zero => exact Nat.le_refl _
  | succ i ih => simp only [fiN]; split <;> omega
theorem ch_one {f0 f : Nat → Int32} {o : Nat} (h : ∀ j, j < 8 → j ≠ o → f j = f0 j) (i : Nat) (hi : i ≤ 8) : chN f0 f i ≤ if o < i then 1 else 0 := by
  induction i with
  | zero => exact Nat.zero_le _
  | succ i ih =>
    have ih := ih (by omega)
    simp only [chN]
    by_cases e : i = o
    · subst e
      rw [if_neg (Nat.lt_irrefl _)] at ih
      rw [if_pos (Nat.lt_succ_self _)]
      split <;> omega
    · rw [if_pos (h i (by omega) e)]
      by_cases q : o < i
      · rw [if_pos q] at ih; rw [if_pos (by omega)]; exact ih
      · rw [if_neg q] at ih; omega
theorem ch_two {f0 f : Nat → Int32} {o : Nat} (h : ∀ j, j < 8 → j ≠ o → j ≠ o + 1 → f j = f0 j) (i : Nat) (hi : i ≤ 8) : chN f0 f i ≤ 2 ∧ (i ≤ o → chN f0 f i = 0) ∧ (i ≤ o + 1 → chN f0 f i ≤ 1) := by
  induction i with
  | zero => exact ⟨by simp [chN], fun _ => rfl, by simp [chN]⟩
  | succ i ih =>
    obtain ⟨h1, h2, h3⟩ := ih (by omega)
    simp only [chN]
    by_cases e : i = o
    · subst e
      have := h2 (Nat.le_refl _)
      split
      · exact ⟨h1, fun q => by omega, fun q => by omega⟩
      · exact ⟨by omega, fun q => by omega, fun q => by omega⟩
    · by_cases e2 : i = o + 1
      · subst e2
        have := h3 (Nat.le_refl _)
        split
        · exact ⟨h1, fun q => by omega, fun q => by omega⟩
        · exact ⟨by omega, fun q => by omega, fun q => by omega⟩
      · rw [if_pos (h i (by omega) e e2)]
        exact ⟨h1, fun q => h2 (by omega), fun q => h3 (by omega)⟩
theorem ch_both {f0 f : Nat → Int32} {o : Nat} (ho : o < 7) (h : ∀ j, j < 8 → j ≠ o → j ≠ o + 1 → f j = f0 j) (h8 : chN f0 f 8 = 2) : ¬ f o = f0 o ∧ ¬ f (o + 1) = f0 (o + 1) := by
  refine ⟨fun q => ?_, fun q => ?_⟩
  · have := ch_one (f0 := f0) (f := f) (o := o + 1) (fun j hj hne => by
      by_cases e : j = o
      · subst e; exact q
      · exact h j hj e hne) 8 (Nat.le_refl _)
    split at this <;> omega
  · have := ch_one (f0 := f0) (f := f) (o := o) (fun j hj hne => by
      by_cases e : j = o + 1
      · subst e; exact q
      · exact h j hj hne e) 8 (Nat.le_refl _)
    split at this <;> omega
theorem fi_two {f0 f : Nat → Int32} {o : Nat} (ho : o < 7) (h : ∀ j, j < 8 → j ≠ o → j ≠ o + 1 → f j = f0 j) (h1 : ¬ f o = f0 o) (h2 : ¬ f (o + 1) = f0 (o + 1)) (i : Nat) (hi : i ≤ 8) : (i ≤ o → fiN f0 f i = 9) ∧ (o < i → fiN f0 f i = o) ∧ (o + 1 < i → laN f0 f i = nI (o + 1)) := by
  induction i with
  | zero => exact ⟨fun _ => rfl, fun q => by omega, fun q => by omega⟩
  | succ i ih =>
    obtain ⟨h3, h4, h5⟩ := ih (by omega)
    simp only [fiN, laN]
    by_cases e : i = o
    · subst e
      rw [if_neg h1, h3 (Nat.le_refl _)]
      exact ⟨fun q => by omega, fun _ => by omega, fun q => by omega⟩
    · by_cases e2 : i = o + 1
      · subst e2
        rw [if_neg h2, if_neg h2, h4 (by omega)]
        exact ⟨fun q => by omega, fun _ => by omega, fun _ => rfl⟩
      · rw [if_pos (h i (by omega) e e2), if_pos (h i (by omega) e e2)]
        exact ⟨fun q => h3 (by omega), fun q => h4 (by omega), fun q => h5 (by omega)⟩
theorem ch_spec {f0 f : Nat → Int32} (h : StpG f0 f) : chN f0 f 8 ≤ 2 ∧ (chN f0 f 8 = 2 → fiN f0 f 8 < 7 ∧ laN f0 f 8 = nI (fiN f0 f 8 + 1) ∧ f (fiN f0 f 8) - f0 (fiN f0 f 8) = f0 (fiN f0 f 8 + 1) - f (fiN f0 f 8 + 1) ∧ f (fiN f0 f 8) ≤ f0 (fiN f0 f 8)) := by
  rcases h with ⟨o, v, ho, hg⟩ | ⟨o, a, b, d, ho, ea, eb, ha, hb, hd, hg⟩
  · have h1 := ch_one (f0 := f0) (f := f) (o := o) (fun j hj hne => by rw [hg j hj, pk_un hne]) 8 (Nat.le_refl _)
    have h2 : chN f0 f 8 ≤ 1 := by split at h1 <;> omega
    exact ⟨by omega, fun q => by omega⟩
  · have hh : ∀ j, j < 8 → j ≠ o → j ≠ o + 1 → f j = f0 j := fun j hj n1 n2 => by rw [hg j hj]; unfold flF; rw [pk_un n1, pk_un n2]
    refine ⟨(ch_two hh 8 (Nat.le_refl _)).1, fun h8 => ?_⟩
    obtain ⟨n1, n2⟩ := ch_both ho hh h8
    obtain ⟨-, e1, e2⟩ := fi_two ho hh n1 n2 8 (Nat.le_refl _)
    have e1 := e1 (by omega)
    have e2 := e2 (by omega)
    have f1 : f o = nI (a - d) := by rw [hg o (by omega), flF_a]
    have f2 : f (o + 1) = nI (b + d) := by rw [hg (o + 1) (by omega), flF_b]
    rw [e1, e2]
    refine ⟨ho, rfl, ?_, ?_⟩
    · rw [f1, f2, ea, eb, ← Int32.toInt_inj, pk_sub_toInt (by omega) (by omega), pk_sub_toInt (by omega) (by omega)]
      omega
    · rw [f1, ea]
      exact nI_le (by omega) (by omega)
/-! the first false layer -/
theorem fst_is {P : Nat → Bool} {d i j : Nat} (h : fstO P i d = some j) : i ≤ j ∧ j < i + d ∧ P j = true ∧ ∀ z, i ≤ z → z < j → P z = false := by
  induction d generalizing i with
  | zero => cases h
  | succ d ih =>
    rw [fstO] at h
    by_cases q : P i = true
    · rw [if_pos q] at h
      cases h
      exact ⟨Nat.le_refl _, by omega, q, fun z h1 h2 => by omega⟩
    · rw [if_neg q] at h
      obtain ⟨h1, h2, h3, h4⟩ := ih h
      refine ⟨by omega, by omega, h3, fun z h5 h6 => ?_⟩
      by_cases e : z = i
      · subst e; cases hz : P z
        · rfl
        · exact absurd hz q
      · exact h4 z (by omega) h6
theorem fst_no {P : Nat → Bool} {d i : Nat} (h : fstO P i d = none) : ∀ j, i ≤ j → j < i + d → P j = false := by
  induction d generalizing i with
  | zero => intro j h1 h2; omega
  | succ d ih =>
    rw [fstO] at h
    intro j h1 h2
    by_cases q : P i = true
    · rw [if_pos q] at h; cases h
    · rw [if_neg q] at h
      by_cases e : j = i
      · subst e; cases hz : P j
        · rfl
        · exact absurd hz q
      · exact ih h j (by omega) (by omega)
theorem fst_le {P : Nat → Bool} {n l : Nat} (hn : n ≤ 40) (hl : l < n) (hP : P l = true) : oI (fstO P 0 n) ≤ nI l := by
  cases h : fstO P 0 n with
  | none => have := fst_no h l (Nat.zero_le _) (by omega); rw [hP] at this; cases this
  | some j =>
    obtain ⟨-, h2, h3, h4⟩ := fst_is h
    show nI j ≤ nI l
    refine nI_le ?_ (by omega)
    rcases Nat.lt_or_ge l j with q | q
    · have := h4 l (Nat.zero_le _) q; rw [hP] at this; cases this
    · exact q
def anyB (P : Nat → Bool) : Nat → Bool
  | 0 => false
  | i + 1 => anyB P i || P i
theorem any_no {P : Nat → Bool} {n : Nat} (h : ∀ j, j < n → P j = false) : anyB P n = false := by
  induction n with
  | zero => rfl
  | succ n ih => rw [anyB, ih (fun j hj => h j (by omega)), h n (by omega)]; rfl
theorem any_is {P : Nat → Bool} {n j : Nat} (hj : j < n) (hP : P j = true) : anyB P n = true := by
  induction n with
  | zero => omega
  | succ n ih =>
    rw [anyB]
    by_cases e : j = n
    · subst e; rw [hP]; exact Bool.or_true _
    · rw [ih (by omega)]; rfl
def bI (b : Bool) : Int32 := if b = true then nI 1 else nI 0
/-! cores, replays -/
theorem lat_self {Y : Nat → Nat} {nc c : Nat} (hY : ∀ i, Y i ≤ 40) (hinc : ∀ i j, i < j → j < nc → Y i < Y j) (hc : c < nc) : latO Y (nI (Y c)) nc = some c := by
  have hYc := hY c
  cases h : latO Y (nI (Y c)) nc with
  | none => exact absurd (lat_none h c hc) Int32.lt_irrefl
  | some j =>
    obtain ⟨h1, h2, h3⟩ := lat_some h
    have hYj := hY j
    rw [nI_lt40 (by omega) (by omega)] at h2
    rcases Nat.lt_trichotomy j c with q | q | q
    · exact absurd (h3 c q hc) Int32.lt_irrefl
    · rw [q]
    · exact absurd (hinc c j q h1) h2
theorem can_core {Y : Nat → Nat} {nc k c : Nat} (hY : ∀ i, Y i ≤ 40) (hinc : ∀ i j, i < j → j < nc → Y i < Y j) (hc : c < nc) : canP Y nc k (Y c) := by
  unfold canP
  rw [lat_self hY hinc hc]
  exact Or.inl (Nat.le_refl _)
theorem cost_core {M Y : Nat → Nat} {nc c : Nat} (hY : ∀ i, Y i ≤ 40) (hinc : ∀ i j, i < j → j < nc → Y i < Y j) (hc : c < nc) : sumM M (fromO Y (latO Y (nI (Y c)) nc)) (Y c - fromO Y (latO Y (nI (Y c)) nc)) = 0 := by
  rw [lat_self hY hinc hc]
  show sumM M (Y c) (Y c - Y c) = 0
  rw [Nat.sub_self]; rfl
theorem lat_zero {Y : Nat → Nat} {nc : Nat} (hY : ∀ i, Y i ≤ 40) (hYn : ∀ j, j < nc → 1 ≤ Y j) : latO Y (nI 0) nc = none := by
  cases h : latO Y (nI 0) nc with
  | none => rfl
  | some j =>
    obtain ⟨h1, h2, -⟩ := lat_some h
    have := hYn j h1
    have := hY j
    rw [nI_lt40 (by omega) (by omega)] at h2
    omega
theorem ric_can {K : Nat → Int32} {O : Nat → Nat} {T : Nat → Int32} {M Y : Nat → Nat} {G : Nat → Int32} {nc k : Nat} {g : Nat → Int32} (i : Nat) : (ricR K O T M Y G nc k g i).1 ≤ i ∧ canP Y nc k (ricR K O T M Y G nc k g i).1 := by
  induction i with
  | zero => exact ⟨Nat.le_refl _, Or.inl (Nat.zero_le _)⟩
  | succ i ih =>
    simp only [ricR]
    split
    · rename_i h; exact ⟨Nat.le_refl _, h.1⟩
    · exact ⟨Nat.le_succ_of_le ih.1, ih.2⟩
theorem bst_can {M Y : Nat → Nat} {n nc k : Nat} (i : Nat) (y : Nat) (h : (bstO M Y n nc k i).1 = some y) : y < i ∧ canP Y nc k y := by
  induction i with
  | zero => cases h
  | succ i ih =>
    simp only [bstO] at h
    by_cases q : spaN M Y n nc k i ≤ (bstO M Y n nc k i).2
    · rw [if_pos q] at h
      have := ih h
      exact ⟨by omega, this.2⟩
    · rw [if_neg q] at h
      cases h
      refine ⟨Nat.lt_succ_self _, ?_⟩
      by_cases c : canP Y nc k y
      · exact c
      · exact absurd (by unfold spaN; rw [if_neg c]; exact Nat.zero_le _) q
theorem repl_now {f K : Nat → Int32} {O : Nat → Nat} {T : Nat → Int32} {M : Nat → Nat} {Z : Nat → Int32} {n k : Nat} {Y : Nat → Nat} {G : Nat → Int32} {nc : Nat} {wf : Int32} (h : Jv f K O T M Z n k Y G nc wf) (hw : wf = 0) (hm : M n = 0) (hcan : canP Y nc k n) (g : Nat → Int32) : agr (replG K O T M Y G nc g n) f := by
  obtain ⟨hIv, -, -, -, -, -, -, hTr⟩ := h
  have hn : n ≤ 40 := hIv.1
  have hO : ∀ i, O i < 8 := hIv.2.2.2.2.1
  have hY : ∀ i, Y i ≤ 40 := hIv.2.2.2.2.2.1
  obtain ⟨B, h1, h2, h3, h4⟩ := hTr hw
  rw [hm] at h3
  have h3 : agr f (B n) := h3
  have hfr := fr_le (nc := nc) hY (show n ≤ 41 by omega)
  have base : agr (startG G g (latO Y (nI n) nc)) (B (fromO Y (latO Y (nI n) nc))) := by
    cases hl : latO Y (nI n) nc with
    | none =>
      intro j hj
      show clrN g 8 j = B 0 j
      rw [clr_eq, if_pos hj, h1 j hj]
    | some c =>
      intro j hj
      show pbN G c g 8 j = B (Y c) j
      rw [pb_eq, if_pos hj]
      exact h4 c (lat_some hl).1 j hj
  have key : ∀ d, fromO Y (latO Y (nI n) nc) + d ≤ n → agr (againL K O T M (fromO Y (latO Y (nI n) nc)) (startG G g (latO Y (nI n) nc)) d) (B (fromO Y (latO Y (nI n) nc) + d)) := by
    intro d
    induction d with
    | zero => intro _; exact base
    | succ d ih =>
      intro hd
      have ih := ih (by omega)
      rw [againL]
      refine agr_tr (agr_again hO ih _ _) (agr_sym (h2 (fromO Y (latO Y (nI n) nc) + d) (by omega) ?_))
      rcases hcan with c | c
      · omega
      · omega
  have e := key (n - fromO Y (latO Y (nI n) nc)) (by omega)
  rw [show fromO Y (latO Y (nI n) nc) + (n - fromO Y (latO Y (nI n) nc)) = n by omega] at e
  exact agr_tr e (agr_sym h3)
theorem b2i_eq {P Q : Prop} {dP : Decidable P} {dQ : Decidable Q} (h : P ↔ Q) : b2i P = b2i Q := by
  unfold b2i
  by_cases q : P
  · rw [if_pos q, if_pos (h.mp q)]
  · rw [if_neg q, if_neg (fun z => q (h.mpr z))]

/-! 06d: what the other glacier's rows hold -/
def rF (a : Nat → Nat) : Nat → Option Nat := fun i => some (a i)
def qZ : Nat → Option Nat := fun _ => none
theorem m1_inc {n : Nat} : nI (n + 1) + Int32.ofInt (-1) = nI n := by
  rw [show Int32.ofInt (-1) = (-1 : Int32) from by decide]
  exact pk_m1 n
theorem dn_dec (r : Nat) : nI r + Int32.ofInt (-1) = dn r := by
  rw [show Int32.ofInt (-1) = (-1 : Int32) from by decide]
  exact dn_inc r
def cpF (f : Nat → Int32) (i : Nat) : Nat → Int32 := fun j => if j < i then f j else 0
theorem cpF_0 (f : Nat → Int32) : zF = cpF f 0 := by
  funext j
  show (0 : Int32) = if j < 0 then f j else 0
  rw [if_neg (Nat.not_lt_zero j)]
theorem cpF_s (f : Nat → Int32) (i : Nat) : upd (cpF f i) i (f i) = cpF f (i + 1) := by
  funext j
  simp only [upd, cpF]
  by_cases h : j = i
  · subst h; rw [if_pos rfl, if_pos (Nat.lt_succ_self _)]
  · rw [if_neg h]
    by_cases h2 : j < i
    · rw [if_pos h2, if_pos (by omega)]
    · rw [if_neg h2, if_neg (by omega)]
def cpQ (a : Nat → Nat) (i : Nat) : Nat → Option Nat := fun j => if j < i then some (a j) else none
theorem cpQ_0 (a : Nat → Nat) : (fun _ => none) = cpQ a 0 := by
  funext j
  show none = if j < 0 then some (a j) else none
  rw [if_neg (Nat.not_lt_zero j)]
theorem cpQ_s (a : Nat → Nat) {i v : Nat} (h9 : a i = v) : va_up (cpQ a i) i (some v) = cpQ a (i + 1) := by
  subst h9
  funext j
  simp only [va_up, cpQ]
  by_cases h : j = i
  · subst h; rw [if_pos rfl, if_pos (Nat.lt_succ_self _)]
  · rw [if_neg h]
    by_cases h2 : j < i
    · rw [if_pos h2, if_pos (by omega)]
    · rw [if_neg h2, if_neg (by omega)]
theorem cpQ_end (a : Nat → Nat) (n v : Nat) (i : Nat) (hi : i < n + 1) : va_up (cpQ a n) n (some v) i = rF (upN a n v) i := by
  simp only [va_up, cpQ, rF, upN]
  by_cases h : i = n
  · rw [if_pos h, if_pos h]
  · rw [if_neg h, if_neg h, if_pos (by omega)]
theorem cpQ_lt (a : Nat → Nat) (n : Nat) (i : Nat) (hi : i < n) : cpQ a n i = rF a i := by
  simp only [cpQ, rF]
  rw [if_pos hi]
/-- the rows' addresses with the one at j left out -/
def shA (a : Nat → Nat) (j : Nat) : Nat → Nat := fun i => if i < j then a i else a (i + 1)
def wF (f : Nat → Int32) (L : Nat) (a b c : Int32) : Nat → Int32 := upd (upd (upd (cpF f L) L a) (L + 1) b) (L + 2) c
/-- a year's deeds as one row -/
def q3 (K : Nat → Int32) (O : Nat → Nat) (T : Nat → Int32) (n i : Nat) : Int32 :=
  if i % 3 = 0 then K (n * 12 + i / 3) else if i % 3 = 1 then nI (O (n * 12 + i / 3)) else T (n * 12 + i / 3)
theorem q3_0 (K : Nat → Int32) (O : Nat → Nat) (T : Nat → Int32) (n d : Nat) : q3 K O T n (3 * d) = K (n * 12 + d) := by
  unfold q3; rw [if_pos (by omega), show 3 * d / 3 = d by omega]
theorem q3_1 (K : Nat → Int32) (O : Nat → Nat) (T : Nat → Int32) (n d : Nat) : q3 K O T n (3 * d + 1) = nI (O (n * 12 + d)) := by
  unfold q3; rw [if_neg (by omega), if_pos (by omega), show (3 * d + 1) / 3 = d by omega]
theorem q3_2 (K : Nat → Int32) (O : Nat → Nat) (T : Nat → Int32) (n d : Nat) : q3 K O T n (3 * d + 2) = T (n * 12 + d) := by
  unfold q3; rw [if_neg (by omega), if_neg (by omega), show (3 * d + 2) / 3 = d by omega]
theorem q3_note {K : Nat → Int32} {O : Nat → Nat} {T : Nat → Int32} {n s kd tw : Int32} {N m o : Nat} (i : Nat) (hi : i < 3 * m + 3) :
    wF (q3 K O T N) (3 * m) kd (nI o) tw i = q3 (upd K (N * 12 + m) kd) (upN O (N * 12 + m) o) (upd T (N * 12 + m) tw) N i := by
  simp only [wF, upd, cpF]
  by_cases h2 : i = 3 * m + 2
  · subst h2; rw [if_pos rfl, q3_2, pk_us]
  · rw [if_neg h2]
    by_cases h1 : i = 3 * m + 1
    · subst h1; rw [if_pos rfl, q3_1]; simp only [upN, if_pos]
    · rw [if_neg h1]
      by_cases h0 : i = 3 * m
      · subst h0; rw [if_pos rfl, q3_0, pk_us]
      · rw [if_neg h0, if_pos (by omega)]
        have e : ¬ N * 12 + i / 3 = N * 12 + m := by omega
        simp only [q3, upN, upd, if_neg e]
/-- a layer as the other glacier keeps it: seal, whether compacted, deeds -/
def rwF (K : Nat → Int32) (O : Nat → Nat) (T : Nat → Int32) (Z : Nat → Int32) (k l i : Nat) : Int32 :=
  if i = 0 then Z l else if i = 1 then b2i (l < k) else q3 K O T l (i - 2)
def nL (M : Nat → Nat) : Nat → Nat := fun l => 2 + 3 * M l
def n9 : Nat → Nat := fun _ => 9
/-- a core as the other glacier keeps it: year, ice -/
def crF (Y : Nat → Nat) (G : Nat → Int32) (c i : Nat) : Int32 := if i = 0 then nI (Y c) else G (c * 8 + (i - 1))
theorem q3_r0 {K : Nat → Int32} {O : Nat → Nat} {T : Nat → Int32} {j m d : Nat} {F : Nat → Int32} (h : ∀ i, i < 3 * m → F (i + 2) = q3 K O T j i) (hd : d < m) : F (2 + 3 * d) = K (j * 12 + d) := by
  rw [show 2 + 3 * d = 3 * d + 2 by omega, h _ (by omega), q3_0]
theorem q3_r1 {K : Nat → Int32} {O : Nat → Nat} {T : Nat → Int32} {j m d : Nat} {F : Nat → Int32} (h : ∀ i, i < 3 * m → F (i + 2) = q3 K O T j i) (hd : d < m) : F (2 + 3 * d + 1) = nI (O (j * 12 + d)) := by
  rw [show 2 + 3 * d + 1 = (3 * d + 1) + 2 by omega, h _ (by omega), q3_1]
theorem q3_r2 {K : Nat → Int32} {O : Nat → Nat} {T : Nat → Int32} {j m d : Nat} {F : Nat → Int32} (h : ∀ i, i < 3 * m → F (i + 2) = q3 K O T j i) (hd : d < m) : F (2 + 3 * d + 2) = T (j * 12 + d) := by
  rw [show 2 + 3 * d + 2 = (3 * d + 2) + 2 by omega, h _ (by omega), q3_2]
theorem rwF_2 (K : Nat → Int32) (O : Nat → Nat) (T : Nat → Int32) (Z : Nat → Int32) (k l i : Nat) : rwF K O T Z k l (i + 2) = q3 K O T l i := by
  unfold rwF; rw [if_neg (by omega), if_neg (by omega), Nat.add_sub_cancel]
theorem rwF_0 (K : Nat → Int32) (O : Nat → Nat) (T : Nat → Int32) (Z : Nat → Int32) (k l : Nat) : rwF K O T Z k l 0 = Z l := rfl
theorem rwF_1 (K : Nat → Int32) (O : Nat → Nat) (T : Nat → Int32) (Z : Nat → Int32) (k l : Nat) : rwF K O T Z k l 1 = b2i (l < k) := rfl
/-! deeds on the ice -/
theorem k_minL {a b : Nat} (ha : a < 2147483648) (hb : b < 2147483648) : jmin (nI a) (nI b) = nI (min a b) := by
  unfold jmin
  by_cases h : b < a
  · rw [if_pos ((nI_ltI hb ha).mpr h), Nat.min_eq_right (by omega)]
  · rw [if_neg (fun q => h ((nI_ltI hb ha).mp q)), Nat.min_eq_left (by omega)]
theorem k_maxS {a b : Nat} (ha : a < 1000) (hb : b < 1000) : jmax (nI 0) (nI a - nI b) = nI (a - b) := by
  by_cases h : b ≤ a
  · rw [pk_sub h, k_maxN (by decide) (by omega), Nat.zero_max]
  · unfold jmax
    have h1 : nI a - nI b < 0 := pk_sneg (by omega) (by omega)
    rw [if_neg (fun q => ?_), show a - b = 0 by omega]
    exact Int32.lt_irrefl (Int32.lt_trans q h1)
theorem work0 {f : Nat → Int32} {o a tw : Nat} (hf : f o = nI a) (ha : a ≤ 999) (ht : tw ≤ 99) : upd f o (f o + jmin (nI tw) (nI 999 - f o)) = perf f (nI 0) o (nI tw) := by
  unfold perf
  rw [if_neg (by decide), hf, pk_sub (by omega), k_minL (by omega) (by omega), nI_add, nI_add, k_minL (by decide) (by omega)]
  congr 2
  omega
theorem work1 {f : Nat → Int32} {o a tw : Nat} (hf : f o = nI a) (ha : a ≤ 999) (ht : tw ≤ 99) : upd f o (f o - jmin (nI tw) (f o)) = perf f (nI 1) o (nI tw) := by
  unfold perf
  rw [if_pos (by decide), if_neg (by decide), hf, k_minL (by omega) (by omega), pk_sub (by omega), k_maxS (by omega) (by omega)]
  congr 2
  omega
theorem perf2 (f : Nat → Int32) (o : Nat) (tw : Int32) : perf f (nI 2) o tw = slideF f o := by
  unfold perf
  rw [if_pos (by decide), if_pos (by decide)]
theorem work7 {f : Nat → Int32} {a : Nat} (hf : f 7 = nI a) (ha : a ≤ 999) : upd f 7 (nI (a - a / 10)) = perf f (nI 2) 7 (nI 0) := by
  rw [perf2]
  unfold slideF
  rw [if_neg (by decide), hf, pk_div (by omega) (by decide) (by decide), pk_sub (by omega)]
/-- d ices have gone over -/
def flF (f : Nat → Int32) (o a b d : Nat) : Nat → Int32 := upd (upd f (o + 1) (nI (b + d))) o (nI (a - d))
theorem flF_a (f : Nat → Int32) (o a b d : Nat) : flF f o a b d o = nI (a - d) := pk_us
theorem flF_b (f : Nat → Int32) (o a b d : Nat) : flF f o a b d (o + 1) = nI (b + d) := by
  unfold flF; rw [pk_un (by omega), pk_us]
theorem flF_b2 (f : Nat → Int32) (o a b d : Nat) (v : Int32) : upd (flF f o a b d) o v (o + 1) = nI (b + d) := by
  rw [pk_un (by omega), flF_b]
theorem flF_0 {f : Nat → Int32} {o a b : Nat} (ha : f o = nI a) (hb : f (o + 1) = nI b) : f = flF f o a b 0 := by
  funext j
  simp only [flF, upd]
  by_cases h : j = o
  · subst h; rw [if_pos rfl, ha]; rfl
  · rw [if_neg h]
    by_cases h2 : j = o + 1
    · subst h2; rw [if_pos rfl, hb]; rfl
    · rw [if_neg h2]
theorem flF_s (f : Nat → Int32) (o a b d : Nat) : upd (upd (flF f o a b d) o (nI (a - d - 1))) (o + 1) (nI (b + d + 1)) = flF f o a b (d + 1) := by
  funext j
  simp only [flF, upd]
  by_cases h : j = o
  · subst h; rw [if_neg (by omega), if_pos rfl, if_pos rfl]; rfl
  · by_cases h2 : j = o + 1
    · subst h2; rw [if_pos rfl, if_neg h, if_pos rfl]; rfl
    · simp only [if_neg h, if_neg h2]
theorem work2 {f : Nat → Int32} {o a b d : Nat} (ha : f o = nI a) (hb : f (o + 1) = nI b) (h1 : a ≤ 999) (h2 : b ≤ 999) (ho : o < 7) (hd : d = min (a / 10) (999 - b)) : flF f o a b d = perf f (nI 2) o (nI 0) := by
  subst hd
  rw [perf2]
  unfold slideF
  have e1 : jmin (f o / nI 10) (nI 999 - f (o + 1)) = nI (min (a / 10) (999 - b)) := by
    rw [ha, hb, pk_div (by omega) (by decide) (by decide), pk_sub (by omega), k_minL (by omega) (by omega)]
  rw [if_pos (by omega), e1, pk_un (show o ≠ o + 1 by omega), ha, hb, nI_add, pk_sub (by omega)]
  rfl

/-! 08h: the mean, in doubles, number by number -/
def c8 : UInt64 := 4620693217682128896
def mnB (n : Nat) : Bool :=
  decide (FP.ddiv (FP.i2d (nI n)) 4620693217682128896 &&& 0x7fffffffffffffff ≤ 0x7ff0000000000000) && (decide (FP.dmul (FP.ddiv (FP.i2d (nI n)) 4620693217682128896) 4620693217682128896 &&& 0x7fffffffffffffff ≤ 0x7ff0000000000000) &&
  (decide (Op.cmpValue (FP.dcmp (FP.dmul (FP.ddiv (FP.i2d (nI n)) 4620693217682128896) 4620693217682128896) (FP.i2d (nI n))) .l = 0) && decide (Op.cmpValue (FP.dcmp (FP.ddiv (FP.i2d (nI n)) 4620693217682128896) (FP.ddiv (FP.i2d (nI n)) 4620693217682128896)) .l = 0)))
def allF (P : Nat → Bool) : Nat → Nat → Bool
  | 0, a => P a
  | k + 1, a => allF P k a && allF P k (a + 2 ^ k)
theorem allF_spec (P : Nat → Bool) (k : Nat) : ∀ a, allF P k a = true → ∀ n, a ≤ n → n < a + 2 ^ k → P n = true := by
  induction k with
  | zero =>
    intro a h n h1 h2
    have : n = a := by omega
    subst this; exact h
  | succ k ih =>
    intro a h n h1 h2
    rw [allF, Bool.and_eq_true] at h
    rw [Nat.pow_succ] at h2
    rcases Nat.lt_or_ge n (a + 2 ^ k) with q | q
    · exact ih a h.1 n h1 q
    · exact ih (a + 2 ^ k) h.2 n q (by omega)
set_option maxRecDepth 100000 in
theorem mn_a : allF mnB 10 0 = true := by decide +kernel
set_option maxRecDepth 100000 in
theorem mn_b : allF mnB 10 1024 = true := by decide +kernel
set_option maxRecDepth 100000 in
theorem mn_c : allF mnB 10 2048 = true := by decide +kernel
set_option maxRecDepth 100000 in
theorem mn_d : allF mnB 10 3072 = true := by decide +kernel
set_option maxRecDepth 100000 in
theorem mn_e : allF mnB 10 4096 = true := by decide +kernel
set_option maxRecDepth 100000 in
theorem mn_f : allF mnB 10 5120 = true := by decide +kernel
set_option maxRecDepth 100000 in
theorem mn_g : allF mnB 10 6144 = true := by decide +kernel
set_option maxRecDepth 100000 in
theorem mn_h : allF mnB 10 7168 = true := by decide +kernel
theorem mn_all (n : Nat) (h : n < 8192) : mnB n = true := by
  have p : (2 : Nat) ^ 10 = 1024 := by decide
  rcases Nat.lt_or_ge n 4096 with q | q
  · rcases Nat.lt_or_ge n 2048 with q2 | q2
    · rcases Nat.lt_or_ge n 1024 with q3 | q3
      · exact allF_spec _ _ _ mn_a n (by omega) (by omega)
      · exact allF_spec _ _ _ mn_b n (by omega) (by omega)
    · rcases Nat.lt_or_ge n 3072 with q3 | q3
      · exact allF_spec _ _ _ mn_c n (by omega) (by omega)
      · exact allF_spec _ _ _ mn_d n (by omega) (by omega)
  · rcases Nat.lt_or_ge n 6144 with q2 | q2
    · rcases Nat.lt_or_ge n 5120 with q3 | q3
      · exact allF_spec _ _ _ mn_e n (by omega) (by omega)
      · exact allF_spec _ _ _ mn_f n (by omega) (by omega)
    · rcases Nat.lt_or_ge n 7168 with q3 | q3
      · exact allF_spec _ _ _ mn_g n (by omega) (by omega)
      · exact allF_spec _ _ _ mn_h n (by omega) (by omega)

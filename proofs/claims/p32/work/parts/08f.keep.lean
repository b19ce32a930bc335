/-! 08f: what both glaciers keep together -/
def bnd (m : Nat) (x : Int32) : Prop := ∃ a : Nat, a ≤ m ∧ x = nI a
theorem bnd_0 (m : Nat) : ∀ i, bnd m (zF i) := fun _ => ⟨0, Nat.zero_le m, rfl⟩
theorem bnd_upd {m k : Nat} {f : Nat → Int32} {v : Int32} (h : ∀ i, bnd m (f i)) (hv : bnd m v) : ∀ i, bnd m (upd f k v i) := by
  intro i
  simp only [upd]
  split
  · exact hv
  · exact h i
theorem perf0 {f : Nat → Int32} {o a tw : Nat} (hf : f o = nI a) (ha : a ≤ 999) (ht : tw ≤ 99) : perf f (nI 0) o (nI tw) = upd f o (nI (min 999 (a + tw))) := by
  unfold perf
  rw [if_neg (by decide), hf, nI_add, k_minL (by decide) (by omega)]
theorem perf1 {f : Nat → Int32} {o a tw : Nat} (hf : f o = nI a) (ha : a ≤ 999) (ht : tw ≤ 99) : perf f (nI 1) o (nI tw) = upd f o (nI (a - tw)) := by
  unfold perf
  rw [if_pos (by decide), if_neg (by decide), hf, k_maxS (by omega) (by omega)]
/-- what a deed may change: one place, or two side by side, the upper one giving what the next one gets -/
def StpG (f g : Nat → Int32) : Prop :=
  (∃ (o : Nat) (v : Int32), o < 8 ∧ agr g (upd f o v)) ∨ ∃ o a b d : Nat, o < 7 ∧ f o = nI a ∧ f (o + 1) = nI b ∧ a ≤ 999 ∧ b + d ≤ 999 ∧ d ≤ a ∧ agr g (flF f o a b d)
theorem agr_rf (f : Nat → Int32) : agr f f := fun _ _ => rfl
theorem upd_self (f : Nat → Int32) (o : Nat) : upd f o (f o) = f := by
  funext j
  simp only [upd]
  split
  · rename_i h; rw [h]
  · rfl
theorem stp_rf (f : Nat → Int32) : StpG f f := Or.inl ⟨0, f 0, by decide, by rw [upd_self]; exact agr_rf f⟩
/-- how the kinds of deeds come -/
def Dd (kd o tw : Nat) : Prop := (kd = 0 ∨ kd = 1 ∨ kd = 2) ∧ o < 8 ∧ tw ≤ 99
theorem dd_step {f : Nat → Int32} {kd o tw : Nat} (hf : ∀ j, j < 8 → bnd 999 (f j)) (hd : Dd kd o tw) : StpG f (perf f (nI kd) o (nI tw)) ∧ ∀ j, j < 8 → bnd 999 (perf f (nI kd) o (nI tw) j) := by
  obtain ⟨hk, ho, ht⟩ := hd
  obtain ⟨a, ha, ea⟩ := hf o ho
  have one : ∀ v, bnd 999 v → perf f (nI kd) o (nI tw) = upd f o v → StpG f (perf f (nI kd) o (nI tw)) ∧ ∀ j, j < 8 → bnd 999 (perf f (nI kd) o (nI tw) j) := by
    intro v hv e
    rw [e]
    refine ⟨Or.inl ⟨o, v, ho, agr_rf _⟩, fun j hj => ?_⟩
    simp only [upd]
    split
    · exact hv
    · exact hf j hj
  rcases hk with rfl | rfl | rfl
  · exact one _ ⟨_, by omega, rfl⟩ (perf0 ea ha ht)
  · exact one _ ⟨_, by omega, rfl⟩ (perf1 ea ha ht)
  · by_cases h7 : o = 7
    · subst h7
      refine one (nI (a - a / 10)) ⟨_, by omega, rfl⟩ ?_
      rw [perf2, ← perf2 f 7 (nI 0)]
      exact (work7 ea ha).symm
    · obtain ⟨b, hb, eb⟩ := hf (o + 1) (by omega)
      have e : perf f (nI 2) o (nI tw) = flF f o a b (min (a / 10) (999 - b)) := by
        rw [perf2, ← perf2 f o (nI 0)]
        exact (work2 ea eb ha hb (by omega) rfl).symm
      rw [e]
      refine ⟨Or.inr ⟨o, a, b, _, by omega, ea, eb, ha, by omega, by omega, agr_rf _⟩, fun j hj => ?_⟩
      unfold flF
      simp only [upd]
      split
      · exact ⟨_, by omega, rfl⟩
      · split
        · exact ⟨_, by omega, rfl⟩
        · exact hf j hj
/-- the ice at the beginning of each year, B, is what the layers and cores tell -/
def Tr (B : Nat → Nat → Int32) (f K : Nat → Int32) (O : Nat → Nat) (T : Nat → Int32) (M : Nat → Nat) (n k : Nat) (Y : Nat → Nat) (G : Nat → Int32) (nc : Nat) : Prop :=
  (∀ j, j < 8 → B 0 j = nI 0) ∧ (∀ l, l < n → ¬ l < k → agr (B (l + 1)) (againN K O T l (B l) (M l))) ∧ agr f (againN K O T n (B n) (M n)) ∧ ∀ c, c < nc → agr (fun j => G (c * 8 + j)) (B (Y c))
def Jv (f K : Nat → Int32) (O : Nat → Nat) (T : Nat → Int32) (M : Nat → Nat) (Z : Nat → Int32) (n k : Nat) (Y : Nat → Nat) (G : Nat → Int32) (nc : Nat) (wf : Int32) : Prop :=
  Iv O M n k Y nc ∧ (∀ j, n < j → M j = 0) ∧ (∀ j, j < 8 → bnd 999 (f j)) ∧ (∀ i, bnd 2 (K i)) ∧ (∀ i, bnd 99 (T i)) ∧ (∀ j, bnd 10006 (Z j)) ∧ (∀ i, bnd 999 (G i)) ∧ (wf = 0 → ∃ B, Tr B f K O T M n k Y G nc)
theorem jv_0 : Jv zF zF zN zF zN zF 0 0 zN zF 0 (nI 0) :=
  ⟨iv_0, fun _ _ => rfl, fun j _ => bnd_0 _ j, bnd_0 _, bnd_0 _, bnd_0 _, bnd_0 _, fun _ => ⟨fun _ => zF, fun _ _ => rfl, fun l h => by omega, agr_rf _, fun c h => by omega⟩⟩
theorem again_congr {K K' : Nat → Int32} {O O' : Nat → Nat} {T T' : Nat → Int32} {j : Nat} (g : Nat → Int32) (d : Nat) (h : ∀ i, i < d → K' (j * 12 + i) = K (j * 12 + i) ∧ O' (j * 12 + i) = O (j * 12 + i) ∧ T' (j * 12 + i) = T (j * 12 + i)) : againN K' O' T' j g d = againN K O T j g d := by
  induction d with
  | zero => rfl
  | succ d ih =>
    obtain ⟨h1, h2, h3⟩ := h d (by omega)
    rw [againN, againN, ih (fun i hi => h i (by omega)), h1, h2, h3]
theorem upN_ne {f : Nat → Nat} {k j v : Nat} (h : j ≠ k) : upN f k v j = f j := if_neg h
theorem upN_eq (f : Nat → Nat) (k v : Nat) : upN f k v k = v := if_pos rfl
theorem jv_note {f K : Nat → Int32} {O : Nat → Nat} {T : Nat → Int32} {M : Nat → Nat} {Z : Nat → Int32} {n k : Nat} {Y : Nat → Nat} {G : Nat → Int32} {nc : Nat} {wf : Int32} {kd o tw : Nat} (h : Jv f K O T M Z n k Y G nc wf) (hd : Dd kd o tw) (hr : n < 40 ∧ M n < 12) :
    Jv (perf f (nI kd) o (nI tw)) (upd K (n * 12 + M n) (nI kd)) (upN O (n * 12 + M n) o) (upd T (n * 12 + M n) (nI tw)) (upN M n (M n + 1)) Z n k Y G nc wf := by
  obtain ⟨hIv, hMz, hf, hK, hT, hZ, hG, hTr⟩ := h
  have hM : ∀ i, M i ≤ 12 := hIv.2.2.2.1
  have hO : ∀ i, O i < 8 := hIv.2.2.2.2.1
  have hkn : k ≤ n := hIv.2.1
  refine ⟨iv_note hIv hd.2.1 hr, fun j hj => ?_, (dd_step hf hd).2, bnd_upd hK ⟨kd, by rcases hd.1 with h | h | h <;> omega, rfl⟩, bnd_upd hT ⟨tw, hd.2.2, rfl⟩, hZ, hG, fun hw => ?_⟩
  · rw [upN_ne (by omega)]; exact hMz j hj
  obtain ⟨B, h1, h2, h3, h4⟩ := hTr hw
  have same : ∀ l i : Nat, i < 12 → ¬ (l = n ∧ i = M n) → l * 12 + i ≠ n * 12 + M n := by intro l i hi hne; omega
  refine ⟨B, h1, fun l hl hlk => ?_, ?_, h4⟩
  · rw [upN_ne (by omega), again_congr (K := K) (O := O) (T := T)]
    · exact h2 l hl hlk
    · intro i hi
      have hMl := hM l
      have hne : l * 12 + i ≠ n * 12 + M n := by omega
      exact ⟨pk_un hne, upN_ne hne, pk_un hne⟩
  · rw [upN_eq, againN, again_congr (K := K) (O := O) (T := T)]
    · rw [pk_us, upN_eq, pk_us]
      exact agr_perf h3 _ hd.2.1 _
    · intro i hi
      have hne : n * 12 + i ≠ n * 12 + M n := by omega
      exact ⟨pk_un hne, upN_ne hne, pk_un hne⟩
theorem irem_nI {a : Nat} (ha : a < 2147483648) : irem (nI a) (nI 10007) = nI (a % 10007) := pk_rem ha (by decide) (by decide)
theorem seal_bnd {K : Nat → Int32} {O : Nat → Nat} {T : Nat → Int32} (hK : ∀ i, bnd 2 (K i)) (hO : ∀ i, O i < 8) (hT : ∀ i, bnd 99 (T i)) (j : Nat) {w0 : Int32} (hw : bnd 10006 w0) (d : Nat) : bnd 10006 (sealW K O T j w0 d) := by
  induction d with
  | zero => exact hw
  | succ d ih =>
    obtain ⟨a, ha, ea⟩ := ih
    obtain ⟨b, hb, eb⟩ := hK (j * 12 + d)
    obtain ⟨c, hc, ec⟩ := hT (j * 12 + d)
    have ho := hO (j * 12 + d)
    refine ⟨(a * 31 + b + O (j * 12 + d) * 5 + c * 7) % 10007, by omega, ?_⟩
    rw [sealW, ea, eb, ec, pk_mul, pk_mul, nI_add, nI_add, nI_add, irem_nI (by omega)]
theorem sealF_bnd {K : Nat → Int32} {O : Nat → Nat} {T : Nat → Int32} {M : Nat → Nat} {Z : Nat → Int32} (hK : ∀ i, bnd 2 (K i)) (hO : ∀ i, O i < 8) (hT : ∀ i, bnd 99 (T i)) (hZ : ∀ j, bnd 10006 (Z j)) (j : Nat) : bnd 10006 (sealF K O T M Z j) := by
  unfold sealF
  apply seal_bnd hK hO hT
  cases j with
  | zero => exact ⟨17, by decide, rfl⟩
  | succ j => exact hZ j
theorem jv_end0 {f K : Nat → Int32} {O : Nat → Nat} {T : Nat → Int32} {M : Nat → Nat} {Z : Nat → Int32} {n k : Nat} {Y : Nat → Nat} {G : Nat → Int32} {nc : Nat} {wf : Int32} (h : Jv f K O T M Z n k Y G nc wf) (hn : n < 40) :
    Jv f K O T M (upd Z n (sealF K O T M Z n)) (n + 1) k Y G nc wf := by
  obtain ⟨hIv, hMz, hf, hK, hT, hZ, hG, hTr⟩ := h
  have hO : ∀ i, O i < 8 := hIv.2.2.2.2.1
  have hYn := hIv.2.2.2.2.2.2.2.2.2
  have hkn : k ≤ n := hIv.2.1
  refine ⟨iv_end0 hIv hn, fun j hj => hMz j (by omega), hf, hK, hT, bnd_upd hZ (sealF_bnd hK hO hT hZ n), hG, fun hw => ?_⟩
  obtain ⟨B, h1, h2, h3, h4⟩ := hTr hw
  refine ⟨fun y => if y = n + 1 then f else B y, fun j hj => ?_, fun l hl hlk => ?_, ?_, fun c hc => ?_⟩
  · show (if 0 = n + 1 then f else B 0) j = nI 0
    rw [if_neg (by omega)]; exact h1 j hj
  · show agr (if l + 1 = n + 1 then f else B (l + 1)) (againN K O T l (if l = n + 1 then f else B l) (M l))
    rw [if_neg (show ¬ l = n + 1 by omega)]
    by_cases e : l = n
    · subst e; rw [if_pos rfl]; exact h3
    · rw [if_neg (by omega)]; exact h2 l (by omega) hlk
  · show agr f (againN K O T (n + 1) (if n + 1 = n + 1 then f else B (n + 1)) (M (n + 1)))
    rw [if_pos rfl, hMz (n + 1) (by omega)]
    exact agr_rf f
  · show agr (fun j => G (c * 8 + j)) (if Y c = n + 1 then f else B (Y c))
    have := (hYn c hc).2
    rw [if_neg (by omega)]; exact h4 c hc
theorem drG_bnd {G f : Nat → Int32} {t : Nat} (hG : ∀ i, bnd 999 (G i)) (hf : ∀ j, j < 8 → bnd 999 (f j)) : ∀ i, bnd 999 (drG G t f 8 i) := by
  intro i
  rw [drG_at]
  split
  · rename_i h; exact hf _ (by omega)
  · exact hG i
theorem jv_draw {f K : Nat → Int32} {O : Nat → Nat} {T : Nat → Int32} {M : Nat → Nat} {Z : Nat → Int32} {n k : Nat} {Y : Nat → Nat} {G : Nat → Int32} {nc : Nat} {wf : Int32} (h : Jv f K O T M Z n k Y G nc wf) (hn : n < 40) (hc : nc < 6) :
    Jv f K O T M (upd Z n (sealF K O T M Z n)) (n + 1) k (upN Y nc (n + 1)) (drG G nc f 8) (nc + 1) wf := by
  obtain ⟨hIv, hMz, hf, hK, hT, hZ, hG, hTr⟩ := h
  have hO : ∀ i, O i < 8 := hIv.2.2.2.2.1
  have hYn := hIv.2.2.2.2.2.2.2.2.2
  have hkn : k ≤ n := hIv.2.1
  refine ⟨iv_endL hIv hn hc, fun j hj => hMz j (by omega), hf, hK, hT, bnd_upd hZ (sealF_bnd hK hO hT hZ n), drG_bnd hG hf, fun hw => ?_⟩
  obtain ⟨B, h1, h2, h3, h4⟩ := hTr hw
  refine ⟨fun y => if y = n + 1 then f else B y, fun j hj => ?_, fun l hl hlk => ?_, ?_, fun c hc2 => ?_⟩
  · show (if 0 = n + 1 then f else B 0) j = nI 0
    rw [if_neg (by omega)]; exact h1 j hj
  · show agr (if l + 1 = n + 1 then f else B (l + 1)) (againN K O T l (if l = n + 1 then f else B l) (M l))
    rw [if_neg (show ¬ l = n + 1 by omega)]
    by_cases e : l = n
    · subst e; rw [if_pos rfl]; exact h3
    · rw [if_neg (by omega)]; exact h2 l (by omega) hlk
  · show agr f (againN K O T (n + 1) (if n + 1 = n + 1 then f else B (n + 1)) (M (n + 1)))
    rw [if_pos rfl, hMz (n + 1) (by omega)]
    exact agr_rf f
  · show agr (fun j => drG G nc f 8 (c * 8 + j)) (if upN Y nc (n + 1) c = n + 1 then f else B (upN Y nc (n + 1) c))
    by_cases e : c = nc
    · subst e
      rw [if_pos (upN_eq Y c (n + 1))]
      intro j hj
      show drG G c f 8 (c * 8 + j) = f j
      rw [drG_at, if_pos (by omega), Nat.add_sub_cancel_left]
    · rw [upN_ne e]
      have := (hYn c (by omega)).2
      rw [if_neg (by omega)]
      intro j hj
      show drG G nc f 8 (c * 8 + j) = _
      rw [drG_at, if_neg (by omega)]
      exact h4 c (by omega) j hj
theorem shG_bnd {G : Nat → Int32} {j d : Nat} (hG : ∀ i, bnd 999 (G i)) : ∀ i, bnd 999 (shG G j d i) := by
  intro i
  rw [shG_at]
  split
  · exact hG _
  · exact hG i
theorem jv_throw {f K : Nat → Int32} {O : Nat → Nat} {T : Nat → Int32} {M : Nat → Nat} {Z : Nat → Int32} {n k : Nat} {Y : Nat → Nat} {G : Nat → Int32} {nc j : Nat} {wf : Int32} (h : Jv f K O T M Z n k Y G nc wf) (hj : j < nc) :
    Jv f K O T M Z n k (shY Y j (nc - 1 - j)) (shG G j (nc - 1 - j)) (nc - 1) wf := by
  obtain ⟨hIv, hMz, hf, hK, hT, hZ, hG, hTr⟩ := h
  refine ⟨iv_throw hIv hj, hMz, hf, hK, hT, hZ, shG_bnd hG, fun hw => ?_⟩
  obtain ⟨B, h1, h2, h3, h4⟩ := hTr hw
  refine ⟨B, h1, h2, h3, fun c hc => ?_⟩
  intro i hi
  show shG G j (nc - 1 - j) (c * 8 + i) = B (shY Y j (nc - 1 - j) c) i
  rw [shG_at, shY_at]
  by_cases e : j ≤ c
  · rw [if_pos (by omega), if_pos (by omega), show c * 8 + i + 8 = (c + 1) * 8 + i by omega]
    exact h4 (c + 1) (by omega) i hi
  · rw [if_neg (by omega), if_neg (by omega)]
    exact h4 c (by omega) i hi
theorem jv_endF {f K : Nat → Int32} {O : Nat → Nat} {T : Nat → Int32} {M : Nat → Nat} {Z : Nat → Int32} {n k : Nat} {Y : Nat → Nat} {G : Nat → Int32} {wf : Int32} (h : Jv f K O T M Z n k Y G 6 wf) (hn : n < 40) :
    Jv f K O T M (upd Z n (sealF K O T M Z n)) (n + 1) k (upN (shY Y 0 5) 5 (n + 1)) (drG (shG G 0 5) 5 f 8) 6 wf :=
  jv_draw (nc := 5) (jv_throw (j := 0) h (by omega)) hn (by omega)
theorem jv_comp {f K : Nat → Int32} {O : Nat → Nat} {T : Nat → Int32} {M : Nat → Nat} {Z : Nat → Int32} {n k : Nat} {Y : Nat → Nat} {G : Nat → Int32} {nc y : Nat} {wf : Int32} (h : Jv f K O T M Z n k Y G nc wf) (hy : y ≤ n) :
    Jv f K O T (dropM M k (y - k)) Z n (max k y) Y G nc wf := by
  obtain ⟨hIv, hMz, hf, hK, hT, hZ, hG, hTr⟩ := h
  have hkn : k ≤ n := hIv.2.1
  refine ⟨iv_comp hIv hy, fun j hj => ?_, hf, hK, hT, hZ, hG, fun hw => ?_⟩
  · rw [dropM_eq, if_neg (by omega)]; exact hMz j hj
  obtain ⟨B, h1, h2, h3, h4⟩ := hTr hw
  refine ⟨B, h1, fun l hl hlk => ?_, ?_, h4⟩
  · rw [dropM_eq, if_neg (by omega)]; exact h2 l hl (by omega)
  · rw [dropM_eq, if_neg (by omega)]; exact h3
theorem jv_forge {f K : Nat → Int32} {O : Nat → Nat} {T : Nat → Int32} {M : Nat → Nat} {Z : Nat → Int32} {n k : Nat} {Y : Nat → Nat} {G : Nat → Int32} {nc s v : Nat} {wf : Int32} (h : Jv f K O T M Z n k Y G nc wf) (hv : v ≤ 99) :
    Jv f K O (upd T s (nI v)) M Z n k Y G nc (nI 1) := by
  obtain ⟨hIv, hMz, hf, hK, hT, hZ, hG, hTr⟩ := h
  exact ⟨hIv, hMz, hf, hK, bnd_upd hT ⟨v, hv, rfl⟩, hZ, hG, fun hw => absurd hw (by decide)⟩

noncomputable section
/-! READS of a town, and of the model's: sums, pairs, walls. -/
def TA (a : Nat) : Prop := a = 33 ∨ a = 45 ∨ a = 57
theorem ix6 {p k : Nat} : nI p * 6 + nI k = nI (6 * p + k) := by
  rw [li_6, pk_mul, nI_add, Nat.mul_comm]
theorem ix6m {p k : Nat} : (6 : Int32) * nI p + nI k = nI (6 * p + k) := by
  rw [li_6, pk_mul, nI_add]
def rowT (ta : Nat → Int32) (p : Nat) : Nat → Nat → Int32 → Int32
  | 0, _, acc => acc
  | m + 1, j, acc => rowT ta p m (j + 1) (acc + ta (6 * p + j))
def colT (ta : Nat → Int32) (p : Nat) : Nat → Nat → Int32 → Int32
  | 0, _, acc => acc
  | m + 1, j, acc => colT ta p m (j + 1) (acc + ta (6 * j + p))
def allT (ta : Nat → Int32) (np : Nat) : Nat → Nat → Int32 → Int32
  | 0, _, acc => acc
  | m + 1, i, acc => allT ta np m (i + 1) (acc + rowT ta i np 0 0)
def wedC (wd : Nat → Int32) : Nat → Nat → Int32 → Int32
  | 0, _, acc => acc
  | m + 1, i, acc => wedC wd m (i + 1) (if wd i = -5 then acc else acc + 1)
def nearB (ta wd : Nat → Int32) (i j : Nat) : Bool := decide (wd i = -5) && decide (wd j = -5) && decide (ta (6 * i + j) + ta (6 * j + i) = 3)
def nearR (nb : Nat → Nat → Bool) (i : Nat) : Nat → Nat → Int32 → Int32
  | 0, _, acc => acc
  | m + 1, j, acc => nearR nb i m (j + 1) (if nb i j = true then acc + 1 else acc)
def nearA (nb : Nat → Nat → Bool) (np : Nat) : Nat → Nat → Int32 → Int32
  | 0, _, acc => acc
  | m + 1, i, acc => nearA nb np m (i + 1) (nearR nb i (np - (i + 1)) (i + 1) acc)
section A
variable {l : Launch} {L : Nat} {xs : Nat → Int32} {D : Nat} {n : Nat} {K : Mk} {S : Mi} {G : Ml} {P : Mr} {Q : QT} {a np : Nat} {ta wd : Nat → Int32}
set_option maxRecDepth 20000
theorem m_pairN {T : Tb} {p k : Nat} (h : Q (some (.int (nI (6 * p + k)))) n K S G P) : Ok l L xs T (D + 1) jX9_pair 0 [.int (nI p), .int (nI k)] n K S G P Q := m_pair (by rw [ix6]; exact h)
theorem m_has (ha : TA a) (hn : S a 0 = nI np) (h6 : np ≤ 6) {x : Int32} (h1 : ∀ p, p < np → x = nI p → Q (some (.int 1)) n K S G P) (h0 : ¬ (0 ≤ x.toInt ∧ x.toInt < np) → Q (some (.int 0)) n K S G P) : Ok l L xs T1 (D + 1) jX9_has 0 [.ref a, .int x] n K S G P Q := by
  refine I_X9_has (by decide) (fun At go => ?_)
  have e : (nI np).toInt = np := nI_toInt (by omega)
  rcases ha with rfl | rfl | rfl <;> (
  refine go [] 40 _ _ _ _ _ _ _ _ _ ?_
  refine ite_i (fun c1 => ?_) (fun c1 => ?_)
  · rw [lt_i, t_0] at c1
    exact h0 (fun h => by omega)
  · rw [lt_i, t_0] at c1
    refine ite_i (fun c2 => ?_) (fun c2 => ?_)
    · rw [hn, le_i, e] at c2
      exact h0 (fun h => by omega)
    · rw [hn, le_i, e] at c2
      exact h1 x.toInt.toNat (by omega) (nI_of' (by omega)))
theorem m_talliesBy (ha : TA a) (hn : S a 0 = nI np) (h6 : np ≤ 6) (ht : ∀ i, i < 36 → S (a + 4) i = ta i) {p : Nat} (hp : p < np) (h : Q (some (.int (rowT ta p np 0 0))) n K S G P) : Ok l L xs T1 (D + 2) jX9_talliesBy 0 [.ref a, .int (nI p)] n K S G P Q := by
  refine I_X9_talliesBy (by decide) (fun At go => ?_)
  have loop : ∀ m j vj acc, j + m = np → vj = nI j → Q (some (.int (rowT ta p m j acc))) n K S G P → At 4 [.ref a, .int (nI p), .int acc, .int vj] [] n K S G P 0 := by
    intro m
    induction m with
    | zero =>
      intro j vj acc hj hv hQ
      subst hv
      rcases ha with rfl | rfl | rfl <;> (
      refine go [4] 60 _ _ _ _ _ _ _ _ _ ?_
      refine ite_t ?_ hQ
      rw [hn, le_i, nI_toInt (by omega), nI_toInt (by omega)]
      omega)
    | succ m ih =>
      intro j vj acc hj hv hQ
      subst hv
      rcases ha with rfl | rfl | rfl <;> (
      refine go [4] 60 _ _ _ _ _ _ _ _ _ ?_
      refine ite_f ?_ ?_
      · rw [hn, le_i, nI_toInt (by omega), nI_toInt (by omega)]
        omega
      refine m_pairN ?_
      refine ite_t (ixB_nI (by omega) (by decide)) ?_
      refine ih (j + 1) _ _ (by omega) (nI_1 j) ?_
      rw [nI_clamp (by omega), ht _ (by omega)]
      exact hQ)
  refine go [4] 60 _ _ _ _ _ _ _ _ _ ?_
  exact loop np 0 _ _ (by omega) rfl h
theorem m_talliesTo (ha : TA a) (hn : S a 0 = nI np) (h6 : np ≤ 6) (ht : ∀ i, i < 36 → S (a + 4) i = ta i) {p : Nat} (hp : p < np) (h : Q (some (.int (colT ta p np 0 0))) n K S G P) : Ok l L xs T1 (D + 2) jX9_talliesTo 0 [.ref a, .int (nI p)] n K S G P Q := by
  refine I_X9_talliesTo (by decide) (fun At go => ?_)
  have loop : ∀ m j vj acc, j + m = np → vj = nI j → Q (some (.int (colT ta p m j acc))) n K S G P → At 4 [.ref a, .int (nI p), .int acc, .int vj] [] n K S G P 0 := by
    intro m
    induction m with
    | zero =>
      intro j vj acc hj hv hQ
      subst hv
      rcases ha with rfl | rfl | rfl <;> (
      refine go [4] 60 _ _ _ _ _ _ _ _ _ ?_
      refine ite_t ?_ hQ
      rw [hn, le_i, nI_toInt (by omega), nI_toInt (by omega)]
      omega)
    | succ m ih =>
      intro j vj acc hj hv hQ
      subst hv
      rcases ha with rfl | rfl | rfl <;> (
      refine go [4] 60 _ _ _ _ _ _ _ _ _ ?_
      refine ite_f ?_ ?_
      · rw [hn, le_i, nI_toInt (by omega), nI_toInt (by omega)]
        omega
      refine m_pairN ?_
      refine ite_t (ixB_nI (by omega) (by decide)) ?_
      refine ih (j + 1) _ _ (by omega) (nI_1 j) ?_
      rw [nI_clamp (by omega), ht _ (by omega)]
      exact hQ)
  refine go [4] 60 _ _ _ _ _ _ _ _ _ ?_
  exact loop np 0 _ _ (by omega) rfl h
theorem m_tallies (ha : TA a) (hn : S a 0 = nI np) (h6 : np ≤ 6) (ht : ∀ i, i < 36 → S (a + 4) i = ta i) (h : Q (some (.int (allT ta np np 0 0))) n K S G P) : Ok l L xs T1 (D + 3) jX9_tallies 0 [.ref a] n K S G P Q := by
  refine I_X9_tallies (by decide) (fun At go => ?_)
  have loop : ∀ m j vj acc, j + m = np → vj = nI j → Q (some (.int (allT ta np m j acc))) n K S G P → At 4 [.ref a, .int acc, .int vj] [] n K S G P 0 := by
    intro m
    induction m with
    | zero =>
      intro j vj acc hj hv hQ
      subst hv
      rcases ha with rfl | rfl | rfl <;> (
      refine go [4] 60 _ _ _ _ _ _ _ _ _ ?_
      refine ite_t ?_ hQ
      rw [hn, le_i, nI_toInt (by omega), nI_toInt (by omega)]
      omega)
    | succ m ih =>
      intro j vj acc hj hv hQ
      subst hv
      have ha' := ha
      rcases ha with rfl | rfl | rfl <;> (
      refine go [4] 60 _ _ _ _ _ _ _ _ _ ?_
      refine ite_f ?_ ?_
      · rw [hn, le_i, nI_toInt (by omega), nI_toInt (by omega)]
        omega
      refine m_talliesBy ha' hn h6 ht (by omega) ?_
      exact ih (j + 1) _ _ (by omega) (nI_1 j) hQ)
  refine go [4] 60 _ _ _ _ _ _ _ _ _ ?_
  exact loop np 0 _ _ (by omega) rfl h
theorem m_wedOnes (ha : TA a) (hn : S a 0 = nI np) (h6 : np ≤ 6) (hwd : ∀ i, i < 6 → S (a + 2) i = wd i) (h : Q (some (.int (wedC wd np 0 0))) n K S G P) : Ok l L xs T1 (D + 1) jX9_wedOnes 0 [.ref a] n K S G P Q := by
  refine I_X9_wedOnes (by decide) (fun At go => ?_)
  have loop : ∀ m j vj acc, j + m = np → vj = nI j → Q (some (.int (wedC wd m j acc))) n K S G P → At 4 [.ref a, .int acc, .int vj] [] n K S G P 0 := by
    intro m
    induction m with
    | zero =>
      intro j vj acc hj hv hQ
      subst hv
      rcases ha with rfl | rfl | rfl <;> (
      refine go [4] 60 _ _ _ _ _ _ _ _ _ ?_
      refine ite_t ?_ hQ
      rw [hn, le_i, nI_toInt (by omega), nI_toInt (by omega)]
      omega)
    | succ m ih =>
      intro j vj acc hj hv hQ
      subst hv
      unfold wedC at hQ
      rcases ha with rfl | rfl | rfl <;> (
      refine go [4] 60 _ _ _ _ _ _ _ _ _ ?_
      refine ite_f ?_ ?_
      · rw [hn, le_i, nI_toInt (by omega), nI_toInt (by omega)]
        omega
      refine ite_t (ixB_nI (by omega) (by decide)) ?_
      refine ite_i (fun c => ?_) (fun c => ?_)
      · rw [nI_clamp (by omega), hwd _ (by omega)] at c
        rw [if_pos c] at hQ
        refine ih (j + 1) _ _ (by omega) (nI_1 j) ?_
        dsimp only
        rw [Int32.add_zero]
        exact hQ
      · rw [nI_clamp (by omega), hwd _ (by omega)] at c
        rw [if_neg c] at hQ
        exact ih (j + 1) _ _ (by omega) (nI_1 j) hQ)
  refine go [4] 60 _ _ _ _ _ _ _ _ _ ?_
  exact loop np 0 _ _ (by omega) rfl h
theorem m_isNear (ha : TA a) (ht : ∀ i, i < 36 → S (a + 4) i = ta i) (hwd : ∀ i, i < 6 → S (a + 2) i = wd i) {i j : Nat} (hi : i < 6) (hj : j < 6) (h1 : nearB ta wd i j = true → Q (some (.int 1)) n K S G P) (h0 : nearB ta wd i j = false → Q (some (.int 0)) n K S G P) : Ok l L xs T1 (D + 2) jX9_isNear 0 [.ref a, .int (nI i), .int (nI j)] n K S G P Q := by
  refine I_X9_isNear (by decide) (fun At go => ?_)
  rcases ha with rfl | rfl | rfl <;> (
  refine go [] 60 _ _ _ _ _ _ _ _ _ ?_
  refine m_pairN ?_
  refine ite_t (ixB_nI (by omega) (by decide)) ?_
  refine m_pairN ?_
  refine ite_t (ixB_nI (by omega) (by decide)) ?_
  refine ite_t (ixB_nI (by omega) (by decide)) ?_
  refine ite_i (fun c1 => ?_) (fun c1 => ?_)
  · rw [nI_clamp (by omega), hwd _ (by omega)] at c1
    refine ite_t (ixB_nI (by omega) (by decide)) ?_
    refine ite_i (fun c2 => ?_) (fun c2 => ?_)
    · rw [nI_clamp (by omega), hwd _ (by omega)] at c2
      refine ite_i (fun c3 => ?_) (fun c3 => ?_)
      · rw [nI_clamp (by omega), nI_clamp (by omega), ht _ (by omega), ht _ (by omega)] at c3
        exact h1 (by simp [nearB, c1, c2, c3])
      · rw [nI_clamp (by omega), nI_clamp (by omega), ht _ (by omega), ht _ (by omega)] at c3
        exact h0 (by simp [nearB, c3])
    · rw [nI_clamp (by omega), hwd _ (by omega)] at c2
      exact h0 (by simp [nearB, c2])
  · rw [nI_clamp (by omega), hwd _ (by omega)] at c1
    exact h0 (by simp [nearB, c1]))
end A
end

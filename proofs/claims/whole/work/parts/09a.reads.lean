noncomputable section
/-! READS of the model's own memory. -/
theorem sub1 {np : Nat} (h6 : np ≤ 6) : (nI np - 1).toInt = (np : Int) - 1 := by
  rw [Int32.toInt_sub, nI_toInt (by omega), t_1]
  exact Int.bmod_eq_of_le (by omega) (by omega)
section A
variable {l : Launch} {L : Nat} {xs : Nat → Int32} {D : Nat} {n : Nat} {K : Mk} {S : Mi} {G : Ml} {P : Mr} {Q : QT} {np : Nat} {ta wd : Nat → Int32}
set_option maxRecDepth 20000
theorem mm_isOne (hn : S 120 0 = nI np) (h6 : np ≤ 6) {x : Int32} (h1 : ∀ p, p < np → x = nI p → Q (some (.int 1)) n K S G P) (h0 : ¬ (0 ≤ x.toInt ∧ x.toInt < np) → Q (some (.int 0)) n K S G P) : Ok l L xs T1 (D + 2) jX12_isOne 0 [.ref 120, .int x] n K S G P Q := by
  refine I_X12_isOne (by decide) (fun At go => ?_)
  have e := sub1 h6
  refine go [] 40 _ _ _ _ _ _ _ _ _ ?_
  refine m_within (fun c1 c2 => ?_) (fun c => ?_)
  · rw [t_0] at c1
    have c2' : x.toInt ≤ (S 120 0 - 1).toInt := c2
    rw [hn] at c2'
    exact h1 x.toInt.toNat (by omega) (nI_of' (by omega))
  · have c' : ¬ ((0 : Int32).toInt ≤ x.toInt ∧ x.toInt ≤ (S 120 0 - 1).toInt) := c
    rw [t_0, hn] at c'
    exact h0 (fun q => c' ⟨q.1, by omega⟩)
theorem mm_are (hn : S 120 0 = nI np) (h6 : np ≤ 6) {x y : Int32} (h1 : ∀ p k, p < np → k < np → x = nI p → y = nI k → Q (some (.int 1)) n K S G P) (h0 : ¬ ((0 ≤ x.toInt ∧ x.toInt < np) ∧ 0 ≤ y.toInt ∧ y.toInt < np) → Q (some (.int 0)) n K S G P) : Ok l L xs T1 (D + 3) jX12_are 0 [.ref 120, .int x, .int y] n K S G P Q := by
  refine I_X12_are (by decide) (fun At go => ?_)
  refine go [] 40 _ _ _ _ _ _ _ _ _ ?_
  refine mm_isOne hn h6 (fun p hp ep => ?_) (fun c => ?_)
  · refine mm_isOne hn h6 (fun k hk ek => ?_) (fun c => ?_)
    · exact h1 p k hp hk ep ek
    · exact h0 (fun q => c q.2)
  · exact h0 (fun q => c q.1)

theorem mm_byOne (hn : S 120 0 = nI np) (h6 : np ≤ 6) (ht : ∀ i, i < 36 → S 125 i = ta i) {p : Nat} (hp : p < np) (h : Q (some (.int (rowT ta p np 0 0))) n K S G P) : Ok l L xs T1 (D + 1) jX12_byOne 0 [.ref 120, .int (nI p)] n K S G P Q := by
  refine I_X12_byOne (by decide) (fun At go => ?_)
  have loop : ∀ m j vj acc, j + m = np → vj = nI j → Q (some (.int (rowT ta p m j acc))) n K S G P → At 4 [.ref 120, .int (nI p), .int acc, .int vj] [] n K S G P 0 := by
    intro m
    induction m with
    | zero =>
      intro j vj acc hj hv hQ
      subst hv
      refine go [4] 60 _ _ _ _ _ _ _ _ _ ?_
      refine ite_t ?_ hQ
      rw [hn, le_i, nI_toInt (by omega), nI_toInt (by omega)]
      omega
    | succ m ih =>
      intro j vj acc hj hv hQ
      subst hv
      refine go [4] 60 _ _ _ _ _ _ _ _ _ ?_
      refine ite_f ?_ ?_
      · rw [hn, le_i, nI_toInt (by omega), nI_toInt (by omega)]
        omega
      refine ite_t (show ixB (6 * nI p + nI j) 36 = true by rw [ix6m]; exact ixB_nI (by omega) (by decide)) ?_
      have hQ' : Q (some (.int (rowT ta p m (j + 1) (acc + S 125 (6 * nI p + nI j).toNatClampNeg)))) n K S G P := by
        rw [ix6m, nI_clamp (by omega), ht _ (by omega)]
        exact hQ
      exact ih (j + 1) _ _ (by omega) (nI_1 j) hQ'
  refine go [4] 60 _ _ _ _ _ _ _ _ _ ?_
  exact loop np 0 _ _ (by omega) rfl h

theorem mm_toOne (hn : S 120 0 = nI np) (h6 : np ≤ 6) (ht : ∀ i, i < 36 → S 125 i = ta i) {p : Nat} (hp : p < np) (h : Q (some (.int (colT ta p np 0 0))) n K S G P) : Ok l L xs T1 (D + 1) jX12_toOne 0 [.ref 120, .int (nI p)] n K S G P Q := by
  refine I_X12_toOne (by decide) (fun At go => ?_)
  have loop : ∀ m j vj acc, j + m = np → vj = nI j → Q (some (.int (colT ta p m j acc))) n K S G P → At 4 [.ref 120, .int (nI p), .int acc, .int vj] [] n K S G P 0 := by
    intro m
    induction m with
    | zero =>
      intro j vj acc hj hv hQ
      subst hv
      refine go [4] 60 _ _ _ _ _ _ _ _ _ ?_
      refine ite_t ?_ hQ
      rw [hn, le_i, nI_toInt (by omega), nI_toInt (by omega)]
      omega
    | succ m ih =>
      intro j vj acc hj hv hQ
      subst hv
      refine go [4] 60 _ _ _ _ _ _ _ _ _ ?_
      refine ite_f ?_ ?_
      · rw [hn, le_i, nI_toInt (by omega), nI_toInt (by omega)]
        omega
      refine ite_t (show ixB (6 * nI j + nI p) 36 = true by rw [ix6m]; exact ixB_nI (by omega) (by decide)) ?_
      have hQ' : Q (some (.int (colT ta p m (j + 1) (acc + S 125 (6 * nI j + nI p).toNatClampNeg)))) n K S G P := by
        rw [ix6m, nI_clamp (by omega), ht _ (by omega)]
        exact hQ
      exact ih (j + 1) _ _ (by omega) (nI_1 j) hQ'
  refine go [4] 60 _ _ _ _ _ _ _ _ _ ?_
  exact loop np 0 _ _ (by omega) rfl h

theorem mm_allTallies (hn : S 120 0 = nI np) (h6 : np ≤ 6) (ht : ∀ i, i < 36 → S 125 i = ta i) (h : Q (some (.int (allT ta np np 0 0))) n K S G P) : Ok l L xs T1 (D + 2) jX12_allTallies 0 [.ref 120] n K S G P Q := by
  refine I_X12_allTallies (by decide) (fun At go => ?_)
  have loop : ∀ m j vj acc, j + m = np → vj = nI j → Q (some (.int (allT ta np m j acc))) n K S G P → At 4 [.ref 120, .int acc, .int vj] [] n K S G P 0 := by
    intro m
    induction m with
    | zero =>
      intro j vj acc hj hv hQ
      subst hv
      refine go [4] 60 _ _ _ _ _ _ _ _ _ ?_
      refine ite_t ?_ hQ
      rw [hn, le_i, nI_toInt (by omega), nI_toInt (by omega)]
      omega
    | succ m ih =>
      intro j vj acc hj hv hQ
      subst hv
      refine go [4] 60 _ _ _ _ _ _ _ _ _ ?_
      refine ite_f ?_ ?_
      · rw [hn, le_i, nI_toInt (by omega), nI_toInt (by omega)]
        omega
      refine mm_byOne hn h6 ht (by omega) ?_
      exact ih (j + 1) _ _ (by omega) (nI_1 j) hQ
  refine go [4] 60 _ _ _ _ _ _ _ _ _ ?_
  exact loop np 0 _ _ (by omega) rfl h
theorem mm_wedNow (hn : S 120 0 = nI np) (h6 : np ≤ 6) (hwd : ∀ i, i < 6 → S 123 i = wd i) (h : Q (some (.int (wedC wd np 0 0))) n K S G P) : Ok l L xs T1 (D + 1) jX12_wedNow 0 [.ref 120] n K S G P Q := by
  refine I_X12_wedNow (by decide) (fun At go => ?_)
  have loop : ∀ m j vj acc, j + m = np → vj = nI j → Q (some (.int (wedC wd m j acc))) n K S G P → At 4 [.ref 120, .int acc, .int vj] [] n K S G P 0 := by
    intro m
    induction m with
    | zero =>
      intro j vj acc hj hv hQ
      subst hv
      refine go [4] 60 _ _ _ _ _ _ _ _ _ ?_
      refine ite_t ?_ hQ
      rw [hn, le_i, nI_toInt (by omega), nI_toInt (by omega)]
      omega
    | succ m ih =>
      intro j vj acc hj hv hQ
      subst hv
      unfold wedC at hQ
      refine go [4] 60 _ _ _ _ _ _ _ _ _ ?_
      refine ite_f ?_ ?_
      · rw [hn, le_i, nI_toInt (by omega), nI_toInt (by omega)]
        omega
      refine ite_t (ixB_nI (by omega) (by decide)) ?_
      refine ite_i (fun c => ?_) (fun c => ?_)
      · rw [nI_clamp (by omega), hwd _ (by omega)] at c
        rw [if_pos c] at hQ
        exact ih (j + 1) _ _ (by omega) (nI_1 j) hQ
      · rw [nI_clamp (by omega), hwd _ (by omega)] at c
        rw [if_neg c] at hQ
        exact ih (j + 1) _ _ (by omega) (nI_1 j) hQ
  refine go [4] 60 _ _ _ _ _ _ _ _ _ ?_
  exact loop np 0 _ _ (by omega) rfl h
theorem mm_isNear (ht : ∀ i, i < 36 → S 125 i = ta i) (hwd : ∀ i, i < 6 → S 123 i = wd i) {i j : Nat} (hi : i < 6) (hj : j < 6) (h1 : nearB ta wd i j = true → Q (some (.int 1)) n K S G P) (h0 : nearB ta wd i j = false → Q (some (.int 0)) n K S G P) : Ok l L xs T1 (D + 1) jX12_isNear 0 [.ref 120, .int (nI i), .int (nI j)] n K S G P Q := by
  refine I_X12_isNear (by decide) (fun At go => ?_)
  refine go [] 60 _ _ _ _ _ _ _ _ _ ?_
  refine ite_t (ixB_nI (by omega) (by decide)) ?_
  refine ite_i (fun c1 => ?_) (fun c1 => ?_)
  · rw [nI_clamp (by omega), hwd _ (by omega)] at c1
    refine ite_t (ixB_nI (by omega) (by decide)) ?_
    refine ite_i (fun c2 => ?_) (fun c2 => ?_)
    · rw [nI_clamp (by omega), hwd _ (by omega)] at c2
      refine ite_t (show ixB (6 * nI i + nI j) 36 = true by rw [ix6m]; exact ixB_nI (by omega) (by decide)) ?_
      refine ite_t (show ixB (6 * nI j + nI i) 36 = true by rw [ix6m]; exact ixB_nI (by omega) (by decide)) ?_
      have e : S 125 (6 * nI i + nI j).toNatClampNeg + S 125 (6 * nI j + nI i).toNatClampNeg = ta (6 * i + j) + ta (6 * j + i) := by
        rw [ix6m, ix6m, nI_clamp (by omega), nI_clamp (by omega), ht _ (by omega), ht _ (by omega)]
      refine ite_i (fun c3 => ?_) (fun c3 => ?_)
      · have c3' := e.symm.trans c3
        exact h1 (by simp [nearB, c1, c2, c3'])
      · have c3' : ¬ ta (6 * i + j) + ta (6 * j + i) = 3 := fun q => c3 (e.trans q)
        exact h0 (by simp [nearB, c3'])
    · rw [nI_clamp (by omega), hwd _ (by omega)] at c2
      exact h0 (by simp [nearB, c2])
  · rw [nI_clamp (by omega), hwd _ (by omega)] at c1
    exact h0 (by simp [nearB, c1])
end A
end

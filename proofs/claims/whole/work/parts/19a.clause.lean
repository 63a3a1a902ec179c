noncomputable section
/-! A CLAUSE, of the component. -/
def clP (t : Nat → Nat) (sz p : Nat) : Option (Nat × Nat × List Nat × List Nat) × Nat := match wdP t sz p with
  | (none, q) => (none, q)
  | (some w, q) => match num t sz q with
    | none => (none, q)
    | some (v, q2) => if w = 2 then (some (2, v, [], []), q2) else if isC t sz 32 q2 = true then (if (pE (psr t sz 101) 0 (q2 + 1)).1 = true then (some (w, v, (pE (psr t sz 101) 0 (q2 + 1)).2.2.1, (pE (psr t sz 101) 0 (q2 + 1)).2.2.2), (pE (psr t sz 101) 0 (q2 + 1)).2.1) else (none, (pE (psr t sz 101) 0 (q2 + 1)).2.1)) else (none, q2)
def FrK (s c m : Nat) (S S' : Mi) : Prop := ∀ b j, ¬ (b = s ∧ (j = 9 ∨ j = 5 ∨ j = 0 ∨ j = 1)) → ¬ (b = s + 3 ∧ m ≤ j) → ¬ (b = s + 1 ∧ j = c) → ¬ (b = s + 2 ∧ j = c) → S' b j = S b j
def woC (w v : Nat) : Int32 := if w = 0 then nI v else if w = 1 then -nI v else 0
theorem wdP_lt {t : Nat → Nat} {sz p w q : Nat} (hp : p ≤ sz) (h : wdP t sz p = (some w, q)) : w < 3 ∧ p + 1 ≤ q ∧ q ≤ sz := by
  unfold wdP at h
  by_cases c1 : isC t sz 108 p = true
  · have z := (isC_i.mp c1).1
    rw [if_pos c1, mW_5 c1] at h
    have := mW_le (t := t) (sz := sz) (wdL 0) (p + 1) z
    split at h
    · simp only [Prod.mk.injEq, Option.some.injEq] at h; omega
    · simp only [Prod.mk.injEq] at h; cases h.1
  · rw [if_neg c1] at h
    by_cases c2 : isC t sz 100 p = true
    · have z := (isC_i.mp c2).1
      rw [if_pos c2, mW_6 c2] at h
      have := mW_le (t := t) (sz := sz) (wdL 1) (p + 1) z
      split at h
      · simp only [Prod.mk.injEq, Option.some.injEq] at h; omega
      · simp only [Prod.mk.injEq] at h; cases h.1
    · rw [if_neg c2] at h
      by_cases c3 : isC t sz 98 p = true
      · have z := (isC_i.mp c3).1
        rw [if_pos c3, mW_7 c3] at h
        have := mW_le (t := t) (sz := sz) (wdL 2) (p + 1) z
        split at h
        · simp only [Prod.mk.injEq, Option.some.injEq] at h; omega
        · simp only [Prod.mk.injEq] at h; cases h.1
      · rw [if_neg c3] at h
        simp only [Prod.mk.injEq] at h
        cases h.1
theorem wdP_le {t : Nat → Nat} {sz p : Nat} (hp : p ≤ sz) : p ≤ (wdP t sz p).2 ∧ (wdP t sz p).2 ≤ sz := by
  unfold wdP
  split
  · rename_i c
    have z := (isC_i.mp c).1
    exact mW_le _ _ hp
  · split
    · exact mW_le _ _ hp
    · split
      · exact mW_le _ _ hp
      · exact ⟨Nat.le_refl _, hp⟩
end

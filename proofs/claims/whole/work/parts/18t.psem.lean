noncomputable section
theorem tst_code {t : Nat → Nat} {sz p c p' : Nat} (h : tst t sz p = (some c, p')) : 3 ≤ c ∧ c < 1803 := by
  unfold tst at h
  cases e1 : oneAt lxN t sz p with
  | none => rw [e1] at h; cases h
  | some i =>
    rw [e1] at h
    dsimp only at h
    have hi : i < 6 := by
      unfold oneAt at e1
      split at e1
      · exact lxN_lt e1
      · cases e1
    cases e2 : oneAt sgN t sz (p + 1) with
    | none => rw [e2] at h; cases h
    | some j =>
      rw [e2] at h
      dsimp only at h
      have hj : j < 3 := by
        unfold oneAt at e2
        split at e2
        · exact sgN_lt e2
        · cases e2
      cases e3 : num t sz (p + 2) with
      | none => rw [e3] at h; cases h
      | some z =>
        obtain ⟨v, q⟩ := z
        rw [e3] at h
        have lt := num_lt e3
        simp only [Prod.mk.injEq, Option.some.injEq] at h
        omega
theorem zero_lt3 : ∀ c, c ∈ [0] → c < 1803 := by decide
def SemF (t : Nat → Nat) (sz f : Nat) : Prop := ∀ d p, d ≤ 4 → ((psr t sz f 0 d p).1 = true → PSem (2 * (4 - d) + 1) (psr t sz f 0 d p)) ∧ ((psr t sz f 1 d p).1 = true → ASem (2 * (4 - d) + 1) (psr t sz f 1 d p)) ∧ ((psr t sz f 2 d p).1 = true → OSem (2 * (4 - d) + 2) (psr t sz f 2 d p))
theorem pT_sem {t : Nat → Nat} {sz f d p : Nat} (h : SemF t sz f) (hd : d ≤ 4) (ho : (pT (psr t sz f) d p).1 = true) : PSem (2 * (4 - d) + 2) (pT (psr t sz f) d p) := by
  unfold pT at ho ⊢
  by_cases c : (psr t sz f 0 d p).1 = true
  · rw [if_pos c] at ho ⊢
    exact PSem_A ((h d p hd).1 c) ((h d _ hd).2.1 ho)
  · rw [if_neg c] at ho
    exact absurd ho c
theorem pE_sem {t : Nat → Nat} {sz f d p : Nat} (h : SemF t sz f) (hd : d ≤ 4) (ho : (pE (psr t sz f) d p).1 = true) : PSem (2 * (4 - d) + 3) (pE (psr t sz f) d p) := by
  unfold pE at ho ⊢
  by_cases c : (pT (psr t sz f) d p).1 = true
  · rw [if_pos c] at ho ⊢
    exact PSem_O (pT_sem h hd c) ((h d _ hd).2.2 ho)
  · rw [if_neg c] at ho
    exact absurd ho c
end

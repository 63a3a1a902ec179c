noncomputable section
/-! WORDS of a clause, of the component. -/
def mW (t : Nat → Nat) (sz : Nat) : List Nat → Nat → Bool × Nat
  | [], p => (true, p)
  | c :: r, p => if isC t sz c p = true then mW t sz r (p + 1) else (false, p)
theorem mW_le {t : Nat → Nat} {sz : Nat} : ∀ w p, p ≤ sz → p ≤ (mW t sz w p).2 ∧ (mW t sz w p).2 ≤ sz := by
  intro w
  induction w with
  | nil => intro p h; exact ⟨Nat.le_refl _, h⟩
  | cons c r ih =>
    intro p h
    show p ≤ (if isC t sz c p = true then mW t sz r (p + 1) else (false, p)).2 ∧ (if isC t sz c p = true then mW t sz r (p + 1) else (false, p)).2 ≤ sz
    by_cases e : isC t sz c p = true
    · rw [if_pos e]
      have := (isC_i.mp e).1
      have := ih (p + 1) (by omega)
      omega
    · rw [if_neg e]
      exact ⟨Nat.le_refl _, h⟩
def wdL (a : Nat) : List Nat := [[111, 117, 100, 32], [101, 97, 102, 32], [101, 103, 105, 110, 32], [], [], [108, 111, 117, 100, 32], [100, 101, 97, 102, 32], [98, 101, 103, 105, 110, 32]].getD a []
theorem wdL_s : ∀ a, a < 8 → a ≠ 3 → a ≠ 4 → (strB.getD a []).length = (wdL a).length ∧ ∀ i, i < (wdL a).length → (strB.getD a []).getD i 0 = nI ((wdL a).getD i 0) ∧ (wdL a).getD i 0 < 128 := by decide
end

noncomputable section
section B
variable {l : Launch} {L : Nat} {xs : Nat → Int32} {n : Nat} {K : Mk} {G : Ml} {P : Mr} {sz : Nat} {t : Nat → Nat}
theorem mm_reads : ∀ f, RM1 l L xs n K G P t sz f jX12_isF 8 (psr t sz f 0) ∧ RM1 l L xs n K G P t sz f jX12_isT 9 (pT (psr t sz f)) ∧ RM1 l L xs n K G P t sz f jX12_isE 10 (pE (psr t sz f)) := by
  intro f
  induction f with
  | zero => exact ⟨fun D d p m S Q _ _ _ _ _ _ _ h => absurd h (Nat.not_lt_zero _), fun D d p m S Q _ _ _ _ _ _ _ h => absurd h (Nat.not_lt_zero _), fun D d p m S Q _ _ _ _ _ _ _ h => absurd h (Nat.not_lt_zero _)⟩
  | succ f ih =>
    have hF := mm_isF ih.1 ih.2.2
    have hT := mm_isT hF ih.2.1
    exact ⟨hF, hT, mm_isE hT ih.2.2⟩
end B
end

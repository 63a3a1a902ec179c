noncomputable section
/-! NUMBERS, of the component. -/
def dig (t : Nat → Nat) (sz p : Nat) : Bool := decide (p < sz ∧ 48 ≤ t p ∧ t p ≤ 57)
def num (t : Nat → Nat) (sz p : Nat) : Option (Nat × Nat) := if dig t sz p = true then (if dig t sz (p + 1) = true then some (10 * (t p - 48) + (t (p + 1) - 48), p + 2) else some (t p - 48, p + 1)) else none
def FrAt (s : Nat) (S S' : Mi) : Prop := ∀ b j, ¬ (b = s ∧ j = 9) → S' b j = S b j
theorem num_lt {t : Nat → Nat} {sz p v p' : Nat} (h : num t sz p = some (v, p')) : v < 100 ∧ p < p' ∧ p' ≤ sz ∧ p' ≤ p + 2 := by
  unfold num at h
  split at h
  · rename_i h1
    unfold dig at h1
    rw [decide_eq_true_eq] at h1
    split at h
    · rename_i h2
      unfold dig at h2
      rw [decide_eq_true_eq] at h2
      simp only [Option.some.injEq, Prod.mk.injEq] at h
      omega
    · simp only [Option.some.injEq, Prod.mk.injEq] at h
      omega
  · cases h
section A
variable {l : Launch} {L : Nat} {xs : Nat → Int32} {D : Nat} {n : Nat} {K : Mk} {S : Mi} {G : Ml} {P : Mr} {Q : QT} {s p sz : Nat} {t : Nat → Nat}
set_option maxRecDepth 20000
theorem m_readNumber (hs : SD s) (hS : TxC s S t sz) (hp : S s 9 = nI p) (hle : p ≤ sz) (h1 : ∀ v p', num t sz p = some (v, p') → ∀ S', FrAt s S S' → S' s 9 = nI p' → Q (some (.int (nI v))) n K S' G P) (h0 : num t sz p = none → Q (some (.int (-1))) n K S G P) : Ok l L xs T1 (D + 1) jX7_readNumber 0 [.ref s] n K S G P Q := by
  refine I_X7_readNumber (by decide) (fun At go => ?_)
  obtain ⟨s1, s2, s3⟩ := hS
  have a91 : ∀ S' v x2, Q (some (.int v)) n K S' G P → At 91 [.ref s, .int v, x2] [] n K S' G P 0 := by
    intro S' v x2 hQ
    refine go [] 60 _ _ _ _ _ _ _ _ _ ?_
    exact hQ
  have dg : ∀ q, dig t sz q = true ↔ (q < sz ∧ 48 ≤ t q ∧ t q ≤ 57) := fun q => by unfold dig; rw [decide_eq_true_eq]
  -- the second place
  have a4_1 : ∀ S', FrAt s S S' → S' s 9 = nI (p + 1) → dig t sz p = true → At 4 [.ref s, .int (nI (t p - 48)), .int 1] [] n K S' G P 0 := by
    intro S' f1 f2 hd
    have hd' := (dg p).mp hd
    have sz' : S' s 8 = nI sz := (f1 _ _ (by omega)).trans s2
    have hno : dig t sz (p + 1) = false → Q (some (.int (nI (t p - 48)))) n K S' G P := fun e => h1 _ _ (by unfold num; rw [if_pos hd, e]; rfl) S' f1 f2
    have xp : p + 1 < sz → ixB (S' s 9) 100 = true := fun z => by rw [f2]; exact ixB_nI (by omega) (by decide)
    have ep : p + 1 < sz → S' (s + 5) (S' s 9).toNatClampNeg = nI (t (p + 1)) := fun z => by rw [f2, nI_clamp (by omega), f1 _ _ (by omega)]; exact (s3 (p + 1) z).2
    sorry
  sorry
end A
end

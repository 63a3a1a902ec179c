noncomputable section
/-! NUMBERS, of the component. -/
def dig (t : Nat → Nat) (sz p : Nat) : Bool := decide (p < sz ∧ 48 ≤ t p ∧ t p ≤ 57)
def num (t : Nat → Nat) (sz p : Nat) : Option (Nat × Nat) := if dig t sz p = true then (if dig t sz (p + 1) = true then some (10 * (t p - 48) + (t (p + 1) - 48), p + 2) else some (t p - 48, p + 1)) else none
def FrAt (s : Nat) (S S' : Mi) : Prop := ∀ b j, ¬ (b = s ∧ j = 9) → S' b j = S b j
theorem num_lt {t : Nat → Nat} {sz p v p' : Nat} (h : num t sz p = some (v, p')) : v < 100 ∧ p < p' ∧ p' ≤ sz ∧ p' ≤ p + 2 := by
  unfold num at h
  split at h
  · rename_i h1
    unfold dig at h1
    rw [decide_eq_true_eq] at h1
    split at h
    · rename_i h2
      unfold dig at h2
      rw [decide_eq_true_eq] at h2
      simp only [Option.some.injEq, Prod.mk.injEq] at h
      omega
    · simp only [Option.some.injEq, Prod.mk.injEq] at h
      omega
  · cases h
theorem dg1 : ∀ b, b < 58 → 48 ≤ b → 0 + nI b - 48 = nI (b - 48) := by decide +kernel
theorem dg2 : ∀ a, a < 10 → ∀ b, b < 58 → 48 ≤ b → nI a * 10 + nI b - 48 = nI (10 * a + (b - 48)) := by decide +kernel
section A
variable {l : Launch} {L : Nat} {xs : Nat → Int32} {D : Nat} {n : Nat} {K : Mk} {S : Mi} {G : Ml} {P : Mr} {Q : QT} {s p sz : Nat} {t : Nat → Nat}
set_option maxRecDepth 20000
theorem m_readNumber (hs : SD s) (hS : TxC s S t sz) (hp : S s 9 = nI p) (hle : p ≤ sz) (h1 : ∀ v p', num t sz p = some (v, p') → ∀ S', FrAt s S S' → S' s 9 = nI p' → Q (some (.int (nI v))) n K S' G P) (h0 : num t sz p = none → Q (some (.int (-1))) n K S G P) : Ok l L xs T1 (D + 1) jX7_readNumber 0 [.ref s] n K S G P Q := by
  refine I_X7_readNumber (by decide) (fun At go => ?_)
  obtain ⟨s1, s2, s3⟩ := hS
  have a91 : ∀ S' v x2, Q (some (.int v)) n K S' G P → At 91 [.ref s, .int v, x2] [] n K S' G P 0 := by
    intro S' v x2 hQ
    refine go [] 60 _ _ _ _ _ _ _ _ _ ?_
    exact hQ
  have dg : ∀ q, dig t sz q = true ↔ (q < sz ∧ 48 ≤ t q ∧ t q ≤ 57) := fun q => by unfold dig; rw [decide_eq_true_eq]
  -- the second place
  have a4_1 : ∀ S', FrAt s S S' → S' s 9 = nI (p + 1) → dig t sz p = true → At 4 [.ref s, .int (nI (t p - 48)), .int 1] [] n K S' G P 0 := by
    intro S' f1 f2 hd
    have hd' := (dg p).mp hd
    have sz' : S' s 8 = nI sz := (f1 _ _ (by omega)).trans s2
    have hno : dig t sz (p + 1) = false → Q (some (.int (nI (t p - 48)))) n K S' G P := fun e => h1 _ _ (by unfold num; rw [if_pos hd, e]; rfl) S' f1 f2
    have xp : p + 1 < sz → ixB (S' s 9) 100 = true := fun z => by rw [f2]; exact ixB_nI (by omega) (by decide)
    have ep : p + 1 < sz → S' (s + 5) (S' s 9).toNatClampNeg = nI (t (p + 1)) := fun z => by rw [f2, nI_clamp (by omega), f1 _ _ (by omega)]; exact (s3 (p + 1) z).2
    have fin : p + 1 < sz → 48 ≤ t (p + 1) → t (p + 1) ≤ 57 → Q (some (.int (nI (t p - 48) * 10 + S' (s + 5) (S' s 9).toNatClampNeg - 48))) n K (up2 S' s 9 (S' s 9 + 1)) G P := by
      intro z1 z2 z3
      have e : nI (t p - 48) * 10 + S' (s + 5) (S' s 9).toNatClampNeg - 48 = nI (10 * (t p - 48) + (t (p + 1) - 48)) := by
        rw [ep z1]
        exact dg2 _ (by omega) _ (by omega) z2
      rw [e]
      have hd2 : dig t sz (p + 1) = true := (dg _).mpr ⟨z1, z2, z3⟩
      refine h1 _ (p + 2) (by unfold num; rw [if_pos hd, if_pos hd2]) _ (fun b j hb => (up2_o _ _ (by omega)).trans (f1 b j hb)) ?_
      rw [up2_s, f2]
      exact nI_1 (p + 1)
    have hlt : ¬ (p + 1 < sz ∧ 48 ≤ t (p + 1) ∧ t (p + 1) ≤ 57) → Q (some (.int (nI (t p - 48)))) n K S' G P := fun z => hno (by
      cases e : dig t sz (p + 1) with
      | false => rfl
      | true => exact absurd ((dg _).mp e) z)
    rcases hs with rfl | rfl | rfl | rfl | rfl | rfl <;> (
    refine go [91] 90 _ _ _ _ _ _ _ _ _ ?_
    refine ite_i (fun z => ?_) (fun z => ?_)
    · rw [f2, sz', le_i, nI_toInt (by omega), nI_toInt (by omega)] at z
      exact a91 S' _ _ (hlt (by omega))
    rw [f2, sz', le_i, nI_toInt (by omega), nI_toInt (by omega)] at z
    have zp : p + 1 < sz := by omega
    have tl := (s3 (p + 1) zp).1
    have ep' := ep zp
    refine ite_t (xp zp) ?_
    refine ite_i (fun z2 => ?_) (fun z2 => ?_)
    · have z3 := z2
      rw [ep', lt_i, nI_toInt (by omega)] at z3
      have : (48 : Int32).toInt = 48 := rfl
      exact a91 S' _ _ (hlt (by omega))
    have z3 := z2
    rw [ep', lt_i, nI_toInt (by omega)] at z3
    have e48 : (48 : Int32).toInt = 48 := rfl
    refine ite_t (xp zp) ?_
    refine ite_i (fun z4 => ?_) (fun z4 => ?_)
    · have z5 := z4
      rw [ep', lt_i, nI_toInt (by omega)] at z5
      have : (57 : Int32).toInt = 57 := rfl
      exact a91 S' _ _ (hlt (by omega))
    have z5 := z4
    rw [ep', lt_i, nI_toInt (by omega)] at z5
    have e57 : (57 : Int32).toInt = 57 := rfl
    refine ite_f (by rw [eq_i, nI_toInt (by omega), t_m1]; omega) ?_
    refine ite_t (xp zp) ?_
    refine a91 _ _ _ ?_
    exact fin zp (by omega) (by omega))
  have sz0 : S s 8 = nI sz := s2
  have xp : p < sz → ixB (S s 9) 100 = true := fun z => by rw [hp]; exact ixB_nI (by omega) (by decide)
  have ep : p < sz → S (s + 5) (S s 9).toNatClampNeg = nI (t p) := fun z => by rw [hp, nI_clamp (by omega)]; exact (s3 p z).2
  have hlt : ¬ (p < sz ∧ 48 ≤ t p ∧ t p ≤ 57) → Q (some (.int (-1))) n K S G P := fun z => h0 (by
    unfold num
    rw [if_neg (fun e => z ((dg _).mp e))])
  have fin : p < sz → 48 ≤ t p → t p ≤ 57 → At 4 [.ref s, .int (0 + S (s + 5) (S s 9).toNatClampNeg - 48), .int 1] [] n K (up2 S s 9 (S s 9 + 1)) G P 0 := by
    intro z1 z2 z3
    have e : 0 + S (s + 5) (S s 9).toNatClampNeg - 48 = nI (t p - 48) := by rw [ep z1]; exact dg1 _ (by omega) z2
    rw [e]
    exact a4_1 _ (fun b j hb => up2_o _ _ (by omega)) (by rw [up2_s, hp]; exact nI_1 p) ((dg p).mpr ⟨z1, z2, z3⟩)
  have a4_0 : At 4 [.ref s, .int (-1), .int 0] [] n K S G P 0 := by
    rcases hs with rfl | rfl | rfl | rfl | rfl | rfl <;> (
    refine go [4, 91] 90 _ _ _ _ _ _ _ _ _ ?_
    refine ite_i (fun z => ?_) (fun z => ?_)
    · rw [hp, sz0, le_i, nI_toInt (by omega), nI_toInt (by omega)] at z
      exact a91 S _ _ (hlt (by omega))
    rw [hp, sz0, le_i, nI_toInt (by omega), nI_toInt (by omega)] at z
    have zp : p < sz := by omega
    have tl := (s3 p zp).1
    have ep' := ep zp
    refine ite_t (xp zp) ?_
    refine ite_i (fun z2 => ?_) (fun z2 => ?_)
    · have z3 := z2
      rw [ep', lt_i, nI_toInt (by omega)] at z3
      have : (48 : Int32).toInt = 48 := rfl
      exact a91 S _ _ (hlt (by omega))
    have z3 := z2
    rw [ep', lt_i, nI_toInt (by omega)] at z3
    have e48 : (48 : Int32).toInt = 48 := rfl
    refine ite_t (xp zp) ?_
    refine ite_i (fun z4 => ?_) (fun z4 => ?_)
    · have z5 := z4
      rw [ep', lt_i, nI_toInt (by omega)] at z5
      have : (57 : Int32).toInt = 57 := rfl
      exact a91 S _ _ (hlt (by omega))
    have z5 := z4
    rw [ep', lt_i, nI_toInt (by omega)] at z5
    have e57 : (57 : Int32).toInt = 57 := rfl
    refine ite_t (xp zp) ?_
    exact fin zp (by omega) (by omega))
  refine go [4] 60 _ _ _ _ _ _ _ _ _ ?_
  exact a4_0
end A
end

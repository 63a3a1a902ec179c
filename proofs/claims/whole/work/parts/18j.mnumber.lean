noncomputable section
/-! NUMBERS, of the model. -/
def FrV (S S' : Mi) : Prop := ∀ b j, ¬ (b = 120 ∧ (j = 11 ∨ j = 12 ∨ j = 13)) → S' b j = S b j
theorem FrT_v {m : Nat} {S S' : Mi} (h : FrV S S') : FrT m S S' := fun b j h1 _ => h b j (by omega)
section B
variable {l : Launch} {L : Nat} {xs : Nat → Int32} {D : Nat} {n : Nat} {K : Mk} {S : Mi} {G : Ml} {P : Mr} {Q : QT} {p sz m : Nat} {t : Nat → Nat}
set_option maxRecDepth 20000
theorem mm_isDigit (hS : TxM S t sz) (hp : S 120 11 = nI p) (hle : p ≤ sz) (h : Q (some (.int (b2i (dig t sz p)))) n K S G P) : Ok l L xs T1 (D + 1) jX12_isDigit 0 [.ref 120] n K S G P Q := by
  refine I_X12_isDigit (by decide) (fun At go => ?_)
  obtain ⟨s1, s2, s3⟩ := hS
  have a43 : ¬ (p < sz ∧ 48 ≤ t p ∧ t p ≤ 57) → At 43 [.ref 120] [] n K S G P 0 := by
    intro z
    rw [show dig t sz p = false from decide_eq_false z] at h
    refine go [] 60 _ _ _ _ _ _ _ _ _ ?_
    exact h
  have xp : p < sz → ixB (S 120 11) 100 = true := fun z => by rw [hp]; exact ixB_nI (by omega) (by decide)
  have ep : p < sz → S 128 (S 120 11).toNatClampNeg = nI (t p) := fun z => by rw [hp, nI_clamp (by omega)]; exact (s3 p z).2
  refine go [43] 60 _ _ _ _ _ _ _ _ _ ?_
  refine ite_i (fun z => ?_) (fun z => ?_)
  · rw [hp, s2, le_i, nI_toInt (by omega), nI_toInt (by omega)] at z
    exact a43 (by omega)
  rw [hp, s2, le_i, nI_toInt (by omega), nI_toInt (by omega)] at z
  have zp : p < sz := by omega
  have tl := (s3 p zp).1
  have ep' := ep zp
  refine ite_t (xp zp) ?_
  refine ite_i (fun z2 => ?_) (fun z2 => ?_)
  · have z3 := z2
    rw [ep', lt_i, nI_toInt (by omega)] at z3
    have : (48 : Int32).toInt = 48 := rfl
    exact a43 (by omega)
  have z3 := z2
  rw [ep', lt_i, nI_toInt (by omega)] at z3
  have e48 : (48 : Int32).toInt = 48 := rfl
  refine ite_t (xp zp) ?_
  refine ite_i (fun z4 => ?_) (fun z4 => ?_)
  · have z5 := z4
    rw [ep', lt_i, nI_toInt (by omega)] at z5
    have : (57 : Int32).toInt = 57 := rfl
    exact a43 (by omega)
  have z5 := z4
  rw [ep', lt_i, nI_toInt (by omega)] at z5
  have e57 : (57 : Int32).toInt = 57 := rfl
  rw [show dig t sz p = true from decide_eq_true ⟨zp, by omega, by omega⟩] at h
  exact h
theorem mm_isNumber (hS : TxM S t sz) (hp : S 120 11 = nI p) (hle : p ≤ sz) (h1 : ∀ v p', num t sz p = some (v, p') → ∀ S', FrV S S' → S' 120 11 = nI p' → S' 120 12 = nI v → Q (some (.int 1)) n K S' G P) (h0 : num t sz p = none → ∀ S', FrV S S' → S' 120 11 = nI p → Q (some (.int 0)) n K S' G P) : Ok l L xs T1 (D + 2) jX12_isNumber 0 [.ref 120] n K S G P Q := by
  refine I_X12_isNumber (by decide) (fun At go => ?_)
  obtain ⟨s1, s2, s3⟩ := hS
  have fr : ∀ S', FrV S S' → TxM S' t sz := fun S' f => TxM_fr (m := 0) (FrT_v f) ⟨s1, s2, s3⟩
  have a72p : ∀ S', (∃ k, 0 < k ∧ k < 3 ∧ S' 120 13 = nI k) → Q (some (.int 1)) n K S' G P → At 72 [.ref 120] [] n K S' G P 0 := by
    intro S' ⟨k, k1, k2, k3⟩ hQ
    refine go [83] 60 _ _ _ _ _ _ _ _ _ ?_
    refine ite_f (by rw [k3, le_i, nI_toInt (by omega), t_0]; omega) ?_
    exact hQ
  have a72z : ∀ S', S' 120 13 = 0 → Q (some (.int 0)) n K S' G P → At 72 [.ref 120] [] n K S' G P 0 := by
    intro S' e hQ
    have a83 : At 83 [.ref 120] [] n K S' G P 0 := by
      refine go [] 60 _ _ _ _ _ _ _ _ _ ?_
      exact hQ
    refine go [83] 60 _ _ _ _ _ _ _ _ _ ?_
    refine ite_t (by rw [e]; decide) ?_
    exact a83
  -- at the second place
  have a10_2 : ∀ S' v p', num t sz p = some (v, p') → FrV S S' → S' 120 11 = nI p' → S' 120 12 = nI v → S' 120 13 = 2 → At 10 [.ref 120] [] n K S' G P 0 := by
    intro S' v p' e f g1 g2 g3
    refine go [10, 72] 60 _ _ _ _ _ _ _ _ _ ?_
    refine ite_t (by rw [g3]; decide) ?_
    exact a72p S' ⟨2, by decide, by decide, g3⟩ (h1 v p' e S' f g1 g2)
  have a10_1 : ∀ S', dig t sz p = true → FrV S S' → S' 120 11 = nI (p + 1) → S' 120 12 = nI (t p - 48) → S' 120 13 = 1 → At 10 [.ref 120] [] n K S' G P 0 := by
    intro S' hd f g1 g2 g3
    have hd' : p < sz ∧ 48 ≤ t p ∧ t p ≤ 57 := by unfold dig at hd; rw [decide_eq_true_eq] at hd; exact hd
    refine go [10, 72] 60 _ _ _ _ _ _ _ _ _ ?_
    refine ite_f (by rw [g3]; decide) ?_
    refine mm_isDigit (fr S' f) g1 (by omega) ?_
    cases hd2 : dig t sz (p + 1) with
    | false =>
      exact a72p S' ⟨1, by decide, by decide, g3⟩ (h1 _ _ (by unfold num; rw [if_pos hd, hd2]; rfl) S' f g1 g2)
    | true =>
      have hd2' : p + 1 < sz ∧ 48 ≤ t (p + 1) ∧ t (p + 1) ≤ 57 := by unfold dig at hd2; rw [decide_eq_true_eq] at hd2; exact hd2
      have xp : ixB (S' 120 11) 100 = true := by rw [g1]; exact ixB_nI (by omega) (by decide)
      have ep : S' 128 (S' 120 11).toNatClampNeg = nI (t (p + 1)) := by rw [g1, nI_clamp (by omega), f _ _ (by omega)]; exact (s3 (p + 1) hd2'.1).2
      have ev : 10 * S' 120 12 + S' 128 (S' 120 11).toNatClampNeg - 48 = nI (10 * (t p - 48) + (t (p + 1) - 48)) := by
        rw [ep, g2, Int32.mul_comm]
        exact dg2 _ (by omega) _ (by omega) hd2'.2.1
      refine ite_t xp ?_
      have st := a10_2 (up2 (up2 (up2 S' 120 12 (10 * S' 120 12 + S' 128 (S' 120 11).toNatClampNeg - 48)) 120 11 (S' 120 11 + 1)) 120 13 (S' 120 13 + 1)) _ (p + 2) (by unfold num; rw [if_pos hd, if_pos hd2]) (fun b j hb => by rw [up2_o _ _ (by omega), up2_o _ _ (by omega), up2_o _ _ (by omega)]; exact f b j hb) (by rw [up2_o _ _ (.inr (by decide)), up2_s, g1]; exact nI_1 (p + 1)) (by rw [up2_o _ _ (.inr (by decide)), up2_o _ _ (.inr (by decide)), up2_s]; exact ev) (by rw [up2_s, g3]; decide)
      exact st
  have a10_0 : ∀ S', FrV S S' → S' 120 11 = nI p → S' 120 12 = 0 → S' 120 13 = 0 → At 10 [.ref 120] [] n K S' G P 0 := by
    intro S' f g1 g2 g3
    refine go [10, 72] 60 _ _ _ _ _ _ _ _ _ ?_
    refine ite_f (by rw [g3]; decide) ?_
    refine mm_isDigit (fr S' f) g1 hle ?_
    cases hd : dig t sz p with
    | false =>
      exact a72z S' g3 (h0 (by unfold num; rw [hd]; rfl) S' f g1)
    | true =>
      have hd' : p < sz ∧ 48 ≤ t p ∧ t p ≤ 57 := by unfold dig at hd; rw [decide_eq_true_eq] at hd; exact hd
      have xp : ixB (S' 120 11) 100 = true := by rw [g1]; exact ixB_nI (by omega) (by decide)
      have ep : S' 128 (S' 120 11).toNatClampNeg = nI (t p) := by rw [g1, nI_clamp (by omega), f _ _ (by omega)]; exact (s3 p hd'.1).2
      have ev : 10 * S' 120 12 + S' 128 (S' 120 11).toNatClampNeg - 48 = nI (t p - 48) := by
        rw [ep, g2]
        exact dg1 _ (by omega) hd'.2.1
      refine ite_t xp ?_
      have st := a10_1 (up2 (up2 (up2 S' 120 12 (10 * S' 120 12 + S' 128 (S' 120 11).toNatClampNeg - 48)) 120 11 (S' 120 11 + 1)) 120 13 (S' 120 13 + 1)) hd (fun b j hb => by rw [up2_o _ _ (by omega), up2_o _ _ (by omega), up2_o _ _ (by omega)]; exact f b j hb) (by rw [up2_o _ _ (.inr (by decide)), up2_s, g1]; exact nI_1 p) (by rw [up2_o _ _ (.inr (by decide)), up2_o _ _ (.inr (by decide)), up2_s]; exact ev) (by rw [up2_s, g3]; decide)
      exact st
  refine go [10] 60 _ _ _ _ _ _ _ _ _ ?_
  exact a10_0 (up2 (up2 S 120 12 0) 120 13 0) (fun b j hb => by rw [up2_o _ _ (by omega), up2_o _ _ (by omega)]) (by rw [up2_o _ _ (.inr (by decide)), up2_o _ _ (.inr (by decide))]; exact hp) (by rw [up2_o _ _ (.inr (by decide)), up2_s]) (by rw [up2_s])
end B
end

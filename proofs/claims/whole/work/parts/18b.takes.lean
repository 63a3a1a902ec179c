noncomputable section
/-! THE READER of the component: leaves. -/
def TxC (s : Nat) (S : Mi) (t : Nat → Nat) (sz : Nat) : Prop := sz ≤ 100 ∧ S s 8 = nI sz ∧ ∀ i, i < sz → t i < 128 ∧ S (s + 5) i = nI (t i)
section A
variable {l : Launch} {L : Nat} {xs : Nat → Int32} {D : Nat} {n : Nat} {K : Mk} {S : Mi} {G : Ml} {P : Mr} {Q : QT} {s p sz : Nat} {t : Nat → Nat}
set_option maxRecDepth 20000
theorem m_takes {c : Nat} {x : Int32} (ex : x = nI c) (hs : SD s) (hS : TxC s S t sz) (hp : S s 9 = nI p) (hle : p ≤ sz) (hc : c < 128) (h1 : p < sz → t p = c → Q (some (.int 1)) n K (up2 S s 9 (nI (p + 1))) G P) (h0 : ¬ (p < sz ∧ t p = c) → Q (some (.int 0)) n K S G P) : Ok l L xs T1 (D + 1) jX7_takes 0 [.ref s, .int x] n K S G P Q := by
  subst ex
  refine I_X7_takes (by decide) (fun At go => ?_)
  obtain ⟨s1, s2, s3⟩ := hS
  have a24 : ¬ (p < sz ∧ t p = c) → At 24 [.ref s, .int (nI c)] [] n K S G P 0 := by
    intro z
    have h0 := h0 z
    refine go [] 60 _ _ _ _ _ _ _ _ _ ?_
    exact h0
  have a26 : p < sz → t p = c → At 26 [.ref s, .int (nI c)] [] n K S G P 0 := by
    intro z1 z2
    have h1 := h1 z1 z2
    have e : S s 9 + 1 = nI (p + 1) := by rw [hp]; exact nI_1 p
    rw [← e] at h1
    rcases hs with rfl | rfl | rfl | rfl | rfl | rfl <;> (
    refine go [] 60 _ _ _ _ _ _ _ _ _ ?_
    exact h1)
  have xp : p < sz → ixB (S s 9) 100 = true := fun z => by rw [hp]; exact ixB_nI (by omega) (by decide)
  have ep : p < sz → S (s + 5) (S s 9).toNatClampNeg = nI (t p) := fun z => by rw [hp, nI_clamp (by omega)]; exact (s3 p z).2
  rcases hs with rfl | rfl | rfl | rfl | rfl | rfl <;> (
  refine go [24, 26] 60 _ _ _ _ _ _ _ _ _ ?_
  refine ite_i (fun z => ?_) (fun z => ?_)
  · rw [hp, s2, le_i, nI_toInt (by omega), nI_toInt (by omega)] at z
    exact a24 (fun w => by omega)
  · rw [hp, s2, le_i, nI_toInt (by omega), nI_toInt (by omega)] at z
    have zp : p < sz := by omega
    have tl := (s3 p zp).1
    refine ite_t (xp zp) ?_
    refine ite_i (fun z2 => ?_) (fun z2 => ?_)
    · have z3 : nI (t p) = nI c := (ep zp).symm.trans z2
      rw [eq_i, nI_toInt (by omega), nI_toInt (by omega)] at z3
      exact a26 zp (by omega)
    · exact a24 (fun w => z2 ((ep zp).trans (by rw [w.2]))))
theorem m_addStep {m c : Nat} {x : Int32} (ex : x = stI0 c) (hs : SD s) (hm : S s 5 = nI m) (hm1 : m < 100) (h : Q none n K (up2 (up2 S (s + 3) m (stI0 c)) s 5 (nI (m + 1))) G P) : Ok l L xs T1 (D + 1) jX7_addStep 0 [.ref s, .int x] n K S G P Q := by
  subst ex
  refine I_X7_addStep (by decide) (fun At go => ?_)
  have xm : ixB (S s 5) 100 = true := by rw [hm]; exact ixB_nI (by omega) (by decide)
  have em : (S s 5).toNatClampNeg = m := by rw [hm, nI_clamp (by omega)]
  have e1 : S s 5 + 1 = nI (m + 1) := by rw [hm]; exact nI_1 m
  rw [← e1, ← em] at h
  have a29 : ∀ S', Q none n K S' G P → At 29 [.ref s, .int (stI0 c)] [] n K S' G P 0 := by
    intro S' hQ
    refine go [] 60 _ _ _ _ _ _ _ _ _ ?_
    exact hQ
  rcases hs with rfl | rfl | rfl | rfl | rfl | rfl <;> (
  refine go [29] 60 _ _ _ _ _ _ _ _ _ ?_
  refine ite_f (by rw [hm, le_i, nI_toInt (by omega), t_100]; omega) ?_
  refine ite_t xm ?_
  exact a29 _ h)
end A
end

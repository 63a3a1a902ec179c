noncomputable section
section A
variable {l : Launch} {L : Nat} {xs : Nat → Int32} {D : Nat} {n : Nat} {K : Mk} {S : Mi} {G : Ml} {P : Mr} {Q : QT} {s p sz : Nat} {t : Nat → Nat}
set_option maxRecDepth 20000
theorem m_readWord (hs : SD s) (hS : TxC s S t sz) (hp : S s 9 = nI p) (hle : p ≤ sz) (h : ∀ S', FrAt s S S' → S' s 9 = nI (wdP t sz p).2 → Q (some (.int (wdI (wdP t sz p).1))) n K S' G P) : Ok l L xs T1 (D + 6) jX7_readWord 0 [.ref s] n K S G P Q := by
  refine I_X7_readWord (by decide) (fun At go => ?_)
  have tx : ∀ v, TxC s (up2 S s 9 v) t sz := fun v => TxC_fr (m := 0) (FrS_at (fun b j hb => up2_o _ _ (by omega))) hS
  have fr : ∀ v S', FrAt s (up2 S s 9 v) S' → FrAt s S S' := fun v S' f b j hb => (f b j hb).trans (up2_o _ _ (by omega))
  have ret24 : ∀ S' v, Q (some (.int v)) n K S' G P → At 24 [.ref s] [.int v] n K S' G P 0 := by
    intro S' v hQ
    refine go [] 60 _ _ _ _ _ _ _ _ _ ?_
    exact hQ
  have ret49 : ∀ S' v, Q (some (.int v)) n K S' G P → At 49 [.ref s] [.int v] n K S' G P 0 := by
    intro S' v hQ
    refine go [] 60 _ _ _ _ _ _ _ _ _ ?_
    exact hQ
  have ret74 : ∀ S' v, Q (some (.int v)) n K S' G P → At 74 [.ref s] [.int v] n K S' G P 0 := by
    intro S' v hQ
    refine go [] 60 _ _ _ _ _ _ _ _ _ ?_
    exact hQ
  have a72 : ∀ S', Q (some (.int (-2))) n K S' G P → At 72 [.ref s] [] n K S' G P 0 := by
    intro S' hQ
    refine go [74] 60 _ _ _ _ _ _ _ _ _ ?_
    exact ret74 S' _ hQ
  have a22 : ∀ S', Q (some (.int (-2))) n K S' G P → At 22 [.ref s] [] n K S' G P 0 := by
    intro S' hQ
    refine go [24] 60 _ _ _ _ _ _ _ _ _ ?_
    exact ret24 S' _ hQ
  have a47 : ∀ S', Q (some (.int (-2))) n K S' G P → At 47 [.ref s] [] n K S' G P 0 := by
    intro S' hQ
    refine go [49] 60 _ _ _ _ _ _ _ _ _ ?_
    exact ret49 S' _ hQ
  have a50 : ¬ isC t sz 108 p = true → ¬ isC t sz 100 p = true → At 50 [.ref s] [] n K S G P 0 := by
    intro c1 c2
    unfold wdP at h
    rw [if_neg c1, if_neg c2] at h
    refine go [72, 74] 60 _ _ _ _ _ _ _ _ _ ?_
    refine sv_go hs ?_
    refine m_takes (c := 98) rfl hs hS hp hle (by decide) (fun z1 z2 => ?_) (fun z => ?_)
    · have c := isC_i.mpr ⟨z1, z2⟩
      rw [if_pos c, mW_7 c] at h
      refine sv_go hs ?_
      refine m_takesAll hs (tx _) (up2_s _ _ _ _) z1 (by decide) (by decide) (by decide) (fun S' f g => ?_)
      have fin := h S' (fr _ _ f) g
      cases hb : (mW t sz (wdL 2) (p + 1)).1 with
      | true => rw [hb, if_pos rfl] at fin; exact ret74 S' 0 fin
      | false => rw [hb, if_neg (by decide)] at fin; exact a72 S' fin
    · rw [if_neg (fun w => z (isC_i.mp w))] at h
      exact a72 S (h S (fun _ _ _ => rfl) hp)
  have a25 : ¬ isC t sz 108 p = true → At 25 [.ref s] [] n K S G P 0 := by
    intro c1
    refine go [47, 49, 50] 60 _ _ _ _ _ _ _ _ _ ?_
    refine sv_go hs ?_
    refine m_takes (c := 100) rfl hs hS hp hle (by decide) (fun z1 z2 => ?_) (fun z => a50 c1 (fun w => z (isC_i.mp w)))
    have c := isC_i.mpr ⟨z1, z2⟩
    unfold wdP at h
    rw [if_neg c1, if_pos c, mW_6 c] at h
    refine sv_go hs ?_
    refine m_takesAll hs (tx _) (up2_s _ _ _ _) z1 (by decide) (by decide) (by decide) (fun S' f g => ?_)
    have fin := h S' (fr _ _ f) g
    cases hb : (mW t sz (wdL 1) (p + 1)).1 with
    | true => rw [hb, if_pos rfl] at fin; exact ret49 S' (-1) fin
    | false => rw [hb, if_neg (by decide)] at fin; exact a47 S' fin
  refine go [22, 24, 25] 60 _ _ _ _ _ _ _ _ _ ?_
  refine sv_go hs ?_
  refine m_takes (c := 108) rfl hs hS hp hle (by decide) (fun z1 z2 => ?_) (fun z => a25 (fun w => z (isC_i.mp w)))
  have c := isC_i.mpr ⟨z1, z2⟩
  unfold wdP at h
  rw [if_pos c, mW_5 c] at h
  refine sv_go hs ?_
  refine m_takesAll hs (tx _) (up2_s _ _ _ _) z1 (by decide) (by decide) (by decide) (fun S' f g => ?_)
  have fin := h S' (fr _ _ f) g
  cases hb : (mW t sz (wdL 0) (p + 1)).1 with
  | true => rw [hb, if_pos rfl] at fin; exact ret24 S' 1 fin
  | false => rw [hb, if_neg (by decide)] at fin; exact a22 S' fin
end A
end

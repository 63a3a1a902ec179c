noncomputable section
section A
variable {l : Launch} {L : Nat} {xs : Nat → Int32} {n : Nat} {K : Mk} {G : Ml} {P : Mr} {s sz : Nat} {t : Nat → Nat}
theorem m_singles (hs : SD s) : ∀ f, RC1 l L xs n K G P s t sz f jX7_readsSingle 8 (psr t sz f 0) := by
  intro f
  induction f using Nat.strongRecOn with
  | _ f ih =>
    cases f with
    | zero => intro D d p m vd S Q _ _ _ _ _ _ _ h; exact absurd h (Nat.not_lt_zero _)
    | succ f =>
      have hB : ∀ f', f' ≤ f → RC1 l L xs n K G P s t sz f' jX7_readsBoth 9 (pT (psr t sz f')) := fun f' h1 => m_readsBoth hs (fun f'' h2 => ih f'' (by omega))
      exact m_readsSingle hs (ih f (by omega)) (m_readsEither hs hB)
theorem m_eithers (hs : SD s) (f : Nat) : RC1 l L xs n K G P s t sz f jX7_readsEither 10 (pE (psr t sz f)) := m_readsEither hs (fun f' _ => m_readsBoth hs (fun f'' _ => m_singles hs f''))
end A
/-! THE READER of the model: leaves. -/
def TxM (S : Mi) (t : Nat → Nat) (sz : Nat) : Prop := sz ≤ 100 ∧ S 120 9 = nI sz ∧ ∀ i, i < sz → t i < 128 ∧ S 128 i = nI (t i)
def FrT (m : Nat) (S S' : Mi) : Prop := ∀ b j, ¬ (b = 120 ∧ (j = 11 ∨ j = 12 ∨ j = 13 ∨ j = 14 ∨ j = 23)) → ¬ (b = 134 ∧ m ≤ j) → S' b j = S b j
theorem FrT.rf (m : Nat) (S : Mi) : FrT m S S := fun _ _ _ _ => rfl
theorem FrT.tr {m m' : Nat} {S S' S'' : Mi} (hm : m ≤ m') (h : FrT m S S') (g : FrT m' S' S'') : FrT m S S'' := fun b j h1 h2 => (g b j h1 (by omega)).trans (h b j h1 h2)
theorem TxM_fr {m : Nat} {S S' : Mi} {t : Nat → Nat} {sz : Nat} (h : FrT m S S') (hS : TxM S t sz) : TxM S' t sz := ⟨hS.1, (h _ _ (by omega) (by omega)).trans hS.2.1, fun i hi => ⟨(hS.2.2 i hi).1, (h _ _ (by omega) (by omega)).trans (hS.2.2 i hi).2⟩⟩
section B
variable {l : Launch} {L : Nat} {xs : Nat → Int32} {D : Nat} {n : Nat} {K : Mk} {S : Mi} {G : Ml} {P : Mr} {Q : QT} {p sz m : Nat} {t : Nat → Nat}
set_option maxRecDepth 20000
theorem mm_is {c : Nat} {x : Int32} (ex : x = nI c) (hS : TxM S t sz) (hp : S 120 11 = nI p) (hle : p ≤ sz) (hc : c < 128) (h1 : p < sz → t p = c → Q (some (.int 1)) n K (up2 S 120 11 (nI (p + 1))) G P) (h0 : ¬ (p < sz ∧ t p = c) → Q (some (.int 0)) n K S G P) : Ok l L xs T1 (D + 1) jX12_is 0 [.ref 120, .int x] n K S G P Q := by
  subst ex
  refine I_X12_is (by decide) (fun At go => ?_)
  obtain ⟨s1, s2, s3⟩ := hS
  have a24 : ¬ (p < sz ∧ t p = c) → At 24 [.ref 120, .int (nI c)] [] n K S G P 0 := by
    intro z
    have h0 := h0 z
    refine go [] 60 _ _ _ _ _ _ _ _ _ ?_
    exact h0
  have a26 : p < sz → t p = c → At 26 [.ref 120, .int (nI c)] [] n K S G P 0 := by
    intro z1 z2
    have h1 := h1 z1 z2
    have e : S 120 11 + 1 = nI (p + 1) := by rw [hp]; exact nI_1 p
    rw [← e] at h1
    refine go [] 60 _ _ _ _ _ _ _ _ _ ?_
    exact h1
  have xp : p < sz → ixB (S 120 11) 100 = true := fun z => by rw [hp]; exact ixB_nI (by omega) (by decide)
  have ep : p < sz → S 128 (S 120 11).toNatClampNeg = nI (t p) := fun z => by rw [hp, nI_clamp (by omega)]; exact (s3 p z).2
  refine go [24, 26] 60 _ _ _ _ _ _ _ _ _ ?_
  refine ite_i (fun z => ?_) (fun z => ?_)
  · rw [hp, s2, eq_i, nI_toInt (by omega), nI_toInt (by omega)] at z
    exact a24 (fun w => by omega)
  · rw [hp, s2, eq_i, nI_toInt (by omega), nI_toInt (by omega)] at z
    have zp : p < sz := by omega
    have tl := (s3 p zp).1
    refine ite_t (xp zp) ?_
    refine ite_i (fun z2 => ?_) (fun z2 => ?_)
    · have z3 : nI (t p) = nI c := (ep zp).symm.trans z2
      rw [eq_i, nI_toInt (by omega), nI_toInt (by omega)] at z3
      exact a26 zp (by omega)
    · exact a24 (fun w => z2 ((ep zp).trans (by rw [w.2])))
theorem mm_codes {c : Nat} {x : Int32} (ex : x = nI c) (hm : S 120 23 = nI m) (hm1 : m < 800) (h : Q (some (.int 1)) n K (up2 (up2 S 120 23 (nI (m + 1))) 134 m (nI c)) G P) : Ok l L xs T1 (D + 1) jX12_codes 0 [.ref 120, .int x] n K S G P Q := by
  subst ex
  refine I_X12_codes (by decide) (fun At go => ?_)
  have xm : ixB (S 120 23) 800 = true := by rw [hm]; exact ixB_nI (by omega) (by decide)
  have em : (S 120 23).toNatClampNeg = m := by rw [hm, nI_clamp (by omega)]
  have e1 : S 120 23 + 1 = nI (m + 1) := by rw [hm]; exact nI_1 m
  rw [← e1, ← em] at h
  refine go [] 60 _ _ _ _ _ _ _ _ _ ?_
  refine ite_t xm ?_
  exact h
end B
end

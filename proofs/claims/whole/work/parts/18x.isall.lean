noncomputable section
def FrP1 (S S' : Mi) : Prop := ∀ b j, ¬ (b = 120 ∧ j = 11) → S' b j = S b j
section A
variable {l : Launch} {L : Nat} {xs : Nat → Int32} {D : Nat} {n : Nat} {K : Mk} {S : Mi} {G : Ml} {P : Mr} {Q : QT} {p sz a : Nat} {t : Nat → Nat}
set_option maxRecDepth 20000
theorem mm_isAll (hS : TxM S t sz) (hp : S 120 11 = nI p) (hle : p ≤ sz) (ha : a < 8) (h3 : a ≠ 3) (h4 : a ≠ 4) (h : ∀ S', FrP1 S S' → S' 120 11 = nI (mW t sz (wdL a) p).2 → Q (some (.int (b2i (mW t sz (wdL a) p).1))) n K S' G P) : Ok l L xs T1 (D + 5) jX12_isAll 0 [.ref 120, .ref a] n K S G P Q := by
  refine I_X12_isAll (by decide) (fun At go => ?_)
  obtain ⟨w1, w2⟩ := wdL_s a ha h3 h4
  have wl : (wdL a).length ≤ 6 := by
    have e : ∀ a, a < 8 → (wdL a).length ≤ 6 := by decide
    exact e a ha
  have loop : ∀ m i q vi S', i + m = (wdL a).length → vi = nI i → FrP1 S S' → S' 120 11 = nI q → q ≤ sz → mW t sz ((wdL a).drop i) q = mW t sz (wdL a) p → At 2 [.ref 120, .ref a, .int vi] [] n K S' G P 0 := by
    intro m
    induction m with
    | zero =>
      intro i q vi S' hi ev f g hq e
      subst ev
      have ei : (wdL a).drop i = [] := List.drop_eq_nil_of_le (by omega)
      rw [ei] at e
      have e1 : (mW t sz (wdL a) p).1 = true := by rw [← e]; rfl
      have e2 : (mW t sz (wdL a) p).2 = q := by rw [← e]; rfl
      have fin := h S' f (by rw [e2]; exact g)
      rw [e1] at fin
      have a30 : At 30 [.ref 120, .ref a, .int (nI i)] [] n K S' G P 0 := by
        refine go [] 60 _ _ _ _ _ _ _ _ _ ?_
        exact fin
      have ae : a = 0 ∨ a = 1 ∨ a = 2 ∨ a = 5 ∨ a = 6 ∨ a = 7 := by omega
      rcases ae with rfl | rfl | rfl | rfl | rfl | rfl <;> (
      refine go [2, 24, 30] 60 _ _ _ _ _ _ _ _ _ ?_
      refine m_strLen (by decide) ?_
      refine ite_t (by rw [w1, le_i, nI_toInt (by omega), nI_toInt (by omega)]; omega) ?_
      exact a30)
    | succ m ih =>
      intro i q vi S' hi ev f g hq e
      subst ev
      obtain ⟨c1, c2⟩ := w2 i (by omega)
      have hi' : i < (strB.getD a []).length := by omega
      rw [drop_c (by omega)] at e
      have hS' := TxM_fr (m := 0) (fun b j h1 _ => f b j (by omega)) hS
      have a24 : ∀ S'', FrP1 S S'' → S'' 120 11 = nI (q + 1) → q < sz → isC t sz ((wdL a).getD i 0) q = true → At 24 [.ref 120, .ref a, .int (nI i)] [] n K S'' G P 0 := by
        intro S'' f2 g2 z1 z2
        have e' : mW t sz ((wdL a).drop (i + 1)) (q + 1) = mW t sz (wdL a) p := by rw [← e]; exact (if_pos z2).symm
        refine go [2] 60 _ _ _ _ _ _ _ _ _ ?_
        exact ih (i + 1) (q + 1) _ S'' (by omega) (nI_1 i) f2 g2 z1 e'
      have no : ¬ isC t sz ((wdL a).getD i 0) q = true → Q (some (.int 0)) n K S' G P := fun z => by
        have e2 : (false, q) = mW t sz (wdL a) p := by rw [← e]; exact (if_neg z).symm
        have fin := h S' f (by rw [← e2]; exact g)
        rw [← e2] at fin
        exact fin
      have ae : a = 0 ∨ a = 1 ∨ a = 2 ∨ a = 5 ∨ a = 6 ∨ a = 7 := by omega
      rcases ae with rfl | rfl | rfl | rfl | rfl | rfl <;> (
      refine go [2, 24, 30] 60 _ _ _ _ _ _ _ _ _ ?_
      refine m_strLen (by decide) ?_
      refine ite_f (by rw [w1, le_i, nI_toInt (by omega), nI_toInt (by omega)]; omega) ?_
      refine m_strAt (by decide) hi' ?_
      refine mm_is (c := (wdL _).getD i 0) c1 hS' g hq c2 (fun z1 z2 => ?_) (fun z => no (fun w => z (isC_i.mp w)))
      exact a24 _ (fun b j hb => (up2_o _ _ (by omega)).trans (f b j hb)) (up2_s _ _ _ _) z1 (isC_i.mpr ⟨z1, z2⟩))
  refine go [2] 60 _ _ _ _ _ _ _ _ _ ?_
  exact loop (wdL a).length 0 p _ S (by omega) rfl (fun _ _ _ => rfl) hp hle rfl
end A
end

noncomputable section
/-- the first near pair, in the order of the rows: -5 if there is none -/
def fnR (nb : Nat → Nat → Bool) (i : Nat) : Nat → Nat → Option Nat
  | 0, _ => none
  | m + 1, j => if nb i j = true then some (10 * i + j) else fnR nb i m (j + 1)
def fnA (nb : Nat → Nat → Bool) (np : Nat) : Nat → Nat → Option Nat
  | 0, _ => none
  | m + 1, i => match fnR nb i (np - (i + 1)) (i + 1) with
    | some k => some k
    | none => fnA nb np m (i + 1)
/-- a set that leaves no near pair -/
def wallB (nb : Nat → Nat → Bool) (np : Nat) (s : Int32) : Prop := ∀ i j, i < j → j < np → ¬ hb s (nI i) → ¬ hb s (nI j) → nb i j = false
section A
variable {l : Launch} {L : Nat} {xs : Nat → Int32} {D : Nat} {n : Nat} {K : Mk} {S : Mi} {G : Ml} {P : Mr} {Q : QT} {a np : Nat} {ta wd : Nat → Int32}
set_option maxRecDepth 20000
theorem m_nearPairs (ha : TA a) (hn : S a 0 = nI np) (h6 : np ≤ 6) (ht : ∀ i, i < 36 → S (a + 4) i = ta i) (hwd : ∀ i, i < 6 → S (a + 2) i = wd i) (h : Q (some (.int (nearA (nearB ta wd) np np 0 0))) n K S G P) : Ok l L xs T1 (D + 3) jX9_nearPairs 0 [.ref a] n K S G P Q := by
  refine I_X9_nearPairs (by decide) (fun At go => ?_)
  have inner : ∀ i m j vi vj acc, j + m = np → i < j → vi = nI i → vj = nI j → (∀ acc', acc' = nearR (nearB ta wd) i m j acc → ∀ vj', At 47 [.ref a, .int acc', .int vi, .int vj'] [] n K S G P 0) → At 16 [.ref a, .int acc, .int vi, .int vj] [] n K S G P 0 := by
    intro i m
    induction m with
    | zero =>
      intro j vi vj acc hj hij hv hw hk
      subst hv hw
      rcases ha with rfl | rfl | rfl <;> (
      refine go [4, 16, 47] 60 _ _ _ _ _ _ _ _ _ ?_
      refine ite_t ?_ (hk _ rfl _)
      rw [hn, le_i, nI_toInt (by omega), nI_toInt (by omega)]
      omega)
    | succ m ih =>
      intro j vi vj acc hj hij hv hw hk
      have ha' := ha
      subst hw
      rcases ha with rfl | rfl | rfl <;> (
      refine go [4, 16, 47] 60 _ _ _ _ _ _ _ _ _ ?_
      refine ite_f ?_ ?_
      · rw [hn, le_i, nI_toInt (by omega), nI_toInt (by omega)]
        omega
      rw [hv]
      refine m_isNear ha' ht hwd (by omega) (by omega) (fun c => ?_) (fun c => ?_)
      · refine ih (j + 1) _ _ _ (by omega) (by omega) rfl (nI_1 j) (fun acc' h1 vj' => ?_)
        rw [← hv]
        exact hk acc' (by rw [h1, show nearR (nearB ta wd) i (m + 1) j acc = nearR (nearB ta wd) i m (j + 1) (if nearB ta wd i j = true then acc + 1 else acc) from rfl, if_pos c]) vj'
      · refine ih (j + 1) _ _ _ (by omega) (by omega) rfl (nI_1 j) (fun acc' h1 vj' => ?_)
        rw [← hv]
        exact hk acc' (by rw [h1, show nearR (nearB ta wd) i (m + 1) j acc = nearR (nearB ta wd) i m (j + 1) (if nearB ta wd i j = true then acc + 1 else acc) from rfl, if_neg (by rw [c]; decide)]; dsimp only; rw [Int32.add_zero]) vj')
  have loop : ∀ m i vi vj acc, i + m = np → vi = nI i → Q (some (.int (nearA (nearB ta wd) np m i acc))) n K S G P → At 4 [.ref a, .int acc, .int vi, vj] [] n K S G P 0 := by
    intro m
    induction m with
    | zero =>
      intro i vi vj acc hj hv hQ
      subst hv
      rcases ha with rfl | rfl | rfl <;> (
      refine go [4, 16, 47] 60 _ _ _ _ _ _ _ _ _ ?_
      refine ite_t ?_ hQ
      rw [hn, le_i, nI_toInt (by omega), nI_toInt (by omega)]
      omega)
    | succ m ih =>
      intro i vi vj acc hj hv hQ
      subst hv
      have fin : At 16 [.ref a, .int acc, .int (nI i), .int (nI i + 1)] [] n K S G P 0 := by
        refine inner i (np - (i + 1)) (i + 1) _ _ _ (by omega) (by omega) rfl (nI_1 i) (fun acc' h1 vj' => ?_)
        rcases ha with rfl | rfl | rfl <;> (
        refine go [4, 16, 47] 60 _ _ _ _ _ _ _ _ _ ?_
        refine ih (i + 1) _ _ _ (by omega) (nI_1 i) ?_
        rw [h1]
        exact hQ)
      rcases ha with rfl | rfl | rfl <;> (
      refine go [4, 16, 47] 60 _ _ _ _ _ _ _ _ _ ?_
      refine ite_f ?_ fin
      rw [hn, le_i, nI_toInt (by omega), nI_toInt (by omega)]
      omega)
  refine go [4, 16, 47] 60 _ _ _ _ _ _ _ _ _ ?_
  exact loop np 0 _ _ _ (by omega) rfl h
end A
end

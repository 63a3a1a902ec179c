noncomputable section
section A
variable {l : Launch} {L : Nat} {xs : Nat → Int32} {D : Nat} {n : Nat} {K : Mk} {S : Mi} {G : Ml} {P : Mr} {Q : QT} {a np : Nat} {ta wd : Nat → Int32}
set_option maxRecDepth 20000
theorem fnR_lt {nb : Nat → Nat → Bool} {i : Nat} : ∀ m j k, fnR nb i m j = some k → k ≤ 10 * i + j + m := by
  intro m
  induction m with
  | zero => intro j k h; cases h
  | succ m ih =>
    intro j k h
    by_cases c : nb i j = true
    · rw [show fnR nb i (m + 1) j = if nb i j = true then some (10 * i + j) else fnR nb i m (j + 1) from rfl, if_pos c] at h
      cases h
      omega
    · rw [show fnR nb i (m + 1) j = if nb i j = true then some (10 * i + j) else fnR nb i m (j + 1) from rfl, if_neg c] at h
      have := ih _ _ h
      omega
theorem mm_nearNow (hn : S 120 0 = nI np) (h6 : np ≤ 6) (ht : ∀ i, i < 36 → S 125 i = ta i) (hwd : ∀ i, i < 6 → S 123 i = wd i) {x : Int32} (h : x = 0 → Q (some (.int (nearA (nearB ta wd) np np 0 0))) n K S G P) (h0 : x ≠ 0 → Q (some (.int (fvO (fnA (nearB ta wd) np np 0)))) n K S G P) : Ok l L xs T1 (D + 2) jX12_nearNow 0 [.ref 120, .int x] n K S G P Q := by
  refine I_X12_nearNow (by decide) (fun At go => ?_)
  have inner : ∀ i m j vi vj acc f, j + m = np → i < j → vi = nI i → vj = nI j → (∀ acc' f', acc' = nearR (nearB ta wd) i m j acc → f' = orE f (fnR (nearB ta wd) i m j) → ∀ vj', At 70 [.ref 120, .int x, .int acc', .int f', .int vi, .int vj'] [] n K S G P 0) → At 23 [.ref 120, .int x, .int acc, .int f, .int vi, .int vj] [] n K S G P 0 := by
    intro i m
    induction m with
    | zero =>
      intro j vi vj acc f hj hij hv hw hk
      subst hv hw
      refine go [8, 23, 46, 64, 70, 84, 85] 60 _ _ _ _ _ _ _ _ _ ?_
      refine ite_t ?_ (hk _ _ rfl (orE0 f).symm _)
      rw [hn, le_i, nI_toInt (by omega), nI_toInt (by omega)]
      omega
    | succ m ih =>
      intro j vi vj acc f hj hij hv hw hk
      subst hv hw
      have eR : nearR (nearB ta wd) i (m + 1) j acc = nearR (nearB ta wd) i m (j + 1) (if nearB ta wd i j = true then acc + 1 else acc) := rfl
      have eF : fnR (nearB ta wd) i (m + 1) j = if nearB ta wd i j = true then some (10 * i + j) else fnR (nearB ta wd) i m (j + 1) := rfl
      have nxt : ∀ acc1 f1, acc1 = (if nearB ta wd i j = true then acc + 1 else acc) → f1 = (if nearB ta wd i j = true then orE f (some (10 * i + j)) else f) → At 64 [.ref 120, .int x, .int acc1, .int f1, .int (nI i), .int (nI j)] [] n K S G P 0 := by
        intro acc1 f1 e1 e2
        refine go [8, 23, 46, 64, 70, 84, 85] 60 _ _ _ _ _ _ _ _ _ ?_
        refine ih (j + 1) _ _ _ _ (by omega) (by omega) rfl (nI_1 j) (fun acc' f' g1 g2 vj' => ?_)
        refine hk acc' f' (by rw [eR, g1, e1]) ?_ vj'
        rw [eF, g2, e2]
        by_cases c : nearB ta wd i j = true
        · rw [if_pos c, if_pos c, orES _ _ _ (by omega)]
        · rw [if_neg c, if_neg c]
      refine go [8, 23, 46, 64, 70, 84, 85] 60 _ _ _ _ _ _ _ _ _ ?_
      refine ite_f ?_ ?_
      · rw [hn, le_i, nI_toInt (by omega), nI_toInt (by omega)]
        omega
      refine mm_isNear ht hwd (by omega) (by omega) (fun c => ?_) (fun c => ?_)
      · have a46 : At 46 [.ref 120, .int x, .int acc, .int f, .int (nI i), .int (nI j)] [] n K S G P 0 := by
          refine go [8, 23, 46, 64, 70, 84, 85] 60 _ _ _ _ _ _ _ _ _ ?_
          refine ite_i (fun c1 => ?_) (fun c1 => ?_)
          · refine nxt _ _ (by rw [if_pos c]) ?_
            rw [if_pos c, orE, if_pos c1, show fvO (some (10 * i + j)) = nI (10 * i + j) from rfl, ← nI_add, ← pk_mul]
            rfl
          · refine nxt _ _ (by rw [if_pos c]) ?_
            rw [if_pos c, orE, if_neg c1]
        exact a46
      · refine nxt _ _ (by rw [if_neg (by rw [c]; decide)]; try rfl) (by rw [if_neg (by rw [c]; decide)])
  have loop : ∀ m i vi vj acc f, i + m = np → vi = nI i → f = -5 ∨ True → (∀ acc' f', acc' = nearA (nearB ta wd) np m i acc → f' = orE f (fnA (nearB ta wd) np m i) → ∀ vi' vj', At 76 [.ref 120, .int x, .int acc', .int f', vi', vj'] [] n K S G P 0) → At 8 [.ref 120, .int x, .int acc, .int f, .int vi, vj] [] n K S G P 0 := by
    intro m
    induction m with
    | zero =>
      intro i vi vj acc f hj hv _ hk
      subst hv
      refine go [8, 23, 46, 64, 70, 76, 84, 85] 60 _ _ _ _ _ _ _ _ _ ?_
      refine ite_t ?_ (hk _ _ rfl (orE0 f).symm _ _)
      rw [hn, le_i, nI_toInt (by omega), nI_toInt (by omega)]
      omega
    | succ m ih =>
      intro i vi vj acc f hj hv _ hk
      subst hv
      have fin : At 23 [.ref 120, .int x, .int acc, .int f, .int (nI i), .int (nI i + 1)] [] n K S G P 0 := by
        refine inner i (np - (i + 1)) (i + 1) _ _ _ _ (by omega) (by omega) rfl (nI_1 i) (fun acc1 f1 g1 g2 vj' => ?_)
        refine go [8, 23, 46, 64, 70, 76, 84, 85] 60 _ _ _ _ _ _ _ _ _ ?_
        refine ih (i + 1) _ _ _ _ (by omega) (nI_1 i) (.inr trivial) (fun acc' f' g3 g4 => hk acc' f' (by rw [g3, g1]; rfl) ?_)
        rw [g4, g2]
        have e : fnA (nearB ta wd) np (m + 1) i = (match fnR (nearB ta wd) i (np - (i + 1)) (i + 1) with | some k => some k | none => fnA (nearB ta wd) np m (i + 1)) := rfl
        rw [e]
        cases hr : fnR (nearB ta wd) i (np - (i + 1)) (i + 1) with
        | none => rw [orE0]
        | some k => exact orES _ _ _ (by have := fnR_lt _ _ _ hr; omega)
      refine go [8, 23, 46, 64, 70, 76, 84, 85] 60 _ _ _ _ _ _ _ _ _ ?_
      refine ite_f ?_ fin
      rw [hn, le_i, nI_toInt (by omega), nI_toInt (by omega)]
      omega
  refine go [8, 23, 46, 64, 70, 76, 84, 85] 60 _ _ _ _ _ _ _ _ _ ?_
  refine loop np 0 _ _ _ _ (by omega) rfl (.inl rfl) (fun acc' f' g1 g2 vi' vj' => ?_)
  subst g1
  have e : f' = fvO (fnA (nearB ta wd) np np 0) := g2
  subst e
  refine go [8, 23, 46, 64, 70, 84, 85] 60 _ _ _ _ _ _ _ _ _ ?_
  refine ite_i (fun c => ?_) (fun c => ?_)
  · have a85 : At 85 [.ref 120, .int x, .int (nearA (nearB ta wd) np np 0 0), .int (fvO (fnA (nearB ta wd) np np 0)), vi', vj'] [.int (nearA (nearB ta wd) np np 0 0)] n K S G P 0 := by
      refine go [] 60 _ _ _ _ _ _ _ _ _ ?_
      exact h c
    exact a85
  · have a84 : At 84 [.ref 120, .int x, .int (nearA (nearB ta wd) np np 0 0), .int (fvO (fnA (nearB ta wd) np np 0)), vi', vj'] [] n K S G P 0 := by
      refine go [] 60 _ _ _ _ _ _ _ _ _ ?_
      exact h0 c
    exact a84
end A
end

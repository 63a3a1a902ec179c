noncomputable section
theorem ite_i {c A B : Prop} [Decidable c] (h1 : c → A) (h2 : ¬ c → B) : if c then A else B := by
  by_cases h : c
  · rw [if_pos h]; exact h1 h
  · rw [if_neg h]; exact h2 h
theorem ite_t {c A B : Prop} [Decidable c] (h : c) (h1 : A) : if c then A else B := by
  rw [if_pos h]; exact h1
theorem ite_f {c A B : Prop} [Decidable c] (h : ¬ c) (h1 : B) : if c then A else B := by
  rw [if_neg h]; exact h1
section A
variable {l : Launch} {L : Nat} {xs : Nat → Int32} {D : Nat} {n : Nat} {K : Mk} {S : Mi} {G : Ml} {P : Mr} {Q : QT}
set_option maxRecDepth 20000 in
theorem m_isWithin {x y : Int32} (h1 : 0 ≤ x → x ≤ y → Q (some (.int 1)) n K S G P) (h0 : ¬ (0 ≤ x ∧ x ≤ y) → Q (some (.int 0)) n K S G P) : Ok l L xs T1 (D + 1) jX11_isWithin 0 [.int x, .int y] n K S G P Q := by
  refine I_X11_isWithin (by decide) (fun At go => ?_)
  refine go [] 40 _ _ _ _ _ _ _ _ _ ?_
  refine ite_i (fun c1 => ?_) (fun c1 => ?_)
  · exact h0 (fun h => by sorry)
  · refine ite_i (fun c2 => ?_) (fun c2 => ?_)
    · exact h0 (fun h => by sorry)
    · exact h1 (by sorry) (by sorry)
theorem m_pair {x y : Int32} (h : Q (some (.int (x * 6 + y))) n K S G P) : Ok l L xs T1 (D + 1) jX9_pair 0 [.int x, .int y] n K S G P Q := by
  refine I_X9_pair (by decide) (fun At go => ?_)
  exact go [] 40 _ _ _ _ _ _ _ _ _ h
theorem m_hasBit {x y : Int32} (h1 : (x >>> (y &&& 31)) &&& 1 ≠ 0 → Q (some (.int 1)) n K S G P) (h0 : (x >>> (y &&& 31)) &&& 1 = 0 → Q (some (.int 0)) n K S G P) : Ok l L xs T1 (D + 1) jX11_hasBit 0 [.int x, .int y] n K S G P Q := by
  refine I_X11_hasBit (by decide) (fun At go => ?_)
  refine go [] 40 _ _ _ _ _ _ _ _ _ ?_
  exact ite_i h0 h1
theorem m_has {x : Int32} {a : Nat} (ha : a = 33 ∨ a = 45 ∨ a = 57) (h1 : 0 ≤ x → x < S a 0 → Q (some (.int 1)) n K S G P) (h0 : ¬ (0 ≤ x ∧ x < S a 0) → Q (some (.int 0)) n K S G P) : Ok l L xs T1 (D + 1) jX9_has 0 [.ref a, .int x] n K S G P Q := by
  refine I_X9_has (by decide) (fun At go => ?_)
  rcases ha with rfl | rfl | rfl <;> (
  refine go [] 40 _ _ _ _ _ _ _ _ _ ?_
  refine ite_i (fun c1 => ?_) (fun c1 => ?_)
  · exact h0 (fun h => by sorry)
  · refine ite_i (fun c2 => ?_) (fun c2 => ?_)
    · exact h0 (fun h => by sorry)
    · exact h1 (by sorry) (by sorry))
def talF (f : Nat → Int32) (p : Nat) : Nat → Int32
  | 0 => 0
  | k + 1 => talF f p k + f (6 * p + k)
theorem m_talliesBy {a p np : Nat} (ha : a = 33 ∨ a = 45 ∨ a = 57) (hp : p < 6) (hn : np ≤ 6) (hS : S a 0 = nI np) (h : Q (some (.int (talF (S (a + 4)) p np))) n K S G P) : Ok l L xs T1 (D + 2) jX9_talliesBy 0 [.ref a, .int (nI p)] n K S G P Q := by
  refine I_X9_talliesBy (by decide) (fun At go => ?_)
  have loop : ∀ m k, k + m = np → At 4 [.ref a, .int (nI p), .int (talF (S (a + 4)) p k), .int (nI k)] [] n K S G P 0 := by
    intro m
    induction m with
    | zero =>
      intro k hk
      rcases ha with rfl | rfl | rfl <;> (
      refine go [4] 60 _ _ _ _ _ _ _ _ _ ?_
      refine ite_t ?_ ?_
      · sorry
      · have e : k = np := by omega
        subst e
        exact h)
    | succ m ih =>
      intro k hk
      rcases ha with rfl | rfl | rfl <;> (
      refine go [4] 60 _ _ _ _ _ _ _ _ _ ?_
      refine ite_f ?_ ?_
      · sorry
      refine m_pair ?_
      refine ite_t ?_ ?_
      · sorry
      refine Eq.mp ?_ (ih (k + 1) (by omega))
      sorry)
  refine go [4] 60 _ _ _ _ _ _ _ _ _ ?_
  exact loop np 0 (by omega)
end A
end

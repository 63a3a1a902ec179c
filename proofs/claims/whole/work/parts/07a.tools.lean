noncomputable section
/-! TOOLS for the methods' walks. -/
theorem ite_i {c A B : Prop} [Decidable c] (h1 : c → A) (h2 : ¬ c → B) : if c then A else B := by
  by_cases h : c
  · rw [if_pos h]; exact h1 h
  · rw [if_neg h]; exact h2 h
theorem ite_t {c A B : Prop} [Decidable c] (h : c) (h1 : A) : if c then A else B := by
  rw [if_pos h]; exact h1
theorem ite_f {c A B : Prop} [Decidable c] (h : ¬ c) (h1 : B) : if c then A else B := by
  rw [if_neg h]; exact h1
theorem lt_i (x y : Int32) : x < y ↔ x.toInt < y.toInt := Int32.lt_iff_toInt_lt
theorem le_i (x y : Int32) : x ≤ y ↔ x.toInt ≤ y.toInt := Int32.le_iff_toInt_le
theorem eq_i (x y : Int32) : x = y ↔ x.toInt = y.toInt := Int32.toInt_inj.symm
theorem i_rng (x : Int32) : -2147483648 ≤ x.toInt ∧ x.toInt < 2147483648 := ⟨Int32.le_toInt x, Int32.toInt_lt x⟩
theorem t_0 : (0 : Int32).toInt = 0 := rfl
theorem t_1 : (1 : Int32).toInt = 1 := rfl
theorem t_2 : (2 : Int32).toInt = 2 := rfl
theorem t_3 : (3 : Int32).toInt = 3 := rfl
theorem t_4 : (4 : Int32).toInt = 4 := rfl
theorem t_5 : (5 : Int32).toInt = 5 := rfl
theorem t_6 : (6 : Int32).toInt = 6 := rfl
theorem t_7 : (7 : Int32).toInt = 7 := rfl
theorem t_8 : (8 : Int32).toInt = 8 := rfl
theorem t_9 : (9 : Int32).toInt = 9 := rfl
theorem t_10 : (10 : Int32).toInt = 10 := rfl
theorem t_20 : (20 : Int32).toInt = 20 := rfl
theorem t_30 : (30 : Int32).toInt = 30 := rfl
theorem t_31 : (31 : Int32).toInt = 31 := rfl
theorem t_60 : (60 : Int32).toInt = 60 := rfl
theorem t_61 : (61 : Int32).toInt = 61 := rfl
theorem t_100 : (100 : Int32).toInt = 100 := rfl
theorem t_110 : (110 : Int32).toInt = 110 := rfl
theorem t_127 : (127 : Int32).toInt = 127 := rfl
theorem t_300 : (300 : Int32).toInt = 300 := rfl
theorem t_9999 : (9999 : Int32).toInt = 9999 := rfl
theorem t_m1 : (-1 : Int32).toInt = -1 := rfl
theorem t_m2 : (-2 : Int32).toInt = -2 := rfl
theorem t_m3 : (-3 : Int32).toInt = -3 := rfl
theorem t_m4 : (-4 : Int32).toInt = -4 := rfl
theorem t_m5 : (-5 : Int32).toInt = -5 := rfl
theorem t_m10 : (-10 : Int32).toInt = -10 := rfl
/-- an int is a small number -/
theorem nI_of' {x : Int32} {a : Nat} (h : x.toInt = (a : Int)) : x = nI a := by
  have h1 := i_rng x
  exact (eq_i _ _).mpr (h.trans (nI_toInt (by omega)).symm)
theorem ex_nI {x : Int32} (h : 0 ≤ x.toInt) : ∃ a : Nat, a < 2 ^ 31 ∧ x = nI a := by
  have h1 := i_rng x
  exact ⟨x.toInt.toNat, by omega, nI_of' (by omega)⟩
theorem ixB_nI {a N : Nat} (h : a < N) (hN : N < 2 ^ 31) : ixB (nI a) N = true := by
  unfold ixB
  rw [nI_toInt (by omega)]
  simp only [Bool.and_eq_true, decide_eq_true_eq]
  omega
theorem li_0 : (0 : Int32) = nI 0 := rfl
theorem li_1 : (1 : Int32) = nI 1 := rfl
theorem li_6 : (6 : Int32) = nI 6 := rfl
section A
variable {l : Launch} {L : Nat} {xs : Nat → Int32} {T : Tb} {D : Nat} {n : Nat} {K : Mk} {S : Mi} {G : Ml} {P : Mr} {Q : QT}
set_option maxRecDepth 20000
theorem m_isWithin {x y : Int32} (h1 : 0 ≤ x.toInt → x.toInt ≤ y.toInt → Q (some (.int 1)) n K S G P) (h0 : ¬ (0 ≤ x.toInt ∧ x.toInt ≤ y.toInt) → Q (some (.int 0)) n K S G P) : Ok l L xs T (D + 1) jX11_isWithin 0 [.int x, .int y] n K S G P Q := by
  refine I_X11_isWithin (by decide) (fun At go => ?_)
  refine go [] 40 _ _ _ _ _ _ _ _ _ ?_
  refine ite_i (fun c1 => ?_) (fun c1 => ?_)
  · rw [lt_i, t_0] at c1
    exact h0 (fun h => by omega)
  · rw [lt_i, t_0] at c1
    refine ite_i (fun c2 => ?_) (fun c2 => ?_)
    · rw [lt_i] at c2
      exact h0 (fun h => by omega)
    · rw [lt_i] at c2
      exact h1 (by omega) (by omega)
theorem m_within {x a b : Int32} (h1 : a.toInt ≤ x.toInt → x.toInt ≤ b.toInt → Q (some (.int 1)) n K S G P) (h0 : ¬ (a.toInt ≤ x.toInt ∧ x.toInt ≤ b.toInt) → Q (some (.int 0)) n K S G P) : Ok l L xs T (D + 1) jX12_within 0 [.int x, .int a, .int b] n K S G P Q := by
  refine I_X12_within (by decide) (fun At go => ?_)
  refine go [] 40 _ _ _ _ _ _ _ _ _ ?_
  refine ite_i (fun c1 => ?_) (fun c1 => ?_)
  · rw [lt_i] at c1
    exact h0 (fun h => by omega)
  · rw [lt_i] at c1
    refine ite_i (fun c2 => ?_) (fun c2 => ?_)
    · rw [lt_i] at c2
      exact h0 (fun h => by omega)
    · rw [lt_i] at c2
      exact h1 (by omega) (by omega)
theorem m_isTape {x : Int32} (h1 : 0 ≤ x.toInt → x.toInt ≤ 5 → Q (some (.int 1)) n K S G P) (h0 : ¬ (0 ≤ x.toInt ∧ x.toInt ≤ 5) → Q (some (.int 0)) n K S G P) : Ok l L xs T (D + 2) jX11_isTape 0 [.int x] n K S G P Q := by
  refine I_X11_isTape (by decide) (fun At go => ?_)
  refine go [] 40 _ _ _ _ _ _ _ _ _ ?_
  exact m_isWithin (fun a b => h1 a b) (fun a => h0 a)
theorem m_isTape2 {x : Int32} (h1 : 0 ≤ x.toInt → x.toInt ≤ 5 → Q (some (.int 1)) n K S G P) (h0 : ¬ (0 ≤ x.toInt ∧ x.toInt ≤ 5) → Q (some (.int 0)) n K S G P) : Ok l L xs T (D + 2) jX12_isTape 0 [.int x] n K S G P Q := by
  refine I_X12_isTape (by decide) (fun At go => ?_)
  refine go [] 40 _ _ _ _ _ _ _ _ _ ?_
  exact m_within (fun a b => h1 a b) (fun a => h0 a)
theorem m_isWord {x : Int32} (h1 : 0 ≤ x.toInt → x.toInt ≤ 3 → Q (some (.int 1)) n K S G P) (h0 : ¬ (0 ≤ x.toInt ∧ x.toInt ≤ 3) → Q (some (.int 0)) n K S G P) : Ok l L xs T (D + 2) jX12_isWord 0 [.int x] n K S G P Q := by
  refine I_X12_isWord (by decide) (fun At go => ?_)
  refine go [] 40 _ _ _ _ _ _ _ _ _ ?_
  exact m_within (fun a b => h1 a b) (fun a => h0 a)
def hb (x y : Int32) : Prop := (x >>> (y &&& 31)) &&& 1 ≠ 0
theorem m_hasBit {x y : Int32} (h1 : hb x y → Q (some (.int 1)) n K S G P) (h0 : ¬ hb x y → Q (some (.int 0)) n K S G P) : Ok l L xs T (D + 1) jX11_hasBit 0 [.int x, .int y] n K S G P Q := by
  refine I_X11_hasBit (by decide) (fun At go => ?_)
  refine go [] 40 _ _ _ _ _ _ _ _ _ ?_
  exact ite_i (fun h => h0 (fun q => q h)) (fun h => h1 h)
theorem m_pair {x y : Int32} (h : Q (some (.int (x * 6 + y))) n K S G P) : Ok l L xs T (D + 1) jX9_pair 0 [.int x, .int y] n K S G P Q := by
  refine I_X9_pair (by decide) (fun At go => ?_)
  exact go [] 40 _ _ _ _ _ _ _ _ _ h
theorem m_max {x y : Int32} (h : Q (some (.int (if x < y then y else x))) n K S G P) : Ok l L xs T (D + 1) jJ9_max_7cf53 0 [.int x, .int y] n K S G P Q := by
  refine I_J9_max_7cf53 (by decide) (fun At go => ?_)
  refine go [] 40 _ _ _ _ _ _ _ _ _ ?_
  refine ite_i (fun c => ?_) (fun c => ?_)
  · rw [if_pos c] at h; exact h
  · rw [if_neg c] at h; exact h
theorem m_min {x y : Int32} (h : Q (some (.int (if y < x then y else x))) n K S G P) : Ok l L xs T (D + 1) jJ9_min_7cf53 0 [.int x, .int y] n K S G P Q := by
  refine I_J9_min_7cf53 (by decide) (fun At go => ?_)
  refine go [] 40 _ _ _ _ _ _ _ _ _ ?_
  refine ite_i (fun c => ?_) (fun c => ?_)
  · rw [if_pos c] at h; exact h
  · rw [if_neg c] at h; exact h
theorem m_firstBit {x : Int32} (h : ∀ k, k < 10 → hb x (nI k) → (∀ i, i < k → ¬ hb x (nI i)) → Q (some (.int (nI k))) n K S G P) (h0 : (∀ i, i < 10 → ¬ hb x (nI i)) → Q (some (.int (-5))) n K S G P) : Ok l L xs T (D + 2) jX11_firstBit 0 [.int x] n K S G P Q := by
  refine I_X11_firstBit (by decide) (fun At go => ?_)
  have loop : ∀ m k v, k + m = 10 → v = nI k → (∀ i, i < k → ¬ hb x (nI i)) → At 2 [.int x, .int v] [] n K S G P 0 := by
    intro m
    induction m with
    | zero =>
      intro k v hk hv hb0
      refine go [2] 40 _ _ _ _ _ _ _ _ _ ?_
      have e : k = 10 := by omega
      subst e
      subst hv
      exact h0 hb0
    | succ m ih =>
      intro k v hk hv hb0
      refine go [2] 40 _ _ _ _ _ _ _ _ _ ?_
      subst hv
      refine ite_f ?_ ?_
      · rw [lt_i, nI_toInt (by omega), t_9]; omega
      refine m_hasBit (fun q => ?_) (fun q => ?_)
      · exact h k (by omega) q hb0
      · exact ih (k + 1) _ (by omega) (nI_1 k) (fun i hi => by
          rcases Nat.lt_or_ge i k with q1 | q1
          · exact hb0 i q1
          · rw [show i = k by omega]; exact q)
  refine go [2] 40 _ _ _ _ _ _ _ _ _ ?_
  exact loop 10 0 _ rfl rfl (fun i hi => absurd hi (Nat.not_lt_zero i))
end A
end

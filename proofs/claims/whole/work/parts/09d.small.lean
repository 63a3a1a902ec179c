noncomputable section
/-! SMALL METHODS: digits, words of a kind. -/
theorem xor_neg {x y : Int32} (hy : 0 ≤ y.toInt) : (x ^^^ y).toInt < 0 ↔ x.toInt < 0 := by
  have e := BitVec.msb_xor (x := x.toBitVec) (y := y.toBitVec)
  rw [BitVec.msb_eq_toInt, BitVec.msb_eq_toInt, BitVec.msb_eq_toInt] at e
  have e2 : decide ((x ^^^ y).toInt < 0) = (decide (x.toInt < 0) ^^ decide (y.toInt < 0)) := e
  rw [decide_eq_false (p := y.toInt < 0) (by omega), Bool.xor_false, decide_eq_decide] at e2
  exact e2
theorem tdiv10 (a : Int) : a.tdiv 10 = if 0 ≤ a ∨ a % 10 = 0 then a / 10 else a / 10 + 1 := by
  rw [Int.tdiv_eq_ediv]
  by_cases h : 0 ≤ a ∨ (10 : Int) ∣ a
  · rw [if_pos h, if_pos (by rw [Int.dvd_iff_emod_eq_zero] at h; exact h)]
    omega
  · rw [if_neg h, if_neg (by rw [Int.dvd_iff_emod_eq_zero] at h; exact h)]
    rfl
def rmI (x y : Int32) : Int32 := x - x / y * y
theorem div10_i (x : Int32) : (x / 10).toInt = x.toInt.tdiv 10 := Int32.toInt_div_of_ne_right x 10 (by decide)
theorem mod10_i (x : Int32) : (rmI x 10).toInt = if 0 ≤ x.toInt ∨ x.toInt % 10 = 0 then x.toInt % 10 else x.toInt % 10 - 10 := by
  have t := tdiv10 x.toInt
  have e := div10_i x
  have rg := i_rng x
  have em : (x / 10 * 10).toInt = (x / 10).toInt * 10 := by
    rw [Int32.toInt_mul, t_10]
    exact Int.bmod_eq_of_le (by split at t <;> omega) (by split at t <;> omega)
  unfold rmI
  rw [Int32.toInt_sub, em, Int.bmod_eq_of_le (by split at t <;> omega) (by split at t <;> omega)]
  by_cases h : 0 ≤ x.toInt ∨ x.toInt % 10 = 0
  · rw [if_pos h] at t ⊢
    omega
  · rw [if_neg h] at t ⊢
    omega
def onesI (x : Int32) : Nat := (x.toInt % 10).toNat
def tensI (x : Int32) : Nat := (x.toInt / 10 % 10).toNat
/-- a person: a cell made later, of the class `c` -/
def Per (n : Nat) (K : Mk) (w c : Nat) : Prop := 155 ≤ w ∧ w - 32 < n ∧ K w = c
theorem sho_p {n : Nat} {K : Mk} {w c : Nat} (h : Per n K w c) : sho T1 n K w = some (.inr (c, [none, none, none, none])) := by
  obtain ⟨h1, h2, h3⟩ := h
  have b1 : Nat.blt w 32 = false := by rw [← Bool.not_eq_true, Nat.blt_eq]; omega
  have b2 : Nat.blt (w - 32) 123 = false := by rw [← Bool.not_eq_true, Nat.blt_eq]; omega
  have b3 : Nat.blt (w - 32) n = true := by rw [Nat.blt_eq]; exact h2
  have e : sho T1 n K w = cond (Nat.blt w 32) none (cond (Nat.blt (w - 32) 123 || Nat.blt (w - 32) n) (some (cond (Nat.blt (w - 32) 123 || Nat.beq 1 0) (T1.2.1 (w - 32)) (.inr (K w, [none, none, none, none])))) none) := rfl
  rw [e, b1, b2, b3, h3]
  rfl
theorem sh_p {n : Nat} {K : Mk} {w c : Nat} {A : Nat → List (Option Nat) → Prop} (hp : Per n K w c) (h : A c [none, none, none, none]) : (match sho T1 n K w with
    | some (.inr (ci, fs)) => A ci fs
    | _ => False) := by
  rw [sho_p hp]
  exact h
section A
variable {l : Launch} {L : Nat} {xs : Nat → Int32} {T : Tb} {D : Nat} {n : Nat} {K : Mk} {S : Mi} {G : Ml} {P : Mr} {Q : QT} {a np : Nat} {ta wd : Nat → Int32}
set_option maxRecDepth 20000
theorem m_floorMod {x : Int32} (h : ∀ r : Int32, r.toInt = x.toInt % 10 → Q (some (.int r)) n K S G P) : Ok l L xs T (D + 1) jJ9_floorMod_7cf53 0 [.int x, .int 10] n K S G P Q := by
  refine I_J9_floorMod_7cf53 (by decide) (fun At go => ?_)
  have t := mod10_i x
  have xn := xor_neg (x := x) (y := 10) (by decide)
  have e18 : (rmI x 10).toInt = x.toInt % 10 → At 18 [.int x, .int 10, .int (rmI x 10)] [] n K S G P 0 := fun q => by
    refine go [] 40 _ _ _ _ _ _ _ _ _ ?_
    exact h _ q
  refine go [18] 40 _ _ _ _ _ _ _ _ _ ?_
  refine ite_i (fun c => ?_) (fun c => ?_)
  · rw [le_i, t_0] at c
    have c' : 0 ≤ (x ^^^ 10).toInt := c
    exact e18 (by rw [t, if_pos (.inl (by omega))])
  · rw [le_i, t_0] at c
    have c' : ¬ 0 ≤ (x ^^^ 10).toInt := c
    refine ite_i (fun c2 => ?_) (fun c2 => ?_)
    · have c2' : (rmI x 10).toInt = 0 := by rw [show rmI x 10 = 0 from c2]; rfl
      exact e18 (by split at t <;> omega)
    · have c2' : ¬ (rmI x 10).toInt = 0 := fun q => c2 (Int32.toInt_inj.mp (by rw [t_0]; exact q))
      refine h _ ?_
      have e3 : (rmI x 10 + 10).toInt = x.toInt % 10 := by
        rw [Int32.toInt_add, t_10]
        rw [Int.bmod_eq_of_le (by split at t <;> omega) (by split at t <;> omega)]
        split at t <;> omega
      exact e3
theorem m_floorDiv {x : Int32} (h : ∀ r : Int32, r.toInt = x.toInt / 10 → Q (some (.int r)) n K S G P) : Ok l L xs T (D + 1) jJ9_floorDiv_7cf53 0 [.int x, .int 10] n K S G P Q := by
  refine I_J9_floorDiv_7cf53 (by decide) (fun At go => ?_)
  have e := div10_i x
  have t := tdiv10 x.toInt
  have xn := xor_neg (x := x) (y := 10) (by decide)
  have rg := i_rng x
  have em : (x / 10 * 10).toInt = (x / 10).toInt * 10 := by
    rw [Int32.toInt_mul, t_10]
    exact Int.bmod_eq_of_le (by split at t <;> omega) (by split at t <;> omega)
  have e21 : (x / 10).toInt = x.toInt / 10 → At 21 [.int x, .int 10, .int (x / 10)] [] n K S G P 0 := fun q => by
    refine go [] 40 _ _ _ _ _ _ _ _ _ ?_
    exact h _ q
  refine go [21] 40 _ _ _ _ _ _ _ _ _ ?_
  refine ite_i (fun c => ?_) (fun c => ?_)
  · rw [le_i, t_0] at c
    have c' : 0 ≤ (x ^^^ 10).toInt := c
    exact e21 (by rw [e, t, if_pos (.inl (by omega))])
  · rw [le_i, t_0] at c
    have c' : ¬ 0 ≤ (x ^^^ 10).toInt := c
    refine ite_i (fun c2 => ?_) (fun c2 => ?_)
    · have c2' : (x / 10 * 10).toInt = x.toInt := by rw [show x / 10 * 10 = x from c2]
      exact e21 (by split at t <;> omega)
    · have c2' : ¬ (x / 10 * 10).toInt = x.toInt := fun q => c2 (Int32.toInt_inj.mp q)
      refine h _ ?_
      have e3 : (x / 10 - 1).toInt = x.toInt / 10 := by
        rw [Int32.toInt_sub, t_1]
        rw [Int.bmod_eq_of_le (by split at t <;> omega) (by split at t <;> omega)]
        split at t <;> omega
      exact e3
theorem m_ones {x : Int32} (h : Q (some (.int (nI (onesI x)))) n K S G P) : Ok l L xs T (D + 2) jX11_ones 0 [.int x] n K S G P Q := by
  refine I_X11_ones (by decide) (fun At go => ?_)
  refine go [] 40 _ _ _ _ _ _ _ _ _ ?_
  refine m_floorMod (fun r hr => ?_)
  rw [nI_of' (x := r) (a := onesI x) (by unfold onesI; omega)]
  exact h
theorem m_tens {x : Int32} (h : Q (some (.int (nI (tensI x)))) n K S G P) : Ok l L xs T (D + 2) jX11_tens 0 [.int x] n K S G P Q := by
  refine I_X11_tens (by decide) (fun At go => ?_)
  refine go [] 40 _ _ _ _ _ _ _ _ _ ?_
  refine m_floorDiv (fun r hr => ?_)
  refine m_floorMod (fun r' hr' => ?_)
  rw [nI_of' (x := r') (a := tensI x) (by unfold tensI; omega)]
  exact h
theorem m_everybody (hn : S 33 0 = nI np) (h6 : np ≤ 6) (h : Q (some (.int (nI (2 ^ np - 1)))) n K S G P) : Ok l L xs T1 (D + 1) jX11_everybody 0 [.ref 32] n K S G P Q := by
  refine I_X11_everybody (by decide) (fun At go => ?_)
  rw [← shl_i1 np (by omega), ← hn] at h
  refine go [] 40 _ _ _ _ _ _ _ _ _ ?_
  exact h
/-! the words of a kind: `o` is where the no lies -/
def NA (o : Nat) : Prop := o = 43 ∨ o = 55 ∨ o = 67
def wo4 (S : Mi) (o : Nat) : Int32 := S o 4 &&& (S o 3 ^^^ -1)
def wo0 (S : Mi) (o : Nat) : Int32 := if rmI (S o 2) 2 = 0 then wo4 S o else 0
def wo2 (S : Mi) (o : Nat) : Int32 := S o 4 &&& 8
def wo6 (S : Mi) (o : Nat) : Int32 := wo0 S o &&& (((1 : Int32) <<< (rmI (S o 1) 4 &&& 31)) ^^^ -1)
def wo8 (S : Mi) (o : Nat) : Int32 := if S o 5 = 0 then 0 else wo2 S o
theorem m_wo1 {w o : Nat} (h : Q (some (.int 15)) n K S G P) : Ok l L xs T1 (D + 1) jX1_wordsOf 0 [.ref w, .ref o] n K S G P Q := by
  refine I_X1_wordsOf (by decide) (fun At go => ?_)
  refine go [] 40 _ _ _ _ _ _ _ _ _ ?_
  exact h
theorem m_wo4 {w o : Nat} (ho : NA o) (h : Q (some (.int (wo4 S o))) n K S G P) : Ok l L xs T1 (D + 1) jX4_wordsOf 0 [.ref w, .ref o] n K S G P Q := by
  refine I_X4_wordsOf (by decide) (fun At go => ?_)
  rcases ho with rfl | rfl | rfl <;> (
  refine go [] 40 _ _ _ _ _ _ _ _ _ ?_
  exact h)
theorem m_wo5 {w o : Nat} (ho : NA o) (h : Q (some (.int (S o 4))) n K S G P) : Ok l L xs T1 (D + 1) jX5_wordsOf 0 [.ref w, .ref o] n K S G P Q := by
  refine I_X5_wordsOf (by decide) (fun At go => ?_)
  rcases ho with rfl | rfl | rfl <;> (
  refine go [] 40 _ _ _ _ _ _ _ _ _ ?_
  exact h)
theorem m_wo2 {w o : Nat} (ho : NA o) (h : Q (some (.int (wo2 S o))) n K S G P) : Ok l L xs T1 (D + 1) jX2_wordsOf 0 [.ref w, .ref o] n K S G P Q := by
  refine I_X2_wordsOf (by decide) (fun At go => ?_)
  rcases ho with rfl | rfl | rfl <;> (
  refine go [] 40 _ _ _ _ _ _ _ _ _ ?_
  exact h)
theorem m_wo0 {w o c : Nat} (hp : Per n K w c) (ho : NA o) (h : Q (some (.int (wo0 S o))) n K S G P) : Ok l L xs T1 (D + 2) jX0_wordsOf 0 [.ref w, .ref o] n K S G P Q := by
  refine I_X0_wordsOf (by decide) (fun At go => ?_)
  have ho' := ho
  have hA : rmI (S o 2) 2 = 0 → Q (some (.int (wo4 S o))) n K S G P := fun c => by
    rw [wo0, if_pos c] at h
    exact h
  have hB : ¬ rmI (S o 2) 2 = 0 → Q (some (.int 0)) n K S G P := fun c => by
    rw [wo0, if_neg c] at h
    exact h
  rcases ho with rfl | rfl | rfl <;> (
  refine go [] 40 _ _ _ _ _ _ _ _ _ ?_
  refine ite_i (fun c => ?_) (fun c => ?_)
  · refine sh_p hp ?_
    exact m_wo4 ho' (hA c)
  · exact hB c)
theorem m_wo6 {w o c : Nat} (hp : Per n K w c) (ho : NA o) (h : Q (some (.int (wo6 S o))) n K S G P) : Ok l L xs T1 (D + 3) jX6_wordsOf 0 [.ref w, .ref o] n K S G P Q := by
  refine I_X6_wordsOf (by decide) (fun At go => ?_)
  have ho' := ho
  rcases ho with rfl | rfl | rfl <;> (
  refine go [] 40 _ _ _ _ _ _ _ _ _ ?_
  refine sh_p hp ?_
  refine m_wo0 hp ho' ?_
  exact h)
theorem m_wo8 {w o c : Nat} (hp : Per n K w c) (ho : NA o) (h : Q (some (.int (wo8 S o))) n K S G P) : Ok l L xs T1 (D + 2) jX8_wordsOf 0 [.ref w, .ref o] n K S G P Q := by
  refine I_X8_wordsOf (by decide) (fun At go => ?_)
  have ho' := ho
  have hA : S o 5 = 0 → Q (some (.int 0)) n K S G P := fun c => by
    rw [wo8, if_pos c] at h
    exact h
  have hB : ¬ S o 5 = 0 → Q (some (.int (wo2 S o))) n K S G P := fun c => by
    rw [wo8, if_neg c] at h
    exact h
  rcases ho with rfl | rfl | rfl <;> (
  refine go [] 40 _ _ _ _ _ _ _ _ _ ?_
  refine ite_i (fun c => ?_) (fun c => ?_)
  · exact hA c
  · refine sh_p hp ?_
    exact m_wo2 ho' (hB c))
/-- the kind above, in the model -/
def abv (k : Int32) : Int32 := if k = 4 then 1 else if k = 5 then 2 else if k = 6 then 3 else 0
theorem mm_above {k : Int32} (h : Q (some (.int (abv k))) n K S G P) : Ok l L xs T (D + 1) jX12_above 0 [.int k] n K S G P Q := by
  refine I_X12_above (by decide) (fun At go => ?_)
  unfold abv at h
  refine go [] 40 _ _ _ _ _ _ _ _ _ ?_
  refine ite_i (fun c => ?_) (fun c => ?_)
  · rw [if_pos c] at h
    exact h
  rw [if_neg c] at h
  refine ite_i (fun c => ?_) (fun c => ?_)
  · rw [if_pos c] at h
    exact h
  rw [if_neg c] at h
  refine ite_i (fun c => ?_) (fun c => ?_)
  · rw [if_pos c] at h
    exact h
  rw [if_neg c] at h
  exact h
end A
end

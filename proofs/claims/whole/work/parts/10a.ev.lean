noncomputable section
/-! STREETS: what a row of codes says, on both sides. A code: 0 not, 1 and, 2 or, 3 and more: a test. -/
def bitsK (f : Nat → Bool) : Nat → Int32
  | 0 => 0
  | k + 1 => bitsK f k ||| (if f k = true then (1 : Int32) <<< (nI k &&& 31) else 0)
def bits4 (f : Nat → Bool) : Int32 := bitsK f 4
def b4 (a b c d : Bool) : Int32 := (((0 ||| (if a = true then (1 : Int32) <<< (nI 0 &&& 31) else 0)) ||| (if b = true then (1 : Int32) <<< (nI 1 &&& 31) else 0)) ||| (if c = true then (1 : Int32) <<< (nI 2 &&& 31) else 0)) ||| (if d = true then (1 : Int32) <<< (nI 3 &&& 31) else 0)
theorem bits4_b4 (f : Nat → Bool) : bits4 f = b4 (f 0) (f 1) (f 2) (f 3) := rfl
theorem bits4_ext {f g : Nat → Bool} (h : ∀ w, w < 4 → f w = g w) : bits4 f = bits4 g := by
  rw [bits4_b4, bits4_b4, h 0 (by decide), h 1 (by decide), h 2 (by decide), h 3 (by decide)]
theorem hb_b4 : ∀ a b c d : Bool, (hb (b4 a b c d) (nI 0) ↔ a = true) ∧ (hb (b4 a b c d) (nI 1) ↔ b = true) ∧ (hb (b4 a b c d) (nI 2) ↔ c = true) ∧ (hb (b4 a b c d) (nI 3) ↔ d = true) := by
  unfold hb
  decide +kernel
theorem hb_bits4 (f : Nat → Bool) {w : Nat} (h : w < 4) : hb (bits4 f) (nI w) ↔ f w = true := by
  rw [bits4_b4]
  have := hb_b4 (f 0) (f 1) (f 2) (f 3)
  match w, h with
  | 0, _ => exact this.1
  | 1, _ => exact this.2.1
  | 2, _ => exact this.2.2.1
  | 3, _ => exact this.2.2.2
theorem bits4_0 : bits4 (fun _ => false) = 0 := by decide +kernel
theorem bits4_15 : bits4 (fun _ => true) = 15 := by decide +kernel
/-- a test: a letter, a sign, a number -/
def tsB (t : Nat) (vals : Nat → Int32) : Bool := if t / 100 % 3 = 0 then decide (vals (t / 300) < nI (t % 100)) else if t / 100 % 3 = 1 then decide (vals (t / 300) = nI (t % 100)) else decide (nI (t % 100) < vals (t / 300))
def ev (lim : Nat) : List Nat → (Nat → Int32) → List Bool → Option (List Bool)
  | [], _, st => some st
  | c :: r, vals, st => if 3 ≤ c then (if st.length < lim then ev lim r vals (tsB (c - 3) vals :: st) else none)
    else if c = 0 then (match st with
      | x :: s => ev lim r vals ((!x) :: s)
      | _ => none)
    else if c = 1 then (match st with
      | y :: x :: s => ev lim r vals ((x && y) :: s)
      | _ => none)
    else (match st with
      | y :: x :: s => ev lim r vals ((x || y) :: s)
      | _ => none)
theorem ev_c (lim c : Nat) (r : List Nat) (vals : Nat → Int32) (st : List Bool) : ev lim (c :: r) vals st = if 3 ≤ c then (if st.length < lim then ev lim r vals (tsB (c - 3) vals :: st) else none)
    else if c = 0 then (match st with
      | x :: s => ev lim r vals ((!x) :: s)
      | _ => none)
    else if c = 1 then (match st with
      | y :: x :: s => ev lim r vals ((x && y) :: s)
      | _ => none)
    else (match st with
      | y :: x :: s => ev lim r vals ((x || y) :: s)
      | _ => none) := rfl
theorem ev_app (lim : Nat) (vals : Nat → Int32) : ∀ (l1 l2 : List Nat) (st : List Bool), ev lim (l1 ++ l2) vals st = (ev lim l1 vals st).bind (fun s => ev lim l2 vals s) := by
  intro l1
  induction l1 with
  | nil => intro l2 st; rfl
  | cons c r ih =>
    intro l2 st
    rw [List.cons_append, ev_c, ev_c]
    by_cases h3 : 3 ≤ c
    · rw [if_pos h3, if_pos h3]
      by_cases hl : st.length < lim
      · rw [if_pos hl, if_pos hl]; exact ih _ _
      · rw [if_neg hl, if_neg hl]; rfl
    · rw [if_neg h3, if_neg h3]
      by_cases h0 : c = 0
      · rw [if_pos h0, if_pos h0]
        cases st with
        | nil => rfl
        | cons x s => exact ih _ _
      · rw [if_neg h0, if_neg h0]
        by_cases h1 : c = 1
        · rw [if_pos h1, if_pos h1]
          match st with
          | [] => rfl
          | [_] => rfl
          | y :: x :: s => exact ih _ _
        · rw [if_neg h1, if_neg h1]
          match st with
          | [] => rfl
          | [_] => rfl
          | y :: x :: s => exact ih _ _
theorem ev_len {lim : Nat} {vals : Nat → Int32} : ∀ (l : List Nat) (st s : List Bool), st.length ≤ lim → ev lim l vals st = some s → s.length ≤ lim := by
  intro l
  induction l with
  | nil => intro st s h e; cases e; exact h
  | cons c r ih =>
    intro st s h e
    rw [ev_c] at e
    by_cases h3 : 3 ≤ c
    · rw [if_pos h3] at e
      by_cases hl : st.length < lim
      · rw [if_pos hl] at e
        exact ih _ _ (by rw [List.length_cons]; omega) e
      · rw [if_neg hl] at e; cases e
    · rw [if_neg h3] at e
      by_cases h0 : c = 0
      · rw [if_pos h0] at e
        cases st with
        | nil => cases e
        | cons x s => exact ih _ _ (by rw [List.length_cons] at h ⊢; exact h) e
      · rw [if_neg h0] at e
        by_cases h1 : c = 1
        · rw [if_pos h1] at e
          match st, h, e with
          | [], _, e => cases e
          | [_], _, e => cases e
          | y :: x :: s, h, e => exact ih _ _ (by simp only [List.length_cons] at h ⊢; omega) e
        · rw [if_neg h1] at e
          match st, h, e with
          | [], _, e => cases e
          | [_], _, e => cases e
          | y :: x :: s, h, e => exact ih _ _ (by simp only [List.length_cons] at h ⊢; omega) e
/-- the pile of the component: four stacks at once -/
def PR (q : Int64) (st : Nat → List Bool) : Prop := ∀ i, i < 64 → q.toBitVec.getLsbD i = (st (i % 4)).getD (i / 4) false
theorem l15_b : ∀ i, i < 64 → (15 : Int64).toBitVec.getLsbD i = decide (i < 4) := by decide +kernel
theorem lm16_b : ∀ i, i < 64 → (-16 : Int64).toBitVec.getLsbD i = decide (4 ≤ i) := by decide +kernel
theorem sh4_c : (((4 : Int32).toInt64 &&& 63).toBitVec.smod 64).toNat = 4 := by decide +kernel
theorem shr4_b (q : Int64) {i : Nat} (hi : i < 64) : (q >>> ((4 : Int32).toInt64 &&& 63)).toBitVec.getLsbD i = if 4 + i < 64 then q.toBitVec.getLsbD (4 + i) else q.toBitVec.getLsbD 63 := by
  rw [Int64.toBitVec_shiftRight]
  show (q.toBitVec.sshiftRight (((4 : Int32).toInt64 &&& 63).toBitVec.smod 64).toNat).getLsbD i = _
  rw [sh4_c, BitVec.getLsbD_sshiftRight, BitVec.msb_eq_getLsbD_last]
  simp [hi]
theorem shl4_b (q : Int64) {i : Nat} (hi : i < 64) : (q <<< ((4 : Int32).toInt64 &&& 63)).toBitVec.getLsbD i = (decide (4 ≤ i) && q.toBitVec.getLsbD (i - 4)) := by
  rw [Int64.toBitVec_shiftLeft]
  show (q.toBitVec <<< (((4 : Int32).toInt64 &&& 63).toBitVec.smod 64).toNat).getLsbD i = _
  rw [sh4_c, BitVec.getLsbD_shiftLeft]
  rcases Nat.lt_or_ge i 4 with h | h
  · simp [h, Nat.not_le.mpr h]
  · simp [hi, h, Nat.not_lt.mpr h]
theorem b4_64 : ∀ a b c d : Bool, ∀ i, i < 64 → (b4 a b c d).toInt64.toBitVec.getLsbD i = (if i = 0 then a else if i = 1 then b else if i = 2 then c else if i = 3 then d else false) := by decide +kernel
theorem bits4_64 (f : Nat → Bool) {i : Nat} (hi : i < 64) : (bits4 f).toInt64.toBitVec.getLsbD i = (decide (i < 4) && f i) := by
  rw [bits4_b4, b4_64 _ _ _ _ i hi]
  match i, hi with
  | 0, _ => simp
  | 1, _ => simp
  | 2, _ => simp
  | 3, _ => simp
  | i + 4, _ => simp [show ¬ (i + 4 < 4) by omega]
theorem PR_congr {q : Int64} {s t : Nat → List Bool} (h : ∀ w, w < 4 → s w = t w) (hq : PR q s) : PR q t := by
  intro i hi
  rw [hq i hi, h _ (by omega)]
theorem PR_0 : PR 0 (fun _ => []) := by
  intro i hi
  have : ∀ i, i < 64 → (0 : Int64).toBitVec.getLsbD i = false := by decide +kernel
  rw [this i hi]
  rfl
theorem PR_not {q : Int64} {x : Nat → Bool} {s : Nat → List Bool} (h : PR q (fun w => x w :: s w)) : PR (q ^^^ 15) (fun w => (!x w) :: s w) := by
  intro i hi
  rw [Int64.toBitVec_xor, BitVec.getLsbD_xor, h i hi, l15_b i hi]
  dsimp only
  rcases Nat.lt_or_ge i 4 with g | g
  · rw [show i / 4 = 0 by omega, decide_eq_true g]
    simp
  · obtain ⟨j, hj⟩ : ∃ j, i / 4 = j + 1 := ⟨i / 4 - 1, by omega⟩
    rw [hj, decide_eq_false (by omega)]
    simp
theorem PR_and {q : Int64} {x y : Nat → Bool} {s : Nat → List Bool} (hl : ∀ w, w < 4 → (s w).length ≤ 11) (h : PR q (fun w => y w :: x w :: s w)) : PR ((q >>> ((4 : Int32).toInt64 &&& 63)) &&& ((q &&& 15) ||| (-16))) (fun w => (x w && y w) :: s w) := by
  intro i hi
  rw [Int64.toBitVec_and, BitVec.getLsbD_and, shr4_b q hi, Int64.toBitVec_or, BitVec.getLsbD_or, Int64.toBitVec_and, BitVec.getLsbD_and, l15_b i hi, lm16_b i hi]
  dsimp only
  rcases Nat.lt_or_ge i 4 with g | g
  · rw [if_pos (by omega), h _ (by omega), h _ hi, decide_eq_true g, decide_eq_false (by omega)]
    dsimp only
    rw [show (4 + i) / 4 = 1 by omega, show (4 + i) % 4 = i % 4 by omega, show i / 4 = 0 by omega]
    simp
  · rw [decide_eq_false (p := i < 4) (by omega), decide_eq_true (p := 4 ≤ i) g]
    obtain ⟨j, hj⟩ : ∃ j, i / 4 = j + 1 := ⟨i / 4 - 1, by omega⟩
    by_cases h60 : 4 + i < 64
    · rw [if_pos h60, h _ h60]
      dsimp only
      rw [show (4 + i) / 4 = j + 2 by omega, show (4 + i) % 4 = i % 4 by omega, hj]
      simp
    · rw [if_neg h60, h 63 (by decide)]
      dsimp only
      rw [hj]
      have a1 := hl (63 % 4) (by decide)
      have a2 := hl (i % 4) (by omega)
      simp only [Bool.or_true, Bool.and_true, List.getD_cons_succ, show 63 / 4 = 13 + 2 from rfl]
      rw [List.getD_eq_getElem?_getD, List.getD_eq_getElem?_getD, List.getElem?_eq_none (by omega), List.getElem?_eq_none (by omega)]
theorem PR_or {q : Int64} {x y : Nat → Bool} {s : Nat → List Bool} (hl : ∀ w, w < 4 → (s w).length ≤ 11) (h : PR q (fun w => y w :: x w :: s w)) : PR ((q >>> ((4 : Int32).toInt64 &&& 63)) ||| (q &&& 15)) (fun w => (x w || y w) :: s w) := by
  intro i hi
  rw [Int64.toBitVec_or, BitVec.getLsbD_or, shr4_b q hi, Int64.toBitVec_and, BitVec.getLsbD_and, l15_b i hi]
  dsimp only
  rcases Nat.lt_or_ge i 4 with g | g
  · rw [if_pos (by omega), h _ (by omega), h _ hi, decide_eq_true g]
    dsimp only
    rw [show (4 + i) / 4 = 1 by omega, show (4 + i) % 4 = i % 4 by omega, show i / 4 = 0 by omega]
    simp
  · rw [decide_eq_false (p := i < 4) (by omega)]
    obtain ⟨j, hj⟩ : ∃ j, i / 4 = j + 1 := ⟨i / 4 - 1, by omega⟩
    by_cases h60 : 4 + i < 64
    · rw [if_pos h60, h _ h60]
      dsimp only
      rw [show (4 + i) / 4 = j + 2 by omega, show (4 + i) % 4 = i % 4 by omega, hj]
      simp
    · rw [if_neg h60, h 63 (by decide)]
      dsimp only
      rw [hj]
      have a1 := hl (63 % 4) (by decide)
      have a2 := hl (i % 4) (by omega)
      simp only [Bool.and_false, Bool.or_false, List.getD_cons_succ, show 63 / 4 = 13 + 2 from rfl]
      rw [List.getD_eq_getElem?_getD, List.getD_eq_getElem?_getD, List.getElem?_eq_none (by omega), List.getElem?_eq_none (by omega)]
theorem PR_push {q : Int64} {f : Nat → Bool} {s : Nat → List Bool} (h : PR q s) : PR ((q <<< ((4 : Int32).toInt64 &&& 63)) ||| (bits4 f).toInt64) (fun w => f w :: s w) := by
  intro i hi
  rw [Int64.toBitVec_or, BitVec.getLsbD_or, shl4_b q hi, bits4_64 f hi]
  dsimp only
  rcases Nat.lt_or_ge i 4 with g | g
  · rw [decide_eq_true (p := i < 4) g, decide_eq_false (p := 4 ≤ i) (by omega), show i / 4 = 0 by omega, show i % 4 = i by omega]
    simp
  · obtain ⟨j, hj⟩ : ∃ j, i / 4 = j + 1 := ⟨i / 4 - 1, by omega⟩
    rw [decide_eq_false (p := i < 4) (by omega), decide_eq_true (p := 4 ≤ i) g, h _ (by omega), hj, show (i - 4) / 4 = j by omega, show (i - 4) % 4 = i % 4 by omega]
    simp
theorem PR_end {q : Int64} {f : Nat → Bool} {s : Nat → List Bool} (h : PR q (fun w => f w :: s w)) : (q &&& 15).toInt32 = bits4 f := by
  have e : q &&& 15 = (bits4 f).toInt64 := by
    apply Int64.toBitVec_inj.mp
    apply BitVec.eq_of_getLsbD_eq
    intro i hi
    rw [Int64.toBitVec_and, BitVec.getLsbD_and, h i hi, l15_b i hi, bits4_64 f hi]
    dsimp only
    rcases Nat.lt_or_ge i 4 with g | g
    · rw [decide_eq_true g, show i / 4 = 0 by omega, show i % 4 = i by omega]
      simp
    · rw [decide_eq_false (by omega)]
      simp
  rw [e, Int32.toInt32_toInt64]
theorem PR_end0 {q : Int64} (h : PR q (fun _ => [])) : (q &&& 15).toInt32 = bits4 (fun _ => false) := by
  have : PR q (fun w => (fun _ => false) w :: (fun _ => []) w) := by
    intro i hi
    rw [h i hi]
    dsimp only
    cases hj : i / 4 with
    | zero => rfl
    | succ j => rfl
  exact PR_end this
/-- numbers of a step -/
theorem dv_i {a b : Nat} (ha : a < 2 ^ 31) (hb : b < 2 ^ 31) : nI a / nI b = nI (a / b) := (Int32.ofNat_div ha hb).symm
theorem rm_i {a b : Nat} (ha : a < 2 ^ 31) (hb : b < 2 ^ 31) : rmI (nI a) (nI b) = nI (a % b) := by
  have e : a = a / b * b + a % b := by rw [Nat.mul_comm]; exact (Nat.div_add_mod a b).symm
  have h1 : nI a = nI (a / b) * nI b + nI (a % b) := by rw [pk_mul, nI_add, ← e]
  unfold rmI
  rw [dv_i ha hb]
  rw [h1, Int32.add_comm, Int32.add_sub_cancel]
def vls (p q k v w d : Int32) : Nat → Int32 := fun i => if i = 0 then p else if i = 1 then q else if i = 2 then k else if i = 3 then v else if i = 4 then w else rmI d 10
def stI0 (c : Nat) : Int32 := if 3 ≤ c then nI (c - 3) else if c = 0 then -1 else if c = 1 then -2 else -3
def lou (wo : Nat → Int32) (sem : Nat → (Nat → Int32) → Bool) (vals : Nat → Int32) : Nat → Int32
  | 0 => 1
  | i + 1 => lou wo sem vals i + (if sem i vals = true then wo i else 0)
end

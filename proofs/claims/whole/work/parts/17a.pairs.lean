noncomputable section
/-! MOST PAIRS, mathematically: the most (mxF), the first best choice (bsF), the model's way (dfs), the component's answer (mtF). -/
def er (av : Nat → Bool) (j : Nat) : Nat → Bool := fun i => av i && !decide (i = j)
def lpM (c : Nat → Bool) (v : Nat → Nat) : Nat → Nat → Nat → Nat
  | 0, _, acc => acc
  | m + 1, j, acc => lpM c v m (j + 1) (if c j = true then max acc (v j) else acc)
def lpD {α : Type} (c : Nat → Bool) (s : Nat → α → α) : Nat → Nat → α → α
  | 0, _, a => a
  | m + 1, j, a => lpD c s m (j + 1) (if c j = true then s j a else a)
def fsJ (c : Nat → Bool) : Nat → Nat → Option Nat
  | 0, _ => none
  | m + 1, j => if c j = true then some j else fsJ c m (j + 1)
def mxF (f : Nat → Nat → Bool) : Nat → Nat → (Nat → Bool) → Nat
  | 0, _, _ => 0
  | k + 1, p, av => if av p = true then lpM (fun j => av j && f p j) (fun j => 1 + mxF f k (p + 1) (er av j)) k (p + 1) (mxF f k (p + 1) av) else mxF f k (p + 1) av
def fmJ (f : Nat → Nat → Bool) (k p : Nat) (av : Nat → Bool) : Option Nat := fsJ (fun j => (av j && f p j) && decide (1 + mxF f k (p + 1) (er av j) = mxF f (k + 1) p av)) k (p + 1)
def bsF (f : Nat → Nat → Bool) : Nat → Nat → (Nat → Bool) → (Nat → Int32) → (Nat → Int32)
  | 0, _, _, w => w
  | k + 1, p, av, w => if av p = true then (match fmJ f k p av with
      | some j => bsF f k (p + 1) (er av j) (va_up (va_up w p (nI j)) j (nI p))
      | none => bsF f k (p + 1) av w) else bsF f k (p + 1) av w
def dfs (f : Nat → Nat → Bool) : Nat → Nat → (Nat → Int32) → Nat → Int × (Nat → Int32) → Int × (Nat → Int32)
  | 0, _, w, many, st => if st.1 < (many : Int) then ((many : Int), w) else st
  | k + 1, p, w, many, st => if w p = -5 then dfs f k (p + 1) w many (lpD (fun j => decide (w j = -5) && f p j) (fun j st => dfs f k (p + 1) (va_up (va_up w p (nI j)) j (nI p)) (many + 1) st) k (p + 1) st) else dfs f k (p + 1) w many st
def optI : Option Nat → Int32
  | some j => nI j
  | none => -5
def erO (av : Nat → Bool) : Option Nat → Nat → Bool
  | some j => er av j
  | none => av
def mtF (f : Nat → Nat → Bool) (x : Nat) : Nat → Nat → (Nat → Bool) → Int32
  | 0, _, _ => -5
  | k + 1, p, av => if av p = true then (if p = x then optI (fmJ f k p av) else if optI (fmJ f k p av) = nI x then nI p else mtF f x k (p + 1) (erO av (fmJ f k p av))) else mtF f x k (p + 1) av
theorem lpM_congr {c c' : Nat → Bool} {v v' : Nat → Nat} : ∀ m j acc, (∀ i, j ≤ i → i < j + m → c i = c' i ∧ v i = v' i) → lpM c v m j acc = lpM c' v' m j acc := by
  intro m
  induction m with
  | zero => intro j acc _; rfl
  | succ m ih =>
    intro j acc h
    show lpM c v m (j + 1) _ = lpM c' v' m (j + 1) _
    rw [(h j (Nat.le_refl _) (by omega)).1, (h j (Nat.le_refl _) (by omega)).2]
    exact ih _ _ (fun i h1 h2 => h i (by omega) (by omega))
theorem fsJ_congr {c c' : Nat → Bool} : ∀ m j, (∀ i, j ≤ i → i < j + m → c i = c' i) → fsJ c m j = fsJ c' m j := by
  intro m
  induction m with
  | zero => intro j _; rfl
  | succ m ih =>
    intro j h
    show (if c j = true then some j else fsJ c m (j + 1)) = (if c' j = true then some j else fsJ c' m (j + 1))
    rw [h j (Nat.le_refl _) (by omega), ih (j + 1) (fun i h1 h2 => h i (by omega) (by omega))]
theorem fsJ_some {c : Nat → Bool} : ∀ m j i, fsJ c m j = some i → c i = true ∧ j ≤ i ∧ i < j + m := by
  intro m
  induction m with
  | zero => intro j i h; cases h
  | succ m ih =>
    intro j i h
    have h' : (if c j = true then some j else fsJ c m (j + 1)) = some i := h
    by_cases e : c j = true
    · rw [if_pos e] at h'
      cases h'
      exact ⟨e, Nat.le_refl _, by omega⟩
    · rw [if_neg e] at h'
      obtain ⟨h1, h2, h3⟩ := ih _ _ h'
      exact ⟨h1, by omega, by omega⟩
theorem lpM_max {c : Nat → Bool} {v : Nat → Nat} : ∀ m j acc x, lpM c v m j (max acc x) = max (lpM c v m j acc) x := by
  intro m
  induction m with
  | zero => intro j acc x; rfl
  | succ m ih =>
    intro j acc x
    show lpM c v m (j + 1) _ = max (lpM c v m (j + 1) _) x
    rw [← ih]
    congr 1
    split
    · omega
    · rfl
theorem mxF_congr {f : Nat → Nat → Bool} : ∀ k p av av', (∀ i, p ≤ i → i < p + k → av i = av' i) → mxF f k p av = mxF f k p av' := by
  intro k
  induction k with
  | zero => intro p av av' _; rfl
  | succ k ih =>
    intro p av av' h
    have e0 := h p (Nat.le_refl _) (by omega)
    have e1 := ih (p + 1) av av' (fun i h1 h2 => h i (by omega) (by omega))
    show (if av p = true then _ else _) = (if av' p = true then _ else _)
    rw [e0, e1, lpM_congr (c := fun j => av j && f p j) (c' := fun j => av' j && f p j) (v := fun j => 1 + mxF f k (p + 1) (er av j)) (v' := fun j => 1 + mxF f k (p + 1) (er av' j)) k (p + 1) _ (fun i h1 h2 => ⟨by rw [h i (by omega) (by omega)], by
      rw [ih (p + 1) (er av i) (er av' i) (fun q h3 h4 => by unfold er; rw [h q (by omega) (by omega)])]⟩)]
theorem fmJ_congr {f : Nat → Nat → Bool} {k p : Nat} {av av' : Nat → Bool} (h : ∀ i, p ≤ i → i < p + (k + 1) → av i = av' i) : fmJ f k p av = fmJ f k p av' := by
  unfold fmJ
  rw [mxF_congr (k + 1) p av av' h]
  refine fsJ_congr _ _ (fun i h1 h2 => ?_)
  rw [h i (by omega) (by omega), mxF_congr k (p + 1) (er av i) (er av' i) (fun q h3 h4 => by unfold er; rw [h q (by omega) (by omega)])]
theorem bsF_congr {f : Nat → Nat → Bool} : ∀ k p av av' w, (∀ i, p ≤ i → i < p + k → av i = av' i) → bsF f k p av w = bsF f k p av' w := by
  intro k
  induction k with
  | zero => intro p av av' w _; rfl
  | succ k ih =>
    intro p av av' w h
    have e0 := h p (Nat.le_refl _) (by omega)
    show (if av p = true then (match fmJ f k p av with
      | some j => bsF f k (p + 1) (er av j) (va_up (va_up w p (nI j)) j (nI p))
      | none => bsF f k (p + 1) av w) else bsF f k (p + 1) av w) = (if av' p = true then (match fmJ f k p av' with
      | some j => bsF f k (p + 1) (er av' j) (va_up (va_up w p (nI j)) j (nI p))
      | none => bsF f k (p + 1) av' w) else bsF f k (p + 1) av' w)
    rw [e0, fmJ_congr h, ih (p + 1) av av' w (fun i h1 h2 => h i (by omega) (by omega))]
    cases fmJ f k p av' with
    | none => rfl
    | some j =>
      dsimp only
      rw [ih (p + 1) (er av j) (er av' j) _ (fun i h1 h2 => by unfold er; rw [h i (by omega) (by omega)])]
theorem mxF_skip {f : Nat → Nat → Bool} {av : Nat → Bool} : ∀ m p k, (∀ i, p ≤ i → i < p + m → av i = false) → mxF f (m + k) p av = mxF f k (p + m) av := by
  intro m
  induction m with
  | zero => intro p k _; rw [Nat.zero_add, Nat.add_zero]
  | succ m ih =>
    intro p k h
    rw [show m + 1 + k = (m + k) + 1 by omega]
    show (if av p = true then _ else mxF f (m + k) (p + 1) av) = _
    rw [h p (Nat.le_refl _) (by omega), if_neg (by decide), ih (p + 1) k (fun i h1 h2 => h i (by omega) (by omega)), show p + 1 + m = p + (m + 1) by omega]
theorem nI_n5 (j : Nat) (h : j < 100) : ¬ nI j = -5 := by
  rw [eq_i, nI_toInt (by omega), t_m5]; omega
theorem lp_fin {c : Nat → Bool} {V : Nat → Nat} {L : Nat → (Nat → Int32)} {U many : Nat} {Z : Nat → Int32} : ∀ m j (mo : Int) be, (fun st : Int × (Nat → Int32) => if st.1 < ((many + U : Nat) : Int) then (((many + U : Nat) : Int), Z) else st) (lpD c (fun j st => if st.1 < ((many + V j : Nat) : Int) then (((many + V j : Nat) : Int), L j) else st) m j (mo, be)) = if mo < ((many + lpM c V m j U : Nat) : Int) then (((many + lpM c V m j U : Nat) : Int), (match fsJ (fun i => c i && decide (V i = lpM c V m j U)) m j with
      | some i => L i
      | none => Z)) else (mo, be) := by
  intro m
  induction m with
  | zero => intro j mo be; rfl
  | succ m ih =>
    intro j mo be
    by_cases hc : c j = true
    · have eT : lpM c V (m + 1) j U = max (lpM c V m (j + 1) U) (V j) := by
        show lpM c V m (j + 1) (if c j = true then max U (V j) else U) = _
        rw [if_pos hc, lpM_max]
      have eD : ∀ st : Int × (Nat → Int32), lpD c (fun j st => if st.1 < ((many + V j : Nat) : Int) then (((many + V j : Nat) : Int), L j) else st) (m + 1) j st = lpD c (fun j st => if st.1 < ((many + V j : Nat) : Int) then (((many + V j : Nat) : Int), L j) else st) m (j + 1) (if st.1 < ((many + V j : Nat) : Int) then (((many + V j : Nat) : Int), L j) else st) := fun st => by
        show lpD c _ m (j + 1) (if c j = true then _ else st) = _
        rw [if_pos hc]
      rw [eD, eT]
      by_cases hv : lpM c V m (j + 1) U ≤ V j
      · have e1 : max (lpM c V m (j + 1) U) (V j) = V j := by omega
        rw [e1]
        have e2 : fsJ (fun i => c i && decide (V i = V j)) (m + 1) j = some j := by
          show (if (c j && decide (V j = V j)) = true then some j else _) = _
          rw [hc, decide_eq_true rfl, Bool.true_and, if_pos rfl]
        rw [e2]
        by_cases hm : mo < ((many + V j : Nat) : Int)
        · rw [if_pos hm, ih, if_neg (by omega)]
        · rw [if_neg hm, ih, if_neg (by omega)]
      · have e1 : max (lpM c V m (j + 1) U) (V j) = lpM c V m (j + 1) U := by omega
        rw [e1]
        have e2 : fsJ (fun i => c i && decide (V i = lpM c V m (j + 1) U)) (m + 1) j = fsJ (fun i => c i && decide (V i = lpM c V m (j + 1) U)) m (j + 1) := by
          show (if (c j && decide (V j = lpM c V m (j + 1) U)) = true then some j else _) = _
          rw [decide_eq_false (by omega), Bool.and_false, if_neg (by decide)]
        rw [e2]
        by_cases hm : mo < ((many + V j : Nat) : Int)
        · rw [if_pos hm, ih, if_pos (by omega), if_pos (by omega)]
        · rw [if_neg hm, ih]
    · have eT : lpM c V (m + 1) j U = lpM c V m (j + 1) U := by
        show lpM c V m (j + 1) (if c j = true then max U (V j) else U) = _
        rw [if_neg hc]
      have e2 : ∀ T, fsJ (fun i => c i && decide (V i = T)) (m + 1) j = fsJ (fun i => c i && decide (V i = T)) m (j + 1) := fun T => by
        show (if (c j && decide (V j = T)) = true then some j else _) = _
        rw [show c j = false by simpa using hc, Bool.false_and, if_neg (by decide)]
      have eD : ∀ st : Int × (Nat → Int32), lpD c (fun j st => if st.1 < ((many + V j : Nat) : Int) then (((many + V j : Nat) : Int), L j) else st) (m + 1) j st = lpD c (fun j st => if st.1 < ((many + V j : Nat) : Int) then (((many + V j : Nat) : Int), L j) else st) m (j + 1) st := fun st => by
        show lpD c _ m (j + 1) (if c j = true then _ else st) = _
        rw [if_neg hc]
      rw [eD, eT, e2, ih]
theorem lpD_congr {α : Type} {c c' : Nat → Bool} {s s' : Nat → α → α} : ∀ m j a, (∀ i, j ≤ i → i < j + m → c i = c' i) → (∀ i, j ≤ i → i < j + m → c i = true → s i = s' i) → lpD c s m j a = lpD c' s' m j a := by
  intro m
  induction m with
  | zero => intro j a _ _; rfl
  | succ m ih =>
    intro j a h1 h2
    have e : (if c j = true then s j a else a) = (if c' j = true then s' j a else a) := by
      rw [← h1 j (Nat.le_refl _) (by omega)]
      by_cases hc : c j = true
      · rw [if_pos hc, if_pos hc, h2 j (Nat.le_refl _) (by omega) hc]
      · rw [if_neg hc, if_neg hc]
    show lpD c s m (j + 1) _ = lpD c' s' m (j + 1) _
    rw [e]
    exact ih _ _ (fun i q1 q2 => h1 i (by omega) (by omega)) (fun i q1 q2 => h2 i (by omega) (by omega))
theorem dfs_eq {f : Nat → Nat → Bool} : ∀ k p w many mo be, p + k ≤ 6 → dfs f k p w many (mo, be) = if mo < ((many + mxF f k p (fun j => decide (w j = -5)) : Nat) : Int) then (((many + mxF f k p (fun j => decide (w j = -5)) : Nat) : Int), bsF f k p (fun j => decide (w j = -5)) w) else (mo, be) := by
  intro k
  induction k with
  | zero => intro p w many mo be _; rfl
  | succ k ih =>
    intro p w many mo be hp
    by_cases hw : w p = -5
    · have e1 : dfs f (k + 1) p w many (mo, be) = dfs f k (p + 1) w many (lpD (fun j => decide (w j = -5) && f p j) (fun j st => dfs f k (p + 1) (va_up (va_up w p (nI j)) j (nI p)) (many + 1) st) k (p + 1) (mo, be)) := if_pos hw
      rw [e1]
      let av : Nat → Bool := fun j => decide (w j = -5)
      have avp : av p = true := decide_eq_true hw
      have ch : ∀ j, p + 1 ≤ j → j < p + 1 + k → ∀ i, p + 1 ≤ i → i < p + 1 + k → (fun i => decide (va_up (va_up w p (nI j)) j (nI p) i = -5)) i = er av j i := fun j h1 h2 i h3 h4 => by
        show decide (va_up (va_up w p (nI j)) j (nI p) i = -5) = (decide (w i = -5) && !decide (i = j))
        by_cases e : i = j
        · rw [e, va_up_self, decide_eq_false (nI_n5 p (by omega)), decide_eq_true rfl]
          simp
        · rw [va_up_ne _ _ e, va_up_ne _ _ (by omega), decide_eq_false e]
          simp
      rw [lpD_congr (c' := fun j => av j && f p j) (s' := fun j st => if st.1 < ((many + (1 + mxF f k (p + 1) (er av j)) : Nat) : Int) then (((many + (1 + mxF f k (p + 1) (er av j)) : Nat) : Int), bsF f k (p + 1) (er av j) (va_up (va_up w p (nI j)) j (nI p))) else st) k (p + 1) (mo, be) (fun i _ _ => rfl) (fun j h1 h2 _ => by
        funext st
        obtain ⟨mo', be'⟩ := st
        rw [ih (p + 1) _ _ mo' be' (by omega), mxF_congr k (p + 1) _ (er av j) (ch j h1 h2), bsF_congr k (p + 1) _ (er av j) _ (ch j h1 h2), show many + 1 + mxF f k (p + 1) (er av j) = many + (1 + mxF f k (p + 1) (er av j)) by omega])]
      have fn : ∀ st : Int × (Nat → Int32), dfs f k (p + 1) w many st = (fun st : Int × (Nat → Int32) => if st.1 < ((many + mxF f k (p + 1) av : Nat) : Int) then (((many + mxF f k (p + 1) av : Nat) : Int), bsF f k (p + 1) av w) else st) st := fun st => ih (p + 1) w many st.1 st.2 (by omega)
      rw [fn]
      have lf := lp_fin (c := fun j => av j && f p j) (V := fun j => 1 + mxF f k (p + 1) (er av j)) (L := fun j => bsF f k (p + 1) (er av j) (va_up (va_up w p (nI j)) j (nI p))) (U := mxF f k (p + 1) av) (many := many) (Z := bsF f k (p + 1) av w) k (p + 1) mo be
      rw [lf]
      have eM : mxF f (k + 1) p av = lpM (fun j => av j && f p j) (fun j => 1 + mxF f k (p + 1) (er av j)) k (p + 1) (mxF f k (p + 1) av) := if_pos avp
      have eB : bsF f (k + 1) p av w = (match fmJ f k p av with
        | some j => bsF f k (p + 1) (er av j) (va_up (va_up w p (nI j)) j (nI p))
        | none => bsF f k (p + 1) av w) := if_pos avp
      show _ = if mo < ((many + mxF f (k + 1) p av : Nat) : Int) then (((many + mxF f (k + 1) p av : Nat) : Int), bsF f (k + 1) p av w) else (mo, be)
      rw [eB]
      unfold fmJ
      rw [eM]
    · have e1 : dfs f (k + 1) p w many (mo, be) = dfs f k (p + 1) w many (mo, be) := if_neg hw
      have e2 : mxF f (k + 1) p (fun j => decide (w j = -5)) = mxF f k (p + 1) (fun j => decide (w j = -5)) := if_neg (by simpa using hw)
      have e3 : bsF f (k + 1) p (fun j => decide (w j = -5)) w = bsF f k (p + 1) (fun j => decide (w j = -5)) w := if_neg (by simpa using hw)
      rw [e1, e2, e3]
      exact ih _ _ _ _ _ (by omega)
theorem bsF_keep {f : Nat → Nat → Bool} {x : Nat} : ∀ k p av w, (x < p ∨ av x = false) → bsF f k p av w x = w x := by
  intro k
  induction k with
  | zero => intro p av w _; rfl
  | succ k ih =>
    intro p av w h
    by_cases hp : av p = true
    · have eB : bsF f (k + 1) p av w = (match fmJ f k p av with
        | some j => bsF f k (p + 1) (er av j) (va_up (va_up w p (nI j)) j (nI p))
        | none => bsF f k (p + 1) av w) := if_pos hp
      rw [eB]
      cases hj : fmJ f k p av with
      | none => exact ih _ _ _ (h.elim (fun q => .inl (by omega)) .inr)
      | some j =>
        obtain ⟨g1, g2, g3⟩ := fsJ_some _ _ _ hj
        simp only [Bool.and_eq_true] at g1
        have n1 : x ≠ p := fun e => by subst e; rcases h with h | h; omega; rw [h] at hp; cases hp
        have n2 : x ≠ j := fun e => by subst e; rcases h with h | h; omega; rw [h] at g1; cases g1.1.1
        dsimp only
        rw [ih (p + 1) _ _ (h.elim (fun q => .inl (by omega)) (fun q => .inr (by unfold er; rw [q]; rfl))), va_up_ne _ _ n2, va_up_ne _ _ n1]
    · have eB : bsF f (k + 1) p av w = bsF f k (p + 1) av w := if_neg hp
      rw [eB]
      exact ih _ _ _ (h.elim (fun q => .inl (by omega)) .inr)
theorem mt_bs {f : Nat → Nat → Bool} {x : Nat} : ∀ k p av w, p + k ≤ 6 → p ≤ x → x < p + k → av x = true → w x = -5 → mtF f x k p av = bsF f k p av w x := by
  intro k
  induction k with
  | zero => intro p av w _ h1 h2; omega
  | succ k ih =>
    intro p av w h6 h1 h2 h3 h4
    by_cases hp : av p = true
    · have eB : bsF f (k + 1) p av w = (match fmJ f k p av with
        | some j => bsF f k (p + 1) (er av j) (va_up (va_up w p (nI j)) j (nI p))
        | none => bsF f k (p + 1) av w) := if_pos hp
      have eM : mtF f x (k + 1) p av = (if p = x then optI (fmJ f k p av) else if optI (fmJ f k p av) = nI x then nI p else mtF f x k (p + 1) (erO av (fmJ f k p av))) := if_pos hp
      rw [eB, eM]
      cases hj : fmJ f k p av with
      | none =>
        show (if p = x then (-5 : Int32) else if (-5 : Int32) = nI x then nI p else mtF f x k (p + 1) av) = bsF f k (p + 1) av w x
        by_cases e : p = x
        · subst e
          rw [if_pos rfl, bsF_keep k (p + 1) _ _ (.inl (by omega)), h4]
        · rw [if_neg e, if_neg (fun z => nI_n5 x (by omega) z.symm)]
          exact ih _ _ _ (by omega) (by omega) (by omega) h3 h4
      | some j =>
        obtain ⟨g1, g2, g3⟩ := fsJ_some _ _ _ hj
        show (if p = x then nI j else if nI j = nI x then nI p else mtF f x k (p + 1) (er av j)) = bsF f k (p + 1) (er av j) (va_up (va_up w p (nI j)) j (nI p)) x
        by_cases e : p = x
        · subst e
          rw [if_pos rfl, bsF_keep k (p + 1) _ _ (.inl (by omega)), va_up_ne _ _ (by omega), va_up_self]
        · rw [if_neg e]
          by_cases e2 : j = x
          · subst e2
            rw [if_pos rfl, bsF_keep k (p + 1) _ _ (.inr (by unfold er; simp)), va_up_self]
          · rw [if_neg (fun z => e2 (by rw [eq_i, nI_toInt (by omega), nI_toInt (by omega)] at z; omega))]
            refine ih _ _ _ (by omega) (by omega) (by omega) ?_ ?_
            · unfold er
              rw [h3, decide_eq_false (fun z => e2 z.symm)]
              rfl
            · rw [va_up_ne _ _ (fun z => e2 z.symm), va_up_ne _ _ (fun z => e z.symm)]
              exact h4
    · have eB : bsF f (k + 1) p av w = bsF f k (p + 1) av w := if_neg hp
      have eM : mtF f x (k + 1) p av = mtF f x k (p + 1) av := if_neg hp
      have : p ≠ x := fun e => hp (by rw [e]; exact h3)
      rw [eB, eM]
      exact ih _ _ _ (by omega) (by omega) (by omega) h3 h4
end

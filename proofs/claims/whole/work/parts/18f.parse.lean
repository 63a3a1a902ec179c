noncomputable section
/-! THE READER, mathematically: whether it reads, up to where, what the component and the model write down. psr fuel mode depth place: mode 0 a single, 1 the rest behind a single (&), 2 the rest behind these (|). -/
abbrev PRs : Type := Bool × Nat × List Nat × List Nat
def isC (t : Nat → Nat) (sz c p : Nat) : Bool := decide (p < sz ∧ t p = c)
def pT (ps : Nat → Nat → Nat → PRs) (d p : Nat) : PRs := if (ps 0 d p).1 = true then ((ps 1 d (ps 0 d p).2.1).1, (ps 1 d (ps 0 d p).2.1).2.1, (ps 0 d p).2.2.1 ++ (ps 1 d (ps 0 d p).2.1).2.2.1, (ps 0 d p).2.2.2 ++ (ps 1 d (ps 0 d p).2.1).2.2.2) else ps 0 d p
def pE (ps : Nat → Nat → Nat → PRs) (d p : Nat) : PRs := if (pT ps d p).1 = true then ((ps 2 d (pT ps d p).2.1).1, (ps 2 d (pT ps d p).2.1).2.1, (pT ps d p).2.2.1 ++ (ps 2 d (pT ps d p).2.1).2.2.1, (pT ps d p).2.2.2 ++ (ps 2 d (pT ps d p).2.1).2.2.2) else pT ps d p
def pF (t : Nat → Nat) (sz : Nat) (ps : Nat → Nat → Nat → PRs) (d p : Nat) : PRs :=
  if d < 4 ∧ isC t sz 33 p = true then ((ps 0 (d + 1) (p + 1)).1, (ps 0 (d + 1) (p + 1)).2.1, (ps 0 (d + 1) (p + 1)).2.2.1 ++ [0], (ps 0 (d + 1) (p + 1)).2.2.2 ++ (if (ps 0 (d + 1) (p + 1)).1 = true then [0] else []))
  else if d < 4 ∧ isC t sz 40 p = true then (if (pE ps (d + 1) (p + 1)).1 = true ∧ isC t sz 41 (pE ps (d + 1) (p + 1)).2.1 = true then (true, (pE ps (d + 1) (p + 1)).2.1 + 1, (pE ps (d + 1) (p + 1)).2.2) else (false, (pE ps (d + 1) (p + 1)).2))
  else match tst t sz p with
    | (some c, p') => (true, p', [c], [c])
    | (none, p') => (false, p', [], [])
def pTT (t : Nat → Nat) (sz c k : Nat) (one rest : Nat → PRs) (p : Nat) : PRs :=
  if isC t sz c p = true then (if (one (p + 1)).1 = true then ((rest (one (p + 1)).2.1).1, (rest (one (p + 1)).2.1).2.1, (one (p + 1)).2.2.1 ++ [k] ++ (rest (one (p + 1)).2.1).2.2.1, (one (p + 1)).2.2.2 ++ (rest (one (p + 1)).2.1).2.2.2 ++ (if (rest (one (p + 1)).2.1).1 = true then [k] else [])) else (false, (one (p + 1)).2.1, (one (p + 1)).2.2.1 ++ [k], (one (p + 1)).2.2.2)) else (true, p, [], [])
def psr (t : Nat → Nat) (sz : Nat) : Nat → Nat → Nat → Nat → PRs
  | 0, _, _, p => (false, p, [], [])
  | f + 1, m, d, p => if m = 0 then pF t sz (psr t sz f) d p else if m = 1 then pTT t sz 38 1 (psr t sz f 0 d) (psr t sz f 1 d) p else pTT t sz 124 2 (pT (psr t sz f) d) (psr t sz f 2 d) p
/-- what is read lies in the text, and as much is written down at most -/
def RdOk (sz p : Nat) (r : PRs) : Prop := p ≤ r.2.1 ∧ r.2.1 ≤ sz ∧ r.2.2.1.length ≤ r.2.1 - p ∧ r.2.2.2.length ≤ r.2.1 - p
theorem RdOk_ap {sz p : Nat} {r q : PRs} {b : Bool} (h1 : RdOk sz p r) (h2 : RdOk sz r.2.1 q) : RdOk sz p (b, q.2.1, r.2.2.1 ++ q.2.2.1, r.2.2.2 ++ q.2.2.2) := by
  obtain ⟨a1, a2, a3, a4⟩ := h1
  obtain ⟨b1, b2, b3, b4⟩ := h2
  refine ⟨Nat.le_trans a1 b1, b2, ?_, ?_⟩
  · show (r.2.2.1 ++ q.2.2.1).length ≤ q.2.1 - p
    rw [List.length_append]; omega
  · show (r.2.2.2 ++ q.2.2.2).length ≤ q.2.1 - p
    rw [List.length_append]; omega
theorem pT_ok {sz d p : Nat} {ps : Nat → Nat → Nat → PRs} (h : ∀ m d p, p ≤ sz → RdOk sz p (ps m d p)) (hp : p ≤ sz) : RdOk sz p (pT ps d p) := by
  unfold pT
  split
  · exact RdOk_ap (h 0 d p hp) (h 1 d _ (h 0 d p hp).2.1)
  · exact h 0 d p hp
theorem pE_ok {sz d p : Nat} {ps : Nat → Nat → Nat → PRs} (h : ∀ m d p, p ≤ sz → RdOk sz p (ps m d p)) (hp : p ≤ sz) : RdOk sz p (pE ps d p) := by
  unfold pE
  split
  · exact RdOk_ap (pT_ok h hp) (h 2 d _ (pT_ok h hp).2.1)
  · exact pT_ok h hp
theorem isC_i {t : Nat → Nat} {sz c p : Nat} : isC t sz c p = true ↔ p < sz ∧ t p = c := by unfold isC; rw [decide_eq_true_eq]
theorem tst_ok {t : Nat → Nat} {sz p : Nat} (hp : p ≤ sz) : p ≤ (tst t sz p).2 ∧ (tst t sz p).2 ≤ sz ∧ ∀ c, (tst t sz p).1 = some c → p + 1 ≤ (tst t sz p).2 := by
  unfold tst
  cases e1 : oneAt lxN t sz p with
  | none => exact ⟨Nat.le_refl _, hp, fun c h => by cases h⟩
  | some i =>
    have l1 : p < sz := by
      unfold oneAt at e1
      split at e1
      · assumption
      · cases e1
    dsimp only
    cases e2 : oneAt sgN t sz (p + 1) with
    | none => exact ⟨Nat.le_succ _, l1, fun c h => by cases h⟩
    | some j =>
      have l2 : p + 1 < sz := by
        unfold oneAt at e2
        split at e2
        · assumption
        · cases e2
      dsimp only
      cases e3 : num t sz (p + 2) with
      | none => exact ⟨by dsimp only; omega, l2, fun c h => by cases h⟩
      | some z =>
        obtain ⟨v, p'⟩ := z
        have := num_lt e3
        exact ⟨by dsimp only; omega, by dsimp only; omega, fun c _ => by dsimp only; omega⟩
theorem pTT_ok {t : Nat → Nat} {sz c k p : Nat} {one rest : Nat → PRs} (h1 : ∀ p, p ≤ sz → RdOk sz p (one p)) (h2 : ∀ p, p ≤ sz → RdOk sz p (rest p)) (hp : p ≤ sz) : RdOk sz p (pTT t sz c k one rest p) := by
  unfold pTT
  split
  · rename_i hc
    rw [isC_i] at hc
    obtain ⟨a1, a2, a3, a4⟩ := h1 (p + 1) (by omega)
    split
    · obtain ⟨b1, b2, b3, b4⟩ := h2 _ a2
      refine ⟨by dsimp only; omega, b2, ?_, ?_⟩
      · simp only [List.length_append, List.length_cons, List.length_nil]; omega
      · simp only [List.length_append]
        split
        · simp only [List.length_cons, List.length_nil]; omega
        · simp only [List.length_nil]; omega
    · refine ⟨by dsimp only; omega, a2, ?_, by dsimp only; omega⟩
      simp only [List.length_append, List.length_cons, List.length_nil]; omega
  · exact ⟨Nat.le_refl _, hp, Nat.zero_le _, Nat.zero_le _⟩
theorem pF_ok {t : Nat → Nat} {sz d p : Nat} {ps : Nat → Nat → Nat → PRs} (h : ∀ m d p, p ≤ sz → RdOk sz p (ps m d p)) (hp : p ≤ sz) : RdOk sz p (pF t sz ps d p) := by
  unfold pF
  split
  · rename_i hc
    have := isC_i.mp hc.2
    obtain ⟨a1, a2, a3, a4⟩ := h 0 (d + 1) (p + 1) (by omega)
    refine ⟨by dsimp only; omega, a2, ?_, ?_⟩
    · simp only [List.length_append, List.length_cons, List.length_nil]; omega
    · simp only [List.length_append]
      split
      · simp only [List.length_cons, List.length_nil]; omega
      · simp only [List.length_nil]; omega
  · split
    · rename_i hc
      have := isC_i.mp hc.2
      obtain ⟨a1, a2, a3, a4⟩ := pE_ok (d := d + 1) h (show p + 1 ≤ sz by omega)
      split
      · rename_i hd
        have := isC_i.mp hd.2
        exact ⟨by dsimp only; omega, by dsimp only; omega, by dsimp only; omega, by dsimp only; omega⟩
      · exact ⟨by dsimp only; omega, a2, by dsimp only; omega, by dsimp only; omega⟩
    · have := tst_ok (t := t) hp
      generalize tst t sz p = z at this
      obtain ⟨o, p'⟩ := z
      cases o with
      | none => exact ⟨this.1, this.2.1, Nat.zero_le _, Nat.zero_le _⟩
      | some c =>
        have h3 := this.2.2 c rfl
        dsimp only at h3
        refine ⟨this.1, this.2.1, ?_, ?_⟩
        · show 1 ≤ p' - p; omega
        · show 1 ≤ p' - p; omega
theorem psr_ok {t : Nat → Nat} {sz : Nat} : ∀ f m d p, p ≤ sz → RdOk sz p (psr t sz f m d p) := by
  intro f
  induction f with
  | zero => intro m d p hp; exact ⟨Nat.le_refl _, hp, Nat.zero_le _, Nat.zero_le _⟩
  | succ f ih =>
    intro m d p hp
    show RdOk sz p (if m = 0 then _ else if m = 1 then _ else _)
    split
    · exact pF_ok ih hp
    · split
      · exact pTT_ok (fun p hp => ih 0 d p hp) (fun p hp => ih 1 d p hp) hp
      · exact pTT_ok (fun p hp => pT_ok ih hp) (fun p hp => ih 2 d p hp) hp
end

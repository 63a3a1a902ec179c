noncomputable section
/-! A TOWN BECOMES ANOTHER. -/
def AB (a b : Nat) : Prop := (a = 45 ∧ b = 33) ∨ (a = 33 ∧ b = 45) ∨ (a = 57 ∧ b = 33)
def WhoOk (a n : Nat) (K : Mk) (P : Mr) : Prop := ∀ i, i < 6 → P (a + 1) i = none ∨ ∃ w k, P (a + 1) i = some w ∧ k < 7 ∧ Per n K w (kcl k)
theorem cpy_all {α : Type} {f g : Nat → α} {n i : Nat} (h : i < n) : va_cpy f g 0 0 n i = f i := by
  unfold va_cpy
  rw [if_pos (by omega), Nat.sub_zero, Nat.zero_add]
/-- a person comes into an array -/
theorem as_p {n w k : Nat} {K : Mk} {Y : Prop} (hp : Per n K w (kcl k)) (hk : k < 7) (h : Y) : (match sho T1 n K w with
    | some (.inr (ci, _)) => cond ((Nat.beq 4 4 && isSub ci 4) || (Nat.beq 4 5 && Nat.beq ci 7)) Y False
    | _ => False) := by
  rw [sho_p hp]
  have e : ∀ k, k < 7 → isSub (kcl k) 4 = true := by decide
  show cond ((Nat.beq 4 4 && isSub (kcl k) 4) || (Nat.beq 4 5 && Nat.beq (kcl k) 7)) Y False
  rw [e k hk]
  exact h
theorem pt_n {A : Int32 → Prop} {B : Nat → Prop} {C : Prop} {y : Option Nat} (h : y = none) (hC : C) : (match va_rf y with
    | .int x => A x
    | .ref b => B b
    | .null => C
    | _ => False) := by
  subst h
  exact hC
theorem pt_s {A : Int32 → Prop} {B : Nat → Prop} {C : Prop} {b : Nat} {y : Option Nat} (h : y = some b) (hB : B b) : (match va_rf y with
    | .int x => A x
    | .ref b => B b
    | .null => C
    | _ => False) := by
  subst h
  exact hB
theorem as_n {A : Nat → Int32 → Nat → List Value → Prop} {B : Int32 → Nat → List Value → Prop} {a : Nat} {i : Int32} {y : Option Nat} {q : List Value} (h : y = none) (hB : B i a q) : (match va_rf y :: .int i :: .ref a :: q with
    | .ref b :: .int i :: .ref a :: r => A b i a r
    | .null :: .int i :: .ref a :: r => B i a r
    | _ => False) := by
  subst h
  exact hB
theorem as_s {A : Nat → Int32 → Nat → List Value → Prop} {B : Int32 → Nat → List Value → Prop} {a b : Nat} {i : Int32} {y : Option Nat} {q : List Value} (h : y = some b) (hA : A b i a q) : (match va_rf y :: .int i :: .ref a :: q with
    | .ref b :: .int i :: .ref a :: r => A b i a r
    | .null :: .int i :: .ref a :: r => B i a r
    | _ => False) := by
  subst h
  exact hA
section A
variable {l : Launch} {L : Nat} {xs : Nat → Int32} {D : Nat} {n : Nat} {K : Mk} {S : Mi} {G : Ml} {P : Mr} {Q : QT} {a b : Nat}
set_option maxRecDepth 20000
theorem m_becomes (hab : AB a b) (hw : WhoOk b n K P) (h : ∀ S' P', (S' a 0 = S b 0 ∧ S' a 7 = S b 7 ∧ S' a 10 = S b 10 ∧ S' a 12 = S b 12 ∧ S' a 14 = S b 14) → ((∀ i, i < 6 → S' (a + 2) i = S (b + 2) i) ∧ (∀ i, i < 24 → S' (a + 3) i = S (b + 3) i) ∧ (∀ i, i < 36 → S' (a + 4) i = S (b + 4) i) ∧ (∀ i, i < 36 → S' (a + 5) i = S (b + 5) i) ∧ (∀ i, i < 36 → S' (a + 6) i = S (b + 6) i) ∧ (∀ i, i < 25 → S' (a + 7) i = S (b + 7) i) ∧ (∀ i, i < 20 → S' (a + 8) i = S (b + 8) i) ∧ (∀ i, i < 24 → S' (a + 9) i = S (b + 9) i)) → (∀ c j, (c < a ∨ a + 9 < c) → S' c j = S c j) → P' a 8 = P b 8 → (∀ i, i < 6 → P' (a + 1) i = P (b + 1) i) → (∀ c j, c ≠ a → c ≠ a + 1 → P' c j = P c j) → Q none n K S' G P') : Ok l L xs T1 (D + 1) jX9_becomes 0 [.ref a, .ref b] n K S G P Q := by
  refine I_X9_becomes (by decide) (fun At go => ?_)
  have a140 : ∀ S1 P1, (S1 a 0 = S b 0 ∧ S1 a 7 = S b 7) → ((∀ i, i < 6 → S1 (a + 2) i = S (b + 2) i) ∧ (∀ i, i < 24 → S1 (a + 3) i = S (b + 3) i) ∧ (∀ i, i < 36 → S1 (a + 4) i = S (b + 4) i) ∧ (∀ i, i < 36 → S1 (a + 5) i = S (b + 5) i) ∧ (∀ i, i < 36 → S1 (a + 6) i = S (b + 6) i)) → (∀ c j, (c < a ∨ a + 9 < c) → S1 c j = S c j) → P1 a 8 = P b 8 → (∀ i, i < 6 → P1 (a + 1) i = P (b + 1) i) → (∀ c j, c ≠ a → c ≠ a + 1 → P1 c j = P c j) → At 140 [.ref a, .ref b, .int 6] [] n K S1 G P1 0 := by
    intro S1 P1 e1 e2 e3 e4 e5 e6
    have eb : ∀ c j, b ≤ c → c ≤ b + 9 → S1 c j = S c j := fun c j h1 h2 => e3 c j (by rcases hab with ⟨rfl, rfl⟩ | ⟨rfl, rfl⟩ | ⟨rfl, rfl⟩ <;> omega)
    have fin : ∀ S2 : Mi, (S2 a 10 = S1 b 10 ∧ S2 a 12 = S1 b 12 ∧ S2 a 14 = S1 b 14) → ((∀ i, i < 25 → S2 (a + 7) i = S1 (b + 7) i) ∧ (∀ i, i < 20 → S2 (a + 8) i = S1 (b + 8) i) ∧ (∀ i, i < 24 → S2 (a + 9) i = S1 (b + 9) i)) → (∀ c j, c ≠ a + 7 → c ≠ a + 8 → c ≠ a + 9 → ¬ (c = a ∧ (j = 10 ∨ j = 12 ∨ j = 14)) → S2 c j = S1 c j) → Q none n K S2 G P1 := by
      intro S2 f1 f2 f3
      refine h S2 P1 ⟨(f3 _ _ (by omega) (by omega) (by omega) (by omega)).trans e1.1, (f3 _ _ (by omega) (by omega) (by omega) (by omega)).trans e1.2, f1.1.trans (eb _ _ (by omega) (by omega)), f1.2.1.trans (eb _ _ (by omega) (by omega)), f1.2.2.trans (eb _ _ (by omega) (by omega))⟩ ⟨fun i hi => (f3 _ _ (by omega) (by omega) (by omega) (by omega)).trans (e2.1 i hi), fun i hi => (f3 _ _ (by omega) (by omega) (by omega) (by omega)).trans (e2.2.1 i hi), fun i hi => (f3 _ _ (by omega) (by omega) (by omega) (by omega)).trans (e2.2.2.1 i hi), fun i hi => (f3 _ _ (by omega) (by omega) (by omega) (by omega)).trans (e2.2.2.2.1 i hi), fun i hi => (f3 _ _ (by omega) (by omega) (by omega) (by omega)).trans (e2.2.2.2.2 i hi), fun i hi => (f2.1 i hi).trans (eb _ _ (by omega) (by omega)), fun i hi => (f2.2.1 i hi).trans (eb _ _ (by omega) (by omega)), fun i hi => (f2.2.2 i hi).trans (eb _ _ (by omega) (by omega))⟩ (fun c j hc => (f3 c j (by omega) (by omega) (by omega) (by omega)).trans (e3 c j hc)) e4 e5 e6
    have frm : ∀ (f7 f8 f9 : Nat → Int32) (x y z : Int32) (c j : Nat), c ≠ a + 7 → c ≠ a + 8 → c ≠ a + 9 → ¬ (c = a ∧ (j = 10 ∨ j = 12 ∨ j = 14)) → up2 (upR (up2 (upR (up2 (upR S1 (a + 7) f7) a 10 x) (a + 8) f8) a 12 y) (a + 9) f9) a 14 z c j = S1 c j := by
      intro f7 f8 f9 x y z c j h1 h2 h3 h4
      rw [up2_o _ _ (by omega), upR_o _ _ h3, up2_o _ _ (by omega), upR_o _ _ h2, up2_o _ _ (by omega), upR_o _ _ h1]
    rcases hab with ⟨rfl, rfl⟩ | ⟨rfl, rfl⟩ | ⟨rfl, rfl⟩ <;> (
    refine go [] 100 _ _ _ _ _ _ _ _ _ ?_
    refine ⟨by unfold cpOk; decide, ?_⟩
    refine ⟨by unfold cpOk; decide, ?_⟩
    refine ⟨by unfold cpOk; decide, ?_⟩
    exact fin _ ⟨rfl, rfl, rfl⟩ ⟨fun i hi => cpy_all hi, fun i hi => cpy_all hi, fun i hi => cpy_all hi⟩ (fun c j h1 h2 h3 h4 => frm _ _ _ _ _ _ c j h1 h2 h3 h4))
  have a34 : ∀ P1, P1 b 8 = P b 8 → (∀ i, i < 6 → P1 (a + 1) i = P (b + 1) i) → (∀ c j, c ≠ a → c ≠ a + 1 → P1 c j = P c j) → (∀ j, P1 a j = P a j) → At 34 [.ref a, .ref b, .int 6] [] n K (up2 S a 0 (S b 0)) G P1 0 := by
    intro P1 e1 e2 e3 e4
    have fin : ∀ (S2 : Mi) P2, (S2 a 0 = S b 0 ∧ S2 a 7 = S b 7) → ((∀ i, i < 6 → S2 (a + 2) i = S (b + 2) i) ∧ (∀ i, i < 24 → S2 (a + 3) i = S (b + 3) i) ∧ (∀ i, i < 36 → S2 (a + 4) i = S (b + 4) i) ∧ (∀ i, i < 36 → S2 (a + 5) i = S (b + 5) i) ∧ (∀ i, i < 36 → S2 (a + 6) i = S (b + 6) i)) → (∀ c j, (c < a ∨ a + 9 < c) → S2 c j = S c j) → P2 = up2 P1 a 8 (P b 8) → At 140 [.ref a, .ref b, .int 6] [] n K S2 G P2 0 := by
      intro S2 P2 f1 f2 f3 f4
      subst f4
      have ba : b + 1 ≠ a := by rcases hab with ⟨rfl, rfl⟩ | ⟨rfl, rfl⟩ | ⟨rfl, rfl⟩ <;> decide
      exact a140 S2 _ f1 f2 f3 (up2_s _ _ _ _) (fun i hi => by rw [up2_o _ _ (.inl (by omega))]; exact e2 i hi) (fun c j h1 h2 => by rw [up2_o _ _ (.inl h1)]; exact e3 c j h1 h2)
    have frm : ∀ (f2 f3 f4 f5 f6 : Nat → Int32) (x y : Int32) (c j : Nat), (c < a ∨ a + 9 < c) → up2 (upR (upR (upR (upR (upR (up2 S a 0 x) (a + 2) f2) (a + 3) f3) (a + 4) f4) (a + 5) f5) (a + 6) f6) a 7 y c j = S c j := by
      intro f2 f3 f4 f5 f6 x y c j h1
      rw [up2_o _ _ (by omega), upR_o _ _ (by omega), upR_o _ _ (by omega), upR_o _ _ (by omega), upR_o _ _ (by omega), upR_o _ _ (by omega), up2_o _ _ (by omega)]
    cases hP : P b 8 with
    | none =>
      have hP1 := e1.trans hP
      rw [hP] at fin
      rcases hab with ⟨rfl, rfl⟩ | ⟨rfl, rfl⟩ | ⟨rfl, rfl⟩ <;> (
      refine go [140] 100 _ _ _ _ _ _ _ _ _ ?_
      refine ⟨by unfold cpOk; decide, ?_⟩
      refine ⟨by unfold cpOk; decide, ?_⟩
      refine ⟨by unfold cpOk; decide, ?_⟩
      refine ⟨by unfold cpOk; decide, ?_⟩
      refine ⟨by unfold cpOk; decide, ?_⟩
      refine pt_n hP1 ?_
      exact fin _ _ ⟨rfl, rfl⟩ ⟨fun i hi => cpy_all hi, fun i hi => cpy_all hi, fun i hi => cpy_all hi, fun i hi => cpy_all hi, fun i hi => cpy_all hi⟩ (fun c j h1 => frm _ _ _ _ _ _ _ c j h1) rfl)
    | some w =>
      have hP1 := e1.trans hP
      rw [hP] at fin
      rcases hab with ⟨rfl, rfl⟩ | ⟨rfl, rfl⟩ | ⟨rfl, rfl⟩ <;> (
      refine go [140] 100 _ _ _ _ _ _ _ _ _ ?_
      refine ⟨by unfold cpOk; decide, ?_⟩
      refine ⟨by unfold cpOk; decide, ?_⟩
      refine ⟨by unfold cpOk; decide, ?_⟩
      refine ⟨by unfold cpOk; decide, ?_⟩
      refine ⟨by unfold cpOk; decide, ?_⟩
      refine pt_s hP1 ?_
      exact fin _ _ ⟨rfl, rfl⟩ ⟨fun i hi => cpy_all hi, fun i hi => cpy_all hi, fun i hi => cpy_all hi, fun i hi => cpy_all hi, fun i hi => cpy_all hi⟩ (fun c j h1 => frm _ _ _ _ _ _ _ c j h1) rfl)
  have loop : ∀ m i vi P1, i + m = 6 → vi = nI i → (∀ j, j < i → P1 (a + 1) j = P (b + 1) j) → (∀ c j, c ≠ a + 1 → P1 c j = P c j) → At 10 [.ref a, .ref b, .int vi] [] n K (up2 S a 0 (S b 0)) G P1 0 := by
    intro m
    induction m with
    | zero =>
      intro i vi P1 hi hv e1 e2
      have e : i = 6 := by omega
      subst e
      subst hv
      have fin := a34 P1 (e2 _ _ (by rcases hab with ⟨rfl, rfl⟩ | ⟨rfl, rfl⟩ | ⟨rfl, rfl⟩ <;> decide)) e1 (fun c j h1 h2 => e2 c j h2) (fun j => e2 _ _ (by omega))
      refine go [10, 34] 60 _ _ _ _ _ _ _ _ _ ?_
      exact fin
    | succ m ih =>
      intro i vi P1 hi hv e1 e2
      subst hv
      have x6 : ixB (nI i) 6 = true := ixB_nI (by omega) (by decide)
      have eb : P1 (b + 1) (nI i).toNatClampNeg = P (b + 1) i := by
        rw [nI_clamp (by omega)]
        exact e2 _ _ (by rcases hab with ⟨rfl, rfl⟩ | ⟨rfl, rfl⟩ | ⟨rfl, rfl⟩ <;> decide)
      have nxt : ∀ x, x = P (b + 1) i → At 10 [.ref a, .ref b, .int (nI i + 1)] [] n K (up2 S a 0 (S b 0)) G (up2 P1 (a + 1) (nI i).toNatClampNeg x) 0 := by
        intro x ex
        rw [nI_clamp (by omega)]
        refine ih (i + 1) _ _ (by omega) (nI_1 i) (fun j hj => ?_) (fun c j hc => by rw [up2_o _ _ (.inl hc)]; exact e2 c j hc)
        by_cases e : j = i
        · subst e
          rw [up2_s, ex]
        · rw [up2_o _ _ (.inr e)]
          exact e1 j (by omega)
      rcases hw i (by omega) with hP | ⟨w, k, hP, hk, hp⟩
      · have hP1 := eb.trans hP
        rw [hP] at nxt
        rcases hab with ⟨rfl, rfl⟩ | ⟨rfl, rfl⟩ | ⟨rfl, rfl⟩ <;> (
        refine go [10, 34] 60 _ _ _ _ _ _ _ _ _ ?_
        refine ite_f (by rw [le_i, t_6, nI_toInt (by omega)]; omega) ?_
        refine ite_t x6 ?_
        refine as_n hP1 ?_
        refine ite_t x6 ?_
        exact nxt _ rfl)
      · have hP1 := eb.trans hP
        rw [hP] at nxt
        rcases hab with ⟨rfl, rfl⟩ | ⟨rfl, rfl⟩ | ⟨rfl, rfl⟩ <;> (
        refine go [10, 34] 60 _ _ _ _ _ _ _ _ _ ?_
        refine ite_f (by rw [le_i, t_6, nI_toInt (by omega)]; omega) ?_
        refine ite_t x6 ?_
        refine as_s hP1 ?_
        refine as_p hp hk ?_
        refine ite_t x6 ?_
        exact nxt _ rfl)
  have start := loop 6 0 0 P rfl rfl (fun j hj => absurd hj (Nat.not_lt_zero j)) (fun _ _ _ => rfl)
  rcases hab with ⟨rfl, rfl⟩ | ⟨rfl, rfl⟩ | ⟨rfl, rfl⟩ <;> (
  refine go [10] 60 _ _ _ _ _ _ _ _ _ ?_
  exact start)
end A
end

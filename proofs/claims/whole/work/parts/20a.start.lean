noncomputable section
/-! CONSTRUCTORS, over T0: all is nought or null while cells are made. -/
def Zs (S : Mi) : Prop := ∀ b j, S b j = 0
def Zg (G : Ml) : Prop := ∀ b j, G b j = 0
def FrQ (lo hi : Nat) (P P' : Mr) : Prop := ∀ b j, (b < lo ∨ hi < b) → P' b j = P b j
theorem Zs_up {S : Mi} {a i : Nat} (h : Zs S) : Zs (up2 S a i 0) := fun b j => by
  unfold up2
  by_cases e : b = a
  · rw [if_pos e]
    unfold va_up
    split
    · rfl
    · exact h b j
  · rw [if_neg e]; exact h b j
theorem Zs_uR {S : Mi} {a : Nat} (h : Zs S) : Zs (upR S a (fun _ => 0)) := fun b j => by
  unfold upR
  split
  · rfl
  · exact h b j
theorem Zg_uR {G : Ml} {a : Nat} (h : Zg G) : Zg (upR G a (fun _ => 0)) := fun b j => by
  unfold upR
  split
  · rfl
  · exact h b j
theorem FrQ_rf {lo hi : Nat} {P : Mr} : FrQ lo hi P P := fun _ _ _ => rfl
theorem FrQ_up {lo hi a i : Nat} {x : Option Nat} {P P' : Mr} (h : FrQ lo hi P P') (h1 : lo ≤ a) (h2 : a ≤ hi) : FrQ lo hi P (up2 P' a i x) := fun b j hb => by
  rw [up2_o _ _ (by omega)]
  exact h b j hb
theorem FrQ_uR {lo hi a : Nat} {f : Nat → Option Nat} {P P' : Mr} (h : FrQ lo hi P P') (h1 : lo ≤ a) (h2 : a ≤ hi) : FrQ lo hi P (upR P' a f) := fun b j hb => by
  rw [upR_o _ _ (by omega)]
  exact h b j hb
theorem FrQ_tr {lo hi lo' hi' : Nat} {P P1 P2 : Mr} (h : FrQ lo hi P P1) (g : FrQ lo' hi' P1 P2) (h1 : lo ≤ lo') (h2 : hi' ≤ hi) : FrQ lo hi P P2 := fun b j hb => (g b j (by omega)).trans (h b j hb)
/-- references that stand: (address, place, whither) -/
def fa : List (Nat × Nat × Nat) → Mr → Prop
  | [], _ => True
  | q :: r, P => P q.1 q.2.1 = some q.2.2 ∧ fa r P
def inL (lo hi : Nat) : List (Nat × Nat × Nat) → Bool
  | [] => true
  | q :: r => Nat.ble lo q.1 && Nat.ble q.1 hi && inL lo hi r
theorem fa_fr {lo hi lo' hi' : Nat} {P P' : Mr} (f : FrQ lo' hi' P P') (hd : hi < lo' ∨ hi' < lo) : ∀ {L : List (Nat × Nat × Nat)}, inL lo hi L = true → fa L P → fa L P'
  | [], _, _ => trivial
  | q :: r, hr, h => by
    unfold inL at hr
    simp only [Bool.and_eq_true] at hr
    have h1 := Nat.le_of_ble_eq_true hr.1.1
    have h2 := Nat.le_of_ble_eq_true hr.1.2
    exact ⟨(f _ _ (by omega)).trans h.1, fa_fr f hd hr.2 h.2⟩
theorem fa_app {P : Mr} : ∀ {L M : List (Nat × Nat × Nat)}, fa L P → fa M P → fa (L ++ M) P
  | [], _, _, h => h
  | _ :: _, _, h, g => ⟨h.1, fa_app h.2 g⟩
theorem fa_mem {P : Mr} : ∀ {L : List (Nat × Nat × Nat)}, fa L P → ∀ q ∈ L, P q.1 q.2.1 = some q.2.2
  | [], _, q, hq => absurd hq List.not_mem_nil
  | p :: r, h, q, hq => by
    rcases List.mem_cons.mp hq with e | e
    · rw [e]; exact h.1
    · exact fa_mem h.2 q e
def twL (a : Nat) : List (Nat × Nat × Nat) := [(a, 1, a + 1), (a, 2, a + 2), (a, 3, a + 3), (a, 4, a + 4), (a, 5, a + 5), (a, 6, a + 6), (a, 9, a + 7), (a, 11, a + 8), (a, 13, a + 9), (a, 15, a + 10), (a + 10, 0, a + 11)]
def stL (s : Nat) : List (Nat × Nat × Nat) := [(s, 2, s + 1), (s, 3, s + 2), (s, 4, s + 3), (s, 6, s + 4), (s, 7, s + 5)]
section A
variable {l : Launch} {L : Nat} {xs : Nat → Int32} {D : Nat} {n : Nat} {K : Mk} {S : Mi} {G : Ml} {P : Mr} {Q : QT}
set_option maxRecDepth 20000
theorem t_no {a n : Nat} (ha : (a = 43 ∧ n = 12) ∨ (a = 55 ∧ n = 24) ∨ (a = 67 ∧ n = 36)) (hz : Zs S) (hg : Zg G) (h : ∀ K' S' G' P', Zs S' → Zg G' → FrQ a (a + 1) P P' → P' a 0 = some (a + 1) → Q none (n + 1) K' S' G' P') : Ok l L xs T0 (D + 1) jX3_init 1 [.ref a] n K S G P Q := by
  refine I_X3_init (by decide) (fun At go => ?_)
  rcases ha with ⟨rfl, rfl⟩ | ⟨rfl, rfl⟩ | ⟨rfl, rfl⟩ <;> (
  refine go [] 90 _ _ _ _ _ _ _ _ _ ?_
  refine h _ _ _ _ ?_ ?_ ?_ ?_
  · repeat (first | exact hz | apply Zs_up | apply Zs_uR)
  · repeat (first | exact hg | apply Zg_uR)
  · repeat (first | exact FrQ_rf | refine FrQ_up ?_ (by decide) (by decide) | refine FrQ_uR ?_ (by decide) (by decide))
  · rfl)
theorem t_town {a n : Nat} (ha : (a = 33 ∧ n = 2) ∨ (a = 45 ∧ n = 14) ∨ (a = 57 ∧ n = 26)) (hz : Zs S) (hg : Zg G) (h : ∀ K' S' G' P', Zs S' → Zg G' → FrQ a (a + 11) P P' → fa (twL a) P' → P' a 8 = none → (∀ j, P' (a + 1) j = none) → Q none (n + 11) K' S' G' P') : Ok l L xs T0 (D + 2) jX9_init 11 [.ref a] n K S G P Q := by
  refine I_X9_init (by decide) (fun At go => ?_)
  rcases ha with ⟨rfl, rfl⟩ | ⟨rfl, rfl⟩ | ⟨rfl, rfl⟩ <;> (
  refine go [] 120 _ _ _ _ _ _ _ _ _ ?_
  refine ⟨1, by decide, ?_⟩
  refine t_no (by decide) ?_ ?_ (fun K' S' G' P' z1 z2 f1 f2 => ?_)
  · repeat (first | exact hz | apply Zs_up | apply Zs_uR)
  · repeat (first | exact hg | apply Zg_uR)
  · refine h _ _ _ _ z1 z2 ?_ ?_ ?_ ?_
    · refine FrQ_up (FrQ_tr ?_ f1 (by decide) (by decide)) (by decide) (by decide)
      repeat (first | exact FrQ_rf | refine FrQ_up ?_ (by decide) (by decide) | refine FrQ_uR ?_ (by decide) (by decide))
    · refine ⟨?_, ?_, ?_, ?_, ?_, ?_, ?_, ?_, ?_, ?_, ?_, trivial⟩
      all_goals first | exact (up2_o _ _ (by decide)).trans ((f1 _ _ (by decide)).trans rfl) | exact up2_s _ _ _ _ | exact (up2_o _ _ (by decide)).trans f2
    · exact (up2_o _ _ (by decide)).trans ((f1 _ _ (by decide)).trans rfl)
    · intro j
      exact (up2_o _ _ (.inl (by decide))).trans ((f1 _ _ (by decide)).trans rfl))
theorem t_trace (hz : Zs S) (hg : Zg G) (h : ∀ K' S' G' P', Zs S' → Zg G' → FrQ 73 74 P P' → P' 73 0 = some 74 → Q none 43 K' S' G' P') : Ok l L xs T0 (D + 1) jX10_init 1 [.ref 73] 42 K S G P Q := by
  refine I_X10_init (by decide) (fun At go => ?_)
  refine go [] 90 _ _ _ _ _ _ _ _ _ ?_
  refine h _ _ _ _ ?_ ?_ ?_ ?_
  · repeat (first | exact hz | apply Zs_up | apply Zs_uR)
  · repeat (first | exact hg | apply Zg_uR)
  · repeat (first | exact FrQ_rf | refine FrQ_up ?_ (by decide) (by decide) | refine FrQ_uR ?_ (by decide) (by decide))
  · rfl
theorem t_street {k : Nat} (hk : k < 6) (hz : Zs S) (hg : Zg G) (h : ∀ K' S' G' P', Zs S' → Zg G' → FrQ (84 + 6 * k) (89 + 6 * k) P P' → fa (stL (84 + 6 * k)) P' → Q none (53 + 6 * k + 5) K' S' G' P') : Ok l L xs T0 (D + 1) jX7_init 5 [.ref (84 + 6 * k)] (53 + 6 * k) K S G P Q := by
  refine I_X7_init (by decide) (fun At go => ?_)
  have e : k = 0 ∨ k = 1 ∨ k = 2 ∨ k = 3 ∨ k = 4 ∨ k = 5 := by omega
  rcases e with rfl | rfl | rfl | rfl | rfl | rfl <;> (
  refine go [] 120 _ _ _ _ _ _ _ _ _ ?_
  refine h _ _ _ _ ?_ ?_ ?_ ?_
  · repeat (first | exact hz | apply Zs_up | apply Zs_uR)
  · repeat (first | exact hg | apply Zg_uR)
  · repeat (first | exact FrQ_rf | refine FrQ_up ?_ (by decide) (by decide) | refine FrQ_uR ?_ (by decide) (by decide))
  · exact ⟨rfl, rfl, rfl, rfl, rfl, trivial⟩)
end A
end

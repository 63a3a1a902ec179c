noncomputable section
/-! THE MODEL's constructor, over T0. -/
def Ze (S0 S : Mi) : Prop := ∀ b j, S b j = S0 b j
theorem Ze_up {S0 S : Mi} {a i : Nat} (h : Ze S0 S) (e : S0 a i = 0) : Ze S0 (up2 S a i 0) := fun b j => by
  by_cases c : b ≠ a ∨ j ≠ i
  · rw [up2_o _ _ c]; exact h b j
  · have c1 : b = a := Classical.byContradiction (fun z => c (.inl z))
    have c2 : j = i := Classical.byContradiction (fun z => c (.inr z))
    rw [c1, c2, up2_s, e]
theorem Ze_uR {S0 S : Mi} {a : Nat} (h : Ze S0 S) (e : ∀ j, S0 a j = 0) : Ze S0 (upR S a (fun _ => 0)) := fun b j => by
  by_cases c : b = a
  · rw [c, upR_s, e]
  · rw [upR_o _ _ c]; exact h b j
def moL : List (Nat × Nat × Nat) := [(120, 1, 121), (120, 2, 122), (120, 3, 123), (120, 4, 124), (120, 5, 125), (120, 6, 126), (120, 7, 127), (120, 10, 128), (120, 17, 129), (120, 18, 130), (120, 19, 131), (120, 20, 132), (120, 21, 133), (120, 22, 134), (120, 24, 135), (120, 26, 136), (120, 27, 137), (120, 28, 138), (120, 29, 139), (120, 30, 140), (120, 32, 141), (120, 33, 142), (120, 35, 143), (120, 36, 144), (120, 37, 145), (120, 39, 146), (120, 41, 147), (120, 42, 148), (120, 43, 149), (120, 44, 150), (120, 45, 151), (120, 47, 152), (120, 48, 153), (120, 49, 154)]
section A
variable {l : Launch} {L : Nat} {xs : Nat → Int32} {D : Nat} {K : Mk} {S : Mi} {G : Ml} {P : Mr} {Q : QT}
set_option maxRecDepth 20000
theorem t_model (hz : ∀ b j, 120 ≤ b → S b j = 0) (hg : Zg G) (h : ∀ K' S' G' P', (∀ b j, ¬ (b = 120 ∧ j = 16) → b ≠ 152 → S' b j = S b j) → S' 120 16 = -1 → (∀ t, t < 6 → S' 152 t = -1) → Zg G' → FrQ 120 154 P P' → fa moL P' → Q none 123 K' S' G' P') : Ok l L xs T0 (D + 1) jX12_init 34 [.ref 120] 89 K S G P Q := by
  refine I_X12_init (by decide) (fun At go => ?_)
  have loop : ∀ m i vi K' S' G' P', i + m = 6 → vi = nI i → (∀ b j, ¬ (b = 120 ∧ j = 16) → b ≠ 152 → S' b j = S b j) → S' 120 16 = -1 → (∀ t, t < i → S' 152 t = -1) → Zg G' → FrQ 120 154 P P' → fa moL P' → At 282 [.ref 120, .int vi] [] 123 K' S' G' P' 34 := by
    intro m
    induction m with
    | zero =>
      intro i vi K' S' G' P' hi ev f1 f2 f3 f4 f5 f6
      subst ev
      refine go [282] 40 _ _ _ _ _ _ _ _ _ ?_
      refine ite_t (by rw [le_i, t_6, nI_toInt (by omega)]; omega) ?_
      exact h K' S' G' P' f1 f2 (fun t ht => f3 t (by omega)) f4 f5 f6
    | succ m ih =>
      intro i vi K' S' G' P' hi ev f1 f2 f3 f4 f5 f6
      subst ev
      have e47 : P' 120 47 = some 152 := fa_mem f6 (120, 47, 152) (by decide)
      have ei : (nI i).toNatClampNeg = i := nI_clamp (by omega)
      have nx : At 282 [.ref 120, .int (nI i + 1)] [] 123 K' (up2 S' 152 i (-1)) G' P' 34 := by
        refine ih (i + 1) _ K' _ G' P' (by omega) (nI_1 i) (fun b j h1 h2 => ?_) ?_ (fun t ht => ?_) f4 f5 f6
        · rw [up2_o _ _ (by omega)]; exact f1 b j h1 h2
        · rw [up2_o _ _ (by omega)]; exact f2
        · by_cases e : t = i
          · rw [e, up2_s]
          · rw [up2_o _ _ (by omega)]; exact f3 t (by omega)
      have a292 : At 292 [.ref 120, .int (nI i)] [.ref 152] 123 K' S' G' P' 34 := by
        refine go [282] 40 _ _ _ _ _ _ _ _ _ ?_
        refine ite_t (ixB_nI (by omega) (by decide)) ?_
        have nx' : At 282 [.ref 120, .int (nI i + 1)] [] 123 K' (up2 S' 152 (nI i).toNatClampNeg (-1)) G' P' 34 := by rw [ei]; exact nx
        exact nx'
      refine go [282, 292] 40 _ _ _ _ _ _ _ _ _ ?_
      refine ite_f (by rw [le_i, t_6, nI_toInt (by omega)]; omega) ?_
      have e292 : At 292 [.ref 120, .int (nI i)] [va_rf (P' 120 47)] 123 K' S' G' P' 34 := by rw [e47]; exact a292
      exact e292
  have key : ∀ K' S1 G' P', Ze S S1 → Zg G' → FrQ 120 154 P P' → fa moL P' → At 282 [.ref 120, .int 0] [] 123 K' (up2 S1 120 16 (-1)) G' P' 34 := by
    intro K' S1 G' P' f1 f2 f3 f4
    exact loop 6 0 _ _ _ _ _ rfl rfl (fun b j h1 h2 => (up2_o _ _ (by omega)).trans (f1 b j)) (up2_s _ _ _ _) (fun t ht => absurd ht (Nat.not_lt_zero _)) f2 f3 f4
  refine go [282] 300 _ _ _ _ _ _ _ _ _ ?_
  refine key _ _ _ _ ?_ ?_ ?_ ?_
  · repeat (first | exact (fun _ _ => rfl) | refine Ze_up ?_ (hz _ _ (by decide)) | refine Ze_uR ?_ (fun j => hz _ _ (by decide)))
  · repeat (first | exact hg | apply Zg_uR)
  · repeat (first | exact FrQ_rf | refine FrQ_up ?_ (by decide) (by decide) | refine FrQ_uR ?_ (by decide) (by decide))
  · unfold moL
    repeat (first | exact trivial | refine ⟨rfl, ?_⟩)
end A
end

noncomputable section
/-! TAPE of the model. -/
section A
variable {l : Launch} {L : Nat} {xs : Nat → Int32} {D : Nat} {n : Nat} {K : Mk} {S : Mi} {G : Ml} {P : Mr} {Q : QT} {N : Nat → Nat} {d : Nat → Nat → Int32} {g : Nat → Int64} {sd : Nat → Int32 × ((Nat → Int32) → Bool)}
set_option maxRecDepth 20000
theorem q_tape {x y z : Int32} (hI : InvM N d g sd S G) (h1 : okTp x y z → ∀ S' G', FrM S S' → (∀ b, b ≠ 154 → G' b = G b) → InvM N (tpD d x y z) (tpG g x.toNatClampNeg) sd S' G' → Q (some (.int 1)) n K S' G' P) (h0 : ¬ okTp x y z → Q (some (.int (rTp0 x y z))) n K S G P) : Ok l L xs T1 (D + 12) jX12_tape 0 [.ref 120, .int x, .int y, .int z] n K S G P Q := by
  refine I_X12_tape (by decide) (fun At go => ?_)
  have a42 : inR 6 x = true → (y = -1 ∨ (inR 5 y = true ∧ inR 61 z = true)) → At 42 [.ref 120, .int x, .int y, .int z, .retAddr 0] [] n K S G P 0 := by
    intro hx hy
    have h1 := h1 ⟨hx, hy⟩
    obtain ⟨t, ht, rfl⟩ := inR_ex hx
    have x6 : ixB (nI t) 6 = true := ixB_nI ht (by decide)
    have ek : (nI t).toNatClampNeg = t := nI_clamp (by omega)
    have fin : ∀ S', (∀ b j, b ≠ 152 → b ≠ 153 → S' b j = S b j) → (∀ j, S' 152 j = va_up (S 152) t y j) → (∀ j, S' 153 j = va_up (S 153) t (if y = -1 then 0 else z) j) → ∀ G', (∀ b j, ¬ (b = 154 ∧ 60 * t ≤ j ∧ j < 60 * t + 60) → G' b j = G b j) → (∀ j, j < 60 → G' 154 (60 * t + j) = 0) → Q (some (.int 1)) n K S' G' P := by
      intro S' f1 f2 f3 G' g1 g2
      refine h1 S' G' (fun b j q1 => f1 b j (by omega) (by omega)) (fun b hb => by funext j; exact g1 _ _ (by omega)) ?_
      unfold tpD
      rw [ek]
      refine InvM_tp ht hI f1 f2 f3 (fun i hi => ?_)
      unfold tpG
      by_cases e : 60 * t ≤ i ∧ i < 60 * t + 60
      · rw [if_pos e]
        have := g2 (i - 60 * t) (by omega)
        rw [show 60 * t + (i - 60 * t) = i by omega] at this
        exact this
      · rw [if_neg e, g1 _ _ (by omega)]
        exact hI.2.2.2.1.2 i hi
    have loop : ∀ S', (∀ b j, b ≠ 152 → b ≠ 153 → S' b j = S b j) → (∀ j, S' 152 j = va_up (S 152) t y j) → (∀ j, S' 153 j = va_up (S 153) t (if y = -1 then 0 else z) j) → ∀ k i vi G', i + k = 60 → vi = nI i → (∀ b j, ¬ (b = 154 ∧ 60 * t ≤ j ∧ j < 60 * t + 60) → G' b j = G b j) → (∀ j, j < i → G' 154 (60 * t + j) = 0) → At 67 [.ref 120, .int (nI t), .int y, .int z, .int vi] [] n K S' G' P 0 := by
      intro S' f1 f2 f3 k
      induction k with
      | zero =>
        intro i vi G' hi hv g1 g2
        subst hv
        refine go [67] 60 _ _ _ _ _ _ _ _ _ ?_
        refine ite_t (by rw [le_i, nI_toInt (by omega), t_60]; omega) ?_
        exact fin S' f1 f2 f3 G' g1 (fun j hj => g2 j (by omega))
      | succ k ih =>
        intro i vi G' hi hv g1 g2
        subst hv
        have xi : 60 * nI t + nI i = nI (60 * t + i) := by rw [show (60 : Int32) = nI 60 from rfl, pk_mul, nI_add]
        have xj : ixB (60 * nI t + nI i) 360 = true := by rw [xi]; exact ixB_nI (by omega) (by decide)
        have xc : (60 * nI t + nI i).toNatClampNeg = 60 * t + i := by rw [xi, nI_clamp (by omega)]
        refine go [67] 60 _ _ _ _ _ _ _ _ _ ?_
        refine ite_f (by rw [le_i, nI_toInt (by omega), t_60]; omega) ?_
        refine ite_t xj ?_
        have g1' : ∀ b j, ¬ (b = 154 ∧ 60 * t ≤ j ∧ j < 60 * t + 60) → up2 G' 154 (60 * nI t + nI i).toNatClampNeg 0 b j = G b j := fun b j hb => by
          refine Eq.trans (up2_o _ _ ?_) (g1 b j hb)
          rw [xc]
          omega
        have g2' : ∀ j, j < i + 1 → up2 G' 154 (60 * nI t + nI i).toNatClampNeg 0 154 (60 * t + j) = 0 := fun j hj => by
          by_cases e : j = i
          · rw [e, xc]
            exact up2_s _ _ _ _
          · refine Eq.trans (up2_o _ _ ?_) (g2 j (by omega))
            rw [xc]
            omega
        exact ih (i + 1) _ _ (by omega) (nI_1 i) g1' g2'
    have a63 : ∀ v, (if y = -1 then 0 else z) = v → At 63 [.ref 120, .int (nI t), .int y, .int z, .retAddr 0] [.int v, .int (nI t), .ref 153] n K (up2 S 152 (nI t).toNatClampNeg y) G P 0 := by
      intro v hv
      subst hv
      refine go [67] 60 _ _ _ _ _ _ _ _ _ ?_
      refine ite_t x6 ?_
      refine loop _ (fun b j q1 q2 => ?_) (fun j => ?_) (fun j => ?_) 60 0 _ _ rfl rfl (fun b j _ => rfl) (fun j hj => absurd hj (by omega))
      · rw [up2_o _ _ (.inl q2), up2_o _ _ (.inl q1)]
      · rw [up2_o _ _ (.inl (by decide)), ek]
        rfl
      · rw [ek]
        rfl
    refine go [63, 67] 60 _ _ _ _ _ _ _ _ _ ?_
    refine ite_t x6 ?_
    refine ite_i (fun c => ?_) (fun c => ?_)
    · refine a63 z (if_neg (fun e => ?_))
      rw [e] at c
      exact absurd c (by decide)
    · refine a63 0 (if_pos ?_)
      rcases hy with e | ⟨e, _⟩
      · exact e
      · obtain ⟨s, hs, rfl⟩ := inR_ex e
        exact absurd (by rw [le_i, t_0, nI_toInt (by omega)]; omega) c
  have c_no : ∀ r, ¬ okTp x y z → rTp0 x y z = r → Q (some (.int r)) n K S G P := by
    intro r c e
    rw [← e]
    exact h0 c
  have a28 : inR 6 x = true → ¬ y = -1 → ¬ (inR 5 y = true ∧ z.toInt < 61) → At 28 [.ref 120, .int x, .int y, .int z, .retAddr 0] [] n K S G P 0 := by
    intro hx hy hz
    refine go [] 60 _ _ _ _ _ _ _ _ _ ?_
    refine c_no (-2) (fun w => ?_) ?_
    · rcases w.2 with e | ⟨e1, e2⟩
      · exact hy e
      · obtain ⟨m, hm, rfl⟩ := inR_ex e2
        exact hz ⟨e1, by rw [nI_toInt (by omega)]; omega⟩
    · unfold rTp0
      rw [if_pos hx]
      by_cases e : inR 5 y = true
      · rw [if_pos e, if_neg (fun z' => hz ⟨e, by omega⟩)]
      · rw [if_neg e]
  have a31 : inR 6 x = true → (y = -1 ∨ (inR 5 y = true ∧ z.toInt < 61)) → At 31 [.ref 120, .int x, .int y, .int z, .retAddr 0] [] n K S G P 0 := by
    intro hx hy
    refine go [42] 60 _ _ _ _ _ _ _ _ _ ?_
    refine ite_i (fun c => a42 hx (.inl ?_)) (fun c => ?_)
    · rcases hy with e | ⟨e, _⟩
      · exact e
      · obtain ⟨s, hs, rfl⟩ := inR_ex e
        exact absurd c (by rw [lt_i, t_0, nI_toInt (by omega)]; omega)
    have hy5 : inR 5 y = true ∧ z.toInt < 61 := hy.resolve_left (fun e => by rw [e] at c; exact absurd c (by decide))
    have cn : ¬ y = -1 := fun e => by rw [e] at c; exact absurd c (by decide)
    refine ite_i (fun c2 => ?_) (fun c2 => ?_)
    · rw [le_i, t_0] at c2
      exact a42 hx (.inr ⟨hy5.1, inR_lt c2 hy5.2⟩)
    · rw [le_i, t_0] at c2
      refine c_no (-14) (fun w => ?_) ?_
      · rcases w.2 with e | ⟨e1, e2⟩
        · exact cn e
        · obtain ⟨m, hm, rfl⟩ := inR_ex e2
          rw [nI_toInt (by omega)] at c2
          omega
      · unfold rTp0
        rw [if_pos hx, if_pos hy5.1, if_pos (by omega)]
  have a9 : inR 6 x = true → At 9 [.ref 120, .int x, .int y, .int z, .retAddr 0] [] n K S G P 0 := by
    intro hx
    refine go [28, 31] 60 _ _ _ _ _ _ _ _ _ ?_
    refine m_within (fun c1 c2 => ?_) (fun c => ?_)
    · rw [t_m1] at c1
      rw [t_4] at c2
      refine ite_i (fun c3 => ?_) (fun c3 => ?_)
      · rw [lt_i, t_0] at c3
        exact a31 hx (.inl (by rw [eq_i, t_m1]; omega))
      rw [lt_i, t_0] at c3
      have y5 : inR 5 y = true := inR_lt (by omega) (by omega)
      refine ite_i (fun c4 => ?_) (fun c4 => ?_)
      · rw [le_i, t_60] at c4
        exact a31 hx (.inr ⟨y5, by omega⟩)
      · rw [le_i, t_60] at c4
        exact a28 hx (fun e => by rw [eq_i, t_m1] at e; omega) (fun w => by have := w.2; omega)
    · rw [t_m1, t_4] at c
      refine a28 hx (fun e => ?_) (fun w => ?_)
      · rw [eq_i, t_m1] at e; omega
      · obtain ⟨s, hs, rfl⟩ := inR_ex w.1
        rw [nI_toInt (by omega)] at c
        omega
  refine go [9] 60 _ _ _ _ _ _ _ _ _ ?_
  refine mm_tape2 (fun hx => a9 hx) (fun hx => ?_)
  refine c_no (-1) (fun w => ?_) ?_
  · have := w.1; rw [hx] at this; cases this
  · unfold rTp0
    rw [hx]
    rfl
end A
end

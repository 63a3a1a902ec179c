noncomputable section
/-! ONE of the model; both halves' numbers. -/
section A
variable {l : Launch} {L : Nat} {xs : Nat → Int32} {D : Nat} {n : Nat} {K : Mk} {S : Mi} {G : Ml} {P : Mr} {Q : QT} {N : Nat → Nat} {d : Nat → Nat → Int32} {g : Nat → Int64} {sd : Nat → Int32 × ((Nat → Int32) → Bool)}
set_option maxRecDepth 20000
theorem mm_clears2 {x : Int32} {m : Nat} (ex : x = nI m) (hm : m < 36) (h : Q none n K (up2 (up2 (up2 S 125 m 0) 126 m 0) 127 m (-5)) G P) : Ok l L xs T1 (D + 1) jX12_clears 0 [.ref 120, .int x] n K S G P Q := by
  subst ex
  exact mm_clears hm h
theorem oneT_c {tw : Nat → Int32} {np k : Nat} {v : Int32} (h6 : np < 6) : va_up (twCl (twRw (va_up (va_up (va_up tw np (nI k)) (6 + np) v) (12 + np) (-5)) np 4) np 6) 219 (nI (np + 1)) = oneT tw np k v := by
  funext j
  have r1 := @clr_r 42 np 6 j h6 (by decide)
  have r2 := @clr_r 78 np 6 j h6 (by decide)
  have r3 := @clr_r 114 np 6 j h6 (by decide)
  unfold oneT oneS va_up twCl twRw
  dsimp only
  by_cases e1 : j = 219
  · rw [if_pos e1, if_neg (by omega), if_neg (by omega), if_pos e1]
  · rw [if_neg e1]
    by_cases e2 : j = 6 + np
    · have f1 : ¬ (clrB 42 np 6 j = true ∨ clrB 78 np 6 j = true) := fun w => w.elim (fun w => by have := r1 w; omega) (fun w => by have := r2 w; omega)
      have f2 : ¬ clrB 114 np 6 j = true := fun w => by have := r3 w; omega
      have f3 : ¬ (18 + 4 * np ≤ j ∧ j < 18 + 4 * np + 4) := by omega
      have f4 : ¬ j = 12 + np := by omega
      simp only [if_neg f1, if_neg f2, if_neg f3, if_neg f4, if_pos e2]
    · by_cases e3 : j = np
      · have f1 : ¬ (clrB 42 np 6 j = true ∨ clrB 78 np 6 j = true) := fun w => w.elim (fun w => by have := r1 w; omega) (fun w => by have := r2 w; omega)
        have f2 : ¬ clrB 114 np 6 j = true := fun w => by have := r3 w; omega
        have f3 : ¬ (18 + 4 * np ≤ j ∧ j < 18 + 4 * np + 4) := by omega
        have f4 : ¬ j = 12 + np := by omega
        simp only [if_neg f1, if_neg f2, if_neg f3, if_neg f4, if_neg e2, if_pos e3]
      · simp only [if_neg e1, if_neg e2, if_neg e3]
theorem q_one {x y : Int32} (hI : InvM N d g sd S G) (hD : DOk N d) (h1 : okOn N x y → ∀ S', FrM S S' → InvM (onN N) (onD N d x y) g sd S' G → Q (some (.int (nI (N 0)))) n K S' G P) (h0 : ¬ okOn N x y → Q (some (.int (rOn0 x y))) n K S G P) : Ok l L xs T1 (D + 12) jX12_one 0 [.ref 120, .int x, .int y] n K S G P Q := by
  refine I_X12_one (by decide) (fun At go => ?_)
  have hR := hI.1.1
  have hnp : S 120 0 = nI (N 0) := (RM_np hR).trans hD.1.1.1
  have hle := hD.1.1.2
  unfold rOn0 at h0
  have a37 : inR 7 x = true → inR 10 y = true → N 0 < 6 → At 37 [.ref 120, .int x, .int y, .retAddr 0, .retAddr 0] [] n K S G P 0 := by
    intro hx hy h6
    have h1 := h1 ⟨hx, hy, h6⟩
    obtain ⟨k, hk, rfl⟩ := inR_ex hx
    have ek : (nI k).toNatClampNeg = k := nI_clamp (by omega)
    unfold onD onN at h1
    rw [ek] at h1
    have a129 : ∀ S' v4, (∀ b j, fpm b j = true → S' b j = S b j) → FrM S S' → RM (twCl (twRw (va_up (va_up (va_up (d 0) (N 0) (nI k)) (6 + N 0) y) (12 + N 0) (-5)) (N 0) 4) (N 0) 6) S' → S' 120 0 = nI (N 0) → At 129 [.ref 120, .int (nI k), .int y, .int (nI (N 0)), v4] [] n K S' G P 0 := by
      intro S' v4 f1 f2 f3 f4
      have fin := h1 (up2 S' 120 0 (nI (N 0 + 1))) (fun b j hb => (up2_o _ _ (by omega)).trans (f2 b j hb)) (InvM_tw (N' := upR N 0 (N 0 + 1)) hI (fun b j hb => (up2_o _ _ (by
        by_cases e : b = 120
        · by_cases e2 : j = 0
          · subst e; subst e2; exact absurd hb (by decide)
          · exact .inr e2
        · exact .inl e)).trans (f1 b j hb)) (by rw [← oneT_c h6]; exact RM_up _ (by decide) rfl f3) (fun i hi => upR_o _ _ (by omega)))
      have e1 : S' 120 0 + 1 = nI (N 0 + 1) := by rw [f4]; exact nI_1 _
      rw [← e1, ← f4] at fin
      refine go [] 60 _ _ _ _ _ _ _ _ _ ?_
      exact fin
    have loop2 : ∀ m i vi S', i + m = 6 → vi = nI i → (∀ b j, fpm b j = true → S' b j = S b j) → FrM S S' → RM (twCl (twRw (va_up (va_up (va_up (d 0) (N 0) (nI k)) (6 + N 0) y) (12 + N 0) (-5)) (N 0) 4) (N 0) i) S' → S' 120 0 = nI (N 0) → At 94 [.ref 120, .int (nI k), .int y, .int (nI (N 0)), .int vi] [] n K S' G P 0 := by
      intro m
      induction m with
      | zero =>
        intro i vi S' hi hv f1 f2 f3 f4
        subst hv
        have ei : i = 6 := by omega
        subst ei
        refine go [94, 129] 60 _ _ _ _ _ _ _ _ _ ?_
        exact a129 S' _ f1 f2 f3 f4
      | succ m ih =>
        intro i vi S' hi hv f1 f2 f3 f4
        subst hv
        have hi6 : i < 6 := by omega
        have st := ih (i + 1) (nI i + 1) (up2 (up2 (up2 (up2 (up2 (up2 S' 125 (6 * N 0 + i) 0) 126 (6 * N 0 + i) 0) 127 (6 * N 0 + i) (-5)) 125 (6 * i + N 0) 0) 126 (6 * i + N 0) 0) 127 (6 * i + N 0) (-5)) (by omega) (nI_1 i) (fun b j hb => by
          have n1 : b ≠ 125 := fun e => by subst e; exact absurd hb (by simp [fpm])
          have n2 : b ≠ 126 := fun e => by subst e; exact absurd hb (by simp [fpm])
          have n3 : b ≠ 127 := fun e => by subst e; exact absurd hb (by simp [fpm])
          rw [up2_o _ _ (.inl n3), up2_o _ _ (.inl n2), up2_o _ _ (.inl n1), up2_o _ _ (.inl n3), up2_o _ _ (.inl n2), up2_o _ _ (.inl n1)]
          exact f1 b j hb) (fun b j hb => by
          rw [up2_o _ _ (by omega), up2_o _ _ (by omega), up2_o _ _ (by omega), up2_o _ _ (by omega), up2_o _ _ (by omega), up2_o _ _ (by omega)]
          exact f2 b j hb) (by
          rw [← twCl_m h6 hi6]
          refine RM_up _ (by omega) (ml_la _ (by omega)) ?_
          refine RM_up _ (by omega) (ml_us _ (by omega)) ?_
          refine RM_up _ (by omega) (ml_ta _ (by omega)) ?_
          refine RM_up _ (by omega) (ml_la _ (by omega)) ?_
          refine RM_up _ (by omega) (ml_us _ (by omega)) ?_
          refine RM_up _ (by omega) (ml_ta _ (by omega)) ?_
          exact f3) (by
          rw [up2_o _ _ (by omega), up2_o _ _ (by omega), up2_o _ _ (by omega), up2_o _ _ (by omega), up2_o _ _ (by omega), up2_o _ _ (by omega)]
          exact f4)
        have i1 : 6 * nI (N 0) + nI i = nI (6 * N 0 + i) := by rw [show (6 : Int32) = nI 6 from rfl, pk_mul, nI_add]
        have i2 : 6 * nI i + nI (N 0) = nI (6 * i + N 0) := by rw [show (6 : Int32) = nI 6 from rfl, pk_mul, nI_add]
        refine go [94, 129] 60 _ _ _ _ _ _ _ _ _ ?_
        refine ite_f (by rw [le_i, nI_toInt (by omega), t_6]; omega) ?_
        refine mm_clears2 (m := 6 * N 0 + i) i1 (by omega) ?_
        refine mm_clears2 (m := 6 * i + N 0) i2 (by omega) ?_
        exact st
    have a91 : ∀ S' v4, (∀ b j, fpm b j = true → S' b j = S b j) → FrM S S' → RM (twRw (va_up (va_up (va_up (d 0) (N 0) (nI k)) (6 + N 0) y) (12 + N 0) (-5)) (N 0) 4) S' → S' 120 0 = nI (N 0) → At 91 [.ref 120, .int (nI k), .int y, .int (nI (N 0)), v4] [] n K S' G P 0 := by
      intro S' v4 f1 f2 f3 f4
      rw [← twCl_0 (twRw (va_up (va_up (va_up (d 0) (N 0) (nI k)) (6 + N 0) y) (12 + N 0) (-5)) (N 0) 4) (N 0)] at f3
      refine go [94] 60 _ _ _ _ _ _ _ _ _ ?_
      exact loop2 6 0 _ S' rfl rfl f1 f2 f3 f4
    have loop1 : ∀ m i vi S', i + m = 4 → vi = nI i → (∀ b j, fpm b j = true → S' b j = S b j) → FrM S S' → RM (twRw (va_up (va_up (va_up (d 0) (N 0) (nI k)) (6 + N 0) y) (12 + N 0) (-5)) (N 0) i) S' → S' 120 0 = nI (N 0) → At 67 [.ref 120, .int (nI k), .int y, .int (nI (N 0)), .int vi] [] n K S' G P 0 := by
      intro m
      induction m with
      | zero =>
        intro i vi S' hi hv f1 f2 f3 f4
        subst hv
        have ei : i = 4 := by omega
        subst ei
        refine go [67, 91] 60 _ _ _ _ _ _ _ _ _ ?_
        exact a91 S' _ f1 f2 f3 f4
      | succ m ih =>
        intro i vi S' hi hv f1 f2 f3 f4
        subst hv
        have xe : 4 * nI (N 0) + nI i = nI (4 * N 0 + i) := by rw [show (4 : Int32) = nI 4 from rfl, pk_mul, nI_add]
        have x1 : ixB (4 * nI (N 0) + nI i) 24 = true := by rw [xe]; exact ixB_nI (by omega) (by decide)
        have e1 : (4 * nI (N 0) + nI i).toNatClampNeg = 4 * N 0 + i := by rw [xe, nI_clamp (by omega)]
        have st := ih (i + 1) (nI i + 1) (up2 S' 124 (4 * N 0 + i) 0) (by omega) (nI_1 i) (fun b j hb => by
          have n1 : b ≠ 124 := fun e => by subst e; exact absurd hb (by simp [fpm])
          exact (up2_o _ _ (.inl n1)).trans (f1 b j hb)) (fun b j hb => (up2_o _ _ (by omega)).trans (f2 b j hb)) (by
          rw [← twRw_s]
          exact RM_up _ (by omega) (ml_rows _ (by omega)) f3) ((up2_o _ _ (by omega)).trans f4)
        rw [← e1] at st
        refine go [67, 91] 60 _ _ _ _ _ _ _ _ _ ?_
        refine ite_f (by rw [le_i, nI_toInt (by omega), t_4]; omega) ?_
        refine ite_t x1 ?_
        exact st
    have hz : (S 120 0).toNatClampNeg = N 0 := by rw [hnp, nI_clamp (by omega)]
    have x6 : ixB (S 120 0) 6 = true := by rw [hnp]; exact ixB_nI h6 (by decide)
    have st := loop1 4 0 0 (up2 (up2 (up2 S 121 (N 0) (nI k)) 122 (N 0) y) 123 (N 0) (-5)) rfl rfl (fun b j hb => by
      have n1 : b ≠ 121 := fun e => by subst e; exact absurd hb (by simp [fpm])
      have n2 : b ≠ 122 := fun e => by subst e; exact absurd hb (by simp [fpm])
      have n3 : b ≠ 123 := fun e => by subst e; exact absurd hb (by simp [fpm])
      rw [up2_o _ _ (.inl n3), up2_o _ _ (.inl n2), up2_o _ _ (.inl n1)]) (fun b j hb => by rw [up2_o _ _ (by omega), up2_o _ _ (by omega), up2_o _ _ (by omega)]) (by
      rw [twRw_0]
      refine RM_up _ (by omega) (ml_wed _ h6) ?_
      refine RM_up _ (by omega) (ml_v _ h6) ?_
      exact RM_up _ (by omega) (by have := ml_kind _ h6; rw [Nat.zero_add] at this; exact this) hR) (by rw [up2_o _ _ (by omega), up2_o _ _ (by omega), up2_o _ _ (by omega)]; exact hnp)
    rw [← hnp, ← hz] at st
    refine go [67] 60 _ _ _ _ _ _ _ _ _ ?_
    refine ite_t x6 ?_
    refine ite_t x6 ?_
    refine ite_t x6 ?_
    exact st
  have a25 : inR 7 x = true → inR 10 y = true → At 25 [.ref 120, .int x, .int y, .retAddr 0, .retAddr 0] [] n K S G P 0 := by
    intro hx hy
    refine go [37] 60 _ _ _ _ _ _ _ _ _ ?_
    refine ite_i (fun c => ?_) (fun c => ?_)
    · rw [hnp, eq_i, nI_toInt (by omega), t_6] at c
      have h0 := h0 (fun w => by have := w.2.2; omega)
      rw [if_pos hx, if_pos hy] at h0
      exact h0
    · rw [hnp, eq_i, nI_toInt (by omega), t_6] at c
      exact a37 hx hy (by omega)
  have a12 : inR 7 x = true → At 12 [.ref 120, .int x, .int y, .retAddr 0, .retAddr 0] [] n K S G P 0 := by
    intro hx
    refine go [25] 60 _ _ _ _ _ _ _ _ _ ?_
    refine mm_w0 (m := 9) (by decide) 9 rfl (fun hy => a25 hx hy) (fun c => ?_)
    have h0 := h0 (fun w => by have := w.2.1; rw [c] at this; cases this)
    rw [hx, c] at h0
    exact h0
  refine go [12] 60 _ _ _ _ _ _ _ _ _ ?_
  refine mm_w0 (m := 6) (by decide) 6 rfl (fun hx => a12 hx) (fun c => ?_)
  have h0 := h0 (fun w => by have := w.1; rw [c] at this; cases this)
  rw [c] at h0
  exact h0
end A
end

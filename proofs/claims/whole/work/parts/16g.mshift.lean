noncomputable section
/-! SHIFT of the model. -/
theorem prN {k : Nat} (h : k ≤ 100) : (nI k + -1).toInt = (k : Int) - 1 := by
  rw [Int32.toInt_add, nI_toInt (by omega), t_m1]
  exact Int.bmod_eq_of_le (by omega) (by omega)
section A
variable {l : Launch} {L : Nat} {xs : Nat → Int32} {D : Nat} {n : Nat} {K : Mk} {S : Mi} {G : Ml} {P : Mr} {Q : QT} {N : Nat → Nat} {d : Nat → Nat → Int32} {g : Nat → Int64} {sd : Nat → Int32 × ((Nat → Int32) → Bool)}
set_option maxRecDepth 20000
theorem q_shift {x i y j c : Int32} (hI : InvM N d g sd S G) (hD : DOk N d) (h1 : okSh d x i y j c → ∀ S' G', FrM S S' → (∀ b, b ≠ 154 → G' b = G b) → InvM N d (shG g x i y j c) sd S' G' → Q (some (.int c)) n K S' G' P) (h0 : ¬ okSh d x i y j c → Q (some (.int (rSh0 d x y))) n K S G P) : Ok l L xs T1 (D + 12) jX12_shift 0 [.ref 120, .int x, .int i, .int y, .int j, .int c] n K S G P Q := by
  refine I_X12_shift (by decide) (fun At go => ?_)
  have c_no : ∀ r, ¬ okSh d x i y j c → rSh0 d x y = r → Q (some (.int r)) n K S G P := by
    intro r c e
    rw [← e]
    exact h0 c
  have a14 : ¬ (inR 6 x = true ∧ inR 6 y = true) → At 14 [.ref 120, .int x, .int i, .int y, .int j, .int c, .retAddr 0] [] n K S G P 0 := by
    intro hx
    refine go [] 60 _ _ _ _ _ _ _ _ _ ?_
    exact c_no (-1) (fun w => hx w.1) (by unfold rSh0; rw [if_neg hx])
  have a16 : inR 6 x = true → inR 6 y = true → At 16 [.ref 120, .int x, .int i, .int y, .int j, .int c, .retAddr 0] [] n K S G P 0 := by
    intro hx hy
    obtain ⟨t, ht, rfl⟩ := inR_ex hx
    obtain ⟨u, hu, rfl⟩ := inR_ex hy
    have x6 : ixB (nI t) 6 = true := ixB_nI ht (by decide)
    have y6 : ixB (nI u) 6 = true := ixB_nI hu (by decide)
    have ek : (nI t).toNatClampNeg = t := nI_clamp (by omega)
    have eu : (nI u).toNatClampNeg = u := nI_clamp (by omega)
    obtain ⟨m, hm, em, hm0, hsrt⟩ := tp_ex hD ht
    obtain ⟨m2, hm2, em2, hm02, hsrt2⟩ := tp_ex hD hu
    have e4 : S 152 (nI t).toNatClampNeg = d 4 t := by rw [ek]; exact (hI.2.2.2.1.1 t ht).1
    have f4 : S 152 (nI u).toNatClampNeg = d 4 u := by rw [eu]; exact (hI.2.2.2.1.1 u hu).1
    have e5 : S 153 (nI t).toNatClampNeg = nI m := by rw [ek]; exact (hI.2.2.2.1.1 t ht).2.trans em
    have f5 : S 153 (nI u).toNatClampNeg = nI m2 := by rw [eu]; exact (hI.2.2.2.1.1 u hu).2.trans em2
    have okx : okSh d (nI t) i (nI u) j c ↔ (¬ (d 4 t = -1 ∨ d 4 u = -1) ∧ d 4 t = d 4 u ∧ shP m m2 i j c) := by
      unfold okSh
      rw [ek, eu, em, em2, nI_clamp (n := m) (by omega), nI_clamp (n := m2) (by omega)]
      exact ⟨fun w => w.2, fun w => ⟨⟨hx, hy⟩, w⟩⟩
    have sneg : ∀ {v s : Nat}, (d 4 v = -1 ∨ ∃ s, s < 5 ∧ d 4 v = nI s) → (d 4 v < 0 ↔ d 4 v = -1) := by
      intro v s h
      constructor
      · intro z
        rcases h with e | ⟨s, hs, e⟩
        · exact e
        · rw [e, lt_i, nI_toInt (by omega), t_0] at z; omega
      · intro z
        rw [z]; decide
    have a34 : (d 4 t = -1 ∨ d 4 u = -1) → At 34 [.ref 120, .int (nI t), .int i, .int (nI u), .int j, .int c, .retAddr 0] [] n K S G P 0 := by
      intro hs
      refine go [] 60 _ _ _ _ _ _ _ _ _ ?_
      exact c_no (-11) (fun w => (okx.mp w).1 hs) (by unfold rSh0; rw [if_pos ⟨hx, hy⟩, ek, eu, if_pos hs])
    have a104 : ¬ (d 4 t = -1 ∨ d 4 u = -1) → d 4 t = d 4 u → ¬ shP m m2 i j c → At 104 [.ref 120, .int (nI t), .int i, .int (nI u), .int j, .int c, .retAddr 0] [] n K S G P 0 := by
      intro hs he hp
      refine go [] 60 _ _ _ _ _ _ _ _ _ ?_
      exact c_no (-13) (fun w => hp (okx.mp w).2.2) (by unfold rSh0; rw [if_pos ⟨hx, hy⟩, ek, eu, if_neg hs, if_pos he])
    have a107 : ¬ (d 4 t = -1 ∨ d 4 u = -1) → d 4 t = d 4 u → shP m m2 i j c → At 107 [.ref 120, .int (nI t), .int i, .int (nI u), .int j, .int c, .retAddr 0] [] n K S G P 0 := by
      intro hs he hp
      have h1 := h1 (okx.mpr ⟨hs, he, hp⟩)
      obtain ⟨p1, p2, p3, p4, p5⟩ := hp
      obtain ⟨a, ha, rfl⟩ := ex_nI p2
      obtain ⟨b, hb, rfl⟩ := ex_nI p3
      obtain ⟨z, hz, rfl⟩ := ex_nI p1
      rw [nI_toInt ha, nI_toInt hz] at p4
      rw [nI_toInt hb, nI_toInt hz] at p5
      have a212 : ∀ v6 G', (∀ b' k, ¬ (b' = 154 ∧ 60 * u + b ≤ k ∧ k < 60 * u + b + z) → G' b' k = G b' k) → (∀ k, k < z → G' 154 (60 * u + b + k) = G 154 (60 * t + a + k)) → At 212 [.ref 120, .int (nI t), .int (nI a), .int (nI u), .int (nI b), .int (nI z), v6] [] n K S G' P 0 := by
        intro v6 G' g1 g2
        have fin := h1 S G' (FrM.rf S) (fun b' hb' => by funext k; exact g1 _ _ (by omega)) (InvM_g hI (fun k hk => by
          unfold shG
          rw [ek, eu, nI_clamp ha, nI_clamp hb, nI_clamp hz]
          by_cases e : 60 * u + b ≤ k ∧ k < 60 * u + b + z
          · rw [if_pos e]
            have := g2 (k - (60 * u + b)) (by omega)
            rw [show 60 * u + b + (k - (60 * u + b)) = k by omega] at this
            exact this.trans (hI.2.2.2.1.2 _ (by omega))
          · rw [if_neg e, g1 _ _ (by omega)]
            exact hI.2.2.2.1.2 _ hk))
        refine go [] 60 _ _ _ _ _ _ _ _ _ ?_
        exact fin
      have ixs : ∀ w r v, w < 6 → r + v < 60 → ixB (60 * nI w + nI r + nI v) 360 = true ∧ (60 * nI w + nI r + nI v).toNatClampNeg = 60 * w + r + v := by
        intro w r v hw hr
        have e : 60 * nI w + nI r + nI v = nI (60 * w + r + v) := by rw [show (60 : Int32) = nI 60 from rfl, pk_mul, nI_add, nI_add]
        rw [e]
        exact ⟨ixB_nI (by omega) (by decide), nI_clamp (by omega)⟩
      have wr : ∀ (v : Nat) (G' : Ml), v < z → up2 G' 154 (60 * nI u + nI b + nI v).toNatClampNeg (G' 154 (60 * nI t + nI a + nI v).toNatClampNeg) = up2 G' 154 (60 * u + b + v) (G' 154 (60 * t + a + v)) := by
        intro v G' hv
        rw [(ixs u b v hu (by omega)).2, (ixs t a v ht (by omega)).2]
      have a167 : ¬ (t = u ∧ a < b) → At 167 [.ref 120, .int (nI t), .int (nI a), .int (nI u), .int (nI b), .int (nI z), .retAddr 0] [] n K S G P 0 := by
        intro hab
        have loop : ∀ k v vi G', v + k = z → vi = nI v → (∀ b' k, ¬ (b' = 154 ∧ 60 * u + b ≤ k ∧ k < 60 * u + b + v) → G' b' k = G b' k) → (∀ k, k < v → G' 154 (60 * u + b + k) = G 154 (60 * t + a + k)) → At 170 [.ref 120, .int (nI t), .int (nI a), .int (nI u), .int (nI b), .int (nI z), .int vi] [] n K S G' P 0 := by
          intro k
          induction k with
          | zero =>
            intro v vi G' hv ev g1 g2
            subst ev
            refine go [170, 212] 60 _ _ _ _ _ _ _ _ _ ?_
            refine ite_t (by rw [le_i, nI_toInt (by omega), nI_toInt (by omega)]; omega) ?_
            exact a212 _ G' (fun b' k q => g1 b' k (by omega)) (fun k hk => g2 k (by omega))
          | succ k ih =>
            intro v vi G' hv ev g1 g2
            subst ev
            refine go [170, 212] 60 _ _ _ _ _ _ _ _ _ ?_
            refine ite_f (by rw [le_i, nI_toInt (by omega), nI_toInt (by omega)]; omega) ?_
            refine ite_t (ixs t a v ht (by omega)).1 ?_
            refine ite_t (ixs u b v hu (by omega)).1 ?_
            have st := ih (v + 1) (nI v + 1) (up2 G' 154 (60 * nI u + nI b + nI v).toNatClampNeg (G' 154 (60 * nI t + nI a + nI v).toNatClampNeg)) (by omega) (nI_1 v) (fun b' k q => ?_) (fun k hk => ?_)
            · exact st
            · rw [wr v G' (by omega), up2_o _ _ (by omega)]
              exact g1 b' k (by omega)
            · rw [wr v G' (by omega)]
              by_cases e : k = v
              · rw [e, up2_s]
                exact g1 _ _ (by omega)
              · rw [up2_o _ _ (by omega)]
                exact g2 k (by omega)
        refine go [170] 60 _ _ _ _ _ _ _ _ _ ?_
        exact loop z 0 _ _ (by omega) rfl (fun _ _ _ => rfl) (fun k hk => absurd hk (by omega))
      have a118 : t = u → a < b → At 118 [.ref 120, .int (nI t), .int (nI a), .int (nI u), .int (nI b), .int (nI z), .retAddr 0] [] n K S G P 0 := by
        intro etu hab
        have loop : ∀ k vi G', k ≤ z → vi.toInt = (k : Int) - 1 → (∀ b' j, ¬ (b' = 154 ∧ 60 * u + b + k ≤ j ∧ j < 60 * u + b + z) → G' b' j = G b' j) → (∀ j, k ≤ j → j < z → G' 154 (60 * u + b + j) = G 154 (60 * t + a + j)) → At 124 [.ref 120, .int (nI t), .int (nI a), .int (nI u), .int (nI b), .int (nI z), .int vi] [] n K S G' P 0 := by
          intro k
          induction k with
          | zero =>
            intro vi G' hk ev g1 g2
            have a164 : At 164 [.ref 120, .int (nI t), .int (nI a), .int (nI u), .int (nI b), .int (nI z), .int vi] [] n K S G' P 0 := by
              refine go [212] 60 _ _ _ _ _ _ _ _ _ ?_
              exact a212 _ G' (fun b' k q => g1 b' k (by omega)) (fun k hk => g2 k (by omega) hk)
            refine go [124, 164] 60 _ _ _ _ _ _ _ _ _ ?_
            refine ite_t (by rw [lt_i, t_0]; omega) ?_
            exact a164
          | succ k ih =>
            intro vi G' hk ev g1 g2
            have evi : vi = nI k := nI_of' (by omega)
            subst evi
            refine go [124, 164] 60 _ _ _ _ _ _ _ _ _ ?_
            refine ite_f (by rw [lt_i, t_0]; omega) ?_
            refine ite_t (ixs t a k ht (by omega)).1 ?_
            refine ite_t (ixs u b k hu (by omega)).1 ?_
            have st := ih (nI k + -1) (up2 G' 154 (60 * nI u + nI b + nI k).toNatClampNeg (G' 154 (60 * nI t + nI a + nI k).toNatClampNeg)) (by omega) (prN (by omega)) (fun b' j q => ?_) (fun j hj hj2 => ?_)
            · exact st
            · rw [wr k G' (by omega), up2_o _ _ (by omega)]
              exact g1 b' j (by omega)
            · rw [wr k G' (by omega)]
              by_cases e : j = k
              · rw [e, up2_s]
                exact g1 _ _ (by omega)
              · rw [up2_o _ _ (by omega)]
                exact g2 j (by omega) hj2
        refine go [124] 60 _ _ _ _ _ _ _ _ _ ?_
        exact loop z _ G (Nat.le_refl _) (sub_n (p := 1) (by omega) (by decide)) (fun _ _ _ => rfl) (fun j hj hj2 => absurd hj (by omega))
      refine go [118, 167] 60 _ _ _ _ _ _ _ _ _ ?_
      refine ite_i (fun e => ?_) (fun e => a167 (fun w => e (by rw [w.1])))
      have etu : t = u := by rw [eq_i, nI_toInt (by omega), nI_toInt (by omega)] at e; omega
      refine ite_i (fun e2 => ?_) (fun e2 => ?_)
      · rw [le_i, nI_toInt (by omega), nI_toInt (by omega)] at e2
        exact a167 (fun w => by omega)
      · rw [le_i, nI_toInt (by omega), nI_toInt (by omega)] at e2
        exact a118 etu (by omega)
    have a55 : ¬ (d 4 t = -1 ∨ d 4 u = -1) → d 4 t = d 4 u → At 55 [.ref 120, .int (nI t), .int i, .int (nI u), .int j, .int c, .retAddr 0] [] n K S G P 0 := by
      intro hs he
      refine go [104, 107] 60 _ _ _ _ _ _ _ _ _ ?_
      refine ite_i (fun z => a104 hs he (fun w => by rw [lt_i, t_0] at z; have := w.1; omega)) (fun z1 => ?_)
      refine ite_i (fun z => a104 hs he (fun w => by rw [lt_i, t_0] at z; have := w.2.1; omega)) (fun z2 => ?_)
      refine ite_i (fun z => a104 hs he (fun w => by rw [lt_i, t_0] at z; have := w.2.2.1; omega)) (fun z3 => ?_)
      rw [lt_i, t_0] at z1 z2 z3
      have z1' := Int.not_lt.mp z1
      have z2' := Int.not_lt.mp z2
      have z3' := Int.not_lt.mp z3
      obtain ⟨a, ha, rfl⟩ := ex_nI (x := i) (by omega)
      obtain ⟨b, hb, rfl⟩ := ex_nI (x := j) (by omega)
      obtain ⟨z, hz, rfl⟩ := ex_nI (x := c) (by omega)
      have lg : ∀ r q, r < 2 ^ 31 → q ≤ 60 → (((nI q).toInt64 < (nI r).toInt64 + (nI z).toInt64) ↔ q < r + z) := by
        intro r q hr hq
        have e1 : (lN (r + z)).toInt = ((r + z : Nat) : Int) := lg_ofNat_toInt (by omega)
        rw [nI_l hr, nI_l hz, nI_l (by omega), lN_add, Int64.lt_iff_toInt_lt, e1, lN_toInt (by omega)]
        omega
      refine ite_t x6 ?_
      refine ite_i (fun w => a104 hs he (fun w' => ?_)) (fun z4 => ?_)
      · rw [lg_cmp_gt, e5] at w
        have w2 := (lg a m ha hm).mp w
        have := w'.2.2.2.1
        rw [nI_toInt ha, nI_toInt hz] at this
        omega
      rw [lg_cmp_gt, e5] at z4
      have z5 : ¬ m < a + z := fun q => z4 ((lg a m ha hm).mpr q)
      refine ite_t y6 ?_
      have le : ∀ p q : Int64, lg_cmp p q ≤ 0 ↔ ¬ q < p := fun p q => by rw [← lg_cmp_gt, Int32.not_lt]
      refine ite_i (fun w => ?_) (fun w => a104 hs he (fun w' => ?_))
      · rw [le, f5] at w
        have w2 : ¬ m2 < b + z := fun q => w ((lg b m2 hb hm2).mpr q)
        exact a107 hs he ⟨z1', z2', z3', by rw [nI_toInt ha, nI_toInt hz]; omega, by rw [nI_toInt hb, nI_toInt hz]; omega⟩
      · rw [le, f5] at w
        have w2 : m2 < b + z := (lg b m2 hb hm2).mp (Classical.byContradiction w)
        have := w'.2.2.2.2
        rw [nI_toInt hb, nI_toInt hz] at this
        omega
    have a37 : ¬ (d 4 t = -1 ∨ d 4 u = -1) → At 37 [.ref 120, .int (nI t), .int i, .int (nI u), .int j, .int c, .retAddr 0] [] n K S G P 0 := by
      intro hs
      refine go [55] 60 _ _ _ _ _ _ _ _ _ ?_
      refine ite_t x6 ?_
      refine ite_t y6 ?_
      refine ite_i (fun z => a55 hs (by rw [e4, f4] at z; exact z)) (fun z => ?_)
      rw [e4, f4] at z
      exact c_no (-12) (fun w => z (okx.mp w).2.1) (by unfold rSh0; rw [if_pos ⟨hx, hy⟩, ek, eu, if_neg hs, if_neg z])
    refine go [34, 37] 60 _ _ _ _ _ _ _ _ _ ?_
    refine ite_t x6 ?_
    refine ite_i (fun z => ?_) (fun z => ?_)
    · rw [e4] at z
      exact a34 (.inl ((sneg (s := 0) hsrt).mp z))
    rw [e4] at z
    refine ite_t y6 ?_
    refine ite_i (fun z2 => ?_) (fun z2 => ?_)
    · rw [f4] at z2
      refine a37 (fun w => w.elim (fun w => z ((sneg (s := 0) hsrt).mpr w)) (fun w => ?_))
      rw [w] at z2
      exact absurd z2 (by decide)
    · rw [f4] at z2
      refine a34 (.inr ?_)
      rcases hsrt2 with e | ⟨s, hs, e⟩
      · exact e
      · rw [e] at z2
        exact absurd (by rw [le_i, t_0, nI_toInt (by omega)]; omega) z2
  refine go [14, 16] 60 _ _ _ _ _ _ _ _ _ ?_
  refine mm_tape2 (fun hx => ?_) (fun hx => a14 (fun w => by rw [hx] at w; cases w.1))
  refine mm_tape2 (fun hy => a16 hx hy) (fun hy => a14 (fun w => by rw [hy] at w; cases w.2))
end A
end

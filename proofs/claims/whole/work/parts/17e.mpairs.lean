noncomputable section
/-! PAIRS, MATCH of the model. -/
def FrP (S S' : Mi) : Prop := ∀ b j, b ≠ 150 → b ≠ 151 → ¬ (b = 120 ∧ j = 46) → S' b j = S b j
theorem FrP.rf (S : Mi) : FrP S S := fun _ _ _ _ _ => rfl
theorem FrP.tr {S S' S'' : Mi} (h : FrP S S') (g : FrP S' S'') : FrP S S'' := fun b j h1 h2 h3 => (g b j h1 h2 h3).trans (h b j h1 h2 h3)
def PrOk (f : Nat → Nat → Bool) (np : Nat) (S : Mi) (w : Nat → Int32) (st : Int × (Nat → Int32)) : Prop := S 120 0 = nI np ∧ (∀ i, i < 6 → S 150 i = w i) ∧ (∀ p q, p < q → q < np → S 149 (6 * p + q) = if f p q = true then 1 else 0) ∧ (S 120 46).toInt = st.1 ∧ ∀ i, i < 6 → S 151 i = st.2 i
section A
variable {l : Launch} {L : Nat} {xs : Nat → Int32} {D : Nat} {n : Nat} {K : Mk} {G : Ml} {P : Mr} {f : Nat → Nat → Bool} {np : Nat}
set_option maxRecDepth 20000
theorem lpD_s {α : Type} {c : Nat → Bool} {s : Nat → α → α} {m j : Nat} {a : α} : lpD c s (m + 1) j a = lpD c s m (j + 1) (if c j = true then s j a else a) := rfl
theorem mm_pairs (h6 : np ≤ 6) : ∀ k p many (S : Mi) w st vp vm (Q : QT), p + k = np → many ≤ p → vp = nI p → vm = nI many → PrOk f np S w st → (∀ S', FrP S S' → PrOk f np S' w (dfs f k p w many st) → Q none n K S' G P) → Ok l L xs T1 (D + (k + 1)) jX12_pairs 0 [.ref 120, .int vp, .int vm] n K S G P Q := by
  intro k
  induction k with
  | zero =>
    intro p many S w st vp vm Q hp hm ep em hs h
    subst ep
    subst em
    have epn : p = np := by omega
    subst epn
    obtain ⟨s1, s2, s3, s4, s5⟩ := hs
    refine I_X12_pairs (by decide) (fun At go => ?_)
    have a17 : st.1 < (many : Int) → At 17 [.ref 120, .int (nI p), .int (nI many), .retAddr 0] [] n K S G P 0 := by
      intro c
      have hfin : ∀ S', FrP S S' → PrOk f p S' w ((many : Int), w) → Q none n K S' G P := fun S' g1 g2 => h S' g1 (by
        show PrOk f p S' w (if st.1 < (many : Int) then ((many : Int), w) else st)
        rw [if_pos c]
        exact g2)
      have loop : ∀ m i vi S', i + m = 6 → vi = nI i → FrP S S' → (∀ j, j < 6 → S' 150 j = w j) → (S' 120 46).toInt = (many : Int) → (∀ j, j < i → S' 151 j = w j) → At 24 [.ref 120, .int (nI p), .int (nI many), .int vi] [] n K S' G P 0 := by
        intro m
        induction m with
        | zero =>
          intro i vi S' hi ev g1 g2 g3 g4
          subst ev
          have a48 : At 48 [.ref 120, .int (nI p), .int (nI many), .int (nI i)] [] n K S' G P 0 := by
            refine go [] 60 _ _ _ _ _ _ _ _ _ ?_
            exact hfin S' g1 ⟨(g1 _ _ (by decide) (by decide) (by decide)).trans s1, g2, fun p' q h1 h2 => (g1 _ _ (by decide) (by decide) (by omega)).trans (s3 p' q h1 h2), g3, fun j hj => g4 j (by omega)⟩
          refine go [24, 48] 60 _ _ _ _ _ _ _ _ _ ?_
          refine ite_t (by rw [le_i, nI_toInt (by omega), t_6]; omega) ?_
          exact a48
        | succ m ih =>
          intro i vi S' hi ev g1 g2 g3 g4
          subst ev
          have x6 : ixB (nI i) 6 = true := ixB_nI (by omega) (by decide)
          have ei : (nI i).toNatClampNeg = i := nI_clamp (by omega)
          refine go [24, 48] 60 _ _ _ _ _ _ _ _ _ ?_
          refine ite_f (by rw [le_i, nI_toInt (by omega), t_6]; omega) ?_
          refine ite_t x6 ?_
          refine ite_t x6 ?_
          have st := ih (i + 1) (nI i + 1) (up2 S' 151 (nI i).toNatClampNeg (S' 150 (nI i).toNatClampNeg)) (by omega) (nI_1 i) (fun b j q1 q2 q3 => (up2_o _ _ (.inl q2)).trans (g1 b j q1 q2 q3)) (fun j hj => (up2_o _ _ (.inl (by decide))).trans (g2 j hj)) (by rw [up2_o _ _ (.inl (by decide))]; exact g3) (fun j hj => by
            rw [ei]
            by_cases e : j = i
            · rw [e, up2_s]; exact g2 i (by omega)
            · rw [up2_o _ _ (.inr e)]; exact g4 j (by omega))
          exact st
      refine go [24] 60 _ _ _ _ _ _ _ _ _ ?_
      exact loop 6 0 _ (up2 S 120 46 (nI many)) rfl rfl (fun b j q1 q2 q3 => up2_o _ _ (by omega)) (fun j hj => (up2_o _ _ (.inl (by decide))).trans (s2 j hj)) (by rw [up2_s, nI_toInt (by omega)]) (fun j hj => absurd hj (by omega))
    refine go [17, 49] 60 _ _ _ _ _ _ _ _ _ ?_
    refine ite_t s1.symm ?_
    refine ite_i (fun c => a17 ?_) (fun c => ?_)
    · rw [lt_i, nI_toInt (by omega), s4] at c
      exact c
    · rw [lt_i, nI_toInt (by omega), s4] at c
      refine h S (FrP.rf S) ?_
      show PrOk f p S w (if st.1 < (many : Int) then ((many : Int), w) else st)
      rw [if_neg c]
      exact ⟨s1, s2, s3, s4, s5⟩
  | succ k ih =>
    intro p many S w st vp vm Q hp hm ep em hs h
    subst ep
    subst em
    have hs' := hs
    obtain ⟨s1, s2, s3, s4, s5⟩ := hs'
    refine I_X12_pairs (by decide) (fun At go => ?_)
    have x6 : ixB (nI p) 6 = true := ixB_nI (by omega) (by decide)
    have epc : (nI p).toNatClampNeg = p := nI_clamp (by omega)
    have hwp : S 150 (nI p).toNatClampNeg = w p := by rw [epc]; exact s2 p (by omega)
    have a49 : At 49 [.ref 120, .int (nI p), .int (nI many), .retAddr 0] [] n K S G P 0 := by
      have eD : ∀ a : Int × (Nat → Int32), dfs f (k + 1) p w many a = if w p = -5 then dfs f k (p + 1) w many (lpD (fun j => decide (w j = -5) && f p j) (fun j st => dfs f k (p + 1) (va_up (va_up w p (nI j)) j (nI p)) (many + 1) st) k (p + 1) a) else dfs f k (p + 1) w many a := fun a => rfl
      have a155 : ∀ S' st' v3, FrP S S' → PrOk f np S' w st' → (∀ S'', FrP S S'' → PrOk f np S'' w (dfs f k (p + 1) w many st') → Q none n K S'' G P) → At 155 [.ref 120, .int (nI p), .int (nI many), v3] [] n K S' G P 0 := by
        intro S' st' v3 g1 g2 hf
        refine go [] 60 _ _ _ _ _ _ _ _ _ ?_
        refine ih (p + 1) many S' w st' _ _ _ (by omega) (by omega) (nI_1 p) rfl g2 (fun S'' g3 g4 => ?_)
        exact hf S'' (g1.tr g3) g4
      have a69 : w p = -5 → At 69 [.ref 120, .int (nI p), .int (nI many), .retAddr 0] [] n K S G P 0 := by
        intro cw
        have loop : ∀ m q vq S' st', q + m = np → p < q → vq = nI q → FrP S S' → PrOk f np S' w st' → (∀ S'', FrP S S'' → PrOk f np S'' w (dfs f k (p + 1) w many (lpD (fun j => decide (w j = -5) && f p j) (fun j st => dfs f k (p + 1) (va_up (va_up w p (nI j)) j (nI p)) (many + 1) st) m q st')) → Q none n K S'' G P) → At 73 [.ref 120, .int (nI p), .int (nI many), .int vq] [] n K S' G P 0 := by
          intro m
          induction m with
          | zero =>
            intro q vq S' st' hq hpq ev g1 g2 hf
            subst ev
            refine go [73, 149, 155] 60 _ _ _ _ _ _ _ _ _ ?_
            refine ite_t (by rw [g2.1, le_i, nI_toInt (by omega), nI_toInt (by omega)]; omega) ?_
            exact a155 S' st' _ g1 g2 hf
          | succ m ihm =>
            intro q vq S' st' hq hpq ev g1 g2 hf
            subst ev
            obtain ⟨r1, r2, r3, r4, r5⟩ := g2
            have xq : ixB (nI q) 6 = true := ixB_nI (by omega) (by decide)
            have eqc : (nI q).toNatClampNeg = q := nI_clamp (by omega)
            have ewq : S' 150 (nI q).toNatClampNeg = w q := by rw [eqc]; exact r2 q (by omega)
            have xi : 6 * nI p + nI q = nI (6 * p + q) := by rw [show (6 : Int32) = nI 6 from rfl, pk_mul, nI_add]
            have xc : ixB (6 * nI p + nI q) 36 = true := by rw [xi]; exact ixB_nI (by omega) (by decide)
            have ec : S' 149 (6 * nI p + nI q).toNatClampNeg = if f p q = true then 1 else 0 := by rw [xi, nI_clamp (by omega)]; exact r3 p q hpq (by omega)
            have a149 : ∀ S'' st'', FrP S S'' → PrOk f np S'' w st'' → (∀ S3, FrP S S3 → PrOk f np S3 w (dfs f k (p + 1) w many (lpD (fun j => decide (w j = -5) && f p j) (fun j st => dfs f k (p + 1) (va_up (va_up w p (nI j)) j (nI p)) (many + 1) st) m (q + 1) st'')) → Q none n K S3 G P) → At 149 [.ref 120, .int (nI p), .int (nI many), .int (nI q)] [] n K S'' G P 0 := by
              intro S'' st'' q1 q2 q3
              refine go [73] 60 _ _ _ _ _ _ _ _ _ ?_
              exact ihm (q + 1) _ S'' st'' (by omega) (by omega) (nI_1 q) q1 q2 q3
            have sk : ¬ (decide (w q = -5) && f p q) = true → At 149 [.ref 120, .int (nI p), .int (nI many), .int (nI q)] [] n K S' G P 0 := by
              intro c
              rw [lpD_s, if_neg c] at hf
              exact a149 S' st' g1 ⟨r1, r2, r3, r4, r5⟩ hf
            have a109 : (decide (w q = -5) && f p q) = true → At 109 [.ref 120, .int (nI p), .int (nI many), .int (nI q)] [] n K S' G P 0 := by
              intro c
              have cq : w q = -5 := by rw [Bool.and_eq_true, decide_eq_true_eq] at c; exact c.1
              rw [lpD_s, if_pos c] at hf
              refine go [149] 60 _ _ _ _ _ _ _ _ _ ?_
              refine ite_t x6 ?_
              refine ite_t xq ?_
              refine ih (p + 1) (many + 1) _ (va_up (va_up w p (nI q)) q (nI p)) st' _ _ _ (by omega) (by omega) (nI_1 p) (nI_1 many) ⟨r1, fun i hi => ?_, r3, r4, r5⟩ (fun S2 f2 f3 => ?_)
              · rw [epc, eqc]
                by_cases e : i = q
                · rw [e, up2_s, va_up_self]
                · rw [up2_o _ _ (.inr e), va_up_ne _ _ e]
                  by_cases e2 : i = p
                  · rw [e2, up2_s, va_up_self]
                  · rw [up2_o _ _ (.inr e2), va_up_ne _ _ e2]
                    exact r2 i hi
              · obtain ⟨t1, t2, t3, t4, t5⟩ := f3
                refine ite_t x6 ?_
                refine ite_t xq ?_
                refine a149 _ _ (fun b j q1 q2 q3 => ?_) ⟨t1, fun i hi => ?_, t3, t4, t5⟩ hf
                · rw [up2_o _ _ (.inl q1), up2_o _ _ (.inl q1), f2 b j q1 q2 q3, up2_o _ _ (.inl q1), up2_o _ _ (.inl q1)]
                  exact g1 b j q1 q2 q3
                · rw [epc, eqc]
                  by_cases e : i = q
                  · rw [e, up2_s, cq]
                  · rw [up2_o _ _ (.inr e)]
                    by_cases e2 : i = p
                    · rw [e2, up2_s, cw]
                    · rw [up2_o _ _ (.inr e2), t2 i hi, va_up_ne _ _ e, va_up_ne _ _ e2]
            refine go [73, 109, 149, 155] 60 _ _ _ _ _ _ _ _ _ ?_
            refine ite_f (by rw [r1, le_i, nI_toInt (by omega), nI_toInt (by omega)]; omega) ?_
            refine ite_t xq ?_
            refine ite_i (fun c => ?_) (fun c => ?_)
            · rw [ewq] at c
              refine ite_t xc ?_
              refine ite_i (fun c2 => ?_) (fun c2 => ?_)
              · have c3 : S' 149 (6 * nI p + nI q).toNatClampNeg = 0 := c2
                rw [ec] at c3
                refine sk (fun z => ?_)
                rw [Bool.and_eq_true] at z
                rw [if_pos z.2] at c3
                exact absurd c3 (by decide)
              · have c3 : ¬ S' 149 (6 * nI p + nI q).toNatClampNeg = 0 := c2
                rw [ec] at c3
                refine a109 ?_
                rw [decide_eq_true c, Bool.true_and]
                exact Classical.byContradiction (fun z => c3 (if_neg z))
            · rw [ewq] at c
              exact sk (fun z => by rw [Bool.and_eq_true, decide_eq_true_eq] at z; exact c z.1)
        refine go [73] 60 _ _ _ _ _ _ _ _ _ ?_
        refine loop k (p + 1) _ S st (by omega) (by omega) (nI_1 p) (FrP.rf S) hs (fun S'' g1 g2 => h S'' g1 ?_)
        rw [eD, if_pos cw]
        exact g2
      refine go [69] 60 _ _ _ _ _ _ _ _ _ ?_
      refine ite_t x6 ?_
      refine ite_i (fun c => a69 (hwp.symm.trans c)) (fun c => ?_)
      refine ih (p + 1) many S w st _ _ _ (by omega) (by omega) (nI_1 p) rfl hs (fun S' g1 g2 => ?_)
      refine h S' g1 ?_
      rw [eD, if_neg (fun z => c (hwp.trans z))]
      exact g2
    refine go [49] 60 _ _ _ _ _ _ _ _ _ ?_
    refine ite_f (by rw [s1, eq_i, nI_toInt (by omega), nI_toInt (by omega)]; omega) ?_
    exact a49
end A
end

noncomputable section
/-! MATCH of the model. -/
theorem fstN_r {C : Nat → Prop} : ∀ m j, fstN C m j = -5 ∨ ∃ i, i < j + m ∧ fstN C m j = nI i := by
  intro m
  induction m with
  | zero => intro j; exact .inl rfl
  | succ m ih =>
    intro j
    by_cases c : C j
    · exact .inr ⟨j, by omega, fstN_t c⟩
    · rw [fstN_f c]
      rcases ih (j + 1) with h | ⟨i, h1, h2⟩
      · exact .inl h
      · exact .inr ⟨i, by omega, h2⟩
theorem twV_r {t us la : Int32} {cn : Int32 → Int32 → Nat → Nat → Bool} {dy : Nat} : twV t cn us la dy = -5 ∨ 0 ≤ (twV t cn us la dy).toInt := by
  unfold twV
  split
  · exact .inr (by rw [t_0]; omega)
  · rcases fstN_r (C := twC t cn us la dy) 31 0 with h | ⟨i, h1, h2⟩
    · exact .inl h
    · exact .inr (by rw [h2, nI_toInt (by omega)]; omega)
theorem awT_r {sd : Nat → Int32 × ((Nat → Int32) → Bool)} {tw : Nat → Int32} {dy p q : Nat} : awT sd tw dy p q = -5 ∨ 0 ≤ (awT sd tw dy p q).toInt := by
  have h1 : twT sd tw dy p q = -5 ∨ 0 ≤ (twT sd tw dy p q).toInt := by unfold twT; exact twV_r
  have h2 : twT sd tw dy q p = -5 ∨ 0 ≤ (twT sd tw dy q p).toInt := by unfold twT; exact twV_r
  unfold awT
  split
  · split
    · exact .inl rfl
    · split
      · exact h2
      · exact h1
  · exact .inl rfl
section A
variable {l : Launch} {L : Nat} {xs : Nat → Int32} {D : Nat} {n : Nat} {K : Mk} {S : Mi} {G : Ml} {P : Mr} {Q : QT} {N : Nat → Nat} {d : Nat → Nat → Int32} {g : Nat → Int64} {sd : Nat → Int32 × ((Nat → Int32) → Bool)}
set_option maxRecDepth 20000
theorem scm_ne {b j : Nat} (h : scm b j = false) : b ≠ 135 ∧ b ≠ 149 ∧ b ≠ 150 ∧ b ≠ 151 ∧ ¬ (b = 120 ∧ j = 46) := by
  refine ⟨fun e => ?_, fun e => ?_, fun e => ?_, fun e => ?_, fun e => ?_⟩
  · subst e; cases h
  · subst e; cases h
  · subst e; cases h
  · subst e; cases h
  · obtain ⟨rfl, rfl⟩ := e; cases h
theorem mm_pairs_le {f : Nat → Nat → Bool} {np : Nat} (h6 : np ≤ 6) {w be : Nat → Int32} {vp vm : Int32} (ep : vp = nI 0) (em : vm = nI 0) (hs : PrOk f np S w (-1, be)) (h : ∀ S', FrP S S' → PrOk f np S' w (dfs f np 0 w 0 (-1, be)) → Q none n K S' G P) : Ok l L xs T1 (D + 8) jX12_pairs 0 [.ref 120, .int vp, .int vm] n K S G P Q := by
  have e : D + 8 = (D + (7 - np)) + (np + 1) := by omega
  rw [e]
  exact mm_pairs h6 np 0 0 S w (-1, be) vp vm Q (by omega) (by omega) ep em hs h
theorem mm_match_end {f : Nat → Nat → Bool} {np : Nat} {w be : Nat → Int32} (h6 : np ≤ 6) (hw : ∀ i, i < np → w i = -5) : (dfs f np 0 w 0 (-1, be)).1 = ((mxF f np 0 (fun j => (2 ^ np - 1).testBit j) : Nat) : Int) ∧ ∀ x, x < np → (dfs f np 0 w 0 (-1, be)).2 x = mtF f x np 0 (fun j => (2 ^ np - 1).testBit j) := by
  have eb := (ev_b np h6).2
  have ea : ∀ i, 0 ≤ i → i < 0 + np → (fun j => decide (w j = -5)) i = (fun j => (2 ^ np - 1).testBit j) i := fun i _ hi => by
    show decide (w i = -5) = (2 ^ np - 1).testBit i
    rw [eb i (by omega), hw i (by omega), decide_eq_true rfl, decide_eq_true (by omega)]
  have e := dfs_eq (f := f) np 0 w 0 (-1) be (by omega)
  rw [if_pos (by omega), mxF_congr np 0 _ _ ea, bsF_congr np 0 _ _ w ea, Nat.zero_add] at e
  rw [e]
  refine ⟨rfl, fun x hx => ?_⟩
  exact (mt_bs np 0 _ w (by omega) (by omega) (by omega) (by rw [eb x (by omega), decide_eq_true hx]) (hw x hx)).symm
theorem q_match {y z : Int32} (hI : InvM N d g sd S G) (hD : DOk N d) (h : ∀ S', FrM S S' → InvM N d g sd S' G → Q (some (.int (rMa sd (d 0) (N 0) (N 1) y z))) n K S' G P) : Ok l L xs T1 (D + 12) jX12_match 0 [.ref 120, .int y, .int z] n K S G P Q := by
  refine I_X12_match (by decide) (fun At go => ?_)
  have hQ := h S (FrM.rf S) hI
  have np6 := hD.1.1.2
  have hn : S 120 0 = nI (N 0) := (RM_np hI.1.1).trans hD.1.1.1
  unfold rMa at hQ
  have a30 : (z = 0 ∨ inR (N 0) (z - 10) = true) → inR 31 y = true → At 30 [.ref 120, .int y, .int z, .retAddr 0, .retAddr 0, .retAddr 0] [] n K S G P 0 := by
    intro hz hy
    obtain ⟨k, hk, rfl⟩ := inR_ex hy
    have ek : (nI k).toNatClampNeg = k := nI_clamp (by omega)
    have h' : ∀ S', FrM S S' → (∀ b j, scm b j = false → S' b j = S b j) → Q (some (.int (if z = 0 then nI (mxF (frT sd (d 0) (N 1) (nI k)) (N 0) 0 (fun j => (2 ^ N 0 - 1).testBit j)) else mtF (frT sd (d 0) (N 1) (nI k)) (z - 10).toNatClampNeg (N 0) 0 (fun j => (2 ^ N 0 - 1).testBit j)))) n K S' G P := fun S' f1 f2 => by
      have := h S' f1 (InvM_fr f2 hI)
      unfold rMa at this
      rw [if_pos hz, if_pos hy] at this
      exact this
    have fdef : ∀ p q, frT sd (d 0) (N 1) (nI k) p q = inR (k + 1) (awT sd (d 0) (N 1) p q) := fun p q => by unfold frT; rw [ek]
    generalize hf : frT sd (d 0) (N 1) (nI k) = f at h' fdef
    have a113 : ∀ S' x3 x4 x5, FrM S S' → (∀ b j, scm b j = false → S' b j = S b j) → (∀ i, i < N 0 → S' 150 i = -5) → (∀ p q, p < q → q < N 0 → S' 149 (6 * p + q) = if f p q = true then 1 else 0) → At 113 [.ref 120, .int (nI k), .int z, x3, x4, x5] [] n K S' G P 0 := by
      intro S' x3 x4 x5 f1 f2 f3 f4
      have a144 : ∀ r S'', Q (some (.int r)) n K S'' G P → At 144 [.ref 120, .int (nI k), .int z, x3, x4, x5] [.int r] n K S'' G P 0 := by
        intro r S'' hr
        refine go [] 60 _ _ _ _ _ _ _ _ _ ?_
        exact hr
      refine go [135, 144] 60 _ _ _ _ _ _ _ _ _ ?_
      refine mm_pairs_le (f := f) np6 (w := fun i => S' 150 i) (be := fun i => S' 151 i) rfl rfl ⟨(f2 _ _ rfl).trans hn, fun _ _ => rfl, f4, (by rw [up2_s]; exact t_m1), fun _ _ => rfl⟩ (fun S'' g1 g2 => ?_)
      replace g1 : FrP (up2 S' 120 46 (-1)) S'' := g1
      obtain ⟨m1, m2⟩ := mm_match_end (f := f) (be := fun i => S' 151 i) np6 f3
      obtain ⟨p1, p2, p3, p4, p5⟩ := g2
      rw [m1] at p4
      have le := mxF_le (f := f) (N 0) 0 (fun j => (2 ^ N 0 - 1).testBit j)
      have fin := h' S'' (fun b j hb => (g1 b j (by omega) (by omega) (by omega)).trans ((up2_o _ _ (by omega)).trans (f1 b j hb))) (fun b j hb => by
        obtain ⟨_, _, e2, e3, e4⟩ := scm_ne hb
        exact (g1 b j e2 e3 e4).trans ((up2_o _ _ (by omega)).trans (f2 b j hb)))
      refine ite_i (fun c => ?_) (fun c => ?_)
      · rw [if_pos c, ← nI_of' p4] at fin
        exact a144 _ _ fin
      · rw [if_neg c] at fin
        have a135 : At 135 [.ref 120, .int (nI k), .int z, x3, x4, x5] [] n K S'' G P 0 := by
          obtain ⟨p, hp, ep⟩ := inR_ex (hz.resolve_left c)
          rw [ep, nI_clamp (by omega), ← m2 p hp, ← p5 p (by omega)] at fin
          have x6 : ixB (z - 10) 6 = true := by rw [ep]; exact ixB_nI (by omega) (by decide)
          have e1 : (z - 10).toNatClampNeg = p := by rw [ep, nI_clamp (by omega)]
          rw [← e1] at fin
          refine go [144] 60 _ _ _ _ _ _ _ _ _ ?_
          refine ite_t x6 ?_
          exact a144 _ _ fin
        exact a135
    have outer : ∀ m i vi S' x4 x5, i + m = N 0 → vi = nI i → FrM S S' → (∀ b j, scm b j = false → S' b j = S b j) → (∀ i', i' < i → S' 150 i' = -5) → (∀ p q, p < i → p < q → q < N 0 → S' 149 (6 * p + q) = if f p q = true then 1 else 0) → At 32 [.ref 120, .int (nI k), .int z, .int vi, x4, x5] [] n K S' G P 0 := by
      intro m
      induction m with
      | zero =>
        intro i vi S' x4 x5 hi ev f1 f2 f3 f4
        subst ev
        refine go [32, 113] 60 _ _ _ _ _ _ _ _ _ ?_
        refine ite_t (by rw [(f2 120 0 rfl).trans hn, le_i, nI_toInt (by omega), nI_toInt (by omega)]; omega) ?_
        exact a113 S' _ _ _ f1 f2 (fun i' hi' => f3 i' (by omega)) (fun p q h1 h2 => f4 p q (by omega) h1 h2)
      | succ m ih =>
        intro i vi S' x4 x5 hi ev f1 f2 f3 f4
        subst ev
        have ei : (nI i).toNatClampNeg = i := nI_clamp (by omega)
        have inner : ∀ m2 j vj S' x5, j + m2 = N 0 → i < j → vj = nI j → FrM S S' → (∀ b j, scm b j = false → S' b j = S b j) → (∀ i', i' < i + 1 → S' 150 i' = -5) → (∀ p q, p < i → p < q → q < N 0 → S' 149 (6 * p + q) = if f p q = true then 1 else 0) → (∀ q, i < q → q < j → S' 149 (6 * i + q) = if f i q = true then 1 else 0) → At 53 [.ref 120, .int (nI k), .int z, .int (nI i), .int vj, x5] [] n K S' G P 0 := by
          intro m2
          induction m2 with
          | zero =>
            intro j vj S' x5 hj hij ev f1 f2 f3 f4 f5
            subst ev
            have a107 : At 107 [.ref 120, .int (nI k), .int z, .int (nI i), .int (nI j), x5] [] n K S' G P 0 := by
              refine go [32] 60 _ _ _ _ _ _ _ _ _ ?_
              refine ih (i + 1) _ S' _ _ (by omega) (nI_1 i) f1 f2 f3 (fun p q h1 h2 h3 => ?_)
              by_cases e : p = i
              · rw [e]; exact f5 q (by omega) (by omega)
              · exact f4 p q (by omega) h2 h3
            refine go [53, 107] 60 _ _ _ _ _ _ _ _ _ ?_
            refine ite_t (by rw [(f2 120 0 rfl).trans hn, le_i, nI_toInt (by omega), nI_toInt (by omega)]; omega) ?_
            exact a107
          | succ m2 ih2 =>
            intro j vj S' x5 hj hij ev f1 f2 f3 f4 f5
            subst ev
            have xi : 6 * nI i + nI j = nI (6 * i + j) := by rw [show (6 : Int32) = nI 6 from rfl, pk_mul, nI_add]
            have x36 : ixB (6 * nI i + nI j) 36 = true := by rw [xi]; exact ixB_nI (by omega) (by decide)
            have xc : (6 * nI i + nI j).toNatClampNeg = 6 * i + j := by rw [xi, nI_clamp (by omega)]
            have a100 : ∀ S'' aw b, Fm S' S'' → b = (if f i j = true then 1 else 0) → At 100 [.ref 120, .int (nI k), .int z, .int (nI i), .int (nI j), .int aw] [.int b, .int (6 * nI i + nI j), .ref 149] n K S'' G P 0 := by
              intro S'' aw b g1 eb
              have st := ih2 (j + 1) (nI j + 1) (up2 S'' 149 (6 * nI i + nI j).toNatClampNeg b) (.int aw) (by omega) (by omega) (nI_1 j) (fun c j' q1 => (up2_o _ _ (by omega)).trans ((g1 c j' (by omega)).trans (f1 c j' q1))) (fun c j' hc => (up2_o _ _ (.inl (scm_ne hc).2.1)).trans ((g1 c j' (scm_ne hc).1).trans (f2 c j' hc))) (fun i' hi' => (up2_o _ _ (.inl (by decide))).trans ((g1 _ _ (by decide)).trans (f3 i' hi'))) (fun p q h1 h2 h3 => by
                rw [xc, up2_o _ _ (.inr (by omega))]
                exact (g1 _ _ (by decide)).trans (f4 p q h1 h2 h3)) (fun q h1 h2 => by
                rw [xc]
                by_cases e : q = j
                · rw [e, up2_s]; exact eb
                · rw [up2_o _ _ (.inr (by omega))]
                  exact (g1 _ _ (by decide)).trans (f5 q h1 (by omega)))
              have en : vp_nar .boolean b = b := by
                rw [eb]
                split <;> rfl
              rw [← en] at st
              refine go [53] 60 _ _ _ _ _ _ _ _ _ ?_
              refine ite_t x36 ?_
              exact st
            have hI' := InvM_fr f2 hI
            refine go [53, 99, 100, 107] 60 _ _ _ _ _ _ _ _ _ ?_
            refine ite_f (by rw [(f2 120 0 rfl).trans hn, le_i, nI_toInt (by omega), nI_toInt (by omega)]; omega) ?_
            refine q_await (D := D + 3) (MT_of hI' hD) (by omega) (by omega) (fun S'' g1 => ?_)
            have rg := awT_r (sd := sd) (tw := d 0) (dy := N 1) (p := i) (q := j)
            have a99 : f i j = false → At 99 [.ref 120, .int (nI k), .int z, .int (nI i), .int (nI j), .int (awT sd (d 0) (N 1) i j)] [.int (6 * nI i + nI j), .ref 149] n K S'' G P 0 := by
              intro fi
              refine go [100] 60 _ _ _ _ _ _ _ _ _ ?_
              refine a100 S'' _ _ g1 ?_
              rw [fi]
              rfl
            refine ite_i (fun c => a99 ?_) (fun c => ?_)
            · rw [fdef, c]
              exact inR_f (by rw [t_m5]; omega)
            have r0 := rg.resolve_left c
            refine ite_i (fun c2 => a99 ?_) (fun c2 => ?_)
            · rw [lt_i, nI_toInt (by omega)] at c2
              rw [fdef]
              exact inR_f (by omega)
            · rw [lt_i, nI_toInt (by omega)] at c2
              have fi : f i j = true := by rw [fdef]; exact inR_lt r0 (by omega)
              refine a100 S'' _ _ g1 ?_
              rw [if_pos fi]
        refine go [32, 53, 113] 60 _ _ _ _ _ _ _ _ _ ?_
        refine ite_f (by rw [(f2 120 0 rfl).trans hn, le_i, nI_toInt (by omega), nI_toInt (by omega)]; omega) ?_
        refine ite_t (ixB_nI (by omega) (by decide)) ?_
        refine inner (N 0 - (i + 1)) (i + 1) _ (up2 S' 150 (nI i).toNatClampNeg (-5)) _ (by omega) (by omega) (nI_1 i) (fun c j' q1 => (up2_o _ _ (by omega)).trans (f1 c j' q1)) (fun c j' hc => (up2_o _ _ (.inl (scm_ne hc).2.2.1)).trans (f2 c j' hc)) (fun i' hi' => ?_) (fun p q h1 h2 h3 => (up2_o _ _ (.inl (by decide))).trans (f4 p q h1 h2 h3)) (fun q h1 h2 => absurd h1 (by omega))
        rw [ei]
        by_cases e : i' = i
        · rw [e, up2_s]
        · rw [up2_o _ _ (.inr e)]
          exact f3 i' (by omega)
    refine go [32] 60 _ _ _ _ _ _ _ _ _ ?_
    exact outer (N 0) 0 _ S _ _ (by omega) rfl (FrM.rf S) (fun _ _ _ => rfl) (fun i' hi' => absurd hi' (by omega)) (fun p q h1 => absurd h1 (by omega))
  have a17 : (z = 0 ∨ inR (N 0) (z - 10) = true) → At 17 [.ref 120, .int y, .int z, .retAddr 0, .retAddr 0, .retAddr 0] [] n K S G P 0 := by
    intro hz
    rw [if_pos hz] at hQ
    refine go [30] 60 _ _ _ _ _ _ _ _ _ ?_
    refine mm_w0 (m := 30) (by decide) 30 rfl (fun hy => a30 hz hy) (fun c => ?_)
    rw [c] at hQ
    exact hQ
  refine go [17] 60 _ _ _ _ _ _ _ _ _ ?_
  refine ite_i (fun c => a17 (.inl c)) (fun c => ?_)
  refine mm_isOne hn np6 (fun p hp e => ?_) (fun c3 => ?_)
  · exact a17 (.inr (by
      have e' : z - 10 = nI p := e
      rw [e']; exact inR_nI hp (by omega)))
  · rw [if_neg (fun w => w.elim c (fun w => c3 (by
      obtain ⟨p, hp, e⟩ := inR_ex w
      show 0 ≤ (z - 10).toInt ∧ (z - 10).toInt < _
      rw [e, nI_toInt (by omega)]
      omega)))] at hQ
    exact hQ
end A
end

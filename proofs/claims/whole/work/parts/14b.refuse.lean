noncomputable section
theorem FrR_up {S S' : Mi} {c i : Nat} {x : Int32} (hc : c = 123 ∨ c = 125 ∨ c = 126 ∨ c = 127) (h : FrR S S') : FrR S (up2 S' c i x) := fun b j h1 h2 h3 h4 h5 => by rw [up2_o _ _ (by omega)]; exact h b j h1 h2 h3 h4 h5
theorem FrR_fm {S S' : Mi} (h : Fm S S') : FrR S S' := fun b j _ _ _ _ h5 => h b j h5
theorem FrR_tr {S S' S'' : Mi} (h : FrR S S') (g : FrR S' S'') : FrR S S'' := fun b j h1 h2 h3 h4 h5 => (g b j h1 h2 h3 h4 h5).trans (h b j h1 h2 h3 h4 h5)
theorem FrR_frm {S S' : Mi} (h : FrR S S') : FrM S S' := fun b j hb => h b j (by omega) (by omega) (by omega) (by omega) (by omega)
theorem FrR_fpm {S S' : Mi} (h : FrR S S') : ∀ b j, fpm b j = true → S' b j = S b j := fun b j hb => h b j (fun e => by subst e; cases hb) (fun e => by subst e; cases hb) (fun e => by subst e; cases hb) (fun e => by subst e; cases hb) (fun e => by subst e; cases hb)
theorem RM_ta' {tw : Nat → Int32} {S : Mi} {i : Nat} (x : Int32) (hi : i < 36) (h : RM tw S) : RM (va_up tw (42 + i) x) (up2 S 125 i x) := RM_up x (by omega) (ml_ta i hi) h
theorem RM_us' {tw : Nat → Int32} {S : Mi} {i : Nat} (x : Int32) (hi : i < 36) (h : RM tw S) : RM (va_up tw (78 + i) x) (up2 S 126 i x) := RM_up x (by omega) (ml_us i hi) h
theorem RM_la' {tw : Nat → Int32} {S : Mi} {i : Nat} (x : Int32) (hi : i < 36) (h : RM tw S) : RM (va_up tw (114 + i) x) (up2 S 127 i x) := RM_up x (by omega) (ml_la i hi) h
theorem RM_wed' {tw : Nat → Int32} {S : Mi} {i : Nat} (x : Int32) (hi : i < 6) (h : RM tw S) : RM (va_up tw (12 + i) x) (up2 S 123 i x) := RM_up x (by omega) (ml_wed i hi) h
section A
variable {l : Launch} {L : Nat} {xs : Nat → Int32} {D : Nat} {n : Nat} {K : Mk} {S : Mi} {G : Ml} {P : Mr} {Q : QT} {a : Nat} {sd : Nat → Int32 × ((Nat → Int32) → Bool)} {tw : Nat → Int32} {np dy ns p q w : Nat}
set_option maxRecDepth 20000
theorem mm_refuses (hR : RM tw S) (hp : p < 6) (hq : q < 6) (hday : S 120 8 = nI dy) (h : ∀ S', FrR S S' → RM (rfT tw p q w dy) S' → Q (some (.int (rfT tw p q w dy (42 + (6 * p + q))))) n K S' G P) : Ok l L xs T1 (D + 1) jX12_refuses 0 [.ref 120, .int (nI p), .int (nI q), .int (nI w)] n K S G P Q := by
  refine I_X12_refuses (by decide) (fun At go => ?_)
  have x36 : ixB (nI (6 * p + q)) 36 = true := ixB_nI (by omega) (by decide)
  have x36' : ixB (nI (6 * q + p)) 36 = true := ixB_nI (by omega) (by decide)
  have xp : ixB (nI p) 6 = true := ixB_nI (by omega) (by decide)
  have xq : ixB (nI q) 6 = true := ixB_nI (by omega) (by decide)
  have ei : (nI (6 * p + q)).toNatClampNeg = 6 * p + q := nI_clamp (by omega)
  have ej : (nI (6 * q + p)).toNatClampNeg = 6 * q + p := nI_clamp (by omega)
  have ep : (nI p).toNatClampNeg = p := nI_clamp (by omega)
  have eq : (nI q).toNatClampNeg = q := nI_clamp (by omega)
  have a181 : ∀ S', FrR S S' → RM (rfT tw p q w dy) S' → At 181 [.ref 120, .int (nI p), .int (nI q), .int (nI w), .int (nI (6 * p + q)), .int (nI (6 * q + p))] [] n K S' G P 0 := by
    intro S' hF hT
    have hQ := h S' hF hT
    rw [← RM_ta hT _ (by omega)] at hQ
    have hQ2 : Q (some (.int (S' 125 (nI (6 * p + q)).toNatClampNeg))) n K S' G P := by rw [ei]; exact hQ
    refine go [] 60 _ _ _ _ _ _ _ _ _ ?_
    refine ite_t x36 ?_
    exact hQ2
  have a123 : ∀ S', FrR S S' → RM (hT2 (hT1 tw (6 * p + q) w dy) p q) S' → At 123 [.ref 120, .int (nI p), .int (nI q), .int (nI w), .int (nI (6 * p + q)), .int (nI (6 * q + p))] [] n K S' G P 0 := by
    intro S' hF hT
    generalize ht2 : hT2 (hT1 tw (6 * p + q) w dy) p q = t2 at hT
    have er : rfT tw p q w dy = hT3 t2 p q := by unfold rfT; rw [ht2]
    have r1 : S' 125 (nI (6 * p + q)).toNatClampNeg = t2 (42 + (6 * p + q)) := by rw [ei]; exact RM_ta hT _ (by omega)
    have r2 : S' 125 (nI (6 * q + p)).toNatClampNeg = t2 (42 + (6 * q + p)) := by rw [ej]; exact RM_ta hT _ (by omega)
    have r3 : S' 123 (nI p).toNatClampNeg = t2 (12 + p) := by rw [ep]; exact RM_wed hT _ (by omega)
    have r4 : S' 123 (nI q).toNatClampNeg = t2 (12 + q) := by rw [eq]; exact RM_wed hT _ (by omega)
    have no : ¬ (t2 (42 + (6 * p + q)) = 2 ∧ t2 (42 + (6 * q + p)) = 2 ∧ t2 (12 + p) = -5 ∧ t2 (12 + q) = -5) → At 181 [.ref 120, .int (nI p), .int (nI q), .int (nI w), .int (nI (6 * p + q)), .int (nI (6 * q + p))] [] n K S' G P 0 := by
      intro z
      refine a181 S' hF ?_
      rw [er]
      unfold hT3
      rw [if_neg z]
      exact hT
    have yes : (t2 (42 + (6 * p + q)) = 2 ∧ t2 (42 + (6 * q + p)) = 2 ∧ t2 (12 + p) = -5 ∧ t2 (12 + q) = -5) → At 181 [.ref 120, .int (nI p), .int (nI q), .int (nI w), .int (nI (6 * p + q)), .int (nI (6 * q + p))] [] n K (up2 (up2 S' 123 (nI p).toNatClampNeg (nI q)) 123 (nI q).toNatClampNeg (nI p)) G P 0 := by
      intro z
      refine a181 _ (FrR_up (by decide) (FrR_up (by decide) hF)) ?_
      rw [er, ep, eq]
      unfold hT3
      rw [if_pos z]
      exact RM_wed' _ (by omega) (RM_wed' _ (by omega) hT)
    refine go [181] 60 _ _ _ _ _ _ _ _ _ ?_
    refine ite_t x36 ?_
    refine ite_i (fun c1 => ?_) (fun c1 => no (fun z => c1 (r1.trans z.1)))
    refine ite_t x36' ?_
    refine ite_i (fun c2 => ?_) (fun c2 => no (fun z => c2 (r2.trans z.2.1)))
    refine ite_t xp ?_
    refine ite_i (fun c3 => ?_) (fun c3 => no (fun z => c3 (r3.trans z.2.2.1)))
    refine ite_t xq ?_
    refine ite_i (fun c4 => ?_) (fun c4 => no (fun z => c4 (r4.trans z.2.2.2)))
    refine ite_t xp ?_
    refine ite_t xq ?_
    exact yes ⟨r1.symm.trans c1, r2.symm.trans c2, r3.symm.trans c3, r4.symm.trans c4⟩
  have a40 : ∀ S1, FrR S S1 → RM (hT1 tw (6 * p + q) w dy) S1 → At 40 [.ref 120, .int (nI p), .int (nI q), .int (nI w), .int (nI (6 * p + q)), .int (nI (6 * q + p))] [] n K S1 G P 0 := by
    intro S1 hF1 hU1
    generalize hT1 tw (6 * p + q) w dy = t1 at hU1 a123
    have r1 : S1 125 (nI (6 * p + q)).toNatClampNeg = t1 (42 + (6 * p + q)) := by rw [ei]; exact RM_ta hU1 _ (by omega)
    have yes : t1 (42 + (6 * p + q)) < 2 → At 123 [.ref 120, .int (nI p), .int (nI q), .int (nI w), .int (nI (6 * p + q)), .int (nI (6 * q + p))] [] n K (up2 S1 125 (nI (6 * p + q)).toNatClampNeg (S1 125 (nI (6 * p + q)).toNatClampNeg + 1)) G P 0 := by
      intro z
      refine a123 _ (FrR_up (by decide) hF1) ?_
      rw [r1, ei]
      unfold hT2
      rw [if_pos z]
      exact RM_ta' _ (by omega) hU1
    have a65 : ¬ t1 (42 + (6 * p + q)) < 2 → At 65 [.ref 120, .int (nI p), .int (nI q), .int (nI w), .int (nI (6 * p + q)), .int (nI (6 * q + p))] [] n K S1 G P 0 := by
      intro z
      have hT2' : RM (fgT t1 (6 * p + q) (6 * q + p)) (up2 (up2 (up2 (up2 S1 125 (6 * p + q) 0) 125 (6 * q + p) 0) 126 (6 * p + q) 0) 126 (6 * q + p) 0) := RM_us' _ (by omega) (RM_us' _ (by omega) (RM_ta' _ (by omega) (RM_ta' _ (by omega) hU1)))
      have hF2 : FrR S (up2 (up2 (up2 (up2 S1 125 (6 * p + q) 0) 125 (6 * q + p) 0) 126 (6 * p + q) 0) 126 (6 * q + p) 0) := FrR_up (by decide) (FrR_up (by decide) (FrR_up (by decide) (FrR_up (by decide) hF1)))
      have e2 : hT2 t1 p q = ptT (fgT t1 (6 * p + q) (6 * q + p)) p q := if_neg z
      rw [← ei, ← ej] at hT2' hF2
      have rw1 := RM_wed hT2' p (by omega)
      rw [ei, ej] at rw1
      have n1 : up2 (up2 (up2 (up2 S1 125 (nI (6 * p + q)).toNatClampNeg 0) 125 (nI (6 * q + p)).toNatClampNeg 0) 126 (nI (6 * p + q)).toNatClampNeg 0) 126 (nI (6 * q + p)).toNatClampNeg 0 123 (nI p).toNatClampNeg = fgT t1 (6 * p + q) (6 * q + p) (12 + p) := by rw [ep, ei, ej]; exact rw1
      rw [show fgT t1 (nI (6 * p + q)).toNatClampNeg (nI (6 * q + p)).toNatClampNeg = fgT t1 (6 * p + q) (6 * q + p) by rw [ei, ej]] at hT2'
      refine go [123] 60 _ _ _ _ _ _ _ _ _ ?_
      refine ite_t x36 ?_
      refine ite_t x36' ?_
      refine ite_t x36 ?_
      refine ite_t x36' ?_
      refine ite_t xp ?_
      refine ite_i (fun c => ?_) (fun c => ?_)
      · have c' := n1.symm.trans c
        have fin := a123 (up2 (up2 (up2 (up2 (up2 (up2 S1 125 (nI (6 * p + q)).toNatClampNeg 0) 125 (nI (6 * q + p)).toNatClampNeg 0) 126 (nI (6 * p + q)).toNatClampNeg 0) 126 (nI (6 * q + p)).toNatClampNeg 0) 123 p (-5)) 123 q (-5)) (FrR_up (by decide) (FrR_up (by decide) hF2)) (by
          rw [e2]
          unfold ptT
          rw [if_pos c']
          exact RM_wed' _ (by omega) (RM_wed' _ (by omega) hT2'))
        have fin2 : At 123 [.ref 120, .int (nI p), .int (nI q), .int (nI w), .int (nI (6 * p + q)), .int (nI (6 * q + p))] [] n K (up2 (up2 (up2 (up2 (up2 (up2 S1 125 (nI (6 * p + q)).toNatClampNeg 0) 125 (nI (6 * q + p)).toNatClampNeg 0) 126 (nI (6 * p + q)).toNatClampNeg 0) 126 (nI (6 * q + p)).toNatClampNeg 0) 123 (nI p).toNatClampNeg (-5)) 123 (nI q).toNatClampNeg (-5)) G P 0 := by
          rw [ep, eq]
          exact fin
        refine ite_t xp ?_
        refine ite_t xq ?_
        exact fin2
      · refine a123 _ hF2 ?_
        rw [e2]
        unfold ptT
        rw [if_neg (fun y => c (n1.trans y))]
        exact hT2'
    refine go [65, 123] 60 _ _ _ _ _ _ _ _ _ ?_
    refine ite_t x36 ?_
    refine ite_i (fun c => ?_) (fun c => ?_)
    · refine a65 (fun z => ?_)
      rw [← r1, lt_i, t_2] at z
      rw [le_i, t_2] at c
      omega
    · refine ite_t x36 ?_
      refine ite_t x36 ?_
      refine yes ?_
      rw [← r1, lt_i, t_2]
      rw [le_i, t_2] at c
      omega
  have a16 : ∀ vi vj, vi = nI (6 * p + q) → vj = nI (6 * q + p) → At 16 [.ref 120, .int (nI p), .int (nI q), .int (nI w), .int vi, .int vj] [] n K S G P 0 := by
    intro vi vj e1 e2
    subst e1
    subst e2
    have fin := a40 (up2 (up2 S 126 (6 * p + q) (S 126 (6 * p + q) ||| ((1 : Int32) <<< (nI w &&& 31)))) 127 (6 * p + q) (S 120 8)) (FrR_up (by decide) (FrR_up (by decide) (FrR_fm (Fm.rf S)))) (by
      rw [hday, RM_us hR _ (by omega)]
      exact RM_la' _ (by omega) (RM_us' _ (by omega) hR))
    have fin2 : At 40 [.ref 120, .int (nI p), .int (nI q), .int (nI w), .int (nI (6 * p + q)), .int (nI (6 * q + p))] [] n K (up2 (up2 S 126 (nI (6 * p + q)).toNatClampNeg (S 126 (nI (6 * p + q)).toNatClampNeg ||| ((1 : Int32) <<< (nI w &&& 31)))) 127 (nI (6 * p + q)).toNatClampNeg (S 120 8)) G P 0 := by
      rw [ei]
      exact fin
    refine go [40] 60 _ _ _ _ _ _ _ _ _ ?_
    refine ite_t x36 ?_
    refine ite_t x36 ?_
    refine ite_t x36 ?_
    exact fin2
  refine go [16] 60 _ _ _ _ _ _ _ _ _ ?_
  exact a16 _ _ ix6m ix6m
theorem rfT_ne {k : Nat} (hp : p < 6) (hq : q < 6) (hk : k < 12 ∨ (18 ≤ k ∧ k < 42) ∨ 150 ≤ k) : rfT tw p q w dy k = tw k := by
  have e1 : hT1 tw (6 * p + q) w dy k = tw k := by
    unfold hT1
    rw [va_up_ne _ _ (by omega), va_up_ne _ _ (by omega)]
  have e2 : hT2 (hT1 tw (6 * p + q) w dy) p q k = tw k := by
    unfold hT2
    split
    · rw [va_up_ne _ _ (by omega)]
      exact e1
    · unfold ptT
      have e3 : fgT (hT1 tw (6 * p + q) w dy) (6 * p + q) (6 * q + p) k = tw k := by
        unfold fgT
        rw [va_up_ne _ _ (by omega), va_up_ne _ _ (by omega), va_up_ne _ _ (by omega), va_up_ne _ _ (by omega)]
        exact e1
      split
      · rw [va_up_ne _ _ (by omega), va_up_ne _ _ (by omega)]
        exact e3
      · exact e3
  unfold rfT hT3
  split
  · rw [va_up_ne _ _ (by omega), va_up_ne _ _ (by omega)]
    exact e2
  · exact e2
theorem rfT_la (hp : p < 6) (hq : q < 6) {i : Nat} (hi : i < 36) : rfT tw p q w dy (114 + i) = if i = 6 * p + q then nI dy else tw (114 + i) := by
  have e1 : hT1 tw (6 * p + q) w dy (114 + i) = if i = 6 * p + q then nI dy else tw (114 + i) := by
    unfold hT1
    by_cases c : i = 6 * p + q
    · rw [if_pos c, c, va_up_self]
    · rw [if_neg c, va_up_ne _ _ (by omega), va_up_ne _ _ (by omega)]
  have e2 : hT2 (hT1 tw (6 * p + q) w dy) p q (114 + i) = if i = 6 * p + q then nI dy else tw (114 + i) := by
    unfold hT2
    split
    · rw [va_up_ne _ _ (by omega)]
      exact e1
    · unfold ptT
      have e3 : fgT (hT1 tw (6 * p + q) w dy) (6 * p + q) (6 * q + p) (114 + i) = if i = 6 * p + q then nI dy else tw (114 + i) := by
        unfold fgT
        rw [va_up_ne _ _ (by omega), va_up_ne _ _ (by omega), va_up_ne _ _ (by omega), va_up_ne _ _ (by omega)]
        exact e1
      split
      · rw [va_up_ne _ _ (by omega), va_up_ne _ _ (by omega)]
        exact e3
      · exact e3
  unfold rfT hT3
  split
  · rw [va_up_ne _ _ (by omega), va_up_ne _ _ (by omega)]
    exact e2
  · exact e2
theorem rfT_ta (hp : p < 6) (hq : q < 6) (h : ∀ i, i < 36 → ∃ t, t < 3 ∧ tw (42 + i) = nI t) : ∀ i, i < 36 → ∃ t, t < 3 ∧ rfT tw p q w dy (42 + i) = nI t := by
  have s1 : ∀ i, i < 36 → ∃ t, t < 3 ∧ hT1 tw (6 * p + q) w dy (42 + i) = nI t := by
    intro i hi
    unfold hT1
    rw [va_up_ne _ _ (by omega), va_up_ne _ _ (by omega)]
    exact h i hi
  have s2 : ∀ i, i < 36 → ∃ t, t < 3 ∧ hT2 (hT1 tw (6 * p + q) w dy) p q (42 + i) = nI t := by
    generalize hT1 tw (6 * p + q) w dy = t1 at s1
    intro i hi
    unfold hT2
    split
    · next c =>
      by_cases e : i = 6 * p + q
      · subst e
        rw [va_up_self]
        obtain ⟨t, ht, et⟩ := s1 (6 * p + q) hi
        rw [et, lt_i, nI_toInt (by omega), t_2] at c
        exact ⟨t + 1, by omega, by rw [et, nI_1]⟩
      · rw [va_up_ne _ _ (by omega)]
        exact s1 i hi
    · have s3 : ∃ t, t < 3 ∧ fgT t1 (6 * p + q) (6 * q + p) (42 + i) = nI t := by
        unfold fgT
        rw [va_up_ne _ _ (by omega), va_up_ne _ _ (by omega)]
        by_cases e : i = 6 * q + p
        · subst e
          exact ⟨0, by decide, va_up_self _ _ _⟩
        · rw [va_up_ne _ _ (by omega)]
          by_cases e : i = 6 * p + q
          · subst e
            exact ⟨0, by decide, va_up_self _ _ _⟩
          · rw [va_up_ne _ _ (by omega)]
            exact s1 i hi
      unfold ptT
      split
      · rw [va_up_ne _ _ (by omega), va_up_ne _ _ (by omega)]
        exact s3
      · exact s3
  intro i hi
  unfold rfT hT3
  split
  · rw [va_up_ne _ _ (by omega), va_up_ne _ _ (by omega)]
    exact s2 i hi
  · exact s2 i hi
theorem TwOk_rf (hp : p < np) (hq : q < np) (h : TwOk tw np dy ns) : TwOk (rfT tw p q w dy) np dy ns := by
  have np6 := h.1.2
  have e : ∀ k, (k < 12 ∨ (18 ≤ k ∧ k < 42) ∨ 150 ≤ k) → rfT tw p q w dy k = tw k := fun k hk => rfT_ne (by omega) (by omega) hk
  obtain ⟨h1, h2, h3, h4, h5, h6, h7, h8, h9⟩ := h
  refine ⟨⟨(e _ (by omega)).trans h1.1, h1.2⟩, ⟨(e _ (by omega)).trans h2.1, h2.2⟩, ?_, fun r hr => ?_, fun i hi => ?_, rfT_ta (by omega) (by omega) h6, Said_ne h7 (fun k hk => e k (by omega)), Plan_ne h8 (fun k hk => e k (by omega)), Book_ne h9 (fun k hk => e k (by omega))⟩
  · rw [e _ (by omega)]; exact h3
  · rw [e _ (by omega), e _ (by omega)]; exact h4 r hr
  · rw [rfT_la (by omega) (by omega) hi]
    split
    · rw [nI_toInt (by have := h2.2; omega)]
      exact Int.le_refl _
    · exact h5 i hi
end A
end

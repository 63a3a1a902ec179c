noncomputable section
/-! A NO THAT COUNTS. -/
def hT1 (tw : Nat → Int32) (i w dy : Nat) : Nat → Int32 := va_up (va_up tw (78 + i) (tw (78 + i) ||| ((1 : Int32) <<< (nI w &&& 31)))) (114 + i) (nI dy)
def fgT (tw : Nat → Int32) (i j : Nat) : Nat → Int32 := va_up (va_up (va_up (va_up tw (42 + i) 0) (42 + j) 0) (78 + i) 0) (78 + j) 0
def ptT (tw : Nat → Int32) (p q : Nat) : Nat → Int32 := if tw (12 + p) = nI q then va_up (va_up tw (12 + p) (-5)) (12 + q) (-5) else tw
def hT2 (tw : Nat → Int32) (p q : Nat) : Nat → Int32 := if tw (42 + (6 * p + q)) < 2 then va_up tw (42 + (6 * p + q)) (tw (42 + (6 * p + q)) + 1) else ptT (fgT tw (6 * p + q) (6 * q + p)) p q
def hT3 (tw : Nat → Int32) (p q : Nat) : Nat → Int32 := if tw (42 + (6 * p + q)) = 2 ∧ tw (42 + (6 * q + p)) = 2 ∧ tw (12 + p) = -5 ∧ tw (12 + q) = -5 then va_up (va_up tw (12 + p) (nI q)) (12 + q) (nI p) else tw
def rfT (tw : Nat → Int32) (p q w dy : Nat) : Nat → Int32 := hT3 (hT2 (hT1 tw (6 * p + q) w dy) p q) p q
def FrA (a : Nat) (S S' : Mi) : Prop := ∀ b j, (b < a ∨ a + 11 < b) → scr b = false → S' b j = S b j
def FrR (S S' : Mi) : Prop := ∀ b j, b ≠ 123 → b ≠ 125 → b ≠ 126 → b ≠ 127 → b ≠ 135 → S' b j = S b j
section A
variable {l : Launch} {L : Nat} {xs : Nat → Int32} {D : Nat} {n : Nat} {K : Mk} {S : Mi} {G : Ml} {P : Mr} {Q : QT} {a : Nat} {sd : Nat → Int32 × ((Nat → Int32) → Bool)} {tw : Nat → Int32} {np dy ns p q w : Nat}
set_option maxRecDepth 20000
theorem TC_ua {k c i : Nat} (x : Int32) (ha : a ≤ 100) (h6 : np ≤ 6) (hk : kc k) (hp : k < 175 ∨ 195 ≤ k) (hl : cl k = (c, i)) (hc : c < 10) (h : TC a tw np n K S P) : TC a (va_up tw k x) np n K (up2 S (a + c) i x) P := by
  obtain ⟨h1, h2, h3⟩ := h
  have k12 := hk.1
  have k224 := hk.2.1
  refine ⟨RC_up x hk hp hl h1, fun p hp => ?_, ?_⟩
  · rw [va_up_ne _ _ (by omega), va_up_ne _ _ (by omega)]
    exact Psn_f2 (fun b j hb => up2_o _ _ (by omega)) (h2 p hp)
  · rw [va_up_ne _ _ (by omega)]
    exact h3
theorem TC_ta {i : Nat} (x : Int32) (ha : a ≤ 100) (h6 : np ≤ 6) (hi : i < 36) (h : TC a tw np n K S P) : TC a (va_up tw (42 + i) x) np n K (up2 S (a + 4) i x) P := TC_ua x ha h6 ⟨by omega, by omega, by omega⟩ (by omega) (cl_ta i hi) (by decide) h
theorem TC_us {i : Nat} (x : Int32) (ha : a ≤ 100) (h6 : np ≤ 6) (hi : i < 36) (h : TC a tw np n K S P) : TC a (va_up tw (78 + i) x) np n K (up2 S (a + 5) i x) P := TC_ua x ha h6 ⟨by omega, by omega, by omega⟩ (by omega) (cl_us i hi) (by decide) h
theorem TC_la {i : Nat} (x : Int32) (ha : a ≤ 100) (h6 : np ≤ 6) (hi : i < 36) (h : TC a tw np n K S P) : TC a (va_up tw (114 + i) x) np n K (up2 S (a + 6) i x) P := TC_ua x ha h6 ⟨by omega, by omega, by omega⟩ (by omega) (cl_la i hi) (by decide) h
theorem TC_wed {i : Nat} (x : Int32) (ha : a ≤ 100) (h6 : np ≤ 6) (hi : i < 6) (h : TC a tw np n K S P) : TC a (va_up tw (12 + i) x) np n K (up2 S (a + 2) i x) P := TC_ua x ha h6 ⟨by omega, by omega, by omega⟩ (by omega) (cl_wed i hi) (by decide) h
theorem FrA_up {S' : Mi} {c i : Nat} {x : Int32} (hc : c ≤ 11) (h : FrA a S S') : FrA a S (up2 S' (a + c) i x) := fun b j hb hs => by rw [up2_o _ _ (by omega)]; exact h b j hb hs
theorem m_forget (ha : TA a) (hp : p < 6) (hq : q < 6) (h : Q none n K (up2 (up2 (up2 (up2 S (a + 4) (6 * p + q) 0) (a + 4) (6 * q + p) 0) (a + 5) (6 * p + q) 0) (a + 5) (6 * q + p) 0) G P) : Ok l L xs T1 (D + 2) jX9_forget 0 [.ref a, .int (nI p), .int (nI q)] n K S G P Q := by
  refine I_X9_forget (by decide) (fun At go => ?_)
  have x1 : ixB (nI (6 * p + q)) 36 = true := ixB_nI (by omega) (by decide)
  have x2 : ixB (nI (6 * q + p)) 36 = true := ixB_nI (by omega) (by decide)
  have e1 : (nI (6 * p + q)).toNatClampNeg = 6 * p + q := nI_clamp (by omega)
  have e2 : (nI (6 * q + p)).toNatClampNeg = 6 * q + p := nI_clamp (by omega)
  rw [← e1, ← e2] at h
  rcases ha with rfl | rfl | rfl <;> (
  refine go [] 60 _ _ _ _ _ _ _ _ _ ?_
  refine m_pairN ?_
  refine ite_t x1 ?_
  refine m_pairN ?_
  refine ite_t x2 ?_
  refine m_pairN ?_
  refine ite_t x1 ?_
  refine m_pairN ?_
  refine ite_t x2 ?_
  exact h)
theorem m_part (ha : TA a) (hp : p < 6) (hq : q < 6) (h1 : S (a + 2) p = nI q → Q none n K (up2 (up2 S (a + 2) p (-5)) (a + 2) q (-5)) G P) (h0 : ¬ S (a + 2) p = nI q → Q none n K S G P) : Ok l L xs T1 (D + 1) jX9_part 0 [.ref a, .int (nI p), .int (nI q)] n K S G P Q := by
  refine I_X9_part (by decide) (fun At go => ?_)
  have x1 : ixB (nI p) 6 = true := ixB_nI hp (by decide)
  have x2 : ixB (nI q) 6 = true := ixB_nI hq (by decide)
  have e1 : (nI p).toNatClampNeg = p := nI_clamp (by omega)
  have e2 : (nI q).toNatClampNeg = q := nI_clamp (by omega)
  rw [← e1, ← e2] at h1
  rw [← e1] at h0
  have e3 : nI (nI q).toNatClampNeg = nI q := by rw [e2]
  have e4 : nI (nI p).toNatClampNeg = nI p := by rw [e1]
  rw [e3] at h1
  rcases ha with rfl | rfl | rfl <;> (
  refine go [] 60 _ _ _ _ _ _ _ _ _ ?_
  refine ite_t x1 ?_
  refine ite_i (fun c => ?_) (fun c => ?_)
  · refine ite_t x1 ?_
    refine ite_t x2 ?_
    exact h1 c
  · exact h0 c)
theorem c_hears (hs : CT1 a n K S P sd tw np dy ns) (hp : p < np) (hq : q < np) (hw : w < 4) (h1 : cnW sd tw p q (tw (6 + p)) dy w = true → ∀ S', FrA a S S' → TC a (rfT tw p q w dy) np n K S' P → Q (some (.int (rfT tw p q w dy (42 + (6 * p + q))))) n K S' G P) (h0 : ¬ cnW sd tw p q (tw (6 + p)) dy w = true → ∀ S', Fc S S' → Q (some (.int (-5))) n K S' G P) : Ok l L xs T1 (D + 6) jX9_hearsNo 0 [.ref a, .int (nI p), .int (nI q), .int (nI w)] n K S G P Q := by
  refine I_X9_hearsNo (by decide) (fun At go => ?_)
  have np6 := hs.2.2.2.2.1.2
  have hda := hs.2.2.2.2.2.1
  have hta := hs.1
  have a100 : a ≤ 100 := by rcases hta with rfl | rfl | rfl <;> decide
  obtain ⟨w1, k, g1, g2, g3, g4, g5, g6, g7, g8⟩ := hs.2.1.2.1 p hp
  have hpp : P (a + 1) (nI p).toNatClampNeg = some w1 := by rw [nI_clamp (by omega)]; exact g1
  have hday : S a 7 = nI dy := (RC_dy hs.2.1.1).trans hda.1
  have x36 : ixB (nI (6 * p + q)) 36 = true := ixB_nI (by omega) (by decide)
  have x36' : ixB (nI (6 * q + p)) 36 = true := ixB_nI (by omega) (by decide)
  have xp : ixB (nI p) 6 = true := ixB_nI (by omega) (by decide)
  have xq : ixB (nI q) 6 = true := ixB_nI (by omega) (by decide)
  have ei : (nI (6 * p + q)).toNatClampNeg = 6 * p + q := nI_clamp (by omega)
  have ej : (nI (6 * q + p)).toNatClampNeg = 6 * q + p := nI_clamp (by omega)
  have ep : (nI p).toNatClampNeg = p := nI_clamp (by omega)
  have eq : (nI q).toNatClampNeg = q := nI_clamp (by omega)
  have a158 : cnW sd tw p q (tw (6 + p)) dy w = true → ∀ S', FrA a S S' → TC a (rfT tw p q w dy) np n K S' P → At 158 [.ref a, .int (nI p), .int (nI q), .int (nI w), .int (nI (6 * p + q))] [] n K S' G P 0 := by
    intro hc S' hF hT
    have hQ := h1 hc S' hF hT
    rw [← RC_ta hT.1 _ (by omega), ← ei] at hQ
    have e3 : nI (nI (6 * p + q)).toNatClampNeg = nI (6 * p + q) := by rw [ei]
    rcases hta with rfl | rfl | rfl <;> (
    refine go [29] 60 _ _ _ _ _ _ _ _ _ ?_
    refine ite_t x36 ?_
    exact hQ)
  have a97 : cnW sd tw p q (tw (6 + p)) dy w = true → ∀ S', FrA a S S' → TC a (hT2 (hT1 tw (6 * p + q) w dy) p q) np n K S' P → At 97 [.ref a, .int (nI p), .int (nI q), .int (nI w), .int (nI (6 * p + q))] [] n K S' G P 0 := by
    intro hc S' hF hT
    generalize ht2 : hT2 (hT1 tw (6 * p + q) w dy) p q = t2 at hT
    have er : rfT tw p q w dy = hT3 t2 p q := by unfold rfT; rw [ht2]
    have r1 : S' (a + 4) (nI (6 * p + q)).toNatClampNeg = t2 (42 + (6 * p + q)) := by rw [ei]; exact RC_ta hT.1 _ (by omega)
    have r2 : S' (a + 4) (nI (6 * q + p)).toNatClampNeg = t2 (42 + (6 * q + p)) := by rw [ej]; exact RC_ta hT.1 _ (by omega)
    have r3 : S' (a + 2) (nI p).toNatClampNeg = t2 (12 + p) := by rw [ep]; exact RC_wed hT.1 _ (by omega)
    have r4 : S' (a + 2) (nI q).toNatClampNeg = t2 (12 + q) := by rw [eq]; exact RC_wed hT.1 _ (by omega)
    have no : ¬ (t2 (42 + (6 * p + q)) = 2 ∧ t2 (42 + (6 * q + p)) = 2 ∧ t2 (12 + p) = -5 ∧ t2 (12 + q) = -5) → At 158 [.ref a, .int (nI p), .int (nI q), .int (nI w), .int (nI (6 * p + q))] [] n K S' G P 0 := by
      intro z
      refine a158 hc S' hF ?_
      rw [er]
      unfold hT3
      rw [if_neg z]
      exact hT
    have yes : (t2 (42 + (6 * p + q)) = 2 ∧ t2 (42 + (6 * q + p)) = 2 ∧ t2 (12 + p) = -5 ∧ t2 (12 + q) = -5) → At 158 [.ref a, .int (nI p), .int (nI q), .int (nI w), .int (nI (6 * p + q))] [] n K (up2 (up2 S' (a + 2) (nI p).toNatClampNeg (nI q)) (a + 2) (nI q).toNatClampNeg (nI p)) G P 0 := by
      intro z
      refine a158 hc _ (FrA_up (by decide) (FrA_up (by decide) hF)) ?_
      rw [er, ep, eq]
      unfold hT3
      rw [if_pos z]
      exact TC_wed _ a100 np6 (by omega) (TC_wed _ a100 np6 (by omega) hT)
    rcases hta with rfl | rfl | rfl <;> (
    refine go [29, 158] 60 _ _ _ _ _ _ _ _ _ ?_
    refine ite_t x36 ?_
    refine ite_i (fun c1 => ?_) (fun c1 => no (fun z => c1 (r1.trans z.1)))
    refine m_pairN ?_
    refine ite_t x36' ?_
    refine ite_i (fun c2 => ?_) (fun c2 => no (fun z => c2 (r2.trans z.2.1)))
    refine ite_t xp ?_
    refine ite_i (fun c3 => ?_) (fun c3 => no (fun z => c3 (r3.trans z.2.2.1)))
    refine ite_t xq ?_
    refine ite_i (fun c4 => ?_) (fun c4 => no (fun z => c4 (r4.trans z.2.2.2)))
    refine ite_t xp ?_
    refine ite_t xq ?_
    exact yes ⟨r1.symm.trans c1, r2.symm.trans c2, r3.symm.trans c3, r4.symm.trans c4⟩)
  have a36 : cnW sd tw p q (tw (6 + p)) dy w = true → ∀ S', Fc S S' → At 36 [.ref a, .int (nI p), .int (nI q), .int (nI w), .int (nI (6 * p + q))] [] n K S' G P 0 := by
    intro hc S' hS
    have hs' := CT1_fc hS hs
    have hT0 := hs'.2.1
    have hday' : S' a 7 = nI dy := (RC_dy hT0.1).trans hda.1
    have hF0 : FrA a S S' := fun b j _ hb => hS b j hb
    have hU1 : TC a (hT1 tw (6 * p + q) w dy) np n K (up2 (up2 S' (a + 5) (6 * p + q) (S' (a + 5) (6 * p + q) ||| ((1 : Int32) <<< (nI w &&& 31)))) (a + 6) (6 * p + q) (S' a 7)) P := by
      rw [hday', RC_us hT0.1 _ (by omega)]
      exact TC_la _ a100 np6 (by omega) (TC_us _ a100 np6 (by omega) hT0)
    have hF1 : FrA a S (up2 (up2 S' (a + 5) (6 * p + q) (S' (a + 5) (6 * p + q) ||| ((1 : Int32) <<< (nI w &&& 31)))) (a + 6) (6 * p + q) (S' a 7)) := FrA_up (by decide) (FrA_up (by decide) hF0)
    have a60 : ∀ S1, S1 = (up2 (up2 S' (a + 5) (6 * p + q) (S' (a + 5) (6 * p + q) ||| ((1 : Int32) <<< (nI w &&& 31)))) (a + 6) (6 * p + q) (S' a 7)) → At 60 [.ref a, .int (nI p), .int (nI q), .int (nI w), .int (nI (6 * p + q))] [] n K S1 G P 0 := by
      intro S1 eS1
      rw [← eS1] at hU1 hF1
      have r1 : S1 (a + 4) (nI (6 * p + q)).toNatClampNeg = hT1 tw (6 * p + q) w dy (42 + (6 * p + q)) := by rw [ei]; exact RC_ta hU1.1 _ (by omega)
      have yes : hT1 tw (6 * p + q) w dy (42 + (6 * p + q)) < 2 → At 97 [.ref a, .int (nI p), .int (nI q), .int (nI w), .int (nI (6 * p + q))] [] n K (up2 S1 (a + 4) (nI (6 * p + q)).toNatClampNeg (S1 (a + 4) (nI (6 * p + q)).toNatClampNeg + 1)) G P 0 := by
        intro z
        refine a97 hc _ (FrA_up (by decide) hF1) ?_
        rw [r1, ei]
        unfold hT2
        rw [if_pos z]
        exact TC_ta _ a100 np6 (by omega) hU1
      have a85 : ¬ hT1 tw (6 * p + q) w dy (42 + (6 * p + q)) < 2 → At 85 [.ref a, .int (nI p), .int (nI q), .int (nI w), .int (nI (6 * p + q))] [] n K S1 G P 0 := by
        intro z
        have hT2' : TC a (fgT (hT1 tw (6 * p + q) w dy) (6 * p + q) (6 * q + p)) np n K (up2 (up2 (up2 (up2 S1 (a + 4) (6 * p + q) 0) (a + 4) (6 * q + p) 0) (a + 5) (6 * p + q) 0) (a + 5) (6 * q + p) 0) P := TC_us _ a100 np6 (by omega) (TC_us _ a100 np6 (by omega) (TC_ta _ a100 np6 (by omega) (TC_ta _ a100 np6 (by omega) hU1)))
        have hF2 : FrA a S (up2 (up2 (up2 (up2 S1 (a + 4) (6 * p + q) 0) (a + 4) (6 * q + p) 0) (a + 5) (6 * p + q) 0) (a + 5) (6 * q + p) 0) := FrA_up (by decide) (FrA_up (by decide) (FrA_up (by decide) (FrA_up (by decide) hF1)))
        have e2 : hT2 (hT1 tw (6 * p + q) w dy) p q = ptT (fgT (hT1 tw (6 * p + q) w dy) (6 * p + q) (6 * q + p)) p q := if_neg z
        have fin : ∀ Q', (∀ S2, FrA a S S2 → TC a (hT2 (hT1 tw (6 * p + q) w dy) p q) np n K S2 P → Q' none n K S2 G P) → Ok l L xs T1 (D + 5) jX9_part 0 [.ref a, .int (nI p), .int (nI q)] n K (up2 (up2 (up2 (up2 S1 (a + 4) (6 * p + q) 0) (a + 4) (6 * q + p) 0) (a + 5) (6 * p + q) 0) (a + 5) (6 * q + p) 0) G P Q' := by
          intro Q' hQ'
          refine m_part hta (by omega) (by omega) (fun c => ?_) (fun c => ?_)
          · refine hQ' _ (FrA_up (by decide) (FrA_up (by decide) hF2)) ?_
            rw [e2]
            unfold ptT
            rw [if_pos ((RC_wed hT2'.1 p (by omega)).symm.trans c)]
            exact TC_wed _ a100 np6 (by omega) (TC_wed _ a100 np6 (by omega) hT2')
          · refine hQ' _ hF2 ?_
            rw [e2]
            unfold ptT
            rw [if_neg (fun y => c ((RC_wed hT2'.1 p (by omega)).trans y))]
            exact hT2'
        have hta' := hta
        rcases hta with rfl | rfl | rfl <;> (
        refine go [29, 97, 158] 60 _ _ _ _ _ _ _ _ _ ?_
        refine m_forget (p := p) (q := q) hta' (by omega) (by omega) ?_
        refine fin _ (fun S2 f1 f2 => ?_)
        exact a97 hc S2 f1 f2)
      have key : ∀ v : Int32, v = hT1 tw (6 * p + q) w dy (42 + (6 * p + q)) → (2 ≤ v → ¬ hT1 tw (6 * p + q) w dy (42 + (6 * p + q)) < 2) ∧ (¬ 2 ≤ v → hT1 tw (6 * p + q) w dy (42 + (6 * p + q)) < 2) := by
        intro v ev
        rw [← ev]
        refine ⟨fun h z => ?_, fun h => ?_⟩
        · rw [lt_i] at z
          rw [le_i] at h
          omega
        · rw [le_i] at h
          rw [lt_i]
          omega
      rcases hta with rfl | rfl | rfl <;> (
      refine go [29, 85, 97, 158] 60 _ _ _ _ _ _ _ _ _ ?_
      refine ite_t x36 ?_
      refine ite_i (fun c => ?_) (fun c => ?_)
      · exact a85 ((key _ r1).1 c)
      · refine ite_t x36 ?_
        refine ite_t x36 ?_
        exact yes ((key _ r1).2 c))
    have fin := a60 (up2 (up2 S' (a + 5) (6 * p + q) (S' (a + 5) (6 * p + q) ||| ((1 : Int32) <<< (nI w &&& 31)))) (a + 6) (6 * p + q) (S' a 7)) rfl
    have fin2 : At 60 [.ref a, .int (nI p), .int (nI q), .int (nI w), .int (nI (6 * p + q))] [] n K (up2 (up2 S' (a + 5) (nI (6 * p + q)).toNatClampNeg (S' (a + 5) (nI (6 * p + q)).toNatClampNeg ||| ((1 : Int32) <<< (nI w &&& 31)))) (a + 6) (nI (6 * p + q)).toNatClampNeg (S' a 7)) G P 0 := by
      rw [ei]
      exact fin
    rcases hta with rfl | rfl | rfl <;> (
    refine go [29, 60, 97, 158] 60 _ _ _ _ _ _ _ _ _ ?_
    refine ite_t x36 ?_
    refine ite_t x36 ?_
    refine ite_t x36 ?_
    exact fin2)
  have call : ∀ Q', (∀ S', Fc S S' → Q' (some (.int (bits4 (fun w => cnW sd tw p q (tw (6 + p)) dy w)))) n K S' G P) → Ok l L xs T1 (D + 5) jX9_countingWords 0 [.ref a, .int (nI p), .int (nI q), .int (S w1 2), .int (S a 7)] n K S G P Q' := by
    intro Q' hQ'
    rw [g7, hday]
    exact c_words hs hp hq (hs.2.2.2.2.2.2.2.1 p hp).2 (by omega) hQ'
  have a29 : cnW sd tw p q (tw (6 + p)) dy w = true → ∀ S', Fc S S' → At 29 [.ref a, .int (nI p), .int (nI q), .int (nI w), .retAddr 0] [] n K S' G P 0 := by
    intro hc S' hS
    refine go [36] 60 _ _ _ _ _ _ _ _ _ ?_
    refine m_pairN ?_
    exact a36 hc S' hS
  have hbw := hb_bits4 (fun w => cnW sd tw p q (tw (6 + p)) dy w) hw
  rcases hta with rfl | rfl | rfl <;> (
  refine go [29] 60 _ _ _ _ _ _ _ _ _ ?_
  refine ite_t xp ?_
  refine rf_v hpp ?_
  refine sh_p g4 ?_
  refine kg g2 (by decide) ?_
  refine call _ (fun S' hS => ?_)
  refine m_hasBit (fun c => ?_) (fun c => ?_)
  · exact a29 (hbw.mp c) S' hS
  · exact h0 (fun z => c (hbw.mpr z)) S' hS)
end A
end

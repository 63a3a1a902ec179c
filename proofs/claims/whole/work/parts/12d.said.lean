noncomputable section
/-! SAID: wrong, can. -/
def soB (sd : Nat → Int32 × ((Nat → Int32) → Bool)) (tw : Nat → Int32) (dy i : Nat) (v : Int32) : Bool := cnW sd tw (tw (150 + i)).toNatClampNeg (tw (155 + i)).toNatClampNeg v (dy + (tw (165 + i)).toNatClampNeg) (tw (160 + i)).toNatClampNeg == decide (tw (170 + i) = 1)
def rowOk (tw : Nat → Int32) (np i p q w t : Nat) : Prop := p < np ∧ q < np ∧ w < 4 ∧ t ≤ 20 ∧ tw (150 + i) = nI p ∧ tw (155 + i) = nI q ∧ tw (160 + i) = nI w ∧ tw (165 + i) = nI t
theorem soB_e {sd : Nat → Int32 × ((Nat → Int32) → Bool)} {tw : Nat → Int32} {np dy i p q w t : Nat} {v : Int32} (h6 : np ≤ 6) (h : rowOk tw np i p q w t) : soB sd tw dy i v = (cnW sd tw p q v (dy + t) w == decide (tw (170 + i) = 1)) := by
  obtain ⟨h1, h2, h3, h4, h5, h6, h7, h8⟩ := h
  unfold soB
  rw [h5, h6, h7, h8, nI_clamp (by omega), nI_clamp (by omega), nI_clamp (by omega), nI_clamp (by omega)]
section A
variable {l : Launch} {L : Nat} {xs : Nat → Int32} {D : Nat} {n : Nat} {K : Mk} {S : Mi} {G : Ml} {P : Mr} {Q : QT} {sd : Nat → Int32 × ((Nat → Int32) → Bool)} {tw : Nat → Int32} {np dy ns i p q w t : Nat}
set_option maxRecDepth 20000
theorem m_cw4 {a : Nat} {y1 y1' y2 y2' v v' dd dd' : Int32} (h0 : y1 = y1') (h3 : y2 = y2') (h1 : v = v') (h2 : dd = dd') (h : Ok l L xs T1 D jX9_countingWords 0 [.ref a, .int y1', .int y2', .int v', .int dd'] n K S G P Q) : Ok l L xs T1 D jX9_countingWords 0 [.ref a, .int y1, .int y2, .int v, .int dd] n K S G P Q := by
  subst h0 h1 h2 h3
  exact h
theorem ix5 {i k : Nat} : nI i * 5 + nI k = nI (5 * i + k) := by rw [show (5 : Int32) = nI 5 from rfl, pk_mul, nI_add, Nat.mul_comm]
theorem c_isSo {v : Int32} (hs : CT1 33 n K S P sd tw np dy ns) (hi : i < 5) (hr : rowOk tw np i p q w t) (hv : ∃ j, j < 10 ∧ v = nI j) (h : ∀ S', Fc S S' → Q (some (.int (b2i (soB sd tw dy i v)))) n K S' G P) : Ok l L xs T1 (D + 6) jX9_isSo 0 [.ref 33, .int (nI i), .int v] n K S G P Q := by
  refine I_X9_isSo (by decide) (fun At go => ?_)
  have h6 := hs.2.2.2.2.1.2
  have hdy := hs.2.2.2.2.2.1
  have hR := hs.2.1.1
  rw [soB_e h6 hr] at h
  obtain ⟨g1, g2, g3, g4, g5, g6, g7, g8⟩ := hr
  have hday : S 33 7 = nI dy := (RC_dy hR).trans hdy.1
  have e0 : nI i * 5 = nI (5 * i) := by rw [show (5 : Int32) = nI 5 from rfl, pk_mul, Nat.mul_comm]
  have a3 : ∀ va, va = nI (5 * i) → At 4 [.ref 33, .int (nI i), .int v, .int va, .retAddr 0] [] n K S G P 0 := by
    intro va eva
    subst eva
    have s0 : ∀ S', Fc S S' → ∀ j, j < 5 → S' 40 (nI (5 * i) + nI j).toNatClampNeg = S 40 (5 * i + j) := fun S' hS j hj => by rw [nI_add, nI_clamp (by omega)]; exact hS _ _ rfl
    have x0 : ∀ j, j < 5 → ixB (nI (5 * i) + nI j) 25 = true := fun j hj => by rw [nI_add]; exact ixB_nI (by omega) (by decide)
    have r0 : S 40 (nI (5 * i)).toNatClampNeg = nI p := by rw [nI_clamp (by omega)]; exact (RC_sb hR i hi).trans g5
    have r1 : S 40 (nI (5 * i) + 1).toNatClampNeg = nI q := (s0 S (Fc.rf S) 1 (by decide)).trans ((RC_st hR i hi).trans g6)
    have r3 : S 33 7 + S 40 (nI (5 * i) + 3).toNatClampNeg = nI (dy + t) := by
      rw [hday, show S 40 (nI (5 * i) + 3).toNatClampNeg = nI t from (s0 S (Fc.rf S) 3 (by decide)).trans ((RC_si hR i hi).trans g8), nI_add]
    refine go [51, 67, 68, 75, 76] 60 _ _ _ _ _ _ _ _ _ ?_
    refine ite_t (ixB_nI (by omega) (by decide)) ?_
    refine ite_t (x0 1 (by decide)) ?_
    refine ite_t (x0 3 (by decide)) ?_
    refine m_cw4 r0 r1 rfl r3 ?_
    refine c_words hs g1 g2 hv (by omega) (fun S' hS => ?_)
    have hQ := h S' hS
    refine ite_t (x0 2 (by decide)) ?_
    have r2 : S' 40 (nI (5 * i) + 2).toNatClampNeg = nI w := (s0 S' hS 2 (by decide)).trans ((RC_sw hR i hi).trans g7)
    have r4 : S' 40 (nI (5 * i) + 4).toNatClampNeg = tw (170 + i) := (s0 S' hS 4 (by decide)).trans (RC_ss hR i hi)
    have a76 : ∀ x3 x4 b, b2i (cnW sd tw p q v (dy + t) w == decide (tw (170 + i) = 1)) = b → (b = 0 ∨ b = 1) → At 76 [.ref 33, .int (nI i), .int v, x3, x4] [.int b] n K S' G P 0 := by
      intro x3 x4 b hb hb2
      rw [hb] at hQ
      refine go [4] 60 _ _ _ _ _ _ _ _ _ ?_
      refine ite_t hb2 ?_
      exact hQ
    have a68 : ∀ x3 x4 (c b : Bool), c = cnW sd tw p q v (dy + t) w → b = decide (tw (170 + i) = 1) → At 68 [.ref 33, .int (nI i), .int v, x3, x4] [.int (b2i b), .int (b2i c)] n K S' G P 0 := by
      intro x3 x4 c b hc hb
      have a75 : ¬ b2i c = b2i b → At 75 [.ref 33, .int (nI i), .int v, x3, x4] [] n K S' G P 0 := by
        intro hne
        refine go [67, 68, 76] 60 _ _ _ _ _ _ _ _ _ ?_
        refine a76 _ _ _ ?_ (.inl rfl)
        rw [← hc, ← hb]
        cases c <;> cases b <;> first | rfl | exact absurd rfl hne
      refine go [67, 75, 76] 60 _ _ _ _ _ _ _ _ _ ?_
      refine ite_i (fun e => ?_) (fun e => a75 e)
      refine a76 _ _ _ ?_ (.inr rfl)
      rw [← hc, ← hb]
      cases c <;> cases b <;> first | rfl | exact absurd e (by decide)
    have rest : ∀ c : Bool, c = cnW sd tw p q v (dy + t) w → ∀ x4, At 51 [.ref 33, .int (nI i), .int v, .int (nI (5 * i)), x4] [.int (b2i c)] n K S' G P 0 := by
      intro c hc x4
      have a67 : ¬ tw (170 + i) = 1 → At 67 [.ref 33, .int (nI i), .int v, .int (nI (5 * i)), x4] [.int (b2i c)] n K S' G P 0 := by
        intro z
        refine go [68, 75, 76] 60 _ _ _ _ _ _ _ _ _ ?_
        exact a68 _ _ c false hc (decide_eq_false z).symm
      refine go [67, 68, 75, 76] 60 _ _ _ _ _ _ _ _ _ ?_
      refine ite_t (x0 4 (by decide)) ?_
      refine ite_i (fun e => ?_) (fun e => ?_)
      · exact a68 _ _ c true hc (decide_eq_true (r4.symm.trans e)).symm
      · exact a67 (fun z => e (r4.trans z))
    refine m_hasBit (fun c => ?_) (fun c => ?_)
    · have c' : hb (bits4 (fun w => cnW sd tw p q v (dy + t) w)) (S' 40 (nI (5 * i) + 2).toNatClampNeg) := c
      rw [r2, hb_bits4 _ g3] at c'
      exact rest true c'.symm _
    · have c' : ¬ hb (bits4 (fun w => cnW sd tw p q v (dy + t) w)) (S' 40 (nI (5 * i) + 2).toNatClampNeg) := c
      rw [r2, hb_bits4 _ g3, Bool.not_eq_true] at c'
      exact rest false c'.symm _
  refine go [4] 60 _ _ _ _ _ _ _ _ _ ?_
  exact a3 _ e0
end A
end

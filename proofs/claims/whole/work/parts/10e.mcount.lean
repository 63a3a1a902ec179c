noncomputable section
/-! WHAT COUNTS: the model. -/
def HM (S : Mi) (hl bg : Int32) (hf : (Nat → Int32) → Bool) : Prop := (hl = -1 ∧ bg = 0 ∧ ∀ v, hf v = true) ∨ ∃ k, k < 6 ∧ hl = nI k ∧ SM k S bg hf
def HC (S : Mi) (r : Option Nat) (bg : Int32) (hf : (Nat → Int32) → Bool) : Prop := (r = none ∧ bg = 0 ∧ ∀ v, hf v = true) ∨ ∃ k, k < 6 ∧ r = some (84 + 6 * k) ∧ SC (84 + 6 * k) S bg hf
def Fm (S S' : Mi) : Prop := ∀ b j, b ≠ 135 → S' b j = S b j
theorem Fm.rf (S : Mi) : Fm S S := fun _ _ _ => rfl
theorem Fm.tr {S S' S'' : Mi} (h : Fm S S') (g : Fm S' S'') : Fm S S'' := fun b j hb => (g b j hb).trans (h b j hb)
theorem SM_fr {k : Nat} {S S' : Mi} {b : Int32} {hf : (Nat → Int32) → Bool} (h : ∀ a j, 129 ≤ a → a ≤ 134 → S' a j = S a j) (hs : SM k S b hf) : SM k S' b hf := by
  obtain ⟨cn, cw, cu, bs, lk, sem, h1, h2, h3, h4⟩ := hs
  refine ⟨cn, cw, cu, bs, lk, sem, h1, (h _ _ (by decide) (by decide)).trans h2, fun i hi => ?_, h4⟩
  obtain ⟨g1, g2, g3, g4⟩ := h3 i hi
  refine ⟨g1, (h _ _ (by decide) (by decide)).trans g2, (h _ _ (by decide) (by decide)).trans g3, ?_⟩
  rcases g4 with g4 | ⟨f1, f2, f3, f4, f5⟩
  · exact .inl g4
  · exact .inr ⟨(h _ _ (by decide) (by decide)).trans f1, (h _ _ (by decide) (by decide)).trans f2, f3, fun j hj => (h _ _ (by decide) (by decide)).trans (f4 j hj), f5⟩
theorem HM_fr {S S' : Mi} {hl bg : Int32} {hf : (Nat → Int32) → Bool} (h : ∀ a j, 129 ≤ a → a ≤ 134 → S' a j = S a j) (hs : HM S hl bg hf) : HM S' hl bg hf := by
  rcases hs with hs | ⟨k, h1, h2, h3⟩
  · exact .inl hs
  · exact .inr ⟨k, h1, h2, SM_fr h h3⟩
def MP (S : Mi) (bg : Int32) (hf : (Nat → Int32) → Bool) (pn : Nat) (kd v : Int32) (rw : Nat → Int32) : Prop := HM S (S 120 16) bg hf ∧ S 121 pn = kd ∧ S 122 pn = v ∧ ∀ i, i < 4 → S 124 (4 * pn + i) = rw i
theorem MP_fm {S S' : Mi} {bg : Int32} {hf : (Nat → Int32) → Bool} {pn : Nat} {kd v : Int32} {rw : Nat → Int32} (h : Fm S S') (hs : MP S bg hf pn kd v rw) : MP S' bg hf pn kd v rw := by
  obtain ⟨h1, h2, h3, h4⟩ := hs
  refine ⟨?_, (h _ _ (by decide)).trans h2, (h _ _ (by decide)).trans h3, fun i hi => (h _ _ (by decide)).trans (h4 i hi)⟩
  rw [h 120 16 (by decide)]
  exact HM_fr (fun a j _ h2 => h a j (by omega)) h1
def cntK (kd v : Int32) (rw : Nat → Int32) (d w : Nat) (hd pl : Bool) : Bool := if kd = 1 then (pl && decide (d % 2 = 0)) else if kd = 2 then hd else if kd = 3 then (hd && decide (w = 3)) else if kd = 4 then (pl && decide (d % 2 = 0) && !decide (nI w = rmI v 4)) else if kd = 5 then true else if kd = 6 then (hd && decide (w = 3) && !decide (rw (d % 4) = 0)) else pl
def usB (us : Int32) (w : Nat) : Bool := decide ((us >>> (nI w &&& 31)) &&& 1 = 0)
def opn (bg la : Int32) (d : Nat) : Bool := !(decide (nI d < bg) || decide (nI d = la))
def cnt (bg : Int32) (hf : (Nat → Int32) → Bool) (p q kd v : Int32) (rw : Nat → Int32) (us la : Int32) (d w : Nat) : Bool := opn bg la d && cntK kd v rw d w (hf (vls p q kd v (nI w) (nI d))) (hf (vls p q kd v (nI w) (nI d)) && usB us w)
section A
variable {l : Launch} {L : Nat} {xs : Nat → Int32} {D : Nat} {n : Nat} {K : Mk} {S : Mi} {G : Ml} {P : Mr} {Q : QT} {bg : Int32} {hf : (Nat → Int32) → Bool} {pn : Nat} {kd v : Int32} {rw : Nat → Int32}
set_option maxRecDepth 20000
theorem mm_begin (hh : HM S (S 120 16) bg hf) (h : Q (some (.int bg)) n K S G P) : Ok l L xs T1 (D + 1) jX12_begin 0 [.ref 120] n K S G P Q := by
  refine I_X12_begin (by decide) (fun At go => ?_)
  rcases hh with ⟨h1, h2, _⟩ | ⟨k, hk, h1, cn, cw, cu, bs, lk, sem, g1, g2, g3, g4, _⟩
  · rw [h2] at h
    have a4 : At 4 [.ref 120, .int 0, .int 0] [] n K S G P 0 := by
      refine go [4, 58, 64] 60 _ _ _ _ _ _ _ _ _ ?_
      refine ite_t h1 ?_
      have a64 : At 64 [.ref 120, .int 0, .int 0] [] n K S G P 0 := by
        refine go [4, 58, 64] 60 _ _ _ _ _ _ _ _ _ ?_
        exact h
      exact a64
    refine go [4, 58, 64] 60 _ _ _ _ _ _ _ _ _ ?_
    exact a4
  · have hne : ¬ S 120 16 = -1 := by rw [h1, eq_i, nI_toInt (by omega), t_m1]; omega
    have hix : S 129 (S 120 16).toNatClampNeg = nI cn := by rw [h1, nI_clamp (by omega)]; exact g2
    have x0 : ixB (S 120 16) 6 = true := by rw [h1]; exact ixB_nI hk (by decide)
    have loop : ∀ m i vi acc, i + m = cn → vi = nI i → acc = lastb cw cu i → At 4 [.ref 120, .int acc, .int vi] [] n K S G P 0 := by
      intro m
      induction m with
      | zero =>
        intro i vi acc hi hv ha
        have e : i = cn := by omega
        subst e
        rw [← g4] at ha
        have a64 : At 64 [.ref 120, .int acc, .int vi] [] n K S G P 0 := by
          refine go [4, 58, 64] 60 _ _ _ _ _ _ _ _ _ ?_
          rw [← ha] at h
          exact h
        refine go [4, 58, 64] 60 _ _ _ _ _ _ _ _ _ ?_
        refine ite_f hne ?_
        refine ite_t x0 ?_
        refine ite_t (by rw [hix, hv, le_i]; omega) ?_
        exact a64
      | succ m ih =>
        intro i vi acc hi hv ha
        obtain ⟨f1, f2, f3, f4⟩ := g3 i (by omega)
        have xi : 10 * S 120 16 + vi = nI (10 * k + i) := by rw [h1, hv, show (10 : Int32) = nI 10 from rfl, pk_mul, nI_add]
        have x1 : ixB (10 * S 120 16 + vi) 61 = true := by rw [xi]; exact ixB_nI (by omega) (by decide)
        have w1 : S 130 (10 * S 120 16 + vi).toNatClampNeg = nI (cw i) := by rw [xi, nI_clamp (by omega)]; exact f2
        have w2 : S 131 (10 * S 120 16 + vi).toNatClampNeg = cu i := by rw [xi, nI_clamp (by omega)]; exact f3
        have nxt : ∀ acc', acc' = lastb cw cu (i + 1) → At 58 [.ref 120, .int acc', .int vi] [] n K S G P 0 := by
          intro acc' e
          refine go [4, 58, 64] 60 _ _ _ _ _ _ _ _ _ ?_
          exact ih (i + 1) _ _ (by omega) (by rw [hv]; exact nI_1 i) e
        refine go [4, 58, 64] 60 _ _ _ _ _ _ _ _ _ ?_
        refine ite_f hne ?_
        refine ite_t x0 ?_
        refine ite_f (by rw [hix, hv, le_i, nI_toInt (by omega), nI_toInt (by omega)]; omega) ?_
        refine ite_t x1 ?_
        refine ite_i (fun c => ?_) (fun c => ?_)
        · rw [w1, eq_i, nI_toInt (by omega), t_2] at c
          refine ite_t x1 ?_
          refine nxt _ ?_
          rw [w2]
          exact (if_pos (by omega)).symm
        · rw [w1, eq_i, nI_toInt (by omega), t_2] at c
          refine nxt _ ?_
          rw [ha]
          exact (if_neg (by omega)).symm
    refine go [4, 58, 64] 60 _ _ _ _ _ _ _ _ _ ?_
    exact loop cn 0 _ _ (by omega) rfl rfl
theorem mm_isHeard {q w d : Int32} (hp : pn < 6) (hh : MP S bg hf pn kd v rw) (h : ∀ S', Fm S S' → Q (some (.int (b2i (hf (vls (nI pn) q kd v w d))))) n K S' G P) : Ok l L xs T1 (D + 3) jX12_isHeard 0 [.ref 120, .int (nI pn), .int q, .int w, .int d] n K S G P Q := by
  refine I_X12_isHeard (by decide) (fun At go => ?_)
  obtain ⟨hh, hk1, hv1, _⟩ := hh
  have a104 : ∀ S' sum (x6 x7 : Value), Fm S S' → hf (vls (nI pn) q kd v w d) = decide (0 < sum) → At 104 [.ref 120, .int (nI pn), .int q, .int w, .int d, .int sum, x6, x7] [] n K S' G P 0 := by
    intro S' sum x6 x7 hS e
    have hQ := h S' hS
    refine go [6, 95, 98, 104] 60 _ _ _ _ _ _ _ _ _ ?_
    refine ite_i (fun c => ?_) (fun c => ?_)
    · rw [le_i, t_0] at c
      rw [e, decide_eq_false (by rw [lt_i, t_0]; omega)] at hQ
      exact hQ
    · rw [le_i, t_0] at c
      rw [e, decide_eq_true (by rw [lt_i, t_0]; omega)] at hQ
      exact hQ
  rcases hh with ⟨h1, h2, h3⟩ | ⟨k, hk, h1, cn, cw, cu, bs, lk, sem, g1, g2, g3, _, g5⟩
  · refine go [6, 95, 98, 104] 60 _ _ _ _ _ _ _ _ _ ?_
    have a6 : At 6 [.ref 120, .int (nI pn), .int q, .int w, .int d, .int 1, .int 0, .retAddr 0] [] n K S G P 0 := by
      refine go [6, 95, 98, 104] 60 _ _ _ _ _ _ _ _ _ ?_
      refine ite_t h1 ?_
      exact a104 _ _ _ _ (Fm.rf S) (by rw [h3]; rfl)
    exact a6
  · have hne : ¬ S 120 16 = -1 := by rw [h1, eq_i, nI_toInt (by omega), t_m1]; omega
    have loop : ∀ m i vi acc S' (x7 : Value), i + m = cn → vi = nI i → acc = lou (wM cw cu) sem (vls (nI pn) q kd v w d) i → Fm S S' → At 6 [.ref 120, .int (nI pn), .int q, .int w, .int d, .int acc, .int vi, x7] [] n K S' G P 0 := by
      intro m
      induction m with
      | zero =>
        intro i vi acc S' x7 hi hv ha hS
        have e : i = cn := by omega
        subst e
        have e0 : S' 120 16 = S 120 16 := hS _ _ (by decide)
        have hix : S' 129 (S' 120 16).toNatClampNeg = nI i := by rw [hS _ _ (by decide), e0, h1, nI_clamp (by omega)]; exact g2
        refine go [6, 95, 98, 104] 60 _ _ _ _ _ _ _ _ _ ?_
        refine ite_f (by rw [e0]; exact hne) ?_
        refine ite_t (by rw [e0, h1]; exact ixB_nI hk (by decide)) ?_
        refine ite_t (by rw [hix, hv, le_i]; omega) ?_
        exact a104 _ _ _ _ hS (by rw [g5, ha])
      | succ m ih =>
        intro i vi acc S' x7 hi hv ha hS
        obtain ⟨f1, f2, f3, f4⟩ := g3 i (by omega)
        have e0 : S' 120 16 = S 120 16 := hS _ _ (by decide)
        have hix : S' 129 (S' 120 16).toNatClampNeg = nI cn := by rw [hS _ _ (by decide), e0, h1, nI_clamp (by omega)]; exact g2
        have xi : 10 * S' 120 16 + vi = nI (10 * k + i) := by rw [e0, h1, hv, show (10 : Int32) = nI 10 from rfl, pk_mul, nI_add]
        have x1 : ixB (10 * S' 120 16 + vi) 61 = true := by rw [xi]; exact ixB_nI (by omega) (by decide)
        have nxt : ∀ S'' acc' (x7 : Value), Fm S S'' → acc' = lou (wM cw cu) sem (vls (nI pn) q kd v w d) (i + 1) → At 98 [.ref 120, .int (nI pn), .int q, .int w, .int d, .int acc', .int vi, x7] [] n K S'' G P 0 := by
          intro S'' acc' x7 hS2 e
          refine go [6, 95, 98, 104] 60 _ _ _ _ _ _ _ _ _ ?_
          exact ih (i + 1) _ _ _ _ (by omega) (by rw [hv]; exact nI_1 i) e hS2
        have eL : lou (wM cw cu) sem (vls (nI pn) q kd v w d) (i + 1) = lou (wM cw cu) sem (vls (nI pn) q kd v w d) i + (if sem i (vls (nI pn) q kd v w d) = true then wM cw cu i else 0) := rfl
        have a40 : ∀ c, c = nI (10 * k + i) → At 40 [.ref 120, .int (nI pn), .int q, .int w, .int d, .int acc, .int vi, .int c] [] n K S' G P 0 := by
          intro c hc
          subst hc
          have x2 : ixB (nI (10 * k + i)) 61 = true := ixB_nI (by omega) (by decide)
          refine go [6, 95, 98, 104] 60 _ _ _ _ _ _ _ _ _ ?_
          refine ite_t x2 ?_
          refine ite_i (fun c => ?_) (fun c => ?_)
          · rw [nI_clamp (by omega), hS _ _ (by decide), f2, le_i, nI_toInt (by omega), t_2] at c
            refine nxt _ _ _ hS ?_
            rw [eL, ha, show wM cw cu i = 0 by unfold wM; rw [if_neg (by omega), if_neg (by omega)]]
            split <;> rw [Int32.add_zero]
          · rw [nI_clamp (by omega), hS _ _ (by decide), f2, le_i, nI_toInt (by omega), t_2] at c
            rcases f4 with f4 | ⟨b1, b2, b3, b4, b5, b6⟩
            · omega
            refine mm_isTrue (lk := lk i) (b := bs i) (f := sem i (vls (nI pn) q kd v w d)) hp (by omega) (by rw [hS _ _ (by decide)]; exact b1) (by rw [hS _ _ (by decide)]; exact b2) b3 (fun j hj => by rw [hS _ _ (by decide)]; exact b4 j hj) b5 (by rw [hS _ _ (by decide), hS _ _ (by decide), hk1, hv1]; exact b6 _) (fun S'' hS1 => ?_)
            have hS2 : Fm S S'' := hS.tr hS1
            refine ite_i (fun c2 => ?_) (fun c2 => ?_)
            · refine nxt _ _ _ hS2 ?_
              rw [eL, ha, b2i_0 c2, if_neg (by decide), Int32.add_zero]
            · have w1 : S'' 130 (nI (10 * k + i)).toNatClampNeg = nI (cw i) := by rw [nI_clamp (by omega), hS2 _ _ (by decide)]; exact f2
              have w2 : S'' 131 (nI (10 * k + i)).toNatClampNeg = cu i := by rw [nI_clamp (by omega), hS2 _ _ (by decide)]; exact f3
              have a95 : ∀ y, y = wM cw cu i → At 95 [.ref 120, .int (nI pn), .int q, .int w, .int d, .int acc, .int vi, .int (nI (10 * k + i))] [.int y, .int acc] n K S'' G P 0 := by
                intro y hy
                refine go [6, 95, 98, 104] 60 _ _ _ _ _ _ _ _ _ ?_
                refine nxt _ _ _ hS2 ?_
                rw [eL, ← ha, b2i_n c2, if_pos rfl, ← hy]
              refine ite_t x2 ?_
              refine ite_i (fun c3 => ?_) (fun c3 => ?_)
              · rw [w1, eq_i, nI_toInt (by omega), t_0] at c3
                refine ite_t x2 ?_
                refine a95 _ ?_
                rw [w2]
                unfold wM
                rw [if_pos (by omega)]
              · rw [w1, eq_i, nI_toInt (by omega), t_0] at c3
                refine ite_t x2 ?_
                refine a95 _ ?_
                rw [w2]
                unfold wM
                rw [if_neg (by omega), if_pos (by omega)]
        refine go [6, 40, 95, 98, 104] 60 _ _ _ _ _ _ _ _ _ ?_
        refine ite_f (by rw [e0]; exact hne) ?_
        refine ite_t (by rw [e0, h1]; exact ixB_nI hk (by decide)) ?_
        refine ite_f (by rw [hix, hv, le_i, nI_toInt (by omega), nI_toInt (by omega)]; omega) ?_
        exact a40 _ xi
    refine go [6, 95, 98, 104] 60 _ _ _ _ _ _ _ _ _ ?_
    exact loop cn 0 _ _ _ _ (by omega) rfl rfl (Fm.rf S)
end A
end

noncomputable section
section A
variable {l : Launch} {L : Nat} {xs : Nat → Int32} {D : Nat} {n : Nat} {K : Mk} {S : Mi} {G : Ml} {P : Mr} {Q : QT} {bg : Int32} {hf : (Nat → Int32) → Bool} {pn : Nat} {kd v : Int32} {rw : Nat → Int32}
set_option maxRecDepth 20000
theorem usB_t {us : Int32} {w : Nat} (h : (us >>> (nI w &&& 31)) &&& 1 = 0) : usB us w = true := decide_eq_true h
theorem usB_f {us : Int32} {w : Nat} (h : ¬ (us >>> (nI w &&& 31)) &&& 1 = 0) : usB us w = false := decide_eq_false h
theorem mm_doesCount {q us la : Int32} {d w : Nat} (hp : pn < 6) (hw : w < 4) (hd : d < 20000) (hh : MP S bg hf pn kd v rw) (h : ∀ S', Fm S S' → Q (some (.int (b2i (cnt bg hf (nI pn) q kd v rw us la d w)))) n K S' G P) : Ok l L xs T1 (D + 4) jX12_doesCount 0 [.ref 120, .int (nI pn), .int q, .int (nI w), .int (nI d), .int us, .int la] n K S G P Q := by
  refine I_X12_doesCount (by decide) (fun At go => ?_)
  have hclosed : opn bg la d = false → ∀ S', Fm S S' → At 16 [.ref 120, .int (nI pn), .int q, .int (nI w), .int (nI d), .int us, .int la, .retAddr 0, .retAddr 0] [] n K S' G P 0 := by
    intro e S' hS
    have hQ := h S' hS
    unfold cnt at hQ
    rw [e] at hQ
    refine go [16, 18, 48] 60 _ _ _ _ _ _ _ _ _ ?_
    exact hQ
  have hopen : opn bg la d = true → At 18 [.ref 120, .int (nI pn), .int q, .int (nI w), .int (nI d), .int us, .int la, .retAddr 0, .retAddr 0] [] n K S G P 0 := by
    intro e
    refine go [16, 18, 48] 60 _ _ _ _ _ _ _ _ _ ?_
    refine mm_isHeard (q := q) (w := nI w) (d := nI d) hp hh (fun S' hS => ?_)
    have hM := MP_fm hS hh
    generalize hhd : hf (vls (nI pn) q kd v (nI w) (nI d)) = hdB at h
    have fin : ∀ b, b = cntK kd v rw d w hdB (hdB && usB us w) → Q (some (.int (b2i b))) n K S' G P := by
      intro b hb
      have hQ := h S' hS
      unfold cnt at hQ
      rw [e, hhd, Bool.true_and, ← hb] at hQ
      exact hQ
    have hkd : S' 121 (nI pn).toNatClampNeg = kd := by rw [nI_clamp (by omega)]; exact hM.2.1
    have hvv : S' 122 (nI pn).toNatClampNeg = v := by rw [nI_clamp (by omega)]; exact hM.2.2.1
    have d2 : rmI (nI d) 2 = nI (d % 2) := rm_i (by omega) (by decide)
    have d4 : rmI (nI d) 4 = nI (d % 4) := rm_i (by omega) (by decide)
    have xr : 4 * nI pn + rmI (nI d) 4 = nI (4 * pn + d % 4) := by rw [d4, show (4 : Int32) = nI 4 from rfl, pk_mul, nI_add]
    have hrw : S' 124 (4 * nI pn + rmI (nI d) 4).toNatClampNeg = rw (d % 4) := by rw [xr, nI_clamp (by omega)]; exact hM.2.2.2 _ (by omega)
    have xrw : ixB (4 * nI pn + rmI (nI d) 4) 24 = true := by rw [xr]; exact ixB_nI (by omega) (by decide)
    have a48 : ∀ pl, pl = (hdB && usB us w) → At 48 [.ref 120, .int (nI pn), .int q, .int (nI w), .int (nI d), .int us, .int la, .int (b2i hdB), .retAddr 0] [.int (b2i pl)] n K S' G P 0 := by
      intro pl hpl
      rw [← hpl] at fin
      refine go [16, 18, 48] 60 _ _ _ _ _ _ _ _ _ ?_
      refine ite_t (ixB_nI hp (by decide)) ?_
      refine ite_i (fun c1 => ?_) (fun c1 => ?_)
      · rw [hkd] at c1
        have f1 : ∀ b, b = (pl && decide (d % 2 = 0)) → Q (some (.int (b2i b))) n K S' G P := fun b hb => fin b (by rw [hb]; unfold cntK; rw [if_pos c1])
        refine ite_i (fun c2 => ?_) (fun c2 => ?_)
        · exact f1 false (by rw [b2i_0 c2]; rfl)
        · refine ite_i (fun c3 => ?_) (fun c3 => ?_)
          · have c3' : rmI (nI d) 2 = 0 := c3
            rw [d2, eq_i, nI_toInt (by omega), t_0] at c3'
            exact f1 true (by rw [b2i_n c2, decide_eq_true (by omega)]; rfl)
          · have c3' : ¬ rmI (nI d) 2 = 0 := c3
            rw [d2, eq_i, nI_toInt (by omega), t_0] at c3'
            exact f1 false (by rw [decide_eq_false (by omega), Bool.and_false])
      rw [hkd] at c1
      refine ite_i (fun c2 => ?_) (fun c2 => ?_)
      · rw [hkd] at c2
        refine ite_t (b2i_or _) ?_
        exact fin _ (by unfold cntK; rw [if_neg c1, if_pos c2])
      rw [hkd] at c2
      refine ite_i (fun c3 => ?_) (fun c3 => ?_)
      · rw [hkd] at c3
        have f1 : ∀ b, b = (hdB && decide (w = 3)) → Q (some (.int (b2i b))) n K S' G P := fun b hb => fin b (by rw [hb]; unfold cntK; rw [if_neg c1, if_neg c2, if_pos c3])
        refine ite_i (fun c4 => ?_) (fun c4 => ?_)
        · exact f1 false (by rw [b2i_0 c4]; rfl)
        · refine ite_i (fun c5 => ?_) (fun c5 => ?_)
          · rw [eq_i, nI_toInt (by omega), t_3] at c5
            exact f1 true (by rw [b2i_n c4, decide_eq_true (by omega)]; rfl)
          · rw [eq_i, nI_toInt (by omega), t_3] at c5
            exact f1 false (by rw [decide_eq_false (by omega), Bool.and_false])
      rw [hkd] at c3
      refine ite_i (fun c4 => ?_) (fun c4 => ?_)
      · rw [hkd] at c4
        have f1 : ∀ b, b = (pl && decide (d % 2 = 0) && !decide (nI w = rmI v 4)) → Q (some (.int (b2i b))) n K S' G P := fun b hb => fin b (by rw [hb]; unfold cntK; rw [if_neg c1, if_neg c2, if_neg c3, if_pos c4])
        refine ite_i (fun c5 => ?_) (fun c5 => ?_)
        · exact f1 false (by rw [b2i_0 c5]; rfl)
        · refine ite_i (fun c6 => ?_) (fun c6 => ?_)
          · have c6' : rmI (nI d) 2 = 0 := c6
            rw [d2, eq_i, nI_toInt (by omega), t_0] at c6'
            refine ite_t (ixB_nI hp (by decide)) ?_
            refine ite_i (fun c7 => ?_) (fun c7 => ?_)
            · have c7' : nI w = rmI (S' 122 (nI pn).toNatClampNeg) 4 := c7
              rw [hvv] at c7'
              exact f1 false (by rw [decide_eq_true c7', Bool.not_true, Bool.and_false])
            · have c7' : ¬ nI w = rmI (S' 122 (nI pn).toNatClampNeg) 4 := c7
              rw [hvv] at c7'
              exact f1 true (by rw [b2i_n c5, decide_eq_true (show d % 2 = 0 by omega), decide_eq_false c7']; rfl)
          · have c6' : ¬ rmI (nI d) 2 = 0 := c6
            rw [d2, eq_i, nI_toInt (by omega), t_0] at c6'
            exact f1 false (by rw [decide_eq_false (show ¬ d % 2 = 0 by omega), Bool.and_false, Bool.false_and])
      rw [hkd] at c4
      refine ite_i (fun c5 => ?_) (fun c5 => ?_)
      · rw [hkd] at c5
        exact fin true (by unfold cntK; rw [if_neg c1, if_neg c2, if_neg c3, if_neg c4, if_pos c5])
      rw [hkd] at c5
      refine ite_i (fun c6 => ?_) (fun c6 => ?_)
      · rw [hkd] at c6
        have f1 : ∀ b, b = (hdB && decide (w = 3) && !decide (rw (d % 4) = 0)) → Q (some (.int (b2i b))) n K S' G P := fun b hb => fin b (by rw [hb]; unfold cntK; rw [if_neg c1, if_neg c2, if_neg c3, if_neg c4, if_neg c5, if_pos c6])
        refine ite_i (fun c7 => ?_) (fun c7 => ?_)
        · exact f1 false (by rw [b2i_0 c7]; rfl)
        · refine ite_i (fun c8 => ?_) (fun c8 => ?_)
          · rw [eq_i, nI_toInt (by omega), t_3] at c8
            refine ite_t xrw ?_
            refine ite_i (fun c9 => ?_) (fun c9 => ?_)
            · have c9' : S' 124 (4 * nI pn + rmI (nI d) 4).toNatClampNeg = 0 := c9
              rw [hrw] at c9'
              exact f1 false (by rw [decide_eq_true c9', Bool.not_true, Bool.and_false])
            · have c9' : ¬ S' 124 (4 * nI pn + rmI (nI d) 4).toNatClampNeg = 0 := c9
              rw [hrw] at c9'
              exact f1 true (by rw [b2i_n c7, decide_eq_true (show w = 3 by omega), decide_eq_false c9']; rfl)
          · rw [eq_i, nI_toInt (by omega), t_3] at c8
            exact f1 false (by rw [decide_eq_false (show ¬ w = 3 by omega), Bool.and_false, Bool.false_and])
      rw [hkd] at c6
      refine ite_t (b2i_or _) ?_
      exact fin _ (by unfold cntK; rw [if_neg c1, if_neg c2, if_neg c3, if_neg c4, if_neg c5, if_neg c6])
    refine ite_i (fun c1 => ?_) (fun c1 => ?_)
    · exact a48 false (by rw [b2i_0 c1]; rfl)
    · refine ite_i (fun c2 => ?_) (fun c2 => ?_)
      · exact a48 true (by rw [b2i_n c1, usB_t c2]; rfl)
      · exact a48 false (by rw [usB_f c2, Bool.and_false])
  refine go [16, 18, 48] 60 _ _ _ _ _ _ _ _ _ ?_
  refine mm_begin hh.1 ?_
  refine ite_i (fun c1 => ?_) (fun c1 => ?_)
  · exact hclosed (by unfold opn; rw [decide_eq_true c1]; rfl) S (Fm.rf S)
  · refine ite_i (fun c2 => ?_) (fun c2 => ?_)
    · exact hclosed (by unfold opn; rw [decide_eq_true c2, Bool.or_true]; rfl) S (Fm.rf S)
    · exact hopen (by unfold opn; rw [decide_eq_false c1, decide_eq_false c2]; rfl)
theorem mm_any {q us la : Int32} {d : Nat} (hp : pn < 6) (hd : d < 20000) (hh : MP S bg hf pn kd v rw) (h1 : ∀ S', Fm S S' → (∃ w, w < 4 ∧ cnt bg hf (nI pn) q kd v rw us la d w = true) → Q (some (.int 1)) n K S' G P) (h0 : ∀ S', Fm S S' → (∀ w, w < 4 → cnt bg hf (nI pn) q kd v rw us la d w = false) → Q (some (.int 0)) n K S' G P) : Ok l L xs T1 (D + 5) jX12_any 0 [.ref 120, .int (nI pn), .int q, .int (nI d), .int us, .int la] n K S G P Q := by
  refine I_X12_any (by decide) (fun At go => ?_)
  have loop : ∀ m j vj S', j + m = 4 → vj = nI j → Fm S S' → (∀ w, w < j → cnt bg hf (nI pn) q kd v rw us la d w = false) → At 3 [.ref 120, .int (nI pn), .int q, .int (nI d), .int us, .int la, .int vj] [] n K S' G P 0 := by
    intro m
    induction m with
    | zero =>
      intro j vj S' hj hv1 hS ha
      have e : j = 4 := by omega
      subst e
      subst hv1
      refine go [3] 60 _ _ _ _ _ _ _ _ _ ?_
      exact h0 S' hS ha
    | succ m ih =>
      intro j vj S' hj hv1 hS ha
      subst hv1
      refine go [3] 60 _ _ _ _ _ _ _ _ _ ?_
      refine ite_f (by rw [le_i, t_4, nI_toInt (by omega)]; omega) ?_
      refine mm_doesCount (q := q) (us := us) (la := la) hp (by omega) hd (MP_fm hS hh) (fun S'' hS2 => ?_)
      refine ite_i (fun c => ?_) (fun c => ?_)
      · refine ih (j + 1) _ _ (by omega) (nI_1 j) (hS.tr hS2) (fun w hw0 => ?_)
        rcases Nat.lt_or_ge w j with g | g
        · exact ha w g
        · have e : w = j := by omega
          subst e
          exact b2i_0 c
      · exact h1 _ (hS.tr hS2) ⟨j, by omega, b2i_n c⟩
  refine go [3] 60 _ _ _ _ _ _ _ _ _ ?_
  exact loop 4 0 _ S rfl rfl (Fm.rf S) (fun w hw => absurd hw (Nat.not_lt_zero w))
theorem mm_dcz {y1 y2 y3 d d' us us' la la' : Int32} (h1 : d = d') (h2 : us = us') (h3 : la = la') (h : Ok l L xs T1 D jX12_doesCount 0 [.ref 120, .int y1, .int y2, .int y3, .int d', .int us', .int la'] n K S G P Q) : Ok l L xs T1 D jX12_doesCount 0 [.ref 120, .int y1, .int y2, .int y3, .int d, .int us, .int la] n K S G P Q := by
  subst h1 h2 h3
  exact h
theorem mm_countsNow {q us la : Int32} {d w qn : Nat} (hp : pn < 6) (hq : qn < 6) (hw : w < 4) (hd : d < 20000) (hh : MP S bg hf pn kd v rw) (e8 : S 120 8 = nI d) (eu : S 126 (6 * pn + qn) = us) (el : S 127 (6 * pn + qn) = la) (h : ∀ S', Fm S S' → Q (some (.int (b2i (cnt bg hf (nI pn) (nI qn) kd v rw us la d w)))) n K S' G P) : Ok l L xs T1 (D + 5) jX12_countsNow 0 [.ref 120, .int (nI pn), .int (nI qn), .int (nI w)] n K S G P Q := by
  refine I_X12_countsNow (by decide) (fun At go => ?_)
  have xi := @ix6m pn qn
  have x1 : ixB (6 * nI pn + nI qn) 36 = true := by rw [xi]; exact ixB_nI (by omega) (by decide)
  have w1 : S 126 (6 * nI pn + nI qn).toNatClampNeg = us := by rw [xi, nI_clamp (by omega)]; exact eu
  have w2 : S 127 (6 * nI pn + nI qn).toNatClampNeg = la := by rw [xi, nI_clamp (by omega)]; exact el
  refine go [] 60 _ _ _ _ _ _ _ _ _ ?_
  refine ite_t x1 ?_
  refine ite_t x1 ?_
  refine mm_dcz e8 w1 w2 ?_
  refine mm_doesCount (q := nI qn) (us := us) (la := la) hp hw hd hh (fun S' hS => ?_)
  refine ite_t (b2i_or _) ?_
  exact h S' hS
end A
end

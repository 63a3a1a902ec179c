noncomputable section
theorem tk_said {tw : Nat → Int32} {np dy ns : Nat} (h : TwOk tw np dy ns) : SaidOk tw np := h.2.2.2.2.2.2.1
theorem tk_plan {tw : Nat → Int32} {np dy ns : Nat} (h : TwOk tw np dy ns) : PlanOk tw np := h.2.2.2.2.2.2.2.1
theorem tk_book {tw : Nat → Int32} {np dy ns : Nat} (h : TwOk tw np dy ns) : BookOk tw np := h.2.2.2.2.2.2.2.2
def allS (sd : Nat → Int32 × ((Nat → Int32) → Bool)) (tw : Nat → Int32) (dy p : Nat) (v : Int32) : Nat → Nat → Bool
  | 0, _ => true
  | m + 1, i => if tw (150 + i) = nI p ∧ soB sd tw dy i v = false then false else allS sd tw dy p v m (i + 1)
def wrV (sd : Nat → Int32 × ((Nat → Int32) → Bool)) (tw : Nat → Int32) (dy : Nat) : Nat → Nat → Int32
  | 0, _ => -5
  | m + 1, i => if soB sd tw dy i (tw (6 + (tw (150 + i)).toNatClampNeg)) = true then wrV sd tw dy m (i + 1) else nI i
section A
variable {l : Launch} {L : Nat} {xs : Nat → Int32} {D : Nat} {n : Nat} {K : Mk} {S : Mi} {G : Ml} {P : Mr} {Q : QT} {sd : Nat → Int32 × ((Nat → Int32) → Bool)} {tw : Nat → Int32} {np dy ns i p q w t : Nat}
set_option maxRecDepth 20000
theorem mm_dc4 {y1 y2 w w' d d' us us' la la' : Int32} (h0 : w = w') (h1 : d = d') (h2 : us = us') (h3 : la = la') (h : Ok l L xs T1 D jX12_doesCount 0 [.ref 120, .int y1, .int y2, .int w', .int d', .int us', .int la'] n K S G P Q) : Ok l L xs T1 D jX12_doesCount 0 [.ref 120, .int y1, .int y2, .int w, .int d, .int us, .int la] n K S G P Q := by
  subst h0 h1 h2 h3
  exact h
theorem q_isSo (hs : MT1 S sd tw np dy ns) (hi : i < 5) (hr : rowOk tw np i p q w t) (h : ∀ S', Fm S S' → Q (some (.int (b2i (soB sd tw dy i (tw (6 + p)))))) n K S' G P) : Ok l L xs T1 (D + 6) jX12_isSo 0 [.ref 120, .int (nI i)] n K S G P Q := by
  refine I_X12_isSo (by decide) (fun At go => ?_)
  have h6 := hs.2.2.2.1.2
  have hdy := hs.2.2.2.2.1
  have hR := hs.1
  rw [soB_e h6 hr] at h
  obtain ⟨g1, g2, g3, g4, g5, g6, g7, g8⟩ := hr
  have hday : S 120 8 = nI dy := (RM_dy hR).trans hdy.1
  have xi := @ix6m p q
  have a14 : ∀ p' q', p' = nI p → q' = nI q → At 14 [.ref 120, .int (nI i), .int p', .int q'] [] n K S G P 0 := by
    intro p' q' ep eq
    subst ep
    subst eq
    have x1 : ixB (6 * nI p + nI q) 36 = true := by rw [xi]; exact ixB_nI (by omega) (by decide)
    have r1 : S 138 (nI i).toNatClampNeg = nI w := by rw [nI_clamp (by omega)]; exact (RM_sw hR i hi).trans g7
    have r2 : S 120 8 + S 139 (nI i).toNatClampNeg = nI (dy + t) := by rw [hday, nI_clamp (by omega), RM_si hR i hi, g8, nI_add]
    have r3 : S 126 (6 * nI p + nI q).toNatClampNeg = tw (78 + (6 * p + q)) := by rw [xi, nI_clamp (by omega)]; exact RM_us hR _ (by omega)
    have r4 : S 127 (6 * nI p + nI q).toNatClampNeg = tw (114 + (6 * p + q)) := by rw [xi, nI_clamp (by omega)]; exact RM_la hR _ (by omega)
    refine go [73, 74, 81, 82] 60 _ _ _ _ _ _ _ _ _ ?_
    refine ite_t (ixB_nI hi (by decide)) ?_
    refine ite_t (ixB_nI hi (by decide)) ?_
    refine ite_t x1 ?_
    refine ite_t x1 ?_
    refine mm_dc4 r1 r2 r3 r4 ?_
    refine q_does (D := D + 1) (us := tw (78 + (6 * p + q))) (la := tw (114 + (6 * p + q))) hs g1 g2 g3 (by omega) (fun S' hS => ?_)
    have hQ := h S' hS
    have r5 : S' 140 (nI i).toNatClampNeg = tw (170 + i) := by rw [nI_clamp (by omega), hS _ _ (by decide)]; exact RM_ss hR i hi
    have a82 : ∀ b, b2i (cnW sd tw p q (tw (6 + p)) (dy + t) w == decide (tw (170 + i) = 1)) = b → (b = 0 ∨ b = 1) → At 82 [.ref 120, .int (nI i), .int (nI p), .int (nI q)] [.int b] n K S' G P 0 := by
      intro b hb hb2
      rw [hb] at hQ
      refine go [73] 60 _ _ _ _ _ _ _ _ _ ?_
      refine ite_t hb2 ?_
      exact hQ
    have a74 : ∀ b : Bool, b = decide (tw (170 + i) = 1) → At 74 [.ref 120, .int (nI i), .int (nI p), .int (nI q)] [.int (b2i b), .int (b2i (cnW sd tw p q (tw (6 + p)) (dy + t) w))] n K S' G P 0 := by
      intro b hb
      have a81 : ¬ b2i (cnW sd tw p q (tw (6 + p)) (dy + t) w) = b2i b → At 81 [.ref 120, .int (nI i), .int (nI p), .int (nI q)] [] n K S' G P 0 := by
        intro hne
        refine go [73, 74, 82] 60 _ _ _ _ _ _ _ _ _ ?_
        refine a82 _ ?_ (.inl rfl)
        rw [← hb]
        generalize cnW sd tw p q (tw (6 + p)) (dy + t) w = c at hne
        cases c <;> cases b <;> first | rfl | exact absurd rfl hne
      refine go [73, 81, 82] 60 _ _ _ _ _ _ _ _ _ ?_
      refine ite_i (fun e => ?_) (fun e => a81 e)
      refine a82 _ ?_ (.inr rfl)
      rw [← hb]
      generalize cnW sd tw p q (tw (6 + p)) (dy + t) w = c at e
      cases c <;> cases b <;> first | rfl | exact absurd e (by decide)
    refine ite_t (ixB_nI hi (by decide)) ?_
    refine ite_i (fun e => ?_) (fun e => ?_)
    · exact a74 true (decide_eq_true (r5.symm.trans e)).symm
    · have a73 : At 73 [.ref 120, .int (nI i), .int (nI p), .int (nI q)] [.int (b2i (cnW sd tw p q (tw (6 + p)) (dy + t) w))] n K S' G P 0 := by
        refine go [74, 81, 82] 60 _ _ _ _ _ _ _ _ _ ?_
        exact a74 false (decide_eq_false (fun z => e (r5.trans z))).symm
      exact a73
  refine go [14] 60 _ _ _ _ _ _ _ _ _ ?_
  refine ite_t (ixB_nI hi (by decide)) ?_
  refine ite_t (ixB_nI hi (by decide)) ?_
  exact a14 _ _ (by rw [nI_clamp (by omega)]; exact (RM_sb hR i hi).trans g5) (by rw [nI_clamp (by omega)]; exact (RM_st hR i hi).trans g6)
theorem c_couldSay {v : Int32} (hs : CT1 33 n K S P sd tw np dy ns) (hp : p < np) (hv : ∃ j, j < 10 ∧ v = nI j) {r : Nat} (hr5 : r ≤ 5) (hr : tw 221 = nI r) (h : ∀ S', Fc S S' → Q (some (.int (b2i (allS sd tw dy p v r 0)))) n K S' G P) : Ok l L xs T1 (D + 7) jX9_couldSay 0 [.ref 33, .int (nI p), .int v] n K S G P Q := by
  refine I_X9_couldSay (by decide) (fun At go => ?_)
  have hrow : ∀ i, i < r → ∃ p q w t, rowOk tw np i p q w t := by
    obtain ⟨r', e1, e2, e3⟩ := (tk_said hs.2.2.2.2)
    have : r = r' := (nI_eq (by omega) (by omega)).mp (hr.symm.trans e2)
    subst this
    intro i hi
    obtain ⟨p, q, w, t, f⟩ := e3 i hi
    exact ⟨p, q, w, t, f.1, f.2.1, f.2.2.1, f.2.2.2.1, f.2.2.2.2.1, f.2.2.2.2.2.1, f.2.2.2.2.2.2.1, f.2.2.2.2.2.2.2.1⟩
  have loop : ∀ m j vj S', j + m = r → vj = nI j → Fc S S' → (∀ S', Fc S S' → Q (some (.int (b2i (allS sd tw dy p v m j)))) n K S' G P) → At 2 [.ref 33, .int (nI p), .int v, .int vj] [] n K S' G P 0 := by
    intro m
    induction m with
    | zero =>
      intro j vj S' hj hv1 hS hQ
      subst hv1
      have hs' := CT1_fc hS hs
      have hn : S' 33 10 = nI r := (RC_ns hs'.2.1.1).trans hr
      refine go [2, 33] 60 _ _ _ _ _ _ _ _ _ ?_
      refine ite_t (by rw [hn, le_i, nI_toInt (by omega), nI_toInt (by omega)]; omega) ?_
      exact hQ S' hS
    | succ m ih =>
      intro j vj S' hj hv1 hS hQ
      subst hv1
      have hs' := CT1_fc hS hs
      have hn : S' 33 10 = nI r := (RC_ns hs'.2.1.1).trans hr
      have e0 : nI j * 5 = nI (5 * j) := by rw [show (5 : Int32) = nI 5 from rfl, pk_mul, Nat.mul_comm]
      have x0 : ixB (nI j * 5) 25 = true := by rw [e0]; exact ixB_nI (by omega) (by decide)
      have r0 : S' 40 (nI j * 5).toNatClampNeg = tw (150 + j) := by rw [e0, nI_clamp (by omega)]; exact RC_sb hs'.2.1.1 j (by omega)
      obtain ⟨p1, q1, w1, t1, hrj⟩ := hrow j (by omega)
      have a33 : ∀ S2, Fc S S2 → ¬ (tw (150 + j) = nI p ∧ soB sd tw dy j v = false) → At 33 [.ref 33, .int (nI p), .int v, .int (nI j)] [] n K S2 G P 0 := by
        intro S2 hS2 hc
        refine go [2] 60 _ _ _ _ _ _ _ _ _ ?_
        refine ih (j + 1) _ _ (by omega) (nI_1 j) hS2 (fun S3 hS3 => ?_)
        have := hQ S3 hS3
        rw [allS, if_neg hc] at this
        exact this
      refine go [2, 33] 60 _ _ _ _ _ _ _ _ _ ?_
      refine ite_f (by rw [hn, le_i, nI_toInt (by omega), nI_toInt (by omega)]; omega) ?_
      refine ite_t x0 ?_
      refine ite_i (fun c => ?_) (fun c => ?_)
      · have c' := r0.symm.trans c
        refine c_isSo (dy := dy) hs' (by omega) hrj hv (fun S2 hS2 => ?_)
        refine ite_i (fun c2 => ?_) (fun c2 => ?_)
        · have := hQ S2 (hS.tr hS2)
          rw [allS, if_pos ⟨c', b2i_0 c2⟩] at this
          exact this
        · exact a33 _ (hS.tr hS2) (fun z => by rw [b2i_n c2] at z; exact absurd z.2 (by decide))
      · exact a33 _ hS (fun z => c (r0.trans z.1))
  refine go [2] 60 _ _ _ _ _ _ _ _ _ ?_
  exact loop r 0 _ S (by omega) rfl (Fc.rf S) h
theorem q_isAllSo (hs : MT1 S sd tw np dy ns) (hp : p < np) {r : Nat} (hr5 : r ≤ 5) (hr : tw 221 = nI r) (h : ∀ S', Fm S S' → Q (some (.int (b2i (allS sd tw dy p (tw (6 + p)) r 0)))) n K S' G P) : Ok l L xs T1 (D + 7) jX12_isAllSo 0 [.ref 120, .int (nI p)] n K S G P Q := by
  refine I_X12_isAllSo (by decide) (fun At go => ?_)
  have np6 := hs.2.2.2.1.2
  have hrow : ∀ i, i < r → ∃ p q w t, rowOk tw np i p q w t := by
    obtain ⟨r', e1, e2, e3⟩ := (tk_said hs.2.2.2)
    have : r = r' := (nI_eq (by omega) (by omega)).mp (hr.symm.trans e2)
    subst this
    intro i hi
    obtain ⟨p, q, w, t, f⟩ := e3 i hi
    exact ⟨p, q, w, t, f.1, f.2.1, f.2.2.1, f.2.2.2.1, f.2.2.2.2.1, f.2.2.2.2.2.1, f.2.2.2.2.2.2.1, f.2.2.2.2.2.2.2.1⟩
  have loop : ∀ m j vj S', j + m = r → vj = nI j → Fm S S' → (∀ S', Fm S S' → Q (some (.int (b2i (allS sd tw dy p (tw (6 + p)) m j)))) n K S' G P) → At 2 [.ref 120, .int (nI p), .int vj] [] n K S' G P 0 := by
    intro m
    induction m with
    | zero =>
      intro j vj S' hj hv1 hS hQ
      subst hv1
      have hs' := MT1_fm hS hs
      have hn : S' 120 25 = nI r := (RM_ns hs'.1).trans hr
      refine go [2, 30] 60 _ _ _ _ _ _ _ _ _ ?_
      refine ite_t (by rw [hn, le_i, nI_toInt (by omega), nI_toInt (by omega)]; omega) ?_
      exact hQ S' hS
    | succ m ih =>
      intro j vj S' hj hv1 hS hQ
      subst hv1
      have hs' := MT1_fm hS hs
      have hn : S' 120 25 = nI r := (RM_ns hs'.1).trans hr
      have r0 : S' 136 (nI j).toNatClampNeg = tw (150 + j) := by rw [nI_clamp (by omega)]; exact RM_sb hs'.1 j (by omega)
      obtain ⟨p1, q1, w1, t1, hrj⟩ := hrow j (by omega)
      have a30 : ∀ S2, Fm S S2 → ¬ (tw (150 + j) = nI p ∧ soB sd tw dy j (tw (6 + p)) = false) → At 30 [.ref 120, .int (nI p), .int (nI j)] [] n K S2 G P 0 := by
        intro S2 hS2 hc
        refine go [2] 60 _ _ _ _ _ _ _ _ _ ?_
        refine ih (j + 1) _ _ (by omega) (nI_1 j) hS2 (fun S3 hS3 => ?_)
        have := hQ S3 hS3
        rw [allS, if_neg hc] at this
        exact this
      refine go [2, 30] 60 _ _ _ _ _ _ _ _ _ ?_
      refine ite_f (by rw [hn, le_i, nI_toInt (by omega), nI_toInt (by omega)]; omega) ?_
      refine ite_t (ixB_nI (by omega) (by decide)) ?_
      refine ite_i (fun c => ?_) (fun c => ?_)
      · have c' := r0.symm.trans c
        have ep : p1 = p := (nI_eq (by have := hrj.1; omega) (by omega)).mp (hrj.2.2.2.2.1.symm.trans c')
        subst ep
        refine q_isSo (dy := dy) hs' (by omega) hrj (fun S2 hS2 => ?_)
        refine ite_i (fun c2 => ?_) (fun c2 => ?_)
        · have := hQ S2 (hS.tr hS2)
          rw [allS, if_pos ⟨c', b2i_0 c2⟩] at this
          exact this
        · exact a30 _ (hS.tr hS2) (fun z => by rw [b2i_n c2] at z; exact absurd z.2 (by decide))
      · exact a30 _ hS (fun z => c (r0.trans z.1))
  refine go [2] 60 _ _ _ _ _ _ _ _ _ ?_
  exact loop r 0 _ S (by omega) rfl (Fm.rf S) h
end A
end

noncomputable section
def lkV (tw : Nat → Int32) : Nat → Nat → Int32
  | 0, _ => -5
  | m + 1, i => if tw (42 + (6 * (tw (195 + i)).toNatClampNeg + (tw (203 + i)).toNatClampNeg)) = tw (211 + i) then lkV tw m (i + 1) else nI i
def rLk (tw : Nat → Int32) : Int32 := lkV tw (tw 223).toNatClampNeg 0
section A
variable {l : Launch} {L : Nat} {xs : Nat → Int32} {D : Nat} {n : Nat} {K : Mk} {S : Mi} {G : Ml} {P : Mr} {Q : QT} {N : Nat → Nat} {d : Nat → Nat → Int32} {g : Nat → Int64} {sd : Nat → Int32 × ((Nat → Int32) → Bool)}
set_option maxRecDepth 20000
theorem m_pfz {T : Tb} {x y y' z : Int32} (h1 : y = y') (h : Ok l L xs T D jX11_partOfFraction 0 [.int x, .int y', .int z] n K S G P Q) : Ok l L xs T D jX11_partOfFraction 0 [.int x, .int y, .int z] n K S G P Q := by
  subst h1
  exact h
theorem c_odds {x y z : Int32} (hI : InvC N d g sd n K S G P) (hD : DOk N d) (h : ∀ S', FrC S S' → InvC N d g sd n K S' G P → Q (some (.long (rOd sd (d 0) (N 0) (N 1) x y z))) n K S' G P) : Ok l L xs T1 (D + 12) jX11_odds 0 [.ref 32, .int x, .int y, .int z] n K S G P Q := by
  refine I_X11_odds (by decide) (fun At go => ?_)
  have hQ := h S (FrC.rf S) hI
  have np6 := hD.1.1.2
  have hR := hI.1.1.1
  have hn : S 33 0 = nI (N 0) := (RC_np hR).trans hD.1.1.1
  have ta : TA 33 := .inl rfl
  have hT := CT_of hI hD
  have a35 : ¬ ((inR (N 0) x = true ∧ inR (N 0) y = true) ∧ ¬ x = y ∧ inR 2 z = true) → At 35 [.ref 32, .int x, .int y, .int z, .retAddr 0] [] n K S G P 0 := by
    intro c
    unfold rOd at hQ
    rw [if_neg c] at hQ
    refine go [39] 60 _ _ _ _ _ _ _ _ _ ?_
    exact hQ
  refine go [35, 39] 60 _ _ _ _ _ _ _ _ _ ?_
  refine m_has ta hn np6 (fun p hp ep => ?_) (fun c => a35 (fun w => by rw [inR_f c] at w; exact absurd w.1.1 (by decide)))
  refine m_has ta hn np6 (fun q hq eq => ?_) (fun c => a35 (fun w => by rw [inR_f c] at w; exact absurd w.1.2 (by decide)))
  refine ite_i (fun c => a35 (fun w => w.2.1 c)) (fun hne => ?_)
  refine m_i0 (m := 1) (by decide) 1 rfl (fun hz => ?_) (fun c => a35 (fun w => by rw [c] at w; exact absurd w.2.2 (by decide)))
  subst ep
  subst eq
  obtain ⟨w1, k, g1, g2, g3, g4, g5, g6, g7, g8⟩ := hI.1.1.2.1 p hp
  have hpp : P (33 + 1) (nI p).toNatClampNeg = some w1 := by rw [nI_clamp (by omega)]; exact g1
  have hdy : S 33 7 = nI (N 1) := (RC_dy hR).trans hD.1.2.1.1
  have a39 : At 39 [.ref 32, .int (nI p), .int (nI q), .int z, .retAddr 0] [] n K S G P 0 := by
    refine go [35] 60 _ _ _ _ _ _ _ _ _ ?_
    refine ite_t (ixB_nI (by omega) (by decide)) ?_
    refine rf_v hpp ?_
    refine sh_p g4 ?_
    refine kg g2 (by decide) ?_
    refine m_cwz g7 hdy ?_
    refine c_words (D := D + 6) hT hp hq (hD.1.2.2.2.1 p hp).2 (by have := hD.1.2.1.2; omega) (fun S' hS => ?_)
    have hQ2 := h S' (FrC_fc hS) (IC_fc hI hD hS)
    unfold rOd at hQ2
    rw [if_pos ⟨⟨inR_nI hp (by omega), inR_nI hq (by omega)⟩, hne, hz⟩, nI_clamp (by omega), nI_clamp (by omega)] at hQ2
    refine m_bitCount ?_
    refine m_pof (b := 4) (bc_bits4 _) (by have := cB_le (fun w => cnW sd (d 0) p q (d 0 (6 + p)) (N 1) w) 4 0; omega) (by decide) (by decide) ?_
    exact hQ2
  exact a39
theorem q_odds {x y z : Int32} (hI : InvM N d g sd S G) (hD : DOk N d) (h : ∀ S', FrM S S' → InvM N d g sd S' G → Q (some (.long (rOd sd (d 0) (N 0) (N 1) x y z))) n K S' G P) : Ok l L xs T1 (D + 12) jX12_odds 0 [.ref 120, .int x, .int y, .int z] n K S G P Q := by
  refine I_X12_odds (by decide) (fun At go => ?_)
  have hQ := h S (FrM.rf S) hI
  have np6 := hD.1.1.2
  have hR := hI.1.1
  have hn : S 120 0 = nI (N 0) := (RM_np hR).trans hD.1.1.1
  have hT := MT_of hI hD
  have a23 : ¬ ((inR (N 0) x = true ∧ inR (N 0) y = true) ∧ ¬ x = y ∧ inR 2 z = true) → At 23 [.ref 120, .int x, .int y, .int z, .retAddr 0, .retAddr 0] [] n K S G P 0 := by
    intro c
    unfold rOd at hQ
    rw [if_neg c] at hQ
    refine go [27] 60 _ _ _ _ _ _ _ _ _ ?_
    exact hQ
  refine go [23, 27, 33, 53, 59] 60 _ _ _ _ _ _ _ _ _ ?_
  refine mm_are2 hn np6 (fun p q hp hq ep eq => ?_) (fun c => a23 (fun w => c w.1))
  refine ite_i (fun c => a23 (fun w => w.2.1 c)) (fun hne => ?_)
  refine mm_w0 (m := 1) (by decide) 1 rfl (fun hz => ?_) (fun c => a23 (fun w => by rw [c] at w; exact absurd w.2.2 (by decide)))
  subst ep
  subst eq
  have hQ' : ∀ S', Fm S S' → Q (some (.long (frV (cB (fun w => cnW sd (d 0) p q (d 0 (6 + p)) (N 1) w) 4 0) 4 z))) n K S' G P := fun S' hS => by
    have hQ2 := h S' (FrM_fm hS) (IM_fm hI hS)
    unfold rOd at hQ2
    rw [if_pos ⟨⟨inR_nI hp (by omega), inR_nI hq (by omega)⟩, hne, hz⟩, nI_clamp (by omega), nI_clamp (by omega)] at hQ2
    exact hQ2
  have loop : ∀ m j vj mn c S', j + m = 4 → vj = nI j → mn = nI c → c + cB (fun w => cnW sd (d 0) p q (d 0 (6 + p)) (N 1) w) m j = cB (fun w => cnW sd (d 0) p q (d 0 (6 + p)) (N 1) w) 4 0 → Fm S S' → At 33 [.ref 120, .int (nI p), .int (nI q), .int z, .int mn, .int vj] [] n K S' G P 0 := by
    intro m
    induction m with
    | zero =>
      intro j vj mn c S' hj hv em ec hS
      have e : j = 4 := by omega
      subst e
      subst hv
      have a59 : At 59 [.ref 120, .int (nI p), .int (nI q), .int z, .int mn, .int (nI 4)] [] n K S' G P 0 := by
        refine go [33] 60 _ _ _ _ _ _ _ _ _ ?_
        refine mm_part (b := 4) (a := cB (fun w => cnW sd (d 0) p q (d 0 (6 + p)) (N 1) w) 4 0) ?_ rfl (by have := cB_le (fun w => cnW sd (d 0) p q (d 0 (6 + p)) (N 1) w) 4 0; omega) (by decide) (by decide) ?_
        · rw [em, ← ec]
          rfl
        · exact hQ' S' hS
      refine go [33, 53, 59] 60 _ _ _ _ _ _ _ _ _ ?_
      exact a59
    | succ m ih =>
      intro j vj mn c S' hj hv em ec hS
      subst hv
      have a53 : ∀ S2 mn' c', Fm S S2 → mn' = nI c' → c' + cB (fun w => cnW sd (d 0) p q (d 0 (6 + p)) (N 1) w) m (j + 1) = cB (fun w => cnW sd (d 0) p q (d 0 (6 + p)) (N 1) w) 4 0 → At 53 [.ref 120, .int (nI p), .int (nI q), .int z, .int mn', .int (nI j)] [] n K S2 G P 0 := by
        intro S2 mn' c' hS2 e1 e2
        refine go [33] 60 _ _ _ _ _ _ _ _ _ ?_
        exact ih (j + 1) _ _ c' S2 (by omega) (nI_1 j) e1 e2 hS2
      rw [cB] at ec
      refine go [33, 53, 59] 60 _ _ _ _ _ _ _ _ _ ?_
      refine ite_f (by rw [le_i, t_4, nI_toInt (by omega)]; omega) ?_
      refine q_now (D := D + 6) (dy := N 1) (MT1_fm hS hT) hp hq (by omega) (fun S2 hS2 => ?_)
      refine ite_i (fun c2 => ?_) (fun c2 => ?_)
      · rw [b2i_0 c2] at ec
        have ec' : c + (0 + cB (fun w => cnW sd (d 0) p q (d 0 (6 + p)) (N 1) w) m (j + 1)) = cB (fun w => cnW sd (d 0) p q (d 0 (6 + p)) (N 1) w) 4 0 := ec
        exact a53 _ _ c (hS.tr hS2) em (by omega)
      · rw [b2i_n c2] at ec
        have ec' : c + (1 + cB (fun w => cnW sd (d 0) p q (d 0 (6 + p)) (N 1) w) m (j + 1)) = cB (fun w => cnW sd (d 0) p q (d 0 (6 + p)) (N 1) w) 4 0 := ec
        exact a53 _ _ (c + 1) (hS.tr hS2) (by rw [em]; exact nI_1 c) (by omega)
  have a27 : At 27 [.ref 120, .int (nI p), .int (nI q), .int z, .retAddr 0, .retAddr 0] [] n K S G P 0 := by
    refine go [33] 60 _ _ _ _ _ _ _ _ _ ?_
    exact loop 4 0 _ _ 0 S rfl rfl rfl (Nat.zero_add _) (Fm.rf S)
  exact a27
theorem c_mean {z : Int32} (hI : InvC N d g sd n K S G P) (hD : DOk N d) (h : ∀ S', FrC S S' → InvC N d g sd n K S' G P → Q (some (.long (rMe (d 0) (N 0) z))) n K S' G P) : Ok l L xs T1 (D + 12) jX11_mean 0 [.ref 32, .int z] n K S G P Q := by
  refine I_X11_mean (by decide) (fun At go => ?_)
  have hQ := h S (FrC.rf S) hI
  have np6 := hD.1.1.2
  have hR := hI.1.1.1
  have hn : S 33 0 = nI (N 0) := (RC_np hR).trans hD.1.1.1
  have ta : TA 33 := .inl rfl
  have ht : ∀ i, i < 36 → S (33 + 4) i = tlT (d 0) i := fun i hi => RC_ta hR i hi
  have a18 : ¬ (inR 2 z = true ∧ ¬ N 0 = 0) → At 18 [.ref 32, .int z] [] n K S G P 0 := by
    intro c
    unfold rMe at hQ
    rw [if_neg c] at hQ
    refine go [22] 60 _ _ _ _ _ _ _ _ _ ?_
    exact hQ
  refine go [18, 22] 60 _ _ _ _ _ _ _ _ _ ?_
  refine m_i0 (m := 1) (by decide) 1 rfl (fun hz => ?_) (fun c => a18 (fun w => by rw [c] at w; exact absurd w.1 (by decide)))
  refine ite_i (fun c => ?_) (fun c => ?_)
  · have c' := hn.symm.trans c
    rw [eq_i, nI_toInt (by omega), t_0] at c'
    exact a18 (fun w => w.2 (by omega))
  · have h0 : ¬ N 0 = 0 := fun e => c (hn.trans (by rw [e]; rfl))
    unfold rMe at hQ
    rw [if_pos ⟨hz, h0⟩] at hQ
    obtain ⟨r, hr, er⟩ := allT_n (ta := tlT (d 0)) hD.1.2.2.2.2.2.1 np6 (N 0) 0 0 (by omega)
    have er' : allT (tlT (d 0)) (N 0) (N 0) 0 0 = nI r := er
    have a22 : At 22 [.ref 32, .int z] [] n K S G P 0 := by
      refine go [18] 60 _ _ _ _ _ _ _ _ _ ?_
      refine m_tallies ta hn np6 ht ?_
      refine m_pfz hn ?_
      rw [er', nI_clamp (by omega)] at hQ
      exact m_pof er' (by omega) (by omega) (by omega) hQ
    exact a22
theorem q_mean {z : Int32} (hI : InvM N d g sd S G) (hD : DOk N d) (h : ∀ S', FrM S S' → InvM N d g sd S' G → Q (some (.long (rMe (d 0) (N 0) z))) n K S' G P) : Ok l L xs T1 (D + 12) jX12_mean 0 [.ref 120, .int z] n K S G P Q := by
  refine I_X12_mean (by decide) (fun At go => ?_)
  have hQ := h S (FrM.rf S) hI
  have np6 := hD.1.1.2
  have hR := hI.1.1
  have hn : S 120 0 = nI (N 0) := (RM_np hR).trans hD.1.1.1
  have ht : ∀ i, i < 36 → S 125 i = tlT (d 0) i := fun i hi => RM_ta hR i hi
  have a16 : ¬ (inR 2 z = true ∧ ¬ N 0 = 0) → At 16 [.ref 120, .int z] [] n K S G P 0 := by
    intro c
    unfold rMe at hQ
    rw [if_neg c] at hQ
    refine go [20] 60 _ _ _ _ _ _ _ _ _ ?_
    exact hQ
  refine go [16, 20] 60 _ _ _ _ _ _ _ _ _ ?_
  refine mm_w0 (m := 1) (by decide) 1 rfl (fun hz => ?_) (fun c => a16 (fun w => by rw [c] at w; exact absurd w.1 (by decide)))
  refine ite_i (fun c => ?_) (fun c => ?_)
  · have c' := hn.symm.trans c
    rw [eq_i, nI_toInt (by omega), t_0] at c'
    exact a16 (fun w => w.2 (by omega))
  · have h0 : ¬ N 0 = 0 := fun e => c (hn.trans (by rw [e]; rfl))
    unfold rMe at hQ
    rw [if_pos ⟨hz, h0⟩] at hQ
    obtain ⟨r, hr, er⟩ := allT_n (ta := tlT (d 0)) hD.1.2.2.2.2.2.1 np6 (N 0) 0 0 (by omega)
    have er' : allT (tlT (d 0)) (N 0) (N 0) 0 0 = nI r := er
    have a20 : At 20 [.ref 120, .int z] [] n K S G P 0 := by
      refine go [16] 60 _ _ _ _ _ _ _ _ _ ?_
      refine mm_allTallies hn np6 ht ?_
      rw [er', nI_clamp (by omega)] at hQ
      exact mm_part er' hn (by omega) (by omega) (by omega) hQ
    exact a20
theorem c_looked (hI : InvC N d g sd n K S G P) (hD : DOk N d) (h : ∀ S', FrC S S' → InvC N d g sd n K S' G P → Q (some (.int (rLk (d 0)))) n K S' G P) : Ok l L xs T1 (D + 12) jX11_looked 0 [.ref 32] n K S G P Q := by
  refine I_X11_looked (by decide) (fun At go => ?_)
  have hQ := h S (FrC.rf S) hI
  have np6 := hD.1.1.2
  have hR := hI.1.1.1
  obtain ⟨r, r8, er, hrow⟩ := tk_book hD.1
  have hn : S 33 14 = nI r := (RC_nb hR).trans er
  have loop : ∀ m j vj x2, j + m = r → vj = nI j → Q (some (.int (lkV (d 0) m j))) n K S G P → At 2 [.ref 32, .int vj, x2] [] n K S G P 0 := by
    intro m
    induction m with
    | zero =>
      intro j vj x2 hj hv hQ
      subst hv
      have a70 : At 70 [.ref 32, .int (nI j), x2] [] n K S G P 0 := by
        refine go [2] 60 _ _ _ _ _ _ _ _ _ ?_
        exact hQ
      refine go [2, 64, 70] 60 _ _ _ _ _ _ _ _ _ ?_
      refine ite_t (by rw [hn, le_i, nI_toInt (by omega), nI_toInt (by omega)]; omega) ?_
      exact a70
    | succ m ih =>
      intro j vj x2 hj hv hQ
      subst hv
      obtain ⟨p, q, hp, hq, ep, eq⟩ := hrow j (by omega)
      have e0 : nI j * 3 = nI (3 * j) := by rw [show (3 : Int32) = nI 3 from rfl, pk_mul, Nat.mul_comm]
      have a17 : ∀ va, va = nI (3 * j) → At 17 [.ref 32, .int (nI j), .int va] [] n K S G P 0 := by
        intro va eva
        subst eva
        have x0 : ∀ i, i < 3 → ixB (nI (3 * j) + nI i) 24 = true := fun i hi => by rw [nI_add]; exact ixB_nI (by omega) (by decide)
        have r0 : S 42 (nI (3 * j)).toNatClampNeg = nI p := by rw [nI_clamp (by omega)]; exact (RC_bb hR j (by omega)).trans ep
        have r1 : S 42 (nI (3 * j) + 1).toNatClampNeg = nI q := by rw [show (1 : Int32) = nI 1 from rfl, nI_add, nI_clamp (by omega)]; exact (RC_bt hR j (by omega)).trans eq
        have r2 : S 42 (nI (3 * j) + 2).toNatClampNeg = d 0 (211 + j) := by rw [show (2 : Int32) = nI 2 from rfl, nI_add, nI_clamp (by omega)]; exact RC_bl hR j (by omega)
        have rp : S 42 (nI (3 * j)).toNatClampNeg * 6 + S 42 (nI (3 * j) + 1).toNatClampNeg = nI (6 * p + q) := by rw [r0, r1, ix6]
        have r3 : S 37 (S 42 (nI (3 * j)).toNatClampNeg * 6 + S 42 (nI (3 * j) + 1).toNatClampNeg).toNatClampNeg = d 0 (42 + (6 * p + q)) := by rw [rp, nI_clamp (by omega)]; exact RC_ta hR _ (by omega)
        have x3 : ixB (S 42 (nI (3 * j)).toNatClampNeg * 6 + S 42 (nI (3 * j) + 1).toNatClampNeg) 36 = true := by rw [rp]; exact ixB_nI (by omega) (by decide)
        rw [lkV, ep, eq, nI_clamp (by omega), nI_clamp (by omega)] at hQ
        refine go [2, 64, 70] 60 _ _ _ _ _ _ _ _ _ ?_
        refine ite_t (ixB_nI (by omega) (by decide)) ?_
        refine ite_t (x0 1 (by decide)) ?_
        refine m_pair ?_
        refine ite_t x3 ?_
        refine ite_t (x0 2 (by decide)) ?_
        refine ite_i (fun c => ?_) (fun c => ?_)
        · rw [if_pos (r3.symm.trans (c.trans r2))] at hQ
          have a64 : At 64 [.ref 32, .int (nI j), .int (nI (3 * j))] [] n K S G P 0 := by
            refine go [2] 60 _ _ _ _ _ _ _ _ _ ?_
            exact ih (j + 1) _ _ (by omega) (nI_1 j) hQ
          exact a64
        · rw [if_neg (fun z => c (r3.trans (z.trans r2.symm)))] at hQ
          exact hQ
      refine go [2, 17, 64, 70] 60 _ _ _ _ _ _ _ _ _ ?_
      refine ite_f (by rw [hn, le_i, nI_toInt (by omega), nI_toInt (by omega)]; omega) ?_
      exact a17 _ e0
  unfold rLk at hQ
  rw [er, nI_clamp (by omega)] at hQ
  refine go [2] 60 _ _ _ _ _ _ _ _ _ ?_
  exact loop r 0 _ _ (by omega) rfl hQ
theorem q_looked (hI : InvM N d g sd S G) (hD : DOk N d) (h : ∀ S', FrM S S' → InvM N d g sd S' G → Q (some (.int (rLk (d 0)))) n K S' G P) : Ok l L xs T1 (D + 12) jX12_looked 0 [.ref 120] n K S G P Q := by
  refine I_X12_looked (by decide) (fun At go => ?_)
  have hQ := h S (FrM.rf S) hI
  have np6 := hD.1.1.2
  have hR := hI.1.1
  obtain ⟨r, r8, er, hrow⟩ := tk_book hD.1
  have hn : S 120 34 = nI r := (RM_nb hR).trans er
  have loop : ∀ m j vj, j + m = r → vj = nI j → Q (some (.int (lkV (d 0) m j))) n K S G P → At 2 [.ref 120, .int vj] [] n K S G P 0 := by
    intro m
    induction m with
    | zero =>
      intro j vj hj hv hQ
      subst hv
      have a48 : At 48 [.ref 120, .int (nI j)] [] n K S G P 0 := by
        refine go [2] 60 _ _ _ _ _ _ _ _ _ ?_
        exact hQ
      refine go [2, 42, 48] 60 _ _ _ _ _ _ _ _ _ ?_
      refine ite_t (by rw [hn, le_i, nI_toInt (by omega), nI_toInt (by omega)]; omega) ?_
      exact a48
    | succ m ih =>
      intro j vj hj hv hQ
      subst hv
      obtain ⟨p, q, hp, hq, ep, eq⟩ := hrow j (by omega)
      have r0 : S 143 (nI j).toNatClampNeg = nI p := by rw [nI_clamp (by omega)]; exact (RM_bb hR j (by omega)).trans ep
      have r1 : S 144 (nI j).toNatClampNeg = nI q := by rw [nI_clamp (by omega)]; exact (RM_bt hR j (by omega)).trans eq
      have r2 : S 145 (nI j).toNatClampNeg = d 0 (211 + j) := by rw [nI_clamp (by omega)]; exact RM_bl hR j (by omega)
      have rp : 6 * S 143 (nI j).toNatClampNeg + S 144 (nI j).toNatClampNeg = nI (6 * p + q) := by rw [r0, r1, ix6m]
      have r3 : S 125 (6 * S 143 (nI j).toNatClampNeg + S 144 (nI j).toNatClampNeg).toNatClampNeg = d 0 (42 + (6 * p + q)) := by rw [rp, nI_clamp (by omega)]; exact RM_ta hR _ (by omega)
      have x3 : ixB (6 * S 143 (nI j).toNatClampNeg + S 144 (nI j).toNatClampNeg) 36 = true := by rw [rp]; exact ixB_nI (by omega) (by decide)
      have x8 : ixB (nI j) 8 = true := ixB_nI (by omega) (by decide)
      rw [lkV, ep, eq, nI_clamp (by omega), nI_clamp (by omega)] at hQ
      refine go [2, 42, 48] 60 _ _ _ _ _ _ _ _ _ ?_
      refine ite_f (by rw [hn, le_i, nI_toInt (by omega), nI_toInt (by omega)]; omega) ?_
      refine ite_t x8 ?_
      refine ite_t x8 ?_
      refine ite_t x3 ?_
      refine ite_t x8 ?_
      refine ite_i (fun c => ?_) (fun c => ?_)
      · rw [if_pos (r3.symm.trans (c.trans r2))] at hQ
        have a42 : At 42 [.ref 120, .int (nI j)] [] n K S G P 0 := by
          refine go [2] 60 _ _ _ _ _ _ _ _ _ ?_
          exact ih (j + 1) _ (by omega) (nI_1 j) hQ
        exact a42
      · rw [if_neg (fun z => c (r3.trans (z.trans r2.symm)))] at hQ
        exact hQ
  unfold rLk at hQ
  rw [er, nI_clamp (by omega)] at hQ
  refine go [2] 60 _ _ _ _ _ _ _ _ _ ?_
  exact loop r 0 _ (by omega) rfl hQ
end A
end

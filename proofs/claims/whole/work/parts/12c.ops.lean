noncomputable section
theorem inR_f {np : Nat} {x : Int32} (h : ¬ (0 ≤ x.toInt ∧ x.toInt < (np : Int))) : inR np x = false := by
  unfold inR
  rw [Bool.and_eq_false_iff]
  by_cases h0 : 0 ≤ x.toInt
  · exact .inr (decide_eq_false (fun z => h ⟨h0, z⟩))
  · exact .inl (decide_eq_false h0)
section A
variable {l : Launch} {L : Nat} {xs : Nat → Int32} {D : Nat} {n : Nat} {K : Mk} {S : Mi} {G : Ml} {P : Mr} {Q : QT} {N : Nat → Nat} {d : Nat → Nat → Int32} {g : Nat → Int64} {sd : Nat → Int32 × ((Nat → Int32) → Bool)}
set_option maxRecDepth 20000
/-- two people, both there -/
theorem mm_are2 {np : Nat} (hn : S 120 0 = nI np) (h6 : np ≤ 6) {x y : Int32} (h1 : ∀ p q, p < np → q < np → x = nI p → y = nI q → Q (some (.int 1)) n K S G P) (h0 : ¬ (inR np x = true ∧ inR np y = true) → Q (some (.int 0)) n K S G P) : Ok l L xs T1 (D + 3) jX12_are 0 [.ref 120, .int x, .int y] n K S G P Q := by
  refine mm_are hn h6 (fun p k hp hk ep ek => h1 p k hp hk ep ek) (fun c => h0 (fun w => c ?_))
  rcases inR_c np x with ⟨p, hp, ep⟩ | e
  · rcases inR_c np y with ⟨q, hq, eq⟩ | e
    · rw [ep, eq, nI_toInt (by omega), nI_toInt (by omega)]
      omega
    · rw [e] at w; exact absurd w.2 (by decide)
  · rw [e] at w; exact absurd w.1 (by decide)
theorem mm_w0 {x : Int32} {m : Nat} (hm : m < 100) (b : Int32) (hb : b.toInt = (m : Int)) {T : Tb} (h1 : inR (m + 1) x = true → Q (some (.int 1)) n K S G P) (h0 : inR (m + 1) x = false → Q (some (.int 0)) n K S G P) : Ok l L xs T (D + 1) jX12_within 0 [.int x, .int 0, .int b] n K S G P Q := by
  refine m_within (fun c1 c2 => h1 ?_) (fun c => h0 (inR_f ?_))
  · rw [t_0] at c1
    exact inR_lt c1 (by omega)
  · rw [t_0] at c
    omega
theorem m_i0 {x : Int32} {m : Nat} (hm : m < 100) (b : Int32) (hb : b.toInt = (m : Int)) {T : Tb} (h1 : inR (m + 1) x = true → Q (some (.int 1)) n K S G P) (h0 : inR (m + 1) x = false → Q (some (.int 0)) n K S G P) : Ok l L xs T (D + 1) jX11_isWithin 0 [.int x, .int b] n K S G P Q := by
  refine m_isWithin (fun c1 c2 => h1 ?_) (fun c => h0 (inR_f ?_))
  · exact inR_lt c1 (by omega)
  · omega
theorem mm_isWord2 {x : Int32} {T : Tb} (h1 : inR 4 x = true → Q (some (.int 1)) n K S G P) (h0 : inR 4 x = false → Q (some (.int 0)) n K S G P) : Ok l L xs T (D + 2) jX12_isWord 0 [.int x] n K S G P Q := by
  refine m_isWord (fun c1 c2 => h1 (inR_lt c1 (by omega))) (fun c => h0 (inR_f (by omega)))
theorem inR_ex {np : Nat} {x : Int32} (h : inR np x = true) : ∃ p, p < np ∧ x = nI p := by
  rcases inR_c np x with h1 | e
  · exact h1
  · rw [h] at e; cases e
theorem q_between {x y z : Int32} (hI : InvM N d g sd S G) (hD : DOk N d) (h : ∀ S', FrM S S' → InvM N d g sd S' G → Q (some (.int (rBt sd (d 0) (N 0) (N 1) x y z))) n K S' G P) : Ok l L xs T1 (D + 12) jX12_between 0 [.ref 120, .int x, .int y, .int z] n K S G P Q := by
  refine I_X12_between (by decide) (fun At go => ?_)
  have hQ := h S (FrM.rf S) hI
  have np6 := hD.1.1.2
  have hR := hI.1.1
  have hn : S 120 0 = nI (N 0) := (RM_np hR).trans hD.1.1.1
  have hT := MT_of hI hD
  have a18 : ¬ (inR (N 0) x = true ∧ inR (N 0) y = true ∧ inR 6 z = true) → At 18 [.ref 120, .int x, .int y, .int z, .retAddr 0] [] n K S G P 0 := by
    intro c
    unfold rBt at hQ
    rw [if_neg c] at hQ
    refine go [18, 20, 28] 60 _ _ _ _ _ _ _ _ _ ?_
    exact hQ
  refine go [18, 20, 28] 60 _ _ _ _ _ _ _ _ _ ?_
  refine mm_are2 hn np6 (fun p q hp hq ep eq => ?_) (fun c => a18 (fun w => c ⟨w.1, w.2.1⟩))
  subst ep
  subst eq
  refine mm_w0 (m := 5) (by decide) 5 rfl (fun hz => ?_) (fun c => a18 (fun w => by rw [c] at w; exact absurd w.2.2 (by decide)))
  have hQ' : ∀ S', FrM S S' → InvM N d g sd S' G → Q (some (.int (if nI p = nI q then -2 else (if z = 0 then d 0 (42 + (6 * p + q)) else if z = 1 then d 0 (78 + (6 * p + q)) else if z = 2 then d 0 (114 + (6 * p + q)) else if z = 3 then fwV (fun w => cnW sd (d 0) p q (d 0 (6 + p)) (N 1) w) 4 0 else if z = 4 then twT sd (d 0) (N 1) p q else awT sd (d 0) (N 1) p q)))) n K S' G P := by
    intro S' f1 f2
    have := h S' f1 f2
    unfold rBt at this
    rw [if_pos ⟨inR_nI hp (by omega), inR_nI hq (by omega), hz⟩, nI_clamp (by omega), nI_clamp (by omega)] at this
    exact this
  have a28 : ¬ nI p = nI q → At 28 [.ref 120, .int (nI p), .int (nI q), .int z, .retAddr 0] [] n K S G P 0 := by
    intro c
    rw [if_neg c] at hQ'
    have hQ := hQ' S (FrM.rf S) hI
    have xi := @ix6m p q
    have x36 : ixB (6 * nI p + nI q) 36 = true := by rw [xi]; exact ixB_nI (by omega) (by decide)
    have e0 : S 125 (6 * nI p + nI q).toNatClampNeg = d 0 (42 + (6 * p + q)) := by rw [xi, nI_clamp (by omega)]; exact RM_ta hR _ (by omega)
    have e1 : S 126 (6 * nI p + nI q).toNatClampNeg = d 0 (78 + (6 * p + q)) := by rw [xi, nI_clamp (by omega)]; exact RM_us hR _ (by omega)
    have e2 : S 127 (6 * nI p + nI q).toNatClampNeg = d 0 (114 + (6 * p + q)) := by rw [xi, nI_clamp (by omega)]; exact RM_la hR _ (by omega)
    refine go [18, 20, 28] 60 _ _ _ _ _ _ _ _ _ ?_
    refine ite_i (fun c => ?_) (fun c => ?_)
    · rw [if_pos c, ← e0] at hQ
      refine ite_t x36 ?_
      exact hQ
    rw [if_neg c] at hQ hQ'
    refine ite_i (fun c => ?_) (fun c => ?_)
    · rw [if_pos c, ← e1] at hQ
      refine ite_t x36 ?_
      exact hQ
    rw [if_neg c] at hQ hQ'
    refine ite_i (fun c => ?_) (fun c => ?_)
    · rw [if_pos c, ← e2] at hQ
      refine ite_t x36 ?_
      exact hQ
    rw [if_neg c] at hQ hQ'
    refine ite_i (fun c => ?_) (fun c => ?_)
    · rw [if_pos c] at hQ'
      refine q_firstWord (D := D + 5) (dy := N 1) hT hp hq (fun S' hS => ?_)
      exact hQ' S' (FrM_fm hS) (IM_fm hI hS)
    rw [if_neg c] at hQ hQ'
    refine ite_i (fun c => ?_) (fun c => ?_)
    · rw [if_pos c] at hQ'
      refine q_twice (dy := N 1) (D := D + 4) hT hp hq (fun S' hS => ?_)
      exact hQ' S' (FrM_fm hS) (IM_fm hI hS)
    rw [if_neg c] at hQ hQ'
    refine q_await (dy := N 1) (D := D + 3) hT hp hq (fun S' hS => ?_)
    exact hQ' S' (FrM_fm hS) (IM_fm hI hS)
  have a20 : At 20 [.ref 120, .int (nI p), .int (nI q), .int z, .retAddr 0] [] n K S G P 0 := by
    refine go [18, 20, 28] 60 _ _ _ _ _ _ _ _ _ ?_
    refine ite_i (fun c => ?_) (fun c => ?_)
    · have := hQ' S (FrM.rf S) hI
      rw [if_pos c] at this
      exact this
    · exact a28 c
  exact a20
theorem c_counts {x y z : Int32} (hI : InvC N d g sd n K S G P) (hD : DOk N d) (h : ∀ S', FrC S S' → InvC N d g sd n K S' G P → Q (some (.int (rCo sd (d 0) (N 0) (N 1) x y z))) n K S' G P) : Ok l L xs T1 (D + 12) jX11_counts 0 [.ref 32, .int x, .int y, .int z] n K S G P Q := by
  refine I_X11_counts (by decide) (fun At go => ?_)
  have hQ := h S (FrC.rf S) hI
  have np6 := hD.1.1.2
  have hR := hI.1.1.1
  have hn : S 33 0 = nI (N 0) := (RC_np hR).trans hD.1.1.1
  have hT := CT_of hI hD
  refine go [17, 56, 57] 60 _ _ _ _ _ _ _ _ _ ?_
  refine m_fault (np := N 0) hn np6 ?_
  have a17 : ∀ p q w, p < N 0 → q < N 0 → w < 4 → x = nI p → y = nI q → z = nI w → ¬ x = y → At 17 [.ref 32, .int x, .int y, .int z, .int 0] [] n K S G P 0 := by
    intro p q w hp hq hw ep eq ew hne
    subst ep
    subst eq
    subst ew
    have hQ' : ∀ S', FrC S S' → InvC N d g sd n K S' G P → Q (some (.int (b2i (cnW sd (d 0) p q (d 0 (6 + p)) (N 1) w)))) n K S' G P := by
      intro S' f1 f2
      have := h S' f1 f2
      unfold rCo at this
      rw [if_pos ⟨inR_nI hp (by omega), inR_nI hq (by omega), inR_nI hw (by omega)⟩, if_neg hne, nI_clamp (by omega), nI_clamp (by omega), nI_clamp (by omega)] at this
      exact this
    obtain ⟨w1, k, g1, g2, g3, g4, g5, g6, g7, g8⟩ := hI.1.1.2.1 p hp
    have hpp : P (33 + 1) (nI p).toNatClampNeg = some w1 := by rw [nI_clamp (by omega)]; exact g1
    have hdy : S 33 7 = nI (N 1) := (RC_dy hR).trans hD.1.2.1.1
    have a57 : ∀ S' r, Q (some (.int r)) n K S' G P → At 57 [.ref 32, .int (nI p), .int (nI q), .int (nI w), .int 0] [.int r] n K S' G P 0 := by
      intro S' r hr
      refine go [17] 60 _ _ _ _ _ _ _ _ _ ?_
      exact hr
    refine go [17, 56, 57] 60 _ _ _ _ _ _ _ _ _ ?_
    refine ite_t (ixB_nI (by omega) (by decide)) ?_
    refine rf_v hpp ?_
    refine sh_p g4 ?_
    refine kg g2 (by decide) ?_
    refine m_cwz g7 hdy ?_
    refine c_words (D := D + 6) hT hp hq (hD.1.2.2.2.1 p hp).2 (by have := hD.1.2.1.2; omega) (fun S' hS => ?_)
    have hQ2 := hQ' S' (FrC_fc hS) (IC_fc hI hD hS)
    refine m_hasBit (fun c => ?_) (fun c => ?_)
    · rw [hb_bits4 _ hw] at c
      rw [c] at hQ2
      exact a57 _ _ hQ2
    · rw [hb_bits4 _ hw] at c
      rw [Bool.not_eq_true] at c
      rw [c] at hQ2
      have a56 : At 56 [.ref 32, .int (nI p), .int (nI q), .int (nI w), .int 0] [] n K S' G P 0 := by
        refine go [17, 57] 60 _ _ _ _ _ _ _ _ _ ?_
        exact a57 _ _ hQ2
      exact a56
  by_cases hv : inR (N 0) x = true ∧ inR (N 0) y = true ∧ inR 4 z = true
  · obtain ⟨p, hp, ep⟩ := inR_ex hv.1
    obtain ⟨q, hq, eq⟩ := inR_ex hv.2.1
    obtain ⟨w, hw, ew⟩ := inR_ex hv.2.2
    by_cases he : x = y
    · have ef : flt (N 0) x y z = -2 := by unfold flt; rw [if_pos hv, if_pos he]
      unfold rCo at hQ
      rw [if_pos hv, if_pos he] at hQ
      rw [ef]
      exact hQ
    · have ef : flt (N 0) x y z = 0 := by unfold flt; rw [if_pos hv, if_neg he]
      rw [ef]
      exact a17 p q w hp hq hw ep eq ew he
  · have ef : flt (N 0) x y z = -1 := by unfold flt; rw [if_neg hv]
    unfold rCo at hQ
    rw [if_neg hv] at hQ
    rw [ef]
    exact hQ
theorem q_counts {x y z : Int32} (hI : InvM N d g sd S G) (hD : DOk N d) (h : ∀ S', FrM S S' → InvM N d g sd S' G → Q (some (.int (rCo sd (d 0) (N 0) (N 1) x y z))) n K S' G P) : Ok l L xs T1 (D + 12) jX12_counts 0 [.ref 120, .int x, .int y, .int z] n K S G P Q := by
  refine I_X12_counts (by decide) (fun At go => ?_)
  have hQ := h S (FrM.rf S) hI
  have np6 := hD.1.1.2
  have hR := hI.1.1
  have hn : S 120 0 = nI (N 0) := (RM_np hR).trans hD.1.1.1
  have hT := MT_of hI hD
  have a16 : ¬ (inR (N 0) x = true ∧ inR (N 0) y = true ∧ inR 4 z = true) → At 16 [.ref 120, .int x, .int y, .int z] [] n K S G P 0 := by
    intro c
    unfold rCo at hQ
    rw [if_neg c] at hQ
    refine go [16, 18, 26, 40, 41] 60 _ _ _ _ _ _ _ _ _ ?_
    exact hQ
  refine go [16, 18, 26, 40, 41] 60 _ _ _ _ _ _ _ _ _ ?_
  refine mm_are2 hn np6 (fun p q hp hq ep eq => ?_) (fun c => a16 (fun w => c ⟨w.1, w.2.1⟩))
  subst ep
  subst eq
  refine mm_isWord2 (fun hz => ?_) (fun c => a16 (fun w => by rw [c] at w; exact absurd w.2.2 (by decide)))
  obtain ⟨w, hw, ew⟩ := inR_ex hz
  subst ew
  have a41 : ∀ S' r, Q (some (.int r)) n K S' G P → At 41 [.ref 120, .int (nI p), .int (nI q), .int (nI w)] [.int r] n K S' G P 0 := by
    intro S' r hr
    refine go [18] 60 _ _ _ _ _ _ _ _ _ ?_
    exact hr
  have a26 : ¬ nI p = nI q → At 26 [.ref 120, .int (nI p), .int (nI q), .int (nI w)] [] n K S G P 0 := by
    intro c
    refine go [16, 18, 26, 40, 41] 60 _ _ _ _ _ _ _ _ _ ?_
    refine q_now (D := D + 6) (dy := N 1) hT hp hq hw (fun S' hS => ?_)
    have hQ2 := h S' (FrM_fm hS) (IM_fm hI hS)
    unfold rCo at hQ2
    rw [if_pos ⟨inR_nI hp (by omega), inR_nI hq (by omega), inR_nI hw (by omega)⟩, if_neg c, nI_clamp (by omega), nI_clamp (by omega), nI_clamp (by omega)] at hQ2
    refine ite_i (fun c => ?_) (fun c => ?_)
    · rw [c] at hQ2
      have a40 : At 40 [.ref 120, .int (nI p), .int (nI q), .int (nI w)] [] n K S' G P 0 := by
        refine go [18, 41] 60 _ _ _ _ _ _ _ _ _ ?_
        exact a41 _ _ hQ2
      exact a40
    · rw [b2i_n c] at hQ2
      exact a41 _ _ hQ2
  have a18 : At 18 [.ref 120, .int (nI p), .int (nI q), .int (nI w)] [] n K S G P 0 := by
    refine go [16, 18, 26, 40, 41] 60 _ _ _ _ _ _ _ _ _ ?_
    refine ite_i (fun c => ?_) (fun c => ?_)
    · unfold rCo at hQ
      rw [if_pos ⟨inR_nI hp (by omega), inR_nI hq (by omega), hz⟩, if_pos c] at hQ
      exact hQ
    · exact a26 c
  exact a18
theorem c_told {x : Int32} (hI : InvC N d g sd n K S G P) (hD : DOk N d) (h : ∀ S', FrC S S' → InvC N d g sd n K S' G P → Q (some (.int (rTo sd (d 0) (N 0) (N 1) x))) n K S' G P) : Ok l L xs T1 (D + 12) jX11_told 0 [.ref 32, .int x] n K S G P Q := by
  refine I_X11_told (by decide) (fun At go => ?_)
  have hQ := h S (FrC.rf S) hI
  unfold rTo at hQ
  have np6 := hD.1.1.2
  have hR := hI.1.1.1
  have hn : S 33 0 = nI (N 0) := (RC_np hR).trans hD.1.1.1
  have ta : TA 33 := .inl rfl
  have hT := CT_of hI hD
  have hdy : S 33 7 = nI (N 1) := (RC_dy hR).trans hD.1.2.1.1
  have ht : ∀ i, i < 36 → S (33 + 4) i = tlT (d 0) i := fun i hi => RC_ta hR i hi
  have hwd : ∀ i, i < 6 → S (33 + 2) i = wdT (d 0) i := fun i hi => RC_wed hR i hi
  refine go [] 60 _ _ _ _ _ _ _ _ _ ?_
  refine ite_i (fun c => ?_) (fun c => ?_)
  · rw [if_pos c, ← hdy] at hQ
    exact hQ
  rw [if_neg c] at hQ
  refine ite_i (fun c => ?_) (fun c => ?_)
  · rw [if_pos c] at hQ
    refine m_firstDay ta (hf := (hdS sd (d 0 224)).2) ?_ hQ
    rw [hI.1.1.2.2]
    exact HC_of hD.2.2.2.1 hD.1.2.2.1 hI.2.1.1
  rw [if_neg c] at hQ
  refine ite_i (fun c => ?_) (fun c => ?_)
  · rw [if_pos c] at hQ
    exact m_wedOnes ta hn np6 hwd hQ
  rw [if_neg c] at hQ
  refine ite_i (fun c => ?_) (fun c => ?_)
  · rw [if_pos c] at hQ
    exact m_tallies ta hn np6 ht hQ
  rw [if_neg c] at hQ
  refine ite_i (fun c => ?_) (fun c => ?_)
  · rw [if_pos c] at hQ
    exact m_nearPairs ta hn np6 ht hwd hQ
  rw [if_neg c] at hQ
  refine ite_i (fun c => ?_) (fun c => ?_)
  · rw [if_pos c] at hQ
    unfold nbT at hQ
    refine m_firstNear ta hn np6 ht hwd (fun k hk => ?_) (fun hk => ?_)
    · rw [hk] at hQ
      exact hQ
    · rw [hk] at hQ
      exact hQ
  rw [if_neg c] at hQ
  refine ite_i (fun c => ?_) (fun c => ?_)
  · rw [if_pos c] at hQ
    unfold nbT at hQ
    refine m_wall ta hn np6 ht hwd (fun w hw => ?_)
    rw [wlV_e hw] at hQ
    exact hQ
  rw [if_neg c] at hQ
  exact hQ
theorem q_told {x : Int32} (hI : InvM N d g sd S G) (hD : DOk N d) (h : ∀ S', FrM S S' → InvM N d g sd S' G → Q (some (.int (rTo sd (d 0) (N 0) (N 1) x))) n K S' G P) : Ok l L xs T1 (D + 12) jX12_told 0 [.ref 120, .int x] n K S G P Q := by
  refine I_X12_told (by decide) (fun At go => ?_)
  have hQ := h S (FrM.rf S) hI
  unfold rTo at hQ
  have np6 := hD.1.1.2
  have hR := hI.1.1
  have hn : S 120 0 = nI (N 0) := (RM_np hR).trans hD.1.1.1
  have hdy : S 120 8 = nI (N 1) := (RM_dy hR).trans hD.1.2.1.1
  have ht : ∀ i, i < 36 → S 125 i = tlT (d 0) i := fun i hi => RM_ta hR i hi
  have hwd : ∀ i, i < 6 → S 123 i = wdT (d 0) i := fun i hi => RM_wed hR i hi
  refine go [] 60 _ _ _ _ _ _ _ _ _ ?_
  refine ite_i (fun c => ?_) (fun c => ?_)
  · rw [if_pos c, ← hdy] at hQ
    exact hQ
  rw [if_neg c] at hQ
  refine ite_i (fun c => ?_) (fun c => ?_)
  · rw [if_pos c] at hQ
    refine mm_begin (hf := (hdS sd (d 0 224)).2) ?_ hQ
    rw [RM_hl hR]
    obtain ⟨cd, hcd⟩ := hI.2.1.2
    exact HM_of hD.2.2.2.1 hD.1.2.2.1 hcd
  rw [if_neg c] at hQ
  refine ite_i (fun c => ?_) (fun c => ?_)
  · rw [if_pos c] at hQ
    exact mm_wedNow hn np6 hwd hQ
  rw [if_neg c] at hQ
  refine ite_i (fun c => ?_) (fun c => ?_)
  · rw [if_pos c] at hQ
    exact mm_allTallies hn np6 ht hQ
  rw [if_neg c] at hQ
  refine ite_i (fun c => ?_) (fun c => ?_)
  · rw [if_pos c] at hQ
    exact mm_nearNow hn np6 ht hwd (fun _ => hQ) (fun z => absurd rfl z)
  rw [if_neg c] at hQ
  refine ite_i (fun c => ?_) (fun c => ?_)
  · rw [if_pos c] at hQ
    exact mm_nearNow hn np6 ht hwd (fun z => absurd z (by decide)) (fun _ => hQ)
  rw [if_neg c] at hQ
  refine ite_i (fun c => ?_) (fun c => ?_)
  · rw [if_pos c] at hQ
    unfold nbT at hQ
    refine mm_wall hn np6 ht hwd (fun w hw => ?_)
    rw [wlV_e hw] at hQ
    exact hQ
  rw [if_neg c] at hQ
  exact hQ
end A
end

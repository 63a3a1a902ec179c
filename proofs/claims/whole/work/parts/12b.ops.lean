noncomputable section
theorem t_v : (5 : Int32).toInt = 5 := rfl
theorem inR_lt {np : Nat} {x : Int32} (h : 0 ≤ x.toInt) (h2 : x.toInt < (np : Int)) : inR np x = true := by
  unfold inR
  rw [decide_eq_true h, decide_eq_true h2]
  rfl
theorem fwV_e (f : Nat → Bool) : fwV f 4 0 = if f 0 = true then nI 0 else if f 1 = true then nI 1 else if f 2 = true then nI 2 else if f 3 = true then nI 3 else -5 := rfl
theorem hb_hi : ∀ a b c d : Bool, ∀ k, k < 10 → 4 ≤ k → ¬ hb (b4 a b c d) (nI k) := by
  unfold hb
  decide +kernel
def flt (np : Nat) (x y z : Int32) : Int32 := if inR np x = true ∧ inR np y = true ∧ inR 4 z = true then (if x = y then -2 else 0) else -1
def rCo (sd : Nat → Int32 × ((Nat → Int32) → Bool)) (tw : Nat → Int32) (np dy : Nat) (x y z : Int32) : Int32 := if inR np x = true ∧ inR np y = true ∧ inR 4 z = true then (if x = y then -2 else b2i (cnW sd tw x.toNatClampNeg y.toNatClampNeg (tw (6 + x.toNatClampNeg)) dy z.toNatClampNeg)) else -1
def wlV (W : Int32 → Prop) (np : Nat) : Nat := @Classical.epsilon Nat ⟨0⟩ (minW W np)
theorem wlV_e {W : Int32 → Prop} {np w : Nat} (h : minW W np w) : wlV W np = w := minW_one (@Classical.epsilon_spec Nat (minW W np) ⟨w, h⟩) h
def nbT (tw : Nat → Int32) : Nat → Nat → Bool := nearB (tlT tw) (wdT tw)
def rTo (sd : Nat → Int32 × ((Nat → Int32) → Bool)) (tw : Nat → Int32) (np dy : Nat) (x : Int32) : Int32 := if x = 0 then nI dy else if x = 1 then (hdS sd (tw 224)).1 else if x = 2 then wedC (wdT tw) np 0 0 else if x = 3 then allT (tlT tw) np np 0 0 else if x = 4 then nearA (nbT tw) np np 0 0 else if x = 5 then fvO (fnA (nbT tw) np np 0) else if x = 6 then nI (wlV (wallB (nbT tw) np) np) else -1
section A
variable {l : Launch} {L : Nat} {xs : Nat → Int32} {D : Nat} {n : Nat} {K : Mk} {S : Mi} {G : Ml} {P : Mr} {Q : QT} {N : Nat → Nat} {d : Nat → Nat → Int32} {g : Nat → Int64} {sd : Nat → Int32 × ((Nat → Int32) → Bool)}
set_option maxRecDepth 20000
theorem m_fb4 {T : Tb} {f : Nat → Bool} (h : Q (some (.int (fwV f 4 0))) n K S G P) : Ok l L xs T (D + 2) jX11_firstBit 0 [.int (bits4 f)] n K S G P Q := by
  rw [fwV_e] at h
  refine m_firstBit (fun k hk hb1 hmin => ?_) (fun hmin => ?_)
  · rcases Nat.lt_or_ge k 4 with h4 | h4
    · rw [hb_bits4 f h4] at hb1
      have hm : ∀ i, i < k → ¬ f i = true := fun i hi => by have := hmin i hi; rw [hb_bits4 f (by omega)] at this; exact this
      match k, h4, hb1, hm with
      | 0, _, hb1, hm => rw [if_pos hb1] at h; exact h
      | 1, _, hb1, hm => rw [if_neg (hm 0 (by decide)), if_pos hb1] at h; exact h
      | 2, _, hb1, hm => rw [if_neg (hm 0 (by decide)), if_neg (hm 1 (by decide)), if_pos hb1] at h; exact h
      | 3, _, hb1, hm => rw [if_neg (hm 0 (by decide)), if_neg (hm 1 (by decide)), if_neg (hm 2 (by decide)), if_pos hb1] at h; exact h
    · rw [bits4_b4] at hb1
      exact absurd hb1 (hb_hi _ _ _ _ k hk h4)
  · have hm : ∀ i, i < 4 → ¬ f i = true := fun i hi => by have := hmin i (by omega); rw [hb_bits4 f hi] at this; exact this
    rw [if_neg (hm 0 (by decide)), if_neg (hm 1 (by decide)), if_neg (hm 2 (by decide)), if_neg (hm 3 (by decide))] at h
    exact h
theorem m_fault {x y z : Int32} {np : Nat} (hn : S 33 0 = nI np) (np6 : np ≤ 6) (h : Q (some (.int (flt np x y z))) n K S G P) : Ok l L xs T1 (D + 2) jX11_faultOfNo 0 [.ref 32, .int x, .int y, .int z] n K S G P Q := by
  refine I_X11_faultOfNo (by decide) (fun At go => ?_)
  have ta : TA 33 := .inl rfl
  have a30 : ¬ (inR np x = true ∧ inR np y = true ∧ inR 4 z = true) → At 30 [.ref 32, .int x, .int y, .int z] [] n K S G P 0 := by
    intro c
    unfold flt at h
    rw [if_neg c] at h
    refine go [30, 43] 60 _ _ _ _ _ _ _ _ _ ?_
    exact h
  have a43 : ∀ r, Q (some (.int r)) n K S G P → At 43 [.ref 32, .int x, .int y, .int z] [.int r] n K S G P 0 := by
    intro r hr
    refine go [30] 60 _ _ _ _ _ _ _ _ _ ?_
    exact hr
  refine go [30, 43] 60 _ _ _ _ _ _ _ _ _ ?_
  refine m_has ta hn np6 (fun p hp ep => ?_) (fun c => ?_)
  · refine m_has ta hn np6 (fun q hq eq => ?_) (fun c => ?_)
    · refine m_isWithin (fun c1 c2 => ?_) (fun c => ?_)
      · rw [t_3] at c2
        have hz : inR 4 z = true := inR_lt c1 (by omega)
        unfold flt at h
        rw [if_pos ⟨by rw [ep]; exact inR_nI hp (by omega), by rw [eq]; exact inR_nI hq (by omega), hz⟩] at h
        refine ite_i (fun c => ?_) (fun c => ?_)
        · rw [if_pos c] at h
          exact a43 _ h
        · rw [if_neg c] at h
          exact a43 _ h
      · rw [t_3] at c
        exact a30 (fun w => by
          rcases inR_c 4 z with ⟨j, hj, ej⟩ | e
          · exact c ⟨by rw [ej, nI_toInt (by omega)]; omega, by rw [ej, nI_toInt (by omega)]; omega⟩
          · rw [e] at w; exact absurd w.2.2 (by decide))
    · exact a30 (fun w => by
        rcases inR_c np y with ⟨j, hj, ej⟩ | e
        · exact c ⟨by rw [ej, nI_toInt (by omega)]; omega, by rw [ej, nI_toInt (by omega)]; omega⟩
        · rw [e] at w; exact absurd w.2.1 (by decide))
  · exact a30 (fun w => by
        rcases inR_c np x with ⟨j, hj, ej⟩ | e
        · exact c ⟨by rw [ej, nI_toInt (by omega)]; omega, by rw [ej, nI_toInt (by omega)]; omega⟩
        · rw [e] at w; exact absurd w.1 (by decide))
theorem q_firstWord {tw : Nat → Int32} {np dy ns p q : Nat} (hs : MT1 S sd tw np dy ns) (hp : p < np) (hq : q < np) (h : ∀ S', Fm S S' → Q (some (.int (fwV (fun w => cnW sd tw p q (tw (6 + p)) dy w) 4 0))) n K S' G P) : Ok l L xs T1 (D + 6) jX12_firstWord 0 [.ref 120, .int (nI p), .int (nI q)] n K S G P Q := by
  refine I_X12_firstWord (by decide) (fun At go => ?_)
  have loop : ∀ m j vj S', j + m = 4 → vj = nI j → Fm S S' → (∀ S', Fm S S' → Q (some (.int (fwV (fun w => cnW sd tw p q (tw (6 + p)) dy w) m j))) n K S' G P) → At 2 [.ref 120, .int (nI p), .int (nI q), .int vj] [] n K S' G P 0 := by
    intro m
    induction m with
    | zero =>
      intro j vj S' hj hv hS hQ
      have e : j = 4 := by omega
      subst e
      subst hv
      refine go [2] 60 _ _ _ _ _ _ _ _ _ ?_
      exact hQ S' hS
    | succ m ih =>
      intro j vj S' hj hv hS hQ
      subst hv
      refine go [2] 60 _ _ _ _ _ _ _ _ _ ?_
      refine ite_f (by rw [le_i, t_4, nI_toInt (by omega)]; omega) ?_
      refine q_now (dy := dy) (MT1_fm hS hs) hp hq (by omega) (fun S2 hS2 => ?_)
      refine ite_i (fun c => ?_) (fun c => ?_)
      · refine ih (j + 1) _ _ (by omega) (nI_1 j) (hS.tr hS2) (fun S3 hS3 => ?_)
        have := hQ S3 hS3
        rw [fwV, if_neg (by rw [b2i_0 c]; decide)] at this
        exact this
      · have := hQ S2 (hS.tr hS2)
        rw [fwV, if_pos (b2i_n c)] at this
        exact this
  refine go [2] 60 _ _ _ _ _ _ _ _ _ ?_
  exact loop 4 0 _ S rfl rfl (Fm.rf S) h
theorem m_cwz {a : Nat} {y1 y2 v v' dd dd' : Int32} (h1 : v = v') (h2 : dd = dd') (h : Ok l L xs T1 D jX9_countingWords 0 [.ref a, .int y1, .int y2, .int v', .int dd'] n K S G P Q) : Ok l L xs T1 D jX9_countingWords 0 [.ref a, .int y1, .int y2, .int v, .int dd] n K S G P Q := by
  subst h1 h2
  exact h
theorem c_between {x y z : Int32} (hI : InvC N d g sd n K S G P) (hD : DOk N d) (h : ∀ S', FrC S S' → InvC N d g sd n K S' G P → Q (some (.int (rBt sd (d 0) (N 0) (N 1) x y z))) n K S' G P) : Ok l L xs T1 (D + 12) jX11_between 0 [.ref 32, .int x, .int y, .int z] n K S G P Q := by
  refine I_X11_between (by decide) (fun At go => ?_)
  have hQ := h S (FrC.rf S) hI
  have np6 := hD.1.1.2
  have hR := hI.1.1.1
  have hn : S 33 0 = nI (N 0) := (RC_np hR).trans hD.1.1.1
  have ta : TA 33 := .inl rfl
  have hT := CT_of hI hD
  have a30 : ¬ (inR (N 0) x = true ∧ inR (N 0) y = true ∧ inR 6 z = true) → At 30 [.ref 32, .int x, .int y, .int z, .retAddr 0] [] n K S G P 0 := by
    intro c
    unfold rBt at hQ
    rw [if_neg c] at hQ
    refine go [30, 32, 40, 47] 60 _ _ _ _ _ _ _ _ _ ?_
    exact hQ
  refine go [30, 32, 40, 47] 60 _ _ _ _ _ _ _ _ _ ?_
  refine m_has ta hn np6 (fun p hp ep => ?_) (fun c => ?_)
  · refine m_has ta hn np6 (fun q hq eq => ?_) (fun c => ?_)
    · refine m_isWithin (fun c1 c2 => ?_) (fun c => ?_)
      · rw [t_5] at c2
        have hz : inR 6 z = true := inR_lt c1 (by omega)
        subst ep
        subst eq
        have hQ' : ∀ S', FrC S S' → InvC N d g sd n K S' G P → Q (some (.int (if nI p = nI q then -2 else (if z = 0 then d 0 (42 + (6 * p + q)) else if z = 1 then d 0 (78 + (6 * p + q)) else if z = 2 then d 0 (114 + (6 * p + q)) else if z = 3 then fwV (fun w => cnW sd (d 0) p q (d 0 (6 + p)) (N 1) w) 4 0 else if z = 4 then twT sd (d 0) (N 1) p q else awT sd (d 0) (N 1) p q)))) n K S' G P := by
          intro S' f1 f2
          have := h S' f1 f2
          unfold rBt at this
          rw [if_pos ⟨inR_nI hp (by omega), inR_nI hq (by omega), hz⟩, nI_clamp (by omega), nI_clamp (by omega)] at this
          exact this
        have a32 : At 32 [.ref 32, .int (nI p), .int (nI q), .int z, .retAddr 0] [] n K S G P 0 := by
          refine go [30, 32, 40, 47] 60 _ _ _ _ _ _ _ _ _ ?_
          refine ite_i (fun c => ?_) (fun c => ?_)
          · have := hQ' S (FrC.rf S) hI
            rw [if_pos c] at this
            exact this
          · rw [if_neg c] at hQ'
            have hQ := hQ' S (FrC.rf S) hI
            have a47 : At 47 [.ref 32, .int (nI p), .int (nI q), .int z, .int (nI (6 * p + q))] [] n K S G P 0 := by
              have x36 : ixB (nI (6 * p + q)) 36 = true := ixB_nI (by omega) (by decide)
              have e0 : S 37 (nI (6 * p + q)).toNatClampNeg = d 0 (42 + (6 * p + q)) := by rw [nI_clamp (by omega)]; exact RC_ta hR _ (by omega)
              have e1 : S 38 (nI (6 * p + q)).toNatClampNeg = d 0 (78 + (6 * p + q)) := by rw [nI_clamp (by omega)]; exact RC_us hR _ (by omega)
              have e2 : S 39 (nI (6 * p + q)).toNatClampNeg = d 0 (114 + (6 * p + q)) := by rw [nI_clamp (by omega)]; exact RC_la hR _ (by omega)
              obtain ⟨w, k, g1, g2, g3, g4, g5, g6, g7, g8⟩ := hI.1.1.2.1 p hp
              have hpp : P (33 + 1) (nI p).toNatClampNeg = some w := by rw [nI_clamp (by omega)]; exact g1
              have hdy : S 33 7 = nI (N 1) := (RC_dy hR).trans hD.1.2.1.1
              refine go [30, 32, 40, 47] 60 _ _ _ _ _ _ _ _ _ ?_
              refine ite_i (fun c => ?_) (fun c => ?_)
              · rw [if_pos c, ← e0] at hQ
                refine ite_t x36 ?_
                exact hQ
              rw [if_neg c] at hQ hQ'
              refine ite_i (fun c => ?_) (fun c => ?_)
              · rw [if_pos c, ← e1] at hQ
                refine ite_t x36 ?_
                exact hQ
              rw [if_neg c] at hQ hQ'
              refine ite_i (fun c => ?_) (fun c => ?_)
              · rw [if_pos c, ← e2] at hQ
                refine ite_t x36 ?_
                exact hQ
              rw [if_neg c] at hQ hQ'
              refine ite_i (fun c => ?_) (fun c => ?_)
              · rw [if_pos c] at hQ'
                refine ite_t (ixB_nI (by omega) (by decide)) ?_
                refine rf_v hpp ?_
                refine sh_p g4 ?_
                refine kg g2 (by decide) ?_
                refine m_cwz g7 hdy ?_
                refine c_words (D := D + 6) hT hp hq (hD.1.2.2.2.1 p hp).2 (by have := hD.1.2.1.2; omega) (fun S' hS => ?_)
                refine m_fb4 ?_
                exact hQ' S' (FrC_fc hS) (IC_fc hI hD hS)
              rw [if_neg c] at hQ hQ'
              refine ite_i (fun c => ?_) (fun c => ?_)
              · rw [if_pos c] at hQ'
                refine c_twice (dy := N 1) (D := D + 6) hT hp hq (fun S' hS => ?_)
                exact hQ' S' (FrC_fc hS) (IC_fc hI hD hS)
              rw [if_neg c] at hQ hQ'
              refine c_awaited (dy := N 1) (D := D + 5) hT hp hq (fun S' hS => ?_)
              exact hQ' S' (FrC_fc hS) (IC_fc hI hD hS)
            have a40 : At 40 [.ref 32, .int (nI p), .int (nI q), .int z, .retAddr 0] [] n K S G P 0 := by
              refine go [30, 32, 40, 47] 60 _ _ _ _ _ _ _ _ _ ?_
              refine m_pairN ?_
              exact a47
            exact a40
        exact a32
      · rw [t_5] at c
        exact a30 (fun w => by
          rcases inR_c 6 z with ⟨j, hj, ej⟩ | e
          · exact c ⟨by rw [ej, nI_toInt (by omega)]; omega, by rw [ej, nI_toInt (by omega)]; omega⟩
          · rw [e] at w; exact absurd w.2.2 (by decide))
    · exact a30 (fun w => by
        rcases inR_c (N 0) y with ⟨j, hj, ej⟩ | e
        · exact c ⟨by rw [ej, nI_toInt (by omega)]; omega, by rw [ej, nI_toInt (by omega)]; omega⟩
        · rw [e] at w; exact absurd w.2.1 (by decide))
  · exact a30 (fun w => by
        rcases inR_c (N 0) x with ⟨j, hj, ej⟩ | e
        · exact c ⟨by rw [ej, nI_toInt (by omega)]; omega, by rw [ej, nI_toInt (by omega)]; omega⟩
        · rw [e] at w; exact absurd w.1 (by decide))
end A
end

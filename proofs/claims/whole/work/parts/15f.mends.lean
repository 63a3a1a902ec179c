noncomputable section
def okPl (np r : Nat) (x y : Int32) : Prop := (x = 0 ∨ (x = 1 ∧ ∃ p q w, p < np ∧ q < np ∧ p ≠ q ∧ w < 4 ∧ y = nI (100 * p + 10 * q + w))) ∧ r < 10
def plV (np : Nat) (y : Int32) : Prop := 0 ≤ y.toInt ∧ y.toNatClampNeg / 100 < np ∧ y.toNatClampNeg / 10 % 10 < np ∧ y.toNatClampNeg % 10 < 4
def rPl0 (np : Nat) (x y : Int32) : Int32 := if inR 2 x = true then (if x = 1 then @ite _ (plV np y) (Classical.propDecidable _) (if y.toNatClampNeg / 100 = y.toNatClampNeg / 10 % 10 then -2 else -4) (-1) else -4) else -1
def twPl (tw : Nat → Int32) (r : Nat) (x y : Int32) : Nat → Int32 := va_up (va_up (va_up tw (175 + r) x) (185 + r) (if x = 0 then 0 else y)) 222 (nI (r + 1))
section A
variable {l : Launch} {L : Nat} {xs : Nat → Int32} {D : Nat} {n : Nat} {K : Mk} {S : Mi} {G : Ml} {P : Mr} {Q : QT} {N : Nat → Nat} {d : Nat → Nat → Int32} {g : Nat → Int64} {sd : Nat → Int32 × ((Nat → Int32) → Bool)}
set_option maxRecDepth 20000
theorem q_ends {y : Int32} (hI : InvM N d g sd S G) (hD : DOk N d) (h : ∀ S', FrM S S' → InvM N d g sd S' G → Q (some (.int (rEn sd (d 0) (N 0) (N 1) y))) n K S' G P) : Ok l L xs T1 (D + 12) jX12_ends 0 [.ref 120, .int y] n K S G P Q := by
  refine I_X12_ends (by decide) (fun At go => ?_)
  have np6 := hD.1.1.2
  have d9 := hD.2.1
  obtain ⟨r, r10, er, hrow⟩ := tk_plan hD.1
  have a11 : inR 2 y = true → At 11 [.ref 120, .int y, .retAddr 0, .retAddr 0, .retAddr 0, .retAddr 0] [] n K S G P 0 := by
    intro hy
    refine go [21] 60 _ _ _ _ _ _ _ _ _ ?_
    refine mm_keep (.inr rfl) hI.1.1 (fun S0 f1 f2 => ?_)
    have hR0 : RM (d 0) S0 := RM_fr (fun k hk => f1 _ _ (by
      have e : ∀ k, k < 225 → (mloc k).1 ≠ 148 := by decide +kernel
      exact e k hk)) hI.1.1
    -- what may have changed on the way
    have fin : ∀ S1, (∀ b j, tcell b j = false → b ≠ 135 → b ≠ 148 → S1 b j = S b j) → RM (d 0) S1 → ∀ v, v = rEn sd (d 0) (N 0) (N 1) y → Q (some (.int v)) n K S1 G P := by
      intro S1 hF hR v ev
      rw [ev]
      have hI' := InvM_tw (N' := N) hI (fun b j hb => hF b j (by
        cases e : tcell b j with
        | false => rfl
        | true =>
          exfalso
          unfold fpm at hb
          unfold tcell at e
          simp only [Bool.or_eq_true, Bool.and_eq_true, Nat.beq_eq, Nat.ble_eq] at hb e
          omega) (fun e => by subst e; cases hb) (fun e => by subst e; cases hb)) hR (fun i _ => rfl)
      rw [upR_id] at hI'
      refine h S1 (fun b j hb => hF b j (by
        cases e : tcell b j with
        | false => rfl
        | true =>
          exfalso
          unfold tcell at e
          simp only [Bool.or_eq_true, Bool.and_eq_true, Nat.beq_eq, Nat.ble_eq] at e
          omega) (by omega) (by omega)) hI'
    have loop : ∀ m i vi x3 x4 x5 S1 tw dy, i + m = r → vi = nI i → (∀ b j, tcell b j = false → b ≠ 135 → S1 b j = S0 b j) → RM tw S1 → TwOk tw (N 0) dy (N 2) → dy ≤ 9999 + i → tw 222 = nI r → enF sd (d 0 222).toNatClampNeg 0 (d 0) (N 1) = enF sd m i tw dy → At 21 [.ref 120, .int y, .int vi, x3, x4, x5] [] n K S1 G P 0 := by
      intro m
      induction m with
      | zero =>
        intro i vi x3 x4 x5 S1 tw dy hi hv hF hT hk hdy hr2 he
        subst hv
        have hn : S1 120 31 = nI r := (RM_nq hT).trans hr2
        have hnp : S1 120 0 = nI (N 0) := (RM_np hT).trans hk.1.1
        have a129 : ∀ v, v = rEn sd (d 0) (N 0) (N 1) y → At 129 [.ref 120, .int y, .int (nI i), x3, x4, x5] [.int v] n K S1 G P 0 := by
          intro v ev
          refine go [21] 60 _ _ _ _ _ _ _ _ _ ?_
          refine mm_again (tw := d 0) (.inr rfl) hT (fun k hk => (hF _ _ rfl (by decide)).trans (f2 k hk)) (fun S2 hS2 hR2 => ?_)
          exact fin S2 (fun b j h1 h2 h3 => (hS2 b j h1).trans ((hF b j h1 h2).trans (f1 b j h3))) hR2 v ev
        have a114 : At 114 [.ref 120, .int y, .int (nI i), x3, x4, x5] [] n K S1 G P 0 := by
          refine go [125, 129] 60 _ _ _ _ _ _ _ _ _ ?_
          refine ite_i (fun c => ?_) (fun c => ?_)
          · refine mm_wedNow (wd := wdT tw) hnp np6 (fun i hi => RM_wed hT i hi) ?_
            refine a129 _ ?_
            unfold rEn
            rw [if_pos hy, he, if_pos c]
            rfl
          · have a125 : At 125 [.ref 120, .int y, .int (nI i), x3, x4, x5] [] n K S1 G P 0 := by
              refine go [129] 60 _ _ _ _ _ _ _ _ _ ?_
              refine mm_allTallies (ta := tlT tw) hnp np6 (fun i hi => RM_ta hT i hi) ?_
              refine a129 _ ?_
              unfold rEn
              rw [if_pos hy, he, if_neg c]
              rfl
            exact a125
        refine go [21, 114] 60 _ _ _ _ _ _ _ _ _ ?_
        refine ite_t (by rw [hn, le_i, nI_toInt (by omega), nI_toInt (by omega)]; omega) ?_
        exact a114
      | succ m ih =>
        intro i vi x3 x4 x5 S1 tw dy hi hv hF hT hk hdy hr2 he
        subst hv
        have hn : S1 120 31 = nI r := (RM_nq hT).trans hr2
        have r0 : S1 141 (nI i).toNatClampNeg = tw (175 + i) := by rw [nI_clamp (by omega)]; exact RM_go hT i (by omega)
        have r1 : S1 142 (nI i).toNatClampNeg = tw (185 + i) := by rw [nI_clamp (by omega)]; exact RM_wh hT i (by omega)
        have x10 : ixB (nI i) 10 = true := ixB_nI (by omega) (by decide)
        have hMT : MT1 S1 sd tw (N 0) dy (N 2) := by
          obtain ⟨cd, c1, c2, c3⟩ := hI.2.1.2
          have hf : ∀ b j, tcell b j = false → b ≠ 135 → b ≠ 148 → S1 b j = S b j := fun b j h1 h2 h3 => (hF b j h1 h2).trans (f1 b j h3)
          refine ⟨hT, ⟨cd, (hf _ _ rfl (by decide) (by decide)).trans c1, c2, fun k hk => SMb_fr (Nat.le_refl _) (fun j _ => hf _ _ rfl (by decide) (by decide)) (hf _ _ rfl (by decide) (by decide)) (fun a i ha hb _ => ?_) (c3 k hk)⟩, hD.2.2.2.1, hk⟩
          have e : a = 130 ∨ a = 131 ∨ a = 132 ∨ a = 133 := by omega
          rcases e with rfl | rfl | rfl | rfl <;> exact hf _ _ rfl (by decide) (by decide)
        obtain ⟨r', q1, q2, q3⟩ := tk_plan hk
        have er' : r' = r := (nI_eq (by omega) (by omega)).mp (q2.symm.trans hr2)
        have hrow' := q3 i (by omega)
        have a108 : ∀ x3 x4 x5 S2 tw2 dy2, (∀ b j, tcell b j = false → b ≠ 135 → S2 b j = S0 b j) → RM tw2 S2 → TwOk tw2 (N 0) dy2 (N 2) → dy2 ≤ 9999 + (i + 1) → tw2 222 = nI r → enF sd (d 0 222).toNatClampNeg 0 (d 0) (N 1) = enF sd m (i + 1) tw2 dy2 → At 108 [.ref 120, .int y, .int (nI i), x3, x4, x5] [] n K S2 G P 0 := by
          intro x3 x4 x5 S2 tw2 dy2 f1 f2 f3 f4 f5 f6
          refine go [21] 60 _ _ _ _ _ _ _ _ _ ?_
          exact ih (i + 1) _ _ _ _ S2 tw2 dy2 (by omega) (nI_1 i) f1 f2 f3 f4 f5 f6
        have a64 : ∀ p' q' w' : Int32, (∀ p q w, p < 6 → q < 6 → w < 4 → tw (185 + i) = nI (100 * p + 10 * q + w) → p' = nI p ∧ q' = nI q ∧ w' = nI w) → At 64 [.ref 120, .int y, .int (nI i), .int p', .int q', .int w'] [] n K S1 G P 0 := by
          intro p' q' w' hpq
          have a86 : tw (175 + i) = 1 → At 86 [.ref 120, .int y, .int (nI i), .int p', .int q', .int w'] [] n K S1 G P 0 := by
            intro e1
            rcases hrow' with e0 | ⟨_, p, q, w, hp, hq, hpq2, hw, ew⟩
            · rw [e0] at e1; exact absurd e1 (by decide)
            · obtain ⟨g1, g2, g3⟩ := hpq p q w (by omega) (by omega) hw ew
              subst g1
              subst g2
              subst g3
              have dg := pl_dig (p := p) (q := q) (w := w) (by omega) (by omega) hw
              rw [enF, if_neg (by rw [e1]; decide), ew, nI_clamp (by omega), dg.1, dg.2.1, dg.2.2] at he
              refine go [108] 60 _ _ _ _ _ _ _ _ _ ?_
              refine q_now (D := D + 6) (dy := dy) hMT hp hq hw (fun S2 hS2 => ?_)
              have hMT2 := MT1_fm hS2 hMT
              refine ite_i (fun c => ?_) (fun c => ?_)
              · rw [if_neg (by rw [b2i_0 c]; decide)] at he
                exact a108 _ _ _ S2 _ dy (fun b j h1 h2 => (hS2 b j h2).trans (hF b j h1 h2)) hMT2.1 hk (by omega) hr2 he
              · rw [if_pos (b2i_n c)] at he
                refine mm_refuses (dy := dy) hMT2.1 (by omega) (by omega) ((RM_dy hMT2.1).trans hk.2.1.1) (fun S3 hF3 hR3 => ?_)
                refine a108 _ _ _ S3 _ dy (fun b j h1 h2 => (hF3 b j (fun e => by subst e; cases h1) (fun e => by subst e; cases h1) (fun e => by subst e; cases h1) (fun e => by subst e; cases h1) h2).trans ((hS2 b j h2).trans (hF b j h1 h2))) hR3 (TwOk_rf hp hq hk) (by omega) ?_ he
                rw [rfT_ne (by omega) (by omega) (by omega)]
                exact hr2
          refine go [86, 108] 60 _ _ _ _ _ _ _ _ _ ?_
          refine ite_t x10 ?_
          refine ite_i (fun c => ?_) (fun c => ?_)
          · have c' := r0.symm.trans c
            rw [enF, if_pos c'] at he
            have hday : S1 120 8 + 1 = nI (dy + 1) := by rw [RM_dy hT, hk.2.1.1, nI_1]
            have fin2 := a108 (.int p') (.int q') (.int w') (up2 S1 120 8 (nI (dy + 1))) _ (dy + 1) (fun b j h1 h2 => by rw [tc_o _ _ h1 rfl]; exact hF b j h1 h2) (RM_up (nI (dy + 1)) (by decide) (show mloc 220 = (120, 8) from rfl) hT) (TwOk_dy (by omega) hk) (by omega) ((va_up_ne _ _ (by decide)).trans hr2) he
            rw [← hday] at fin2
            exact fin2
          · refine a86 ?_
            rcases hrow' with e0 | e1
            · exact absurd (r0.trans e0) c
            · exact e1.1
        refine go [21, 64, 114] 60 _ _ _ _ _ _ _ _ _ ?_
        refine ite_f (by rw [hn, le_i, nI_toInt (by omega), nI_toInt (by omega)]; omega) ?_
        refine ite_t x10 ?_
        refine ite_t x10 ?_
        refine ite_t x10 ?_
        refine a64 _ _ _ (fun p q w hp hq hw ew => ?_)
        have ec := r1.trans ew
        have dg := pl_dig (p := p) (q := q) (w := w) hp hq hw
        have k1 : S1 142 (nI i).toNatClampNeg / 100 = nI p := by rw [ec, show (100 : Int32) = nI 100 from rfl, dv_i (by omega) (by decide), dg.1]
        have k2 : rmI (S1 142 (nI i).toNatClampNeg / 10) 10 = nI q := by rw [ec, show (10 : Int32) = nI 10 from rfl, dv_i (by omega) (by decide), rm_i (by omega) (by decide), dg.2.1]
        have k3 : rmI (S1 142 (nI i).toNatClampNeg) 10 = nI w := by rw [ec, show (10 : Int32) = nI 10 from rfl, rm_i (by omega) (by decide), dg.2.2]
        exact ⟨k1, k2, k3⟩
    refine loop r 0 _ _ _ _ S0 (d 0) (N 1) (by omega) rfl (fun _ _ _ _ => rfl) hR0 hD.1 (by omega) er ?_
    rw [er, nI_clamp (by omega)]
  refine go [11] 60 _ _ _ _ _ _ _ _ _ ?_
  refine mm_w0 (m := 1) (by decide) 1 rfl (fun hy => a11 hy) (fun c => ?_)
  have hQ := h S (FrM.rf S) hI
  unfold rEn at hQ
  rw [if_neg (fun w => absurd (w.symm.trans c) (by decide))] at hQ
  exact hQ
theorem flt_pl {np : Nat} {y f : Int32} (np6 : np ≤ 6) (hf : f.toInt = y.toInt / 100) : flt np f (nI (tensI y)) (nI (onesI y)) = @ite _ (plV np y) (Classical.propDecidable _) (if y.toNatClampNeg / 100 = y.toNatClampNeg / 10 % 10 then -2 else 0) (-1) := by
  by_cases hv : plV np y
  · rw [if_pos hv]
    obtain ⟨h0, h1, h2, h3⟩ := hv
    obtain ⟨m, hm, em⟩ := ex_nI h0
    subst em
    rw [nI_clamp hm] at h1 h2 h3 ⊢
    have ef : f = nI (m / 100) := nI_of' (by rw [hf, nI_toInt hm]; omega)
    have et : tensI (nI m) = m / 10 % 10 := by unfold tensI; rw [nI_toInt hm]; omega
    have eo : onesI (nI m) = m % 10 := by unfold onesI; rw [nI_toInt hm]; omega
    rw [ef, et, eo]
    unfold flt
    rw [if_pos ⟨inR_nI h1 (by omega), inR_nI h2 (by omega), inR_nI h3 (by omega)⟩]
    by_cases c : m / 100 = m / 10 % 10
    · rw [if_pos c, if_pos (by rw [c])]
    · rw [if_neg c, if_neg (fun z => c ((nI_eq (by omega) (by omega)).mp z))]
  · rw [if_neg hv]
    unfold flt
    refine if_neg (fun w => hv ?_)
    obtain ⟨p, hp, ep⟩ := inR_ex w.1
    have h0 : 0 ≤ y.toInt := by
      rw [ep, nI_toInt (by omega)] at hf
      omega
    obtain ⟨m, hm, em⟩ := ex_nI h0
    subst em
    have et : tensI (nI m) = m / 10 % 10 := by unfold tensI; rw [nI_toInt hm]; omega
    have eo : onesI (nI m) = m % 10 := by unfold onesI; rw [nI_toInt hm]; omega
    have w2 := w.2.1
    have w3 := w.2.2
    rw [et] at w2
    rw [eo] at w3
    obtain ⟨q, hq, eq⟩ := inR_ex w2
    obtain ⟨v, hv2, ev⟩ := inR_ex w3
    have e1 : m / 10 % 10 = q := (nI_eq (by omega) (by omega)).mp eq
    have e2 : m % 10 = v := (nI_eq (by omega) (by omega)).mp ev
    rw [ep, nI_toInt (by omega), nI_toInt hm] at hf
    unfold plV
    rw [nI_clamp hm]
    exact ⟨h0, by omega, by omega, by omega⟩
end A
end

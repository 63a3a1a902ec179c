noncomputable section
theorem tk_dup {α : Type} {a b : α} (h : a = b) : b = a := h.symm
section A
variable {l : Launch} {L : Nat} {xs : Nat → Int32} {D : Nat} {n : Nat} {K : Mk} {S : Mi} {G : Ml} {P : Mr} {Q : QT} {N : Nat → Nat} {d : Nat → Nat → Int32} {g : Nat → Int64} {sd : Nat → Int32 × ((Nat → Int32) → Bool)}
set_option maxRecDepth 20000
theorem fpm_120 {b i j : Nat} (hb : fpm b i = true) (hj : fpm 120 j = false) : b ≠ 120 ∨ i ≠ j := by
  refine Classical.byContradiction (fun z => ?_)
  have z1 : b = 120 := Classical.byContradiction (fun y => z (.inl y))
  have z2 : i = j := Classical.byContradiction (fun y => z (.inr y))
  subst z1
  subst z2
  rw [hb] at hj
  cases hj
theorem fpm_c {b i c : Nat} (hb : fpm b i = true) (hc : ∀ i, fpm c i = false) (j : Nat) : b ≠ c ∨ i ≠ j := by
  refine .inl (fun e => ?_)
  subst e
  exact absurd (hb.symm.trans (hc i)) (by decide)
theorem q_say {x y w t b : Int32} {r : Nat} (hI : InvM N d g sd S G) (hD : DOk N d) (hr : d 0 221 = nI r) (r5 : r ≤ 5) (h2 : x = -1 → ∀ S', FrM S S' → InvM N (upR d 0 (va_up (d 0) 221 0)) g sd S' G → Q (some (.int 0)) n K S' G P) (h1 : okSa (N 0) r x y w t → ∀ S', FrM S S' → InvM N (upR d 0 (twSa (d 0) r x y w t b)) g sd S' G → Q (some (.int (nI (r + 1)))) n K S' G P) (h0 : ¬ x = -1 → ¬ okSa (N 0) r x y w t → Q (some (.int (rSa0 (N 0) x y w t))) n K S G P) : Ok l L xs T1 (D + 12) jX12_say 0 [.ref 120, .int x, .int y, .int w, .int t, .int b] n K S G P Q := by
  refine I_X12_say (by decide) (fun At go => ?_)
  have np6 := hD.1.1.2
  have hR := hI.1.1
  have hn : S 120 0 = nI (N 0) := (RM_np hR).trans hD.1.1.1
  have hs : S 120 25 = nI r := (RM_ns hR).trans hr
  have a12 : ¬ x = -1 → At 12 [.ref 120, .int x, .int y, .int w, .int t, .int b] [] n K S G P 0 := by
    intro hx1
    have hno := h0 hx1
    unfold rSa0 at hno
    have a28 : ¬ (inR (N 0) x = true ∧ inR (N 0) y = true ∧ inR 4 w = true) → At 28 [.ref 120, .int x, .int y, .int w, .int t, .int b] [] n K S G P 0 := by
      intro c
      have hQ := hno (fun z => c z.1.1)
      rw [if_neg c] at hQ
      refine go [12] 60 _ _ _ _ _ _ _ _ _ ?_
      exact hQ
    refine go [28, 30] 60 _ _ _ _ _ _ _ _ _ ?_
    refine mm_are2 hn np6 (fun p q hp hq ep eq => ?_) (fun c => a28 (fun w => c ⟨w.1, w.2.1⟩))
    refine mm_isWord2 (fun hw => ?_) (fun c => a28 (fun w => absurd (w.2.2.symm.trans c) (by decide)))
    have hv : inR (N 0) x = true ∧ inR (N 0) y = true ∧ inR 4 w = true := ⟨by rw [ep]; exact inR_nI hp (by omega), by rw [eq]; exact inR_nI hq (by omega), hw⟩
    rw [if_pos hv] at hno
    have a46 : (x = y ∨ inR 21 t = false) → At 46 [.ref 120, .int x, .int y, .int w, .int t, .int b] [] n K S G P 0 := by
      intro c
      have hQ : Q (some (.int (-2))) n K S G P := by
        rcases c with c | c
        · have hQ := hno (fun z => z.1.2 c)
          rw [if_pos c] at hQ
          exact hQ
        · have hQ := hno (fun z => absurd (z.2.1.symm.trans c) (by decide))
          by_cases he : x = y
          · rw [if_pos he] at hQ
            exact hQ
          · rw [if_neg he, if_neg (fun z => absurd (z.symm.trans c) (by decide))] at hQ
            exact hQ
      refine go [12] 60 _ _ _ _ _ _ _ _ _ ?_
      exact hQ
    have a49 : ¬ x = y → inR 21 t = true → At 49 [.ref 120, .int x, .int y, .int w, .int t, .int b] [] n K S G P 0 := by
      intro he ht
      rw [if_neg he, if_pos ht] at hno
      have a60 : r < 5 → At 60 [.ref 120, .int x, .int y, .int w, .int t, .int b] [] n K S G P 0 := by
        intro hlt
        have es : S 120 25 + 1 = nI (r + 1) := by rw [hs, nI_1]
        have ei : (S 120 25).toNatClampNeg = r := by rw [hs, nI_clamp (by omega)]
        have x5 : ixB (S 120 25) 5 = true := by rw [hs]; exact ixB_nI hlt (by decide)
        have T1' := RM_up x (k := 150 + r) (by omega) (ml_sb r hlt) hR
        have T2' := RM_up y (k := 155 + r) (by omega) (ml_st r hlt) T1'
        have T3' := RM_up w (k := 160 + r) (by omega) (ml_sw r hlt) T2'
        have T4' := RM_up t (k := 165 + r) (by omega) (ml_si r hlt) T3'
        have T5' := RM_up (nI (r + 1)) (k := 221) (by omega) (show mloc 221 = (120, 25) from rfl) T4'
        have T6' := RM_up (if b = 0 then 0 else 1) (k := 170 + r) (by omega) (ml_ss r hlt) T5'
        have T7' : RM (twSa (d 0) r x y w t b) _ := RM_eq (fun k _ => congrFun (va_up_comm _ _ _ (by omega)) k) T6'
        have fin := h1 ⟨⟨hv, he⟩, ht, hlt⟩ _ (fun b i q1 => by rw [up2_o _ _ (by omega), up2_o _ _ (by omega), up2_o _ _ (by omega), up2_o _ _ (by omega), up2_o _ _ (by omega), up2_o _ _ (by omega)]) (InvM_tw hI (fun b i hb => by rw [up2_o _ _ (fpm_c hb (fun _ => rfl) _), up2_o _ _ (fpm_120 hb rfl), up2_o _ _ (fpm_c hb (fun _ => rfl) _), up2_o _ _ (fpm_c hb (fun _ => rfl) _), up2_o _ _ (fpm_c hb (fun _ => rfl) _), up2_o _ _ (fpm_c hb (fun _ => rfl) _)]) T7' (fun i _ => rfl))
        have fin2 : ∀ v, v = (if b = 0 then 0 else 1) → Q (some (.int (S 120 25 + 1))) n K (up2 (up2 (up2 (up2 (up2 (up2 S 136 (S 120 25).toNatClampNeg x) 137 (S 120 25).toNatClampNeg y) 138 (S 120 25).toNatClampNeg w) 139 (S 120 25).toNatClampNeg t) 120 25 (S 120 25 + 1)) 140 (S 120 25).toNatClampNeg v) G P := by
          intro v ev
          rw [ev, ei, es]
          exact fin
        have a126 : ∀ v, v = (if b = 0 then 0 else 1) → At 126 [.ref 120, .int x, .int y, .int w, .int t, .int b] [.int v, .int (S 120 25), .ref 140] n K (up2 (up2 (up2 (up2 (up2 S 136 (S 120 25).toNatClampNeg x) 137 (S 120 25).toNatClampNeg y) 138 (S 120 25).toNatClampNeg w) 139 (S 120 25).toNatClampNeg t) 120 25 (S 120 25 + 1)) G P 0 := by
          intro v ev
          refine go [12] 60 _ _ _ _ _ _ _ _ _ ?_
          refine ite_t x5 ?_
          exact fin2 v ev
        refine go [125, 126] 60 _ _ _ _ _ _ _ _ _ ?_
        refine ite_t x5 ?_
        refine ite_t x5 ?_
        refine ite_t x5 ?_
        refine ite_t x5 ?_
        refine ite_i (fun c => ?_) (fun c => ?_)
        · have a125 : At 125 [.ref 120, .int x, .int y, .int w, .int t, .int b] [.int (S 120 25), .ref 140] n K (up2 (up2 (up2 (up2 (up2 S 136 (S 120 25).toNatClampNeg x) 137 (S 120 25).toNatClampNeg y) 138 (S 120 25).toNatClampNeg w) 139 (S 120 25).toNatClampNeg t) 120 25 (S 120 25 + 1)) G P 0 := by
            refine go [126] 60 _ _ _ _ _ _ _ _ _ ?_
            exact a126 _ (if_pos c).symm
          exact a125
        · exact a126 _ (if_neg c).symm
      refine go [60] 60 _ _ _ _ _ _ _ _ _ ?_
      refine ite_i (fun c => ?_) (fun c => ?_)
      · rw [hs, eq_i, nI_toInt (by omega), t_5] at c
        exact hno (fun z => by have := z.2.2; omega)
      · rw [hs, eq_i, nI_toInt (by omega), t_5] at c
        exact a60 (by omega)
    have a30 : At 30 [.ref 120, .int x, .int y, .int w, .int t, .int b] [] n K S G P 0 := by
      refine go [46, 49] 60 _ _ _ _ _ _ _ _ _ ?_
      refine ite_i (fun c => a46 (.inl c)) (fun c => ?_)
      refine m_within (fun c1 c2 => ?_) (fun c2 => ?_)
      · rw [t_0] at c1
        rw [t_20] at c2
        exact a49 c (inR_lt c1 (by omega))
      · rw [t_0, t_20] at c2
        exact a46 (.inr (inR_f (by omega)))
    exact a30
  refine go [12] 60 _ _ _ _ _ _ _ _ _ ?_
  refine ite_i (fun c => ?_) (fun c => a12 c)
  have fin := h2 c (up2 S 120 25 0) (fun b i q1 => up2_o _ _ (by omega)) (InvM_tw hI (fun b i hb => up2_o _ _ (fpm_120 hb rfl)) (RM_up 0 (by omega) (show mloc 221 = (120, 25) from rfl) hR) (fun i _ => rfl))
  exact fin
theorem q_book {x y z : Int32} {r : Nat} (hI : InvM N d g sd S G) (hD : DOk N d) (hr : d 0 223 = nI r) (r8 : r ≤ 8) (h2 : x = -1 → ∀ S', FrM S S' → InvM N (upR d 0 (va_up (d 0) 223 0)) g sd S' G → Q (some (.int 0)) n K S' G P) (h1 : okBo (N 0) r x y z → ∀ S', FrM S S' → InvM N (upR d 0 (twBo (d 0) r x y z)) g sd S' G → Q (some (.int (nI (r + 1)))) n K S' G P) (h0 : ¬ x = -1 → ¬ okBo (N 0) r x y z → Q (some (.int (rBo0 (N 0) x y z))) n K S G P) : Ok l L xs T1 (D + 12) jX12_book 0 [.ref 120, .int x, .int y, .int z] n K S G P Q := by
  refine I_X12_book (by decide) (fun At go => ?_)
  have np6 := hD.1.1.2
  have hR := hI.1.1
  have hn : S 120 0 = nI (N 0) := (RM_np hR).trans hD.1.1.1
  have hs : S 120 34 = nI r := (RM_nb hR).trans hr
  have a12 : ¬ x = -1 → At 12 [.ref 120, .int x, .int y, .int z] [] n K S G P 0 := by
    intro hx1
    have hno := h0 hx1
    unfold rBo0 at hno
    refine go [23, 37, 40, 52] 60 _ _ _ _ _ _ _ _ _ ?_
    refine mm_are2 hn np6 (fun p q hp hq ep eq => ?_) (fun c => ?_)
    · have hv : inR (N 0) x = true ∧ inR (N 0) y = true := ⟨by rw [ep]; exact inR_nI hp (by omega), by rw [eq]; exact inR_nI hq (by omega)⟩
      rw [if_pos hv] at hno
      have a37 : ¬ (¬ x = y ∧ inR 3 z = true) → At 37 [.ref 120, .int x, .int y, .int z] [] n K S G P 0 := by
        intro c
        have hQ := hno (fun w => c w.1.2)
        rw [if_neg c] at hQ
        refine go [12] 60 _ _ _ _ _ _ _ _ _ ?_
        exact hQ
      have a40 : ¬ x = y ∧ inR 3 z = true → At 40 [.ref 120, .int x, .int y, .int z] [] n K S G P 0 := by
        intro hz
        rw [if_pos hz] at hno
        have a52 : r < 8 → At 52 [.ref 120, .int x, .int y, .int z] [] n K S G P 0 := by
          intro hlt
          have es : S 120 34 + 1 = nI (r + 1) := by rw [hs, nI_1]
          have ei : (S 120 34).toNatClampNeg = r := by rw [hs, nI_clamp (by omega)]
          have x8 : ixB (S 120 34) 8 = true := by rw [hs]; exact ixB_nI hlt (by decide)
          have T1' := RM_up x (k := 195 + r) (by omega) (ml_bb r hlt) hR
          have T2' := RM_up y (k := 203 + r) (by omega) (ml_bt r hlt) T1'
          have T3' := RM_up (nI (r + 1)) (k := 223) (by omega) (show mloc 223 = (120, 34) from rfl) T2'
          have T4' := RM_up z (k := 211 + r) (by omega) (ml_bl r hlt) T3'
          have T5' : RM (twBo (d 0) r x y z) _ := RM_eq (fun k _ => congrFun (va_up_comm _ _ _ (by omega)) k) T4'
          have fin := h1 ⟨⟨hv, hz⟩, hlt⟩ _ (fun b i q1 => by rw [up2_o _ _ (by omega), up2_o _ _ (by omega), up2_o _ _ (by omega), up2_o _ _ (by omega)]) (InvM_tw hI (fun b i hb => by rw [up2_o _ _ (fpm_c hb (fun _ => rfl) _), up2_o _ _ (fpm_120 hb rfl), up2_o _ _ (fpm_c hb (fun _ => rfl) _), up2_o _ _ (fpm_c hb (fun _ => rfl) _)]) T5' (fun i _ => rfl))
          rw [← es] at fin
          have fin2 : Q (some (.int (S 120 34 + 1))) n K (up2 (up2 (up2 (up2 S 143 (S 120 34).toNatClampNeg x) 144 (S 120 34).toNatClampNeg y) 120 34 (S 120 34 + 1)) 145 (S 120 34).toNatClampNeg z) G P := by
            rw [ei]
            exact fin
          refine go [12] 60 _ _ _ _ _ _ _ _ _ ?_
          refine ite_t x8 ?_
          refine ite_t x8 ?_
          refine ite_t x8 ?_
          exact fin2
        refine go [52] 60 _ _ _ _ _ _ _ _ _ ?_
        refine ite_i (fun c => ?_) (fun c => ?_)
        · rw [hs, eq_i, nI_toInt (by omega), t_8] at c
          exact hno (fun w => by have := w.2; omega)
        · rw [hs, eq_i, nI_toInt (by omega), t_8] at c
          exact a52 (by omega)
      have a23 : At 23 [.ref 120, .int x, .int y, .int z] [] n K S G P 0 := by
        refine go [37, 40] 60 _ _ _ _ _ _ _ _ _ ?_
        refine ite_i (fun c => a37 (fun w => w.1 c)) (fun c => ?_)
        refine mm_w0 (m := 2) (by decide) 2 rfl (fun c2 => a40 ⟨c, c2⟩) (fun c2 => a37 (fun w => absurd (w.2.symm.trans c2) (by decide)))
      exact a23
    · have hQ := hno (fun w => c w.1.1)
      rw [if_neg c] at hQ
      exact hQ
  refine go [12] 60 _ _ _ _ _ _ _ _ _ ?_
  refine ite_i (fun c => ?_) (fun c => a12 c)
  have fin := h2 c (up2 S 120 34 0) (fun b i q1 => up2_o _ _ (by omega)) (InvM_tw hI (fun b i hb => up2_o _ _ (fpm_120 hb rfl)) (RM_up 0 (by omega) (show mloc 223 = (120, 34) from rfl) hR) (fun i _ => rfl))
  exact fin
theorem Tw_rows {tw tw' : Nat → Int32} {np dy ns : Nat} (h : TwOk tw np dy ns) (e : ∀ k, k < 225 → (k < 150 ∨ k = 219 ∨ k = 220 ∨ k = 224) → tw' k = tw k) (h1 : SaidOk tw' np) (h2 : PlanOk tw' np) (h3 : BookOk tw' np) : TwOk tw' np dy ns := by
  obtain ⟨f1, f2, f3, f4, f5, f6, _⟩ := h
  refine ⟨⟨(e _ (by omega) (by omega)).trans f1.1, f1.2⟩, ⟨(e _ (by omega) (by omega)).trans f2.1, f2.2⟩, ?_, fun q hq => ?_, fun i hi => by rw [e _ (by omega) (by omega)]; exact f5 i hi, fun i hi => by rw [e _ (by omega) (by omega)]; exact f6 i hi, h1, h2, h3⟩
  · rw [e _ (by omega) (by omega)]; exact f3
  · have := f1.2
    rw [e _ (by omega) (by omega), e _ (by omega) (by omega)]; exact f4 q hq
theorem Said_ne {tw tw' : Nat → Int32} {np : Nat} (h : SaidOk tw np) (e : ∀ k, (150 ≤ k ∧ k < 175) ∨ k = 221 → tw' k = tw k) : SaidOk tw' np := by
  obtain ⟨r, r1, r2, r3⟩ := h
  refine ⟨r, r1, (e _ (by omega)).trans r2, fun i hi => ?_⟩
  rw [e _ (by omega), e _ (by omega), e _ (by omega), e _ (by omega), e _ (by omega)]
  exact r3 i hi
theorem Plan_ne {tw tw' : Nat → Int32} {np : Nat} (h : PlanOk tw np) (e : ∀ k, (175 ≤ k ∧ k < 195) ∨ k = 222 → tw' k = tw k) : PlanOk tw' np := by
  obtain ⟨r, r1, r2, r3⟩ := h
  refine ⟨r, r1, (e _ (by omega)).trans r2, fun i hi => ?_⟩
  rw [e _ (by omega), e _ (by omega)]
  exact r3 i hi
theorem Book_ne {tw tw' : Nat → Int32} {np : Nat} (h : BookOk tw np) (e : ∀ k, (195 ≤ k ∧ k < 219) ∨ k = 223 → tw' k = tw k) : BookOk tw' np := by
  obtain ⟨r, r1, r2, r3⟩ := h
  refine ⟨r, r1, (e _ (by omega)).trans r2, fun i hi => ?_⟩
  rw [e _ (by omega), e _ (by omega)]
  exact r3 i hi
theorem d_say0 (hD : DOk N d) : DOk N (upR d 0 (va_up (d 0) 221 0)) := by
  refine DOk_tw hD (Tw_rows hD.1 (fun k _ h => va_up_ne _ _ (by omega)) ⟨0, by decide, va_up_self _ _ _, fun i hi => absurd hi (Nat.not_lt_zero i)⟩ (Plan_ne (tk_plan hD.1) (fun k h => va_up_ne _ _ (by omega))) (Book_ne (tk_book hD.1) (fun k h => va_up_ne _ _ (by omega)))) hD.2.1 (fun i _ => rfl)
theorem d_book0 (hD : DOk N d) : DOk N (upR d 0 (va_up (d 0) 223 0)) := by
  refine DOk_tw hD (Tw_rows hD.1 (fun k _ h => va_up_ne _ _ (by omega)) (Said_ne (tk_said hD.1) (fun k h => va_up_ne _ _ (by omega))) (Plan_ne (tk_plan hD.1) (fun k h => va_up_ne _ _ (by omega))) ⟨0, by decide, va_up_self _ _ _, fun i hi => absurd hi (Nat.not_lt_zero i)⟩) hD.2.1 (fun i _ => rfl)
theorem d_plan0 (hD : DOk N d) : DOk N (upR d 0 (va_up (d 0) 222 0)) := by
  refine DOk_tw hD (Tw_rows hD.1 (fun k _ h => va_up_ne _ _ (by omega)) (Said_ne (tk_said hD.1) (fun k h => va_up_ne _ _ (by omega))) ⟨0, by decide, va_up_self _ _ _, fun i hi => absurd hi (Nat.not_lt_zero i)⟩ (Book_ne (tk_book hD.1) (fun k h => va_up_ne _ _ (by omega)))) hD.2.1 (fun i _ => rfl)
theorem d_say {x y w t b : Int32} {r : Nat} (hD : DOk N d) (hr : d 0 221 = nI r) (ok : okSa (N 0) r x y w t) : DOk N (upR d 0 (twSa (d 0) r x y w t b)) := by
  obtain ⟨⟨⟨ox, oy, ow⟩, _⟩, ot, r5⟩ := ok
  obtain ⟨p, hp, ep⟩ := inR_ex ox
  obtain ⟨q, hq, eq⟩ := inR_ex oy
  obtain ⟨w', hw, ew⟩ := inR_ex ow
  obtain ⟨t', ht, et⟩ := inR_ex ot
  have ne : ∀ k, (k < 150 ∨ 175 ≤ k) → k ≠ 221 → twSa (d 0) r x y w t b k = d 0 k := fun k h h2 => by
    unfold twSa
    rw [va_up_ne _ _ h2, va_up_ne _ _ (by omega), va_up_ne _ _ (by omega), va_up_ne _ _ (by omega), va_up_ne _ _ (by omega), va_up_ne _ _ (by omega)]
  refine DOk_tw hD (Tw_rows hD.1 (fun k _ h => ne k (by omega) (by omega)) ?_ (Plan_ne (tk_plan hD.1) (fun k h => ne k (by omega) (by omega))) (Book_ne (tk_book hD.1) (fun k h => ne k (by omega) (by omega)))) hD.2.1 (fun i _ => rfl)
  obtain ⟨r', q1, q2, q3⟩ := tk_said hD.1
  have er : r' = r := (nI_eq (by omega) (by omega)).mp (q2.symm.trans hr)
  subst er
  refine ⟨r' + 1, by omega, va_up_self _ _ _, fun i hi => ?_⟩
  have f : ∀ o, (o = 150 ∨ o = 155 ∨ o = 160 ∨ o = 165 ∨ o = 170) → i ≠ r' → twSa (d 0) r' x y w t b (o + i) = d 0 (o + i) := fun o ho h => by
    unfold twSa
    rw [va_up_ne _ _ (by omega), va_up_ne _ _ (by omega), va_up_ne _ _ (by omega), va_up_ne _ _ (by omega), va_up_ne _ _ (by omega), va_up_ne _ _ (by omega)]
  by_cases c : i = r'
  · subst c
    refine ⟨p, q, w', t', hp, hq, hw, by omega, ?_, ?_, ?_, ?_, ?_⟩
    · unfold twSa
      rw [va_up_ne _ _ (by omega), va_up_ne _ _ (by omega), va_up_ne _ _ (by omega), va_up_ne _ _ (by omega), va_up_ne _ _ (by omega), va_up_self, ep]
    · unfold twSa
      rw [va_up_ne _ _ (by omega), va_up_ne _ _ (by omega), va_up_ne _ _ (by omega), va_up_ne _ _ (by omega), va_up_self, eq]
    · unfold twSa
      rw [va_up_ne _ _ (by omega), va_up_ne _ _ (by omega), va_up_ne _ _ (by omega), va_up_self, ew]
    · unfold twSa
      rw [va_up_ne _ _ (by omega), va_up_ne _ _ (by omega), va_up_self, et]
    · unfold twSa
      rw [va_up_ne _ _ (by omega), va_up_self]
      by_cases hb : b = 0
      · rw [if_pos hb]; exact .inl rfl
      · rw [if_neg hb]; exact .inr rfl
  · rw [f 150 (by omega) c, f 155 (by omega) c, f 160 (by omega) c, f 165 (by omega) c, f 170 (by omega) c]
    exact q3 i (by omega)
theorem d_book {x y z : Int32} {r : Nat} (hD : DOk N d) (hr : d 0 223 = nI r) (ok : okBo (N 0) r x y z) : DOk N (upR d 0 (twBo (d 0) r x y z)) := by
  obtain ⟨⟨⟨ox, oy⟩, _⟩, r8⟩ := ok
  obtain ⟨p, hp, ep⟩ := inR_ex ox
  obtain ⟨q, hq, eq⟩ := inR_ex oy
  have ne : ∀ k, (k < 195 ∨ 219 ≤ k) → k ≠ 223 → twBo (d 0) r x y z k = d 0 k := fun k h h2 => by
    unfold twBo
    rw [va_up_ne _ _ h2, va_up_ne _ _ (by omega), va_up_ne _ _ (by omega), va_up_ne _ _ (by omega)]
  refine DOk_tw hD (Tw_rows hD.1 (fun k _ h => ne k (by omega) (by omega)) (Said_ne (tk_said hD.1) (fun k h => ne k (by omega) (by omega))) (Plan_ne (tk_plan hD.1) (fun k h => ne k (by omega) (by omega))) ?_) hD.2.1 (fun i _ => rfl)
  obtain ⟨r', q1, q2, q3⟩ := tk_book hD.1
  have er : r' = r := (nI_eq (by omega) (by omega)).mp (q2.symm.trans hr)
  subst er
  refine ⟨r' + 1, by omega, va_up_self _ _ _, fun i hi => ?_⟩
  by_cases c : i = r'
  · subst c
    refine ⟨p, q, hp, hq, ?_, ?_⟩
    · unfold twBo
      rw [va_up_ne _ _ (by omega), va_up_ne _ _ (by omega), va_up_ne _ _ (by omega), va_up_self, ep]
    · unfold twBo
      rw [va_up_ne _ _ (by omega), va_up_ne _ _ (by omega), va_up_self, eq]
  · have f : ∀ o, (o = 195 ∨ o = 203) → twBo (d 0) r' x y z (o + i) = d 0 (o + i) := fun o ho => by
      unfold twBo
      rw [va_up_ne _ _ (by omega), va_up_ne _ _ (by omega), va_up_ne _ _ (by omega), va_up_ne _ _ (by omega)]
    rw [f 195 (by omega), f 203 (by omega)]
    exact q3 i (by omega)
end A
end

noncomputable section
theorem RC_plan {a r : Nat} {tw : Nat → Int32} {S : Mi} {x y z : Int32} (hr : r < 10) (hz : x = 1 → z = y) (h : RC a tw S) : RC a (va_up (va_up tw (175 + r) x) (185 + r) z) (up2 (up2 S (a + 8) (2 * r) x) (a + 8) (2 * r + 1) y) := by
  refine ⟨fun k hk => ?_, fun i hi e => ?_⟩
  · rw [va_up_ne _ _ (by have := hk.2.2; omega)]
    by_cases c : k = 175 + r
    · subst c
      rw [va_up_self, cl_go r hr]
      rw [up2_o _ _ (.inr (by omega)), up2_s]
    · rw [va_up_ne _ _ c]
      have key : (cl k).1 ≠ 8 ∨ ((cl k).2 ≠ 2 * r ∧ (cl k).2 ≠ 2 * r + 1) := by
        by_cases c8 : 175 ≤ k ∧ k < 185
        · right
          have := cl_go (k - 175) (by omega)
          rw [show 175 + (k - 175) = k by omega] at this
          rw [this]
          dsimp only
          omega
        · left
          intro e8
          have := cl_8 (k - 12) (by have := hk.1; have := hk.2.1; omega)
          rw [show 12 + (k - 12) = k by have := hk.1; omega] at this
          have := this e8
          have := hk.2.2
          omega
      have k1 : a + (cl k).1 ≠ a + 8 ∨ (cl k).2 ≠ 2 * r := by
        rcases key with q | q
        · exact .inl (by omega)
        · exact .inr q.1
      have k2 : a + (cl k).1 ≠ a + 8 ∨ (cl k).2 ≠ 2 * r + 1 := by
        rcases key with q | q
        · exact .inl (by omega)
        · exact .inr q.2
      rw [up2_o _ _ k2, up2_o _ _ k1]
      exact h.1 k hk
  · rw [va_up_ne _ _ (by omega)] at e
    by_cases c : i = r
    · subst c
      rw [va_up_self] at e
      rw [up2_s, va_up_self]
      exact (hz e).symm
    · rw [va_up_ne _ _ (by omega)] at e
      rw [up2_o _ _ (.inr (by omega)), up2_o _ _ (.inr (by omega)), va_up_ne _ _ (by omega), va_up_ne _ _ (by omega)]
      exact h.2 i hi e
theorem okPl_of {np r : Nat} {x y : Int32} (np6 : np ≤ 6) : okPl np r x y ↔ (inR 2 x = true ∧ (x = 1 → plV np y ∧ ¬ y.toNatClampNeg / 100 = y.toNatClampNeg / 10 % 10)) ∧ r < 10 := by
  unfold okPl
  constructor
  · rintro ⟨h, hr⟩
    refine ⟨?_, hr⟩
    rcases h with h | ⟨h, p, q, w, hp, hq, hpq, hw, e⟩
    · subst h
      exact ⟨by decide, fun z => absurd z (by decide)⟩
    · subst h
      refine ⟨by decide, fun _ => ?_⟩
      have dg := pl_dig (p := p) (q := q) (w := w) (by omega) (by omega) hw
      unfold plV
      rw [e, nI_toInt (by omega), nI_clamp (by omega), dg.1, dg.2.1, dg.2.2]
      exact ⟨⟨by omega, hp, hq, hw⟩, hpq⟩
  · rintro ⟨⟨h, h2⟩, hr⟩
    refine ⟨?_, hr⟩
    obtain ⟨j, hj, ej⟩ := inR_ex h
    have e : j = 0 ∨ j = 1 := by omega
    rcases e with rfl | rfl
    · exact .inl ej
    · obtain ⟨⟨h0, h3, h4, h5⟩, h6⟩ := h2 ej
      obtain ⟨m, hm, em⟩ := ex_nI h0
      rw [em, nI_clamp hm] at h3 h4 h5 h6
      refine .inr ⟨ej, m / 100, m / 10 % 10, m % 10, h3, h4, h6, h5, ?_⟩
      rw [em]
      congr 1
      omega
section A
variable {l : Launch} {L : Nat} {xs : Nat → Int32} {D : Nat} {n : Nat} {K : Mk} {S : Mi} {G : Ml} {P : Mr} {Q : QT} {N : Nat → Nat} {d : Nat → Nat → Int32} {g : Nat → Int64} {sd : Nat → Int32 × ((Nat → Int32) → Bool)}
set_option maxRecDepth 20000
theorem c_plan {x y : Int32} {r : Nat} (hI : InvC N d g sd n K S G P) (hD : DOk N d) (hr : d 0 222 = nI r) (r10 : r ≤ 10) (h2 : x = -1 → ∀ S', FrC S S' → InvC N (upR d 0 (va_up (d 0) 222 0)) g sd n K S' G P → Q (some (.int 0)) n K S' G P) (h1 : okPl (N 0) r x y → ∀ S', FrC S S' → InvC N (upR d 0 (twPl (d 0) r x y)) g sd n K S' G P → Q (some (.int (nI (r + 1)))) n K S' G P) (h0 : ¬ x = -1 → ¬ okPl (N 0) r x y → Q (some (.int (rPl0 (N 0) x y))) n K S G P) : Ok l L xs T1 (D + 12) jX11_plan 0 [.ref 32, .int x, .int y] n K S G P Q := by
  refine I_X11_plan (by decide) (fun At go => ?_)
  have np6 := hD.1.1.2
  have hR := hI.1.1.1
  have hn : S 33 0 = nI (N 0) := (RC_np hR).trans hD.1.1.1
  have hs : S 33 12 = nI r := (RC_nq hR).trans hr
  have hop := okPl_of (r := r) (x := x) (y := y) np6
  have a15 : ¬ x = -1 → At 15 [.ref 32, .int x, .int y, .retAddr 0] [] n K S G P 0 := by
    intro hx1
    have hno := h0 hx1
    unfold rPl0 at hno
    have a25 : inR 2 x = true → At 25 [.ref 32, .int x, .int y, .retAddr 0] [] n K S G P 0 := by
      intro hx
      rw [if_pos hx] at hno
      have a59 : (x = 1 → plV (N 0) y ∧ ¬ y.toNatClampNeg / 100 = y.toNatClampNeg / 10 % 10) → At 59 [.ref 32, .int x, .int y, .int 0] [] n K S G P 0 := by
        intro hv
        have a74 : r < 10 → At 74 [.ref 32, .int x, .int y, .int 0] [] n K S G P 0 := by
          intro hlt
          have e2 : S 33 12 * 2 = nI (2 * r) := by rw [hs, show (2 : Int32) = nI 2 from rfl, pk_mul, Nat.mul_comm]
          have es : S 33 12 + 1 = nI (r + 1) := by rw [hs, nI_1]
          have hz : x = 1 → (if x = 0 then 0 else y) = y := fun e => if_neg (by rw [e]; decide)
          have hRp := RC_plan (x := x) (y := y) (z := if x = 0 then 0 else y) hlt hz hR
          have T1' : TC 33 (va_up (va_up (d 0) (175 + r) x) (185 + r) (if x = 0 then 0 else y)) (N 0) n K (up2 (up2 S (33 + 8) (2 * r) x) (33 + 8) (2 * r + 1) y) P := by
            refine ⟨hRp, fun p hp => ?_, ?_⟩
            · rw [va_up_ne _ _ (by omega), va_up_ne _ _ (by omega), va_up_ne _ _ (by omega), va_up_ne _ _ (by omega)]
              exact Psn_f2 (fun b j hb => by rw [up2_o _ _ (by omega), up2_o _ _ (by omega)]) (hI.1.1.2.1 p hp)
            · rw [va_up_ne _ _ (by omega), va_up_ne _ _ (by omega)]
              exact hI.1.1.2.2
          have T2' := TC_up (c := 0) (nI (r + 1)) np6 (k := 222) ⟨by omega, by omega, by omega⟩ (by omega) (show cl 222 = (0, 12) from rfl) (by decide) T1'
          have fin := h1 (hop.mpr ⟨⟨hx, hv⟩, hlt⟩) _ (fun b i q1 q2 => by rw [up2_o _ _ (by omega), up2_o _ _ (by omega), up2_o _ _ (by omega)]) (InvC_tw hD hI (fun b i hb hs => by rw [up2_o _ _ (by omega), up2_o _ _ (by omega), up2_o _ _ (by omega)]) T2' (fun i _ => rfl))
          have i0 : (S 33 12 * 2).toNatClampNeg = 2 * r := by rw [e2, nI_clamp (by omega)]
          have i1 : (S 33 12 * 2 + 1).toNatClampNeg = 2 * r + 1 := by rw [e2, nI_1, nI_clamp (by omega)]
          rw [← es, ← i1, ← i0] at fin
          have x0 : ixB (S 33 12 * 2) 20 = true := by rw [e2]; exact ixB_nI (by omega) (by decide)
          have x1 : ixB (S 33 12 * 2 + 1) 20 = true := by rw [e2, nI_1]; exact ixB_nI (by omega) (by decide)
          refine go [15] 60 _ _ _ _ _ _ _ _ _ ?_
          refine ite_t x0 ?_
          refine ite_t x1 ?_
          exact fin
        refine go [74] 60 _ _ _ _ _ _ _ _ _ ?_
        refine ite_i (fun c => ?_) (fun c => ?_)
        · rw [hs, lt_i, nI_toInt (by omega), t_10] at c
          exact a74 (by omega)
        · rw [hs, lt_i, nI_toInt (by omega), t_10] at c
          have hQ := hno (fun w => by have := (hop.mp w).2; omega)
          by_cases e1 : x = 1
          · rw [if_pos e1, if_pos (hv e1).1, if_neg (hv e1).2] at hQ
            exact hQ
          · rw [if_neg e1] at hQ
            exact hQ
      have a52 : ∀ f, f = (if x = 1 then (@ite _ (plV (N 0) y) (Classical.propDecidable _) (if y.toNatClampNeg / 100 = y.toNatClampNeg / 10 % 10 then -2 else 0) (-1)) else (0 : Int32)) → At 52 [.ref 32, .int x, .int y, .retAddr 0] [.int f] n K S G P 0 := by
        intro f ef
        by_cases e1 : x = 1
        · rw [if_pos e1] at ef
          by_cases hv : plV (N 0) y
          · rw [if_pos hv] at ef
            by_cases he : y.toNatClampNeg / 100 = y.toNatClampNeg / 10 % 10
            · rw [if_pos he] at ef
              subst ef
              have hQ := hno (fun w => ((hop.mp w).1.2 e1).2 he)
              rw [if_pos e1, if_pos hv, if_pos he] at hQ
              refine go [59] 60 _ _ _ _ _ _ _ _ _ ?_
              exact hQ
            · rw [if_neg he] at ef
              subst ef
              refine go [59] 60 _ _ _ _ _ _ _ _ _ ?_
              exact a59 (fun _ => ⟨hv, he⟩)
          · rw [if_neg hv] at ef
            subst ef
            have hQ := hno (fun w => hv ((hop.mp w).1.2 e1).1)
            rw [if_pos e1, if_neg hv] at hQ
            refine go [59] 60 _ _ _ _ _ _ _ _ _ ?_
            exact hQ
        · rw [if_neg e1] at ef
          subst ef
          refine go [59] 60 _ _ _ _ _ _ _ _ _ ?_
          exact a59 (fun z => absurd z e1)
      refine go [51, 52] 60 _ _ _ _ _ _ _ _ _ ?_
      refine ite_i (fun c => ?_) (fun c => ?_)
      · refine m_floorDiv100 (fun f hf => ?_)
        refine m_tens ?_
        refine m_ones ?_
        refine m_fault (np := N 0) hn np6 ?_
        rw [flt_pl np6 hf]
        exact a52 _ (if_pos c).symm
      · have a51 : At 51 [.ref 32, .int x, .int y, .retAddr 0] [] n K S G P 0 := by
          refine go [52] 60 _ _ _ _ _ _ _ _ _ ?_
          exact a52 _ (if_neg c).symm
        exact a51
    refine go [25] 60 _ _ _ _ _ _ _ _ _ ?_
    refine m_i0 (m := 1) (by decide) 1 rfl (fun hx => a25 hx) (fun c => ?_)
    have hQ := hno (fun w => absurd ((hop.mp w).1.1.symm.trans c) (by decide))
    rw [if_neg (fun w => absurd (w.symm.trans c) (by decide))] at hQ
    exact hQ
  refine go [15] 60 _ _ _ _ _ _ _ _ _ ?_
  refine ite_i (fun c => ?_) (fun c => a15 c)
  have fin := h2 c (up2 S 33 12 0) (fun b i q1 q2 => up2_o _ _ (by omega)) (InvC_tw hD hI (fun b i hb hs => up2_o _ _ (by omega)) (TC_up (c := 0) 0 np6 ⟨by omega, by omega, by omega⟩ (by omega) (show cl 222 = (0, 12) from rfl) (by decide) hI.1.1) (fun i _ => rfl))
  exact fin
theorem mm_arz {x x' y y' : Int32} (h1 : x = x') (h2 : y = y') (h : Ok l L xs T1 D jX12_are 0 [.ref 120, .int x', .int y'] n K S G P Q) : Ok l L xs T1 D jX12_are 0 [.ref 120, .int x, .int y] n K S G P Q := by
  subst h1 h2
  exact h
theorem mm_iwz {x x' : Int32} (h1 : x = x') (h : Ok l L xs T1 D jX12_isWord 0 [.int x'] n K S G P Q) : Ok l L xs T1 D jX12_isWord 0 [.int x] n K S G P Q := by
  subst h1
  exact h
theorem q_plan {x y : Int32} {r : Nat} (hI : InvM N d g sd S G) (hD : DOk N d) (hr : d 0 222 = nI r) (r10 : r ≤ 10) (h2 : x = -1 → ∀ S', FrM S S' → InvM N (upR d 0 (va_up (d 0) 222 0)) g sd S' G → Q (some (.int 0)) n K S' G P) (h1 : okPl (N 0) r x y → ∀ S', FrM S S' → InvM N (upR d 0 (twPl (d 0) r x y)) g sd S' G → Q (some (.int (nI (r + 1)))) n K S' G P) (h0 : ¬ x = -1 → ¬ okPl (N 0) r x y → Q (some (.int (rPl0 (N 0) x y))) n K S G P) : Ok l L xs T1 (D + 12) jX12_plan 0 [.ref 120, .int x, .int y] n K S G P Q := by
  refine I_X12_plan (by decide) (fun At go => ?_)
  have np6 := hD.1.1.2
  have hR := hI.1.1
  have hn : S 120 0 = nI (N 0) := (RM_np hR).trans hD.1.1.1
  have hs : S 120 31 = nI r := (RM_nq hR).trans hr
  have hop := okPl_of (r := r) (x := x) (y := y) np6
  have a12 : ¬ x = -1 → At 12 [.ref 120, .int x, .int y] [] n K S G P 0 := by
    intro hx1
    have hno := h0 hx1
    unfold rPl0 at hno
    have a23 : inR 2 x = true → At 23 [.ref 120, .int x, .int y] [] n K S G P 0 := by
      intro hx
      rw [if_pos hx] at hno
      have a79 : (x = 1 → plV (N 0) y ∧ ¬ y.toNatClampNeg / 100 = y.toNatClampNeg / 10 % 10) → At 79 [.ref 120, .int x, .int y] [] n K S G P 0 := by
        intro hv
        have a91 : r < 10 → At 91 [.ref 120, .int x, .int y] [] n K S G P 0 := by
          intro hlt
          have es : S 120 31 + 1 = nI (r + 1) := by rw [hs, nI_1]
          have ei : (S 120 31).toNatClampNeg = r := by rw [hs, nI_clamp (by omega)]
          have x10 : ixB (S 120 31) 10 = true := by rw [hs]; exact ixB_nI hlt (by decide)
          have T1' := RM_up x (k := 175 + r) (by omega) (ml_go r hlt) hR
          have T2' := RM_up (nI (r + 1)) (k := 222) (by omega) (show mloc 222 = (120, 31) from rfl) T1'
          have T3' := RM_up (if x = 0 then 0 else y) (k := 185 + r) (by omega) (ml_wh r hlt) T2'
          have T4' : RM (twPl (d 0) r x y) _ := RM_eq (fun k _ => congrFun (va_up_comm _ _ _ (by omega)) k) T3'
          have fin := h1 (hop.mpr ⟨⟨hx, hv⟩, hlt⟩) _ (fun b i q1 => by rw [up2_o _ _ (by omega), up2_o _ _ (by omega), up2_o _ _ (by omega)]) (InvM_tw hI (fun b i hb => by rw [up2_o _ _ (fpm_c hb (fun _ => rfl) _), up2_o _ _ (fpm_120 hb rfl), up2_o _ _ (fpm_c hb (fun _ => rfl) _)]) T4' (fun i _ => rfl))
          have fin2 : ∀ v, v = (if x = 0 then 0 else y) → Q (some (.int (S 120 31 + 1))) n K (up2 (up2 (up2 S 141 (S 120 31).toNatClampNeg x) 120 31 (S 120 31 + 1)) 142 (S 120 31).toNatClampNeg v) G P := by
            intro v ev
            rw [ev, ei, es]
            exact fin
          have a125 : ∀ v, v = (if x = 0 then 0 else y) → At 125 [.ref 120, .int x, .int y] [.int v, .int (S 120 31), .ref 142] n K (up2 (up2 S 141 (S 120 31).toNatClampNeg x) 120 31 (S 120 31 + 1)) G P 0 := by
            intro v ev
            refine go [12] 60 _ _ _ _ _ _ _ _ _ ?_
            refine ite_t x10 ?_
            exact fin2 v ev
          refine go [124, 125] 60 _ _ _ _ _ _ _ _ _ ?_
          refine ite_t x10 ?_
          refine ite_i (fun c => ?_) (fun c => ?_)
          · exact a125 _ (if_pos c).symm
          · have a124 : At 124 [.ref 120, .int x, .int y] [.int (S 120 31), .ref 142] n K (up2 (up2 S 141 (S 120 31).toNatClampNeg x) 120 31 (S 120 31 + 1)) G P 0 := by
              refine go [125] 60 _ _ _ _ _ _ _ _ _ ?_
              exact a125 _ (if_neg c).symm
            exact a124
        refine go [91] 60 _ _ _ _ _ _ _ _ _ ?_
        refine ite_i (fun c => ?_) (fun c => ?_)
        · rw [hs, eq_i, nI_toInt (by omega), t_10] at c
          have hQ := hno (fun w => by have := (hop.mp w).2; omega)
          by_cases e1 : x = 1
          · rw [if_pos e1, if_pos (hv e1).1, if_neg (hv e1).2] at hQ
            exact hQ
          · rw [if_neg e1] at hQ
            exact hQ
        · rw [hs, eq_i, nI_toInt (by omega), t_10] at c
          exact a91 (by omega)
      have a60 : x = 1 → ¬ plV (N 0) y → At 60 [.ref 120, .int x, .int y] [] n K S G P 0 := by
        intro e1 hv
        have hQ := hno (fun w => hv ((hop.mp w).1.2 e1).1)
        rw [if_pos e1, if_neg hv] at hQ
        refine go [12] 60 _ _ _ _ _ _ _ _ _ ?_
        exact hQ
      refine go [60, 62, 79] 60 _ _ _ _ _ _ _ _ _ ?_
      refine ite_i (fun e1 => ?_) (fun e1 => a79 (fun z => absurd z e1))
      refine ite_i (fun c => a60 e1 (fun z => by have := z.1; rw [lt_i, t_0] at c; omega)) (fun c => ?_)
      rw [lt_i, t_0] at c
      obtain ⟨m, hm, em⟩ := ex_nI (x := y) (by omega)
      have k1 : y / 100 = nI (m / 100) := by rw [em, show (100 : Int32) = nI 100 from rfl, dv_i hm (by decide)]
      have k2 : rmI (y / 10) 10 = nI (m / 10 % 10) := by rw [em, show (10 : Int32) = nI 10 from rfl, dv_i hm (by decide), rm_i (by omega) (by decide)]
      have k3 : rmI y 10 = nI (m % 10) := by rw [em, show (10 : Int32) = nI 10 from rfl, rm_i hm (by decide)]
      have ec : y.toNatClampNeg = m := by rw [em, nI_clamp hm]
      have a62 : plV (N 0) y → At 62 [.ref 120, .int x, .int y] [] n K S G P 0 := by
        intro hv
        have k12 : ∀ a b : Int32, a = y / 100 → b = rmI (y / 10) 10 → (a = b ↔ y.toNatClampNeg / 100 = y.toNatClampNeg / 10 % 10) := by
          intro a b ea eb
          rw [ea, eb, k1, k2, ec, nI_eq (by omega) (by omega)]
        refine go [79] 60 _ _ _ _ _ _ _ _ _ ?_
        refine ite_i (fun c2 => ?_) (fun c2 => ?_)
        · have he := (k12 _ _ rfl rfl).mp c2
          have hQ := hno (fun w => ((hop.mp w).1.2 e1).2 he)
          rw [if_pos e1, if_pos hv, if_pos he] at hQ
          exact hQ
        · have he : ¬ y.toNatClampNeg / 100 = y.toNatClampNeg / 10 % 10 := fun z => c2 ((k12 _ _ rfl rfl).mpr z)
          exact a79 (fun _ => ⟨hv, he⟩)
      refine mm_arz k1 k2 ?_
      refine mm_are2 hn np6 (fun p q hp hq ep eq => ?_) (fun c2 => a60 e1 (fun z => c2 ?_))
      · have e1' : m / 100 = p := (nI_eq (by omega) (by omega)).mp ep
        have e2' : m / 10 % 10 = q := (nI_eq (by omega) (by omega)).mp eq
        refine mm_iwz k3 ?_
        refine mm_isWord2 (fun hz => ?_) (fun c2 => a60 e1 (fun z => ?_))
        · obtain ⟨w, hw, ew⟩ := inR_ex hz
          have e3' : m % 10 = w := (nI_eq (by omega) (by omega)).mp ew
          refine a62 ⟨by omega, ?_, ?_, ?_⟩
          · rw [ec]; omega
          · rw [ec]; omega
          · rw [ec]; omega
        · have := z.2.2.2
          rw [ec] at this
          exact absurd ((inR_nI this (by decide)).symm.trans c2) (by decide)
      · have z1 := z.2.1
        have z2 := z.2.2.1
        rw [ec] at z1 z2
        exact ⟨inR_nI z1 (by omega), inR_nI z2 (by omega)⟩
    refine go [23] 60 _ _ _ _ _ _ _ _ _ ?_
    refine mm_w0 (m := 1) (by decide) 1 rfl (fun hx => a23 hx) (fun c => ?_)
    have hQ := hno (fun w => absurd ((hop.mp w).1.1.symm.trans c) (by decide))
    rw [if_neg (fun w => absurd (w.symm.trans c) (by decide))] at hQ
    exact hQ
  refine go [12] 60 _ _ _ _ _ _ _ _ _ ?_
  refine ite_i (fun c => ?_) (fun c => a12 c)
  have fin := h2 c (up2 S 120 31 0) (fun b i q1 => up2_o _ _ (by omega)) (InvM_tw hI (fun b i hb => up2_o _ _ (fpm_120 hb rfl)) (RM_up 0 (by omega) (show mloc 222 = (120, 31) from rfl) hR) (fun i _ => rfl))
  exact fin
theorem d_plan {x y : Int32} {r : Nat} (hD : DOk N d) (hr : d 0 222 = nI r) (ok : okPl (N 0) r x y) : DOk N (upR d 0 (twPl (d 0) r x y)) := by
  obtain ⟨ox, r10⟩ := ok
  have ne : ∀ k, (k < 175 ∨ 195 ≤ k) → k ≠ 222 → twPl (d 0) r x y k = d 0 k := fun k h h2 => by
    unfold twPl
    rw [va_up_ne _ _ h2, va_up_ne _ _ (by omega), va_up_ne _ _ (by omega)]
  refine DOk_tw hD (Tw_rows hD.1 (fun k _ h => ne k (by omega) (by omega)) (Said_ne (tk_said hD.1) (fun k h => ne k (by omega) (by omega))) ?_ (Book_ne (tk_book hD.1) (fun k h => ne k (by omega) (by omega)))) hD.2.1 (fun i _ => rfl)
  obtain ⟨r', q1, q2, q3⟩ := tk_plan hD.1
  have er : r' = r := (nI_eq (by omega) (by omega)).mp (q2.symm.trans hr)
  subst er
  refine ⟨r' + 1, by omega, va_up_self _ _ _, fun i hi => ?_⟩
  by_cases c : i = r'
  · subst c
    have e1 : twPl (d 0) i x y (175 + i) = x := by unfold twPl; rw [va_up_ne _ _ (by omega), va_up_ne _ _ (by omega), va_up_self]
    have e2 : twPl (d 0) i x y (185 + i) = if x = 0 then 0 else y := by unfold twPl; rw [va_up_ne _ _ (by omega), va_up_self]
    rw [e1, e2]
    rcases ox with h | ⟨h, p, q, w, hp, hq, hpq, hw, e⟩
    · exact .inl h
    · exact .inr ⟨h, p, q, w, hp, hq, hpq, hw, by rw [if_neg (by rw [h]; decide)]; exact e⟩
  · have f : ∀ o, (o = 175 ∨ o = 185) → twPl (d 0) r' x y (o + i) = d 0 (o + i) := fun o ho => by
      unfold twPl
      rw [va_up_ne _ _ (by omega), va_up_ne _ _ (by omega), va_up_ne _ _ (by omega)]
    rw [f 175 (by omega), f 185 (by omega)]
    exact q3 i (by omega)
end A
end

noncomputable section
/-! SAY, BOOK. -/
def okSa (np r : Nat) (x y w t : Int32) : Prop := ((inR np x = true ∧ inR np y = true ∧ inR 4 w = true) ∧ ¬ x = y) ∧ inR 21 t = true ∧ r < 5
def rSa0 (np : Nat) (x y w t : Int32) : Int32 := if inR np x = true ∧ inR np y = true ∧ inR 4 w = true then (if x = y then -2 else if inR 21 t = true then -4 else -2) else -1
def twSa (tw : Nat → Int32) (r : Nat) (x y w t b : Int32) : Nat → Int32 := va_up (va_up (va_up (va_up (va_up (va_up tw (150 + r) x) (155 + r) y) (160 + r) w) (165 + r) t) (170 + r) (if b = 0 then 0 else 1)) 221 (nI (r + 1))
def okBo (np r : Nat) (x y z : Int32) : Prop := ((inR np x = true ∧ inR np y = true) ∧ ¬ x = y ∧ inR 3 z = true) ∧ r < 8
def rBo0 (np : Nat) (x y z : Int32) : Int32 := if inR np x = true ∧ inR np y = true then (if ¬ x = y ∧ inR 3 z = true then -4 else -2) else -1
def twBo (tw : Nat → Int32) (r : Nat) (x y z : Int32) : Nat → Int32 := va_up (va_up (va_up (va_up tw (195 + r) x) (203 + r) y) (211 + r) z) 223 (nI (r + 1))
theorem mone_not {np : Nat} {x : Int32} (h : x = -1) : inR np x = false := inR_f (by rw [h, t_m1]; omega)
section A
variable {l : Launch} {L : Nat} {xs : Nat → Int32} {D : Nat} {n : Nat} {K : Mk} {S : Mi} {G : Ml} {P : Mr} {Q : QT} {N : Nat → Nat} {d : Nat → Nat → Int32} {g : Nat → Int64} {sd : Nat → Int32 × ((Nat → Int32) → Bool)}
set_option maxRecDepth 20000
theorem c_say {x y w t b : Int32} {r : Nat} (hI : InvC N d g sd n K S G P) (hD : DOk N d) (hr : d 0 221 = nI r) (r5 : r ≤ 5) (h2 : x = -1 → ∀ S', FrC S S' → InvC N (upR d 0 (va_up (d 0) 221 0)) g sd n K S' G P → Q (some (.int 0)) n K S' G P) (h1 : okSa (N 0) r x y w t → ∀ S', FrC S S' → InvC N (upR d 0 (twSa (d 0) r x y w t b)) g sd n K S' G P → Q (some (.int (nI (r + 1)))) n K S' G P) (h0 : ¬ x = -1 → ¬ okSa (N 0) r x y w t → Q (some (.int (rSa0 (N 0) x y w t))) n K S G P) : Ok l L xs T1 (D + 12) jX11_say 0 [.ref 32, .int x, .int y, .int w, .int t, .int b] n K S G P Q := by
  refine I_X11_say (by decide) (fun At go => ?_)
  have np6 := hD.1.1.2
  have hR := hI.1.1.1
  have hn : S 33 0 = nI (N 0) := (RC_np hR).trans hD.1.1.1
  have hs : S 33 10 = nI r := (RC_ns hR).trans hr
  have a15 : ¬ x = -1 → At 15 [.ref 32, .int x, .int y, .int w, .int t, .int b, .retAddr 0, .retAddr 0] [] n K S G P 0 := by
    intro hx1
    have hno := h0 hx1
    unfold rSa0 at hno
    refine go [32, 45, 59] 60 _ _ _ _ _ _ _ _ _ ?_
    refine m_fault (np := N 0) hn np6 ?_
    by_cases hv : inR (N 0) x = true ∧ inR (N 0) y = true ∧ inR 4 w = true
    · by_cases he : x = y
      · have ef : flt (N 0) x y w = -2 := by unfold flt; rw [if_pos hv, if_pos he]
        have hQ := hno (fun z => z.1.2 he)
        rw [if_pos hv, if_pos he] at hQ
        rw [ef]
        exact hQ
      · have ef : flt (N 0) x y w = 0 := by unfold flt; rw [if_pos hv, if_neg he]
        rw [if_pos hv, if_neg he] at hno
        rw [ef]
        have a45 : inR 21 t = true → At 45 [.ref 32, .int x, .int y, .int w, .int t, .int b, .int 0, .retAddr 0] [] n K S G P 0 := by
          intro ht
          rw [if_pos ht] at hno
          have a59 : r < 5 → At 59 [.ref 32, .int x, .int y, .int w, .int t, .int b, .int 0, .retAddr 0] [] n K S G P 0 := by
            intro hlt
            have e5 : S 33 10 * 5 = nI (5 * r) := by rw [hs, show (5 : Int32) = nI 5 from rfl, pk_mul, Nat.mul_comm]
            have es : S 33 10 + 1 = nI (r + 1) := by rw [hs, nI_1]
            have tc := fun (k c i : Nat) (v : Int32) (tw : Nat → Int32) (S : Mi) (h1 : kc k) (h2 : k < 175 ∨ 195 ≤ k) (h3 : cl k = (c, i)) (h4 : c < 10) (h5 : TC 33 tw (N 0) n K S P) => TC_up (c := c) v np6 h1 h2 h3 h4 h5
            have T1' := tc (150 + r) 7 (5 * r + 0) x _ _ ⟨by omega, by omega, by omega⟩ (by omega) (cl_sb r hlt) (by decide) hI.1.1
            have T2' := tc (155 + r) 7 (5 * r + 1) y _ _ ⟨by omega, by omega, by omega⟩ (by omega) (cl_st r hlt) (by decide) T1'
            have T3' := tc (160 + r) 7 (5 * r + 2) w _ _ ⟨by omega, by omega, by omega⟩ (by omega) (cl_sw r hlt) (by decide) T2'
            have T4' := tc (165 + r) 7 (5 * r + 3) t _ _ ⟨by omega, by omega, by omega⟩ (by omega) (cl_si r hlt) (by decide) T3'
            have T5' := tc (170 + r) 7 (5 * r + 4) (if b = 0 then 0 else 1) _ _ ⟨by omega, by omega, by omega⟩ (by omega) (cl_ss r hlt) (by decide) T4'
            have T6' := tc 221 0 10 (nI (r + 1)) _ _ ⟨by omega, by omega, by omega⟩ (by omega) rfl (by decide) T5'
            have fin := h1 ⟨⟨hv, he⟩, ht, hlt⟩ _ (fun b i q1 q2 => by rw [up2_o _ _ (by omega), up2_o _ _ (by omega), up2_o _ _ (by omega), up2_o _ _ (by omega), up2_o _ _ (by omega), up2_o _ _ (by omega)]) (InvC_tw hD hI (fun b i hb hs => by rw [up2_o _ _ (by omega), up2_o _ _ (by omega), up2_o _ _ (by omega), up2_o _ _ (by omega), up2_o _ _ (by omega), up2_o _ _ (by omega)]) T6' (fun i _ => rfl))
            rw [← es] at fin
            have a70 : ∀ va, va = nI (5 * r) → At 70 [.ref 32, .int x, .int y, .int w, .int t, .int b, .int 0, .int va] [] n K S G P 0 := by
              intro va eva
              have xx : ∀ j, j < 5 → ixB (va + nI j) 25 = true := fun j hj => by rw [eva, nI_add]; exact ixB_nI (by omega) (by decide)
              have x0 : ixB va 25 = true := by rw [eva]; exact ixB_nI (by omega) (by decide)
              have i0 : va.toNatClampNeg = 5 * r + 0 := by rw [eva, nI_clamp (by omega)]; rfl
              have i1 : (va + 1).toNatClampNeg = 5 * r + 1 := by rw [eva, nI_1, nI_clamp (by omega)]
              have i2 : (va + 2).toNatClampNeg = 5 * r + 2 := by rw [eva, show (2 : Int32) = nI 2 from rfl, nI_add, nI_clamp (by omega)]
              have i3 : (va + 3).toNatClampNeg = 5 * r + 3 := by rw [eva, show (3 : Int32) = nI 3 from rfl, nI_add, nI_clamp (by omega)]
              have i4 : (va + 4).toNatClampNeg = 5 * r + 4 := by rw [eva, show (4 : Int32) = nI 4 from rfl, nI_add, nI_clamp (by omega)]
              rw [← i0, ← i1, ← i2, ← i3, ← i4] at fin
              have a142 : ∀ v, v = (if b = 0 then 0 else 1) → At 142 [.ref 32, .int x, .int y, .int w, .int t, .int b, .int 0, .int va] [.int v, .int (va + 4), .ref 40] n K (up2 (up2 (up2 (up2 S 40 va.toNatClampNeg x) 40 (va + 1).toNatClampNeg y) 40 (va + 2).toNatClampNeg w) 40 (va + 3).toNatClampNeg t) G P 0 := by
                intro v ev
                rw [← ev] at fin
                refine go [70] 60 _ _ _ _ _ _ _ _ _ ?_
                refine ite_t (xx 4 (by decide)) ?_
                exact fin
              refine go [141, 142] 60 _ _ _ _ _ _ _ _ _ ?_
              refine ite_t x0 ?_
              refine ite_t (xx 1 (by decide)) ?_
              refine ite_t (xx 2 (by decide)) ?_
              refine ite_t (xx 3 (by decide)) ?_
              refine ite_i (fun c => ?_) (fun c => ?_)
              · have a141 : At 141 [.ref 32, .int x, .int y, .int w, .int t, .int b, .int 0, .int va] [.int (va + 4), .ref 40] n K (up2 (up2 (up2 (up2 S 40 va.toNatClampNeg x) 40 (va + 1).toNatClampNeg y) 40 (va + 2).toNatClampNeg w) 40 (va + 3).toNatClampNeg t) G P 0 := by
                  refine go [142] 60 _ _ _ _ _ _ _ _ _ ?_
                  exact a142 _ (if_pos c).symm
                exact a141
              · exact a142 _ (if_neg c).symm
            refine go [70] 60 _ _ _ _ _ _ _ _ _ ?_
            exact a70 _ e5
          refine go [59] 60 _ _ _ _ _ _ _ _ _ ?_
          refine ite_i (fun c => ?_) (fun c => ?_)
          · rw [hs, lt_i, nI_toInt (by omega), t_5] at c
            exact a59 (by omega)
          · rw [hs, lt_i, nI_toInt (by omega), t_5] at c
            exact hno (fun z => by have := z.2.2; omega)
        have a32 : At 32 [.ref 32, .int x, .int y, .int w, .int t, .int b, .int 0, .retAddr 0] [] n K S G P 0 := by
          refine go [45] 60 _ _ _ _ _ _ _ _ _ ?_
          refine m_isWithin (fun c1 c2 => ?_) (fun c => ?_)
          · rw [t_20] at c2
            exact a45 (inR_lt c1 (by omega))
          · rw [t_20] at c
            have ht : inR 21 t = false := inR_f (by omega)
            have hQ := hno (fun z => absurd (z.2.1.symm.trans ht) (by decide))
            rw [if_neg (fun z => absurd (z.symm.trans ht) (by decide))] at hQ
            exact hQ
        exact a32
    · have ef : flt (N 0) x y w = -1 := by unfold flt; rw [if_neg hv]
      have hQ := hno (fun z => hv z.1.1)
      rw [if_neg hv] at hQ
      rw [ef]
      exact hQ
  refine go [15] 60 _ _ _ _ _ _ _ _ _ ?_
  refine ite_i (fun c => ?_) (fun c => a15 c)
  have fin := h2 c (up2 S 33 10 0) (fun b i q1 q2 => up2_o _ _ (by omega)) (InvC_tw hD hI (fun b i hb hs => up2_o _ _ (by omega)) (TC_up (c := 0) 0 np6 ⟨by omega, by omega, by omega⟩ (by omega) (show cl 221 = (0, 10) from rfl) (by decide) hI.1.1) (fun i _ => rfl))
  exact fin
theorem c_book {x y z : Int32} {r : Nat} (hI : InvC N d g sd n K S G P) (hD : DOk N d) (hr : d 0 223 = nI r) (r8 : r ≤ 8) (h2 : x = -1 → ∀ S', FrC S S' → InvC N (upR d 0 (va_up (d 0) 223 0)) g sd n K S' G P → Q (some (.int 0)) n K S' G P) (h1 : okBo (N 0) r x y z → ∀ S', FrC S S' → InvC N (upR d 0 (twBo (d 0) r x y z)) g sd n K S' G P → Q (some (.int (nI (r + 1)))) n K S' G P) (h0 : ¬ x = -1 → ¬ okBo (N 0) r x y z → Q (some (.int (rBo0 (N 0) x y z))) n K S G P) : Ok l L xs T1 (D + 12) jX11_book 0 [.ref 32, .int x, .int y, .int z] n K S G P Q := by
  refine I_X11_book (by decide) (fun At go => ?_)
  have np6 := hD.1.1.2
  have hR := hI.1.1.1
  have hn : S 33 0 = nI (N 0) := (RC_np hR).trans hD.1.1.1
  have hs : S 33 14 = nI r := (RC_nb hR).trans hr
  have ta : TA 33 := .inl rfl
  have a15 : ¬ x = -1 → At 15 [.ref 32, .int x, .int y, .int z, .retAddr 0] [] n K S G P 0 := by
    intro hx1
    have hno := h0 hx1
    unfold rBo0 at hno
    have a37 : ¬ (inR (N 0) x = true ∧ inR (N 0) y = true) → At 37 [.ref 32, .int x, .int y, .int z, .retAddr 0] [] n K S G P 0 := by
      intro c
      have hQ := hno (fun w => c w.1.1)
      rw [if_neg c] at hQ
      refine go [15] 60 _ _ _ _ _ _ _ _ _ ?_
      exact hQ
    refine go [37, 39, 52, 55, 70] 60 _ _ _ _ _ _ _ _ _ ?_
    refine m_has ta hn np6 (fun p hp ep => ?_) (fun c => a37 (fun w => by rw [inR_f c] at w; exact absurd w.1 (by decide)))
    refine m_has ta hn np6 (fun q hq eq => ?_) (fun c => a37 (fun w => by rw [inR_f c] at w; exact absurd w.2 (by decide)))
    have hv : inR (N 0) x = true ∧ inR (N 0) y = true := ⟨by rw [ep]; exact inR_nI hp (by omega), by rw [eq]; exact inR_nI hq (by omega)⟩
    rw [if_pos hv] at hno
    have a52 : ¬ (¬ x = y ∧ inR 3 z = true) → At 52 [.ref 32, .int x, .int y, .int z, .retAddr 0] [] n K S G P 0 := by
      intro c
      have hQ := hno (fun w => c w.1.2)
      rw [if_neg c] at hQ
      refine go [15] 60 _ _ _ _ _ _ _ _ _ ?_
      exact hQ
    have a39 : At 39 [.ref 32, .int x, .int y, .int z, .retAddr 0] [] n K S G P 0 := by
      have a55 : ¬ x = y ∧ inR 3 z = true → At 55 [.ref 32, .int x, .int y, .int z, .retAddr 0] [] n K S G P 0 := by
        intro hz
        rw [if_pos hz] at hno
        have a70 : r < 8 → At 70 [.ref 32, .int x, .int y, .int z, .retAddr 0] [] n K S G P 0 := by
          intro hlt
          have e3 : S 33 14 * 3 = nI (3 * r) := by rw [hs, show (3 : Int32) = nI 3 from rfl, pk_mul, Nat.mul_comm]
          have es : S 33 14 + 1 = nI (r + 1) := by rw [hs, nI_1]
          have tc := fun (k c i : Nat) (v : Int32) (tw : Nat → Int32) (S : Mi) (h1 : kc k) (h2 : k < 175 ∨ 195 ≤ k) (h3 : cl k = (c, i)) (h4 : c < 10) (h5 : TC 33 tw (N 0) n K S P) => TC_up (c := c) v np6 h1 h2 h3 h4 h5
          have T1' := tc (195 + r) 9 (3 * r + 0) x _ _ ⟨by omega, by omega, by omega⟩ (by omega) (cl_bb r hlt) (by decide) hI.1.1
          have T2' := tc (203 + r) 9 (3 * r + 1) y _ _ ⟨by omega, by omega, by omega⟩ (by omega) (cl_bt r hlt) (by decide) T1'
          have T3' := tc (211 + r) 9 (3 * r + 2) z _ _ ⟨by omega, by omega, by omega⟩ (by omega) (cl_bl r hlt) (by decide) T2'
          have T4' := tc 223 0 14 (nI (r + 1)) _ _ ⟨by omega, by omega, by omega⟩ (by omega) rfl (by decide) T3'
          have fin := h1 ⟨⟨hv, hz⟩, hlt⟩ _ (fun b i q1 q2 => by rw [up2_o _ _ (by omega), up2_o _ _ (by omega), up2_o _ _ (by omega), up2_o _ _ (by omega)]) (InvC_tw hD hI (fun b i hb hs => by rw [up2_o _ _ (by omega), up2_o _ _ (by omega), up2_o _ _ (by omega), up2_o _ _ (by omega)]) T4' (fun i _ => rfl))
          rw [← es] at fin
          have a81 : ∀ va, va = nI (3 * r) → At 81 [.ref 32, .int x, .int y, .int z, .int va] [] n K S G P 0 := by
            intro va eva
            have xx : ∀ j, j < 3 → ixB (va + nI j) 24 = true := fun j hj => by rw [eva, nI_add]; exact ixB_nI (by omega) (by decide)
            have x0 : ixB va 24 = true := by rw [eva]; exact ixB_nI (by omega) (by decide)
            have i0 : va.toNatClampNeg = 3 * r + 0 := by rw [eva, nI_clamp (by omega)]; rfl
            have i1 : (va + 1).toNatClampNeg = 3 * r + 1 := by rw [eva, nI_1, nI_clamp (by omega)]
            have i2 : (va + 2).toNatClampNeg = 3 * r + 2 := by rw [eva, show (2 : Int32) = nI 2 from rfl, nI_add, nI_clamp (by omega)]
            rw [← i0, ← i1, ← i2] at fin
            refine go [15] 60 _ _ _ _ _ _ _ _ _ ?_
            refine ite_t x0 ?_
            refine ite_t (xx 1 (by decide)) ?_
            refine ite_t (xx 2 (by decide)) ?_
            exact fin
          refine go [81] 60 _ _ _ _ _ _ _ _ _ ?_
          exact a81 _ e3
        refine go [70] 60 _ _ _ _ _ _ _ _ _ ?_
        refine ite_i (fun c => ?_) (fun c => ?_)
        · rw [hs, lt_i, nI_toInt (by omega), t_8] at c
          exact a70 (by omega)
        · rw [hs, lt_i, nI_toInt (by omega), t_8] at c
          exact hno (fun w => by have := w.2; omega)
      refine go [52, 55] 60 _ _ _ _ _ _ _ _ _ ?_
      refine ite_i (fun c => a52 (fun w => w.1 c)) (fun c => ?_)
      refine m_i0 (m := 2) (by decide) 2 rfl (fun c2 => a55 ⟨c, c2⟩) (fun c2 => a52 (fun w => absurd (w.2.symm.trans c2) (by decide)))
    exact a39
  refine go [15] 60 _ _ _ _ _ _ _ _ _ ?_
  refine ite_i (fun c => ?_) (fun c => a15 c)
  have fin := h2 c (up2 S 33 14 0) (fun b i q1 q2 => up2_o _ _ (by omega)) (InvC_tw hD hI (fun b i hb hs => up2_o _ _ (by omega)) (TC_up (c := 0) 0 np6 ⟨by omega, by omega, by omega⟩ (by omega) (show cl 223 = (0, 14) from rfl) (by decide) hI.1.1) (fun i _ => rfl))
  exact fin
end A
end

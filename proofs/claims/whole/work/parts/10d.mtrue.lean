noncomputable section
/-! WHAT A STREET HEARS: the model. -/
def b2i (b : Bool) : Int32 := if b = true then 1 else 0
theorem b2i_t : b2i true = 1 := rfl
theorem b2i_f : b2i false = 0 := rfl
theorem b2i_or (b : Bool) : b2i b = 0 ∨ b2i b = 1 := by cases b <;> decide
theorem b2i_0 {b : Bool} (h : b2i b = 0) : b = false := by cases b with
  | false => rfl
  | true => exact absurd h (by decide)
theorem b2i_n {b : Bool} (h : ¬ b2i b = 0) : b = true := by cases b with
  | false => exact absurd rfl h
  | true => rfl
theorem nar_b (b : Bool) : vp_nar .boolean (b2i b) = b2i b := by cases b <;> decide
theorem nI_sub3 {x : Nat} (h : 3 ≤ x) : nI x - 3 = nI (x - 3) := by
  obtain ⟨y, rfl⟩ : ∃ y, x = y + 3 := ⟨x - 3, by omega⟩
  rw [← nI_add, show nI 3 = 3 from rfl, Int32.add_sub_cancel, Nat.add_sub_cancel]
/-- the model's stack -/
def SR (f : Nat → Int32) : List Bool → Prop
  | [] => True
  | x :: s => f s.length = b2i x ∧ SR f s
theorem SR_up {f : Nat → Int32} {k : Nat} {y : Int32} : ∀ {s : List Bool}, s.length ≤ k → SR f s → SR (va_up f k y) s
  | [], _, _ => trivial
  | x :: s, h, g => by
    rw [List.length_cons] at h
    exact ⟨by rw [va_up_ne _ _ (by omega)]; exact g.1, SR_up (by omega) g.2⟩
theorem SR_push {f : Nat → Int32} {s : List Bool} {b : Bool} (h : SR f s) : SR (va_up f s.length (vp_nar .boolean (b2i b))) (b :: s) := ⟨by rw [va_up_self, nar_b], SR_up (Nat.le_refl _) h⟩
def lastb (cw : Nat → Nat) (cu : Nat → Int32) : Nat → Int32
  | 0 => 0
  | i + 1 => if cw i = 2 then cu i else lastb cw cu i
def wM (cw : Nat → Nat) (cu : Nat → Int32) (i : Nat) : Int32 := if cw i = 0 then cu i else if cw i = 1 then -cu i else 0
def SM (k : Nat) (S : Mi) (b : Int32) (hf : (Nat → Int32) → Bool) : Prop := ∃ (cn : Nat) (cw : Nat → Nat) (cu : Nat → Int32) (bs : Nat → Nat) (lk : Nat → List Nat) (sem : Nat → (Nat → Int32) → Bool), cn ≤ 10 ∧ S 129 k = nI cn ∧ (∀ i, i < cn → cw i < 3 ∧ S 130 (10 * k + i) = nI (cw i) ∧ S 131 (10 * k + i) = cu i ∧ (cw i = 2 ∨ (S 132 (10 * k + i) = nI (bs i) ∧ S 133 (10 * k + i) = nI (lk i).length ∧ bs i + (lk i).length ≤ 800 ∧ (∀ j, j < (lk i).length → S 134 (bs i + j) = nI ((lk i).getD j 0)) ∧ (∀ x, x ∈ lk i → x < 1803) ∧ ∀ vals, ev 110 (lk i) vals [] = some [sem i vals]))) ∧ b = lastb cw cu cn ∧ ∀ vals, hf vals = decide (0 < lou (wM cw cu) sem vals cn)
section A
variable {l : Launch} {L : Nat} {xs : Nat → Int32} {D : Nat} {n : Nat} {K : Mk} {S : Mi} {G : Ml} {P : Mr} {Q : QT}
set_option maxRecDepth 20000
theorem mm_letterOf {pn t : Nat} {q w d x : Int32} (hp : pn < 6) (ht : t < 6) (hx : x = nI t) (h : Q (some (.int (vls (nI pn) q (S 121 pn) (S 122 pn) w d t))) n K S G P) : Ok l L xs T1 (D + 1) jX12_letterOf 0 [.ref 120, .int (nI pn), .int q, .int w, .int d, .int x] n K S G P Q := by
  refine I_X12_letterOf (by decide) (fun At go => ?_)
  subst hx
  match t, ht with
  | 0, _ =>
    refine go [] 60 _ _ _ _ _ _ _ _ _ ?_
    exact h
  | 1, _ =>
    refine go [] 60 _ _ _ _ _ _ _ _ _ ?_
    exact h
  | 2, _ =>
    have h' : Q (some (.int (S 121 (nI pn).toNatClampNeg))) n K S G P := by rw [nI_clamp (by omega)]; exact h
    refine go [] 60 _ _ _ _ _ _ _ _ _ ?_
    refine ite_t (ixB_nI hp (by decide)) ?_
    exact h'
  | 3, _ =>
    have h' : Q (some (.int (S 122 (nI pn).toNatClampNeg))) n K S G P := by rw [nI_clamp (by omega)]; exact h
    refine go [] 60 _ _ _ _ _ _ _ _ _ ?_
    refine ite_t (ixB_nI hp (by decide)) ?_
    exact h'
  | 4, _ =>
    refine go [] 60 _ _ _ _ _ _ _ _ _ ?_
    exact h
  | 5, _ =>
    refine go [] 60 _ _ _ _ _ _ _ _ _ ?_
    exact h
theorem mm_isTrue {pn c b : Nat} {lk : List Nat} {f : Bool} {q w d : Int32} (hp : pn < 6) (hc : c < 61) (hb : S 132 c = nI b) (hl : S 133 c = nI lk.length) (h8 : b + lk.length ≤ 800) (hst : ∀ j, j < lk.length → S 134 (b + j) = nI (lk.getD j 0)) (hlk : ∀ x, x ∈ lk → x < 1803) (hev : ev 110 lk (vls (nI pn) q (S 121 pn) (S 122 pn) w d) [] = some [f]) (h : ∀ S', (∀ b j, b ≠ 135 → S' b j = S b j) → Q (some (.int (b2i f))) n K S' G P) : Ok l L xs T1 (D + 2) jX12_isTrue 0 [.ref 120, .int (nI pn), .int q, .int w, .int d, .int (nI c)] n K S G P Q := by
  refine I_X12_isTrue (by decide) (fun At go => ?_)
  have loop : ∀ (r : List Nat) (i : Nat) (vi vt : Int32) (st : List Bool) (S' : Mi) (x8 x9 x10 x11 : Value), vi = nI i → vt = nI st.length → (∀ b j, b ≠ 135 → S' b j = S b j) → SR (S' 135) st → st.length ≤ 110 → ev 110 r (vls (nI pn) q (S 121 pn) (S 122 pn) w d) st = some [f] → i + r.length = b + lk.length → (∀ j, j < r.length → S 134 (i + j) = nI (r.getD j 0)) → (∀ x, x ∈ r → x < 1803) → At 12 [.ref 120, .int (nI pn), .int q, .int w, .int d, .int (nI c), .int vt, .int vi, x8, x9, x10, x11] [] n K S' G P 0 := by
    intro r
    induction r with
    | nil =>
      intro i vi vt st S' x8 x9 x10 x11 hvi hvt hS hsr hsl hw hi hr hx
      subst hvi
      subst hvt
      cases hw
      have hb' : S' 132 c = nI b := (hS _ _ (by decide)).trans hb
      have hl' : S' 133 c = nI lk.length := (hS _ _ (by decide)).trans hl
      have e := hsr.1
      have hQ := h S' hS
      rw [← e] at hQ
      rw [List.length_nil] at hi
      have hlim : S' 132 (nI c).toNatClampNeg + S' 133 (nI c).toNatClampNeg ≤ nI i := by
        rw [nI_clamp (by omega), hb', hl', nI_add, le_i, nI_toInt (by omega), nI_toInt (by omega)]
        omega
      refine go [12, 148, 182, 260, 261] 60 _ _ _ _ _ _ _ _ _ ?_
      refine ite_t (ixB_nI hc (by decide)) ?_
      refine ite_t (ixB_nI hc (by decide)) ?_
      refine ite_t hlim ?_
      refine ite_t (b2i_or f |> fun z => by
        have e' : S' 135 0 = b2i f := e
        rcases z with z | z
        · exact .inl (e'.trans z)
        · exact .inr (e'.trans z)) ?_
      exact hQ
    | cons x r ih =>
      intro i vi vt st S' x8 x9 x10 x11 hvi hvt hS hsr hsl hw hi hr hx
      subst hvi
      have hb' : S' 132 c = nI b := (hS _ _ (by decide)).trans hb
      have hl' : S' 133 c = nI lk.length := (hS _ _ (by decide)).trans hl
      rw [List.length_cons] at hi
      have hx0 := hr 0 (by rw [List.length_cons]; omega)
      rw [Nat.add_zero i, List.getD_cons_zero] at hx0
      have hx1 : S' 134 i = nI x := (hS _ _ (by decide)).trans hx0
      have hxb := hx x List.mem_cons_self
      have hr' : ∀ j, j < r.length → S 134 (i + 1 + j) = nI (r.getD j 0) := fun j hj => by
        have := hr (j + 1) (by rw [List.length_cons]; omega)
        rw [List.getD_cons_succ] at this
        rw [show i + 1 + j = i + (j + 1) by omega]
        exact this
      have hx' : ∀ y, y ∈ r → y < 1803 := fun y hy => hx y (List.mem_cons_of_mem _ hy)
      have hlim : ¬ S' 132 (nI c).toNatClampNeg + S' 133 (nI c).toNatClampNeg ≤ nI i := by
        rw [nI_clamp (by omega), hb', hl', nI_add, le_i, nI_toInt (by omega), nI_toInt (by omega)]
        omega
      have hcode : S' 134 (nI i).toNatClampNeg = nI x := by rw [nI_clamp (by omega)]; exact hx1
      have A261 : ∀ (S'' : Mi) (st' : List Bool) (vt : Int32) (x8 x9 x10 x11 : Value), vt = nI st'.length → (∀ b j, b ≠ 135 → S'' b j = S b j) → SR (S'' 135) st' → st'.length ≤ 110 → ev 110 r (vls (nI pn) q (S 121 pn) (S 122 pn) w d) st' = some [f] → At 261 [.ref 120, .int (nI pn), .int q, .int w, .int d, .int (nI c), .int vt, .int (nI i), x8, x9, x10, x11] [] n K S'' G P 0 := by
        intro S'' st' vt x8 x9 x10 x11 e1 e2 e3 e4 e5
        refine go [12, 148, 182, 260, 261] 60 _ _ _ _ _ _ _ _ _ ?_
        exact ih (i + 1) _ vt st' S'' _ _ _ _ (nI_1 i) e1 e2 e3 e4 e5 (by omega) hr' hx'
      have up : ∀ j y, ∀ b' j', b' ≠ 135 → up2 S' 135 j y b' j' = S b' j' := fun j y b' j' hb1 => by
        unfold up2
        rw [if_neg hb1]
        exact hS b' j' hb1
      have up135 : ∀ j y, up2 S' 135 j y 135 = va_up (S' 135) j y := fun j y => by unfold up2; rw [if_pos rfl]
      by_cases h3 : 3 ≤ x
      · have hev1 : st.length < 110 ∧ ev 110 r (vls (nI pn) q (S 121 pn) (S 122 pn) w d) (tsB (x - 3) (vls (nI pn) q (S 121 pn) (S 122 pn) w d) :: st) = some [f] := by
          have := hw
          rw [ev_c] at this
          rw [if_pos h3] at this
          by_cases hl1 : st.length < 110
          · rw [if_pos hl1] at this
            exact ⟨hl1, this⟩
          · rw [if_neg hl1] at this
            cases this
        have A148 : ∀ (y : Bool) (x8 x9 x10 x11 : Value), y = tsB (x - 3) (vls (nI pn) q (S 121 pn) (S 122 pn) w d) → At 148 [.ref 120, .int (nI pn), .int q, .int w, .int d, .int (nI c), .int (vt + 1), .int (nI i), x8, x9, x10, x11] [.int (b2i y), .int vt, .ref 135] n K S' G P 0 := by
          intro y x8 x9 x10 x11 hy
          refine go [12, 148, 182, 260, 261] 60 _ _ _ _ _ _ _ _ _ ?_
          refine ite_t (by rw [hvt]; exact ixB_nI hev1.1 (by decide)) ?_
          refine A261 _ (y :: st) _ _ _ _ _ (by rw [hvt]; exact nI_1 _) (up _ _) ?_ (by rw [List.length_cons]; omega) (by rw [hy]; exact hev1.2)
          rw [up135, hvt, nI_clamp (by omega)]
          exact SR_push hsr
        have e3 := nI_sub3 h3
        have k1 : S' 121 pn = S 121 pn := hS _ _ (by decide)
        have k2 : S' 122 pn = S 122 pn := hS _ _ (by decide)
        have sgn : rmI ((nI x - 3) / 100) 3 = nI ((x - 3) / 100 % 3) := by
          rw [e3, show (100 : Int32) = nI 100 from rfl, dv_i (by omega) (by decide), show (3 : Int32) = nI 3 from rfl, rm_i (by omega) (by decide)]
        have num : rmI (nI x - 3) 100 = nI ((x - 3) % 100) := by
          rw [e3, show (100 : Int32) = nI 100 from rfl, rm_i (by omega) (by decide)]
        have A64 : ∀ cd, cd = nI x → At 64 [.ref 120, .int (nI pn), .int q, .int w, .int d, .int (nI c), .int vt, .int (nI i), .int cd, x9, x10, x11] [.int (vls (nI pn) q (S 121 pn) (S 122 pn) w d ((x - 3) / 300))] n K S' G P 0 := by
          intro cd ecd
          subst ecd
          refine go [12, 148, 182, 260, 261] 60 _ _ _ _ _ _ _ _ _ ?_
          refine ite_i (fun c1 => ?_) (fun c1 => ?_)
          · have c1' : rmI ((nI x - 3) / 100) 3 = 0 := c1
            rw [sgn, eq_i, nI_toInt (by omega), t_0] at c1'
            have e := tsB_lt (t := x - 3) (vals := vls (nI pn) q (S 121 pn) (S 122 pn) w d) (by omega)
            refine ite_i (fun c2 => ?_) (fun c2 => ?_)
            · have c2' : rmI (nI x - 3) 100 ≤ vls (nI pn) q (S 121 pn) (S 122 pn) w d ((x - 3) / 300) := c2
              rw [num] at c2'
              exact A148 false _ _ _ _ (by rw [e, decide_eq_false]; rw [lt_i]; rw [le_i] at c2'; omega)
            · have c2' : ¬ rmI (nI x - 3) 100 ≤ vls (nI pn) q (S 121 pn) (S 122 pn) w d ((x - 3) / 300) := c2
              rw [num] at c2'
              exact A148 true _ _ _ _ (by rw [e, decide_eq_true]; rw [lt_i]; rw [le_i] at c2'; omega)
          · have c1' : ¬ rmI ((nI x - 3) / 100) 3 = 0 := c1
            rw [sgn, eq_i, nI_toInt (by omega), t_0] at c1'
            refine ite_i (fun c2 => ?_) (fun c2 => ?_)
            · have c2' : rmI ((nI x - 3) / 100) 3 = 1 := c2
              rw [sgn, eq_i, nI_toInt (by omega), t_1] at c2'
              have e := tsB_eq (t := x - 3) (vals := vls (nI pn) q (S 121 pn) (S 122 pn) w d) (by omega) (by omega)
              refine ite_i (fun c3 => ?_) (fun c3 => ?_)
              · have c3' : vls (nI pn) q (S 121 pn) (S 122 pn) w d ((x - 3) / 300) = rmI (nI x - 3) 100 := c3
                rw [num] at c3'
                exact A148 true _ _ _ _ (by rw [e, decide_eq_true c3'])
              · have c3' : ¬ vls (nI pn) q (S 121 pn) (S 122 pn) w d ((x - 3) / 300) = rmI (nI x - 3) 100 := c3
                rw [num] at c3'
                exact A148 false _ _ _ _ (by rw [e, decide_eq_false c3'])
            · have c2' : ¬ rmI ((nI x - 3) / 100) 3 = 1 := c2
              rw [sgn, eq_i, nI_toInt (by omega), t_1] at c2'
              have e := tsB_gt (t := x - 3) (vals := vls (nI pn) q (S 121 pn) (S 122 pn) w d) (by omega) (by omega)
              refine ite_i (fun c3 => ?_) (fun c3 => ?_)
              · have c3' : vls (nI pn) q (S 121 pn) (S 122 pn) w d ((x - 3) / 300) ≤ rmI (nI x - 3) 100 := c3
                rw [num] at c3'
                exact A148 false _ _ _ _ (by rw [e, decide_eq_false]; rw [lt_i]; rw [le_i] at c3'; omega)
              · have c3' : ¬ vls (nI pn) q (S 121 pn) (S 122 pn) w d ((x - 3) / 300) ≤ rmI (nI x - 3) 100 := c3
                rw [num] at c3'
                exact A148 true _ _ _ _ (by rw [e, decide_eq_true]; rw [lt_i]; rw [le_i] at c3'; omega)
        rw [← k1, ← k2] at A64
        have hlet : (S' 134 (nI i).toNatClampNeg - 3) / 300 = nI ((x - 3) / 300) := by
          rw [hcode, e3, show (300 : Int32) = nI 300 from rfl, dv_i (by omega) (by decide)]
        refine go [12, 64, 148, 182, 260, 261] 60 _ _ _ _ _ _ _ _ _ ?_
        refine ite_t (ixB_nI hc (by decide)) ?_
        refine ite_t (ixB_nI hc (by decide)) ?_
        refine ite_f hlim ?_
        refine ite_t (ixB_nI (by omega) (by decide)) ?_
        refine ite_f (by rw [hcode, lt_i, nI_toInt (by omega), t_3]; omega) ?_
        refine mm_letterOf hp (by omega) hlet ?_
        exact A64 _ hcode
      · by_cases h0 : x = 0
        · subst h0
          match st, hsr, hsl, hw, hvt with
          | [], _, _, hw, _ => cases hw
          | y :: s, hsr, hsl, hw, hvt =>
            rw [List.length_cons] at hsl hvt
            have hv1 : vt - 1 = nI s.length := by rw [hvt, nI_pred]
            have xx : ixB (vt - 1) 110 = true := by rw [hv1]; exact ixB_nI (by omega) (by decide)
            have hw' : ev 110 r (vls (nI pn) q (S 121 pn) (S 122 pn) w d) ((!y) :: s) = some [f] := hw
            have A182 : ∀ (z : Bool) (x8 : Value), z = !y → At 182 [.ref 120, .int (nI pn), .int q, .int w, .int d, .int (nI c), .int vt, .int (nI i), x8, x9, x10, x11] [.int (b2i z), .int (vt - 1), .ref 135] n K S' G P 0 := by
              intro z x8 hz
              refine go [12, 148, 182, 260, 261] 60 _ _ _ _ _ _ _ _ _ ?_
              refine ite_t xx ?_
              refine A261 _ (z :: s) _ _ _ _ _ hvt (up _ _) ?_ (by rw [List.length_cons]; omega) (by rw [hz]; exact hw')
              rw [up135, hv1, nI_clamp (by omega)]
              exact SR_push hsr.2
            refine go [12, 148, 182, 260, 261] 60 _ _ _ _ _ _ _ _ _ ?_
            refine ite_t (ixB_nI hc (by decide)) ?_
            refine ite_t (ixB_nI hc (by decide)) ?_
            refine ite_f hlim ?_
            refine ite_t (ixB_nI (by omega) (by decide)) ?_
            refine ite_t (by rw [hcode]; decide) ?_
            refine ite_t (by rw [hcode]; decide) ?_
            refine ite_t xx ?_
            have ey : S' 135 (vt - 1).toNatClampNeg = b2i y := by rw [hv1, nI_clamp (by omega)]; exact hsr.1
            refine ite_i (fun c1 => ?_) (fun c1 => ?_)
            · rw [ey] at c1
              exact A182 true _ (by rw [b2i_0 c1]; rfl)
            · rw [ey] at c1
              exact A182 false _ (by rw [b2i_n c1]; rfl)
        · match st, hsr, hsl, hw, hvt with
          | [], _, _, hw, _ => rw [ev_c] at hw; rw [if_neg h3, if_neg h0] at hw; split at hw <;> cases hw
          | [_], _, _, hw, _ => rw [ev_c] at hw; rw [if_neg h3, if_neg h0] at hw; split at hw <;> cases hw
          | y :: z :: s, hsr, hsl, hw, hvt =>
            rw [List.length_cons, List.length_cons] at hsl hvt
            have e2 : vt + -1 = nI (s.length + 1) := by rw [hvt, nI_dn]
            have A189 : ∀ vt' cd : Int32, vt' = nI (s.length + 1) → cd = nI x → At 189 [.ref 120, .int (nI pn), .int q, .int w, .int d, .int (nI c), .int vt', .int (nI i), .int cd, x9, x10, x11] [] n K S' G P 0 := by
              intro vt' cd hv1 hcd
              have hv2 : vt' - 1 = nI s.length := by rw [hv1, nI_pred]
              have hz1 : S' 135 (vt' - 1).toNatClampNeg = b2i z := by rw [hv2, nI_clamp (by omega)]; exact hsr.2.1
              have hy1 : S' 135 vt'.toNatClampNeg = b2i y := by rw [hv1, nI_clamp (by omega)]; exact hsr.1
              have x1 : ixB (vt' - 1) 110 = true := by rw [hv2]; exact ixB_nI (by omega) (by decide)
              have x2 : ixB vt' 110 = true := by rw [hv1]; exact ixB_nI (by omega) (by decide)
              have A260 : ∀ (u : Bool) (x8 : Value), ev 110 r (vls (nI pn) q (S 121 pn) (S 122 pn) w d) (u :: s) = some [f] → At 260 [.ref 120, .int (nI pn), .int q, .int w, .int d, .int (nI c), .int vt', .int (nI i), x8, x9, x10, x11] [.int (b2i u), .int (vt' - 1), .ref 135] n K S' G P 0 := by
                intro u x8 hu
                refine go [12, 148, 182, 260, 261] 60 _ _ _ _ _ _ _ _ _ ?_
                refine ite_t x1 ?_
                refine A261 _ (u :: s) _ _ _ _ _ hv1 (up _ _) ?_ (by rw [List.length_cons]; omega) hu
                rw [up135, hv2, nI_clamp (by omega)]
                exact SR_push hsr.2.2
              by_cases h1 : x = 1
              · have hw' : ev 110 r (vls (nI pn) q (S 121 pn) (S 122 pn) w d) ((z && y) :: s) = some [f] := by subst h1; exact hw
                refine go [12, 148, 182, 260, 261] 60 _ _ _ _ _ _ _ _ _ ?_
                refine ite_t (by rw [hcd, h1]; rfl) ?_
                refine ite_t x1 ?_
                refine ite_i (fun c1 => ?_) (fun c1 => ?_)
                · rw [hz1] at c1
                  exact A260 false _ (by rw [b2i_0 c1] at hw'; exact hw')
                · rw [hz1] at c1
                  refine ite_t x2 ?_
                  refine ite_i (fun c2 => ?_) (fun c2 => ?_)
                  · rw [hy1] at c2
                    exact A260 false _ (by rw [b2i_0 c2, Bool.and_false] at hw'; exact hw')
                  · rw [hy1] at c2
                    exact A260 true _ (by rw [b2i_n c1, b2i_n c2] at hw'; exact hw')
              · have hw' : ev 110 r (vls (nI pn) q (S 121 pn) (S 122 pn) w d) ((z || y) :: s) = some [f] := by
                  rw [ev_c] at hw
                  rw [if_neg h3, if_neg h0, if_neg h1] at hw
                  exact hw
                refine go [12, 148, 182, 260, 261] 60 _ _ _ _ _ _ _ _ _ ?_
                refine ite_f (by rw [hcd, eq_i, nI_toInt (by omega), t_1]; omega) ?_
                refine ite_t x1 ?_
                refine ite_i (fun c1 => ?_) (fun c1 => ?_)
                · rw [hz1] at c1
                  refine ite_t x2 ?_
                  refine ite_i (fun c2 => ?_) (fun c2 => ?_)
                  · rw [hy1] at c2
                    exact A260 false _ (by rw [b2i_0 c1, b2i_0 c2] at hw'; exact hw')
                  · rw [hy1] at c2
                    exact A260 true _ (by rw [b2i_n c2, Bool.or_true] at hw'; exact hw')
                · rw [hz1] at c1
                  exact A260 true _ (by rw [b2i_n c1, Bool.true_or] at hw'; exact hw')
            refine go [12, 148, 182, 189, 260, 261] 60 _ _ _ _ _ _ _ _ _ ?_
            refine ite_t (ixB_nI hc (by decide)) ?_
            refine ite_t (ixB_nI hc (by decide)) ?_
            refine ite_f hlim ?_
            refine ite_t (ixB_nI (by omega) (by decide)) ?_
            refine ite_t (by rw [hcode, lt_i, nI_toInt (by omega), t_3]; omega) ?_
            refine ite_f (by rw [hcode, eq_i, nI_toInt (by omega), t_0]; omega) ?_
            exact A189 _ _ e2 hcode
  refine go [12, 148, 182, 260, 261] 60 _ _ _ _ _ _ _ _ _ ?_
  refine ite_t (ixB_nI hc (by decide)) ?_
  exact loop lk b _ _ [] S _ _ _ _ (by rw [nI_clamp (by omega)]; exact hb) rfl (fun b j _ => rfl) trivial (Nat.zero_le _) hev rfl hst hlk
end A
end

noncomputable section
/-! ITEM. -/
def okIt (d : Nat → Nat → Int32) (x y : Int32) : Prop := inR 6 x = true ∧ ¬ d 4 x.toNatClampNeg = -1 ∧ inR (d 5 x.toNatClampNeg).toNatClampNeg y = true
def rIt0 (d : Nat → Nat → Int32) (x : Int32) : Int32 := if inR 6 x = true then (if d 4 x.toNatClampNeg = -1 then -11 else -13) else -1
def itG (d : Nat → Nat → Int32) (g : Nat → Int64) (x y : Int32) (v : Int64) : Nat → Int64 := va_up g (60 * x.toNatClampNeg + y.toNatClampNeg) (narV (d 4 x.toNatClampNeg) v)
section A
variable {l : Launch} {L : Nat} {xs : Nat → Int32} {D : Nat} {n : Nat} {K : Mk} {S : Mi} {G : Ml} {P : Mr} {Q : QT} {N : Nat → Nat} {d : Nat → Nat → Int32} {g : Nat → Int64} {sd : Nat → Int32 × ((Nat → Int32) → Bool)}
set_option maxRecDepth 20000
theorem rf_l2 {A : Int32 → Nat → List Value → Prop} {y : Option Nat} {b : Nat} {q : List Value} {i : Int32} (h : y = some b) (hA : A i b q) : (match Value.int i :: va_rf y :: q with
    | .int i :: .ref a :: q' => A i a q'
    | _ => False) := by
  subst h
  exact hA
theorem c_item {x y : Int32} {v : Int64} (hI : InvC N d g sd n K S G P) (hD : DOk N d) (h1 : okIt d x y → ∀ S' G', FrC S S' → G' 154 = G 154 → InvC N d (itG d g x y v) sd n K S' G' P → Q (some (.int 1)) n K S' G' P) (h0 : ¬ okIt d x y → Q (some (.int (rIt0 d x))) n K S G P) : Ok l L xs T1 (D + 12) jX11_item 0 [.ref 32, .int x, .int y, .long v] n K S G P Q := by
  refine I_X11_item (by decide) (fun At go => ?_)
  have c_no : ∀ r, ¬ okIt d x y → rIt0 d x = r → Q (some (.int r)) n K S G P := by
    intro r c e
    rw [← e]
    exact h0 c
  have a9 : inR 6 x = true → At 9 [.ref 32, .int x, .int y, .long v, .retAddr 0] [] n K S G P 0 := by
    intro hx
    obtain ⟨t, ht, rfl⟩ := inR_ex hx
    have x6 : ixB (nI t) 6 = true := ixB_nI ht (by decide)
    have ek : (nI t).toNatClampNeg = t := nI_clamp (by omega)
    obtain ⟨m, hm, em, hm0, hsrt⟩ := tp_ex hD ht
    have e4 : S 82 (nI t).toNatClampNeg = d 4 t := by rw [ek]; exact (hI.2.2.2.1.1 t ht).1
    have e5 : S 83 (nI t).toNatClampNeg = nI m := by rw [ek]; exact (hI.2.2.2.1.1 t ht).2.1.trans em
    have e75 : P 75 (nI t).toNatClampNeg = some (76 + t) := by rw [ek]; exact (hI.2.2.2.1.1 t ht).2.2
    have a36 : ¬ d 4 t = -1 → ¬ inR m y = true → At 36 [.ref 32, .int (nI t), .int y, .long v, .retAddr 0] [] n K S G P 0 := by
      intro c1 c2
      refine go [] 60 _ _ _ _ _ _ _ _ _ ?_
      refine c_no (-13) (fun w => ?_) ?_
      · have := w.2.2
        rw [ek, em, nI_clamp (by omega)] at this
        exact c2 this
      · unfold rIt0
        rw [if_pos hx, ek, if_neg c1]
    have a39 : ¬ d 4 t = -1 → inR m y = true → At 39 [.ref 32, .int (nI t), .int y, .long v, .retAddr 0] [] n K S G P 0 := by
      intro c1 c2
      have ok : okIt d (nI t) y := ⟨hx, by rw [ek]; exact c1, by rw [ek, em, nI_clamp (by omega)]; exact c2⟩
      obtain ⟨j, hj, rfl⟩ := inR_ex c2
      have ej : (nI j).toNatClampNeg = j := nI_clamp (by omega)
      refine go [] 60 _ _ _ _ _ _ _ _ _ ?_
      refine ite_t x6 ?_
      refine ite_t x6 ?_
      rw [e75]
      refine m_narrowed ?_
      refine sh_tp ht ?_
      refine ite_t (ixB_nI (by omega) (by decide)) ?_
      refine h1 ok _ _ (FrC.rf S) ?_ (InvC_g hI (fun u i hu hi => ?_))
      · funext i
        exact up2_o _ _ (by omega)
      · unfold itG
        rw [ek, ej, (hI.2.2.2.1.1 t ht).1]
        by_cases e : u = t ∧ i = j
        · obtain ⟨rfl, rfl⟩ := e
          rw [up2_s]
          unfold va_up
          rw [if_pos rfl]
        · rw [up2_o _ _ (by omega)]
          unfold va_up
          rw [if_neg (by omega)]
          exact hI.2.2.2.1.2 u i hu hi
    have a22 : ¬ d 4 t = -1 → At 22 [.ref 32, .int (nI t), .int y, .long v, .retAddr 0] [] n K S G P 0 := by
      intro c1
      refine go [36, 39] 60 _ _ _ _ _ _ _ _ _ ?_
      refine ite_i (fun c => ?_) (fun c => ?_)
      · rw [lt_i, t_0] at c
        refine a36 c1 (fun w => ?_)
        obtain ⟨j, hj, rfl⟩ := inR_ex w
        rw [nI_toInt (by omega)] at c
        omega
      rw [lt_i, t_0] at c
      refine ite_t x6 ?_
      refine ite_i (fun c2 => ?_) (fun c2 => ?_)
      · rw [e5, lt_i, nI_toInt (by omega)] at c2
        exact a39 c1 (inR_lt (by omega) c2)
      · rw [e5, lt_i, nI_toInt (by omega)] at c2
        refine a36 c1 (fun w => ?_)
        obtain ⟨j, hj, rfl⟩ := inR_ex w
        rw [nI_toInt (by omega)] at c2
        omega
    refine go [22] 60 _ _ _ _ _ _ _ _ _ ?_
    refine ite_t x6 ?_
    refine ite_i (fun c => ?_) (fun c => ?_)
    · refine c_no (-11) (fun w => ?_) ?_
      · have := w.2.1
        rw [ek] at this
        exact this (e4.symm.trans c)
      · unfold rIt0
        rw [if_pos hx, ek, if_pos (e4.symm.trans c)]
    · exact a22 (fun w => c (e4.trans w))
  refine go [9] 60 _ _ _ _ _ _ _ _ _ ?_
  refine m_tape2 (fun hx => a9 hx) (fun hx => ?_)
  refine c_no (-1) (fun w => ?_) ?_
  · have := w.1; rw [hx] at this; cases this
  · unfold rIt0
    rw [hx]
    rfl
theorem q_item {x y : Int32} {v : Int64} (hI : InvM N d g sd S G) (hD : DOk N d) (h1 : okIt d x y → ∀ S' G', FrM S S' → (∀ b, b ≠ 154 → G' b = G b) → InvM N d (itG d g x y v) sd S' G' → Q (some (.int 1)) n K S' G' P) (h0 : ¬ okIt d x y → Q (some (.int (rIt0 d x))) n K S G P) : Ok l L xs T1 (D + 12) jX12_item 0 [.ref 120, .int x, .int y, .long v] n K S G P Q := by
  refine I_X12_item (by decide) (fun At go => ?_)
  have c_no : ∀ r, ¬ okIt d x y → rIt0 d x = r → Q (some (.int r)) n K S G P := by
    intro r c e
    rw [← e]
    exact h0 c
  have a9 : inR 6 x = true → At 9 [.ref 120, .int x, .int y, .long v, .retAddr 0] [] n K S G P 0 := by
    intro hx
    obtain ⟨t, ht, rfl⟩ := inR_ex hx
    have x6 : ixB (nI t) 6 = true := ixB_nI ht (by decide)
    have ek : (nI t).toNatClampNeg = t := nI_clamp (by omega)
    obtain ⟨m, hm, em, hm0, hsrt⟩ := tp_ex hD ht
    have e4 : S 152 (nI t).toNatClampNeg = d 4 t := by rw [ek]; exact (hI.2.2.2.1.1 t ht).1
    have e5 : S 153 (nI t).toNatClampNeg = nI m := by rw [ek]; exact (hI.2.2.2.1.1 t ht).2.trans em
    have a40 : ¬ d 4 t = -1 → inR m y = true → At 40 [.ref 120, .int (nI t), .int y, .long v, .retAddr 0] [] n K S G P 0 := by
      intro c1 c2
      have ok : okIt d (nI t) y := ⟨hx, by rw [ek]; exact c1, by rw [ek, em, nI_clamp (by omega)]; exact c2⟩
      obtain ⟨j, hj, rfl⟩ := inR_ex c2
      have ej : (nI j).toNatClampNeg = j := nI_clamp (by omega)
      obtain ⟨s, hs, es⟩ := hsrt.resolve_left c1
      have xi : 60 * nI t + nI j = nI (60 * t + j) := by rw [show (60 : Int32) = nI 60 from rfl, pk_mul, nI_add]
      have xj : ixB (60 * nI t + nI j) 360 = true := by rw [xi]; exact ixB_nI (by omega) (by decide)
      refine go [] 60 _ _ _ _ _ _ _ _ _ ?_
      refine ite_t x6 ?_
      rw [e4, es]
      refine mm_kept hs ?_
      refine ite_t xj ?_
      refine h1 ok _ _ (FrM.rf S) (fun b hb => ?_) (InvM_g hI (fun i hi => ?_))
      · funext i
        exact up2_o _ _ (by omega)
      · unfold itG
        show up2 G 154 (60 * nI t + nI j).toNatClampNeg (narV (nI s) v) 154 i = _
        rw [ek, ej, es, xi, nI_clamp (by omega)]
        by_cases e : i = 60 * t + j
        · rw [e, up2_s]
          unfold va_up
          rw [if_pos rfl]
        · rw [up2_o _ _ (by omega)]
          unfold va_up
          rw [if_neg e]
          exact hI.2.2.2.1.2 i hi
    have a21 : ¬ d 4 t = -1 → At 21 [.ref 120, .int (nI t), .int y, .long v, .retAddr 0] [] n K S G P 0 := by
      intro c1
      have em1 : (S 153 (nI t).toNatClampNeg - 1).toInt = (m : Int) - 1 := by rw [e5]; exact sub_n (p := 1) (by omega) (by decide)
      refine go [40] 60 _ _ _ _ _ _ _ _ _ ?_
      refine ite_t x6 ?_
      refine m_within (fun c c2 => ?_) (fun c2 => ?_)
      · rw [t_0] at c
        have c2' : y.toInt ≤ (S 153 (nI t).toNatClampNeg - 1).toInt := c2
        rw [em1] at c2'
        exact a40 c1 (inR_lt (by omega) (by omega))
      · have c2' : ¬ (0 ≤ y.toInt ∧ y.toInt ≤ (S 153 (nI t).toNatClampNeg - 1).toInt) := c2
        rw [em1] at c2'
        refine c_no (-13) (fun w => ?_) ?_
        · have := w.2.2
          rw [ek, em, nI_clamp (by omega)] at this
          obtain ⟨j, hj, rfl⟩ := inR_ex this
          rw [nI_toInt (by omega)] at c2'
          omega
        · unfold rIt0
          rw [if_pos hx, ek, if_neg c1]
    refine go [21] 60 _ _ _ _ _ _ _ _ _ ?_
    refine ite_t x6 ?_
    refine ite_i (fun c => ?_) (fun c => ?_)
    · refine a21 (fun w => ?_)
      rw [e4, w] at c
      exact absurd c (by decide)
    · have e : d 4 t = -1 := by
        rcases hsrt with e | ⟨s, hs, e⟩
        · exact e
        · rw [e4, e] at c
          exact absurd (by rw [le_i, t_0, nI_toInt (by omega)]; omega) c
      refine c_no (-11) (fun w => ?_) ?_
      · have := w.2.1
        rw [ek] at this
        exact this e
      · unfold rIt0
        rw [if_pos hx, ek, if_pos e]
  refine go [9] 60 _ _ _ _ _ _ _ _ _ ?_
  refine mm_tape2 (fun hx => a9 hx) (fun hx => ?_)
  refine c_no (-1) (fun w => ?_) ?_
  · have := w.1; rw [hx] at this; cases this
  · unfold rIt0
    rw [hx]
    rfl
end A
end

noncomputable section
/-! JUDGE, TRACE, TAKEN, COUNT, READ. -/
def juC (m p : Nat) (x : Int32) : Prop := 0 ≤ x.toInt ∧ x.toInt + p < (m : Int)
def juV (g : Nat → Int64) (tw : Nat → Int32) (t m : Nat) (x : Int32) : Nat → Nat → Int32
  | 0, _ => -5
  | k + 1, p => @ite _ (juC m p x) (Classical.propDecidable _) (if g (60 * t + (x.toNatClampNeg + p)) = (tw (12 + p)).toInt64 then juV g tw t m x k (p + 1) else nI p) (nI (100 + p))
def rJu (d : Nat → Nat → Int32) (g : Nat → Int64) (np : Nat) (x y : Int32) : Int32 := if inR 6 x = true then (if d 4 x.toNatClampNeg = -1 ∨ d 4 x.toNatClampNeg = 0 then juV g (d 0) x.toNatClampNeg (d 5 x.toNatClampNeg).toNatClampNeg y np 0 else -12) else -1
theorem sh_tp {n t : Nat} {K : Mk} {A : Nat → Prop} (ht : t < 6) (h : A 60) : (match sho T1 n K (76 + t) with
    | some (.inl (2, N)) => A N
    | _ => False) := by
  have e : ∀ t, t < 6 → t = 0 ∨ t = 1 ∨ t = 2 ∨ t = 3 ∨ t = 4 ∨ t = 5 := by decide
  rcases e t ht with rfl | rfl | rfl | rfl | rfl | rfl <;> exact h
theorem rf_l {A : Int32 → Nat → List Value → Prop} {y : Option Nat} {b : Nat} {q : List Value} {i : Int32} (h : y = some b) (hA : A i b q) : (match Value.int i :: va_rf y :: q with
    | .int i :: .ref a :: q' => A i a q'
    | _ => False) := by
  subst h
  exact hA
def rTr (d : Nat → Nat → Int32) (ran : Nat) (x : Int32) : Int32 := if inR 20 x = true ∧ inR ran x = true then d 6 x.toNatClampNeg else -1
def par (k : Nat) : Nat := [0, 0, 0, 0, 1, 2, 3].getD k 0
def chn : Nat → Nat → Nat → Nat
  | 0, u, _ => u
  | m + 1, u, y => if u = y ∨ u = 0 then u else chn m (par u) y
def okK (k j : Nat) : Bool := Nat.beq (chn 2 k j) j
theorem okK_sub : ∀ k, k < 7 → ∀ j, j < 7 → okK k j = isSub (kcl k) (kcl j) := by decide
def rTk (tw : Nat → Int32) (np : Nat) (x y : Int32) : Int32 := if inR 7 y = true then (if inR np x = true then (if okK (tw x.toNatClampNeg).toNatClampNeg y.toNatClampNeg = true then tw x.toNatClampNeg else -12) else -11) else -2
def rCt (N : Nat → Nat) (d : Nat → Nat → Int32) (x : Int32) : Int32 := if x = 0 then d 0 219 else if x = 1 then nI (N 2) else if x = 2 then d 0 221 else if x = 3 then d 0 222 else if x = 4 then d 0 223 else if x = 5 then nI (N 3) else if x = 6 then nI (N 6) else -2
def rRd (d : Nat → Nat → Int32) (g : Nat → Int64) (x y : Int32) : Int64 := if inR 6 x = true ∧ inR (d 5 x.toNatClampNeg).toNatClampNeg y = true then g (60 * x.toNatClampNeg + y.toNatClampNeg) else noV
section A
variable {l : Launch} {L : Nat} {xs : Nat → Int32} {D : Nat} {n : Nat} {K : Mk} {S : Mi} {G : Ml} {P : Mr} {Q : QT} {N : Nat → Nat} {d : Nat → Nat → Int32} {g : Nat → Int64} {sd : Nat → Int32 × ((Nat → Int32) → Bool)}
set_option maxRecDepth 20000
theorem m_tape2 {T : Tb} {x : Int32} (h1 : inR 6 x = true → Q (some (.int 1)) n K S G P) (h0 : inR 6 x = false → Q (some (.int 0)) n K S G P) : Ok l L xs T (D + 2) jX11_isTape 0 [.int x] n K S G P Q :=
  m_isTape (fun a b => h1 (inR_lt a (by omega))) (fun a => h0 (inR_f (by omega)))
theorem mm_tape2 {T : Tb} {x : Int32} (h1 : inR 6 x = true → Q (some (.int 1)) n K S G P) (h0 : inR 6 x = false → Q (some (.int 0)) n K S G P) : Ok l L xs T (D + 2) jX12_isTape 0 [.int x] n K S G P Q :=
  m_isTape2 (fun a b => h1 (inR_lt a (by omega))) (fun a => h0 (inR_f (by omega)))
theorem tp_ex (hD : DOk N d) {t : Nat} (ht : t < 6) : ∃ m, m ≤ 60 ∧ d 5 t = nI m ∧ (d 4 t = -1 → m = 0) ∧ (d 4 t = -1 ∨ ∃ s, s < 5 ∧ d 4 t = nI s) := by
  rcases hD.2.2.2.2.2.1 t ht with ⟨e1, e2⟩ | ⟨s, m, hs, hm, e1, e2⟩
  · exact ⟨0, by decide, e2, fun _ => rfl, .inl e1⟩
  · refine ⟨m, hm, e2, fun e => ?_, .inr ⟨s, hs, e1⟩⟩
    rw [e1, eq_i, nI_toInt (by omega), t_m1] at e
    omega
theorem juV_t {g : Nat → Int64} {tw : Nat → Int32} {t m k p : Nat} {x : Int32} (h : juC m p x) : juV g tw t m x (k + 1) p = if g (60 * t + (x.toNatClampNeg + p)) = (tw (12 + p)).toInt64 then juV g tw t m x k (p + 1) else nI p := if_pos h
theorem juV_f {g : Nat → Int64} {tw : Nat → Int32} {t m k p : Nat} {x : Int32} (h : ¬ juC m p x) : juV g tw t m x (k + 1) p = nI (100 + p) := if_neg h
theorem sub_n {m p : Nat} (hm : m ≤ 60) (hp : p ≤ 60) : (nI m - nI p).toInt = (m : Int) - p := by
  rw [Int32.toInt_sub, nI_toInt (by omega), nI_toInt (by omega)]
  exact Int.bmod_eq_of_le (by omega) (by omega)
theorem c_judge {x y : Int32} (hI : InvC N d g sd n K S G P) (hD : DOk N d) (h : ∀ S', FrC S S' → InvC N d g sd n K S' G P → Q (some (.int (rJu d g (N 0) x y))) n K S' G P) : Ok l L xs T1 (D + 12) jX11_judge 0 [.ref 32, .int x, .int y] n K S G P Q := by
  refine I_X11_judge (by decide) (fun At go => ?_)
  have hQ := h S (FrC.rf S) hI
  have np6 := hD.1.1.2
  have hR := hI.1.1.1
  have hn : S 33 0 = nI (N 0) := (RC_np hR).trans hD.1.1.1
  unfold rJu at hQ
  rcases inR_c 6 x with ⟨t, ht, rfl⟩ | hx
  · rw [if_pos (inR_nI ht (by decide)), nI_clamp (by omega)] at hQ
    obtain ⟨m, hm, em, hm0, hsrt⟩ := tp_ex hD ht
    have e4 : S 82 (nI t).toNatClampNeg = d 4 t := by rw [nI_clamp (by omega)]; exact (hI.2.2.2.1.1 t ht).1
    have e5 : S 83 (nI t).toNatClampNeg = nI m := by rw [nI_clamp (by omega)]; exact (hI.2.2.2.1.1 t ht).2.1.trans em
    have e75 : P 75 (nI t).toNatClampNeg = some (76 + t) := by rw [nI_clamp (by omega)]; exact (hI.2.2.2.1.1 t ht).2.2
    rw [em, nI_clamp (n := m) (by omega)] at hQ
    have x6 : ixB (nI t) 6 = true := ixB_nI ht (by decide)
    have a31 : (d 4 t = -1 ∨ d 4 t = 0) → At 31 [.ref 32, .int (nI t), .int y, .retAddr 0] [] n K S G P 0 := by
      intro hs
      rw [if_pos hs] at hQ
      have loop : ∀ k p vp, p + k = N 0 → vp = nI p → Q (some (.int (juV g (d 0) t m y k p))) n K S G P → At 33 [.ref 32, .int (nI t), .int y, .int vp] [] n K S G P 0 := by
        intro k
        induction k with
        | zero =>
          intro p vp hp hv hQ
          subst hv
          have a97 : At 97 [.ref 32, .int (nI t), .int y, .int (nI p)] [] n K S G P 0 := by
            refine go [33] 60 _ _ _ _ _ _ _ _ _ ?_
            exact hQ
          refine go [33, 60, 65, 91, 97] 60 _ _ _ _ _ _ _ _ _ ?_
          refine ite_t (by rw [hn, le_i, nI_toInt (by omega), nI_toInt (by omega)]; omega) ?_
          exact a97
        | succ k ih =>
          intro p vp hp hv hQ
          subst hv
          have a60 : ¬ juC m p y → At 60 [.ref 32, .int (nI t), .int y, .int (nI p)] [] n K S G P 0 := by
            intro c
            rw [juV_f c, ← nI_add] at hQ
            refine go [33] 60 _ _ _ _ _ _ _ _ _ ?_
            exact hQ
          have a65 : juC m p y → At 65 [.ref 32, .int (nI t), .int y, .int (nI p)] [] n K S G P 0 := by
            intro c
            rw [juV_t c] at hQ
            obtain ⟨c1, c2⟩ := c
            obtain ⟨j, hj, rfl⟩ := ex_nI c1
            rw [nI_toInt hj] at c2
            have xj : ixB (nI j + nI p) 60 = true := by rw [nI_add]; exact ixB_nI (by omega) (by decide)
            rw [nI_clamp hj] at hQ
            have eg : G (76 + t) (nI j + nI p).toNatClampNeg = g (60 * t + (j + p)) := by rw [nI_add, nI_clamp (by omega)]; exact hI.2.2.2.1.2 t _ ht (by omega)
            have ew : S 35 (nI p).toNatClampNeg = d 0 (12 + p) := by rw [nI_clamp (by omega)]; exact RC_wed hR p (by omega)
            refine go [33, 91] 60 _ _ _ _ _ _ _ _ _ ?_
            refine ite_t x6 ?_
            refine rf_l e75 ?_
            refine sh_tp ht ?_
            refine ite_t xj ?_
            refine ite_t (ixB_nI (by omega) (by decide)) ?_
            refine ite_i (fun c => ?_) (fun c => ?_)
            · rw [lg_cmp_eq, eg, ew] at c
              rw [if_pos c] at hQ
              have a91 : At 91 [.ref 32, .int (nI t), .int (nI j), .int (nI p)] [] n K S G P 0 := by
                refine go [33] 60 _ _ _ _ _ _ _ _ _ ?_
                exact ih (p + 1) _ (by omega) (nI_1 p) hQ
              exact a91
            · rw [lg_cmp_eq, eg, ew] at c
              rw [if_neg c] at hQ
              exact hQ
          refine go [33, 60, 65, 91, 97] 60 _ _ _ _ _ _ _ _ _ ?_
          refine ite_f (by rw [hn, le_i, nI_toInt (by omega), nI_toInt (by omega)]; omega) ?_
          refine ite_i (fun c => a60 (fun z => by rw [lt_i, t_0] at c; have := z.1; omega)) (fun c => ?_)
          rw [lt_i, t_0] at c
          refine ite_t x6 ?_
          refine ite_i (fun c2 => ?_) (fun c2 => ?_)
          · rw [e5, lt_i] at c2
            have c2' : y.toInt < (nI m - nI p).toInt := c2
            rw [sub_n hm (by omega)] at c2'
            exact a65 ⟨by omega, by omega⟩
          · rw [e5, lt_i] at c2
            have c2' : ¬ y.toInt < (nI m - nI p).toInt := c2
            rw [sub_n hm (by omega)] at c2'
            exact a60 (fun z => by have := z.2; omega)
      refine go [33] 60 _ _ _ _ _ _ _ _ _ ?_
      exact loop (N 0) 0 _ (by omega) rfl hQ
    have a9 : At 9 [.ref 32, .int (nI t), .int y, .retAddr 0] [] n K S G P 0 := by
      refine go [31] 60 _ _ _ _ _ _ _ _ _ ?_
      refine ite_t x6 ?_
      refine ite_i (fun c => a31 (.inl (e4.symm.trans c))) (fun c => ?_)
      refine ite_t x6 ?_
      refine ite_i (fun c2 => a31 (.inr (e4.symm.trans c2))) (fun c2 => ?_)
      rw [if_neg (fun z => z.elim (fun z => c (e4.trans z)) (fun z => c2 (e4.trans z)))] at hQ
      exact hQ
    refine go [9] 60 _ _ _ _ _ _ _ _ _ ?_
    refine m_tape2 (fun _ => a9) (fun c => ?_)
    rw [inR_nI ht (by decide)] at c
    cases c
  · rw [hx, if_neg (by decide)] at hQ
    refine go [9] 60 _ _ _ _ _ _ _ _ _ ?_
    refine m_tape2 (fun c => ?_) (fun _ => ?_)
    · rw [hx] at c; cases c
    · exact hQ
theorem q_judge {x y : Int32} (hI : InvM N d g sd S G) (hD : DOk N d) (h : ∀ S', FrM S S' → InvM N d g sd S' G → Q (some (.int (rJu d g (N 0) x y))) n K S' G P) : Ok l L xs T1 (D + 12) jX12_judge 0 [.ref 120, .int x, .int y] n K S G P Q := by
  refine I_X12_judge (by decide) (fun At go => ?_)
  have hQ := h S (FrM.rf S) hI
  have np6 := hD.1.1.2
  have hR := hI.1.1
  have hn : S 120 0 = nI (N 0) := (RM_np hR).trans hD.1.1.1
  unfold rJu at hQ
  rcases inR_c 6 x with ⟨t, ht, rfl⟩ | hx
  · rw [if_pos (inR_nI ht (by decide)), nI_clamp (by omega)] at hQ
    obtain ⟨m, hm, em, hm0, hsrt⟩ := tp_ex hD ht
    have e4 : S 152 (nI t).toNatClampNeg = d 4 t := by rw [nI_clamp (by omega)]; exact (hI.2.2.2.1.1 t ht).1
    have e5 : S 153 (nI t).toNatClampNeg = nI m := by rw [nI_clamp (by omega)]; exact (hI.2.2.2.1.1 t ht).2.trans em
    rw [em, nI_clamp (n := m) (by omega)] at hQ
    have x6 : ixB (nI t) 6 = true := ixB_nI ht (by decide)
    have a33 : (d 4 t = -1 ∨ d 4 t = 0) → At 33 [.ref 120, .int (nI t), .int y, .retAddr 0] [] n K S G P 0 := by
      intro hs
      rw [if_pos hs] at hQ
      have loop : ∀ k p vp, p + k = N 0 → vp = nI p → Q (some (.int (juV g (d 0) t m y k p))) n K S G P → At 35 [.ref 120, .int (nI t), .int y, .int vp] [] n K S G P 0 := by
        intro k
        induction k with
        | zero =>
          intro p vp hp hv hQ
          subst hv
          have a110 : At 110 [.ref 120, .int (nI t), .int y, .int (nI p)] [] n K S G P 0 := by
            refine go [35] 60 _ _ _ _ _ _ _ _ _ ?_
            exact hQ
          refine go [35, 73, 78, 104, 110] 60 _ _ _ _ _ _ _ _ _ ?_
          refine ite_t (by rw [hn, le_i, nI_toInt (by omega), nI_toInt (by omega)]; omega) ?_
          exact a110
        | succ k ih =>
          intro p vp hp hv hQ
          subst hv
          have a73 : ¬ juC m p y → At 73 [.ref 120, .int (nI t), .int y, .int (nI p)] [] n K S G P 0 := by
            intro c
            rw [juV_f c, ← nI_add] at hQ
            refine go [35] 60 _ _ _ _ _ _ _ _ _ ?_
            exact hQ
          have a78 : juC m p y → At 78 [.ref 120, .int (nI t), .int y, .int (nI p)] [] n K S G P 0 := by
            intro c
            rw [juV_t c] at hQ
            obtain ⟨c1, c2⟩ := c
            obtain ⟨j, hj, rfl⟩ := ex_nI c1
            rw [nI_toInt hj] at c2
            have xi : 60 * nI t + nI j + nI p = nI (60 * t + (j + p)) := by rw [show (60 : Int32) = nI 60 from rfl, pk_mul, nI_add, nI_add, Nat.add_assoc]
            have xj : ixB (60 * nI t + nI j + nI p) 360 = true := by rw [xi]; exact ixB_nI (by omega) (by decide)
            rw [nI_clamp hj] at hQ
            have eg : G 154 (60 * nI t + nI j + nI p).toNatClampNeg = g (60 * t + (j + p)) := by rw [xi, nI_clamp (by omega)]; exact hI.2.2.2.1.2 _ (by omega)
            have ew : S 123 (nI p).toNatClampNeg = d 0 (12 + p) := by rw [nI_clamp (by omega)]; exact RM_wed hR p (by omega)
            refine go [35, 104] 60 _ _ _ _ _ _ _ _ _ ?_
            refine ite_t xj ?_
            refine ite_t (ixB_nI (by omega) (by decide)) ?_
            refine ite_i (fun c => ?_) (fun c => ?_)
            · rw [lg_cmp_eq] at c
              have c' := eg.symm.trans (c.trans (congrArg Int32.toInt64 ew))
              rw [if_pos c'] at hQ
              have a104 : At 104 [.ref 120, .int (nI t), .int (nI j), .int (nI p)] [] n K S G P 0 := by
                refine go [35] 60 _ _ _ _ _ _ _ _ _ ?_
                exact ih (p + 1) _ (by omega) (nI_1 p) hQ
              exact a104
            · rw [lg_cmp_eq] at c
              rw [if_neg (fun z => c (eg.trans (z.trans (congrArg Int32.toInt64 ew).symm)))] at hQ
              exact hQ
          refine go [35, 73, 78, 104, 110] 60 _ _ _ _ _ _ _ _ _ ?_
          refine ite_f (by rw [hn, le_i, nI_toInt (by omega), nI_toInt (by omega)]; omega) ?_
          refine ite_t x6 ?_
          refine ite_i (fun c => a73 (fun z => by have := hm0 (e4.symm.trans c); have := z.2; have := z.1; omega)) (fun c0 => ?_)
          refine ite_i (fun c => a73 (fun z => by rw [lt_i, t_0] at c; have := z.1; omega)) (fun c => ?_)
          rw [lt_i, t_0] at c
          refine ite_t x6 ?_
          obtain ⟨j, hj, rfl⟩ := ex_nI (x := y) (by omega)
          have es : (nI j).toInt64 + (nI p).toInt64 = lN (j + p) := by rw [nI_l hj, nI_l (by omega), lN_add]
          have el : (lN (j + p) < lN m) ↔ j + p < m := by
            have e1 : (lN (j + p)).toInt = ((j + p : Nat) : Int) := by
              have hj' : j < 2147483648 := hj
              exact lg_ofNat_toInt (by omega)
            rw [Int64.lt_iff_toInt_lt, e1, lN_toInt (show m < 2 ^ 31 by omega)]
            omega
          refine ite_i (fun c2 => ?_) (fun c2 => ?_)
          · rw [lg_cmp_lt] at c2
            have c2' : (nI j).toInt64 + (nI p).toInt64 < (S 153 (nI t).toNatClampNeg).toInt64 := c2
            rw [e5, es, nI_l (by omega), el] at c2'
            exact a78 ⟨by rw [nI_toInt hj]; omega, by rw [nI_toInt hj]; omega⟩
          · rw [lg_cmp_lt] at c2
            have c2' : ¬ (nI j).toInt64 + (nI p).toInt64 < (S 153 (nI t).toNatClampNeg).toInt64 := c2
            rw [e5, es, nI_l (by omega), el] at c2'
            exact a73 (fun z => by have := z.2; rw [nI_toInt hj] at this; omega)
      refine go [35] 60 _ _ _ _ _ _ _ _ _ ?_
      exact loop (N 0) 0 _ (by omega) rfl hQ
    have a11 : At 11 [.ref 120, .int (nI t), .int y, .retAddr 0] [] n K S G P 0 := by
      refine go [33] 60 _ _ _ _ _ _ _ _ _ ?_
      refine ite_t x6 ?_
      refine ite_i (fun c => a33 (.inl (e4.symm.trans c))) (fun c => ?_)
      refine ite_t x6 ?_
      refine ite_i (fun c2 => a33 (.inr (e4.symm.trans c2))) (fun c2 => ?_)
      rw [if_neg (fun z => z.elim (fun z => c (e4.trans z)) (fun z => c2 (e4.trans z)))] at hQ
      exact hQ
    refine go [11] 60 _ _ _ _ _ _ _ _ _ ?_
    refine mm_w0 (m := 5) (by decide) 5 rfl (fun _ => a11) (fun c => ?_)
    rw [inR_nI ht (by decide)] at c
    cases c
  · rw [hx, if_neg (by decide)] at hQ
    refine go [11] 60 _ _ _ _ _ _ _ _ _ ?_
    refine mm_w0 (m := 5) (by decide) 5 rfl (fun c => ?_) (fun _ => ?_)
    · rw [hx] at c; cases c
    · exact hQ
end A
end

noncomputable section
/-! A STREET is read, by the model. -/
def MInv (k cd : Nat) (S : Mi) (ys : List Cl) : Prop := S 120 23 = nI (cd + seM ys ys.length) ∧ ∀ i, i < ys.length → S 130 (10 * k + i) = nI (cg ys i).1 ∧ S 131 (10 * k + i) = nI (cg ys i).2.1 ∧ S 132 (10 * k + i) = nI (cd + seM ys i) ∧ S 133 (10 * k + i) = nI (cg ys i).2.2.2.length ∧ ∀ j, j < (cg ys i).2.2.2.length → S 134 (cd + seM ys i + j) = nI ((cg ys i).2.2.2.getD j 0)
theorem MInv_s {k cd : Nat} {S S' : Mi} {ys : List Cl} {c : Cl} (h : MInv k cd S ys) (f : FrX (10 * k + ys.length) (cd + seM ys ys.length) S S') (g23 : S' 120 23 = nI (cd + seM ys ys.length + c.2.2.2.length)) (g0 : S' 130 (10 * k + ys.length) = nI c.1) (g1 : S' 131 (10 * k + ys.length) = nI c.2.1) (g2 : S' 132 (10 * k + ys.length) = nI (cd + seM ys ys.length)) (g3 : S' 133 (10 * k + ys.length) = nI c.2.2.2.length) (gj : ∀ j, j < c.2.2.2.length → S' 134 (cd + seM ys ys.length + j) = nI (c.2.2.2.getD j 0)) : MInv k cd S' (ys ++ [c]) := by
  obtain ⟨h23, hi⟩ := h
  refine ⟨by rw [len_1, seM_r, g23, Nat.add_assoc], fun i hl => ?_⟩
  rw [len_1] at hl
  by_cases e : i = ys.length
  · subst e
    rw [cg_r, seM_l (Nat.le_refl _)]
    exact ⟨g0, g1, g2, g3, gj⟩
  · have hl' : i < ys.length := by omega
    obtain ⟨k0, k1, k2, k3, kj⟩ := hi i hl'
    rw [cg_l hl', seM_l (by omega)]
    refine ⟨(f _ _ (by omega) (by omega) (by omega)).trans k0, (f _ _ (by omega) (by omega) (by omega)).trans k1, (f _ _ (by omega) (by omega) (by omega)).trans k2, (f _ _ (by omega) (by omega) (by omega)).trans k3, fun j hj => (f _ _ (by omega) ?_ (by omega)).trans (kj j hj)⟩
    have := seM_le (ys := ys) (i := i + 1) (j := ys.length) (by omega)
    have e2 : seM ys (i + 1) = seM ys i + (cg ys i).2.2.2.length := rfl
    omega
theorem MInv_f {k cd : Nat} {S S' : Mi} {ys : List Cl} (h : MInv k cd S ys) (g23 : S' 120 23 = S 120 23) (f : ∀ b j, 130 ≤ b → b ≤ 134 → S' b j = S b j) : MInv k cd S' ys := by
  obtain ⟨h23, hi⟩ := h
  refine ⟨g23.trans h23, fun i hl => ?_⟩
  obtain ⟨k0, k1, k2, k3, kj⟩ := hi i hl
  exact ⟨(f _ _ (by decide) (by decide)).trans k0, (f _ _ (by decide) (by decide)).trans k1, (f _ _ (by decide) (by decide)).trans k2, (f _ _ (by decide) (by decide)).trans k3, fun j hj => (f _ _ (by decide) (by decide)).trans (kj j hj)⟩
def FrY (k cd : Nat) (S S' : Mi) : Prop := ∀ b j, ¬ (b = 120 ∧ (j = 11 ∨ j = 12 ∨ j = 13 ∨ j = 14 ∨ j = 23)) → ¬ (b = 134 ∧ cd ≤ j) → ¬ (130 ≤ b ∧ b ≤ 133 ∧ 10 * k ≤ j) → S' b j = S b j
def FrG (k cd : Nat) (S S' : Mi) : Prop := ∀ b j, ¬ (b = 120 ∧ (j = 9 ∨ j = 11 ∨ j = 12 ∨ j = 13 ∨ j = 14 ∨ j = 15 ∨ j = 16 ∨ j = 23)) → ¬ (b = 134 ∧ cd ≤ j) → ¬ (130 ≤ b ∧ b ≤ 133 ∧ 10 * k ≤ j) → ¬ (b = 129 ∧ j = k) → S' b j = S b j
section B
variable {l : Launch} {L : Nat} {xs : Nat → Int32} {D : Nat} {n : Nat} {K : Mk} {S : Mi} {G : Ml} {P : Mr} {Q : QT} {k cd sz : Nat} {t : Nat → Nat}
set_option maxRecDepth 20000
theorem mm_street0 (h15 : S 120 15 = 6) (h : Q (some (.int (-4))) n K S G P) : Ok l L xs T1 (D + 315) jX12_street 0 [.ref 120] n K S G P Q := by
  refine I_X12_street (by decide) (fun At go => ?_)
  refine go [] 60 _ _ _ _ _ _ _ _ _ ?_
  refine ite_t h15 ?_
  exact h
theorem mm_street (h15 : S 120 15 = nI k) (hk : k < 6) (h23 : S 120 23 = nI cd) (hcd : cd ≤ 100 * k) (hS : TxM S t sz)
    (h1 : (clL t sz 10 0).1 = true → ∀ S' v, v = nI k → FrG k cd S S' → S' 120 9 = 0 → S' 120 15 = nI (k + 1) → S' 120 16 = nI k → S' 129 k = nI (clL t sz 10 0).2.2.length → MInv k cd S' (clL t sz 10 0).2.2 → Q (some (.int v)) n K S' G P)
    (h0 : (clL t sz 10 0).1 = false → ∀ S' v, v = -10 - nI (clL t sz 10 0).2.1 → FrG k cd S S' → S' 120 9 = 0 → S' 120 15 = nI k → S' 120 16 = S 120 16 → S' 120 23 = nI cd → S' 129 k = S 129 k → Q (some (.int v)) n K S' G P) : Ok l L xs T1 (D + 315) jX12_street 0 [.ref 120] n K S G P Q := by
  refine I_X12_street (by decide) (fun At go => ?_)
  have h100 := hS.1
  have a123d : ∀ S' q ys vi x1 x3, vi = nI ys.length → clL t sz 10 0 = (true, q, ys) → FrY k cd S S' → MInv k cd S' ys → At 123 [.ref 120, x1, .int vi, x3, .int 1] [] n K S' G P 0 := by
    intro S' q ys vi x1 x3 ev e f hI
    subst ev
    have g15 : S' 120 15 = nI k := (f _ _ (by omega) (by omega) (by omega)).trans h15
    have fin : ∀ (a : Nat) (b c v : Int32), a = k → b = nI k → c = nI (k + 1) → v = nI k → Q (some (.int v)) n K (up2 (up2 (up2 (up2 S' 120 9 0) 129 a (nI ys.length)) 120 16 b) 120 15 c) G P := by
      intro a b c v ea eb ec evv
      subst ea eb ec
      refine h1 (by rw [e]) _ v evv (fun b j y1 y2 y3 y4 => ?_) ?_ (up2_s _ _ _ _) ?_ ?_ ?_
      · rw [up2_o _ _ (by omega), up2_o _ _ (by omega), up2_o _ _ (by omega), up2_o _ _ (by omega)]
        exact f b j (by omega) y2 y3
      · rw [up2_o _ _ (by omega), up2_o _ _ (by omega), up2_o _ _ (by omega), up2_s]
      · rw [up2_o _ _ (by omega), up2_s]
      · rw [up2_o _ _ (by omega), up2_o _ _ (by omega), up2_s, e]
      · rw [e]
        exact MInv_f hI (by rw [up2_o _ _ (by omega), up2_o _ _ (by omega), up2_o _ _ (by omega), up2_o _ _ (by omega)]) (fun b j y1 y2 => by rw [up2_o _ _ (by omega), up2_o _ _ (by omega), up2_o _ _ (by omega), up2_o _ _ (by omega)])
    have ec : (S' 120 15).toNatClampNeg = k := by rw [g15, nI_clamp (by omega)]
    have e1 : S' 120 15 + 1 = nI (k + 1) := by rw [g15]; exact nI_1 k
    have x6 : ixB (S' 120 15) 6 = true := by rw [g15]; exact ixB_nI hk (by decide)
    refine go [] 60 _ _ _ _ _ _ _ _ _ ?_
    refine ite_t x6 ?_
    exact fin (S' 120 15).toNatClampNeg (S' 120 15) (S' 120 15 + 1) (S' 120 15) ec g15 e1 g15
  have a123n : ∀ S' q ys vw x2 x3, vw = nI cd → clL t sz 10 0 = (false, q, ys) → FrY k cd S S' → S' 120 11 = nI q → At 123 [.ref 120, .int vw, x2, x3, .int 0] [] n K S' G P 0 := by
    intro S' q ys vw x2 x3 ev e f g11
    subst ev
    have hQ := h0 (by rw [e]) (up2 (up2 S' 120 9 0) 120 23 (nI cd)) (-10 - S' 120 11) (by rw [e, g11]) (fun b j y1 y2 y3 y4 => by rw [up2_o _ _ (by omega), up2_o _ _ (by omega)]; exact f b j (by omega) y2 y3) (by rw [up2_o _ _ (by omega), up2_s]) (by rw [up2_o _ _ (by omega), up2_o _ _ (by omega)]; exact (f _ _ (by omega) (by omega) (by omega)).trans h15) (by rw [up2_o _ _ (by omega), up2_o _ _ (by omega)]; exact f _ _ (by omega) (by omega) (by omega)) (up2_s _ _ _ _) (by rw [up2_o _ _ (by omega), up2_o _ _ (by omega)]; exact f _ _ (by omega) (by omega) (by omega))
    refine go [] 60 _ _ _ _ _ _ _ _ _ ?_
    exact hQ
  have a29n : ∀ S' q ys vw x2, vw = nI cd → clL t sz 10 0 = (false, q, ys) → FrY k cd S S' → S' 120 11 = nI q → At 29 [.ref 120, .int vw, x2, .int 0, .int 0] [] n K S' G P 0 := by
    intro S' q ys vw x2 ev e f g11
    refine go [123] 60 _ _ _ _ _ _ _ _ _ ?_
    exact a123n S' q ys vw _ _ ev e f g11
  have a64 : ∀ S' q ys vw (x2 : Int32), vw = nI cd → clL t sz 10 0 = (false, q, ys) → FrY k cd S S' → S' 120 11 = nI q → At 64 [.ref 120, .int vw, .int x2, .int 1, .int 0] [] n K S' G P 0 := by
    intro S' q ys vw x2 ev e f g11
    refine go [29] 60 _ _ _ _ _ _ _ _ _ ?_
    exact a29n S' q ys vw _ ev e f g11
  have a118 : ∀ S' q ys vw (x2 : Int32), vw = nI cd → clL t sz 10 0 = (false, q, ys) → FrY k cd S S' → S' 120 11 = nI q → At 118 [.ref 120, .int vw, .int x2, .int 1, .int 0] [] n K S' G P 0 := by
    intro S' q ys vw x2 ev e f g11
    refine go [29] 60 _ _ _ _ _ _ _ _ _ ?_
    exact a29n S' q ys vw _ ev e f g11
  have loop : ∀ m ys p S' vi vw, ys.length + (m + 1) = 10 → vi = nI ys.length → vw = nI cd → TxM S' t sz → S' 120 11 = nI p → p ≤ sz → seM ys ys.length ≤ p → FrY k cd S S' → MInv k cd S' ys → clL t sz 10 0 = ((clL t sz (m + 1) p).1, (clL t sz (m + 1) p).2.1, ys ++ (clL t sz (m + 1) p).2.2) → At 29 [.ref 120, .int vw, .int vi, .int 1, .int 0] [] n K S' G P 0 := by
    intro m
    induction m with
    | zero =>
      intro ys p S' vi vw hl ev ew hS' g11 hp hse f hI e
      subst ev
      have g15 : S' 120 15 = nI k := (f _ _ (by omega) (by omega) (by omega)).trans h15
      have ex : (10 : Int32) * S' 120 15 + nI ys.length = nI (10 * k + ys.length) := by rw [g15, show (10 : Int32) = nI 10 from rfl, pk_mul, nI_add]
      refine go [29, 64, 118] 60 _ _ _ _ _ _ _ _ _ ?_
      refine ite_f (by rw [le_i, nI_toInt (by omega), t_10]; omega) ?_
      refine mm_isClause ex (by omega) hS' g11 hp hI.1 (by omega) (fun w v lc lm q hc S2 f2 k11 k23 k0 k1 k2 k3 kj => ?_) (fun q hc S2 f2 k11 => ?_)
      · obtain ⟨o1, o2, o3, o4⟩ := clP_ok hp h100 hc
        have hI2 := MInv_s (c := (w, v, lc, lm)) hI f2 k23 k0 k1 k2 k3 kj
        rw [clL_e hc (by omega)] at e
        have fr : FrY k cd S S2 := fun b j y1 y2 y3 => (f2 b j y1 (by omega) (by omega)).trans (f b j y1 y2 y3)
        have g9 : S2 120 9 = nI sz := (f2 _ _ (by omega) (by omega) (by omega)).trans hS'.2.1
        by_cases z : q = sz
        · rw [decide_eq_true z] at e
          have F := a123d S2 q _ (nI ys.length + 1) (.int vw) (.int 1) (by rw [len_1, nI_1]) e fr hI2
          have c : S2 120 11 = S2 120 9 := by rw [k11, g9, z]
          refine ite_t c ?_
          refine go [123] 60 _ _ _ _ _ _ _ _ _ ?_
          exact F
        · rw [decide_eq_false z] at e
          have c : ¬ S2 120 11 = S2 120 9 := by rw [k11, g9, eq_i, nI_toInt (by omega), nI_toInt (by omega)]; omega
          refine ite_f c ?_
          refine ite_t (by rw [nI_1, le_i, t_10, nI_toInt (by omega)]; omega) ?_
          exact a118 S2 q _ vw _ ew e fr k11
      · rw [clL_n hc] at e
        exact a64 S2 q _ vw _ ew e (fun b j y1 y2 y3 => (f2 b j y1 (by omega) (by omega)).trans (f b j y1 y2 y3)) k11
    | succ m ih =>
      intro ys p S' vi vw hl ev ew hS' g11 hp hse f hI e
      subst ev
      have g15 : S' 120 15 = nI k := (f _ _ (by omega) (by omega) (by omega)).trans h15
      have ex : (10 : Int32) * S' 120 15 + nI ys.length = nI (10 * k + ys.length) := by rw [g15, show (10 : Int32) = nI 10 from rfl, pk_mul, nI_add]
      refine go [29, 64, 118] 60 _ _ _ _ _ _ _ _ _ ?_
      refine ite_f (by rw [le_i, nI_toInt (by omega), t_10]; omega) ?_
      refine mm_isClause ex (by omega) hS' g11 hp hI.1 (by omega) (fun w v lc lm q hc S2 f2 k11 k23 k0 k1 k2 k3 kj => ?_) (fun q hc S2 f2 k11 => ?_)
      · obtain ⟨o1, o2, o3, o4⟩ := clP_ok hp h100 hc
        have hI2 := MInv_s (c := (w, v, lc, lm)) hI f2 k23 k0 k1 k2 k3 kj
        have fr : FrY k cd S S2 := fun b j y1 y2 y3 => (f2 b j y1 (by omega) (by omega)).trans (f b j y1 y2 y3)
        have g9 : S2 120 9 = nI sz := (f2 _ _ (by omega) (by omega) (by omega)).trans hS'.2.1
        have hS2 : TxM S2 t sz := ⟨h100, g9, fun i hi => ⟨(hS'.2.2 i hi).1, (f2 _ _ (by omega) (by omega) (by omega)).trans (hS'.2.2 i hi).2⟩⟩
        by_cases z : q = sz
        · rw [clL_e hc (fun y => by have := (isC_i.mp y.2).1; omega), decide_eq_true z] at e
          have F := a123d S2 q _ (nI ys.length + 1) (.int vw) (.int 1) (by rw [len_1, nI_1]) e fr hI2
          have c : S2 120 11 = S2 120 9 := by rw [k11, g9, z]
          refine ite_t c ?_
          refine go [123] 60 _ _ _ _ _ _ _ _ _ ?_
          exact F
        · have c : ¬ S2 120 11 = S2 120 9 := by rw [k11, g9, eq_i, nI_toInt (by omega), nI_toInt (by omega)]; omega
          refine ite_f c ?_
          refine ite_f (by rw [nI_1, le_i, t_10, nI_toInt (by omega)]; omega) ?_
          refine mm_is (c := 59) rfl hS2 k11 o4 (by decide) (fun z1 z2 => ?_) (fun z3 => ?_)
          · have ic : isC t sz 59 q = true := isC_i.mpr ⟨z1, z2⟩
            rw [clL_m hc (by omega) ic] at e
            have e' : clL t sz 10 0 = ((clL t sz (m + 1) (q + 1)).1, (clL t sz (m + 1) (q + 1)).2.1, (ys ++ [(w, v, lc, lm)]) ++ (clL t sz (m + 1) (q + 1)).2.2) := by rw [e, List.append_assoc]; rfl
            exact ih (ys ++ [(w, v, lc, lm)]) (q + 1) _ _ _ (by rw [len_1]; omega) (by rw [len_1]; exact nI_1 _) ew (TxM_fr (m := 0) (fun b j y1 _ => up2_o _ _ (by omega)) hS2) (up2_s _ _ _ _) z1 (by rw [len_1, seM_r]; dsimp only at o3 ⊢; omega) (fun b j y1 y2 y3 => (up2_o _ _ (by omega)).trans (fr b j y1 y2 y3)) (MInv_f hI2 (up2_o _ _ (by omega)) (fun b j y1 y2 => up2_o _ _ (by omega))) e'
          · rw [clL_e hc (fun y => z3 (isC_i.mp y.2)), decide_eq_false z] at e
            exact a118 S2 q _ vw _ ew e fr k11
      · rw [clL_n hc] at e
        exact a64 S2 q _ vw _ ew e (fun b j y1 y2 y3 => (f2 b j y1 (by omega) (by omega)).trans (f b j y1 y2 y3)) k11
  have a29 : At 29 [.ref 120, .int (S 120 23), .int 0, .int 1, .int 0] [] n K (up2 S 120 11 0) G P 0 := loop 9 [] 0 _ 0 _ rfl rfl h23 (TxM_fr (m := 0) (fun b j y1 _ => up2_o _ _ (by omega)) hS) (up2_s _ _ _ _) (Nat.zero_le _) (Nat.le_refl _) (fun b j y1 y2 y3 => up2_o _ _ (by omega)) ⟨(up2_o _ _ (by omega)).trans h23, fun i hi => absurd hi (Nat.not_lt_zero _)⟩ rfl
  refine go [29] 60 _ _ _ _ _ _ _ _ _ ?_
  refine ite_f (by rw [h15, eq_i, nI_toInt (by omega), t_6]; omega) ?_
  exact a29
end B
end

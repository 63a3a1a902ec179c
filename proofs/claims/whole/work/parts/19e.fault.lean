noncomputable section
/-! A STREET is read, by the component. -/
def CInv (s : Nat) (S : Mi) (ys : List Cl) : Prop := S s 1 = nI ys.length ∧ S s 5 = nI (seC ys ys.length) ∧ S s 0 = bgL ys ys.length ∧ ∀ i, i < ys.length → S (s + 1) i = woC (cg ys i).1 (cg ys i).2.1 ∧ S (s + 2) i = nI (seC ys (i + 1)) ∧ ∀ j, j < (cg ys i).2.2.1.length → S (s + 3) (seC ys i + j) = stI0 ((cg ys i).2.2.1.getD j 0)
theorem CInv_s {s : Nat} {S S' : Mi} {ys : List Cl} {c : Cl} (h : CInv s S ys) (f : FrK s ys.length (seC ys ys.length) S S') (g5 : S' s 5 = nI (seC ys ys.length + c.2.2.1.length)) (g1 : S' s 1 = nI (ys.length + 1)) (g0 : S' s 0 = (if c.1 = 2 then nI c.2.1 else S s 0)) (gw : S' (s + 1) ys.length = woC c.1 c.2.1) (ge : S' (s + 2) ys.length = nI (seC ys ys.length + c.2.2.1.length)) (gj : ∀ j, j < c.2.2.1.length → S' (s + 3) (seC ys ys.length + j) = stI0 (c.2.2.1.getD j 0)) : CInv s S' (ys ++ [c]) := by
  obtain ⟨h1, h5, h0, hi⟩ := h
  refine ⟨by rw [len_1]; exact g1, by rw [len_1, seC_r]; exact g5, by rw [len_1, bgL_r, g0, h0], fun i hl => ?_⟩
  rw [len_1] at hl
  by_cases e : i = ys.length
  · subst e
    rw [cg_r, seC_r, seC_l (Nat.le_refl _)]
    exact ⟨gw, ge, gj⟩
  · have hl' : i < ys.length := by omega
    obtain ⟨k1, k2, k3⟩ := hi i hl'
    rw [cg_l hl', seC_l (by omega), seC_l (by omega)]
    refine ⟨(f _ _ (by omega) (by omega) (by omega) (by omega)).trans k1, (f _ _ (by omega) (by omega) (by omega) (by omega)).trans k2, fun j hj => (f _ _ (by omega) ?_ (by omega) (by omega)).trans (k3 j hj)⟩
    have := seC_le (ys := ys) (i := i + 1) (j := ys.length) (by omega)
    have e2 : seC ys (i + 1) = seC ys i + (cg ys i).2.2.1.length := rfl
    omega
theorem CInv_9 {s : Nat} {S : Mi} {ys : List Cl} {v : Int32} (h : CInv s S ys) : CInv s (up2 S s 9 v) ys := by
  obtain ⟨h1, h5, h0, hi⟩ := h
  refine ⟨(up2_o _ _ (by omega)).trans h1, (up2_o _ _ (by omega)).trans h5, (up2_o _ _ (by omega)).trans h0, fun i hl => ?_⟩
  obtain ⟨k1, k2, k3⟩ := hi i hl
  exact ⟨(up2_o _ _ (by omega)).trans k1, (up2_o _ _ (by omega)).trans k2, fun j hj => (up2_o _ _ (by omega)).trans (k3 j hj)⟩
def FrRd (s : Nat) (S S' : Mi) : Prop := ∀ b j, (b < s ∨ s + 5 < b) → S' b j = S b j
section B
variable {l : Launch} {L : Nat} {xs : Nat → Int32} {D : Nat} {n : Nat} {K : Mk} {S : Mi} {G : Ml} {P : Mr} {Q : QT} {s sz : Nat} {t : Nat → Nat} {vz : Int32}
set_option maxRecDepth 20000
theorem m_minv {x y v : Int32} (e : (if y < x then y else x) = v) (h : Q (some (.int v)) n K S G P) : Ok l L xs T1 (D + 1) jJ9_min_7cf53 0 [.int x, .int y] n K S G P Q := m_min (by rw [e]; exact h)
theorem fits_b : ∀ c, c < 128 → fits .byte (.int (nI c)) = true := by decide +kernel
theorem m_faultOf (hs : SD s) (ez : vz = nI sz) (h100 : sz ≤ 100) (ht : ∀ i, i < sz → t i < 128 ∧ S 69 i = nI (t i)) (h : ∀ S', FrRd s S S' → ((clL t sz 10 0).1 = true → CInv s S' (clL t sz 10 0).2.2) → Q (some (.int (if (clL t sz 10 0).1 = true then -1 else nI (clL t sz 10 0).2.1))) n K S' G P) : Ok l L xs T1 (D + 24) jX7_faultOf 0 [.ref s, .ref 69, .int vz] n K S G P Q := by
  refine I_X7_faultOf (by decide) (fun At go => ?_)
  subst ez
  have a110 : ∀ S' v x3, Q (some (.int v)) n K S' G P → At 110 [.ref s, .ref 69, .int (nI sz), x3] [.int v] n K S' G P 0 := by
    intro S' v x3 hQ
    refine go [] 60 _ _ _ _ _ _ _ _ _ ?_
    exact hQ
  have a91 : ∀ S' q ys x3, clL t sz 10 0 = (decide (q = sz), q, ys) → q ≤ sz → FrRd s S S' → S' s 8 = nI sz → S' s 9 = nI q → CInv s S' ys → At 91 [.ref s, .ref 69, .int (nI sz), x3] [] n K S' G P 0 := by
    intro S' q ys x3 e hq f g8 g9 hI
    have hQ := h S' f (by rw [e]; exact fun _ => hI)
    rw [e] at hQ
    dsimp only at hQ
    by_cases z : q = sz
    · rw [if_pos (decide_eq_true z)] at hQ
      have c : S' s 8 ≤ S' s 9 := by rw [g8, g9, le_i, nI_toInt (by omega), nI_toInt (by omega)]; omega
      have F := a110 S' (-1) x3 hQ
      have hs' := hs
      rcases hs' with rfl | rfl | rfl | rfl | rfl | rfl <;> (
      refine go [110] 60 _ _ _ _ _ _ _ _ _ ?_
      refine ite_t c ?_
      exact F)
    · rw [if_neg (by rw [decide_eq_true_eq]; exact z), ← g9] at hQ
      have c : ¬ S' s 8 ≤ S' s 9 := by rw [g8, g9, le_i, nI_toInt (by omega), nI_toInt (by omega)]; omega
      have F := a110 S' (S' s 9) x3 hQ
      have hs' := hs
      rcases hs' with rfl | rfl | rfl | rfl | rfl | rfl <;> (
      refine go [110] 60 _ _ _ _ _ _ _ _ _ ?_
      refine ite_f c ?_
      exact F)
  have loop : ∀ k ys p S' vi, ys.length + (k + 1) = 10 → vi = nI ys.length → TxC s S' t sz → S' s 9 = nI p → p ≤ sz → seC ys ys.length ≤ p → FrRd s S S' → CInv s S' ys → clL t sz 10 0 = ((clL t sz (k + 1) p).1, (clL t sz (k + 1) p).2.1, ys ++ (clL t sz (k + 1) p).2.2) → At 73 [.ref s, .ref 69, .int (nI sz), .int vi] [] n K S' G P 0 := by
    intro k
    induction k with
    | zero =>
      intro ys p S' vi hl ev hS g9 hp hse f hI e
      subst ev
      have y10 : ys.length < 10 := by omega
      refine go [91] 60 _ _ _ _ _ _ _ _ _ ?_
      refine sv_go hs ?_
      refine m_readsClause hs hS g9 hp hI.1 y10 hI.2.1 hse (fun w v lc lm q hc S2 f2 k9 k5 k1 k0 kw ke kj => ?_) (fun q hc S2 f2 k9 => ?_)
      · obtain ⟨o1, o2, o3, o4⟩ := clP_ok hp h100 hc
        have hI2 := CInv_s (c := (w, v, lc, lm)) hI f2 k5 k1 k0 kw ke kj
        rw [clL_e hc (by omega)] at e
        have fr : FrRd s S S2 := fun b j hb => (f2 b j (by omega) (by omega) (by omega) (by omega)).trans (f b j hb)
        have F := a91 S2 q _ (.int (nI ys.length + 1)) e o4 fr ((f2 _ _ (by omega) (by omega) (by omega) (by omega)).trans hS.2.1) k9 hI2
        refine ite_t (by rw [nI_1, le_i, t_10, nI_toInt (by omega)]; omega) ?_
        exact F
      · have hQ := h S2 (fun b j hb => (f2 b j (by omega) (by omega)).trans (f b j hb)) (by rw [e, clL_n hc]; exact fun k => absurd (show false = true from k) (by decide))
        rw [e, clL_n hc] at hQ
        dsimp only at hQ
        rw [if_neg (by decide), ← k9] at hQ
        have hs' := hs
        rcases hs' with rfl | rfl | rfl | rfl | rfl | rfl <;> exact hQ
    | succ k ih =>
      intro ys p S' vi hl ev hS g9 hp hse f hI e
      subst ev
      have y10 : ys.length < 10 := by omega
      refine go [73, 91] 60 _ _ _ _ _ _ _ _ _ ?_
      refine sv_go hs ?_
      refine m_readsClause hs hS g9 hp hI.1 y10 hI.2.1 hse (fun w v lc lm q hc S2 f2 k9 k5 k1 k0 kw ke kj => ?_) (fun q hc S2 f2 k9 => ?_)
      · obtain ⟨o1, o2, o3, o4⟩ := clP_ok hp h100 hc
        have hI2 := CInv_s (c := (w, v, lc, lm)) hI f2 k5 k1 k0 kw ke kj
        have fr : FrRd s S S2 := fun b j hb => (f2 b j (by omega) (by omega) (by omega) (by omega)).trans (f b j hb)
        have g8 : S2 s 8 = nI sz := (f2 _ _ (by omega) (by omega) (by omega) (by omega)).trans hS.2.1
        have hS2 : TxC s S2 t sz := ⟨hS.1, g8, fun i hi => ⟨(hS.2.2 i hi).1, (f2 _ _ (by omega) (by omega) (by omega) (by omega)).trans (hS.2.2 i hi).2⟩⟩
        refine ite_f (by rw [nI_1, le_i, t_10, nI_toInt (by omega)]; omega) ?_
        refine ite_f (by rw [nI_1, le_i, t_0, nI_toInt (by omega)]; omega) ?_
        refine sv_go hs ?_
        refine m_takes (c := 59) rfl hs hS2 k9 o4 (by decide) (fun z1 z2 => ?_) (fun z => ?_)
        · have ic : isC t sz 59 q = true := isC_i.mpr ⟨z1, z2⟩
          rw [clL_m hc (by omega) ic] at e
          have e' : clL t sz 10 0 = ((clL t sz (k + 1) (q + 1)).1, (clL t sz (k + 1) (q + 1)).2.1, (ys ++ [(w, v, lc, lm)]) ++ (clL t sz (k + 1) (q + 1)).2.2) := by rw [e, List.append_assoc]; rfl
          exact ih (ys ++ [(w, v, lc, lm)]) (q + 1) _ _ (by rw [len_1]; omega) (by rw [len_1]; exact nI_1 _) (TxC_fr (m := 0) (FrS_at (fun b j hb => up2_o _ _ (by omega))) hS2) (up2_s _ _ _ _) z1 (by rw [len_1, seC_r]; dsimp only at o2 ⊢; omega) (fun b j hb => (up2_o _ _ (by omega)).trans (fr b j hb)) (CInv_9 hI2) e'
        · rw [clL_e hc (fun y => z (isC_i.mp y.2))] at e
          exact a91 S2 q _ _ e o4 fr g8 k9 hI2
      · have hQ := h S2 (fun b j hb => (f2 b j (by omega) (by omega)).trans (f b j hb)) (by rw [e, clL_n hc]; exact fun k => absurd (show false = true from k) (by decide))
        rw [e, clL_n hc] at hQ
        dsimp only at hQ
        rw [if_neg (by decide), ← k9] at hQ
        have hs' := hs
        rcases hs' with rfl | rfl | rfl | rfl | rfl | rfl <;> exact hQ
  have start : ∀ S', FrRd s S S' → TxC s S' t sz → S' s 9 = 0 → S' s 1 = 0 → S' s 5 = 0 → S' s 0 = 0 → At 73 [.ref s, .ref 69, .int (nI sz), .int 0] [] n K S' G P 0 := by
    intro S' f hS k9 k1 k5 k0
    exact loop 9 [] 0 S' 0 rfl rfl hS k9 (Nat.zero_le _) (Nat.le_refl _) f ⟨k1, k5, k0, fun i hi => absurd hi (Nat.not_lt_zero _)⟩ rfl
  have e1 : (if nI sz < nI 100 then nI sz else nI 100) = nI sz := by
    by_cases c : nI sz < nI 100
    · rw [if_pos c]
    · rw [if_neg c]
      rw [lt_i, nI_toInt (by omega), nI_toInt (by omega)] at c
      rw [show sz = 100 by omega]
  have e2 : (if (100 : Int32) < nI sz then (100 : Int32) else nI sz) = nI sz := by
    rw [if_neg (by rw [lt_i, nI_toInt (by omega), t_100]; omega)]
  have cp : cpOk 0 0 (nI sz) 100 100 := by
    unfold cpOk
    rw [t_0, nI_toInt (by omega)]
    omega
  have fb : ∀ i, i < (nI sz).toNatClampNeg → fits .byte (.int (S 69 ((0 : Int32).toNatClampNeg + i))) = true := by
    intro i hi
    rw [nI_clamp (by omega)] at hi
    have ez : (0 : Int32).toNatClampNeg + i = i := by show 0 + i = i; omega
    rw [ez, (ht i hi).2]
    exact fits_b _ (ht i hi).1
  have cy : ∀ f g : Nat → Int32, ∀ i, i < sz → va_cpy f g (0 : Int32).toNatClampNeg (0 : Int32).toNatClampNeg (nI sz).toNatClampNeg i = f i := by
    intro f g i hi
    rw [nI_clamp (by omega)]
    exact cpy_all hi
  have hs' := hs
  rcases hs' with rfl | rfl | rfl | rfl | rfl | rfl <;> (
  refine go [73] 90 _ _ _ _ _ _ _ _ _ ?_
  refine m_minv e1 ?_
  refine m_minv e2 ?_
  refine ⟨cp, fb, ?_⟩
  refine start _ (fun b j hb => ?_) ⟨h100, rfl, fun i hi => ⟨(ht i hi).1, ?_⟩⟩ rfl rfl rfl rfl
  · rw [up2_o _ _ (by omega), up2_o _ _ (by omega), up2_o _ _ (by omega), up2_o _ _ (by omega)]
    rw [upR_o _ _ (by omega), up2_o _ _ (by omega)]
  · rw [up2_o _ _ (by omega), up2_o _ _ (by omega), up2_o _ _ (by omega), up2_o _ _ (by omega)]
    rw [upR_s]
    exact (cy _ _ i hi).trans ((up2_o _ _ (by omega)).trans (ht i hi).2))
end B
end

noncomputable section
abbrev Cl : Type := Nat × Nat × List Nat × List Nat
section A
variable {t : Nat → Nat} {sz p w q v q2 : Nat}
theorem clP_w (hw : wdP t sz p = (none, q)) : clP t sz p = (none, q) := by
  unfold clP; rw [hw]
theorem clP_n (hw : wdP t sz p = (some w, q)) (hn : num t sz q = none) : clP t sz p = (none, q) := by
  unfold clP; rw [hw]; dsimp only; rw [hn]
theorem clP_b (hw : wdP t sz p = (some 2, q)) (hn : num t sz q = some (v, q2)) : clP t sz p = (some (2, v, [], []), q2) := by
  unfold clP; rw [hw]; dsimp only; rw [hn]; rfl
theorem clP_s (hw : wdP t sz p = (some w, q)) (hn : num t sz q = some (v, q2)) (h2 : w ≠ 2) (hc : ¬ isC t sz 32 q2 = true) : clP t sz p = (none, q2) := by
  unfold clP; rw [hw]; dsimp only; rw [hn]; dsimp only; rw [if_neg h2, if_neg hc]
theorem clP_e (hw : wdP t sz p = (some w, q)) (hn : num t sz q = some (v, q2)) (h2 : w ≠ 2) (hc : isC t sz 32 q2 = true) (he : (pE (psr t sz 101) 0 (q2 + 1)).1 = false) : clP t sz p = (none, (pE (psr t sz 101) 0 (q2 + 1)).2.1) := by
  unfold clP; rw [hw]; dsimp only; rw [hn]; dsimp only; rw [if_neg h2, if_pos hc, if_neg (by rw [he]; decide)]
theorem clP_t (hw : wdP t sz p = (some w, q)) (hn : num t sz q = some (v, q2)) (h2 : w ≠ 2) (hc : isC t sz 32 q2 = true) (he : (pE (psr t sz 101) 0 (q2 + 1)).1 = true) : clP t sz p = (some (w, v, (pE (psr t sz 101) 0 (q2 + 1)).2.2.1, (pE (psr t sz 101) 0 (q2 + 1)).2.2.2), (pE (psr t sz 101) 0 (q2 + 1)).2.1) := by
  unfold clP; rw [hw]; dsimp only; rw [hn]; dsimp only; rw [if_neg h2, if_pos hc, if_pos he]
end A
theorem wdI_2 {w : Nat} (h : w < 3) : wdI (some w) ≠ -2 ∧ (wdI (some w) = 0 ↔ w = 2) := by
  match w, h with
  | 0, _ => decide
  | 1, _ => decide
  | 2, _ => decide
theorem woC_i {w v : Nat} (h : w < 3) : wdI (some w) * nI v = woC w v := by
  match w, h with
  | 0, _ => show (1 : Int32) * nI v = nI v; rw [Int32.one_mul]
  | 1, _ => show (-1 : Int32) * nI v = -nI v; rw [show (-1 : Int32) = -(1 : Int32) from rfl, Int32.neg_mul, Int32.one_mul]
  | 2, _ => show (0 : Int32) * nI v = 0; rw [Int32.zero_mul]
/-- a clause is read by the component: the cells before its last writes -/
def FrL (s m : Nat) (S S' : Mi) : Prop := ∀ b j, ¬ (b = s ∧ (j = 9 ∨ j = 5 ∨ j = 0)) → ¬ (b = s + 3 ∧ m ≤ j) → S' b j = S b j
section B
variable {l : Launch} {L : Nat} {xs : Nat → Int32} {D : Nat} {n : Nat} {K : Mk} {S : Mi} {G : Ml} {P : Mr} {Q : QT} {s p sz c m : Nat} {t : Nat → Nat}
set_option maxRecDepth 20000
theorem m_eithers0 {vd : Int32} (ev : vd = 0) (hs : SD s) (hS : TxC s S t sz) (hp : S s 9 = nI p) (hle : p ≤ sz) (hm : S s 5 = nI m) (hmp : m ≤ p) (h : ∀ S', CR s m S (pE (psr t sz 101) 0 p) S' → Q (some (.int (b2i (pE (psr t sz 101) 0 p).1))) n K S' G P) : Ok l L xs T1 (D + 22) jX7_readsEither 0 [.ref s, .int vd] n K S G P Q := by
  have := hS.1
  exact m_eithers hs 101 D 0 p m vd S Q ev (by decide) hS hp hle hm hmp (by omega) h
theorem m_readsClause (hs : SD s) (hS : TxC s S t sz) (hp : S s 9 = nI p) (hle : p ≤ sz) (hc : S s 1 = nI c) (hc10 : c < 10) (hm : S s 5 = nI m) (hmp : m ≤ p)
    (h1 : ∀ w v lc lm q, clP t sz p = (some (w, v, lc, lm), q) → ∀ S', FrK s c m S S' → S' s 9 = nI q → S' s 5 = nI (m + lc.length) → S' s 1 = nI (c + 1) → S' s 0 = (if w = 2 then nI v else S s 0) → S' (s + 1) c = woC w v → S' (s + 2) c = nI (m + lc.length) → (∀ j, j < lc.length → S' (s + 3) (m + j) = stI0 (lc.getD j 0)) → Q (some (.int 1)) n K S' G P)
    (h0 : ∀ q, clP t sz p = (none, q) → ∀ S', FrL s m S S' → S' s 9 = nI q → Q (some (.int 0)) n K S' G P) : Ok l L xs T1 (D + 23) jX7_readsClause 0 [.ref s] n K S G P Q := by
  refine I_X7_readsClause (by decide) (fun At go => ?_)
  have sz100 := hS.1
  have a34 : ∀ S2 x1 x2, Q (some (.int 0)) n K S2 G P → At 34 [.ref s, x1, x2] [] n K S2 G P 0 := by
    intro S2 x1 x2 hQ
    refine go [] 60 _ _ _ _ _ _ _ _ _ ?_
    exact hQ
  have a65 : ∀ S2 x1 x2, Q (some (.int 0)) n K S2 G P → At 65 [.ref s, x1, x2] [] n K S2 G P 0 := by
    intro S2 x1 x2 hQ
    refine go [] 60 _ _ _ _ _ _ _ _ _ ?_
    exact hQ
  have fin : ∀ S2 (x : Int32) w v lc lm q, clP t sz p = (some (w, v, lc, lm), q) → x * nI v = woC w v → FrL s m S S2 → S2 s 9 = nI q → S2 s 5 = nI (m + lc.length) → S2 s 0 = (if w = 2 then nI v else S s 0) → (∀ j, j < lc.length → S2 (s + 3) (m + j) = stI0 (lc.getD j 0)) → At 67 [.ref s, .int x, .int (nI v)] [] n K S2 G P 0 := by
    intro S2 x w v lc lm q e1 e2 f g9 g5 g0 gj
    have g1 : S2 s 1 = nI c := (f _ _ (by omega) (by omega)).trans hc
    have hQ := h1 w v lc lm q e1 (up2 (up2 (up2 S2 (s + 1) c (x * nI v)) (s + 2) c (S2 s 5)) s 1 (nI (c + 1)))
      (fun b j k1 k2 k3 k4 => by rw [up2_o _ _ (by omega), up2_o _ _ (by omega), up2_o _ _ (by omega)]; exact f b j (by omega) k2)
      (by rw [up2_o _ _ (by omega), up2_o _ _ (by omega), up2_o _ _ (by omega)]; exact g9)
      (by rw [up2_o _ _ (by omega), up2_o _ _ (by omega), up2_o _ _ (by omega)]; exact g5)
      (up2_s _ _ _ _)
      (by rw [up2_o _ _ (by omega), up2_o _ _ (by omega), up2_o _ _ (by omega)]; exact g0)
      (by rw [up2_o _ _ (by omega), up2_o _ _ (by omega), up2_s]; exact e2)
      (by rw [up2_o _ _ (by omega), up2_s]; exact g5)
      (fun j hj => by rw [up2_o _ _ (by omega), up2_o _ _ (by omega), up2_o _ _ (by omega)]; exact gj j hj)
    have ec : (S2 s 1).toNatClampNeg = c := by rw [g1, nI_clamp (by omega)]
    have e3 : S2 s 1 + 1 = nI (c + 1) := by rw [g1]; exact nI_1 c
    have xm : ixB (S2 s 1) 10 = true := by rw [g1]; exact ixB_nI hc10 (by decide)
    rw [← e3, ← ec] at hQ
    have hs' := hs
    rcases hs' with rfl | rfl | rfl | rfl | rfl | rfl <;> (
    refine go [] 60 _ _ _ _ _ _ _ _ _ ?_
    refine ite_t xm ?_
    refine ite_t xm ?_
    exact hQ)
  have a36 : ∀ S2 w v q q2, wdP t sz p = (some w, q) → w < 3 → num t sz q = some (v, q2) → p ≤ q2 → q2 ≤ sz → FrAt s S S2 → S2 s 9 = nI q2 → At 36 [.ref s, .int (wdI (some w)), .int (nI v)] [] n K S2 G P 0 := by
    intro S2 w v q q2 hw w3 hn hp2 hq2 f g9
    have hS2 := TxC_fr (FrS_at (m := m) f) hS
    have g5 : S2 s 5 = nI m := (f _ _ (by omega)).trans hm
    refine go [65, 67] 60 _ _ _ _ _ _ _ _ _ ?_
    refine ite_i (fun z => ?_) (fun z => ?_)
    · have w2 := (wdI_2 w3).2.mp z
      subst w2
      have F := fin (up2 S2 s 0 (nI v)) (wdI (some 2)) 2 v [] [] q2 (clP_b hw hn) (woC_i (by decide)) (fun b j k1 k2 => by rw [up2_o _ _ (by omega)]; exact f b j (by omega)) (by rw [up2_o _ _ (by omega)]; exact g9) (by rw [up2_o _ _ (by omega)]; exact g5) (by rw [up2_s]; rfl) (fun j hj => absurd hj (Nat.not_lt_zero _))
      have hs' := hs
      rcases hs' with rfl | rfl | rfl | rfl | rfl | rfl <;> exact F
    · have w2 : w ≠ 2 := fun k => z ((wdI_2 w3).2.mpr k)
      refine sv_go hs ?_
      refine m_takes (c := 32) rfl hs hS2 g9 hq2 (by decide) (fun z1 z2 => ?_) (fun z3 => ?_)
      · have ic : isC t sz 32 q2 = true := isC_i.mpr ⟨z1, z2⟩
        have r0 := pE_ok (d := 0) (fun m d p hp => psr_ok (t := t) (sz := sz) 101 m d p hp) (show q2 + 1 ≤ sz from z1)
        refine sv_go hs ?_
        refine m_eithers0 (p := q2 + 1) (m := m) rfl hs (TxC_fr (m := m) (FrS_at (fun b j hb => up2_o _ _ (by omega))) hS2) (up2_s _ _ _ _) z1 ((up2_o _ _ (.inr (by decide))).trans g5) (by omega) (fun S3 hC => ?_)
        have hC' := CR_at hC
        have fr : FrL s m S S3 := fun b j k1 k2 => (hC'.1 b j (by omega) k2).trans (f b j (by omega))
        cases hb : (pE (psr t sz 101) 0 (q2 + 1)).1 with
        | false => exact a65 S3 _ _ (h0 _ (clP_e hw hn w2 ic hb) S3 fr hC.2.1)
        | true => exact fin S3 _ w v _ _ _ (clP_t hw hn w2 ic hb) (woC_i w3) fr hC.2.1 hC.2.2.1 (by rw [if_neg w2]; exact (hC'.1 _ _ (by omega) (by omega)).trans (f _ _ (by omega))) hC.2.2.2
      · exact a65 S2 _ _ (h0 _ (clP_s hw hn w2 (fun k => z3 (isC_i.mp k))) S2 (fun b j k1 _ => f b j (by omega)) g9)
  have a5 : ∀ S1 o q, wdP t sz p = (o, q) → FrAt s S S1 → S1 s 9 = nI q → At 5 [.ref s, .int (wdI o), .retAddr 0] [] n K S1 G P 0 := by
    intro S1 o q hw f g9
    cases o with
    | none =>
      refine go [34, 36] 60 _ _ _ _ _ _ _ _ _ ?_
      exact a34 S1 _ _ (h0 q (clP_w hw) S1 (fun b j k1 _ => f b j (by omega)) g9)
    | some w =>
      obtain ⟨w3, wl, wq⟩ := wdP_lt hle hw
      have hS1 := TxC_fr (FrS_at (m := m) f) hS
      refine go [34, 36] 60 _ _ _ _ _ _ _ _ _ ?_
      refine ite_f (wdI_2 w3).1 ?_
      refine sv_go hs ?_
      refine m_readNumber hs hS1 g9 wq (fun v q2 hn S2 f2 g2 => ?_) (fun hn => ?_)
      · have nl := num_lt hn
        have f' : FrAt s S S2 := fun b j hb => (f2 b j hb).trans (f b j hb)
        have g1 : S2 s 1 = nI c := (f' _ _ (by omega)).trans hc
        have F := a36 S2 w v q q2 hw w3 hn (by omega) nl.2.2.1 f' g2
        refine ite_f (by rw [eq_i, nI_toInt (by omega), t_m1]; omega) ?_
        have hs' := hs
        rcases hs' with rfl | rfl | rfl | rfl | rfl | rfl <;> (
        refine ite_t (by rw [g1, lt_i, nI_toInt (by omega), t_10]; omega) ?_
        exact F)
      · exact a34 S1 _ _ (h0 q (clP_n hw hn) S1 (fun b j k1 _ => f b j (by omega)) g9)
  refine go [5] 60 _ _ _ _ _ _ _ _ _ ?_
  refine sv_go hs ?_
  refine m_readWord hs hS hp hle (fun S1 f1 g1 => ?_)
  exact a5 S1 _ _ rfl f1 g1
end B
end

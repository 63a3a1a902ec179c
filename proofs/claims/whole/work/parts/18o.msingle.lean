noncomputable section
/-! IS F of the model. -/
theorem MR_op {m d : Nat} {S S' : Mi} {v w : Int32} {r : PRs} (ho : S 120 14 = nI d) (h : MR m (up2 (up2 S 120 11 v) 120 14 w) r S') : MR m S r (up2 S' 120 14 (nI d)) := by
  obtain ⟨a1, a2, a0, a3, a4⟩ := h
  refine ⟨fun b j h1 h2 => ?_, (up2_o _ _ (.inr (by decide))).trans a2, (up2_s _ _ _ _).trans ho.symm, (up2_o _ _ (.inr (by decide))).trans a3, fun j hj => (up2_o _ _ (.inl (by decide))).trans (a4 j hj)⟩
  rw [up2_o _ _ (by omega), a1 b j h1 h2, up2_o _ _ (by omega), up2_o _ _ (by omega)]
section B
variable {l : Launch} {L : Nat} {xs : Nat → Int32} {D : Nat} {n : Nat} {K : Mk} {S : Mi} {G : Ml} {P : Mr} {Q : QT} {p sz m d f : Nat} {t : Nat → Nat}
set_option maxRecDepth 20000
theorem mm_open_d {d : Nat} {e c : Nat} {x : Int32} (ex : x = nI c) (hS : TxM S t sz) (hp : S 120 11 = nI p) (hle : p ≤ sz) (hc : c < 128) (ho : S 120 14 = nI d) (hd : d ≤ 4) (h1 : d < 4 ∧ isC t sz c p = true → Q (some (.int 1)) n K (up2 (up2 S 120 11 (nI (p + 1))) 120 14 (nI (d + 1))) G P) (h0 : ¬ (d < 4 ∧ isC t sz c p = true) → Q (some (.int 0)) n K S G P) : Ok l L xs T1 (D + (10 + e)) jX12_isOpened 0 [.ref 120, .int x] n K S G P Q := by
  rw [show D + (10 + e) = (D + 8 + e) + 2 by omega]
  exact mm_isOpened ex hS hp hle hc ho hd h1 h0
theorem mm_is_g {d : Nat} {c : Nat} {x : Int32} (ex : x = nI c) (hS : TxM S t sz) (hp : S 120 11 = nI p) (hle : p ≤ sz) (hc : c < 128) (h1 : p < sz → t p = c → Q (some (.int 1)) n K (up2 S 120 11 (nI (p + 1))) G P) (h0 : ¬ (p < sz ∧ t p = c) → Q (some (.int 0)) n K S G P) : Ok l L xs T1 (D + (10 + d)) jX12_is 0 [.ref 120, .int x] n K S G P Q := by
  rw [show D + (10 + d) = (D + 9 + d) + 1 by omega]
  exact mm_is ex hS hp hle hc h1 h0
theorem mm_codes_g {d m c : Nat} {x : Int32} (ex : x = nI c) (hm : S 120 23 = nI m) (hm1 : m < 800) (h : Q (some (.int 1)) n K (up2 (up2 S 120 23 (nI (m + 1))) 134 m (nI c)) G P) : Ok l L xs T1 (D + (10 + d)) jX12_codes 0 [.ref 120, .int x] n K S G P Q := by
  rw [show D + (10 + d) = (D + 9 + d) + 1 by omega]
  exact mm_codes ex hm hm1 h
theorem mm_isF (hF : RM1 l L xs n K G P t sz f jX12_isF 8 (psr t sz f 0)) (hE : RM1 l L xs n K G P t sz f jX12_isE 10 (pE (psr t sz f))) : RM1 l L xs n K G P t sz (f + 1) jX12_isF 8 (psr t sz (f + 1) 0) := by
  intro D d p m S Q hd hS hp hle hm hm8 ho hf h
  have e : psr t sz (f + 1) 0 d p = pF t sz (psr t sz f) d p := rfl
  rw [e] at h
  have sz100 := hS.1
  have eD : D + (8 + 3 * (f + 1)) = (D + (10 + 3 * f)) + 1 := by omega
  rw [eD]
  refine I_X12_isF (by decide) (fun At go => ?_)
  have a72 : ∀ S' b, S' 120 14 = nI (d + 1) → Q (some (.int (b2i b))) n K (up2 S' 120 14 (nI d)) G P → At 72 [.ref 120, .int (b2i b)] [] n K S' G P 0 := by
    intro S' b e1 hQ
    have e2 : S' 120 14 - 1 = nI d := by
      rw [e1, eq_i, show (1 : Int32) = nI 1 from rfl, sub_n (by omega) (by decide), nI_toInt (by omega)]
      omega
    rw [← e2] at hQ
    refine go [] 60 _ _ _ _ _ _ _ _ _ ?_
    exact ite_t (b2i_or b) hQ
  have a67 : ¬ (d < 4 ∧ isC t sz 33 p = true) → ¬ (d < 4 ∧ isC t sz 40 p = true) → At 67 [.ref 120, .retAddr 0] [] n K S G P 0 := by
    intro c1 c2
    have eP : pF t sz (psr t sz f) d p = (match tst t sz p with
      | (some c, p') => (true, p', [c], [c])
      | (none, p') => (false, p', [], [])) := by
      unfold pF
      rw [if_neg c1, if_neg c2]
      generalize tst t sz p = z
      obtain ⟨o, p'⟩ := z
      cases o <;> rfl
    rw [eP] at h
    have e7 : D + (10 + 3 * f) = (D + 3 + 3 * f) + 7 := by omega
    refine go [] 60 _ _ _ _ _ _ _ _ _ ?_
    rw [e7]
    refine mm_isTest hS hp hle hm (by omega) (fun c p' et S' f1 f2 f3 f4 f5 => ?_) (fun p' et S' f1 f2 f3 f5 => ?_)
    · rw [et] at h
      exact h S' ⟨f1, f2, f5, f3, fun j hj => by
        have : j = 0 := by have h' : j < 1 := hj; omega
        subst this
        exact f4⟩
    · rw [et] at h
      exact h S' ⟨f1, f2, f5, f3, fun j hj => absurd hj (Nat.not_lt_zero _)⟩
  have tx : ∀ v w, TxM (up2 (up2 S 120 11 v) 120 14 w) t sz := fun v w => TxM_fr (m := 0) (fun b j q1 q2 => by rw [up2_o _ _ (by omega), up2_o _ _ (by omega)]) hS
  have a33 : ¬ (d < 4 ∧ isC t sz 33 p = true) → At 33 [.ref 120, .retAddr 0] [] n K S G P 0 := by
    intro c1
    refine go [62, 63, 67, 72] 60 _ _ _ _ _ _ _ _ _ ?_
    refine mm_open_d (c := 40) rfl hS hp hle (by decide) ho hd (fun c2 => ?_) (fun c2 => a67 c1 c2)
    have z1 := (isC_i.mp c2.2).1
    have eP : pF t sz (psr t sz f) d p = (if (pE (psr t sz f) (d + 1) (p + 1)).1 = true ∧ isC t sz 41 (pE (psr t sz f) (d + 1) (p + 1)).2.1 = true then (true, (pE (psr t sz f) (d + 1) (p + 1)).2.1 + 1, (pE (psr t sz f) (d + 1) (p + 1)).2.2) else (false, (pE (psr t sz f) (d + 1) (p + 1)).2)) := by
      unfold pF
      rw [if_neg c1, if_pos c2]
    rw [eP] at h
    obtain ⟨k1, k2, k3, k4⟩ := pE_ok (d := d + 1) (fun m d p hp => psr_ok (t := t) (sz := sz) f m d p hp) (show p + 1 ≤ sz from z1)
    refine hE D (d + 1) (p + 1) m _ _ (by omega) (tx _ _) (by rw [up2_o _ _ (.inr (by decide)), up2_s]) z1 (by rw [up2_o _ _ (.inr (by decide)), up2_o _ _ (.inr (by decide))]; exact hm) (by omega) (up2_s _ _ _ _) (by omega) (fun S1 hC => ?_)
    generalize pE (psr t sz f) (d + 1) (p + 1) = r at h hC k1 k2 k3 k4
    obtain ⟨b, q, lc, lm⟩ := r
    have o1 : S1 120 14 = nI (d + 1) := hC.2.2.1.trans (up2_s _ _ _ _)
    have a63 : ∀ S' b, S' 120 14 = nI (d + 1) → Q (some (.int (b2i b))) n K (up2 S' 120 14 (nI d)) G P → At 63 [.ref 120, .retAddr 0] [.int (b2i b)] n K S' G P 0 := by
      intro S' b e1 hQ
      refine go [72] 60 _ _ _ _ _ _ _ _ _ ?_
      exact a72 S' b e1 hQ
    have a62 : ∀ S', S' 120 14 = nI (d + 1) → Q (some (.int 0)) n K (up2 S' 120 14 (nI d)) G P → At 62 [.ref 120, .retAddr 0] [] n K S' G P 0 := by
      intro S' e1 hQ
      refine go [63] 60 _ _ _ _ _ _ _ _ _ ?_
      exact a63 S' false e1 hQ
    cases b with
    | false =>
      rw [if_neg (fun w => by cases w.1)] at h
      exact a62 S1 o1 (h _ (MR_op ho hC))
    | true =>
      refine mm_is_g (c := 41) rfl (TxM_mr hC (tx _ _)) hC.2.1 k2 (by decide) (fun y1 y2 => ?_) (fun y => ?_)
      · rw [if_pos ⟨rfl, isC_i.mpr ⟨y1, y2⟩⟩] at h
        refine a63 _ true ((up2_o _ _ (.inr (by decide))).trans o1) (h _ (MR_op ho ⟨fun b j q1 q2 => (up2_o _ _ (by omega)).trans (hC.1 b j q1 q2), up2_s _ _ _ _, (up2_o _ _ (.inr (by decide))).trans hC.2.2.1, (up2_o _ _ (.inr (by decide))).trans hC.2.2.2.1, fun j hj => (up2_o _ _ (.inl (by decide))).trans (hC.2.2.2.2 j hj)⟩))
      · rw [if_neg (fun w => y (isC_i.mp w.2))] at h
        exact a62 S1 o1 (h _ (MR_op ho hC))
  refine go [28, 29, 33] 60 _ _ _ _ _ _ _ _ _ ?_
  refine mm_open_d (c := 33) rfl hS hp hle (by decide) ho hd (fun c2 => ?_) (fun c2 => a33 c2)
  have z1 := (isC_i.mp c2.2).1
  have eP : pF t sz (psr t sz f) d p = ((psr t sz f 0 (d + 1) (p + 1)).1, (psr t sz f 0 (d + 1) (p + 1)).2.1, (psr t sz f 0 (d + 1) (p + 1)).2.2.1 ++ [0], (psr t sz f 0 (d + 1) (p + 1)).2.2.2 ++ (if (psr t sz f 0 (d + 1) (p + 1)).1 = true then [0] else [])) := by
    unfold pF
    rw [if_pos c2]
  rw [eP] at h
  obtain ⟨k1, k2, k3, k4⟩ := psr_ok (t := t) (sz := sz) f 0 (d + 1) (p + 1) z1
  have e2 : D + (10 + 3 * f) = (D + 2) + (8 + 3 * f) := by omega
  rw [e2]
  refine hF (D + 2) (d + 1) (p + 1) m _ _ (by omega) (tx _ _) (by rw [up2_o _ _ (.inr (by decide)), up2_s]) z1 (by rw [up2_o _ _ (.inr (by decide)), up2_o _ _ (.inr (by decide))]; exact hm) (by omega) (up2_s _ _ _ _) (by omega) (fun S1 hC => ?_)
  rw [← e2]
  have o1 : S1 120 14 = nI (d + 1) := hC.2.2.1.trans (up2_s _ _ _ _)
  have a29 : ∀ S' b, S' 120 14 = nI (d + 1) → Q (some (.int (b2i b))) n K (up2 S' 120 14 (nI d)) G P → At 29 [.ref 120, .retAddr 0] [.int (b2i b)] n K S' G P 0 := by
    intro S' b e1 hQ
    refine go [72] 60 _ _ _ _ _ _ _ _ _ ?_
    exact a72 S' b e1 hQ
  have a28 : ∀ S', S' 120 14 = nI (d + 1) → Q (some (.int 0)) n K (up2 S' 120 14 (nI d)) G P → At 28 [.ref 120, .retAddr 0] [] n K S' G P 0 := by
    intro S' e1 hQ
    refine go [29] 60 _ _ _ _ _ _ _ _ _ ?_
    exact a29 S' false e1 hQ
  cases hx : (psr t sz f 0 (d + 1) (p + 1)).1 with
  | false =>
    rw [hx, if_neg (by decide), List.append_nil] at h
    exact a28 S1 o1 (h _ (MR_x rfl rfl (MR_op ho hC)))
  | true =>
    rw [hx, if_pos rfl] at h
    refine mm_codes_g (c := 0) rfl hC.2.2.2.1 (by omega) ?_
    exact a29 _ true ((up2_o _ _ (.inl (by decide))).trans ((up2_o _ _ (.inr (by decide))).trans o1)) (h _ (MR_op ho (MR_st hC)))
end B
end

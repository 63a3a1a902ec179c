noncomputable section
/-! IS E of the model. -/
section B
variable {l : Launch} {L : Nat} {xs : Nat → Int32} {D : Nat} {n : Nat} {K : Mk} {S : Mi} {G : Ml} {P : Mr} {Q : QT} {p sz m d f : Nat} {t : Nat → Nat}
set_option maxRecDepth 20000
theorem mm_is_e {d : Nat} {c : Nat} {x : Int32} (ex : x = nI c) (hS : TxM S t sz) (hp : S 120 11 = nI p) (hle : p ≤ sz) (hc : c < 128) (h1 : p < sz → t p = c → Q (some (.int 1)) n K (up2 S 120 11 (nI (p + 1))) G P) (h0 : ¬ (p < sz ∧ t p = c) → Q (some (.int 0)) n K S G P) : Ok l L xs T1 ((D + 2) + (10 + d)) jX12_is 0 [.ref 120, .int x] n K S G P Q := by
  rw [show (D + 2) + (10 + d) = (D + 11 + d) + 1 by omega]
  exact mm_is ex hS hp hle hc h1 h0
theorem mm_codes_e {d m c : Nat} {x : Int32} (ex : x = nI c) (hm : S 120 23 = nI m) (hm1 : m < 800) (h : Q (some (.int 1)) n K (up2 (up2 S 120 23 (nI (m + 1))) 134 m (nI c)) G P) : Ok l L xs T1 ((D + 2) + (10 + d)) jX12_codes 0 [.ref 120, .int x] n K S G P Q := by
  rw [show (D + 2) + (10 + d) = (D + 11 + d) + 1 by omega]
  exact mm_codes ex hm hm1 h
theorem mm_isE (hF : RM1 l L xs n K G P t sz (f + 1) jX12_isT 9 (pT (psr t sz (f + 1)))) (hT : RM1 l L xs n K G P t sz f jX12_isE 10 (pE (psr t sz f))) : RM1 l L xs n K G P t sz (f + 1) jX12_isE 10 (pE (psr t sz (f + 1))) := by
  intro D d p m S Q hd hS hp hle hm hm8 ho hf h
  have sz100 := hS.1
  have eD : D + (10 + 3 * (f + 1)) = ((D + 2) + (10 + 3 * f)) + 1 := by omega
  rw [eD]
  refine I_X12_isE (by decide) (fun At go => ?_)
  obtain ⟨k1, k2, k3, k4⟩ := pT_ok (d := d) (fun m d p hp => psr_ok (t := t) (sz := sz) (f + 1) m d p hp) hle
  have a38 : ∀ S' b, Q (some (.int (b2i b))) n K S' G P → At 38 [.ref 120] [.int (b2i b)] n K S' G P 0 := by
    intro S' b hQ
    refine go [] 60 _ _ _ _ _ _ _ _ _ ?_
    exact ite_t (b2i_or b) hQ
  have a33 : ∀ S', Q (some (.int 1)) n K S' G P → At 33 [.ref 120] [] n K S' G P 0 := by
    intro S' hQ
    refine go [38] 60 _ _ _ _ _ _ _ _ _ ?_
    exact a38 S' true hQ
  have a37 : ∀ S', Q (some (.int 0)) n K S' G P → At 37 [.ref 120] [] n K S' G P 0 := by
    intro S' hQ
    refine go [38] 60 _ _ _ _ _ _ _ _ _ ?_
    exact a38 S' false hQ
  have eF : (D + 2) + (10 + 3 * f) = D + (9 + 3 * (f + 1)) := by omega
  refine go [9] 60 _ _ _ _ _ _ _ _ _ ?_
  rw [eF]
  refine hF D d p m S _ hd hS hp hle hm hm8 ho hf (fun S1 hC => ?_)
  rw [← eF]
  cases hr : (pT (psr t sz (f + 1)) d p).1 with
  | false =>
    have e : pE (psr t sz (f + 1)) d p = pT (psr t sz (f + 1)) d p := if_neg (by rw [hr]; decide)
    rw [e, hr] at h
    exact h S1 hC
  | true =>
    have e : pE (psr t sz (f + 1)) d p = ((psr t sz (f + 1) 2 d (pT (psr t sz (f + 1)) d p).2.1).1, (psr t sz (f + 1) 2 d (pT (psr t sz (f + 1)) d p).2.1).2.1, (pT (psr t sz (f + 1)) d p).2.2.1 ++ (psr t sz (f + 1) 2 d (pT (psr t sz (f + 1)) d p).2.1).2.2.1, (pT (psr t sz (f + 1)) d p).2.2.2 ++ (psr t sz (f + 1) 2 d (pT (psr t sz (f + 1)) d p).2.1).2.2.2) := if_pos hr
    rw [e] at h
    generalize pT (psr t sz (f + 1)) d p = r at h hC k1 k2 k3 k4
    have eq : psr t sz (f + 1) 2 d r.2.1 = pTT t sz 124 2 (pT (psr t sz f) d) (psr t sz f 2 d) r.2.1 := rfl
    rw [eq] at h
    have a9 : At 9 [.ref 120] [] n K S1 G P 0 := by
      refine go [33, 37, 38] 60 _ _ _ _ _ _ _ _ _ ?_
      refine mm_is_e (c := 124) rfl (TxM_mr hC hS) hC.2.1 k2 (by decide) (fun z1 z2 => ?_) (fun z => ?_)
      · have hc : isC t sz 124 r.2.1 = true := isC_i.mpr ⟨z1, z2⟩
        obtain ⟨x1, x2, x3⟩ := pEE_m (k := 2) (d := d) (ps := psr t sz f) hc
        obtain ⟨y1, y2, y3, y4⟩ := pE_ok (d := d) (fun m d p hp => psr_ok (t := t) (sz := sz) f m d p hp) (show r.2.1 + 1 ≤ sz from z1)
        refine hT (D + 2) d (r.2.1 + 1) (m + r.2.2.2.length) _ _ hd (TxM_fr (m := 0) (fun b j q1 q2 => up2_o _ _ (by omega)) (TxM_mr hC hS)) (up2_s _ _ _ _) z1 ((up2_o _ _ (.inr (by decide))).trans hC.2.2.2.1) (by omega) ((up2_o _ _ (.inr (by decide))).trans (hC.2.2.1.trans ho)) (by omega) (fun S2 hC2 => ?_)
        have hC2' := MR_at hC2
        cases hx : (pE (psr t sz f) d (r.2.1 + 1)).1 with
        | false =>
          rw [x1, hx] at h
          rw [hx, if_neg (by decide), List.append_nil] at x3
          exact a37 S2 (h S2 (MR_ap hC (MR_x x2.symm x3.symm hC2')))
        | true =>
          rw [x1, hx] at h
          rw [hx, if_pos rfl] at x3
          refine mm_codes_e (c := 2) rfl hC2.2.2.2.1 (by omega) ?_
          exact a33 _ (h _ (MR_ap hC (MR_x (r := (true, (pE (psr t sz f) d (r.2.1 + 1)).2.1, [], (pE (psr t sz f) d (r.2.1 + 1)).2.2.2 ++ [2])) x2.symm x3.symm (MR_st hC2'))))
      · rw [pTT_f (fun w => z (isC_i.mp w))] at h
        exact a33 S1 (h S1 (MR_ap hC (MR_0 hC.2.1 hC.2.2.2.1)))
    exact a9
end B
end

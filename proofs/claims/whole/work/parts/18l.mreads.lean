noncomputable section
/-! IS F, IS T, IS E of the model. -/
def MR (m : Nat) (S : Mi) (r : PRs) (S' : Mi) : Prop := FrT m S S' ∧ S' 120 11 = nI r.2.1 ∧ S' 120 14 = S 120 14 ∧ S' 120 23 = nI (m + r.2.2.2.length) ∧ ∀ j, j < r.2.2.2.length → S' 134 (m + j) = nI (r.2.2.2.getD j 0)
theorem MR_ap {m : Nat} {S S1 S2 : Mi} {r q : PRs} {b : Bool} {x : List Nat} (h1 : MR m S r S1) (h2 : MR (m + r.2.2.2.length) S1 q S2) : MR m S (b, q.2.1, x, r.2.2.2 ++ q.2.2.2) S2 := by
  obtain ⟨a1, a2, a0, a3, a4⟩ := h1
  obtain ⟨b1, b2, b0, b3, b4⟩ := h2
  refine ⟨a1.tr (by omega) b1, b2, b0.trans a0, ?_, fun j hj => ?_⟩
  · rw [b3]
    show nI _ = nI (m + (r.2.2.2 ++ q.2.2.2).length)
    rw [List.length_append, Nat.add_assoc]
  · show S2 134 (m + j) = nI ((r.2.2.2 ++ q.2.2.2).getD j 0)
    have hj' : j < (r.2.2.2 ++ q.2.2.2).length := hj
    rw [List.length_append] at hj'
    by_cases e : j < r.2.2.2.length
    · rw [getD_l e, b1 _ _ (by omega) (by omega)]
      exact a4 j e
    · rw [getD_r (by omega)]
      have := b4 (j - r.2.2.2.length) (by omega)
      rw [show m + r.2.2.2.length + (j - r.2.2.2.length) = m + j by omega] at this
      exact this
theorem MR_st {m c : Nat} {S S1 : Mi} {r : PRs} {b : Bool} {x : List Nat} (h : MR m S r S1) : MR m S (b, r.2.1, x, r.2.2.2 ++ [c]) (up2 (up2 S1 120 23 (nI (m + r.2.2.2.length + 1))) 134 (m + r.2.2.2.length) (nI c)) := by
  refine MR_ap (q := (b, r.2.1, [], [c])) h ⟨fun b j h1 h2 => ?_, ?_, ?_, ?_, fun j hj => ?_⟩
  · rw [up2_o _ _ (by omega), up2_o _ _ (by omega)]
  · rw [up2_o _ _ (.inl (by decide)), up2_o _ _ (.inr (by decide))]
    exact h.2.1
  · rw [up2_o _ _ (.inl (by decide)), up2_o _ _ (.inr (by decide))]
  · rw [up2_o _ _ (.inl (by decide)), up2_s]
    rfl
  · have : j = 0 := by have h' : j < 1 := hj; omega
    subst this
    show up2 (up2 S1 120 23 (nI (m + r.2.2.2.length + 1))) 134 (m + r.2.2.2.length) (nI c) 134 (m + r.2.2.2.length) = nI c
    rw [up2_s]
theorem MR_0 {m p : Nat} {S : Mi} {b : Bool} {x : List Nat} (h1 : S 120 11 = nI p) (h2 : S 120 23 = nI m) : MR m S (b, p, x, []) S := ⟨FrT.rf _ _, h1, rfl, h2, fun j hj => absurd hj (Nat.not_lt_zero _)⟩
/-- what differs is only what the component writes down -/
theorem MR_x {m : Nat} {S S' : Mi} {r q : PRs} (e1 : r.2.1 = q.2.1) (e2 : r.2.2.2 = q.2.2.2) (h : MR m S r S') : MR m S q S' := by
  obtain ⟨a1, a2, a0, a3, a4⟩ := h
  rw [e1] at a2
  rw [e2] at a3 a4
  exact ⟨a1, a2, a0, a3, a4⟩
/-- the rest behind a sign, as the model reads it -/
theorem pTT_m {t : Nat → Nat} {sz c k d q : Nat} {ps : Nat → Nat → Nat → PRs} (h : isC t sz c q = true) : (pTT t sz c k (ps 0 d) (ps 1 d) q).1 = (pT ps d (q + 1)).1 ∧ (pTT t sz c k (ps 0 d) (ps 1 d) q).2.1 = (pT ps d (q + 1)).2.1 ∧ (pTT t sz c k (ps 0 d) (ps 1 d) q).2.2.2 = (pT ps d (q + 1)).2.2.2 ++ (if (pT ps d (q + 1)).1 = true then [k] else []) := by
  by_cases h2 : (ps 0 d (q + 1)).1 = true
  · rw [pTT_t1 h h2]
    have e : pT ps d (q + 1) = ((ps 1 d (ps 0 d (q + 1)).2.1).1, (ps 1 d (ps 0 d (q + 1)).2.1).2.1, (ps 0 d (q + 1)).2.2.1 ++ (ps 1 d (ps 0 d (q + 1)).2.1).2.2.1, (ps 0 d (q + 1)).2.2.2 ++ (ps 1 d (ps 0 d (q + 1)).2.1).2.2.2) := if_pos h2
    rw [e]
    exact ⟨rfl, rfl, rfl⟩
  · rw [pTT_t0 h h2]
    have e : pT ps d (q + 1) = ps 0 d (q + 1) := if_neg h2
    rw [e, if_neg h2, List.append_nil]
    have hf : (ps 0 d (q + 1)).1 = false := by simpa using h2
    exact ⟨hf.symm, rfl, rfl⟩
theorem pEE_m {t : Nat → Nat} {sz c k d q : Nat} {ps : Nat → Nat → Nat → PRs} (h : isC t sz c q = true) : (pTT t sz c k (pT ps d) (ps 2 d) q).1 = (pE ps d (q + 1)).1 ∧ (pTT t sz c k (pT ps d) (ps 2 d) q).2.1 = (pE ps d (q + 1)).2.1 ∧ (pTT t sz c k (pT ps d) (ps 2 d) q).2.2.2 = (pE ps d (q + 1)).2.2.2 ++ (if (pE ps d (q + 1)).1 = true then [k] else []) := by
  by_cases h2 : (pT ps d (q + 1)).1 = true
  · rw [pTT_t1 h h2]
    have e : pE ps d (q + 1) = ((ps 2 d (pT ps d (q + 1)).2.1).1, (ps 2 d (pT ps d (q + 1)).2.1).2.1, (pT ps d (q + 1)).2.2.1 ++ (ps 2 d (pT ps d (q + 1)).2.1).2.2.1, (pT ps d (q + 1)).2.2.2 ++ (ps 2 d (pT ps d (q + 1)).2.1).2.2.2) := if_pos h2
    rw [e]
    exact ⟨rfl, rfl, rfl⟩
  · rw [pTT_t0 h h2]
    have e : pE ps d (q + 1) = pT ps d (q + 1) := if_neg h2
    rw [e, if_neg h2, List.append_nil]
    have hf : (pT ps d (q + 1)).1 = false := by simpa using h2
    exact ⟨hf.symm, rfl, rfl⟩
section B
variable {l : Launch} {L : Nat} {xs : Nat → Int32} {D : Nat} {n : Nat} {K : Mk} {S : Mi} {G : Ml} {P : Mr} {Q : QT} {p sz m d : Nat} {t : Nat → Nat}
set_option maxRecDepth 20000
theorem mm_isOpened {c : Nat} {x : Int32} (ex : x = nI c) (hS : TxM S t sz) (hp : S 120 11 = nI p) (hle : p ≤ sz) (hc : c < 128) (ho : S 120 14 = nI d) (hd : d ≤ 4) (h1 : d < 4 ∧ isC t sz c p = true → Q (some (.int 1)) n K (up2 (up2 S 120 11 (nI (p + 1))) 120 14 (nI (d + 1))) G P) (h0 : ¬ (d < 4 ∧ isC t sz c p = true) → Q (some (.int 0)) n K S G P) : Ok l L xs T1 (D + 2) jX12_isOpened 0 [.ref 120, .int x] n K S G P Q := by
  refine I_X12_isOpened (by decide) (fun At go => ?_)
  have a16 : ¬ (d < 4 ∧ isC t sz c p = true) → At 16 [.ref 120, .int x] [] n K S G P 0 := by
    intro z
    have h0 := h0 z
    refine go [] 60 _ _ _ _ _ _ _ _ _ ?_
    exact h0
  have a18 : d < 4 → isC t sz c p = true → At 18 [.ref 120, .int x] [] n K (up2 S 120 11 (nI (p + 1))) G P 0 := by
    intro z1 z2
    have h1 := h1 ⟨z1, z2⟩
    have e : up2 S 120 11 (nI (p + 1)) 120 14 + 1 = nI (d + 1) := by rw [up2_o _ _ (.inr (by decide)), ho]; exact nI_1 d
    rw [← e] at h1
    refine go [] 60 _ _ _ _ _ _ _ _ _ ?_
    exact h1
  refine go [16, 18] 60 _ _ _ _ _ _ _ _ _ ?_
  refine ite_i (fun z => a16 (fun w => ?_)) (fun z => ?_)
  · rw [ho, eq_i, nI_toInt (by omega), t_4] at z
    omega
  rw [ho, eq_i, nI_toInt (by omega), t_4] at z
  refine mm_is ex hS hp hle hc (fun z1 z2 => a18 (by omega) (isC_i.mpr ⟨z1, z2⟩)) (fun w => a16 (fun y => w (isC_i.mp y.2)))
end B
end

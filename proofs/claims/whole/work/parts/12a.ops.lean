noncomputable section
/-! THE CALLS: of, between, counts, told. -/
def inR (np : Nat) (x : Int32) : Bool := decide (0 ≤ x.toInt) && decide (x.toInt < (np : Int))
theorem inR_nI {np p : Nat} (h : p < np) (h6 : np ≤ 100) : inR np (nI p) = true := by
  unfold inR
  rw [nI_toInt (by omega), decide_eq_true (by omega), decide_eq_true (by omega)]
  rfl
theorem inR_c (np : Nat) (x : Int32) : (∃ p, p < np ∧ x = nI p) ∨ inR np x = false := by
  by_cases h : 0 ≤ x.toInt ∧ x.toInt < (np : Int)
  · exact .inl ⟨x.toInt.toNat, by omega, nI_of' (by omega)⟩
  · refine .inr ?_
    unfold inR
    rw [Bool.and_eq_false_iff]
    by_cases h0 : 0 ≤ x.toInt
    · exact .inr (decide_eq_false (fun z => h ⟨h0, z⟩))
    · exact .inl (decide_eq_false h0)
theorem inR_no {np : Nat} {x : Int32} (h : inR np x = false) : ¬ (0 ≤ x.toInt ∧ x.toInt < (np : Int)) := by
  rintro ⟨h1, h2⟩
  unfold inR at h
  rw [decide_eq_true h1, decide_eq_true h2] at h
  cases h
theorem inR_n {np p : Nat} {x : Int32} (h : inR np x = false) (hp : p < np) (h6 : np ≤ 100) (e : x = nI p) : False := by
  rw [e, inR_nI hp h6] at h
  cases h
theorem FrC.rf (S : Mi) : FrC S S := fun _ _ _ _ => rfl
theorem FrM.rf (S : Mi) : FrM S S := fun _ _ _ => rfl
theorem FrC_fc {S S' : Mi} (h : Fc S S') : FrC S S' := fun b j h1 h2 => h b j (scr_big (by omega))
theorem FrM_fm {S S' : Mi} (h : Fm S S') : FrM S S' := fun b j hb => h b j (by omega)
theorem scr2_scr {b : Nat} (h : scr2 b = false) : scr b = false := by
  unfold scr2 at h
  simp only [Bool.or_eq_false_iff] at h
  exact h.1.1.1.1.1.1.1.1
theorem scm_135 {b j : Nat} (h : scm b j = false) : b ≠ 135 := by
  intro e
  subst e
  unfold scm at h
  simp at h
section I
variable {N : Nat → Nat} {d : Nat → Nat → Int32} {g : Nat → Int64} {sd : Nat → Int32 × ((Nat → Int32) → Bool)} {n : Nat} {K : Mk} {S S' : Mi} {G : Ml} {P : Mr}
theorem CT_of (hI : InvC N d g sd n K S G P) (hD : DOk N d) : CT1 33 n K S P sd (d 0) (N 0) (N 1) (N 2) := ⟨.inl rfl, hI.1.1, hI.2.1.1, hD.2.2.2.1, hD.1⟩
theorem MT_of (hI : InvM N d g sd S G) (hD : DOk N d) : MT1 S sd (d 0) (N 0) (N 1) (N 2) := ⟨hI.1.1, hI.2.1.2, hD.2.2.2.1, hD.1⟩
theorem IC_fc (hI : InvC N d g sd n K S G P) (hD : DOk N d) (h : Fc S S') : InvC N d g sd n K S' G P := InvC_fr hD.2.2.2.1 (fun b j hb => h b j (scr2_scr hb)) hI
theorem IM_fm (hI : InvM N d g sd S G) (h : Fm S S') : InvM N d g sd S' G := InvM_fr (fun b j hb => h b j (scm_135 hb)) hI
end I
def tlT (tw : Nat → Int32) : Nat → Int32 := fun i => tw (42 + i)
def wdT (tw : Nat → Int32) : Nat → Int32 := fun i => tw (12 + i)
def rOf (tw : Nat → Int32) (np : Nat) (x y : Int32) : Int32 := if inR np x = true then (if y = 0 then tw x.toNatClampNeg else if y = 1 then tw (6 + x.toNatClampNeg) else if y = 2 then tw (12 + x.toNatClampNeg) else if y = 3 then rowT (tlT tw) x.toNatClampNeg np 0 0 else if y = 4 then colT (tlT tw) x.toNatClampNeg np 0 0 else -1) else -1
def fwV (f : Nat → Bool) : Nat → Nat → Int32
  | 0, _ => -5
  | m + 1, j => if f j = true then nI j else fwV f m (j + 1)
def rBt (sd : Nat → Int32 × ((Nat → Int32) → Bool)) (tw : Nat → Int32) (np dy : Nat) (x y z : Int32) : Int32 := if inR np x = true ∧ inR np y = true ∧ inR 6 z = true then (if x = y then -2 else (if z = 0 then tw (42 + (6 * x.toNatClampNeg + y.toNatClampNeg)) else if z = 1 then tw (78 + (6 * x.toNatClampNeg + y.toNatClampNeg)) else if z = 2 then tw (114 + (6 * x.toNatClampNeg + y.toNatClampNeg)) else if z = 3 then fwV (fun w => cnW sd tw x.toNatClampNeg y.toNatClampNeg (tw (6 + x.toNatClampNeg)) dy w) 4 0 else if z = 4 then twT sd tw dy x.toNatClampNeg y.toNatClampNeg else awT sd tw dy x.toNatClampNeg y.toNatClampNeg)) else -1
section A
variable {l : Launch} {L : Nat} {xs : Nat → Int32} {D : Nat} {n : Nat} {K : Mk} {S : Mi} {G : Ml} {P : Mr} {Q : QT} {N : Nat → Nat} {d : Nat → Nat → Int32} {g : Nat → Int64} {sd : Nat → Int32 × ((Nat → Int32) → Bool)}
set_option maxRecDepth 20000
theorem c_of {x y : Int32} (hI : InvC N d g sd n K S G P) (hD : DOk N d) (h : ∀ S', FrC S S' → InvC N d g sd n K S' G P → Q (some (.int (rOf (d 0) (N 0) x y))) n K S' G P) : Ok l L xs T1 (D + 12) jX11_of 0 [.ref 32, .int x, .int y] n K S G P Q := by
  refine I_X11_of (by decide) (fun At go => ?_)
  have hQ := h S (FrC.rf S) hI
  have np6 := hD.1.1.2
  have hn : S 33 0 = nI (N 0) := (RC_np hI.1.1.1).trans hD.1.1.1
  have ta : TA 33 := .inl rfl
  rcases inR_c (N 0) x with ⟨p, hp, rfl⟩ | hx
  · unfold rOf at hQ
    rw [if_pos (inR_nI hp (by omega)), nI_clamp (by omega)] at hQ
    obtain ⟨w, k, g1, g2, g3, g4, g5, g6, g7, g8⟩ := hI.1.1.2.1 p hp
    have hpp : P (33 + 1) (nI p).toNatClampNeg = some w := by rw [nI_clamp (by omega)]; exact g1
    have a13 : At 13 [.ref 32, .int (nI p), .int y] [] n K S G P 0 := by
      refine go [13] 60 _ _ _ _ _ _ _ _ _ ?_
      refine ite_i (fun c => ?_) (fun c => ?_)
      · rw [if_pos c, g3, ← g5] at hQ
        refine ite_t (ixB_nI (by omega) (by decide)) ?_
        refine rf_v hpp ?_
        refine sh_p g4 ?_
        refine kg g2 (by decide) ?_
        exact hQ
      rw [if_neg c] at hQ
      refine ite_i (fun c => ?_) (fun c => ?_)
      · rw [if_pos c, ← g7] at hQ
        refine ite_t (ixB_nI (by omega) (by decide)) ?_
        refine rf_v hpp ?_
        refine sh_p g4 ?_
        refine kg g2 (by decide) ?_
        exact hQ
      rw [if_neg c] at hQ
      refine ite_i (fun c => ?_) (fun c => ?_)
      · rw [if_pos c, ← RC_wed hI.1.1.1 p (by omega), ← nI_clamp (n := p) (by omega)] at hQ
        refine ite_t (ixB_nI (by omega) (by decide)) ?_
        rw [nI_clamp (n := p) (by omega)] at hQ
        have e : S 35 (nI p).toNatClampNeg = S 35 p := by rw [nI_clamp (by omega)]
        rw [show (33 : Nat) + 2 = 35 from rfl, ← e] at hQ
        exact hQ
      rw [if_neg c] at hQ
      refine ite_i (fun c => ?_) (fun c => ?_)
      · rw [if_pos c] at hQ
        refine m_talliesBy ta hn np6 (fun i hi => RC_ta hI.1.1.1 i hi) hp ?_
        exact hQ
      rw [if_neg c] at hQ
      refine ite_i (fun c => ?_) (fun c => ?_)
      · rw [if_pos c] at hQ
        refine m_talliesTo ta hn np6 (fun i hi => RC_ta hI.1.1.1 i hi) hp ?_
        exact hQ
      rw [if_neg c] at hQ
      exact hQ
    refine go [13] 60 _ _ _ _ _ _ _ _ _ ?_
    refine m_has ta hn np6 (fun p' _ _ => ?_) (fun c => absurd ⟨by rw [nI_toInt (by omega)]; omega, by rw [nI_toInt (by omega)]; omega⟩ c)
    exact a13
  · unfold rOf at hQ
    rw [hx, if_neg (by decide)] at hQ
    refine go [13] 60 _ _ _ _ _ _ _ _ _ ?_
    refine m_has ta hn np6 (fun p' hp' e => (inR_n hx hp' (by omega) e).elim) (fun _ => ?_)
    exact hQ
theorem q_of {x y : Int32} (hI : InvM N d g sd S G) (hD : DOk N d) (h : ∀ S', FrM S S' → InvM N d g sd S' G → Q (some (.int (rOf (d 0) (N 0) x y))) n K S' G P) : Ok l L xs T1 (D + 12) jX12_of 0 [.ref 120, .int x, .int y] n K S G P Q := by
  refine I_X12_of (by decide) (fun At go => ?_)
  have hQ := h S (FrM.rf S) hI
  have np6 := hD.1.1.2
  have hR := hI.1.1
  have hn : S 120 0 = nI (N 0) := (RM_np hR).trans hD.1.1.1
  rcases inR_c (N 0) x with ⟨p, hp, rfl⟩ | hx
  · unfold rOf at hQ
    rw [if_pos (inR_nI hp (by omega)), nI_clamp (by omega)] at hQ
    have e0 : S 121 (nI p).toNatClampNeg = d 0 p := by rw [nI_clamp (by omega)]; have := RM_kind hR p (by omega); rw [Nat.zero_add] at this; exact this
    have e1 : S 122 (nI p).toNatClampNeg = d 0 (6 + p) := by rw [nI_clamp (by omega)]; exact RM_v hR p (by omega)
    have e2 : S 123 (nI p).toNatClampNeg = d 0 (12 + p) := by rw [nI_clamp (by omega)]; exact RM_wed hR p (by omega)
    have a10 : At 10 [.ref 120, .int (nI p), .int y] [] n K S G P 0 := by
      refine go [10] 60 _ _ _ _ _ _ _ _ _ ?_
      refine ite_i (fun c => ?_) (fun c => ?_)
      · rw [if_pos c, ← e0] at hQ
        refine ite_t (ixB_nI (by omega) (by decide)) ?_
        exact hQ
      rw [if_neg c] at hQ
      refine ite_i (fun c => ?_) (fun c => ?_)
      · rw [if_pos c, ← e1] at hQ
        refine ite_t (ixB_nI (by omega) (by decide)) ?_
        exact hQ
      rw [if_neg c] at hQ
      refine ite_i (fun c => ?_) (fun c => ?_)
      · rw [if_pos c, ← e2] at hQ
        refine ite_t (ixB_nI (by omega) (by decide)) ?_
        exact hQ
      rw [if_neg c] at hQ
      refine ite_i (fun c => ?_) (fun c => ?_)
      · rw [if_pos c] at hQ
        refine mm_byOne hn np6 (fun i hi => RM_ta hR i hi) hp ?_
        exact hQ
      rw [if_neg c] at hQ
      refine ite_i (fun c => ?_) (fun c => ?_)
      · rw [if_pos c] at hQ
        refine mm_toOne hn np6 (fun i hi => RM_ta hR i hi) hp ?_
        exact hQ
      rw [if_neg c] at hQ
      exact hQ
    refine go [10] 60 _ _ _ _ _ _ _ _ _ ?_
    refine mm_isOne hn np6 (fun p' _ _ => ?_) (fun c => absurd ⟨by rw [nI_toInt (by omega)]; omega, by rw [nI_toInt (by omega)]; omega⟩ c)
    exact a10
  · unfold rOf at hQ
    rw [hx, if_neg (by decide)] at hQ
    refine go [10] 60 _ _ _ _ _ _ _ _ _ ?_
    refine mm_isOne hn np6 (fun p' hp' e => (inR_n hx hp' (by omega) e).elim) (fun _ => ?_)
    exact hQ
end A
end

noncomputable section
/-! A NEW ONE: what a town's numbers become; WELCOMES. -/
def clrB (b np i j : Nat) : Bool := decide ((b + 6 * np ≤ j ∧ j < b + 6 * np + i) ∨ (b + np ≤ j ∧ j < b + np + 6 * i ∧ (j - (b + np)) % 6 = 0))
def twRw (tw : Nat → Int32) (np i : Nat) : Nat → Int32 := fun j => if 18 + 4 * np ≤ j ∧ j < 18 + 4 * np + i then 0 else tw j
def twCl (tw : Nat → Int32) (np i : Nat) : Nat → Int32 := fun j => if clrB 42 np i j = true ∨ clrB 78 np i j = true then 0 else if clrB 114 np i j = true then -5 else tw j
def oneS (tw : Nat → Int32) (np : Nat) : Nat → Int32 := va_up (twCl (twRw (va_up tw (12 + np) (-5)) np 4) np 6) 219 (nI (np + 1))
def oneT (tw : Nat → Int32) (np k : Nat) (v : Int32) : Nat → Int32 := va_up (va_up (oneS tw np) np (nI k)) (6 + np) v
theorem clr_s {b np i j : Nat} (hn : np < 6) (hi : i < 6) : clrB b np (i + 1) j = true ↔ clrB b np i j = true ∨ j = b + (6 * np + i) ∨ j = b + (6 * i + np) := by
  unfold clrB
  rw [decide_eq_true_eq, decide_eq_true_eq]
  omega
theorem clr_r {b np i j : Nat} (hn : np < 6) (hi : i ≤ 6) (h : clrB b np i j = true) : b ≤ j ∧ j < b + 36 := by
  unfold clrB at h
  rw [decide_eq_true_eq] at h
  omega
theorem twRw_0 (tw : Nat → Int32) (np : Nat) : twRw tw np 0 = tw := by
  funext j
  unfold twRw
  exact if_neg (by omega)
theorem twRw_s (tw : Nat → Int32) (np i : Nat) : va_up (twRw tw np i) (18 + (4 * np + i)) 0 = twRw tw np (i + 1) := by
  funext j
  unfold va_up twRw
  repeat' split
  all_goals first | rfl | (exfalso; omega)
theorem twCl_0 (tw : Nat → Int32) (np : Nat) : twCl tw np 0 = tw := by
  funext j
  have e : ∀ b, clrB b np 0 j = false := fun b => by
    unfold clrB
    exact decide_eq_false (by omega)
  unfold twCl
  rw [e, e, e]
  rfl
theorem twCl_n {tw : Nat → Int32} {np i : Nat} (hn : np < 6) (hi : i < 6) (j : Nat) : twCl tw np (i + 1) j = if j = 42 + (6 * np + i) ∨ j = 42 + (6 * i + np) ∨ j = 78 + (6 * np + i) ∨ j = 78 + (6 * i + np) then 0 else if j = 114 + (6 * np + i) ∨ j = 114 + (6 * i + np) then -5 else twCl tw np i j := by
  unfold twCl
  have r1 := @clr_r 42 np i j hn (by omega)
  have r2 := @clr_r 78 np i j hn (by omega)
  have s1 := @clr_s 42 np i j hn hi
  have s2 := @clr_s 78 np i j hn hi
  have s3 := @clr_s 114 np i j hn hi
  by_cases a : j = 42 + (6 * np + i) ∨ j = 42 + (6 * i + np) ∨ j = 78 + (6 * np + i) ∨ j = 78 + (6 * i + np)
  · rw [if_pos a, if_pos]
    rcases a with a | a | a | a
    · exact .inl (s1.mpr (.inr (.inl a)))
    · exact .inl (s1.mpr (.inr (.inr a)))
    · exact .inr (s2.mpr (.inr (.inl a)))
    · exact .inr (s2.mpr (.inr (.inr a)))
  · rw [if_neg a]
    by_cases b : j = 114 + (6 * np + i) ∨ j = 114 + (6 * i + np)
    · rw [if_pos b, if_neg, if_pos (s3.mpr (.inr b))]
      rintro (c | c)
      · rcases s1.mp c with c | c | c
        · have := r1 c; omega
        · omega
        · omega
      · rcases s2.mp c with c | c | c
        · have := r2 c; omega
        · omega
        · omega
    · rw [if_neg b]
      have e1 : clrB 42 np (i + 1) j = clrB 42 np i j := by
        rw [Bool.eq_iff_iff, s1]
        exact ⟨fun h => h.resolve_right (fun w => by omega), .inl⟩
      have e2 : clrB 78 np (i + 1) j = clrB 78 np i j := by
        rw [Bool.eq_iff_iff, s2]
        exact ⟨fun h => h.resolve_right (fun w => by omega), .inl⟩
      have e3 : clrB 114 np (i + 1) j = clrB 114 np i j := by
        rw [Bool.eq_iff_iff, s3]
        exact ⟨fun h => h.resolve_right (fun w => by omega), .inl⟩
      rw [e1, e2, e3]
theorem twCl_c {tw : Nat → Int32} {np i : Nat} (hn : np < 6) (hi : i < 6) : va_up (va_up (va_up (va_up (va_up (va_up (twCl tw np i) (42 + (6 * np + i)) 0) (42 + (6 * i + np)) 0) (78 + (6 * np + i)) 0) (78 + (6 * i + np)) 0) (114 + (6 * np + i)) (-5)) (114 + (6 * i + np)) (-5) = twCl tw np (i + 1) := by
  funext j
  rw [twCl_n hn hi]
  generalize twCl tw np i = f
  unfold va_up
  repeat' split
  all_goals first | rfl | (exfalso; omega)
theorem twCl_m {tw : Nat → Int32} {np i : Nat} (hn : np < 6) (hi : i < 6) : va_up (va_up (va_up (va_up (va_up (va_up (twCl tw np i) (42 + (6 * np + i)) 0) (78 + (6 * np + i)) 0) (114 + (6 * np + i)) (-5)) (42 + (6 * i + np)) 0) (78 + (6 * i + np)) 0) (114 + (6 * i + np)) (-5) = twCl tw np (i + 1) := by
  funext j
  rw [twCl_n hn hi]
  generalize twCl tw np i = f
  unfold va_up
  repeat' split
  all_goals first | rfl | (exfalso; omega)
section A
variable {l : Launch} {L : Nat} {xs : Nat → Int32} {D : Nat} {n : Nat} {K : Mk} {S : Mi} {G : Ml} {P : Mr} {Q : QT} {tw : Nat → Int32} {np : Nat}
set_option maxRecDepth 20000
theorem mm_clears {m : Nat} (hm : m < 36) (h : Q none n K (up2 (up2 (up2 S 125 m 0) 126 m 0) 127 m (-5)) G P) : Ok l L xs T1 (D + 1) jX12_clears 0 [.ref 120, .int (nI m)] n K S G P Q := by
  refine I_X12_clears (by decide) (fun At go => ?_)
  have x : ixB (nI m) 36 = true := ixB_nI hm (by decide)
  have e : (nI m).toNatClampNeg = m := nI_clamp (by omega)
  rw [← e] at h
  refine go [] 60 _ _ _ _ _ _ _ _ _ ?_
  refine ite_t x ?_
  refine ite_t x ?_
  refine ite_t x ?_
  exact h
theorem m_forget2 {x y : Int32} {a p q : Nat} (ex : x = nI p) (ey : y = nI q) (ha : TA a) (hp : p < 6) (hq : q < 6) (h : Q none n K (up2 (up2 (up2 (up2 S (a + 4) (6 * p + q) 0) (a + 4) (6 * q + p) 0) (a + 5) (6 * p + q) 0) (a + 5) (6 * q + p) 0) G P) : Ok l L xs T1 (D + 2) jX9_forget 0 [.ref a, .int x, .int y] n K S G P Q := by
  subst ex
  subst ey
  exact m_forget ha hp hq h
theorem m_pair2 {T : Tb} {x y : Int32} {p q : Nat} (ex : x = nI p) (ey : y = nI q) (h : Q (some (.int (nI (6 * p + q)))) n K S G P) : Ok l L xs T (D + 1) jX9_pair 0 [.int x, .int y] n K S G P Q := by
  subst ex
  subst ey
  exact m_pairN h
theorem m_welcomes {w k : Nat} (hR : RC 33 tw S) (hn : tw 219 = nI np) (h6 : np < 6) (hk : k < 7) (hw : Per n K w (kcl k)) (h : ∀ S', (∀ b j, (b < 33 ∨ 43 < b) → S' b j = S b j) → RC 33 (oneS tw np) S' → Q (some (.int (nI np))) n K S' G (up2 P 34 np (some w))) : Ok l L xs T1 (D + 3) jX9_welcomes 0 [.ref 33, .ref w] n K S G P Q := by
  refine I_X9_welcomes (by decide) (fun At go => ?_)
  have hn0 : S 33 0 = nI np := (RC_np hR).trans hn
  have ta : TA 33 := by unfold TA; omega
  have a113 : ∀ S', (∀ b j, (b < 33 ∨ 43 < b) → S' b j = S b j) → S' 33 0 = nI np → RC 33 (twCl (twRw (va_up tw (12 + np) (-5)) np 4) np 6) S' → ∀ v2, At 113 [.ref 33, .ref w, v2] [] n K S' G (up2 P 34 np (some w)) 0 := by
    intro S' f1 f2 f3 v2
    have fin := h (up2 S' 33 0 (nI (np + 1))) (fun b j hb => (up2_o _ _ (by omega)).trans (f1 b j hb)) (RC_up (c := 0) _ ⟨by decide, by decide, by decide⟩ (by decide) (show cl 219 = (0, 0) from rfl) f3)
    have e1 : S' 33 0 + 1 = nI (np + 1) := by rw [f2]; exact nI_1 np
    rw [← e1] at fin
    have e2 : up2 S' 33 0 (S' 33 0 + 1) 33 0 - 1 = nI np := by
      rw [up2_s, e1, eq_i]
      have := sub_n (m := np + 1) (p := 1) (by omega) (by decide)
      rw [show (1 : Int32) = nI 1 from rfl, this, nI_toInt (by omega)]
      omega
    rw [← e2] at fin
    refine go [] 60 _ _ _ _ _ _ _ _ _ ?_
    exact fin
  have loop2 : ∀ m i vi S', i + m = 6 → vi = nI i → (∀ b j, (b < 33 ∨ 43 < b) → S' b j = S b j) → S' 33 0 = nI np → RC 33 (twCl (twRw (va_up tw (12 + np) (-5)) np 4) np i) S' → At 62 [.ref 33, .ref w, .int vi] [] n K S' G (up2 P 34 np (some w)) 0 := by
    intro m
    induction m with
    | zero =>
      intro i vi S' hi hv f1 f2 f3
      subst hv
      have ei : i = 6 := by omega
      subst ei
      refine go [62, 113] 60 _ _ _ _ _ _ _ _ _ ?_
      exact a113 S' f1 f2 f3 _
    | succ m ih =>
      intro i vi S' hi hv f1 f2 f3
      subst hv
      have hi6 : i < 6 := by omega
      have x1 : ixB (nI (6 * np + i)) 36 = true := ixB_nI (by omega) (by decide)
      have x2 : ixB (nI (6 * i + np)) 36 = true := ixB_nI (by omega) (by decide)
      have e1 : (nI (6 * np + i)).toNatClampNeg = 6 * np + i := nI_clamp (by omega)
      have e2 : (nI (6 * i + np)).toNatClampNeg = 6 * i + np := nI_clamp (by omega)
      have kT : ∀ q, q < 36 → kc (42 + q) ∧ kc (78 + q) ∧ kc (114 + q) := fun q hq => by unfold kc; omega
      have st := ih (i + 1) (nI i + 1) (up2 (up2 (up2 (up2 (up2 (up2 S' 37 (6 * np + i) 0) 37 (6 * i + np) 0) 38 (6 * np + i) 0) 38 (6 * i + np) 0) 39 (6 * np + i) (-5)) 39 (6 * i + np) (-5)) (by omega) (nI_1 i) (fun b j hb => by rw [up2_o _ _ (by omega), up2_o _ _ (by omega), up2_o _ _ (by omega), up2_o _ _ (by omega), up2_o _ _ (by omega), up2_o _ _ (by omega)]; exact f1 b j hb) (by rw [up2_o _ _ (by omega), up2_o _ _ (by omega), up2_o _ _ (by omega), up2_o _ _ (by omega), up2_o _ _ (by omega), up2_o _ _ (by omega)]; exact f2) (by
        rw [← twCl_c h6 hi6]
        refine RC_up (c := 6) _ (kT _ (by omega)).2.2 (by omega) (cl_la _ (by omega)) ?_
        refine RC_up (c := 6) _ (kT _ (by omega)).2.2 (by omega) (cl_la _ (by omega)) ?_
        refine RC_up (c := 5) _ (kT _ (by omega)).2.1 (by omega) (cl_us _ (by omega)) ?_
        refine RC_up (c := 5) _ (kT _ (by omega)).2.1 (by omega) (cl_us _ (by omega)) ?_
        refine RC_up (c := 4) _ (kT _ (by omega)).1 (by omega) (cl_ta _ (by omega)) ?_
        refine RC_up (c := 4) _ (kT _ (by omega)).1 (by omega) (cl_ta _ (by omega)) ?_
        exact f3)
      refine go [62, 113] 60 _ _ _ _ _ _ _ _ _ ?_
      refine ite_f (by rw [le_i, nI_toInt (by omega), t_6]; omega) ?_
      refine m_forget2 (p := np) (q := i) f2 rfl ta h6 hi6 ?_
      refine m_pair2 (p := np) (q := i) f2 rfl ?_
      refine ite_t x1 ?_
      refine m_pair2 (p := i) (q := np) rfl f2 ?_
      refine ite_t x2 ?_
      rw [e1, e2]
      exact st
  have a60 : ∀ S', (∀ b j, (b < 33 ∨ 43 < b) → S' b j = S b j) → S' 33 0 = nI np → RC 33 (twRw (va_up tw (12 + np) (-5)) np 4) S' → ∀ v2, At 60 [.ref 33, .ref w, v2] [] n K S' G (up2 P 34 np (some w)) 0 := by
    intro S' f1 f2 f3 v2
    rw [← twCl_0 (twRw (va_up tw (12 + np) (-5)) np 4) np] at f3
    refine go [62] 60 _ _ _ _ _ _ _ _ _ ?_
    exact loop2 6 0 _ S' rfl rfl f1 f2 f3
  have loop1 : ∀ m i vi S', i + m = 4 → vi = nI i → (∀ b j, (b < 33 ∨ 43 < b) → S' b j = S b j) → S' 33 0 = nI np → RC 33 (twRw (va_up tw (12 + np) (-5)) np i) S' → At 35 [.ref 33, .ref w, .int vi] [] n K S' G (up2 P 34 np (some w)) 0 := by
    intro m
    induction m with
    | zero =>
      intro i vi S' hi hv f1 f2 f3
      subst hv
      have ei : i = 4 := by omega
      subst ei
      refine go [35, 60] 60 _ _ _ _ _ _ _ _ _ ?_
      exact a60 S' f1 f2 f3 _
    | succ m ih =>
      intro i vi S' hi hv f1 f2 f3
      subst hv
      have xe : S' 33 0 * 4 + nI i = nI (4 * np + i) := by rw [f2, show (4 : Int32) = nI 4 from rfl, Int32.mul_comm, pk_mul, nI_add]
      have x1 : ixB (S' 33 0 * 4 + nI i) 24 = true := by rw [xe]; exact ixB_nI (by omega) (by decide)
      have e1 : (S' 33 0 * 4 + nI i).toNatClampNeg = 4 * np + i := by rw [xe, nI_clamp (by omega)]
      have st := ih (i + 1) (nI i + 1) (up2 S' 36 (4 * np + i) 0) (by omega) (nI_1 i) (fun b j hb => (up2_o _ _ (by omega)).trans (f1 b j hb)) ((up2_o _ _ (by omega)).trans f2) (by
        rw [← twRw_s]
        exact RC_up (c := 3) _ ⟨by omega, by omega, by omega⟩ (by omega) (cl_rows _ (by omega)) f3)
      rw [← e1] at st
      refine go [35, 60] 60 _ _ _ _ _ _ _ _ _ ?_
      refine ite_f (by rw [le_i, nI_toInt (by omega), t_4]; omega) ?_
      refine ite_t x1 ?_
      exact st
  have a12 : At 12 [.ref 33, .ref w, .retAddr 0] [] n K S G P 0 := by
    have hz : (S 33 0).toNatClampNeg = np := by rw [hn0, nI_clamp (by omega)]
    have x6 : ixB (S 33 0) 6 = true := by rw [hn0]; exact ixB_nI h6 (by decide)
    have st := loop1 4 0 0 (up2 S 35 np (-5)) rfl rfl (fun b j hb => up2_o _ _ (by omega)) ((up2_o _ _ (by omega)).trans hn0) (by
      rw [twRw_0]
      exact RC_up (c := 2) _ ⟨by omega, by omega, by omega⟩ (by omega) (cl_wed _ h6) hR)
    rw [← hz] at st
    refine go [35] 60 _ _ _ _ _ _ _ _ _ ?_
    refine as_p hw hk ?_
    refine ite_t x6 ?_
    refine ite_t x6 ?_
    exact st
  refine go [12] 60 _ _ _ _ _ _ _ _ _ ?_
  refine ite_t (by rw [hn0, lt_i, nI_toInt (by omega), t_6]; omega) ?_
  exact a12
end A
end

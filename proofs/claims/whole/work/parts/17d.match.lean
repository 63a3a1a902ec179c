noncomputable section
/-! MATCH of the component. -/
def frT (sd : Nat → Int32 × ((Nat → Int32) → Bool)) (tw : Nat → Int32) (dy : Nat) (y : Int32) (p q : Nat) : Bool := inR (y.toNatClampNeg + 1) (awT sd tw dy p q)
def rMa (sd : Nat → Int32 × ((Nat → Int32) → Bool)) (tw : Nat → Int32) (np dy : Nat) (y z : Int32) : Int32 := if z = 0 ∨ inR np (z - 10) = true then (if inR 31 y = true then (if z = 0 then nI (mxF (frT sd tw dy y) np 0 (fun j => (2 ^ np - 1).testBit j)) else mtF (frT sd tw dy y) (z - 10).toNatClampNeg np 0 (fun j => (2 ^ np - 1).testBit j)) else -2) else -1
theorem m10 (z : Int32) : (10 ≤ z.toInt → (z - 10).toInt = z.toInt - 10) := by
  intro h
  have := i_rng z
  rw [Int32.toInt_sub, t_10]
  exact Int.bmod_eq_of_le (by omega) (by omega)
theorem m10_lt {z : Int32} {np : Nat} (h6 : np ≤ 6) (h : z.toInt < 10) : inR np (z - 10) = false := by
  refine inR_f (fun c => ?_)
  have := i_rng z
  by_cases h2 : -2147483638 ≤ z.toInt
  · have e : (z - 10).toInt = z.toInt - 10 := by
      rw [Int32.toInt_sub, t_10]
      exact Int.bmod_eq_of_le (by omega) (by omega)
    omega
  · have e : (z - 10).toInt = z.toInt - 10 + 4294967296 := by
      rw [Int32.toInt_sub, t_10]
      have e2 : (z.toInt - 10).bmod (2 ^ 32) = (z.toInt - 10 + 4294967296).bmod (2 ^ 32) := by
        rw [show (4294967296 : Int) = ((2 ^ 32 : Nat) : Int) from rfl, Int.add_bmod_right]
      rw [e2]
      exact Int.bmod_eq_of_le (by omega) (by omega)
    omega
section A
variable {l : Launch} {L : Nat} {xs : Nat → Int32} {D : Nat} {n : Nat} {K : Mk} {S : Mi} {G : Ml} {P : Mr} {Q : QT} {N : Nat → Nat} {d : Nat → Nat → Int32} {g : Nat → Int64} {sd : Nat → Int32 × ((Nat → Int32) → Bool)}
set_option maxRecDepth 20000
theorem m_mateOf2 {f : Nat → Nat → Bool} {np x : Nat} {vx : Int32} (ex : vx = nI x) (h6 : np ≤ 6) (hx : x < np) (hn : S 33 0 = nI np) (hL : LfOk f np S) (hT : TbOk f np (2 ^ np) S) (h : Q (some (.int (mtF f x np 0 (fun j => (2 ^ np - 1).testBit j)))) n K S G P) : Ok l L xs T1 (D + 3) jX11_mateOf 0 [.ref 32, .int vx] n K S G P Q := by
  subst ex
  exact m_mateOf h6 hx hn hL hT h
theorem c_match {y z : Int32} (hI : InvC N d g sd n K S G P) (hD : DOk N d) (h : ∀ S', FrC S S' → InvC N d g sd n K S' G P → Q (some (.int (rMa sd (d 0) (N 0) (N 1) y z))) n K S' G P) : Ok l L xs T1 (D + 12) jX11_match 0 [.ref 32, .int y, .int z] n K S G P Q := by
  refine I_X11_match (by decide) (fun At go => ?_)
  have hQ := h S (FrC.rf S) hI
  have np6 := hD.1.1.2
  have ta : TA 33 := by unfold TA; omega
  have hn : S 33 0 = nI (N 0) := (RC_np hI.1.1.1).trans hD.1.1.1
  have hT := CT_of hI hD
  unfold rMa at hQ
  have a24 : ¬ (z = 0 ∨ inR (N 0) (z - 10) = true) → At 24 [.ref 32, .int y, .int z, .retAddr 0, .retAddr 0] [] n K S G P 0 := by
    intro c
    rw [if_neg c] at hQ
    refine go [] 60 _ _ _ _ _ _ _ _ _ ?_
    exact hQ
  have a38 : (z = 0 ∨ inR (N 0) (z - 10) = true) → inR 31 y = true → At 38 [.ref 32, .int y, .int z, .retAddr 0, .retAddr 0] [] n K S G P 0 := by
    intro hz hy
    obtain ⟨k, hk, rfl⟩ := inR_ex hy
    have ek : (nI k).toNatClampNeg = k := nI_clamp (by omega)
    rw [if_pos hz, if_pos hy] at hQ
    have h' : ∀ S', FrC S S' → (∀ b j, scr2 b = false → S' b j = S b j) → Q (some (.int (if z = 0 then nI (mxF (frT sd (d 0) (N 1) (nI k)) (N 0) 0 (fun j => (2 ^ N 0 - 1).testBit j)) else mtF (frT sd (d 0) (N 1) (nI k)) (z - 10).toNatClampNeg (N 0) 0 (fun j => (2 ^ N 0 - 1).testBit j)))) n K S' G P := fun S' f1 f2 => by
      have := h S' f1 (InvC_fr hD.2.2.2.1 f2 hI)
      unfold rMa at this
      rw [if_pos hz, if_pos hy] at this
      exact this
    have fdef : ∀ p q, frT sd (d 0) (N 1) (nI k) p q = inR (k + 1) (awT sd (d 0) (N 1) p q) := fun p q => by unfold frT; rw [ek]
    generalize hf : frT sd (d 0) (N 1) (nI k) = f at h' fdef
    have p64 := (ev_b (N 0) np6).1
    have pp : 0 < 2 ^ N 0 := Nat.two_pow_pos _
    have a121 : ∀ S' x3 x4, FrC S S' → (∀ b j, scr2 b = false → S' b j = S b j) → LfOk f (N 0) S' → At 121 [.ref 32, .int (nI k), .int z, x3, x4] [] n K S' G P 0 := by
      intro S' x3 x4 f1 f2 hL
      have hn' : S' 33 0 = nI (N 0) := (f2 _ _ rfl).trans hn
      have a149 : ∀ r S'', Q (some (.int r)) n K S'' G P → At 149 [.ref 32, .int (nI k), .int z, x3, x4] [.int r] n K S'' G P 0 := by
        intro r S'' hr
        refine go [] 60 _ _ _ _ _ _ _ _ _ ?_
        exact hr
      refine go [141, 149] 60 _ _ _ _ _ _ _ _ _ ?_
      refine m_fmp (f := f) np6 hn' hL (fun S'' g1 g2 => ?_)
      have hn2 : S'' 33 0 = nI (N 0) := (g1 _ _ (by decide)).trans hn'
      have fin := h' S'' (fun b j q1 q2 => (g1 b j (by omega)).trans (f1 b j q1 q2)) (fun b j hb => (g1 b j (fun e => by rw [e] at hb; cases hb)).trans (f2 b j hb))
      have hL2 : LfOk f (N 0) S'' := fun i hi => by
        obtain ⟨t, t1, t2, t3⟩ := hL i hi
        exact ⟨t, t1, (g1 _ _ (by decide)).trans t2, t3⟩
      refine ite_i (fun c => ?_) (fun c => ?_)
      · rw [if_pos c, ← g2 _ (by omega)] at fin
        refine m_everybody hn2 np6 ?_
        refine ite_t (ixB_nI (by omega) (by decide)) ?_
        refine a149 _ _ ?_
        rw [nI_clamp (by omega)]
        exact fin
      · rw [if_neg c] at fin
        have a141 : At 141 [.ref 32, .int (nI k), .int z, x3, x4] [] n K S'' G P 0 := by
          obtain ⟨p, hp, ep⟩ := inR_ex (hz.resolve_left c)
          rw [ep, nI_clamp (by omega)] at fin
          refine go [149] 60 _ _ _ _ _ _ _ _ _ ?_
          refine m_mateOf2 (f := f) (x := p) ep np6 hp hn2 hL2 g2 ?_
          exact a149 _ _ fin
        exact a141
    have outer : ∀ m i vi S' x4, i + m = N 0 → vi = nI i → FrC S S' → (∀ b j, scr2 b = false → S' b j = S b j) → (∀ i', i' < i → ∃ t, t < 64 ∧ S' 71 i' = nI t ∧ ∀ j, i' < j → j < N 0 → t.testBit j = f i' j) → At 40 [.ref 32, .int (nI k), .int z, .int vi, x4] [] n K S' G P 0 := by
      intro m
      induction m with
      | zero =>
        intro i vi S' x4 hi ev f1 f2 f3
        subst ev
        have ei : i = N 0 := by omega
        subst ei
        refine go [40, 121] 60 _ _ _ _ _ _ _ _ _ ?_
        refine ite_t (by rw [(f2 33 0 rfl).trans hn, le_i, nI_toInt (by omega)]; omega) ?_
        exact a121 S' _ _ f1 f2 f3
      | succ m ih =>
        intro i vi S' x4 hi ev f1 f2 f3
        subst ev
        have inner : ∀ m2 j vj S', j + m2 = N 0 → i < j → vj = nI j → FrC S S' → (∀ b j, scr2 b = false → S' b j = S b j) → (∀ i', i' < i → ∃ t, t < 64 ∧ S' 71 i' = nI t ∧ ∀ j, i' < j → j < N 0 → t.testBit j = f i' j) → (∃ t, t < 64 ∧ S' 71 i = nI t ∧ ∀ b, b < 6 → t.testBit b = (decide (i < b ∧ b < j) && f i b)) → At 63 [.ref 32, .int (nI k), .int z, .int (nI i), .int vj] [] n K S' G P 0 := by
          intro m2
          induction m2 with
          | zero =>
            intro j vj S' hj hij ev f1 f2 f3 f4
            subst ev
            have a115 : At 115 [.ref 32, .int (nI k), .int z, .int (nI i), .int (nI j)] [] n K S' G P 0 := by
              refine go [40] 60 _ _ _ _ _ _ _ _ _ ?_
              refine ih (i + 1) _ S' _ (by omega) (nI_1 i) f1 f2 (fun i' hi' => ?_)
              by_cases e : i' = i
              · subst e
                obtain ⟨t, t1, t2, t3⟩ := f4
                refine ⟨t, t1, t2, fun b h1 h2 => ?_⟩
                rw [t3 b (by omega), decide_eq_true (by omega)]
                rfl
              · exact f3 i' (by omega)
            refine go [63, 115] 60 _ _ _ _ _ _ _ _ _ ?_
            refine ite_t (by rw [(f2 33 0 rfl).trans hn, le_i, nI_toInt (by omega), nI_toInt (by omega)]; omega) ?_
            exact a115
          | succ m2 ih2 =>
            intro j vj S' hj hij ev f1 f2 f3 f4
            subst ev
            have x6 : ixB (nI i) 6 = true := ixB_nI (by omega) (by decide)
            have ei : (nI i).toNatClampNeg = i := nI_clamp (by omega)
            obtain ⟨t, t1, t2, t3⟩ := f4
            have e71 : S' 71 (nI i).toNatClampNeg = nI t := by rw [ei]; exact t2
            have a107 : ∀ S'' b u, Fc S' S'' → u < 64 → S' 71 (nI i).toNatClampNeg ||| b = nI u → (∀ b, b < 6 → u.testBit b = (decide (i < b ∧ b < j + 1) && f i b)) → At 107 [.ref 32, .int (nI k), .int z, .int (nI i), .int (nI j)] [.int b, .int (S' 71 (nI i).toNatClampNeg), .int (nI i), .ref 71] n K S'' G P 0 := by
              intro S'' b u g1 u1 u2 u3
              refine go [63] 60 _ _ _ _ _ _ _ _ _ ?_
              refine ite_t x6 ?_
              have st := ih2 (j + 1) (nI j + 1) (up2 S'' 71 (nI i).toNatClampNeg (S' 71 (nI i).toNatClampNeg ||| b)) (by omega) (by omega) (nI_1 j) (fun c j' q1 q2 => (up2_o _ _ (by omega)).trans ((g1 c j' (scr_big (by omega))).trans (f1 c j' q1 q2))) (fun c j' hc => (up2_o _ _ (.inl (fun e => by rw [e] at hc; cases hc))).trans ((g1 c j' (scr2_scr hc)).trans (f2 c j' hc))) (fun i' hi' => by
                obtain ⟨t, t1, t2, t3⟩ := f3 i' hi'
                refine ⟨t, t1, ?_, t3⟩
                rw [ei, up2_o _ _ (.inr (by omega))]
                exact (g1 _ _ rfl).trans t2) ⟨u, u1, by rw [ei, up2_s, ← ei]; exact u2, u3⟩
              exact st
            have hI' := InvC_fr hD.2.2.2.1 f2 hI
            refine go [63, 106, 107, 115] 60 _ _ _ _ _ _ _ _ _ ?_
            refine ite_f (by rw [(f2 33 0 rfl).trans hn, le_i, nI_toInt (by omega), nI_toInt (by omega)]; omega) ?_
            refine ite_t x6 ?_
            refine c_awaited (D := D + 5) (CT_of hI' hD) (by omega) (by omega) (fun S'' g1 => ?_)
            refine m_i0 (m := k) (by omega) (nI k) (nI_toInt (by omega)) (fun c => ?_) (fun c => ?_)
            · have fi : f i j = true := (fdef i j).trans c
              obtain ⟨o1, o2⟩ := or_i t t1 j (by omega)
              refine a107 S'' ((1 : Int32) <<< (nI j &&& 31)) (t ||| 2 ^ j) g1 o2 (by rw [e71]; exact o1) (fun b hb => ?_)
              rw [or_b t t1 j (by omega) b hb, t3 b hb]
              by_cases e : b = j
              · subst e
                rw [fi]
                simp
                omega
              · rw [decide_eq_false e, Bool.or_false]
                congr 1
                exact decide_eq_decide.mpr (by omega)
            · have fi : f i j = false := (fdef i j).trans c
              have a106 : At 106 [.ref 32, .int (nI k), .int z, .int (nI i), .int (nI j)] [.int (S' 71 (nI i).toNatClampNeg), .int (nI i), .ref 71] n K S'' G P 0 := by
                refine go [107] 60 _ _ _ _ _ _ _ _ _ ?_
                refine a107 S'' 0 t g1 t1 (by rw [e71, Int32.or_zero]) (fun b hb => ?_)
                rw [t3 b hb]
                by_cases e : b = j
                · subst e
                  rw [fi, Bool.and_false, Bool.and_false]
                · congr 1
                  exact decide_eq_decide.mpr (by omega)
              exact a106
        refine go [40, 63, 121] 60 _ _ _ _ _ _ _ _ _ ?_
        refine ite_f (by rw [(f2 33 0 rfl).trans hn, le_i, nI_toInt (by omega), nI_toInt (by omega)]; omega) ?_
        refine ite_t (ixB_nI (by omega) (by decide)) ?_
        have ei : (nI i).toNatClampNeg = i := nI_clamp (by omega)
        refine inner (N 0 - (i + 1)) (i + 1) _ _ (by omega) (by omega) (nI_1 i) (fun c j' q1 q2 => (up2_o _ _ (by omega)).trans (f1 c j' q1 q2)) (fun c j' hc => (up2_o _ _ (.inl (fun e => by rw [e] at hc; cases hc))).trans (f2 c j' hc)) (fun i' hi' => ?_) ⟨0, by decide, ?_, fun b hb => ?_⟩
        · obtain ⟨t, t1, t2, t3⟩ := f3 i' hi'
          refine ⟨t, t1, ?_, t3⟩
          rw [ei, up2_o _ _ (.inr (by omega))]
          exact t2
        · rw [ei, up2_s]; rfl
        · rw [Nat.zero_testBit, decide_eq_false (by omega)]; rfl
    refine go [40] 60 _ _ _ _ _ _ _ _ _ ?_
    exact outer (N 0) 0 _ S _ (by omega) rfl (FrC.rf S) (fun _ _ _ => rfl) (fun i' hi' => absurd hi' (by omega))
  have a26 : (z = 0 ∨ inR (N 0) (z - 10) = true) → At 26 [.ref 32, .int y, .int z, .retAddr 0, .retAddr 0] [] n K S G P 0 := by
    intro hz
    rw [if_pos hz] at hQ
    refine go [38] 60 _ _ _ _ _ _ _ _ _ ?_
    refine m_i0 (m := 30) (by decide) 30 rfl (fun hy => a38 hz hy) (fun c => ?_)
    rw [c] at hQ
    exact hQ
  refine go [24, 26] 60 _ _ _ _ _ _ _ _ _ ?_
  refine ite_i (fun c => a26 (.inl c)) (fun c => ?_)
  refine ite_i (fun c2 => ?_) (fun c2 => ?_)
  · rw [lt_i, t_10] at c2
    have := m10_lt np6 c2
    exact a24 (fun w => w.elim c (fun w => by rw [this] at w; cases w))
  · refine m_has ta hn np6 (fun p hp e => ?_) (fun c3 => ?_)
    · exact a26 (.inr (by
        have e' : z - 10 = nI p := e
        rw [e']; exact inR_nI hp (by omega)))
    · exact a24 (fun w => w.elim c (fun w => c3 (by
        obtain ⟨p, hp, e⟩ := inR_ex w
        show 0 ≤ (z - 10).toInt ∧ (z - 10).toInt < _
        rw [e, nI_toInt (by omega)]
        omega)))
end A
end

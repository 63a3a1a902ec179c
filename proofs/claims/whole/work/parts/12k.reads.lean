noncomputable section
theorem ki {k : Nat} {Y : Prop} (hk : k < 7) (h : Y) : cond (pers.contains (kcl k)) Y False := by
  have e : ∀ k, k < 7 → pers.contains (kcl k) = true := by decide
  rw [e k hk]
  exact h
theorem cb_i (b : Bool) : (cond b 1 0 : Int32) = b2i b := by cases b <;> rfl
theorem cb_or (b : Bool) : (cond b 1 0 : Int32) = 0 ∨ (cond b 1 0 : Int32) = 1 := by cases b <;> decide
section A
variable {l : Launch} {L : Nat} {xs : Nat → Int32} {D : Nat} {n : Nat} {K : Mk} {S : Mi} {G : Ml} {P : Mr} {Q : QT} {N : Nat → Nat} {d : Nat → Nat → Int32} {g : Nat → Int64} {sd : Nat → Int32 × ((Nat → Int32) → Bool)}
set_option maxRecDepth 20000
theorem m_isOfKind {w k j : Nat} (hk : k < 7) (hp : Per n K w (kcl k)) (hj : j < 7) (h : Q (some (.int (b2i (okK k j)))) n K S G P) : Ok l L xs T1 (D + 1) jX11_isOfKind 0 [.ref w, .int (nI j)] n K S G P Q := by
  refine I_X11_isOfKind (by decide) (fun At go => ?_)
  rw [okK_sub k hk j hj, ← cb_i] at h
  match j, hj, h with
  | 0, _, h =>
    have e : ∀ k, k < 7 → isSub (kcl k) (kcl 0) = true := by decide
    rw [e k hk] at h
    have a49 : At 49 [.ref w, .int (nI 0)] [.int 1] n K S G P 0 := by
      refine go [48] 60 _ _ _ _ _ _ _ _ _ ?_
      exact h
    refine go [48, 49] 60 _ _ _ _ _ _ _ _ _ ?_
    exact a49
  | 1, _, h =>
    refine go [48, 49] 60 _ _ _ _ _ _ _ _ _ ?_
    refine sh_p hp ?_
    refine ki hk ?_
    refine ite_t (cb_or _) ?_
    exact h
  | 2, _, h =>
    refine go [48, 49] 60 _ _ _ _ _ _ _ _ _ ?_
    refine sh_p hp ?_
    refine ki hk ?_
    refine ite_t (cb_or _) ?_
    exact h
  | 3, _, h =>
    refine go [48, 49] 60 _ _ _ _ _ _ _ _ _ ?_
    refine sh_p hp ?_
    refine ki hk ?_
    refine ite_t (cb_or _) ?_
    exact h
  | 4, _, h =>
    refine go [48, 49] 60 _ _ _ _ _ _ _ _ _ ?_
    refine sh_p hp ?_
    refine ki hk ?_
    refine ite_t (cb_or _) ?_
    exact h
  | 5, _, h =>
    refine go [48, 49] 60 _ _ _ _ _ _ _ _ _ ?_
    refine sh_p hp ?_
    refine ki hk ?_
    refine ite_t (cb_or _) ?_
    exact h
  | 6, _, h =>
    refine go [48, 49] 60 _ _ _ _ _ _ _ _ _ ?_
    refine sh_p hp ?_
    refine ki hk ?_
    refine ite_t (cb_or _) ?_
    exact h
theorem m_iokz {T : Tb} {y : Option Nat} {b : Nat} {x : Int32} (h1 : y = some b) (h : Ok l L xs T D jX11_isOfKind 0 [.ref b, .int x] n K S G P Q) : Ok l L xs T D jX11_isOfKind 0 [va_rf y, .int x] n K S G P Q := by
  subst h1
  exact h
theorem c_taken {x y : Int32} (hI : InvC N d g sd n K S G P) (hD : DOk N d) (h : ∀ S', FrC S S' → InvC N d g sd n K S' G P → Q (some (.int (rTk (d 0) (N 0) x y))) n K S' G P) : Ok l L xs T1 (D + 12) jX11_taken 0 [.ref 32, .int x, .int y] n K S G P Q := by
  refine I_X11_taken (by decide) (fun At go => ?_)
  have hQ := h S (FrC.rf S) hI
  have np6 := hD.1.1.2
  have hR := hI.1.1.1
  have hn : S 33 0 = nI (N 0) := (RC_np hR).trans hD.1.1.1
  have ta : TA 33 := .inl rfl
  unfold rTk at hQ
  have a12 : inR 7 y = true → At 12 [.ref 32, .int x, .int y] [] n K S G P 0 := by
    intro hy
    rw [if_pos hy] at hQ
    obtain ⟨j, hj, ej⟩ := inR_ex hy
    subst ej
    have a26 : ∀ p, p < N 0 → x = nI p → At 26 [.ref 32, .int x, .int (nI j)] [] n K S G P 0 := by
      intro p hp ep
      subst ep
      rw [if_pos (inR_nI hp (by omega)), nI_clamp (by omega), nI_clamp (by omega)] at hQ
      obtain ⟨w, k, g1, g2, g3, g4, g5, g6, g7, g8⟩ := hI.1.1.2.1 p hp
      have hpp : P (33 + 1) (nI p).toNatClampNeg = some w := by rw [nI_clamp (by omega)]; exact g1
      rw [g3, nI_clamp (by omega), ← g5] at hQ
      refine go [57, 59] 60 _ _ _ _ _ _ _ _ _ ?_
      refine ite_t (ixB_nI (by omega) (by decide)) ?_
      refine m_iokz hpp ?_
      refine m_isOfKind g2 g4 hj ?_
      refine ite_i (fun c => ?_) (fun c => ?_)
      · rw [if_neg (by rw [b2i_0 c]; decide)] at hQ
        have a57 : At 57 [.ref 32, .int (nI p), .int (nI j)] [] n K S G P 0 := by
          refine go [12] 60 _ _ _ _ _ _ _ _ _ ?_
          exact hQ
        exact a57
      · rw [if_pos (b2i_n c)] at hQ
        refine ite_t (ixB_nI (by omega) (by decide)) ?_
        refine rf_v hpp ?_
        refine sh_p g4 ?_
        refine kg g2 (by decide) ?_
        have a59 : ∀ r, Q (some (.int r)) n K S G P → At 59 [.ref 32, .int (nI p), .int (nI j)] [.int r] n K S G P 0 := by
          intro r hr
          refine go [12] 60 _ _ _ _ _ _ _ _ _ ?_
          exact hr
        exact a59 _ hQ
    refine go [26] 60 _ _ _ _ _ _ _ _ _ ?_
    refine m_has ta hn np6 (fun p hp ep => a26 p hp ep) (fun c => ?_)
    rw [inR_f c, if_neg (by decide)] at hQ
    exact hQ
  refine go [12] 60 _ _ _ _ _ _ _ _ _ ?_
  refine m_i0 (m := 6) (by decide) 6 rfl (fun c => a12 c) (fun c => ?_)
  rw [c, if_neg (by decide)] at hQ
  exact hQ
theorem q_taken {x y : Int32} (hI : InvM N d g sd S G) (hD : DOk N d) (h : ∀ S', FrM S S' → InvM N d g sd S' G → Q (some (.int (rTk (d 0) (N 0) x y))) n K S' G P) : Ok l L xs T1 (D + 12) jX12_taken 0 [.ref 120, .int x, .int y] n K S G P Q := by
  refine I_X12_taken (by decide) (fun At go => ?_)
  have hQ := h S (FrM.rf S) hI
  have np6 := hD.1.1.2
  have hR := hI.1.1
  have hn : S 120 0 = nI (N 0) := (RM_np hR).trans hD.1.1.1
  unfold rTk at hQ
  have a13 : inR 7 y = true → At 13 [.ref 120, .int x, .int y, .retAddr 0] [] n K S G P 0 := by
    intro hy
    rw [if_pos hy] at hQ
    obtain ⟨j, hj, ej⟩ := inR_ex hy
    subst ej
    have a24 : ∀ p, p < N 0 → x = nI p → At 24 [.ref 120, .int x, .int (nI j), .retAddr 0] [] n K S G P 0 := by
      intro p hp ep
      subst ep
      rw [if_pos (inR_nI hp (by omega)), nI_clamp (by omega), nI_clamp (by omega)] at hQ
      obtain ⟨k, hk, ek⟩ := (hD.1.2.2.2.1 p hp).1
      have e0 : S 121 (nI p).toNatClampNeg = d 0 p := by rw [nI_clamp (by omega)]; have := RM_kind hR p (by omega); rw [Nat.zero_add] at this; exact this
      have x6 : ixB (nI p) 6 = true := ixB_nI (by omega) (by decide)
      rw [ek, nI_clamp (n := k) (by omega)] at hQ
      have par7 : ∀ u, u < 7 → par u < 7 ∧ abv (nI u) = nI (par u) := by decide
      have a64 : ∀ x3 r, Q (some (.int r)) n K S G P → At 64 [.ref 120, .int (nI p), .int (nI j), x3] [.int r] n K S G P 0 := by
        intro x3 r hr
        refine go [13] 60 _ _ _ _ _ _ _ _ _ ?_
        exact hr
      have a48 : ∀ u, u < 7 → Nat.beq u j = okK k j → At 48 [.ref 120, .int (nI p), .int (nI j), .int (nI u)] [] n K S G P 0 := by
        intro u hu e
        rw [← e] at hQ
        refine go [62, 64] 60 _ _ _ _ _ _ _ _ _ ?_
        refine ite_i (fun c => ?_) (fun c => ?_)
        · rw [eq_i, nI_toInt (by omega), nI_toInt (by omega)] at c
          rw [if_pos (by rw [show u = j by omega]; exact Nat.beq_refl j), ← ek] at hQ
          refine ite_t x6 ?_
          refine a64 _ _ ?_
          rw [e0]
          exact hQ
        · rw [eq_i, nI_toInt (by omega), nI_toInt (by omega)] at c
          rw [if_neg (fun z => c (by have := Nat.eq_of_beq_eq_true z; omega))] at hQ
          have a62 : At 62 [.ref 120, .int (nI p), .int (nI j), .int (nI u)] [] n K S G P 0 := by
            refine go [64] 60 _ _ _ _ _ _ _ _ _ ?_
            exact a64 _ _ hQ
          exact a62
      have loop : ∀ m u vu, u < 7 → vu = nI u → (m = 0 → u = 0) → (m = 1 → par u = 0) → (∀ z, z < 7 → Nat.beq (chn m z j) j = Nat.beq (chn m z j) j) → Nat.beq (chn m u j) j = okK k j → (m = 0 ∨ m = 1 ∨ m = 2) → At 31 [.ref 120, .int (nI p), .int (nI j), .int vu] [] n K S G P 0 := by
        intro m
        induction m with
        | zero =>
          intro u vu hu hv h0 _ _ e _
          subst hv
          have := h0 rfl
          subst this
          refine go [31, 48, 62, 64] 60 _ _ _ _ _ _ _ _ _ ?_
          refine ite_i (fun c => a48 0 (by decide) e) (fun c => ?_)
          exact a48 0 (by decide) e
        | succ m ih =>
          intro u vu hu hv _ h1 _ e hm
          subst hv
          rw [chn] at e
          refine go [31, 48, 62, 64] 60 _ _ _ _ _ _ _ _ _ ?_
          refine ite_i (fun c => ?_) (fun c => ?_)
          · rw [eq_i, nI_toInt (by omega), nI_toInt (by omega)] at c
            rw [if_pos (.inl (by omega))] at e
            exact a48 u hu e
          · rw [eq_i, nI_toInt (by omega), nI_toInt (by omega)] at c
            refine ite_i (fun c2 => ?_) (fun c2 => ?_)
            · rw [le_i, nI_toInt (by omega), t_0] at c2
              rw [if_pos (.inr (by omega))] at e
              exact a48 u hu e
            · rw [le_i, nI_toInt (by omega), t_0] at c2
              rw [if_neg (by omega)] at e
              refine mm_above ?_
              refine ih (par u) _ (par7 u hu).1 (par7 u hu).2 (fun z => ?_) (fun z => ?_) (fun _ _ => rfl) e (by omega)
              · subst z
                exact h1 rfl
              · have pp : ∀ u, u < 7 → par (par u) = 0 := by decide
                exact pp u hu
      refine go [31] 60 _ _ _ _ _ _ _ _ _ ?_
      refine ite_t x6 ?_
      exact loop 2 k _ hk (e0.trans ek) (fun z => absurd z (by decide)) (fun z => absurd z (by decide)) (fun _ _ => rfl) rfl (.inr (.inr rfl))
    refine go [24] 60 _ _ _ _ _ _ _ _ _ ?_
    refine mm_isOne hn np6 (fun p hp ep => a24 p hp ep) (fun c => ?_)
    rw [inR_f c, if_neg (by decide)] at hQ
    exact hQ
  refine go [13] 60 _ _ _ _ _ _ _ _ _ ?_
  refine mm_w0 (m := 6) (by decide) 6 rfl (fun c => a13 c) (fun c => ?_)
  rw [c, if_neg (by decide)] at hQ
  exact hQ
theorem c_trace {x : Int32} (hI : InvC N d g sd n K S G P) (hD : DOk N d) (h : ∀ S', FrC S S' → InvC N d g sd n K S' G P → Q (some (.int (rTr d (N 6) x))) n K S' G P) : Ok l L xs T1 (D + 12) jX11_trace 0 [.ref 32, .int x] n K S G P Q := by
  refine I_X11_trace (by decide) (fun At go => ?_)
  have hQ := h S (FrC.rf S) hI
  unfold rTr at hQ
  have h100 := hD.2.2.2.2.2.2
  have er := hI.2.2.2.2.1
  have a21 : ¬ (inR 20 x = true ∧ inR (N 6) x = true) → At 21 [.ref 32, .int x] [] n K S G P 0 := by
    intro c
    rw [if_neg c] at hQ
    refine go [23] 60 _ _ _ _ _ _ _ _ _ ?_
    exact hQ
  refine go [21, 23] 60 _ _ _ _ _ _ _ _ _ ?_
  refine ite_i (fun c => a21 (fun w => ?_)) (fun c => ?_)
  · rw [lt_i, t_0] at c
    obtain ⟨j, hj, ej⟩ := inR_ex w.1
    rw [ej, nI_toInt (by omega)] at c
    omega
  rw [lt_i, t_0] at c
  refine ite_i (fun c2 => a21 (fun w => ?_)) (fun c2 => ?_)
  · rw [le_i, t_20] at c2
    obtain ⟨j, hj, ej⟩ := inR_ex w.1
    rw [ej, nI_toInt (by omega)] at c2
    omega
  rw [le_i, t_20] at c2
  refine ite_i (fun c3 => ?_) (fun c3 => a21 (fun w => ?_))
  · rw [er, lt_i, nI_toInt (by omega)] at c3
    obtain ⟨j, hj, ej⟩ := inR_ex (np := 20) (x := x) (inR_lt (by omega) (by omega))
    subst ej
    rw [nI_toInt (by omega)] at c3
    rw [if_pos ⟨inR_nI hj (by decide), inR_nI (by omega) (by omega)⟩, nI_clamp (by omega)] at hQ
    have e : S 74 (nI j).toNatClampNeg = d 6 j := by rw [nI_clamp (by omega)]; exact hI.2.2.2.2.2 j hj (by omega)
    rw [← e] at hQ
    have a23 : At 23 [.ref 32, .int (nI j)] [] n K S G P 0 := by
      refine go [] 60 _ _ _ _ _ _ _ _ _ ?_
      refine ite_t (ixB_nI hj (by decide)) ?_
      exact hQ
    exact a23
  · rw [er, lt_i, nI_toInt (by omega)] at c3
    obtain ⟨j, hj, ej⟩ := inR_ex w.2
    rw [ej, nI_toInt (by omega)] at c3
    omega
theorem q_trace {x : Int32} (hI : InvM N d g sd S G) (hD : DOk N d) (h : ∀ S', FrM S S' → InvM N d g sd S' G → Q (some (.int (rTr d (N 6) x))) n K S' G P) : Ok l L xs T1 (D + 12) jX12_trace 0 [.ref 120, .int x] n K S G P Q := by
  refine I_X12_trace (by decide) (fun At go => ?_)
  have hQ := h S (FrM.rf S) hI
  unfold rTr at hQ
  have h100 := hD.2.2.2.2.2.2
  have er := hI.2.2.2.2.1
  have em : (if S 120 38 < 20 then S 120 38 else (20 : Int32)) = nI (min 20 (N 6)) := by
    rw [er]
    by_cases c : N 6 < 20
    · rw [if_pos (by rw [lt_i, nI_toInt (by omega), t_20]; omega), Nat.min_eq_right (by omega)]
    · rw [if_neg (by rw [lt_i, nI_toInt (by omega), t_20]; omega), Nat.min_eq_left (by omega)]
      rfl
  refine go [28, 29] 60 _ _ _ _ _ _ _ _ _ ?_
  refine m_min ?_
  have e1 : ((if S 120 38 < 20 then S 120 38 else (20 : Int32)) - 1).toInt = ((min 20 (N 6) : Nat) : Int) - 1 := by
    rw [em]
    have hm : min 20 (N 6) ≤ 20 := Nat.min_le_left _ _
    rw [Int32.toInt_sub, nI_toInt (by omega), t_1]
    exact Int.bmod_eq_of_le (by omega) (by omega)
  have hm2 : ((min 20 (N 6) : Nat) : Int) ≤ 20 ∧ ((min 20 (N 6) : Nat) : Int) ≤ N 6 := ⟨by have := Nat.min_le_left 20 (N 6); omega, by have := Nat.min_le_right 20 (N 6); omega⟩
  have a29 : ∀ r, Q (some (.int r)) n K S G P → At 29 [.ref 120, .int x] [.int r] n K S G P 0 := by
    intro r hr
    refine go [28] 60 _ _ _ _ _ _ _ _ _ ?_
    exact hr
  refine m_within (fun c1 c2 => ?_) (fun c => ?_)
  · rw [t_0] at c1
    have c2' : x.toInt ≤ ((if S 120 38 < 20 then S 120 38 else (20 : Int32)) - 1).toInt := c2
    rw [e1] at c2'
    obtain ⟨j, hj, ej⟩ := inR_ex (np := 20) (x := x) (inR_lt (by omega) (by omega))
    subst ej
    rw [nI_toInt (by omega)] at c2'
    rw [if_pos ⟨inR_nI hj (by decide), inR_nI (by omega) (by omega)⟩, nI_clamp (by omega)] at hQ
    have e : S 146 (nI j).toNatClampNeg = d 6 j := by rw [nI_clamp (by omega)]; exact hI.2.2.2.2.2 j hj (by omega)
    rw [← e] at hQ
    refine ite_t (ixB_nI hj (by decide)) ?_
    exact a29 _ hQ
  · have c' : ¬ (0 ≤ x.toInt ∧ x.toInt ≤ ((if S 120 38 < 20 then S 120 38 else (20 : Int32)) - 1).toInt) := c
    rw [e1] at c'
    rw [if_neg (fun w => c' (by
      obtain ⟨j, hj, ej⟩ := inR_ex w.1
      obtain ⟨j', hj', ej'⟩ := inR_ex w.2
      have e : j = j' := (nI_eq (by omega) (by omega)).mp (ej.symm.trans ej')
      subst e
      rw [ej, nI_toInt (by omega)]
      have := Nat.lt_min.mpr ⟨hj, hj'⟩
      omega))] at hQ
    have a28 : At 28 [.ref 120, .int x] [] n K S G P 0 := by
      refine go [29] 60 _ _ _ _ _ _ _ _ _ ?_
      exact a29 _ hQ
    exact a28
theorem c_count {x : Int32} (hI : InvC N d g sd n K S G P) (hD : DOk N d) (h : ∀ S', FrC S S' → InvC N d g sd n K S' G P → Q (some (.int (rCt N d x))) n K S' G P) : Ok l L xs T1 (D + 12) jX11_count 0 [.ref 32, .int x] n K S G P Q := by
  refine I_X11_count (by decide) (fun At go => ?_)
  have hQ := h S (FrC.rf S) hI
  have hR := hI.1.1.1
  unfold rCt at hQ
  refine go [] 60 _ _ _ _ _ _ _ _ _ ?_
  refine ite_i (fun c => ?_) (fun c => ?_)
  · rw [if_pos c, ← RC_np hR] at hQ; exact hQ
  rw [if_neg c] at hQ
  refine ite_i (fun c => ?_) (fun c => ?_)
  · rw [if_pos c, ← hI.2.1.2.1] at hQ; exact hQ
  rw [if_neg c] at hQ
  refine ite_i (fun c => ?_) (fun c => ?_)
  · rw [if_pos c, ← RC_ns hR] at hQ; exact hQ
  rw [if_neg c] at hQ
  refine ite_i (fun c => ?_) (fun c => ?_)
  · rw [if_pos c, ← RC_nq hR] at hQ; exact hQ
  rw [if_neg c] at hQ
  refine ite_i (fun c => ?_) (fun c => ?_)
  · rw [if_pos c, ← RC_nb hR] at hQ; exact hQ
  rw [if_neg c] at hQ
  refine ite_i (fun c => ?_) (fun c => ?_)
  · rw [if_pos c, ← hI.2.2.1.1] at hQ; exact hQ
  rw [if_neg c] at hQ
  refine ite_i (fun c => ?_) (fun c => ?_)
  · rw [if_pos c, ← hI.2.2.2.2.1] at hQ; exact hQ
  rw [if_neg c] at hQ
  exact hQ
theorem q_count {x : Int32} (hI : InvM N d g sd S G) (hD : DOk N d) (h : ∀ S', FrM S S' → InvM N d g sd S' G → Q (some (.int (rCt N d x))) n K S' G P) : Ok l L xs T1 (D + 12) jX12_count 0 [.ref 120, .int x] n K S G P Q := by
  refine I_X12_count (by decide) (fun At go => ?_)
  have hQ := h S (FrM.rf S) hI
  have hR := hI.1.1
  unfold rCt at hQ
  refine go [] 60 _ _ _ _ _ _ _ _ _ ?_
  refine ite_i (fun c => ?_) (fun c => ?_)
  · rw [if_pos c, ← RM_np hR] at hQ; exact hQ
  rw [if_neg c] at hQ
  refine ite_i (fun c => ?_) (fun c => ?_)
  · rw [if_pos c, ← hI.2.1.1] at hQ; exact hQ
  rw [if_neg c] at hQ
  refine ite_i (fun c => ?_) (fun c => ?_)
  · rw [if_pos c, ← RM_ns hR] at hQ; exact hQ
  rw [if_neg c] at hQ
  refine ite_i (fun c => ?_) (fun c => ?_)
  · rw [if_pos c, ← RM_nq hR] at hQ; exact hQ
  rw [if_neg c] at hQ
  refine ite_i (fun c => ?_) (fun c => ?_)
  · rw [if_pos c, ← RM_nb hR] at hQ; exact hQ
  rw [if_neg c] at hQ
  refine ite_i (fun c => ?_) (fun c => ?_)
  · rw [if_pos c, ← hI.2.2.1.1] at hQ; exact hQ
  rw [if_neg c] at hQ
  refine ite_i (fun c => ?_) (fun c => ?_)
  · rw [if_pos c, ← hI.2.2.2.2.1] at hQ; exact hQ
  rw [if_neg c] at hQ
  exact hQ
theorem c_read {x y : Int32} (hI : InvC N d g sd n K S G P) (hD : DOk N d) (h : ∀ S', FrC S S' → InvC N d g sd n K S' G P → Q (some (.long (rRd d g x y))) n K S' G P) : Ok l L xs T1 (D + 12) jX11_read 0 [.ref 32, .int x, .int y] n K S G P Q := by
  refine I_X11_read (by decide) (fun At go => ?_)
  have hQ := h S (FrC.rf S) hI
  unfold rRd at hQ
  have a21 : ¬ (inR 6 x = true ∧ inR (d 5 x.toNatClampNeg).toNatClampNeg y = true) → At 21 [.ref 32, .int x, .int y] [] n K S G P 0 := by
    intro c
    rw [if_neg c] at hQ
    refine go [25] 60 _ _ _ _ _ _ _ _ _ ?_
    exact hQ
  refine go [21, 25] 60 _ _ _ _ _ _ _ _ _ ?_
  refine m_tape2 (fun hx => ?_) (fun c => a21 (fun w => by rw [c] at w; exact absurd w.1 (by decide)))
  obtain ⟨t, ht, et⟩ := inR_ex hx
  subst et
  obtain ⟨m, hm, em, hm0, hsrt⟩ := tp_ex hD ht
  have e5 : S 83 (nI t).toNatClampNeg = nI m := by rw [nI_clamp (by omega)]; exact (hI.2.2.2.1.1 t ht).2.1.trans em
  have e75 : P 75 (nI t).toNatClampNeg = some (76 + t) := by rw [nI_clamp (by omega)]; exact (hI.2.2.2.1.1 t ht).2.2
  have x6 : ixB (nI t) 6 = true := ixB_nI ht (by decide)
  rw [nI_clamp (n := t) (by omega), em, nI_clamp (n := m) (by omega)] at hQ a21
  refine ite_i (fun c => a21 (fun w => ?_)) (fun c => ?_)
  · rw [lt_i, t_0] at c
    obtain ⟨j, hj, ej⟩ := inR_ex w.2
    rw [ej, nI_toInt (by omega)] at c
    omega
  rw [lt_i, t_0] at c
  refine ite_t x6 ?_
  refine ite_i (fun c2 => ?_) (fun c2 => a21 (fun w => ?_))
  · rw [e5, lt_i, nI_toInt (by omega)] at c2
    obtain ⟨j, hj, ej⟩ := inR_ex (np := m) (x := y) (inR_lt (by omega) (by omega))
    subst ej
    rw [if_pos ⟨hx, inR_nI hj (by omega)⟩, nI_clamp (by omega)] at hQ
    have eg : G (76 + t) (nI j).toNatClampNeg = g (60 * t + j) := by rw [nI_clamp (by omega)]; exact hI.2.2.2.1.2 t _ ht (by omega)
    rw [← eg] at hQ
    have a25 : At 25 [.ref 32, .int (nI t), .int (nI j)] [] n K S G P 0 := by
      refine go [] 60 _ _ _ _ _ _ _ _ _ ?_
      refine ite_t x6 ?_
      refine rf_l e75 ?_
      refine sh_tp ht ?_
      refine ite_t (ixB_nI (by omega) (by decide)) ?_
      exact hQ
    exact a25
  · rw [e5, lt_i, nI_toInt (by omega)] at c2
    obtain ⟨j, hj, ej⟩ := inR_ex w.2
    rw [ej, nI_toInt (by omega)] at c2
    omega
theorem q_read {x y : Int32} (hI : InvM N d g sd S G) (hD : DOk N d) (h : ∀ S', FrM S S' → InvM N d g sd S' G → Q (some (.long (rRd d g x y))) n K S' G P) : Ok l L xs T1 (D + 12) jX12_read 0 [.ref 120, .int x, .int y] n K S G P Q := by
  refine I_X12_read (by decide) (fun At go => ?_)
  have hQ := h S (FrM.rf S) hI
  unfold rRd at hQ
  have a49 : ∀ r, Q (some (.long r)) n K S G P → At 49 [.ref 120, .int x, .int y] [.long r] n K S G P 0 := by
    intro r hr
    refine go [46] 60 _ _ _ _ _ _ _ _ _ ?_
    exact hr
  have a46 : ¬ (inR 6 x = true ∧ inR (d 5 x.toNatClampNeg).toNatClampNeg y = true) → At 46 [.ref 120, .int x, .int y] [] n K S G P 0 := by
    intro c
    rw [if_neg c] at hQ
    refine go [49] 60 _ _ _ _ _ _ _ _ _ ?_
    exact a49 _ hQ
  refine go [46, 49] 60 _ _ _ _ _ _ _ _ _ ?_
  refine mm_tape2 (fun hx => ?_) (fun c => a46 (fun w => by rw [c] at w; exact absurd w.1 (by decide)))
  obtain ⟨t, ht, et⟩ := inR_ex hx
  subst et
  obtain ⟨m, hm, em, hm0, hsrt⟩ := tp_ex hD ht
  have e4 : S 152 (nI t).toNatClampNeg = d 4 t := by rw [nI_clamp (by omega)]; exact (hI.2.2.2.1.1 t ht).1
  have e5 : S 153 (nI t).toNatClampNeg = nI m := by rw [nI_clamp (by omega)]; exact (hI.2.2.2.1.1 t ht).2.trans em
  have x6 : ixB (nI t) 6 = true := ixB_nI ht (by decide)
  rw [nI_clamp (n := t) (by omega), em, nI_clamp (n := m) (by omega)] at hQ a46
  have hneg : ∀ z : Int32, z = d 4 t → z < 0 → m = 0 := fun z ez hz => by
    rcases hsrt with e | ⟨s, hs, e⟩
    · exact hm0 e
    · rw [ez, e, lt_i, nI_toInt (by omega), t_0] at hz
      omega
  refine ite_t x6 ?_
  refine ite_i (fun c => a46 (fun w => ?_)) (fun c => ?_)
  · have := hneg _ e4 c
    obtain ⟨j, hj, ej⟩ := inR_ex w.2
    omega
  refine ite_t x6 ?_
  have em1 : (S 153 (nI t).toNatClampNeg - 1).toInt = (m : Int) - 1 := by rw [e5]; exact sub_n (p := 1) (by omega) (by decide)
  refine m_within (fun c1 c2 => ?_) (fun c2 => ?_)
  · rw [t_0] at c1
    have c2' : y.toInt ≤ (S 153 (nI t).toNatClampNeg - 1).toInt := c2
    rw [em1] at c2'
    obtain ⟨j, hj, ej⟩ := inR_ex (np := m) (x := y) (inR_lt (by omega) (by omega))
    subst ej
    rw [if_pos ⟨hx, inR_nI hj (by omega)⟩, nI_clamp (by omega)] at hQ
    have xi : 60 * nI t + nI j = nI (60 * t + j) := by rw [show (60 : Int32) = nI 60 from rfl, pk_mul, nI_add]
    have xj : ixB (60 * nI t + nI j) 360 = true := by rw [xi]; exact ixB_nI (by omega) (by decide)
    have eg : G 154 (60 * nI t + nI j).toNatClampNeg = g (60 * t + j) := by rw [xi, nI_clamp (by omega)]; exact hI.2.2.2.1.2 _ (by omega)
    rw [← eg] at hQ
    refine ite_t xj ?_
    exact a49 _ hQ
  · have c2' : ¬ (0 ≤ y.toInt ∧ y.toInt ≤ (S 153 (nI t).toNatClampNeg - 1).toInt) := c2
    rw [em1] at c2'
    refine a46 (fun w => c2' ?_)
    obtain ⟨j, hj, ej⟩ := inR_ex w.2
    rw [ej, nI_toInt (by omega)]
    omega
end A
end

noncomputable section
/-! THE WALL of least pieces, on both sides; the near pairs of the model. -/
def fvO : Option Nat → Int32
  | none => -5
  | some k => nI k
def orE (f : Int32) (o : Option Nat) : Int32 := if f = -5 then fvO o else f
theorem orE0 (f : Int32) : orE f none = f := by
  unfold orE
  split
  · next h => exact h.symm
  · rfl
theorem orES (f : Int32) (k : Nat) (o : Option Nat) (hk : k < 2 ^ 31) : orE (orE f (some k)) o = orE f (some k) := by
  unfold orE
  by_cases h : f = -5
  · rw [if_pos h, if_neg]
    · intro e
      rw [show fvO (some k) = nI k from rfl, eq_i, nI_toInt hk, t_m5] at e
      omega
  · rw [if_neg h, if_neg h]
/-- the least set of the fewest -/
def minW (W : Int32 → Prop) (np w : Nat) : Prop := w < 2 ^ np ∧ W (nI w) ∧ ∀ x, x < 2 ^ np → W (nI x) → (bcI (nI w)).toInt < (bcI (nI x)).toInt ∨ ((bcI (nI w)).toInt = (bcI (nI x)).toInt ∧ w ≤ x)
theorem minW_one {W : Int32 → Prop} {np w v : Nat} (h : minW W np w) (h' : minW W np v) : w = v := by
  have a := h.2.2 v h'.1 h'.2.1
  have b := h'.2.2 w h.1 h.2.1
  omega
theorem hb_full : ∀ np, np < 7 → ∀ i, i < np → hb (nI (2 ^ np - 1)) (nI i) := by unfold hb; decide
theorem wall_full {nb : Nat → Nat → Bool} {np : Nat} (h6 : np ≤ 6) : wallB nb np (nI (2 ^ np - 1)) := fun i _ h1 h2 h3 _ => absurd (hb_full np (by omega) i (by omega)) h3
theorem shl_i : ∀ np, np < 7 → (1 : Int32) <<< (nI np &&& 31) = nI (2 ^ np) := by decide
theorem shl_i1 : ∀ np, np < 7 → (1 : Int32) <<< (nI np &&& 31) - 1 = nI (2 ^ np - 1) := by decide
theorem p64 {np : Nat} (h6 : np ≤ 6) : 2 ^ np ≤ 64 := Nat.pow_le_pow_right (by decide) h6
theorem nI_dn (x : Nat) : nI (x + 1) + -1 = nI x := by
  rw [nI_succ, Int32.add_assoc, show (1 : Int32) + -1 = 0 from rfl, Int32.add_zero]
section A
variable {l : Launch} {L : Nat} {xs : Nat → Int32} {D : Nat} {n : Nat} {K : Mk} {S : Mi} {G : Ml} {P : Mr} {Q : QT} {a np : Nat} {ta wd : Nat → Int32}
set_option maxRecDepth 20000
theorem m_wall (ha : TA a) (hn : S a 0 = nI np) (h6 : np ≤ 6) (ht : ∀ i, i < 36 → S (a + 4) i = ta i) (hwd : ∀ i, i < 6 → S (a + 2) i = wd i) (h : ∀ w, minW (wallB (nearB ta wd) np) np w → Q (some (.int (nI w))) n K S G P) : Ok l L xs T1 (D + 4) jX9_wall 0 [.ref a] n K S G P Q := by
  refine I_X9_wall (by decide) (fun At go => ?_)
  have h64 := p64 h6
  have loop : ∀ m b vx, m ≤ 2 ^ np → (m = 0 → vx = -1) → (∀ x, m = x + 1 → vx = nI x) → b < 2 ^ np → wallB (nearB ta wd) np (nI b) → (∀ x, m ≤ x → x < 2 ^ np → wallB (nearB ta wd) np (nI x) → (bcI (nI b)).toInt < (bcI (nI x)).toInt ∨ ((bcI (nI b)).toInt = (bcI (nI x)).toInt ∧ b ≤ x)) → At 11 [.ref a, .int (nI b), .int vx] [] n K S G P 0 := by
    intro m
    induction m with
    | zero =>
      intro b vx hm hv0 hv hb1 hb2 hb3
      have e := hv0 rfl
      subst e
      refine go [11, 36] 60 _ _ _ _ _ _ _ _ _ ?_
      exact h b ⟨hb1, hb2, fun x => hb3 x (Nat.zero_le x)⟩
    | succ m ih =>
      intro b vx hm hv0 hv hb1 hb2 hb3
      have e := hv m rfl
      subst e
      have nxt : ∀ b', b' < 2 ^ np → wallB (nearB ta wd) np (nI b') → (∀ x, m ≤ x → x < 2 ^ np → wallB (nearB ta wd) np (nI x) → (bcI (nI b')).toInt < (bcI (nI x)).toInt ∨ ((bcI (nI b')).toInt = (bcI (nI x)).toInt ∧ b' ≤ x)) → At 36 [.ref a, .int (nI b'), .int (nI m)] [] n K S G P 0 := by
        intro b' g1 g2 g3
        refine go [11, 36] 60 _ _ _ _ _ _ _ _ _ ?_
        refine ih b' _ (by omega) (fun q => ?_) (fun x q => ?_) g1 g2 g3
        · subst q
          rfl
        · subst q
          exact nI_dn x
      have ha' := ha
      rcases ha with rfl | rfl | rfl <;> (
      refine go [11, 36] 60 _ _ _ _ _ _ _ _ _ ?_
      refine ite_f ?_ ?_
      · rw [lt_i, nI_toInt (by omega), t_0]
        omega
      refine m_isWallT ha' hn h6 ht hwd (fun c => ?_) (fun c => ?_)
      · refine m_bitCount ?_
        refine m_bitCount ?_
        refine ite_i (fun c2 => ?_) (fun c2 => ?_)
        · rw [lt_i] at c2
          refine nxt b hb1 hb2 (fun x g1 g2 g3 => ?_)
          rcases Nat.lt_or_ge m x with q | q
          · exact hb3 x q g2 g3
          · have e : x = m := by omega
            subst e
            exact .inl c2
        · rw [lt_i] at c2
          refine nxt m (by omega) c (fun x g1 g2 g3 => ?_)
          rcases Nat.lt_or_ge m x with q | q
          · have := hb3 x q g2 g3
            omega
          · have e : x = m := by omega
            subst e
            exact .inr ⟨rfl, Nat.le_refl _⟩
      · refine nxt b hb1 hb2 (fun x g1 g2 g3 => ?_)
        rcases Nat.lt_or_ge m x with q | q
        · exact hb3 x q g2 g3
        · have e : x = m := by omega
          subst e
          exact absurd g3 c)
  have p0 : 0 < 2 ^ np := Nat.pow_pos (by decide)
  have fin : At 11 [.ref a, .int (nI (2 ^ np - 1)), .int (nI (2 ^ np - 1))] [] n K S G P 0 := loop (2 ^ np) (2 ^ np - 1) _ (Nat.le_refl _) (fun q => by omega) (fun x q => by rw [q]; rfl) (by omega) (wall_full h6) (fun x g1 g2 => by omega)
  rw [← shl_i1 np (by omega), ← hn] at fin
  rcases ha with rfl | rfl | rfl <;> (
  refine go [11, 36] 60 _ _ _ _ _ _ _ _ _ ?_
  exact fin)
theorem mm_isWall (hn : S 120 0 = nI np) (h6 : np ≤ 6) (ht : ∀ i, i < 36 → S 125 i = ta i) (hwd : ∀ i, i < 6 → S 123 i = wd i) {s : Int32} (h1 : wallB (nearB ta wd) np s → Q (some (.int 1)) n K S G P) (h0 : ¬ wallB (nearB ta wd) np s → Q (some (.int 0)) n K S G P) : Ok l L xs T1 (D + 2) jX12_isWall 0 [.ref 120, .int s] n K S G P Q := by
  refine I_X12_isWall (by decide) (fun At go => ?_)
  have inner : ∀ i m j vi vj, j + m = np → i < j → vi = nI i → vj = nI j → (∀ j', i < j' → j' < j → ¬ hb s (nI i) → ¬ hb s (nI j') → nearB ta wd i j' = false) → ((∀ j', i < j' → j' < np → ¬ hb s (nI i) → ¬ hb s (nI j') → nearB ta wd i j' = false) → ∀ vj', At 55 [.ref 120, .int s, .int vi, .int vj'] [] n K S G P 0) → At 14 [.ref 120, .int s, .int vi, .int vj] [] n K S G P 0 := by
    intro i m
    induction m with
    | zero =>
      intro j vi vj hj hij hv hw hd hk
      subst hv hw
      have e : j = np := by omega
      subst e
      refine go [2, 14, 49, 55] 60 _ _ _ _ _ _ _ _ _ ?_
      refine ite_t ?_ (hk hd _)
      rw [hn, le_i]
      omega
    | succ m ih =>
      intro j vi vj hj hij hv hw hd hk
      subst hv hw
      have nxt : (¬ hb s (nI i) → ¬ hb s (nI j) → nearB ta wd i j = false) → At 49 [.ref 120, .int s, .int (nI i), .int (nI j)] [] n K S G P 0 := by
        intro hc
        refine go [2, 14, 49, 55] 60 _ _ _ _ _ _ _ _ _ ?_
        refine ih (j + 1) _ _ (by omega) (by omega) rfl (nI_1 j) (fun j' g1 g2 g3 g4 => ?_) hk
        rcases Nat.lt_or_ge j' j with q | q
        · exact hd j' g1 q g3 g4
        · have e : j' = j := by omega
          subst e
          exact hc g3 g4
      refine go [2, 14, 49, 55] 60 _ _ _ _ _ _ _ _ _ ?_
      refine ite_f ?_ ?_
      · rw [hn, le_i, nI_toInt (by omega), nI_toInt (by omega)]
        omega
      refine ite_i (fun c1 => ?_) (fun c1 => ?_)
      · refine ite_i (fun c2 => ?_) (fun c2 => ?_)
        · refine mm_isNear ht hwd (by omega) (by omega) (fun c => ?_) (fun c => ?_)
          · exact h0 (fun q => by have := q i j hij (by omega) (fun z => z c1) (fun z => z c2); rw [c] at this; cases this)
          · exact nxt (fun _ _ => c)
        · exact nxt (fun _ q => absurd c2 q)
      · exact nxt (fun q => absurd c1 q)
  have loop : ∀ m i vi vj, i + m = np → vi = nI i → (∀ i' j', i' < i → i' < j' → j' < np → ¬ hb s (nI i') → ¬ hb s (nI j') → nearB ta wd i' j' = false) → At 2 [.ref 120, .int s, .int vi, vj] [] n K S G P 0 := by
    intro m
    induction m with
    | zero =>
      intro i vi vj hj hv hd
      subst hv
      refine go [2, 14, 49, 55] 60 _ _ _ _ _ _ _ _ _ ?_
      refine ite_t ?_ (h1 (fun i' j' g1 g2 => hd i' j' (by omega) g1 g2))
      rw [hn, le_i, nI_toInt (by omega), nI_toInt (by omega)]
      omega
    | succ m ih =>
      intro i vi vj hj hv hd
      subst hv
      have fin : At 14 [.ref 120, .int s, .int (nI i), .int (nI i + 1)] [] n K S G P 0 := by
        refine inner i (np - (i + 1)) (i + 1) _ _ (by omega) (by omega) rfl (nI_1 i) (fun j' g1 g2 => by omega) (fun hk vj' => ?_)
        refine go [2, 14, 49, 55] 60 _ _ _ _ _ _ _ _ _ ?_
        refine ih (i + 1) _ _ (by omega) (nI_1 i) (fun i' j' g1 g2 g3 g4 g5 => ?_)
        rcases Nat.lt_or_ge i' i with q | q
        · exact hd i' j' q g2 g3 g4 g5
        · have e : i' = i := by omega
          subst e
          exact hk j' g2 g3 g4 g5
      refine go [2, 14, 49, 55] 60 _ _ _ _ _ _ _ _ _ ?_
      refine ite_f ?_ fin
      rw [hn, le_i, nI_toInt (by omega), nI_toInt (by omega)]
      omega
  refine go [2, 14, 49, 55] 60 _ _ _ _ _ _ _ _ _ ?_
  exact loop np 0 _ _ (by omega) rfl (fun i' j' g => absurd g (Nat.not_lt_zero i'))
theorem mm_wall (hn : S 120 0 = nI np) (h6 : np ≤ 6) (ht : ∀ i, i < 36 → S 125 i = ta i) (hwd : ∀ i, i < 6 → S 123 i = wd i) (h : ∀ w, minW (wallB (nearB ta wd) np) np w → Q (some (.int (nI w))) n K S G P) : Ok l L xs T1 (D + 3) jX12_wall 0 [.ref 120] n K S G P Q := by
  refine I_X12_wall (by decide) (fun At go => ?_)
  have h64 := p64 h6
  have p0 : 0 < 2 ^ np := Nat.pow_pos (by decide)
  have esh : (1 : Int32) <<< (S 120 0 &&& 31) = nI (2 ^ np) := by rw [hn]; exact shl_i np (by omega)
  have loop : ∀ m x vx vb, x + m = 2 ^ np → vx = nI x → ((vb = -1 ∧ ∀ y, y < x → ¬ wallB (nearB ta wd) np (nI y)) ∨ ∃ b, vb = nI b ∧ b < x ∧ wallB (nearB ta wd) np (nI b) ∧ ∀ y, y < x → wallB (nearB ta wd) np (nI y) → (bcI (nI b)).toInt < (bcI (nI y)).toInt ∨ ((bcI (nI b)).toInt = (bcI (nI y)).toInt ∧ b ≤ y)) → At 4 [.ref 120, .int vb, .int vx] [] n K S G P 0 := by
    intro m
    induction m with
    | zero =>
      intro x vx vb hm hv hI
      subst hv
      refine go [4, 30, 40] 60 _ _ _ _ _ _ _ _ _ ?_
      refine ite_t ?_ ?_
      · show (1 : Int32) <<< (S 120 0 &&& 31) ≤ nI x
        rw [esh, le_i, nI_toInt (by omega), nI_toInt (by omega)]
        omega
      · rcases hI with ⟨_, q⟩ | ⟨b, e, q1, q2, q3⟩
        · exact absurd (wall_full h6) (q (2 ^ np - 1) (by omega))
        · subst e
          exact h b ⟨by omega, q2, fun y hy => q3 y (by omega)⟩
    | succ m ih =>
      intro x vx vb hm hv hI
      subst hv
      have nxt : ∀ vb', ((vb' = -1 ∧ ∀ y, y < x + 1 → ¬ wallB (nearB ta wd) np (nI y)) ∨ ∃ b, vb' = nI b ∧ b < x + 1 ∧ wallB (nearB ta wd) np (nI b) ∧ ∀ y, y < x + 1 → wallB (nearB ta wd) np (nI y) → (bcI (nI b)).toInt < (bcI (nI y)).toInt ∨ ((bcI (nI b)).toInt = (bcI (nI y)).toInt ∧ b ≤ y)) → At 40 [.ref 120, .int vb', .int (nI x)] [] n K S G P 0 := by
        intro vb' hI'
        refine go [4, 30, 40] 60 _ _ _ _ _ _ _ _ _ ?_
        exact ih (x + 1) _ _ (by omega) (nI_1 x) hI'
      refine go [4, 30, 40] 60 _ _ _ _ _ _ _ _ _ ?_
      refine ite_f ?_ ?_
      · show ¬ (1 : Int32) <<< (S 120 0 &&& 31) ≤ nI x
        rw [esh, le_i, nI_toInt (by omega), nI_toInt (by omega)]
        omega
      rcases hI with ⟨e, q⟩ | ⟨b, e, q1, q2, q3⟩
      · subst e
        have a30 : At 30 [.ref 120, .int (-1), .int (nI x)] [] n K S G P 0 := by
          refine go [4, 30, 40] 60 _ _ _ _ _ _ _ _ _ ?_
          refine mm_isWall hn h6 ht hwd (fun c => ?_) (fun c => ?_)
          · refine nxt _ (.inr ⟨x, rfl, by omega, c, fun y hy hw => ?_⟩)
            rcases Nat.lt_or_ge y x with z | z
            · exact absurd hw (q y z)
            · have e : y = x := by omega
              subst e
              exact .inr ⟨rfl, Nat.le_refl _⟩
          · refine nxt _ (.inl ⟨rfl, fun y hy hw => ?_⟩)
            rcases Nat.lt_or_ge y x with z | z
            · exact q y z hw
            · have e : y = x := by omega
              subst e
              exact c hw
        exact a30
      · subst e
        have hb64 : b < 64 := by omega
        refine ite_f ?_ ?_
        · rw [eq_i, nI_toInt (by omega), t_m1]
          omega
        refine m_bitCount ?_
        refine m_bitCount ?_
        refine ite_i (fun c2 => ?_) (fun c2 => ?_)
        · rw [le_i] at c2
          refine nxt _ (.inr ⟨b, rfl, by omega, q2, fun y hy hw => ?_⟩)
          rcases Nat.lt_or_ge y x with z | z
          · exact q3 y z hw
          · have e : y = x := by omega
            subst e
            omega
        · rw [le_i] at c2
          have a30 : At 30 [.ref 120, .int (nI b), .int (nI x)] [] n K S G P 0 := by
            refine go [4, 30, 40] 60 _ _ _ _ _ _ _ _ _ ?_
            refine mm_isWall hn h6 ht hwd (fun c => ?_) (fun c => ?_)
            · refine nxt _ (.inr ⟨x, rfl, by omega, c, fun y hy hw => ?_⟩)
              rcases Nat.lt_or_ge y x with z | z
              · have := q3 y z hw
                omega
              · have e : y = x := by omega
                subst e
                exact .inr ⟨rfl, Nat.le_refl _⟩
            · refine nxt _ (.inr ⟨b, rfl, by omega, q2, fun y hy hw => ?_⟩)
              rcases Nat.lt_or_ge y x with z | z
              · exact q3 y z hw
              · have e : y = x := by omega
                subst e
                exact absurd hw c
          exact a30
  refine go [4, 30, 40] 60 _ _ _ _ _ _ _ _ _ ?_
  exact loop (2 ^ np) 0 _ _ (by omega) rfl (.inl ⟨rfl, fun y hy => absurd hy (Nat.not_lt_zero y)⟩)
end A
end

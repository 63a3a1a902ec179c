noncomputable section
/-- how many bits: as the code counts them -/
def bc1 (x : Int32) : Int32 := x - ((x.toUInt32 >>> ((1 : Int32).toUInt32 &&& Int32.toUInt32 31)).toInt32 &&& 1431655765)
def bc2 (x : Int32) : Int32 := (x &&& 858993459) + ((x.toUInt32 >>> ((2 : Int32).toUInt32 &&& Int32.toUInt32 31)).toInt32 &&& 858993459)
def bc3 (x : Int32) : Int32 := (x + (x.toUInt32 >>> ((4 : Int32).toUInt32 &&& Int32.toUInt32 31)).toInt32) &&& 252645135
def bc4 (x : Int32) : Int32 := x + (x.toUInt32 >>> ((8 : Int32).toUInt32 &&& Int32.toUInt32 31)).toInt32
def bc5 (x : Int32) : Int32 := x + (x.toUInt32 >>> ((16 : Int32).toUInt32 &&& Int32.toUInt32 31)).toInt32
def bcI (x : Int32) : Int32 := bc5 (bc4 (bc3 (bc2 (bc1 x)))) &&& 63
section A
variable {l : Launch} {L : Nat} {xs : Nat → Int32} {D : Nat} {n : Nat} {K : Mk} {S : Mi} {G : Ml} {P : Mr} {Q : QT} {a np : Nat} {ta wd : Nat → Int32}
set_option maxRecDepth 20000
theorem m_bitCount {T : Tb} {x : Int32} (h : Q (some (.int (bcI x))) n K S G P) : Ok l L xs T (D + 1) jJ6_bitCount_0f7a4 0 [.int x] n K S G P Q := by
  refine I_J6_bitCount_0f7a4 (by decide) (fun At go => ?_)
  have h5 : ∀ y, y = bc4 (bc3 (bc2 (bc1 x))) → At 41 [.int y] [] n K S G P 0 := fun y hy => by
    refine go [] 40 _ _ _ _ _ _ _ _ _ ?_
    subst hy
    exact h
  have h4 : ∀ y, y = bc3 (bc2 (bc1 x)) → At 34 [.int y] [] n K S G P 0 := fun y hy => by
    refine go [41] 40 _ _ _ _ _ _ _ _ _ ?_
    exact h5 _ (by rw [hy]; rfl)
  have h3 : ∀ y, y = bc2 (bc1 x) → At 24 [.int y] [] n K S G P 0 := fun y hy => by
    refine go [34] 40 _ _ _ _ _ _ _ _ _ ?_
    exact h4 _ (by rw [hy]; rfl)
  have h2 : ∀ y, y = bc1 x → At 10 [.int y] [] n K S G P 0 := fun y hy => by
    refine go [24] 40 _ _ _ _ _ _ _ _ _ ?_
    exact h3 _ (by rw [hy]; rfl)
  refine go [10] 40 _ _ _ _ _ _ _ _ _ ?_
  exact h2 _ rfl
theorem m_firstNear (ha : TA a) (hn : S a 0 = nI np) (h6 : np ≤ 6) (ht : ∀ i, i < 36 → S (a + 4) i = ta i) (hwd : ∀ i, i < 6 → S (a + 2) i = wd i) (h : ∀ k, fnA (nearB ta wd) np np 0 = some k → Q (some (.int (nI k))) n K S G P) (h0 : fnA (nearB ta wd) np np 0 = none → Q (some (.int (-5))) n K S G P) : Ok l L xs T1 (D + 3) jX9_firstNear 0 [.ref a] n K S G P Q := by
  refine I_X9_firstNear (by decide) (fun At go => ?_)
  have inner : ∀ i m j vi vj, j + m = np → i < j → vi = nI i → vj = nI j → (∀ k, fnR (nearB ta wd) i m j = some k → Q (some (.int (nI k))) n K S G P) → (fnR (nearB ta wd) i m j = none → ∀ vj', At 44 [.ref a, .int vi, .int vj'] [] n K S G P 0) → At 14 [.ref a, .int vi, .int vj] [] n K S G P 0 := by
    intro i m
    induction m with
    | zero =>
      intro j vi vj hj hij hv hw hk hk0
      subst hv hw
      rcases ha with rfl | rfl | rfl <;> (
      refine go [2, 14, 44] 60 _ _ _ _ _ _ _ _ _ ?_
      refine ite_t ?_ (hk0 rfl _)
      rw [hn, le_i, nI_toInt (by omega), nI_toInt (by omega)]
      omega)
    | succ m ih =>
      intro j vi vj hj hij hv hw hk hk0
      have ha' := ha
      subst hv hw
      have e : ∀ r, fnR (nearB ta wd) i (m + 1) j = r ↔ (if nearB ta wd i j = true then some (10 * i + j) else fnR (nearB ta wd) i m (j + 1)) = r := fun r => Iff.rfl
      rcases ha with rfl | rfl | rfl <;> (
      refine go [2, 14, 44] 60 _ _ _ _ _ _ _ _ _ ?_
      refine ite_f ?_ ?_
      · rw [hn, le_i, nI_toInt (by omega), nI_toInt (by omega)]
        omega
      refine m_isNear ha' ht hwd (by omega) (by omega) (fun c => ?_) (fun c => ?_)
      · have := hk (10 * i + j) ((e _).mpr (by rw [if_pos c]))
        rw [show nI (10 * i + j) = 10 * nI i + nI j by rw [show (10 : Int32) = nI 10 from rfl, pk_mul, nI_add]] at this
        exact this
      · refine ih (j + 1) _ _ (by omega) (by omega) rfl (nI_1 j) (fun k hk1 => ?_) (fun hk1 vj' => ?_)
        · exact hk k ((e _).mpr (by rw [if_neg (by rw [c]; decide)]; exact hk1))
        · exact hk0 ((e _).mpr (by rw [if_neg (by rw [c]; decide)]; exact hk1)) vj')
  have loop : ∀ m i vi vj, i + m = np → vi = nI i → (∀ k, fnA (nearB ta wd) np m i = some k → Q (some (.int (nI k))) n K S G P) → (fnA (nearB ta wd) np m i = none → Q (some (.int (-5))) n K S G P) → At 2 [.ref a, .int vi, vj] [] n K S G P 0 := by
    intro m
    induction m with
    | zero =>
      intro i vi vj hj hv hQ hQ0
      subst hv
      rcases ha with rfl | rfl | rfl <;> (
      refine go [2, 14, 44] 60 _ _ _ _ _ _ _ _ _ ?_
      refine ite_t ?_ (hQ0 rfl)
      rw [hn, le_i, nI_toInt (by omega), nI_toInt (by omega)]
      omega)
    | succ m ih =>
      intro i vi vj hj hv hQ hQ0
      subst hv
      have e : fnA (nearB ta wd) np (m + 1) i = (match fnR (nearB ta wd) i (np - (i + 1)) (i + 1) with | some k => some k | none => fnA (nearB ta wd) np m (i + 1)) := rfl
      have fin : At 14 [.ref a, .int (nI i), .int (nI i + 1)] [] n K S G P 0 := by
        refine inner i (np - (i + 1)) (i + 1) _ _ (by omega) (by omega) rfl (nI_1 i) (fun k hk => hQ k (by rw [e, hk])) (fun hk vj' => ?_)
        rcases ha with rfl | rfl | rfl <;> (
        refine go [2, 14, 44] 60 _ _ _ _ _ _ _ _ _ ?_
        exact ih (i + 1) _ _ (by omega) (nI_1 i) (fun k hk1 => hQ k (by rw [e, hk]; exact hk1)) (fun hk1 => hQ0 (by rw [e, hk]; exact hk1)))
      rcases ha with rfl | rfl | rfl <;> (
      refine go [2, 14, 44] 60 _ _ _ _ _ _ _ _ _ ?_
      refine ite_f ?_ fin
      rw [hn, le_i, nI_toInt (by omega), nI_toInt (by omega)]
      omega)
  refine go [2, 14, 44] 60 _ _ _ _ _ _ _ _ _ ?_
  exact loop np 0 _ _ (by omega) rfl h h0
theorem m_isWallT (ha : TA a) (hn : S a 0 = nI np) (h6 : np ≤ 6) (ht : ∀ i, i < 36 → S (a + 4) i = ta i) (hwd : ∀ i, i < 6 → S (a + 2) i = wd i) {s : Int32} (h1 : wallB (nearB ta wd) np s → Q (some (.int 1)) n K S G P) (h0 : ¬ wallB (nearB ta wd) np s → Q (some (.int 0)) n K S G P) : Ok l L xs T1 (D + 3) jX9_isWall 0 [.ref a, .int s] n K S G P Q := by
  refine I_X9_isWall (by decide) (fun At go => ?_)
  have inner : ∀ i m j vi vj, j + m = np → i < j → vi = nI i → vj = nI j → (∀ j', i < j' → j' < j → ¬ hb s (nI i) → ¬ hb s (nI j') → nearB ta wd i j' = false) → ((∀ j', i < j' → j' < np → ¬ hb s (nI i) → ¬ hb s (nI j') → nearB ta wd i j' = false) → ∀ vj', At 55 [.ref a, .int s, .int vi, .int vj'] [] n K S G P 0) → At 14 [.ref a, .int s, .int vi, .int vj] [] n K S G P 0 := by
    intro i m
    induction m with
    | zero =>
      intro j vi vj hj hij hv hw hd hk
      subst hv hw
      have e : j = np := by omega
      subst e
      rcases ha with rfl | rfl | rfl <;> (
      refine go [2, 14, 49, 55] 60 _ _ _ _ _ _ _ _ _ ?_
      refine ite_t ?_ (hk hd _)
      rw [hn, le_i]
      omega)
    | succ m ih =>
      intro j vi vj hj hij hv hw hd hk
      have ha' := ha
      subst hv hw
      have nxt : (¬ hb s (nI i) → ¬ hb s (nI j) → nearB ta wd i j = false) → At 49 [.ref a, .int s, .int (nI i), .int (nI j)] [] n K S G P 0 := by
        intro hc
        refine go [2, 14, 49, 55] 60 _ _ _ _ _ _ _ _ _ ?_
        refine ih (j + 1) _ _ (by omega) (by omega) rfl (nI_1 j) (fun j' g1 g2 g3 g4 => ?_) hk
        rcases Nat.lt_or_ge j' j with q | q
        · exact hd j' g1 q g3 g4
        · have e : j' = j := by omega
          subst e
          exact hc g3 g4
      rcases ha with rfl | rfl | rfl <;> (
      refine go [2, 14, 49, 55] 60 _ _ _ _ _ _ _ _ _ ?_
      refine ite_f ?_ ?_
      · rw [hn, le_i, nI_toInt (by omega), nI_toInt (by omega)]
        omega
      refine m_hasBit (fun c1 => ?_) (fun c1 => ?_)
      · exact nxt (fun q => absurd c1 q)
      refine m_hasBit (fun c2 => ?_) (fun c2 => ?_)
      · exact nxt (fun _ q => absurd c2 q)
      refine m_isNear ha' ht hwd (by omega) (by omega) (fun c => ?_) (fun c => ?_)
      · exact h0 (fun q => by have := q i j hij (by omega) c1 c2; rw [c] at this; cases this)
      · exact nxt (fun _ _ => c))
  have loop : ∀ m i vi vj, i + m = np → vi = nI i → (∀ i' j', i' < i → i' < j' → j' < np → ¬ hb s (nI i') → ¬ hb s (nI j') → nearB ta wd i' j' = false) → At 2 [.ref a, .int s, .int vi, vj] [] n K S G P 0 := by
    intro m
    induction m with
    | zero =>
      intro i vi vj hj hv hd
      subst hv
      rcases ha with rfl | rfl | rfl <;> (
      refine go [2, 14, 49, 55] 60 _ _ _ _ _ _ _ _ _ ?_
      refine ite_t ?_ (h1 (fun i' j' g1 g2 => hd i' j' (by omega) g1 g2))
      rw [hn, le_i, nI_toInt (by omega), nI_toInt (by omega)]
      omega)
    | succ m ih =>
      intro i vi vj hj hv hd
      subst hv
      have fin : At 14 [.ref a, .int s, .int (nI i), .int (nI i + 1)] [] n K S G P 0 := by
        refine inner i (np - (i + 1)) (i + 1) _ _ (by omega) (by omega) rfl (nI_1 i) (fun j' g1 g2 => by omega) (fun hk vj' => ?_)
        refine go [2, 14, 49, 55] 60 _ _ _ _ _ _ _ _ _ ?_
        refine ih (i + 1) _ _ (by omega) (nI_1 i) (fun i' j' g1 g2 g3 g4 g5 => ?_)
        rcases Nat.lt_or_ge i' i with q | q
        · exact hd i' j' q g2 g3 g4 g5
        · have e : i' = i := by omega
          subst e
          exact hk j' g2 g3 g4 g5
      rcases ha with rfl | rfl | rfl <;> (
      refine go [2, 14, 49, 55] 60 _ _ _ _ _ _ _ _ _ ?_
      refine ite_f ?_ fin
      rw [hn, le_i, nI_toInt (by omega), nI_toInt (by omega)]
      omega)
  refine go [2, 14, 49, 55] 60 _ _ _ _ _ _ _ _ _ ?_
  exact loop np 0 _ _ (by omega) rfl (fun i' j' g => absurd g (Nat.not_lt_zero i'))
end A
end

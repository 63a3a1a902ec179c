noncomputable section
/-! A TEST, of the model. -/
section B
variable {l : Launch} {L : Nat} {xs : Nat → Int32} {D : Nat} {n : Nat} {K : Mk} {S : Mi} {G : Ml} {P : Mr} {Q : QT} {p sz m : Nat} {t : Nat → Nat}
set_option maxRecDepth 20000
theorem lxN_0 : lxN 0 = none := by decide
theorem sgN_0 : sgN 0 = none := by decide
theorem mm_ixL {x : Int32} {c : Nat} (ex : x = nI c) (hc : c < 128) (h : Q (some (.int (lxO c))) n K S G P) : Ok l L xs T1 (D + 5) jJ0_indexOf_0f7a4 0 [.ref 8, .int x] n K S G P Q := by
  subst ex
  exact m_ixO3 hc (.inr rfl) h
theorem mm_ixS {x : Int32} {c : Nat} (ex : x = nI c) (hc : c < 128) (h : Q (some (.int (sgO c))) n K S G P) : Ok l L xs T1 (D + 5) jJ0_indexOf_0f7a4 0 [.ref 9, .int x] n K S G P Q := by
  subst ex
  exact m_ixO4 hc (.inr rfl) h
theorem mm_isNumber2 {S2 : Mi} (hg : S = S2) (hS : TxM S2 t sz) (hp : S2 120 11 = nI p) (hle : p ≤ sz) (h1 : ∀ v p', num t sz p = some (v, p') → ∀ S', FrV S2 S' → S' 120 11 = nI p' → S' 120 12 = nI v → Q (some (.int 1)) n K S' G P) (h0 : num t sz p = none → ∀ S', FrV S2 S' → S' 120 11 = nI p → Q (some (.int 0)) n K S' G P) : Ok l L xs T1 (D + 2) jX12_isNumber 0 [.ref 120] n K S G P Q := by
  subst hg
  exact mm_isNumber hS hp hle h1 h0
theorem mm_isTest (hS : TxM S t sz) (hp : S 120 11 = nI p) (hle : p ≤ sz) (hm : S 120 23 = nI m) (hm1 : m < 800) (h1 : ∀ c p', tst t sz p = (some c, p') → ∀ S', FrT m S S' → S' 120 11 = nI p' → S' 120 23 = nI (m + 1) → S' 134 m = nI c → S' 120 14 = S 120 14 → Q (some (.int 1)) n K S' G P) (h0 : ∀ p', tst t sz p = (none, p') → ∀ S', FrT m S S' → S' 120 11 = nI p' → S' 120 23 = nI m → S' 120 14 = S 120 14 → Q (some (.int 0)) n K S' G P) : Ok l L xs T1 (D + 7) jX12_isTest 0 [.ref 120] n K S G P Q := by
  refine I_X12_isTest (by decide) (fun At go => ?_)
  obtain ⟨s1, s2, s3⟩ := hS
  have a151 : ∀ S' v1 v2, Q (some (.int 0)) n K S' G P → At 151 [.ref 120, v1, v2] [] n K S' G P 0 := by
    intro S' v1 v2 hQ
    refine go [] 60 _ _ _ _ _ _ _ _ _ ?_
    exact hQ
  have a106 : ∀ i j S', oneAt lxN t sz p = some i → oneAt sgN t sz (p + 1) = some j → p + 1 < sz → i < 6 → j < 3 → S' = up2 S 120 11 (nI (p + 1)) → At 106 [.ref 120, .int (nI i), .int (nI j)] [] n K S' G P 0 := by
    intro i j S' e1 e2 hps hi hj eS
    subst eS
    have hS2 : TxM (up2 (up2 S 120 11 (nI (p + 1))) 120 11 (up2 S 120 11 (nI (p + 1)) 120 11 + 1)) t sz := TxM_fr (m := 0) (fun b j h1 h2 => by rw [up2_o _ _ (by omega), up2_o _ _ (by omega)]) ⟨s1, s2, s3⟩
    have g2 : up2 (up2 S 120 11 (nI (p + 1))) 120 11 (up2 S 120 11 (nI (p + 1)) 120 11 + 1) 120 11 = nI (p + 2) := by rw [up2_s, up2_s]; exact nI_1 (p + 1)
    have fr : FrT m S (up2 (up2 S 120 11 (nI (p + 1))) 120 11 (up2 S 120 11 (nI (p + 1)) 120 11 + 1)) := fun b j h1 h2 => by rw [up2_o _ _ (by omega), up2_o _ _ (by omega)]
    have m2 : up2 (up2 S 120 11 (nI (p + 1))) 120 11 (up2 S 120 11 (nI (p + 1)) 120 11 + 1) 120 23 = nI m := by rw [up2_o _ _ (.inr (by decide)), up2_o _ _ (.inr (by decide))]; exact hm
    have o2 : up2 (up2 S 120 11 (nI (p + 1))) 120 11 (up2 S 120 11 (nI (p + 1)) 120 11 + 1) 120 14 = S 120 14 := by rw [up2_o _ _ (.inr (by decide)), up2_o _ _ (.inr (by decide))]
    generalize hg : up2 (up2 S 120 11 (nI (p + 1))) 120 11 (up2 S 120 11 (nI (p + 1)) 120 11 + 1) = S2 at hS2 g2 fr m2 o2
    refine go [151] 60 _ _ _ _ _ _ _ _ _ ?_
    refine mm_isNumber2 hg hS2 g2 (by omega) (fun v p' e3 S3 f3 g3 gv => ?_) (fun e3 S3 f3 g3 => ?_)
    · have lt := num_lt e3
      have m3 : S3 120 23 = nI m := (f3 _ _ (by omega)).trans m2
      have o3 : S3 120 14 = S 120 14 := (f3 _ _ (by omega)).trans o2
      have ec : 3 + 300 * nI i + 100 * nI j + S3 120 12 = nI (300 * i + 100 * j + v + 3) := by
        rw [gv, show (3 : Int32) = nI 3 from rfl, show (300 : Int32) = nI 300 from rfl, show (100 : Int32) = nI 100 from rfl, pk_mul, pk_mul, nI_add, nI_add, nI_add]
        congr 1
        omega
      refine mm_codes (D := D + 5) ec m3 hm1 ?_
      refine h1 _ p' (by unfold tst; rw [e1]; dsimp only; rw [e2]; dsimp only; rw [e3]) _ (fr.tr (Nat.le_refl _) ((FrT_v f3).tr (Nat.le_refl _) (fun b k q1 q2 => by rw [up2_o _ _ (by omega), up2_o _ _ (by omega)]))) ?_ ?_ (up2_s _ _ _ _) ?_
      · rw [up2_o _ _ (.inl (by decide)), up2_o _ _ (.inr (by decide))]; exact g3
      · rw [up2_o _ _ (.inl (by decide)), up2_s]
      · rw [up2_o _ _ (.inl (by decide)), up2_o _ _ (.inr (by decide))]; exact o3
    · exact a151 S3 _ _ (h0 (p + 2) (by unfold tst; rw [e1]; dsimp only; rw [e2]; dsimp only; rw [e3]) S3 (fr.tr (Nat.le_refl _) (FrT_v f3)) g3 ((f3 _ _ (by omega)).trans m2) ((f3 _ _ (by omega)).trans o2))
  have e11 : S 120 11 + 1 = nI (p + 1) := by rw [hp]; exact nI_1 p
  have a99 : ∀ i, oneAt lxN t sz p = some i → p < sz → i < 6 → At 99 [.ref 120, .int (nI i), .retAddr 0] [.int (oI (oneAt sgN t sz (p + 1)))] n K (up2 S 120 11 (S 120 11 + 1)) G P 0 := by
    intro i e1 hps hi
    refine go [106] 60 _ _ _ _ _ _ _ _ _ ?_
    cases e2 : oneAt sgN t sz (p + 1) with
    | none =>
      refine h0 (p + 1) (by unfold tst; rw [e1]; dsimp only; rw [e2]) _ (fun b j h1 h2 => up2_o _ _ (by omega)) ?_ ?_ ?_
      · rw [up2_s]; exact e11
      · rw [up2_o _ _ (.inr (by decide))]; exact hm
      · rw [up2_o _ _ (.inr (by decide))]
    | some j =>
      have hj : j < 3 ∧ p + 1 < sz := by
        unfold oneAt at e2
        split at e2
        · exact ⟨sgN_lt e2, by assumption⟩
        · cases e2
      refine ite_t (by show (0 : Int32) ≤ nI j; rw [le_i, nI_toInt (by omega), t_0]; omega) ?_
      exact a106 i j _ e1 e2 hj.2 hi hj.1 (by rw [e11])
  have a48 : ∀ i, oneAt lxN t sz p = some i → p < sz → i < 6 → At 48 [.ref 120, .int (nI i), .retAddr 0] [] n K S G P 0 := by
    intro i e1 hps hi
    have A := a99 i e1 hps hi
    have q1 : up2 S 120 11 (S 120 11 + 1) 120 11 = nI (p + 1) := by rw [up2_s]; exact e11
    have q9 : up2 S 120 11 (S 120 11 + 1) 120 9 = nI sz := by rw [up2_o _ _ (.inr (by decide))]; exact s2
    have xp : p + 1 < sz → ixB (up2 S 120 11 (S 120 11 + 1) 120 11) 100 = true := fun z => by rw [q1]; exact ixB_nI (by omega) (by decide)
    have ep : p + 1 < sz → up2 S 120 11 (S 120 11 + 1) 128 (up2 S 120 11 (S 120 11 + 1) 120 11).toNatClampNeg = nI (t (p + 1)) := fun z => by rw [q1, nI_clamp (by omega), up2_o _ _ (.inl (by decide))]; exact (s3 (p + 1) z).2
    have a98 : oneAt sgN t sz (p + 1) = none → At 98 [.ref 120, .int (nI i), .retAddr 0] [] n K (up2 S 120 11 (S 120 11 + 1)) G P 0 := by
      intro e
      rw [e] at A
      refine go [99] 60 _ _ _ _ _ _ _ _ _ ?_
      exact A
    refine go [98, 99] 60 _ _ _ _ _ _ _ _ _ ?_
    refine ite_i (fun z => ?_) (fun z => ?_)
    · have z' : up2 S 120 11 (S 120 11 + 1) 120 9 ≤ up2 S 120 11 (S 120 11 + 1) 120 11 := z
      rw [q1, q9, le_i, nI_toInt (by omega), nI_toInt (by omega)] at z'
      exact a98 (by unfold oneAt; rw [if_neg (by omega)])
    have z' : ¬ up2 S 120 11 (S 120 11 + 1) 120 9 ≤ up2 S 120 11 (S 120 11 + 1) 120 11 := z
    rw [q1, q9, le_i, nI_toInt (by omega), nI_toInt (by omega)] at z'
    have zp : p + 1 < sz := by omega
    have tl := (s3 (p + 1) zp).1
    refine ite_t (xp zp) ?_
    refine ite_i (fun z2 => ?_) (fun z2 => ?_)
    · have z3 : up2 S 120 11 (S 120 11 + 1) 128 (up2 S 120 11 (S 120 11 + 1) 120 11).toNatClampNeg ≤ 0 := z2
      rw [ep zp, le_i, nI_toInt (by omega), t_0] at z3
      refine a98 ?_
      unfold oneAt
      rw [if_pos zp, show t (p + 1) = 0 by omega]
      exact sgN_0
    · refine ite_t (xp zp) ?_
      refine mm_ixS (c := t (p + 1)) (ep zp) tl ?_
      have e : oI (oneAt sgN t sz (p + 1)) = sgO (t (p + 1)) := by unfold oneAt; rw [if_pos zp, sgO_N]
      rw [← e]
      exact A
  have a41 : At 41 [.ref 120, .retAddr 0, .retAddr 0] [.int (oI (oneAt lxN t sz p))] n K S G P 0 := by
    refine go [48] 60 _ _ _ _ _ _ _ _ _ ?_
    cases e1 : oneAt lxN t sz p with
    | none =>
      exact h0 p (by unfold tst; rw [e1]) S (FrT.rf m S) hp hm rfl
    | some i =>
      have hi : i < 6 ∧ p < sz := by
        unfold oneAt at e1
        split at e1
        · exact ⟨lxN_lt e1, by assumption⟩
        · cases e1
      refine ite_t (by show (0 : Int32) ≤ nI i; rw [le_i, nI_toInt (by omega), t_0]; omega) ?_
      exact a48 i e1 hi.2 hi.1
  have xp : p < sz → ixB (S 120 11) 100 = true := fun z => by rw [hp]; exact ixB_nI (by omega) (by decide)
  have ep : p < sz → S 128 (S 120 11).toNatClampNeg = nI (t p) := fun z => by rw [hp, nI_clamp (by omega)]; exact (s3 p z).2
  have a40 : oneAt lxN t sz p = none → At 40 [.ref 120, .retAddr 0, .retAddr 0] [] n K S G P 0 := by
    intro e
    rw [e] at a41
    refine go [41] 60 _ _ _ _ _ _ _ _ _ ?_
    exact a41
  refine go [40, 41] 60 _ _ _ _ _ _ _ _ _ ?_
  refine ite_i (fun z => ?_) (fun z => ?_)
  · rw [hp, s2, le_i, nI_toInt (by omega), nI_toInt (by omega)] at z
    exact a40 (by unfold oneAt; rw [if_neg (by omega)])
  rw [hp, s2, le_i, nI_toInt (by omega), nI_toInt (by omega)] at z
  have zp : p < sz := by omega
  have tl := (s3 p zp).1
  refine ite_t (xp zp) ?_
  refine ite_i (fun z2 => ?_) (fun z2 => ?_)
  · have z3 := z2
    rw [ep zp, le_i, nI_toInt (by omega), t_0] at z3
    refine a40 ?_
    unfold oneAt
    rw [if_pos zp, show t p = 0 by omega]
    exact lxN_0
  · refine ite_t (xp zp) ?_
    refine mm_ixL (c := t p) (ep zp) tl ?_
    have e : oI (oneAt lxN t sz p) = lxO (t p) := by unfold oneAt; rw [if_pos zp, lxO_N]
    rw [← e]
    exact a41
end B
end

noncomputable section
/-! READS EITHER, READS SINGLE of the component. -/
section A
variable {l : Launch} {L : Nat} {xs : Nat → Int32} {D : Nat} {n : Nat} {K : Mk} {S : Mi} {G : Ml} {P : Mr} {Q : QT} {s p sz m f : Nat} {t : Nat → Nat}
set_option maxRecDepth 20000
theorem m_readsEither (hs : SD s) (hF : ∀ f', f' ≤ f → RC1 l L xs n K G P s t sz f' jX7_readsBoth 9 (pT (psr t sz f'))) : RC1 l L xs n K G P s t sz f jX7_readsEither 10 (pE (psr t sz f)) := by
  intro D d p m vd S Q ed hd hS hp hle hm hmp hf h
  subst ed
  have eD : D + (10 + 3 * (4 - d)) = (D + (9 + 3 * (4 - d))) + 1 := by omega
  rw [eD]
  refine I_X7_readsEither (by decide) (fun At go => ?_)
  have sz100 := hS.1
  have a45 : ∀ S' b x3, Q (some (.int (b2i b))) n K S' G P → At 45 [.ref s, .int (nI d), .int (b2i b), x3] [] n K S' G P 0 := by
    intro S' b x3 hQ
    refine go [] 60 _ _ _ _ _ _ _ _ _ ?_
    exact ite_t (b2i_or b) hQ
  have a8f : ∀ S' vi, Q (some (.int 0)) n K S' G P → At 8 [.ref s, .int (nI d), .int 0, .int vi] [] n K S' G P 0 := by
    intro S' vi hQ
    refine go [8, 45] 60 _ _ _ _ _ _ _ _ _ ?_
    refine ite_i (fun _ => a45 S' false _ hQ) (fun _ => a45 S' false _ hQ)
  have loop : ∀ f', f' ≤ f → ∀ q m' i vi S', TxC s S' t sz → S' s 9 = nI q → q ≤ sz → S' s 5 = nI m' → m' ≤ q → sz - q < f' → vi = nI i → i ≤ q → (∀ S'', CR s m' S' (psr t sz f' 2 d q) S'' → Q (some (.int (b2i (psr t sz f' 2 d q).1))) n K S'' G P) → At 8 [.ref s, .int (nI d), .int 1, .int vi] [] n K S' G P 0 := by
    intro f'
    induction f' with
    | zero => intro _ q m' i vi S' _ _ _ _ _ hz; omega
    | succ f' ih =>
      intro hf' q m' i vi S' hS' hq hqs hm' hmq hz ev hi hQ
      subst ev
      have e : psr t sz (f' + 1) 2 d q = pTT t sz 124 2 (pT (psr t sz f') d) (psr t sz f' 2 d) q := rfl
      rw [e] at hQ
      have no : ¬ isC t sz 124 q = true → Q (some (.int 1)) n K S' G P := fun c => by
        rw [pTT_f c] at hQ
        exact hQ S' (CR_0 hq hm')
      refine go [8, 45] 60 _ _ _ _ _ _ _ _ _ ?_
      refine ite_i (fun c => ?_) (fun c => ?_)
      · rw [le_i, t_100, nI_toInt (by omega)] at c
        exact a45 S' true _ (no (fun z => by rw [isC_i] at z; omega))
      · rw [le_i, t_100, nI_toInt (by omega)] at c
        refine sv_go hs ?_
        refine m_takes_d (c := 124) rfl hs hS' hq hqs (by decide) (fun z1 z2 => ?_) (fun z => ?_)
        · have hc : isC t sz 124 q = true := isC_i.mpr ⟨z1, z2⟩
          have rk := pT_ok (d := d) (fun m d p hp => psr_ok (t := t) (sz := sz) f' m d p hp) (show q + 1 ≤ sz from z1)
          obtain ⟨k1, k2, k3, k4⟩ := rk
          refine sv_go hs ?_
          refine hF f' (by omega) D d (q + 1) m' _ _ _ rfl hd (TxC_fr (m := m') (FrS_at (fun b j hb => up2_o _ _ (by omega))) hS') (up2_s _ _ _ _) z1 ((up2_o _ _ (.inr (by decide))).trans hm') (by omega) (by omega) (fun S3 hC => ?_)
          have hC' := CR_at hC
          refine sv_go hs ?_
          refine m_addStep_d (c := 2) rfl hs hC.2.2.1 (by omega) ?_
          have cs := CR_st (c := 2) (b := false) (x := (pT (psr t sz f') d (q + 1)).2.2.2) hC'
          cases hr : (pT (psr t sz f') d (q + 1)).1 with
          | false =>
            rw [pTT_t0 hc (by rw [hr]; decide)] at hQ
            exact a8f _ _ (hQ _ cs)
          | true =>
            rw [pTT_t1 hc hr] at hQ
            have cs2 : CR s m' S' (true, (pT (psr t sz f') d (q + 1)).2.1, (pT (psr t sz f') d (q + 1)).2.2.1 ++ [2], []) _ := CR_st (c := 2) (b := true) (x := []) hC'
            have el : m' + (pT (psr t sz f') d (q + 1)).2.2.1.length + 1 = m' + ((pT (psr t sz f') d (q + 1)).2.2.1 ++ [2]).length := by rw [List.length_append]; rfl
            refine ih (by omega) (pT (psr t sz f') d (q + 1)).2.1 (m' + ((pT (psr t sz f') d (q + 1)).2.2.1 ++ [2]).length) (i + 1) _ _ (TxC_cr cs2 hS') cs2.2.1 k2 cs2.2.2.1 ?_ (by omega) (nI_1 i) (by omega) (fun S5 h5 => ?_)
            · rw [← el]; omega
            · exact hQ S5 (CR_ap cs2 h5)
        · exact a45 S' true _ (no (fun w => z (isC_i.mp w)))
  have r0 := pT_ok (d := d) (fun m d p hp => psr_ok (t := t) (sz := sz) f m d p hp) hle
  obtain ⟨k1, k2, k3, k4⟩ := r0
  refine go [8] 60 _ _ _ _ _ _ _ _ _ ?_
  refine sv_go hs ?_
  refine hF f (Nat.le_refl _) D d p m _ _ _ rfl hd hS hp hle hm hmp hf (fun S1 hC => ?_)
  cases hr : (pT (psr t sz f) d p).1 with
  | false =>
    have e : pE (psr t sz f) d p = pT (psr t sz f) d p := if_neg (by rw [hr]; decide)
    rw [e, hr] at h
    exact a8f S1 0 (h S1 hC)
  | true =>
    have e : pE (psr t sz f) d p = ((psr t sz f 2 d (pT (psr t sz f) d p).2.1).1, (psr t sz f 2 d (pT (psr t sz f) d p).2.1).2.1, (pT (psr t sz f) d p).2.2.1 ++ (psr t sz f 2 d (pT (psr t sz f) d p).2.1).2.2.1, (pT (psr t sz f) d p).2.2.2 ++ (psr t sz f 2 d (pT (psr t sz f) d p).2.1).2.2.2) := if_pos hr
    rw [e] at h
    exact loop f (Nat.le_refl _) (pT (psr t sz f) d p).2.1 (m + (pT (psr t sz f) d p).2.2.1.length) 0 0 S1 (TxC_cr hC hS) hC.2.1 k2 hC.2.2.1 (by omega) (by omega) rfl (by omega) (fun S'' hC2 => h S'' (CR_ap hC hC2))
theorem m_takes_e {d : Nat} {c : Nat} {x : Int32} (ex : x = nI c) (hs : SD s) (hS : TxC s S t sz) (hp : S s 9 = nI p) (hle : p ≤ sz) (hc : c < 128) (h1 : p < sz → t p = c → Q (some (.int 1)) n K (up2 S s 9 (nI (p + 1))) G P) (h0 : ¬ (p < sz ∧ t p = c) → Q (some (.int 0)) n K S G P) : Ok l L xs T1 (D + (7 + d)) jX7_takes 0 [.ref s, .int x] n K S G P Q := by
  rw [show D + (7 + d) = (D + 6 + d) + 1 by omega]
  exact m_takes ex hs hS hp hle hc h1 h0
theorem m_takes_f {d : Nat} {c : Nat} {x : Int32} (ex : x = nI c) (hs : SD s) (hS : TxC s S t sz) (hp : S s 9 = nI p) (hle : p ≤ sz) (hc : c < 128) (h1 : p < sz → t p = c → Q (some (.int 1)) n K (up2 S s 9 (nI (p + 1))) G P) (h0 : ¬ (p < sz ∧ t p = c) → Q (some (.int 0)) n K S G P) : Ok l L xs T1 (D + (10 + d)) jX7_takes 0 [.ref s, .int x] n K S G P Q := by
  rw [show D + (10 + d) = (D + 9 + d) + 1 by omega]
  exact m_takes ex hs hS hp hle hc h1 h0
theorem m_readsTest_d {d : Nat} (hs : SD s) (hS : TxC s S t sz) (hp : S s 9 = nI p) (hle : p ≤ sz) (hm : S s 5 = nI m) (hmp : m ≤ p) (h1 : ∀ c p', tst t sz p = (some c, p') → ∀ S', FrS s m S S' → S' s 9 = nI p' → S' s 5 = nI (m + 1) → S' (s + 3) m = stI0 c → Q (some (.int 1)) n K S' G P) (h0 : ∀ p', tst t sz p = (none, p') → ∀ S', FrS s m S S' → S' s 9 = nI p' → S' s 5 = nI m → Q (some (.int 0)) n K S' G P) : Ok l L xs T1 (D + (7 + d)) jX7_readsTest 0 [.ref s] n K S G P Q := by
  rw [show D + (7 + d) = (D + d) + 7 by omega]
  exact m_readsTest hs hS hp hle hm hmp h1 h0
theorem m_readsSingle (hs : SD s) (hF : RC1 l L xs n K G P s t sz f jX7_readsSingle 8 (psr t sz f 0)) (hE : RC1 l L xs n K G P s t sz f jX7_readsEither 10 (pE (psr t sz f))) : RC1 l L xs n K G P s t sz (f + 1) jX7_readsSingle 8 (psr t sz (f + 1) 0) := by
  intro D d p m vd S Q ed hd hS hp hle hm hmp hf h
  subst ed
  have e : psr t sz (f + 1) 0 d p = pF t sz (psr t sz f) d p := rfl
  rw [e] at h
  have sz100 := hS.1
  have eD : D + (8 + 3 * (4 - d)) = (D + (7 + 3 * (4 - d))) + 1 := by omega
  rw [eD]
  refine I_X7_readsSingle (by decide) (fun At go => ?_)
  have a68 : ¬ (d < 4 ∧ isC t sz 33 p = true) → ¬ (d < 4 ∧ isC t sz 40 p = true) → At 68 [.ref s, .int (nI d), .retAddr 0] [] n K S G P 0 := by
    intro c1 c2
    have eP : pF t sz (psr t sz f) d p = (match tst t sz p with
      | (some c, p') => (true, p', [c], [c])
      | (none, p') => (false, p', [], [])) := by
      unfold pF
      rw [if_neg c1, if_neg c2]
      generalize tst t sz p = z
      obtain ⟨o, p'⟩ := z
      cases o <;> rfl
    rw [eP] at h
    refine go [] 60 _ _ _ _ _ _ _ _ _ ?_
    refine sv_go hs ?_
    refine m_readsTest_d hs hS hp hle hm hmp (fun c p' et S' f1 f2 f3 f4 => ?_) (fun p' et S' f1 f2 f3 => ?_)
    · rw [et] at h
      exact h S' ⟨f1, f2, f3, fun j hj => by
        have : j = 0 := by have h' : j < 1 := hj; omega
        subst this
        exact f4⟩
    · rw [et] at h
      exact h S' ⟨f1, f2, f3, fun j hj => absurd hj (Nat.not_lt_zero _)⟩
  have a29 : ¬ (d < 4 ∧ isC t sz 33 p = true) → At 29 [.ref s, .int (nI d), .retAddr 0] [] n K S G P 0 := by
    intro c1
    refine go [66, 67, 68] 60 _ _ _ _ _ _ _ _ _ ?_
    refine ite_i (fun c => a68 c1 (fun w => ?_)) (fun c => ?_)
    · rw [le_i, t_4, nI_toInt (by omega)] at c
      omega
    rw [le_i, t_4, nI_toInt (by omega)] at c
    have d4 : d < 4 := by omega
    refine sv_go hs ?_
    refine m_takes_e (c := 40) rfl hs hS hp hle (by decide) (fun z1 z2 => ?_) (fun z => a68 c1 (fun w => z (isC_i.mp w.2)))
    have hc : isC t sz 40 p = true := isC_i.mpr ⟨z1, z2⟩
    have eP : pF t sz (psr t sz f) d p = (if (pE (psr t sz f) (d + 1) (p + 1)).1 = true ∧ isC t sz 41 (pE (psr t sz f) (d + 1) (p + 1)).2.1 = true then (true, (pE (psr t sz f) (d + 1) (p + 1)).2.1 + 1, (pE (psr t sz f) (d + 1) (p + 1)).2.2) else (false, (pE (psr t sz f) (d + 1) (p + 1)).2)) := by
      unfold pF
      rw [if_neg c1, if_pos ⟨d4, hc⟩]
    rw [eP] at h
    have rk := pE_ok (d := d + 1) (fun m d p hp => psr_ok (t := t) (sz := sz) f m d p hp) (show p + 1 ≤ sz from z1)
    obtain ⟨k1, k2, k3, k4⟩ := rk
    have e3 : D + (7 + 3 * (4 - d)) = D + (10 + 3 * (4 - (d + 1))) := by omega
    refine sv_go hs ?_
    rw [e3]
    refine hE D (d + 1) (p + 1) m _ _ _ (nI_1 d) (by omega) (TxC_fr (m := m) (FrS_at (fun b j hb => up2_o _ _ (by omega))) hS) (up2_s _ _ _ _) z1 ((up2_o _ _ (.inr (by decide))).trans hm) (by omega) (by omega) (fun S1 hC => ?_)
    have hC' := CR_at hC
    generalize pE (psr t sz f) (d + 1) (p + 1) = r at h hC hC' k1 k2 k3 k4
    obtain ⟨b, q, lc, lm⟩ := r
    have a67 : ∀ S' v, (v = 0 ∨ v = 1) → Q (some (.int v)) n K S' G P → At 67 [.ref s, .int (nI d), .retAddr 0] [.int v] n K S' G P 0 := by
      intro S' v hv hQ
      refine go [] 60 _ _ _ _ _ _ _ _ _ ?_
      exact ite_t hv hQ
    have a66 : ∀ S', Q (some (.int 0)) n K S' G P → At 66 [.ref s, .int (nI d), .retAddr 0] [] n K S' G P 0 := by
      intro S' hQ
      refine go [67] 60 _ _ _ _ _ _ _ _ _ ?_
      exact a67 S' 0 (.inl rfl) hQ
    cases b with
    | false =>
      rw [if_neg (fun w => by cases w.1)] at h
      exact a66 S1 (h S1 hC')
    | true =>
      refine sv_go hs ?_
      refine m_takes_f (c := 41) rfl hs (TxC_cr hC' hS) hC.2.1 k2 (by decide) (fun y1 y2 => ?_) (fun y => ?_)
      · rw [if_pos ⟨rfl, isC_i.mpr ⟨y1, y2⟩⟩] at h
        refine a67 _ 1 (.inr rfl) (h _ ⟨fun b j q1 q2 => (up2_o _ _ (by omega)).trans (hC'.1 b j q1 q2), up2_s _ _ _ _, (up2_o _ _ (.inr (by decide))).trans hC'.2.2.1, fun j hj => (up2_o _ _ (.inl (by omega))).trans (hC'.2.2.2 j hj)⟩)
      · rw [if_neg (fun w => y (isC_i.mp w.2))] at h
        exact a66 S1 (h S1 hC')
  refine go [29] 60 _ _ _ _ _ _ _ _ _ ?_
  refine ite_i (fun c => a29 (fun w => ?_)) (fun c => ?_)
  · rw [le_i, t_4, nI_toInt (by omega)] at c
    omega
  rw [le_i, t_4, nI_toInt (by omega)] at c
  have d4 : d < 4 := by omega
  refine sv_go hs ?_
  refine m_takes_e (c := 33) rfl hs hS hp hle (by decide) (fun z1 z2 => ?_) (fun z => a29 (fun w => z (isC_i.mp w.2)))
  have hc : isC t sz 33 p = true := isC_i.mpr ⟨z1, z2⟩
  have eP : pF t sz (psr t sz f) d p = ((psr t sz f 0 (d + 1) (p + 1)).1, (psr t sz f 0 (d + 1) (p + 1)).2.1, (psr t sz f 0 (d + 1) (p + 1)).2.2.1 ++ [0], (psr t sz f 0 (d + 1) (p + 1)).2.2.2 ++ (if (psr t sz f 0 (d + 1) (p + 1)).1 = true then [0] else [])) := by
    unfold pF
    rw [if_pos ⟨d4, hc⟩]
  rw [eP] at h
  obtain ⟨k1, k2, k3, k4⟩ := psr_ok (t := t) (sz := sz) f 0 (d + 1) (p + 1) z1
  have e3 : D + (7 + 3 * (4 - d)) = (D + 2) + (8 + 3 * (4 - (d + 1))) := by omega
  refine sv_go hs ?_
  rw [e3]
  refine hF (D + 2) (d + 1) (p + 1) m _ _ _ (nI_1 d) (by omega) (TxC_fr (m := m) (FrS_at (fun b j hb => up2_o _ _ (by omega))) hS) (up2_s _ _ _ _) z1 ((up2_o _ _ (.inr (by decide))).trans hm) (by omega) (by omega) (fun S1 hC => ?_)
  refine sv_go hs ?_
  refine m_addStep_d (c := 0) rfl hs hC.2.2.1 (by omega) ?_
  exact ite_t (b2i_or _) (h _ (CR_st (CR_at hC)))
end A
end

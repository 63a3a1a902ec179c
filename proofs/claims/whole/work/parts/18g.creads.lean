noncomputable section
/-! READS SINGLE, BOTH, EITHER of the component. -/
def CR (s m : Nat) (S : Mi) (r : PRs) (S' : Mi) : Prop := FrS s m S S' ∧ S' s 9 = nI r.2.1 ∧ S' s 5 = nI (m + r.2.2.1.length) ∧ ∀ j, j < r.2.2.1.length → S' (s + 3) (m + j) = stI0 (r.2.2.1.getD j 0)
theorem getD_l {l1 l2 : List Nat} {j : Nat} (h : j < l1.length) : (l1 ++ l2).getD j 0 = l1.getD j 0 := by
  rw [List.getD_eq_getElem?_getD, List.getD_eq_getElem?_getD, List.getElem?_append_left h]
theorem getD_r {l1 l2 : List Nat} {j : Nat} (h : l1.length ≤ j) : (l1 ++ l2).getD j 0 = l2.getD (j - l1.length) 0 := by
  rw [List.getD_eq_getElem?_getD, List.getD_eq_getElem?_getD, List.getElem?_append_right h]
theorem CR_at {s m : Nat} {S S' : Mi} {v : Int32} {r : PRs} (h : CR s m (up2 S s 9 v) r S') : CR s m S r S' := ⟨fun b j h1 h2 => (h.1 b j h1 h2).trans (up2_o _ _ (by omega)), h.2⟩
theorem CR_ap {s m : Nat} {S S1 S2 : Mi} {r q : PRs} {b : Bool} {x : List Nat} (h1 : CR s m S r S1) (h2 : CR s (m + r.2.2.1.length) S1 q S2) : CR s m S (b, q.2.1, r.2.2.1 ++ q.2.2.1, x) S2 := by
  obtain ⟨a1, a2, a3, a4⟩ := h1
  obtain ⟨b1, b2, b3, b4⟩ := h2
  refine ⟨a1.tr (by omega) b1, b2, ?_, fun j hj => ?_⟩
  · rw [b3]
    show nI _ = nI (m + (r.2.2.1 ++ q.2.2.1).length)
    rw [List.length_append, Nat.add_assoc]
  · show S2 (s + 3) (m + j) = stI0 ((r.2.2.1 ++ q.2.2.1).getD j 0)
    have hj' : j < (r.2.2.1 ++ q.2.2.1).length := hj
    rw [List.length_append] at hj'
    by_cases e : j < r.2.2.1.length
    · rw [getD_l e, b1 _ _ (by omega) (by omega)]
      exact a4 j e
    · rw [getD_r (by omega)]
      have := b4 (j - r.2.2.1.length) (by omega)
      rw [show m + r.2.2.1.length + (j - r.2.2.1.length) = m + j by omega] at this
      exact this
theorem CR_st {s m c : Nat} {S S1 : Mi} {r : PRs} {b : Bool} {x : List Nat} (h : CR s m S r S1) : CR s m S (b, r.2.1, r.2.2.1 ++ [c], x) (up2 (up2 S1 (s + 3) (m + r.2.2.1.length) (stI0 c)) s 5 (nI (m + r.2.2.1.length + 1))) := by
  refine CR_ap (q := (b, r.2.1, [c], [])) h ⟨fun b j h1 h2 => ?_, ?_, up2_s _ _ _ _, fun j hj => ?_⟩
  · rw [up2_o _ _ (by omega), up2_o _ _ (by omega)]
  · rw [up2_o _ _ (.inr (by decide)), up2_o _ _ (.inl (by omega))]
    exact h.2.1
  · have : j = 0 := by have h' : j < 1 := hj; omega
    subst this
    show up2 (up2 S1 (s + 3) (m + r.2.2.1.length) (stI0 c)) s 5 (nI (m + r.2.2.1.length + 1)) (s + 3) (m + r.2.2.1.length) = stI0 c
    rw [up2_o _ _ (.inl (by omega)), up2_s]
theorem CR_0 {s m p : Nat} {S : Mi} {b : Bool} {x : List Nat} (h1 : S s 9 = nI p) (h2 : S s 5 = nI m) : CR s m S (b, p, [], x) S := ⟨FrS.rf _ _ _, h1, h2, fun j hj => absurd hj (Nat.not_lt_zero _)⟩
theorem TxC_cr {s m : Nat} {S S' : Mi} {r : PRs} {t : Nat → Nat} {sz : Nat} (h : CR s m S r S') (hS : TxC s S t sz) : TxC s S' t sz := TxC_fr h.1 hS
/-- a method's contract: j its number, h its depth, ps what it reads -/
def RC1 (l : Launch) (L : Nat) (xs : Nat → Int32) (n : Nat) (K : Mk) (G : Ml) (P : Mr) (s : Nat) (t : Nat → Nat) (sz f j h : Nat) (ps : Nat → Nat → PRs) : Prop := ∀ (D d p m : Nat) (vd : Int32) (S : Mi) (Q : QT), vd = nI d → d ≤ 4 → TxC s S t sz → S s 9 = nI p → p ≤ sz → S s 5 = nI m → m ≤ p → sz - p < f → (∀ S', CR s m S (ps d p) S' → Q (some (.int (b2i (ps d p).1))) n K S' G P) → Ok l L xs T1 (D + (h + 3 * (4 - d))) j 0 [.ref s, .int vd] n K S G P Q
section A
variable {l : Launch} {L : Nat} {xs : Nat → Int32} {D : Nat} {n : Nat} {K : Mk} {S : Mi} {G : Ml} {P : Mr} {Q : QT} {s p sz m f : Nat} {t : Nat → Nat}
set_option maxRecDepth 20000
theorem pTT_f {c k : Nat} {one rest : Nat → PRs} (h : ¬ isC t sz c p = true) : pTT t sz c k one rest p = (true, p, [], []) := if_neg h
theorem pTT_t0 {c k : Nat} {one rest : Nat → PRs} (h : isC t sz c p = true) (h2 : ¬ (one (p + 1)).1 = true) : pTT t sz c k one rest p = (false, (one (p + 1)).2.1, (one (p + 1)).2.2.1 ++ [k], (one (p + 1)).2.2.2) := by
  unfold pTT
  rw [if_pos h, if_neg h2]
theorem pTT_t1 {c k : Nat} {one rest : Nat → PRs} (h : isC t sz c p = true) (h2 : (one (p + 1)).1 = true) : pTT t sz c k one rest p = ((rest (one (p + 1)).2.1).1, (rest (one (p + 1)).2.1).2.1, (one (p + 1)).2.2.1 ++ [k] ++ (rest (one (p + 1)).2.1).2.2.1, (one (p + 1)).2.2.2 ++ (rest (one (p + 1)).2.1).2.2.2 ++ (if (rest (one (p + 1)).2.1).1 = true then [k] else [])) := by
  unfold pTT
  rw [if_pos h, if_pos h2]
theorem m_takes_d {d h : Nat} {c : Nat} {x : Int32} (ex : x = nI c) (hs : SD s) (hS : TxC s S t sz) (hp : S s 9 = nI p) (hle : p ≤ sz) (hc : c < 128) (h1 : p < sz → t p = c → Q (some (.int 1)) n K (up2 S s 9 (nI (p + 1))) G P) (h0 : ¬ (p < sz ∧ t p = c) → Q (some (.int 0)) n K S G P) : Ok l L xs T1 (D + (h + 1 + d)) jX7_takes 0 [.ref s, .int x] n K S G P Q := by
  rw [show D + (h + 1 + d) = (D + h + d) + 1 by omega]
  exact m_takes ex hs hS hp hle hc h1 h0
theorem m_addStep_d {d h m c : Nat} {x : Int32} (ex : x = stI0 c) (hs : SD s) (hm : S s 5 = nI m) (hm1 : m < 100) (h' : Q none n K (up2 (up2 S (s + 3) m (stI0 c)) s 5 (nI (m + 1))) G P) : Ok l L xs T1 (D + (h + 1 + d)) jX7_addStep 0 [.ref s, .int x] n K S G P Q := by
  rw [show D + (h + 1 + d) = (D + h + d) + 1 by omega]
  exact m_addStep ex hs hm hm1 h'
theorem m_readsBoth (hs : SD s) (hF : ∀ f', f' ≤ f → RC1 l L xs n K G P s t sz f' jX7_readsSingle 8 (psr t sz f' 0)) : RC1 l L xs n K G P s t sz f jX7_readsBoth 9 (pT (psr t sz f)) := by
  intro D d p m vd S Q ed hd hS hp hle hm hmp hf h
  subst ed
  have eD : D + (9 + 3 * (4 - d)) = (D + (8 + 3 * (4 - d))) + 1 := by omega
  rw [eD]
  refine I_X7_readsBoth (by decide) (fun At go => ?_)
  have sz100 := hS.1
  have a45 : ∀ S' b x3, Q (some (.int (b2i b))) n K S' G P → At 45 [.ref s, .int (nI d), .int (b2i b), x3] [] n K S' G P 0 := by
    intro S' b x3 hQ
    refine go [] 60 _ _ _ _ _ _ _ _ _ ?_
    exact ite_t (b2i_or b) hQ
  have a8f : ∀ S' vi, Q (some (.int 0)) n K S' G P → At 8 [.ref s, .int (nI d), .int 0, .int vi] [] n K S' G P 0 := by
    intro S' vi hQ
    refine go [8, 45] 60 _ _ _ _ _ _ _ _ _ ?_
    refine ite_i (fun _ => a45 S' false _ hQ) (fun _ => a45 S' false _ hQ)
  have loop : ∀ f', f' ≤ f → ∀ q m' i vi S', TxC s S' t sz → S' s 9 = nI q → q ≤ sz → S' s 5 = nI m' → m' ≤ q → sz - q < f' → vi = nI i → i ≤ q → (∀ S'', CR s m' S' (psr t sz f' 1 d q) S'' → Q (some (.int (b2i (psr t sz f' 1 d q).1))) n K S'' G P) → At 8 [.ref s, .int (nI d), .int 1, .int vi] [] n K S' G P 0 := by
    intro f'
    induction f' with
    | zero => intro _ q m' i vi S' _ _ _ _ _ hz; omega
    | succ f' ih =>
      intro hf' q m' i vi S' hS' hq hqs hm' hmq hz ev hi hQ
      subst ev
      have e : psr t sz (f' + 1) 1 d q = pTT t sz 38 1 (psr t sz f' 0 d) (psr t sz f' 1 d) q := rfl
      rw [e] at hQ
      have no : ¬ isC t sz 38 q = true → Q (some (.int 1)) n K S' G P := fun c => by
        rw [pTT_f c] at hQ
        exact hQ S' (CR_0 hq hm')
      refine go [8, 45] 60 _ _ _ _ _ _ _ _ _ ?_
      refine ite_i (fun c => ?_) (fun c => ?_)
      · rw [le_i, t_100, nI_toInt (by omega)] at c
        exact a45 S' true _ (no (fun z => by rw [isC_i] at z; omega))
      · rw [le_i, t_100, nI_toInt (by omega)] at c
        refine sv_go hs ?_
        refine m_takes_d (c := 38) rfl hs hS' hq hqs (by decide) (fun z1 z2 => ?_) (fun z => ?_)
        · have hc : isC t sz 38 q = true := isC_i.mpr ⟨z1, z2⟩
          have rk := psr_ok (t := t) (sz := sz) f' 0 d (q + 1) z1
          obtain ⟨k1, k2, k3, k4⟩ := rk
          refine sv_go hs ?_
          refine hF f' (by omega) D d (q + 1) m' _ _ _ rfl hd (TxC_fr (m := m') (FrS_at (fun b j hb => up2_o _ _ (by omega))) hS') (up2_s _ _ _ _) z1 ((up2_o _ _ (.inr (by decide))).trans hm') (by omega) (by omega) (fun S3 hC => ?_)
          have hC' := CR_at hC
          refine sv_go hs ?_
          refine m_addStep_d (c := 1) rfl hs hC.2.2.1 (by omega) ?_
          have cs := CR_st (c := 1) (b := false) (x := (psr t sz f' 0 d (q + 1)).2.2.2) hC'
          cases hr : (psr t sz f' 0 d (q + 1)).1 with
          | false =>
            rw [pTT_t0 hc (by rw [hr]; decide)] at hQ
            exact a8f _ _ (hQ _ cs)
          | true =>
            rw [pTT_t1 hc hr] at hQ
            have cs2 : CR s m' S' (true, (psr t sz f' 0 d (q + 1)).2.1, (psr t sz f' 0 d (q + 1)).2.2.1 ++ [1], []) _ := CR_st (c := 1) (b := true) (x := []) hC'
            have el : m' + (psr t sz f' 0 d (q + 1)).2.2.1.length + 1 = m' + ((psr t sz f' 0 d (q + 1)).2.2.1 ++ [1]).length := by rw [List.length_append]; rfl
            refine ih (by omega) (psr t sz f' 0 d (q + 1)).2.1 (m' + ((psr t sz f' 0 d (q + 1)).2.2.1 ++ [1]).length) (i + 1) _ _ (TxC_cr cs2 hS') cs2.2.1 k2 cs2.2.2.1 ?_ (by omega) (nI_1 i) (by omega) (fun S5 h5 => ?_)
            · rw [← el]; omega
            · exact hQ S5 (CR_ap cs2 h5)
        · exact a45 S' true _ (no (fun w => z (isC_i.mp w)))
  have r0 := psr_ok (t := t) (sz := sz) f 0 d p hle
  obtain ⟨k1, k2, k3, k4⟩ := r0
  refine go [8] 60 _ _ _ _ _ _ _ _ _ ?_
  refine sv_go hs ?_
  refine hF f (Nat.le_refl _) D d p m _ _ _ rfl hd hS hp hle hm hmp hf (fun S1 hC => ?_)
  cases hr : (psr t sz f 0 d p).1 with
  | false =>
    have e : pT (psr t sz f) d p = psr t sz f 0 d p := if_neg (by rw [hr]; decide)
    rw [e, hr] at h
    exact a8f S1 0 (h S1 hC)
  | true =>
    have e : pT (psr t sz f) d p = ((psr t sz f 1 d (psr t sz f 0 d p).2.1).1, (psr t sz f 1 d (psr t sz f 0 d p).2.1).2.1, (psr t sz f 0 d p).2.2.1 ++ (psr t sz f 1 d (psr t sz f 0 d p).2.1).2.2.1, (psr t sz f 0 d p).2.2.2 ++ (psr t sz f 1 d (psr t sz f 0 d p).2.1).2.2.2) := if_pos hr
    rw [e] at h
    exact loop f (Nat.le_refl _) (psr t sz f 0 d p).2.1 (m + (psr t sz f 0 d p).2.2.1.length) 0 0 S1 (TxC_cr hC hS) hC.2.1 k2 hC.2.2.1 (by omega) (by omega) rfl (by omega) (fun S'' hC2 => h S'' (CR_ap hC hC2))
end A
end

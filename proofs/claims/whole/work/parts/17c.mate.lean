noncomputable section
/-! FIRST MATE, MATE OF of the component. -/
section A
variable {l : Launch} {L : Nat} {xs : Nat → Int32} {D : Nat} {n : Nat} {K : Mk} {S : Mi} {G : Ml} {P : Mr} {Q : QT} {f : Nat → Nat → Bool} {np : Nat}
set_option maxRecDepth 20000
theorem optI_t {c : Nat → Bool} {m j : Nat} (h : c j = true) : fsJ c (m + 1) j = some j := if_pos h
theorem optI_f {c : Nat → Bool} {m j : Nat} (h : ¬ c j = true) : fsJ c (m + 1) j = fsJ c m (j + 1) := if_neg h
theorem m_firstMate {p s : Nat} (h6 : np ≤ 6) (hn : S 33 0 = nI np) (hL : LfOk f np S) (hT : TbOk f np (2 ^ np) S) (hs : s < 2 ^ np) (hp : p < np) (hlow : ∀ i, i < p → s.testBit i = false) (h : Q (some (.int (optI (fmJ f (np - (p + 1)) p (fun j => s.testBit j))))) n K S G P) : Ok l L xs T1 (D + 2) jX11_firstMate 0 [.ref 32, .int (nI p), .int (nI s)] n K S G P Q := by
  refine I_X11_firstMate (by decide) (fun At go => ?_)
  have p64 := (ev_b np h6).1
  have s64 : s < 64 := by omega
  obtain ⟨t, t64, et, tb⟩ := hL p hp
  have q64 : clr s p < 64 := clr_l s s64 p (by omega)
  have e71 : S 71 (nI p).toNatClampNeg = nI t := by rw [nI_clamp (by omega)]; exact et
  have bits : ∀ r, r < 64 → ∀ j, j < 6 → ∀ i, i < 6 → (clr r j).testBit i = (r.testBit i && !decide (i = j)) := clr_b
  have mqj : ∀ j, p < j → j < np → mxF f np 0 (fun i => (clr (clr s p) j).testBit i) = mxF f (np - (p + 1)) (p + 1) (er (fun j => s.testBit j) j) := fun j h1 h2 => by
    rw [mx_at (p := p + 1) (by omega) (fun i hi => by
      rw [bits _ q64 j (by omega) i (by omega), bits s s64 p (by omega) i (by omega)]
      by_cases e : i = p
      · rw [decide_eq_true e]; simp
      · rw [hlow i (by omega)]; rfl)]
    exact mxF_congr _ _ _ _ (fun i h3 h4 => by
      rw [bits _ q64 j (by omega) i (by omega), bits s s64 p (by omega) i (by omega), decide_eq_false (show ¬ i = p by omega)]; unfold er; simp)
  have es : S 72 (nI s).toNatClampNeg = nI (mxF f (np - (p + 1) + 1) p (fun j => s.testBit j)) := by
    rw [nI_clamp (by omega), hT s hs, mx_at (p := p) (by omega) hlow, show np - p = np - (p + 1) + 1 by omega]
  have loop : ∀ m j vj vo, j + m = np → p < j → vj = nI j → vo = nI (clr s p) → Q (some (.int (optI (fsJ (fun j => (s.testBit j && f p j) && decide (1 + mxF f (np - (p + 1)) (p + 1) (er (fun j => s.testBit j) j) = mxF f (np - (p + 1) + 1) p (fun j => s.testBit j))) m j)))) n K S G P → At 13 [.ref 32, .int (nI p), .int (nI s), .int vo, .int vj] [] n K S G P 0 := by
    intro m
    induction m with
    | zero =>
      intro j vj vo hj hpj ev eo hQ
      subst ev
      refine go [13, 68, 74] 60 _ _ _ _ _ _ _ _ _ ?_
      refine ite_t (by rw [hn, le_i, nI_toInt (by omega), nI_toInt (by omega)]; omega) ?_
      have a74 : At 74 [.ref 32, .int (nI p), .int (nI s), .int vo, .int (nI j)] [] n K S G P 0 := by
        refine go [] 60 _ _ _ _ _ _ _ _ _ ?_
        exact hQ
      exact a74
    | succ m ih =>
      intro j vj vo hj hpj ev eo hQ
      subst ev
      subst eo
      have ex : nI (clr s p) &&& S 71 (nI p).toNatClampNeg = nI (clr s p &&& t) := by rw [e71, and_i _ q64 _ t64]
      have eb : (clr s p &&& t).testBit j = (s.testBit j && f p j) := by
        rw [Nat.testBit_and, bits s s64 p (by omega) j (by omega), tb j hpj (by omega), decide_eq_false (by omega)]
        simp
      have ehb : hb (nI (clr s p) &&& S 71 (nI p).toNatClampNeg) (nI j) ↔ (s.testBit j && f p j) = true := by
        rw [ex, hb_s (by have := @Nat.and_le_left (clr s p) t; omega) (by omega), eb]
      have a68 : ¬ ((s.testBit j && f p j) && decide (1 + mxF f (np - (p + 1)) (p + 1) (er (fun j => s.testBit j) j) = mxF f (np - (p + 1) + 1) p (fun j => s.testBit j))) = true → At 68 [.ref 32, .int (nI p), .int (nI s), .int (nI (clr s p)), .int (nI j)] [] n K S G P 0 := by
        intro c
        rw [optI_f c] at hQ
        refine go [13] 60 _ _ _ _ _ _ _ _ _ ?_
        exact ih (j + 1) _ _ (by omega) (by omega) (nI_1 j) rfl hQ
      refine go [13, 68, 74] 60 _ _ _ _ _ _ _ _ _ ?_
      refine ite_f (by rw [hn, le_i, nI_toInt (by omega), nI_toInt (by omega)]; omega) ?_
      refine ite_t (ixB_nI (by omega) (by decide)) ?_
      refine m_hasBit (fun c => ?_) (fun c => ?_)
      · have c' := ehb.mp c
        have er1 : nI (clr s p) &&& (((1 : Int32) <<< (nI j &&& 31)) ^^^ -1) = nI (clr (clr s p) j) := clr_i _ q64 _ (by omega)
        have qj : clr (clr s p) j < 2 ^ np := by have := clr_le (clr s p) j; have := clr_le s p; omega
        have xq : ixB (nI (clr s p) &&& (((1 : Int32) <<< (nI j &&& 31)) ^^^ -1)) 64 = true := by rw [er1]; exact ixB_nI (by omega) (by decide)
        have eq : 1 + S 72 (nI (clr s p) &&& (((1 : Int32) <<< (nI j &&& 31)) ^^^ -1)).toNatClampNeg = nI (1 + mxF f (np - (p + 1)) (p + 1) (er (fun j => s.testBit j) j)) := by
          rw [er1, nI_clamp (by omega), hT _ qj, mqj j hpj (by omega), show (1 : Int32) = nI 1 from rfl, nI_add]
        have le := mxF_le (f := f) (np - (p + 1)) (p + 1) (er (fun j => s.testBit j) j)
        have le2 := mxF_le (f := f) (np - (p + 1) + 1) p (fun j => s.testBit j)
        refine ite_t xq ?_
        refine ite_t (ixB_nI (by omega) (by decide)) ?_
        refine ite_i (fun z => ?_) (fun z => a68 (fun w => ?_))
        · have z' : 1 + S 72 (nI (clr s p) &&& (((1 : Int32) <<< (nI j &&& 31)) ^^^ -1)).toNatClampNeg = S 72 (nI s).toNatClampNeg := z
          rw [eq, es, eq_i, nI_toInt (by omega), nI_toInt (by omega)] at z'
          rw [optI_t (by rw [c', decide_eq_true (by omega)]; rfl)] at hQ
          exact hQ
        · rw [Bool.and_eq_true, decide_eq_true_eq] at w
          refine z ?_
          show 1 + S 72 (nI (clr s p) &&& (((1 : Int32) <<< (nI j &&& 31)) ^^^ -1)).toNatClampNeg = S 72 (nI s).toNatClampNeg
          rw [eq, es, w.2]
      · refine a68 (fun w => c (ehb.mpr ?_))
        rw [Bool.and_eq_true] at w
        exact w.1
  refine go [13] 60 _ _ _ _ _ _ _ _ _ ?_
  exact loop (np - (p + 1)) (p + 1) _ _ (by omega) (by omega) (nI_1 p) (clr_i s s64 p (by omega)) h
theorem m_mateOf {x : Nat} (h6 : np ≤ 6) (hx : x < np) (hn : S 33 0 = nI np) (hL : LfOk f np S) (hT : TbOk f np (2 ^ np) S) (h : Q (some (.int (mtF f x np 0 (fun j => (2 ^ np - 1).testBit j)))) n K S G P) : Ok l L xs T1 (D + 3) jX11_mateOf 0 [.ref 32, .int (nI x)] n K S G P Q := by
  refine I_X11_mateOf (by decide) (fun At go => ?_)
  have p64 := (ev_b np h6).1
  have pp : 0 < 2 ^ np := Nat.two_pow_pos np
  have loop : ∀ m p s vs vp x4, p + m = np → s < 2 ^ np → vs = nI s → vp = nI p → (∀ i, i < p → s.testBit i = false) → Q (some (.int (mtF f x m p (fun j => s.testBit j)))) n K S G P → At 7 [.ref 32, .int (nI x), .int vs, .int vp, x4] [] n K S G P 0 := by
    intro m
    induction m with
    | zero =>
      intro p s vs vp x4 hp hs es ep hlow hQ
      subst ep
      have a84 : At 84 [.ref 32, .int (nI x), .int vs, .int (nI p), x4] [] n K S G P 0 := by
        refine go [] 60 _ _ _ _ _ _ _ _ _ ?_
        exact hQ
      refine go [7, 78, 84] 60 _ _ _ _ _ _ _ _ _ ?_
      refine ite_t (by rw [hn, le_i, nI_toInt (by omega), nI_toInt (by omega)]; omega) ?_
      exact a84
    | succ m ih =>
      intro p s vs vp x4 hp hs es ep hlow hQ
      subst ep
      subst es
      have s64 : s < 64 := by omega
      have em : np - (p + 1) = m := by omega
      have bits : ∀ r, r < 64 → ∀ j, j < 6 → ∀ i, i < 6 → (clr r j).testBit i = (r.testBit i && !decide (i = j)) := clr_b
      have a78 : ∀ s' vs' x4', vs' = nI s' → s' < 2 ^ np → (∀ i, i < p + 1 → s'.testBit i = false) → Q (some (.int (mtF f x m (p + 1) (fun j => s'.testBit j)))) n K S G P → At 78 [.ref 32, .int (nI x), .int vs', .int (nI p), x4'] [] n K S G P 0 := by
        intro s' vs' x4' e1 e2 e3 e4
        refine go [7] 60 _ _ _ _ _ _ _ _ _ ?_
        exact ih (p + 1) s' _ _ _ (by omega) e2 e1 (nI_1 p) e3 e4
      refine go [7, 42, 78, 84] 60 _ _ _ _ _ _ _ _ _ ?_
      refine ite_f (by rw [hn, le_i, nI_toInt (by omega), nI_toInt (by omega)]; omega) ?_
      refine m_hasBit (fun c => ?_) (fun c => ?_)
      · rw [hb_s s64 (by omega)] at c
        have hQ' : Q (some (.int (if p = x then optI (fmJ f m p (fun j => s.testBit j)) else if optI (fmJ f m p (fun j => s.testBit j)) = nI x then nI p else mtF f x m (p + 1) (erO (fun j => s.testBit j) (fmJ f m p (fun j => s.testBit j)))))) n K S G P := by
          have e : mtF f x (m + 1) p (fun j => s.testBit j) = (if p = x then optI (fmJ f m p (fun j => s.testBit j)) else if optI (fmJ f m p (fun j => s.testBit j)) = nI x then nI p else mtF f x m (p + 1) (erO (fun j => s.testBit j) (fmJ f m p (fun j => s.testBit j)))) := if_pos c
          rw [← e]
          exact hQ
        refine m_firstMate h6 hn hL hT hs (by omega) hlow ?_
        rw [em]
        have cl1 : nI s &&& (((1 : Int32) <<< (nI p &&& 31)) ^^^ -1) = nI (clr s p) := clr_i _ s64 _ (by omega)
        have q64 : clr s p < 64 := clr_l s s64 p (by omega)
        have low1 : ∀ i, i < p + 1 → (clr s p).testBit i = false := fun i hi => by
          rw [bits s s64 p (by omega) i (by omega)]
          by_cases e : i = p
          · rw [decide_eq_true e]; simp
          · rw [hlow i (by omega)]; rfl
        have a42 : ∀ v4, ¬ p = x → v4 = optI (fmJ f m p (fun j => s.testBit j)) → At 42 [.ref 32, .int (nI x), .int (nI s), .int (nI p), .int v4] [] n K S G P 0 := by
          intro v4 hne e4
          rw [if_neg hne, ← e4] at hQ'
          have a77 : ∀ v, Q (some (.int (mtF f x m (p + 1) (erO (fun j => s.testBit j) (fmJ f m p (fun j => s.testBit j)))))) n K S G P → (∃ s', v = nI s' ∧ s' < 2 ^ np ∧ (∀ i, i < p + 1 → s'.testBit i = false) ∧ ∀ i, p + 1 ≤ i → i < np → s'.testBit i = erO (fun j => s.testBit j) (fmJ f m p (fun j => s.testBit j)) i) → ∀ vs', At 77 [.ref 32, .int (nI x), .int vs', .int (nI p), .int v4] [.int v] n K S G P 0 := by
            intro v hQ2 ⟨s', e1, e2, e3, e5⟩ vs'
            refine go [78] 60 _ _ _ _ _ _ _ _ _ ?_
            refine a78 s' v _ e1 e2 e3 ?_
            rw [mtF_congr m (p + 1) _ (erO (fun j => s.testBit j) (fmJ f m p (fun j => s.testBit j))) (fun i h1 h2 => e5 i h1 (by omega))]
            exact hQ2
          have a50 : ¬ v4 = nI x → At 50 [.ref 32, .int (nI x), .int (nI s), .int (nI p), .int v4] [] n K S G P 0 := by
            intro c4
            rw [if_neg c4] at hQ'
            refine go [77] 60 _ _ _ _ _ _ _ _ _ ?_
            cases hj : fmJ f m p (fun j => s.testBit j) with
            | none =>
              rw [hj] at e4
              refine ite_t e4 ?_
              refine a77 _ hQ' ⟨clr s p, cl1, by have := clr_le s p; omega, low1, fun i h1 h2 => ?_⟩ _
              rw [hj, bits s s64 p (by omega) i (by omega), decide_eq_false (by omega)]
              simp [erO]
            | some j =>
              rw [hj] at e4
              have e4' : v4 = nI j := e4
              obtain ⟨g1, g2, g3⟩ := fsJ_some _ _ _ hj
              have cl2 : (nI s &&& (((1 : Int32) <<< (nI p &&& 31)) ^^^ -1)) &&& (((1 : Int32) <<< (v4 &&& 31)) ^^^ -1) = nI (clr (clr s p) j) := by rw [e4', cl1, clr_i _ q64 _ (by omega)]
              refine ite_f (by rw [e4']; exact nI_n5 j (by omega)) ?_
              refine a77 _ hQ' ⟨clr (clr s p) j, cl2, by have := clr_le s p; have := clr_le (clr s p) j; omega, fun i hi => ?_, fun i h1 h2 => ?_⟩ _
              · rw [bits _ q64 j (by omega) i (by omega), low1 i hi]; rfl
              · rw [hj, bits _ q64 j (by omega) i (by omega), bits s s64 p (by omega) i (by omega), decide_eq_false (show ¬ i = p by omega)]
                simp [erO, er]
          refine go [50] 60 _ _ _ _ _ _ _ _ _ ?_
          refine ite_i (fun c4 => ?_) (fun c4 => a50 c4)
          rw [if_pos c4] at hQ'
          exact hQ'
        refine ite_i (fun z => ?_) (fun z => a42 _ (fun e => z (by rw [e])) rfl)
        rw [eq_i, nI_toInt (by omega), nI_toInt (by omega)] at z
        rw [if_pos (by omega)] at hQ'
        exact hQ'
      · rw [hb_s s64 (by omega)] at c
        have e : mtF f x (m + 1) p (fun j => s.testBit j) = mtF f x m (p + 1) (fun j => s.testBit j) := if_neg c
        rw [e] at hQ
        refine a78 s _ _ rfl hs (fun i hi => ?_) hQ
        by_cases e : i = p
        · rw [e]; simpa using c
        · exact hlow i (by omega)
  refine go [7] 60 _ _ _ _ _ _ _ _ _ ?_
  refine m_everybody hn h6 ?_
  exact loop np 0 (2 ^ np - 1) _ _ _ (by omega) (by omega) rfl rfl (fun i hi => absurd hi (by omega)) h
end A
end

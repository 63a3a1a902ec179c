noncomputable section
/-! MOST PAIRS of the component. -/
def clr (s j : Nat) : Nat := if s.testBit j = true then s - 2 ^ j else s
theorem clr_i : ∀ s, s < 64 → ∀ j, j < 6 → nI s &&& (((1 : Int32) <<< (nI j &&& 31)) ^^^ -1) = nI (clr s j) := by decide +kernel
theorem clr_l : ∀ s, s < 64 → ∀ j, j < 6 → clr s j < 64 := by decide +kernel
theorem clr_le (s j : Nat) : clr s j ≤ s := by
  unfold clr
  split
  · exact Nat.sub_le _ _
  · exact Nat.le_refl _
theorem clr_lt {s j : Nat} (h : s.testBit j = true) : clr s j < s := by
  unfold clr
  rw [if_pos h]
  have h1 : 0 < 2 ^ j := Nat.two_pow_pos j
  have h2 : 2 ^ j ≤ s := Nat.ge_two_pow_of_testBit h
  omega
theorem clr_b : ∀ s, s < 64 → ∀ j, j < 6 → ∀ i, i < 6 → (clr s j).testBit i = (s.testBit i && !decide (i = j)) := by decide +kernel
theorem and_i : ∀ s, s < 64 → ∀ t, t < 64 → nI s &&& nI t = nI (s &&& t) := by decide +kernel
theorem hb_t : ∀ s, s < 64 → ∀ j, j < 10 → decide ((nI s >>> (nI j &&& 31)) &&& 1 ≠ 0) = s.testBit j := by decide +kernel
theorem hb_s {s j : Nat} (hs : s < 64) (hj : j < 10) : hb (nI s) (nI j) ↔ s.testBit j = true := by
  rw [← hb_t s hs j hj, decide_eq_true_eq]
  rfl
theorem or_i : ∀ s, s < 64 → ∀ j, j < 6 → nI s ||| ((1 : Int32) <<< (nI j &&& 31)) = nI (s ||| 2 ^ j) ∧ s ||| 2 ^ j < 64 := by decide +kernel
theorem or_b : ∀ s, s < 64 → ∀ j, j < 6 → ∀ i, i < 6 → (s ||| 2 ^ j).testBit i = (s.testBit i || decide (i = j)) := by decide +kernel
theorem ev_b : ∀ np, np ≤ 6 → 2 ^ np ≤ 64 ∧ ∀ i, i < 6 → (2 ^ np - 1).testBit i = decide (i < np) := by decide +kernel
theorem hi_b : ∀ np, np ≤ 6 → ∀ s, s < 2 ^ np → ∀ i, i < 10 → s.testBit i = true → i < np := by
  intro np hn s hs i _ hb
  refine Classical.byContradiction (fun z => ?_)
  have h2 : 2 ^ i ≤ s := Nat.ge_two_pow_of_testBit hb
  have h3 : 2 ^ np ≤ 2 ^ i := Nat.pow_le_pow_right (by decide) (by omega)
  omega
theorem zr_b : ∀ s, s < 64 → (∀ i, i < 10 → s.testBit i = false) → s = 0 := by
  intro s hs h
  refine Nat.eq_of_testBit_eq (fun i => ?_)
  rw [Nat.zero_testBit]
  by_cases hi : i < 10
  · exact h i hi
  · cases e : s.testBit i with
    | false => rfl
    | true =>
      have h2 : 2 ^ i ≤ s := Nat.ge_two_pow_of_testBit e
      have h3 : 2 ^ 10 ≤ 2 ^ i := Nat.pow_le_pow_right (by decide) (by omega)
      omega
theorem lpM_le {c : Nat → Bool} {v : Nat → Nat} {B : Nat} (hv : ∀ i, v i ≤ B) : ∀ m j acc, acc ≤ B → lpM c v m j acc ≤ B := by
  intro m
  induction m with
  | zero => intro j acc h; exact h
  | succ m ih =>
    intro j acc h
    refine ih _ _ ?_
    have := hv j
    split <;> omega
theorem mxF_le {f : Nat → Nat → Bool} : ∀ k p av, mxF f k p av ≤ k := by
  intro k
  induction k with
  | zero => intro p av; exact Nat.le_refl _
  | succ k ih =>
    intro p av
    show (if av p = true then _ else _) ≤ _
    split
    · exact lpM_le (fun i => by have := ih (p + 1) (er av i); omega) _ _ _ (by have := ih (p + 1) av; omega)
    · have := ih (p + 1) av; omega
theorem mtF_congr {f : Nat → Nat → Bool} {x : Nat} : ∀ k p av av', (∀ i, p ≤ i → i < p + k → av i = av' i) → mtF f x k p av = mtF f x k p av' := by
  intro k
  induction k with
  | zero => intro p av av' _; rfl
  | succ k ih =>
    intro p av av' h
    have e0 := h p (Nat.le_refl _) (by omega)
    show (if av p = true then (if p = x then optI (fmJ f k p av) else if optI (fmJ f k p av) = nI x then nI p else mtF f x k (p + 1) (erO av (fmJ f k p av))) else mtF f x k (p + 1) av) = (if av' p = true then (if p = x then optI (fmJ f k p av') else if optI (fmJ f k p av') = nI x then nI p else mtF f x k (p + 1) (erO av' (fmJ f k p av'))) else mtF f x k (p + 1) av')
    rw [e0, fmJ_congr h, ih (p + 1) av av' (fun i h1 h2 => h i (by omega) (by omega)), ih (p + 1) (erO av (fmJ f k p av')) (erO av' (fmJ f k p av')) (fun i h1 h2 => by
      cases fmJ f k p av' with
      | none => exact h i (by omega) (by omega)
      | some j =>
        show er av j i = er av' j i
        unfold er
        rw [h i (by omega) (by omega)])]
def LfOk (f : Nat → Nat → Bool) (np : Nat) (S : Mi) : Prop := ∀ i, i < np → ∃ t, t < 64 ∧ S 71 i = nI t ∧ ∀ j, i < j → j < np → t.testBit j = f i j
def TbOk (f : Nat → Nat → Bool) (np s : Nat) (S : Mi) : Prop := ∀ r, r < s → S 72 r = nI (mxF f np 0 (fun j => r.testBit j))
/-- what a set has, from its first bit on -/
theorem mx_at {f : Nat → Nat → Bool} {np p s : Nat} (hp : p ≤ np) (h : ∀ i, i < p → s.testBit i = false) : mxF f np 0 (fun j => s.testBit j) = mxF f (np - p) p (fun j => s.testBit j) := by
  have := mxF_skip (f := f) (av := fun j => s.testBit j) p 0 (np - p) (fun i _ h2 => h i (by omega))
  rw [show p + (np - p) = np by omega, Nat.zero_add] at this
  exact this
section A
variable {l : Launch} {L : Nat} {xs : Nat → Int32} {D : Nat} {n : Nat} {K : Mk} {S : Mi} {G : Ml} {P : Mr} {Q : QT} {f : Nat → Nat → Bool} {np : Nat}
set_option maxRecDepth 20000
theorem m_fmp (h6 : np ≤ 6) (hn : S 33 0 = nI np) (hL : LfOk f np S) (h : ∀ S', (∀ b j, b ≠ 72 → S' b j = S b j) → TbOk f np (2 ^ np) S' → Q none n K S' G P) : Ok l L xs T1 (D + 3) jX11_findMostPairs 0 [.ref 32] n K S G P Q := by
  refine I_X11_findMostPairs (by decide) (fun At go => ?_)
  have p64 := (ev_b np h6).1
  have pp : 0 < 2 ^ np := Nat.two_pow_pos np
  have loop : ∀ m s vs S' x2 x3 x4 x5, s + m = 2 ^ np → 0 < s → vs = nI s → (∀ b j, b ≠ 72 → S' b j = S b j) → TbOk f np s S' → At 9 [.ref 32, .int vs, x2, x3, x4, x5] [] n K S' G P 0 := by
    intro m
    induction m with
    | zero =>
      intro s vs S' x2 x3 x4 x5 hs h0 ev f1 f2
      subst ev
      have es : s = 2 ^ np := by omega
      rw [es] at f2
      have a113 : At 113 [.ref 32, .int (nI s), x2, x3, x4, x5] [] n K S' G P 0 := by
        refine go [] 60 _ _ _ _ _ _ _ _ _ ?_
        exact h S' f1 f2
      refine go [9, 113] 60 _ _ _ _ _ _ _ _ _ ?_
      refine m_everybody ((f1 _ _ (by decide)).trans hn) h6 ?_
      refine ite_t (by rw [lt_i, nI_toInt (by omega), nI_toInt (by omega)]; omega) ?_
      exact a113
    | succ m ih =>
      intro s vs S' x2 x3 x4 x5 hs h0 ev f1 f2
      subst ev
      have s64 : s < 64 := by omega
      have hn' : S' 33 0 = nI np := (f1 _ _ (by decide)).trans hn
      refine go [9, 43, 113] 60 _ _ _ _ _ _ _ _ _ ?_
      refine m_everybody hn' h6 ?_
      refine ite_f (by rw [lt_i, nI_toInt (by omega), nI_toInt (by omega)]; omega) ?_
      refine m_firstBit (fun k hk hb1 hb2 => ?_) (fun hb0 => ?_)
      · have kb : s.testBit k = true := (hb_s s64 hk).mp hb1
        have kl : ∀ i, i < k → s.testBit i = false := fun i hi => by
          have := hb2 i hi
          rw [hb_s s64 (by omega)] at this
          simpa using this
        have knp : k < np := hi_b np h6 s (by omega) k hk kb
        obtain ⟨t, t64, et, tb⟩ := hL k knp
        have qs : clr s k < s := clr_lt kb
        have q64 : clr s k < 64 := by omega
        have e71 : S' 71 (nI k).toNatClampNeg = nI t := by rw [nI_clamp (by omega)]; exact (f1 _ _ (by decide)).trans et
        have bits : ∀ r, r < 64 → ∀ j, j < 6 → ∀ i, i < 6 → (clr r j).testBit i = (r.testBit i && !decide (i = j)) := clr_b
        have mxs : mxF f np 0 (fun j => s.testBit j) = lpM (fun j => s.testBit j && f k j) (fun j => 1 + mxF f (np - (k + 1)) (k + 1) (er (fun j => s.testBit j) j)) (np - (k + 1)) (k + 1) (mxF f (np - (k + 1)) (k + 1) (fun j => s.testBit j)) := by
          rw [mx_at (p := k) (by omega) kl, show np - k = (np - (k + 1)) + 1 by omega]
          exact if_pos kb
        have mq : mxF f np 0 (fun j => (clr s k).testBit j) = mxF f (np - (k + 1)) (k + 1) (fun j => s.testBit j) := by
          rw [mx_at (p := k + 1) (by omega) (fun i hi => by
            rw [bits s s64 k (by omega) i (by omega)]
            by_cases e : i = k
            · rw [decide_eq_true e]; simp
            · rw [kl i (by omega)]; rfl)]
          exact mxF_congr _ _ _ _ (fun i h1 h2 => by
            rw [bits s s64 k (by omega) i (by omega), decide_eq_false (by omega)]; simp)
        have mqj : ∀ j, k < j → j < np → mxF f np 0 (fun i => (clr (clr s k) j).testBit i) = mxF f (np - (k + 1)) (k + 1) (er (fun j => s.testBit j) j) := fun j h1 h2 => by
          rw [mx_at (p := k + 1) (by omega) (fun i hi => by
            rw [bits _ q64 j (by omega) i (by omega), bits s s64 k (by omega) i (by omega)]
            by_cases e : i = k
            · rw [decide_eq_true e]; simp
            · rw [kl i (by omega)]; rfl)]
          exact mxF_congr _ _ _ _ (fun i h3 h4 => by
            rw [bits _ q64 j (by omega) i (by omega), bits s s64 k (by omega) i (by omega), decide_eq_false (show ¬ i = k by omega)]; unfold er; simp)
        have a99 : ∀ vo vm vj, vm = nI (mxF f np 0 (fun j => s.testBit j)) → At 99 [.ref 32, .int (nI s), .int (nI k), .int vo, .int vm, .int vj] [] n K S' G P 0 := by
          intro vo vm vj em
          subst em
          have st := ih (s + 1) _ (up2 S' 72 (nI s).toNatClampNeg (nI (mxF f np 0 (fun j => s.testBit j)))) (.int (nI k)) (.int vo) (.int (nI (mxF f np 0 (fun j => s.testBit j)))) (.int vj) (by omega) (by omega) (nI_1 s) (fun b j hb => (up2_o _ _ (.inl hb)).trans (f1 b j hb)) (fun r hr => by
            rw [nI_clamp (by omega)]
            by_cases e : r = s
            · rw [e]; exact up2_s _ _ _ _
            · rw [up2_o _ _ (.inr e)]; exact f2 r (by omega))
          refine go [9, 113] 60 _ _ _ _ _ _ _ _ _ ?_
          refine ite_t (ixB_nI s64 (by decide)) ?_
          exact st
        have loop2 : ∀ m2 j vj vo vm a, j + m2 = np → k < j → vj = nI j → vo = nI (clr s k) → vm = nI a → a ≤ 6 → lpM (fun j => s.testBit j && f k j) (fun j => 1 + mxF f (np - (k + 1)) (k + 1) (er (fun j => s.testBit j) j)) m2 j a = mxF f np 0 (fun j => s.testBit j) → At 43 [.ref 32, .int (nI s), .int (nI k), .int vo, .int vm, .int vj] [] n K S' G P 0 := by
          intro m2
          induction m2 with
          | zero =>
            intro j vj vo vm a hj hkj ev eo em ha hl
            subst ev
            refine go [43, 93, 99] 60 _ _ _ _ _ _ _ _ _ ?_
            refine ite_t (by rw [hn', le_i, nI_toInt (by omega), nI_toInt (by omega)]; omega) ?_
            refine a99 vo vm _ ?_
            rw [em, ← hl]
            rfl
          | succ m2 ih2 =>
            intro j vj vo vm a hj hkj ev eo em ha hl
            subst ev
            subst eo
            subst em
            have ex : nI (clr s k) &&& S' 71 (nI k).toNatClampNeg = nI (clr s k &&& t) := by rw [e71, and_i _ q64 _ t64]
            have eb : (clr s k &&& t).testBit j = (s.testBit j && f k j) := by
              rw [Nat.testBit_and, bits s s64 k (by omega) j (by omega), tb j hkj (by omega), decide_eq_false (by omega)]
              simp
            have ehb : hb (nI (clr s k) &&& S' 71 (nI k).toNatClampNeg) (nI j) ↔ (s.testBit j && f k j) = true := by
              rw [ex, hb_s (by have := @Nat.and_le_left (clr s k) t; omega) (by omega), eb]
            have hl' : lpM (fun j => s.testBit j && f k j) (fun j => 1 + mxF f (np - (k + 1)) (k + 1) (er (fun j => s.testBit j) j)) m2 (j + 1) (if (s.testBit j && f k j) = true then max a (1 + mxF f (np - (k + 1)) (k + 1) (er (fun j => s.testBit j) j)) else a) = mxF f np 0 (fun j => s.testBit j) := hl
            have a93 : ∀ vm', vm' = nI (if (s.testBit j && f k j) = true then max a (1 + mxF f (np - (k + 1)) (k + 1) (er (fun j => s.testBit j) j)) else a) → At 93 [.ref 32, .int (nI s), .int (nI k), .int (nI (clr s k)), .int vm', .int (nI j)] [] n K S' G P 0 := by
              intro vm' e
              have le := mxF_le (f := f) (np - (k + 1)) (k + 1) (er (fun j => s.testBit j) j)
              refine go [43] 60 _ _ _ _ _ _ _ _ _ ?_
              exact ih2 (j + 1) _ _ _ _ (by omega) (by omega) (nI_1 j) rfl e (by split <;> omega) hl'
            refine go [43, 93, 99] 60 _ _ _ _ _ _ _ _ _ ?_
            refine ite_f (by rw [hn', le_i, nI_toInt (by omega), nI_toInt (by omega)]; omega) ?_
            refine ite_t (ixB_nI (by omega) (by decide)) ?_
            refine m_hasBit (fun c => ?_) (fun c => ?_)
            · have c' := ehb.mp c
              have er1 : nI (clr s k) &&& (((1 : Int32) <<< (nI j &&& 31)) ^^^ -1) = nI (clr (clr s k) j) := clr_i _ q64 _ (by omega)
              have qj : clr (clr s k) j < s := by have := clr_le (clr s k) j; omega
              have xq : ixB (nI (clr s k) &&& (((1 : Int32) <<< (nI j &&& 31)) ^^^ -1)) 64 = true := by rw [er1]; exact ixB_nI (by omega) (by decide)
              have eq : 1 + S' 72 (nI (clr s k) &&& (((1 : Int32) <<< (nI j &&& 31)) ^^^ -1)).toNatClampNeg = nI (1 + mxF f (np - (k + 1)) (k + 1) (er (fun j => s.testBit j) j)) := by
                rw [er1, nI_clamp (by omega), f2 _ qj, mqj j hkj (by omega), show (1 : Int32) = nI 1 from rfl, nI_add]
              have le := mxF_le (f := f) (np - (k + 1)) (k + 1) (er (fun j => s.testBit j) j)
              refine ite_t xq ?_
              refine m_max ?_
              refine a93 _ ?_
              rw [if_pos c']
              show (if nI a < 1 + S' 72 (nI (clr s k) &&& (((1 : Int32) <<< (nI j &&& 31)) ^^^ -1)).toNatClampNeg then 1 + S' 72 (nI (clr s k) &&& (((1 : Int32) <<< (nI j &&& 31)) ^^^ -1)).toNatClampNeg else nI a) = _
              rw [eq]
              by_cases hc : a < 1 + mxF f (np - (k + 1)) (k + 1) (er (fun j => s.testBit j) j)
              · rw [if_pos (by rw [lt_i, nI_toInt (by omega), nI_toInt (by omega)]; omega), Nat.max_eq_right (by omega)]
              · rw [if_neg (by rw [lt_i, nI_toInt (by omega), nI_toInt (by omega)]; omega), Nat.max_eq_left (by omega)]
            · refine a93 _ ?_
              rw [if_neg (fun z => c (ehb.mpr z))]
        have er0 : nI s &&& (((1 : Int32) <<< (nI k &&& 31)) ^^^ -1) = nI (clr s k) := clr_i _ s64 _ (by omega)
        have xq : ixB (nI s &&& (((1 : Int32) <<< (nI k &&& 31)) ^^^ -1)) 64 = true := by rw [er0]; exact ixB_nI q64 (by decide)
        have eq : S' 72 (nI s &&& (((1 : Int32) <<< (nI k &&& 31)) ^^^ -1)).toNatClampNeg = nI (mxF f (np - (k + 1)) (k + 1) (fun j => s.testBit j)) := by
          rw [er0, nI_clamp (by omega), f2 _ qs, mq]
        have le := mxF_le (f := f) (np - (k + 1)) (k + 1) (fun j => s.testBit j)
        refine ite_t xq ?_
        exact loop2 (np - (k + 1)) (k + 1) _ _ _ _ (by omega) (by omega) (nI_1 k) er0 eq (by omega) mxs.symm
      · exfalso
        have := zr_b s s64 (fun i hi => by
          have := hb0 i hi
          rw [hb_s s64 hi] at this
          simpa using this)
        omega
  refine go [9] 60 _ _ _ _ _ _ _ _ _ ?_
  refine loop (2 ^ np - 1) 1 _ _ _ _ _ _ (by omega) (by decide) rfl (fun b j hb => up2_o _ _ (.inl hb)) (fun r hr => ?_)
  have : r = 0 := by omega
  subst this
  have e0 : mxF f np 0 (fun j => (0 : Nat).testBit j) = 0 := by
    have := mx_at (f := f) (np := np) (p := np) (s := 0) (Nat.le_refl _) (fun i _ => Nat.zero_testBit i)
    rw [this, Nat.sub_self]
    rfl
  rw [e0]
  exact up2_s _ _ _ _
end A
end

noncomputable section
/-! WHAT IS ASKED of a town's value; both sides answer it. -/
theorem TC_fc {a : Nat} {tw : Nat → Int32} {np n : Nat} {K : Mk} {S S' : Mi} {P : Mr} (ha : TA a) (h : Fc S S') (hs : TC a tw np n K S P) : TC a tw np n K S' P := by
  obtain ⟨h1, h2, h3⟩ := hs
  refine ⟨RC_fr (fun b j hb _ => h _ _ ?_) h1, fun p hp => Psn_fr h (h2 p hp), h3⟩
  have f : ∀ b, b < 10 → scr (33 + b) = false ∧ scr (45 + b) = false ∧ scr (57 + b) = false := by decide
  rcases ha with rfl | rfl | rfl
  · exact (f b hb).1
  · exact (f b hb).2.1
  · exact (f b hb).2.2
theorem STC_fc {sd : Nat → Int32 × ((Nat → Int32) → Bool)} {ns : Nat} {S S' : Mi} (h6 : ns ≤ 6) (h : Fc S S') (hs : STC sd ns S) : STC sd ns S' := fun k hk => by
  refine SC_fr (fun j => ?_) (hs k hk)
  rcases SD_of (k := k) (by omega) with e | e | e | e | e | e <;> (rw [e]; exact ⟨h _ _ rfl, h _ _ rfl, h _ _ rfl, h _ _ rfl⟩)
theorem HC_of {sd : Nat → Int32 × ((Nat → Int32) → Bool)} {ns : Nat} {S : Mi} {x : Int32} (h6 : ns ≤ 6) (hx : x = -1 ∨ ∃ k, k < ns ∧ x = nI k) (hs : STC sd ns S) : HC S (hdr x) (hdS sd x).1 (hdS sd x).2 := by
  rcases hx with e | ⟨k, hk, e⟩
  · refine .inl ?_
    unfold hdr hdS
    rw [if_pos e, if_pos e]
    exact ⟨rfl, rfl, fun _ => rfl⟩
  · have hne : ¬ x = -1 := by rw [e, eq_i, nI_toInt (by omega), t_m1]; omega
    refine .inr ⟨k, by omega, ?_, ?_⟩
    · unfold hdr
      rw [if_neg hne, e, nI_clamp (by omega)]
    · unfold hdS
      rw [if_neg hne, e, nI_clamp (by omega)]
      exact hs k hk
theorem HM_of {sd : Nat → Int32 × ((Nat → Int32) → Bool)} {ns cd : Nat} {S : Mi} {x : Int32} (h6 : ns ≤ 6) (hx : x = -1 ∨ ∃ k, k < ns ∧ x = nI k) (hs : STM sd ns cd S) : HM S x (hdS sd x).1 (hdS sd x).2 := by
  rcases hx with e | ⟨k, hk, e⟩
  · refine .inl ?_
    unfold hdS
    rw [if_pos e]
    exact ⟨e, rfl, fun _ => rfl⟩
  · have hne : ¬ x = -1 := by rw [e, eq_i, nI_toInt (by omega), t_m1]; omega
    refine .inr ⟨k, by omega, e, ?_⟩
    unfold hdS
    rw [if_neg hne, e, nI_clamp (by omega)]
    exact SMb_SM (by have := hs.2.1; omega) (hs.2.2 k hk)
def cntT (sd : Nat → Int32 × ((Nat → Int32) → Bool)) (tw : Nat → Int32) (p q : Nat) (v us la : Int32) (d w : Nat) : Bool := cnt (hdS sd (tw 224)).1 (hdS sd (tw 224)).2 (nI p) (nI q) (tw p) v (fun i => tw (18 + (4 * p + i))) us la d w
def cnW (sd : Nat → Int32 × ((Nat → Int32) → Bool)) (tw : Nat → Int32) (p q : Nat) (v : Int32) (d w : Nat) : Bool := cntT sd tw p q v (tw (78 + (6 * p + q))) (tw (114 + (6 * p + q))) d w
def twT (sd : Nat → Int32 × ((Nat → Int32) → Bool)) (tw : Nat → Int32) (dy p q : Nat) : Int32 := twV (tw (42 + (6 * p + q))) (fun us la d w => cntT sd tw p q (tw (6 + p)) us la d w) (tw (78 + (6 * p + q))) (tw (114 + (6 * p + q))) dy
def awT (sd : Nat → Int32 × ((Nat → Int32) → Bool)) (tw : Nat → Int32) (dy p q : Nat) : Int32 := if tw (12 + p) = -5 ∧ tw (12 + q) = -5 then (if twT sd tw dy p q = -5 ∨ twT sd tw dy q p = -5 then -5 else if twT sd tw dy p q < twT sd tw dy q p then twT sd tw dy q p else twT sd tw dy p q) else -5
/-- a town of the component, with its streets -/
def CT1 (a n : Nat) (K : Mk) (S : Mi) (P : Mr) (sd : Nat → Int32 × ((Nat → Int32) → Bool)) (tw : Nat → Int32) (np dy ns : Nat) : Prop := TA a ∧ TC a tw np n K S P ∧ STC sd ns S ∧ ns ≤ 6 ∧ TwOk tw np dy ns
def MT1 (S : Mi) (sd : Nat → Int32 × ((Nat → Int32) → Bool)) (tw : Nat → Int32) (np dy ns : Nat) : Prop := RM tw S ∧ (∃ cd, STM sd ns cd S) ∧ ns ≤ 6 ∧ TwOk tw np dy ns
theorem CT1_fc {a n : Nat} {K : Mk} {S S' : Mi} {P : Mr} {sd : Nat → Int32 × ((Nat → Int32) → Bool)} {tw : Nat → Int32} {np dy ns : Nat} (h : Fc S S') (hs : CT1 a n K S P sd tw np dy ns) : CT1 a n K S' P sd tw np dy ns := ⟨hs.1, TC_fc hs.1 h hs.2.1, STC_fc hs.2.2.2.1 h hs.2.2.1, hs.2.2.2⟩
theorem mloc_135 : ∀ k, k < 225 → (mloc k).1 ≠ 135 := by decide +kernel
theorem MT1_fm {S S' : Mi} {sd : Nat → Int32 × ((Nat → Int32) → Bool)} {tw : Nat → Int32} {np dy ns : Nat} (h : Fm S S') (hs : MT1 S sd tw np dy ns) : MT1 S' sd tw np dy ns := by
  obtain ⟨h1, ⟨cd, h2, h2', h3⟩, h4⟩ := hs
  exact ⟨RM_fr (fun k hk => h _ _ (mloc_135 k hk)) h1, ⟨cd, (h _ _ (by decide)).trans h2, h2', fun k hk => SMb_fr (Nat.le_refl _) (fun j _ => h _ _ (by decide)) (h _ _ (by decide)) (fun a i ha hb _ => h _ _ (by omega)) (h3 k hk)⟩, h4⟩
theorem CPq_of {a n : Nat} {K : Mk} {S : Mi} {P : Mr} {sd : Nat → Int32 × ((Nat → Int32) → Bool)} {tw : Nat → Int32} {np dy ns p q : Nat} (hs : CT1 a n K S P sd tw np dy ns) (hp : p < np) (hq : q < np) : CPq a n K S P (hdS sd (tw 224)).1 (hdS sd (tw 224)).2 p q (tw p) (tw (6 + p)) (fun i => tw (18 + (4 * p + i))) dy (tw (42 + (6 * p + q))) (tw (78 + (6 * p + q))) (tw (114 + (6 * p + q))) := by
  obtain ⟨ha, ⟨h1, h2, h3⟩, h4, h5, h6⟩ := hs
  have np6 := h6.1.2
  refine ⟨⟨?_, h2 p hp, fun i hi => RC_rows h1 _ (by omega), RC_us h1 _ (by omega), RC_la h1 _ (by omega)⟩, (RC_dy h1).trans h6.2.1.1, RC_ta h1 _ (by omega)⟩
  rw [h3]
  exact HC_of h5 h6.2.2.1 h4
theorem MPq_of {S : Mi} {sd : Nat → Int32 × ((Nat → Int32) → Bool)} {tw : Nat → Int32} {np dy ns p q : Nat} (hs : MT1 S sd tw np dy ns) (hp : p < np) (hq : q < np) : MPq S (hdS sd (tw 224)).1 (hdS sd (tw 224)).2 p q (tw p) (tw (6 + p)) (fun i => tw (18 + (4 * p + i))) dy (tw (42 + (6 * p + q))) (tw (78 + (6 * p + q))) (tw (114 + (6 * p + q))) := by
  obtain ⟨h1, ⟨cd, h2⟩, h5, h6⟩ := hs
  have np6 := h6.1.2
  refine ⟨⟨?_, ?_, ?_, fun i hi => RM_rows h1 _ (by omega)⟩, (RM_dy h1).trans h6.2.1.1, RM_ta h1 _ (by omega), RM_us h1 _ (by omega), RM_la h1 _ (by omega)⟩
  · rw [RM_hl h1]
    exact HM_of h5 h6.2.2.1 h2
  · have := RM_kind h1 p (by omega)
    rw [Nat.zero_add] at this
    exact this
  · exact RM_v h1 p (by omega)
section A
variable {l : Launch} {L : Nat} {xs : Nat → Int32} {D : Nat} {n : Nat} {K : Mk} {S : Mi} {G : Ml} {P : Mr} {Q : QT} {a : Nat} {sd : Nat → Int32 × ((Nat → Int32) → Bool)} {tw : Nat → Int32} {np dy ns p q : Nat}
set_option maxRecDepth 20000
theorem c_words {v : Int32} {d : Nat} (hs : CT1 a n K S P sd tw np dy ns) (hp : p < np) (hq : q < np) (hv : ∃ j, j < 10 ∧ v = nI j) (hd : d < 20000) (h : ∀ S', Fc S S' → Q (some (.int (bits4 (fun w => cnW sd tw p q v d w)))) n K S' G P) : Ok l L xs T1 (D + 5) jX9_countingWords 0 [.ref a, .int (nI p), .int (nI q), .int v, .int (nI d)] n K S G P Q := by
  have np6 := hs.2.2.2.2.1.2
  exact m_countingWords hs.1 (by omega) (by omega) hd hv (CPq_of hs hp hq).1 h
theorem c_twice (hs : CT1 a n K S P sd tw np dy ns) (hp : p < np) (hq : q < np) (h : ∀ S', Fc S S' → Q (some (.int (twT sd tw dy p q))) n K S' G P) : Ok l L xs T1 (D + 5) jX9_twice 0 [.ref a, .int (nI p), .int (nI q)] n K S G P Q := by
  have np6 := hs.2.2.2.2.1.2
  have hh := hs.2.2.2.2
  exact m_twice hs.1 (by omega) (by omega) (by have := hh.2.1.2; omega) (hh.2.2.2.1 p hp).2 (hh.2.2.2.2.1 _ (by omega)) (CPq_of hs hp hq) h
theorem q_twice (hs : MT1 S sd tw np dy ns) (hp : p < np) (hq : q < np) (h : ∀ S', Fm S S' → Q (some (.int (twT sd tw dy p q))) n K S' G P) : Ok l L xs T1 (D + 7) jX12_twice 0 [.ref 120, .int (nI p), .int (nI q)] n K S G P Q := by
  have np6 := hs.2.2.2.1.2
  have hh := hs.2.2.2
  exact mm_twice (by omega) (by omega) (by have := hh.2.1.2; omega) (MPq_of hs hp hq) h
theorem q_does {d w : Nat} {us la : Int32} (hs : MT1 S sd tw np dy ns) (hp : p < np) (hq : q < np) (hw : w < 4) (hd : d < 20000) (h : ∀ S', Fm S S' → Q (some (.int (b2i (cntT sd tw p q (tw (6 + p)) us la d w)))) n K S' G P) : Ok l L xs T1 (D + 4) jX12_doesCount 0 [.ref 120, .int (nI p), .int (nI q), .int (nI w), .int (nI d), .int us, .int la] n K S G P Q := by
  have np6 := hs.2.2.2.1.2
  exact mm_doesCount (q := nI q) (by omega) hw hd (MPq_of hs hp hq).1 h
theorem q_now {w : Nat} (hs : MT1 S sd tw np dy ns) (hp : p < np) (hq : q < np) (hw : w < 4) (h : ∀ S', Fm S S' → Q (some (.int (b2i (cnW sd tw p q (tw (6 + p)) dy w)))) n K S' G P) : Ok l L xs T1 (D + 5) jX12_countsNow 0 [.ref 120, .int (nI p), .int (nI q), .int (nI w)] n K S G P Q := by
  have np6 := hs.2.2.2.1.2
  have hh := MPq_of hs hp hq
  exact mm_countsNow (q := 0) (by omega) (by omega) hw (by have := hs.2.2.2.2.1.2; omega) hh.1 hh.2.1 hh.2.2.2.1 hh.2.2.2.2 h
theorem c_awaited (hs : CT1 a n K S P sd tw np dy ns) (hp : p < np) (hq : q < np) (h : ∀ S', Fc S S' → Q (some (.int (awT sd tw dy p q))) n K S' G P) : Ok l L xs T1 (D + 6) jX9_awaited 0 [.ref a, .int (nI p), .int (nI q)] n K S G P Q := by
  refine I_X9_awaited (by decide) (fun At go => ?_)
  have np6 := hs.2.2.2.2.1.2
  have wp : S (a + 2) (nI p).toNatClampNeg = tw (12 + p) := by rw [nI_clamp (by omega)]; exact RC_wed hs.2.1.1 _ (by omega)
  have wq : S (a + 2) (nI q).toNatClampNeg = tw (12 + q) := by rw [nI_clamp (by omega)]; exact RC_wed hs.2.1.1 _ (by omega)
  have a22 : ¬ (tw (12 + p) = -5 ∧ tw (12 + q) = -5) → At 22 [.ref a, .int (nI p), .int (nI q), .retAddr 0, .retAddr 0] [] n K S G P 0 := by
    intro e
    have hQ := h S (Fc.rf S)
    unfold awT at hQ
    rw [if_neg e] at hQ
    refine go [22, 25, 49, 69] 60 _ _ _ _ _ _ _ _ _ ?_
    exact hQ
  have a69 : ∀ S' (x3 x4 : Value) x, Q (some (.int x)) n K S' G P → At 69 [.ref a, .int (nI p), .int (nI q), x3, x4] [.int x] n K S' G P 0 := by
    intro S' x3 x4 x hx
    refine go [22, 25, 49, 69] 60 _ _ _ _ _ _ _ _ _ ?_
    exact hx
  have a49 : tw (12 + p) = -5 ∧ tw (12 + q) = -5 → ∀ S' x4 (y : Int32), Fc S S' → (twT sd tw dy p q = -5 ∧ y = -5 ∨ ¬ twT sd tw dy p q = -5 ∧ y = twT sd tw dy q p) → At 49 [.ref a, .int (nI p), .int (nI q), .int (twT sd tw dy p q), x4] [.int y] n K S' G P 0 := by
    intro e S' x4 y hS hy
    have hQ := h S' hS
    unfold awT at hQ
    rw [if_pos e] at hQ
    refine go [22, 25, 49, 69] 60 _ _ _ _ _ _ _ _ _ ?_
    refine ite_i (fun c => ?_) (fun c => ?_)
    · refine a69 _ _ _ _ ?_
      rcases hy with ⟨e1, _⟩ | ⟨e1, e2⟩
      · rw [if_pos (.inl e1)] at hQ
        exact hQ
      · rw [if_pos (.inr (e2.symm.trans c))] at hQ
        exact hQ
    · rcases hy with ⟨e1, e2⟩ | ⟨e1, e2⟩
      · exact absurd e2 c
      · refine m_max ?_
        refine a69 _ _ _ _ ?_
        rw [if_neg (fun z => z.elim e1 (fun z => c (e2.trans z)))] at hQ
        rw [e2]
        exact hQ
  have a25 : tw (12 + p) = -5 ∧ tw (12 + q) = -5 → At 25 [.ref a, .int (nI p), .int (nI q), .retAddr 0, .retAddr 0] [] n K S G P 0 := by
    intro e
    refine go [22, 25, 49, 69] 60 _ _ _ _ _ _ _ _ _ ?_
    have hta := hs.1
    rcases hta with rfl | rfl | rfl <;> (
    refine c_twice (dy := dy) hs hp hq (fun S' hS => ?_)
    refine ite_i (fun c => ?_) (fun c => ?_)
    · exact a49 e _ _ _ hS (.inl ⟨c, rfl⟩)
    · refine c_twice (dy := dy) (CT1_fc hS hs) hq hp (fun S2 hS2 => ?_)
      exact a49 e _ _ _ (hS.tr hS2) (.inr ⟨c, rfl⟩))
  have hta := hs.1
  rcases hta with rfl | rfl | rfl <;> (
  refine go [22, 25, 49, 69] 60 _ _ _ _ _ _ _ _ _ ?_
  refine ite_t (ixB_nI (by omega) (by decide)) ?_
  refine ite_i (fun c => ?_) (fun c => ?_)
  · have c1 := wp.symm.trans c
    refine ite_t (ixB_nI (by omega) (by decide)) ?_
    refine ite_i (fun c => ?_) (fun c => ?_)
    · exact a25 ⟨c1, wq.symm.trans c⟩
    · exact a22 (fun z => c (wq.trans z.2))
  · exact a22 (fun z => c (wp.trans z.1)))
theorem q_await (hs : MT1 S sd tw np dy ns) (hp : p < np) (hq : q < np) (h : ∀ S', Fm S S' → Q (some (.int (awT sd tw dy p q))) n K S' G P) : Ok l L xs T1 (D + 8) jX12_await 0 [.ref 120, .int (nI p), .int (nI q)] n K S G P Q := by
  refine I_X12_await (by decide) (fun At go => ?_)
  have np6 := hs.2.2.2.1.2
  have wp : S 123 (nI p).toNatClampNeg = tw (12 + p) := by rw [nI_clamp (by omega)]; exact RM_wed hs.1 _ (by omega)
  have wq : S 123 (nI q).toNatClampNeg = tw (12 + q) := by rw [nI_clamp (by omega)]; exact RM_wed hs.1 _ (by omega)
  have a22 : ¬ (tw (12 + p) = -5 ∧ tw (12 + q) = -5) → At 22 [.ref 120, .int (nI p), .int (nI q), .retAddr 0, .retAddr 0] [] n K S G P 0 := by
    intro e
    have hQ := h S (Fm.rf S)
    unfold awT at hQ
    rw [if_neg e] at hQ
    refine go [22, 25, 53, 64] 60 _ _ _ _ _ _ _ _ _ ?_
    exact hQ
  have a64 : ∀ S' (x3 x4 : Value) x, Q (some (.int x)) n K S' G P → At 64 [.ref 120, .int (nI p), .int (nI q), x3, x4] [.int x] n K S' G P 0 := by
    intro S' x3 x4 x hx
    refine go [22, 25, 53, 64] 60 _ _ _ _ _ _ _ _ _ ?_
    exact hx
  have a25 : tw (12 + p) = -5 ∧ tw (12 + q) = -5 → At 25 [.ref 120, .int (nI p), .int (nI q), .retAddr 0, .retAddr 0] [] n K S G P 0 := by
    intro e
    refine go [22, 25, 53, 64] 60 _ _ _ _ _ _ _ _ _ ?_
    refine q_twice (dy := dy) hs hp hq (fun S' hS => ?_)
    refine q_twice (dy := dy) (MT1_fm hS hs) hq hp (fun S2 hS2 => ?_)
    have hQ := h S2 (hS.tr hS2)
    unfold awT at hQ
    rw [if_pos e] at hQ
    have a53 : twT sd tw dy p q = -5 ∨ twT sd tw dy q p = -5 → At 53 [.ref 120, .int (nI p), .int (nI q), .int (twT sd tw dy p q), .int (twT sd tw dy q p)] [] n K S2 G P 0 := by
      intro z
      rw [if_pos z] at hQ
      refine go [22, 25, 53, 64] 60 _ _ _ _ _ _ _ _ _ ?_
      exact a64 _ _ _ _ hQ
    refine ite_i (fun c => ?_) (fun c => ?_)
    · exact a53 (.inl c)
    · refine ite_i (fun c2 => ?_) (fun c2 => ?_)
      · exact a53 (.inr c2)
      · rw [if_neg (fun z => z.elim c c2)] at hQ
        refine m_max ?_
        exact a64 _ _ _ _ hQ
  refine go [22, 25, 53, 64] 60 _ _ _ _ _ _ _ _ _ ?_
  refine ite_t (ixB_nI (by omega) (by decide)) ?_
  refine ite_i (fun c => ?_) (fun c => ?_)
  · have c1 := wp.symm.trans c
    refine ite_t (ixB_nI (by omega) (by decide)) ?_
    refine ite_i (fun c => ?_) (fun c => ?_)
    · exact a25 ⟨c1, wq.symm.trans c⟩
    · exact a22 (fun z => c (wq.trans z.2))
  · exact a22 (fun z => c (wp.trans z.1))
end A
end

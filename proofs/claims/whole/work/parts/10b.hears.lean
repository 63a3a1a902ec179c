noncomputable section
/-! WHAT A STREET HEARS: the component. -/
def SD (s : Nat) : Prop := s = 84 ∨ s = 90 ∨ s = 96 ∨ s = 102 ∨ s = 108 ∨ s = 114
def SC (s : Nat) (S : Mi) (b : Int32) (hf : (Nat → Int32) → Bool) : Prop := S s 0 = b ∧ ∃ (cn : Nat) (wo : Nat → Int32) (se : Nat → Nat) (lk : Nat → List Nat) (sem : Nat → (Nat → Int32) → Bool), cn ≤ 10 ∧ S s 1 = nI cn ∧ (∀ i, i < cn → S (s + 1) i = wo i) ∧ se 0 = 0 ∧ (∀ i, i < cn → S (s + 2) i = nI (se (i + 1)) ∧ se (i + 1) = se i + (lk i).length ∧ se (i + 1) ≤ 100 ∧ (∀ j, j < (lk i).length → S (s + 3) (se i + j) = stI0 ((lk i).getD j 0)) ∧ (∀ x, x ∈ lk i → x < 1803) ∧ ((lk i = [] ∧ ∀ vals, sem i vals = false) ∨ ∀ vals, ev 11 (lk i) vals [] = some [sem i vals])) ∧ ∀ vals, hf vals = decide (0 < lou wo sem vals cn)
theorem SC_fr {s : Nat} {S S' : Mi} {b : Int32} {hf : (Nat → Int32) → Bool} (h : ∀ j, S' s j = S s j ∧ S' (s + 1) j = S (s + 1) j ∧ S' (s + 2) j = S (s + 2) j ∧ S' (s + 3) j = S (s + 3) j) (hs : SC s S b hf) : SC s S' b hf := by
  obtain ⟨h1, cn, wo, se, lk, sem, h2, h3, h4, h5, h6, h7⟩ := hs
  refine ⟨(h 0).1.trans h1, cn, wo, se, lk, sem, h2, (h 1).1.trans h3, fun i hi => (h i).2.1.trans (h4 i hi), h5, fun i hi => ?_, h7⟩
  obtain ⟨g1, g2, g3, g4, g5⟩ := h6 i hi
  exact ⟨(h i).2.2.1.trans g1, g2, g3, fun j hj => (h _).2.2.2.trans (g4 j hj), g5⟩
theorem tsB_lt {t : Nat} {vals : Nat → Int32} (h : t / 100 % 3 = 0) : tsB t vals = decide (vals (t / 300) < nI (t % 100)) := by unfold tsB; rw [if_pos h]
theorem tsB_eq {t : Nat} {vals : Nat → Int32} (h0 : ¬ t / 100 % 3 = 0) (h : t / 100 % 3 = 1) : tsB t vals = decide (vals (t / 300) = nI (t % 100)) := by unfold tsB; rw [if_neg h0, if_pos h]
theorem tsB_gt {t : Nat} {vals : Nat → Int32} (h0 : ¬ t / 100 % 3 = 0) (h : ¬ t / 100 % 3 = 1) : tsB t vals = decide (nI (t % 100) < vals (t / 300)) := by unfold tsB; rw [if_neg h0, if_neg h]
theorem n300_c {t : Nat} (ht : t < 1800) : rmI (nI t) 300 / 100 = nI (t / 100 % 3) := by
  rw [show (300 : Int32) = nI 300 from rfl, show (100 : Int32) = nI 100 from rfl, rm_i (by omega) (by decide), dv_i (by omega) (by decide)]
  congr 1
  omega
section A
variable {l : Launch} {L : Nat} {xs : Nat → Int32} {D : Nat} {n : Nat} {K : Mk} {S : Mi} {G : Ml} {P : Mr} {Q : QT}
set_option maxRecDepth 20000
theorem m_wordsPassing {T : Tb} {o t : Nat} {x p q k v d : Int32} (hT : T = T1) (ho : NA o) (ht : t < 1800) (hx : x = nI t) (hv : ∀ w i, i < 6 → i ≠ 4 → S (o + 1) i = vls p q k v w d i) (h : Q (some (.int (bits4 (fun w => tsB t (vls p q k v (nI w) d))))) n K S G P) : Ok l L xs T (D + 1) jX7_wordsPassing 0 [.int x, .ref o] n K S G P Q := by
  refine I_X7_wordsPassing (by decide) (fun At go => ?_)
  subst hT
  subst hx
  have loop : ∀ m j vj acc x7 x8, j + m = 4 → vj = nI j → acc = bitsK (fun w => tsB t (vls p q k v (nI w) d)) j → At 27 [.int (nI t), .ref o, .int (nI (t / 300)), .int (nI (t / 100 % 3)), .int (nI (t % 100)), .int acc, .int vj, x7, x8] [] n K S G P 0 := by
    intro m
    induction m with
    | zero =>
      intro j vj acc x7 x8 hj hv1 ha
      have e : j = 4 := by omega
      subst e
      subst hv1
      subst ha
      refine go [27, 49, 102] 60 _ _ _ _ _ _ _ _ _ ?_
      exact h
    | succ m ih =>
      intro j vj acc x7 x8 hj hv1 ha
      subst hv1
      have A102t : tsB t (vls p q k v (nI j) d) = true → ∀ (x7 : Int32) (x8 : Value), At 102 [.int (nI t), .ref o, .int (nI (t / 300)), .int (nI (t / 100 % 3)), .int (nI (t % 100)), .int acc, .int (nI j), .int x7, x8] [.int 1] n K S G P 0 := by
        intro hb x7 x8
        refine go [27, 49, 102] 60 _ _ _ _ _ _ _ _ _ ?_
        refine ih (j + 1) _ _ _ _ (by omega) (nI_1 j) ?_
        rw [ha]
        rw [show bitsK (fun w => tsB t (vls p q k v (nI w) d)) (j + 1) = bitsK (fun w => tsB t (vls p q k v (nI w) d)) j ||| (if tsB t (vls p q k v (nI j) d) = true then (1 : Int32) <<< (nI j &&& 31) else 0) from rfl]
        rw [if_pos hb]
      have A102f : tsB t (vls p q k v (nI j) d) = false → ∀ (x7 : Int32) (x8 : Value), At 102 [.int (nI t), .ref o, .int (nI (t / 300)), .int (nI (t / 100 % 3)), .int (nI (t % 100)), .int acc, .int (nI j), .int x7, x8] [.int 0] n K S G P 0 := by
        intro hb x7 x8
        refine go [27, 49, 102] 60 _ _ _ _ _ _ _ _ _ ?_
        refine ih (j + 1) _ _ _ _ (by omega) (nI_1 j) ?_
        rw [ha]
        rw [show bitsK (fun w => tsB t (vls p q k v (nI w) d)) (j + 1) = bitsK (fun w => tsB t (vls p q k v (nI w) d)) j ||| (if tsB t (vls p q k v (nI j) d) = true then (1 : Int32) <<< (nI j &&& 31) else 0) from rfl]
        rw [if_neg (by rw [hb]; decide)]
      have A49 : ∀ val, val = vls p q k v (nI j) d (t / 300) → ∀ x7 x8, At 49 [.int (nI t), .ref o, .int (nI (t / 300)), .int (nI (t / 100 % 3)), .int (nI (t % 100)), .int acc, .int (nI j), x7, x8] [.int val] n K S G P 0 := by
        intro val hval x7 x8
        refine go [27, 49, 102] 60 _ _ _ _ _ _ _ _ _ ?_
        refine ite_i (fun c1 => ?_) (fun c1 => ?_)
        · rw [eq_i, nI_toInt (by omega), t_0] at c1
          have e := tsB_lt (t := t) (vals := vls p q k v (nI j) d) (by omega)
          rw [← hval] at e
          refine ite_i (fun c2 => ?_) (fun c2 => ?_)
          · exact A102f (by rw [e, decide_eq_false]; rw [lt_i]; rw [le_i] at c2; omega) _ _
          · exact A102t (by rw [e, decide_eq_true]; rw [lt_i]; rw [le_i] at c2; omega) _ _
        · rw [eq_i, nI_toInt (by omega), t_0] at c1
          refine ite_i (fun c2 => ?_) (fun c2 => ?_)
          · rw [eq_i, nI_toInt (by omega), t_1] at c2
            have e := tsB_eq (t := t) (vals := vls p q k v (nI j) d) (by omega) (by omega)
            rw [← hval] at e
            refine ite_i (fun c3 => ?_) (fun c3 => ?_)
            · exact A102t (by rw [e, decide_eq_true c3]) _ _
            · exact A102f (by rw [e, decide_eq_false c3]) _ _
          · rw [eq_i, nI_toInt (by omega), t_1] at c2
            have e := tsB_gt (t := t) (vals := vls p q k v (nI j) d) (by omega) (by omega)
            rw [← hval] at e
            refine ite_i (fun c3 => ?_) (fun c3 => ?_)
            · exact A102f (by rw [e, decide_eq_false]; rw [lt_i]; rw [le_i] at c3; omega) _ _
            · exact A102t (by rw [e, decide_eq_true]; rw [lt_i]; rw [le_i] at c3; omega) _ _
      rcases ho with rfl | rfl | rfl <;> (
      refine go [27, 49, 102] 60 _ _ _ _ _ _ _ _ _ ?_
      refine ite_f (by rw [le_i, t_4, nI_toInt (by omega)]; omega) ?_
      refine ite_i (fun c => ?_) (fun c => ?_)
      · rw [eq_i, nI_toInt (by omega), t_4] at c
        have e : t / 300 = 4 := by omega
        exact A49 _ (by rw [e]; rfl) _ _
      · rw [eq_i, nI_toInt (by omega), t_4] at c
        refine ite_t (ixB_nI (by omega) (by decide)) ?_
        refine A49 _ ?_ _ _
        rw [nI_clamp (by omega)]
        exact hv _ _ (by omega) (by omega))
  have e1 : nI t / 300 = nI (t / 300) := dv_i (by omega) (by decide)
  have e2 : rmI (nI t) 100 = nI (t % 100) := rm_i (by omega) (by decide)
  refine go [27, 49, 102] 60 _ _ _ _ _ _ _ _ _ ?_
  have fin := loop 4 0 0 0 (.retAddr 0) (.retAddr 0) rfl rfl rfl
  rw [← e1, ← n300_c ht, ← e2] at fin
  exact fin
theorem m_wordsHolding {s o c b e : Nat} {lk : List Nat} {f : Nat → Bool} {p q k v d : Int32} (hs : SD s) (ho : NA o) (hc : c < 10) (hb0 : c = 0 → b = 0) (hb : c ≠ 0 → S (s + 2) (c - 1) = nI b) (he : S (s + 2) c = nI e) (hbe : e = b + lk.length) (h100 : e ≤ 100) (hst : ∀ j, j < lk.length → S (s + 3) (b + j) = stI0 (lk.getD j 0)) (hlk : ∀ x, x ∈ lk → x < 1803) (hv : ∀ w i, i < 6 → i ≠ 4 → S (o + 1) i = vls p q k v w d i) (hev : (lk = [] ∧ ∀ w, w < 4 → f w = false) ∨ ∀ w, w < 4 → ev 11 lk (vls p q k v (nI w) d) [] = some [f w]) (h : Q (some (.int (bits4 f))) n K S G P) : Ok l L xs T1 (D + 2) jX7_wordsHolding 0 [.ref s, .int (nI c), .ref o] n K S G P Q := by
  refine I_X7_wordsHolding (by decide) (fun At go => ?_)
  have hfin : ∃ fs : Nat → List Bool, (∀ pl, PR pl fs → (pl &&& 15).toInt32 = bits4 f) ∧ ∀ w, w < 4 → ev 11 lk (vls p q k v (nI w) d) [] = some (fs w) := by
    rcases hev with ⟨e1, e2⟩ | e1
    · exact ⟨fun _ => [], fun pl h => (PR_end0 h).trans (bits4_ext (fun w hw => (e2 w hw).symm)), fun w _ => by rw [e1]; rfl⟩
    · exact ⟨fun w => [f w], fun pl h => PR_end (s := fun _ => []) h, e1⟩
  obtain ⟨fs, hfs, hev'⟩ := hfin
  have loop : ∀ (r : List Nat) (i : Nat) (vi : Int32) (pl : Int64) (st : Nat → List Bool) (x6 x7 : Value), vi = nI i → PR pl st → (∀ w, w < 4 → (st w).length ≤ 11) → (∀ w, w < 4 → ev 11 r (vls p q k v (nI w) d) (st w) = some (fs w)) → i + r.length = e → (∀ j, j < r.length → S (s + 3) (i + j) = stI0 (r.getD j 0)) → (∀ x, x ∈ r → x < 1803) → At 20 [.ref s, .int (nI c), .ref o, .long pl, .retAddr 0, .int vi, x6, x7] [] n K S G P 0 := by
    intro r
    induction r with
    | nil =>
      intro i vi pl st x6 x7 hvi hp hl hw hi hr hx
      subst hvi
      have hq := hfs pl (PR_congr (fun w hw1 => by exact Option.some.inj (hw w hw1)) hp)
      rcases hs with rfl | rfl | rfl | rfl | rfl | rfl <;> (
      refine go [20] 60 _ _ _ _ _ _ _ _ _ ?_
      refine ite_t (ixB_nI hc (by decide)) ?_
      refine ite_t ?_ ?_
      · rw [nI_clamp (by omega), he, le_i, nI_toInt (by omega), nI_toInt (by omega)]
        rw [List.length_nil] at hi
        omega
      · rw [← hq] at h
        exact h)
    | cons x r ih =>
      intro i vi pl st x6 x7 hvi hp hl hw hi hr hx
      subst hvi
      rw [List.length_cons] at hi
      have hx0 := hr 0 (by rw [List.length_cons]; omega)
      rw [Nat.add_zero i, List.getD_cons_zero] at hx0
      have hxb := hx x List.mem_cons_self
      have hr' : ∀ j, j < r.length → S (s + 3) (i + 1 + j) = stI0 (r.getD j 0) := fun j hj => by
        have := hr (j + 1) (by rw [List.length_cons]; omega)
        rw [List.getD_cons_succ] at this
        rw [show i + 1 + j = i + (j + 1) by omega]
        exact this
      have hx' : ∀ y, y ∈ r → y < 1803 := fun y hy => hx y (List.mem_cons_of_mem _ hy)
      have lim : ¬ e ≤ i := by omega
      by_cases h3 : 3 ≤ x
      · have hx1 : S (s + 3) i = nI (x - 3) := by rw [hx0]; unfold stI0; rw [if_pos h3]
        have hw1 : ∀ w, w < 4 → (st w).length < 11 ∧ ev 11 r (vls p q k v (nI w) d) (tsB (x - 3) (vls p q k v (nI w) d) :: st w) = some (fs w) := fun w hw0 => by
          have := hw w hw0
          rw [ev_c] at this
          rw [if_pos h3] at this
          by_cases hl1 : (st w).length < 11
          · rw [if_pos hl1] at this
            exact ⟨hl1, this⟩
          · rw [if_neg hl1] at this
            cases this
        have nxt : ∀ pl', pl' = (pl <<< ((4 : Int32).toInt64 &&& 63)) ||| (bits4 (fun w => tsB (x - 3) (vls p q k v (nI w) d))).toInt64 → ∀ x6 x7, At 20 [.ref s, .int (nI c), .ref o, .long pl', .retAddr 0, .int (nI i + 1), x6, x7] [] n K S G P 0 := fun pl' e1 x6 x7 =>
          ih (i + 1) _ pl' (fun w => tsB (x - 3) (vls p q k v (nI w) d) :: st w) x6 x7 (nI_1 i) (by rw [e1]; exact PR_push hp) (fun w hw0 => by rw [List.length_cons]; exact (hw1 w hw0).1) (fun w hw0 => (hw1 w hw0).2) (by omega) hr' hx'
        rcases hs with rfl | rfl | rfl | rfl | rfl | rfl <;> (
        refine go [20] 60 _ _ _ _ _ _ _ _ _ ?_
        refine ite_t (ixB_nI hc (by decide)) ?_
        refine ite_f ?_ ?_
        · rw [nI_clamp (by omega), he, le_i, nI_toInt (by omega), nI_toInt (by omega)]
          omega
        refine ite_t (ixB_nI (by omega) (by decide)) ?_
        refine ite_f (by rw [nI_clamp (by omega), hx1, eq_i, nI_toInt (by omega), t_m3]; omega) ?_
        refine ite_f (by rw [nI_clamp (by omega), hx1, eq_i, nI_toInt (by omega), t_m2]; omega) ?_
        refine ite_f (by rw [nI_clamp (by omega), hx1, eq_i, nI_toInt (by omega), t_m1]; omega) ?_
        refine ite_t (ixB_nI (by omega) (by decide)) ?_
        refine m_wordsPassing (t := x - 3) rfl ho (by omega) (by rw [nI_clamp (by omega)]; exact hx1) hv ?_
        exact nxt _ rfl _ _)
      · by_cases h0 : x = 0
        · subst h0
          have hx1 : S (s + 3) i = -1 := by rw [hx0]; rfl
          have hw1 : ∀ w, w < 4 → st w = (st w).getD 0 false :: (st w).drop 1 ∧ ev 11 r (vls p q k v (nI w) d) ((!(st w).getD 0 false) :: (st w).drop 1) = some (fs w) := fun w hw0 => by
            have := hw w hw0
            rw [ev_c] at this
            rw [if_neg (by decide), if_pos rfl] at this
            cases hst0 : st w with
            | nil => rw [hst0] at this; cases this
            | cons y t => rw [hst0] at this; exact ⟨rfl, this⟩
          have nxt : ∀ pl', pl' = pl ^^^ 15 → ∀ x6 x7, At 20 [.ref s, .int (nI c), .ref o, .long pl', .retAddr 0, .int (nI i + 1), x6, x7] [] n K S G P 0 := fun pl' e1 x6 x7 =>
            ih (i + 1) _ pl' (fun w => (!(st w).getD 0 false) :: (st w).drop 1) x6 x7 (nI_1 i) (by rw [e1]; exact PR_not (x := fun w => (st w).getD 0 false) (PR_congr (fun w hw0 => (hw1 w hw0).1) hp)) (fun w hw0 => by
              have a1 := hl w hw0
              rw [(hw1 w hw0).1, List.length_cons] at a1
              rw [List.length_cons]
              exact a1) (fun w hw0 => (hw1 w hw0).2) (by omega) hr' hx'
          rcases hs with rfl | rfl | rfl | rfl | rfl | rfl <;> (
          refine go [20] 60 _ _ _ _ _ _ _ _ _ ?_
          refine ite_t (ixB_nI hc (by decide)) ?_
          refine ite_f ?_ ?_
          · rw [nI_clamp (by omega), he, le_i, nI_toInt (by omega), nI_toInt (by omega)]
            omega
          refine ite_t (ixB_nI (by omega) (by decide)) ?_
          refine ite_f (by rw [nI_clamp (by omega), hx1]; decide) ?_
          refine ite_f (by rw [nI_clamp (by omega), hx1]; decide) ?_
          refine ite_t (by rw [nI_clamp (by omega)]; exact hx1) ?_
          exact nxt _ rfl _ _)
        · have two : ∀ w, w < 4 → st w = (st w).getD 0 false :: (st w).getD 1 false :: (st w).drop 2 := fun w hw0 => by
            have := hw w hw0
            rw [ev_c] at this
            rw [if_neg h3, if_neg h0] at this
            match hst0 : st w with
            | [] => rw [hst0] at this; split at this <;> cases this
            | [_] => rw [hst0] at this; split at this <;> cases this
            | y :: z :: t => rfl
          have len : ∀ w, w < 4 → ((st w).drop 2).length + 2 ≤ 11 := fun w hw0 => by
            have a1 := hl w hw0
            rw [two w hw0, List.length_cons, List.length_cons] at a1
            exact a1
          have hp2 := PR_congr two hp
          by_cases h1 : x = 1
          · subst h1
            have hx1 : S (s + 3) i = -2 := by rw [hx0]; rfl
            have hw1 : ∀ w, w < 4 → ev 11 r (vls p q k v (nI w) d) (((st w).getD 1 false && (st w).getD 0 false) :: (st w).drop 2) = some (fs w) := fun w hw0 => by
              have := hw w hw0
              rw [two w hw0] at this
              exact this
            have nxt : ∀ pl', pl' = (pl >>> ((4 : Int32).toInt64 &&& 63)) &&& ((pl &&& 15) ||| (-16)) → ∀ x6 x7, At 20 [.ref s, .int (nI c), .ref o, .long pl', .retAddr 0, .int (nI i + 1), x6, x7] [] n K S G P 0 := fun pl' e1 x6 x7 =>
              ih (i + 1) _ pl' _ x6 x7 (nI_1 i) (by rw [e1]; exact PR_and (fun w hw0 => by have := len w hw0; omega) hp2) (fun w hw0 => by have := len w hw0; rw [List.length_cons]; omega) (fun w hw0 => hw1 w hw0) (by omega) hr' hx'
            rcases hs with rfl | rfl | rfl | rfl | rfl | rfl <;> (
            refine go [20] 60 _ _ _ _ _ _ _ _ _ ?_
            refine ite_t (ixB_nI hc (by decide)) ?_
            refine ite_f ?_ ?_
            · rw [nI_clamp (by omega), he, le_i, nI_toInt (by omega), nI_toInt (by omega)]
              omega
            refine ite_t (ixB_nI (by omega) (by decide)) ?_
            refine ite_f (by rw [nI_clamp (by omega), hx1]; decide) ?_
            refine ite_t (by rw [nI_clamp (by omega)]; exact hx1) ?_
            exact nxt _ rfl _ _)
          · have hx1 : S (s + 3) i = -3 := by rw [hx0]; unfold stI0; rw [if_neg h3, if_neg h0, if_neg h1]
            have hw1 : ∀ w, w < 4 → ev 11 r (vls p q k v (nI w) d) (((st w).getD 1 false || (st w).getD 0 false) :: (st w).drop 2) = some (fs w) := fun w hw0 => by
              have := hw w hw0
              rw [ev_c] at this
              rw [if_neg h3, if_neg h0, if_neg h1, two w hw0] at this
              exact this
            have nxt : ∀ pl', pl' = (pl >>> ((4 : Int32).toInt64 &&& 63)) ||| (pl &&& 15) → ∀ x6 x7, At 20 [.ref s, .int (nI c), .ref o, .long pl', .retAddr 0, .int (nI i + 1), x6, x7] [] n K S G P 0 := fun pl' e1 x6 x7 =>
              ih (i + 1) _ pl' _ x6 x7 (nI_1 i) (by rw [e1]; exact PR_or (fun w hw0 => by have := len w hw0; omega) hp2) (fun w hw0 => by have := len w hw0; rw [List.length_cons]; omega) (fun w hw0 => hw1 w hw0) (by omega) hr' hx'
            rcases hs with rfl | rfl | rfl | rfl | rfl | rfl <;> (
            refine go [20] 60 _ _ _ _ _ _ _ _ _ ?_
            refine ite_t (ixB_nI hc (by decide)) ?_
            refine ite_f ?_ ?_
            · rw [nI_clamp (by omega), he, le_i, nI_toInt (by omega), nI_toInt (by omega)]
              omega
            refine ite_t (ixB_nI (by omega) (by decide)) ?_
            refine ite_t (by rw [nI_clamp (by omega)]; exact hx1) ?_
            exact nxt _ rfl _ _)
  have fin : ∀ vb, vb = nI b → At 20 [.ref s, .int (nI c), .ref o, .long 0, .retAddr 0, .int vb, .retAddr 0, .retAddr 0] [] n K S G P 0 := fun vb e1 =>
    loop lk b vb 0 (fun _ => []) _ _ e1 PR_0 (fun _ _ => Nat.zero_le _) hev' hbe.symm hst hlk
  by_cases hc0 : c = 0
  · have e1 := hb0 hc0
    subst hc0
    refine go [20] 60 _ _ _ _ _ _ _ _ _ ?_
    exact fin _ (by rw [e1]; rfl)
  · have e1 := hb hc0
    obtain ⟨j, rfl⟩ : ∃ j, c = j + 1 := ⟨c - 1, by omega⟩
    rw [Nat.add_sub_cancel] at e1
    have x1 : ixB (nI (j + 1) - 1) 10 = true := by rw [nI_pred]; exact ixB_nI (by omega) (by decide)
    have e2 : S (s + 2) (nI (j + 1) - 1).toNatClampNeg = nI b := by rw [nI_pred, nI_clamp (by omega)]; exact e1
    rcases hs with rfl | rfl | rfl | rfl | rfl | rfl <;> (
    refine go [20] 60 _ _ _ _ _ _ _ _ _ ?_
    refine ite_f (by rw [eq_i, nI_toInt (by omega), t_0]; omega) ?_
    refine ite_t x1 ?_
    exact fin _ e2)
end A
end

noncomputable section
theorem kg {k i : Nat} {X Y : Prop} (hk : k < 7) (hi : i < 3) (h : Y) : cond (Nat.beq (fam (kcl k)) 4 && (Nat.blt i 4 && Nat.beq 4 (nf (kcl k)))) (cond (Nat.beq (fk (kcl k) i) 2) X Y) False := by
  have a1 : ∀ k, k < 7 → ∀ i, i < 3 → ((Nat.beq (fam (kcl k)) 4 && (Nat.blt i 4 && Nat.beq 4 (nf (kcl k)))) = true ∧ Nat.beq (fk (kcl k) i) 2 = false) := by decide
  obtain ⟨e1, e2⟩ := a1 k hk i hi
  rw [e1, e2]
  exact h
def CP (a n : Nat) (K : Mk) (S : Mi) (P : Mr) (bg : Int32) (hf : (Nat → Int32) → Bool) (p q : Nat) (kd v : Int32) (rw : Nat → Int32) (us la : Int32) : Prop := HC S (P a 8) bg hf ∧ Psn a n K S P p kd v ∧ (∀ i, i < 4 → S (a + 3) (4 * p + i) = rw i) ∧ S (a + 5) (6 * p + q) = us ∧ S (a + 6) (6 * p + q) = la
theorem CP_fr {a n : Nat} {K : Mk} {S S' : Mi} {P : Mr} {bg : Int32} {hf : (Nat → Int32) → Bool} {p q : Nat} {kd v : Int32} {rw : Nat → Int32} {us la : Int32} (ha : TA a) (h : Fc S S') (hs : CP a n K S P bg hf p q kd v rw us la) : CP a n K S' P bg hf p q kd v rw us la := by
  obtain ⟨h1, h2, h3, h4, h5⟩ := hs
  have e : scr (a + 3) = false ∧ scr (a + 5) = false ∧ scr (a + 6) = false := by rcases ha with rfl | rfl | rfl <;> exact ⟨rfl, rfl, rfl⟩
  exact ⟨HC_fr h h1, Psn_fr h h2, fun i hi => (h _ _ e.1).trans (h3 i hi), (h _ _ e.2.1).trans h4, (h _ _ e.2.2).trans h5⟩
/-- a call of a street's method -/
theorem sv_go {s n : Nat} {K : Mk} {b : Bool} {X Y : Prop} (hs : SD s) (h : Y) : cond (Nat.blt s 10 && b) X (match sho T1 n K s with
    | some (.inr (ci, _)) => cond (Nat.beq ci 7) Y False
    | _ => False) := by
  rcases hs with rfl | rfl | rfl | rfl | rfl | rfl <;> exact h
section A
variable {l : Launch} {L : Nat} {xs : Nat → Int32} {D : Nat} {n : Nat} {K : Mk} {S : Mi} {G : Ml} {P : Mr} {Q : QT} {bg : Int32} {hf : (Nat → Int32) → Bool} {kd v v0 : Int32} {rw : Nat → Int32}
set_option maxRecDepth 20000
theorem m_readies {a p q d : Nat} {us la : Int32} (ha : TA a) (hp : p < 6) (hq : q < 6) (hd : d < 20000) (hc : CP a n K S P bg hf p q kd v0 rw us la) (h1 : opn bg la d = true → ∀ S', Fc S S' → S' (a + 10) 1 = v → S' (a + 10) 2 = nI d → S' (a + 10) 3 = us → S' (a + 10) 4 = bits4 (fun w => hf (vls (nI p) (nI q) kd v (nI w) (nI d))) → S' (a + 10) 5 = rw (d % 4) → Q (some (.int 1)) n K S' G P) (h0 : opn bg la d = false → Q (some (.int 0)) n K S G P) : Ok l L xs T1 (D + 4) jX9_readies 0 [.ref a, .int (nI p), .int (nI q), .int v, .int (nI d)] n K S G P Q := by
  refine I_X9_readies (by decide) (fun At go => ?_)
  have hc' := hc
  obtain ⟨hH, ⟨w, k, g1, g2, g3, g4, g5, g6, g7, g8⟩, hr, hu, hl⟩ := hc
  have ho : NA (a + 10) := by rcases ha with rfl | rfl | rfl <;> unfold NA <;> omega
  have A142 : opn bg la d = true → ∀ S1 : Mi, (∀ b j, b ≠ a + 10 → b ≠ a + 11 → S1 b j = S b j) → (S1 (a + 11) 0 = nI p ∧ S1 (a + 11) 1 = nI q ∧ S1 (a + 11) 2 = kd ∧ S1 (a + 11) 3 = v ∧ S1 (a + 11) 5 = rmI (nI d) 10) → S1 (a + 10) 1 = v → S1 (a + 10) 2 = nI d → S1 (a + 10) 3 = us → S1 (a + 10) 5 = rw (d % 4) → At 142 [.ref a, .int (nI p), .int (nI q), .int v, .int (nI d)] [] n K S1 G P 0 := by
    intro eo S1 f1 f2 f3 f4 f5 f6
    have fin : ∀ S2 : Mi, (∀ b j, scr b = false → S2 b j = S1 b j) → (∀ j, j ≠ 4 → S2 (a + 10) j = S1 (a + 10) j) → S2 (a + 10) 4 = bits4 (fun w => hf (vls (nI p) (nI q) kd v (nI w) (nI d))) → Q (some (.int 1)) n K S2 G P := by
      intro S2 e1 e2 e3
      refine h1 eo S2 (fun b j hb => ?_) ((e2 1 (by decide)).trans f3) ((e2 2 (by decide)).trans f4) ((e2 3 (by decide)).trans f5) e3 ((e2 5 (by decide)).trans f6)
      rw [e1 b j hb]
      refine f1 b j (fun e => ?_) (fun e => ?_)
      · rw [e] at hb
        rcases ha with rfl | rfl | rfl <;> cases hb
      · rw [e] at hb
        rcases ha with rfl | rfl | rfl <;> cases hb
    have fr1 : ∀ b j, scr b = false → S1 b j = S b j := fun b j hb => f1 b j (fun e => by
        rw [e] at hb
        rcases ha with rfl | rfl | rfl <;> cases hb) (fun e => by
        rw [e] at hb
        rcases ha with rfl | rfl | rfl <;> cases hb)
    have hv : ∀ w i, i < 6 → i ≠ 4 → S1 (a + 10 + 1) i = vls (nI p) (nI q) kd v w (nI d) i := by
      intro w i hi h4
      match i, hi, h4 with
      | 0, _, _ => exact f2.1
      | 1, _, _ => exact f2.2.1
      | 2, _, _ => exact f2.2.2.1
      | 3, _, _ => exact f2.2.2.2.1
      | 4, _, h4 => exact absurd rfl h4
      | 5, _, _ => exact f2.2.2.2.2
    rcases hH with ⟨e1, e2, e3⟩ | ⟨kk, hk, e1, e2⟩
    · have e4 : (15 : Int32) = bits4 (fun w => hf (vls (nI p) (nI q) kd v (nI w) (nI d))) := by
        rw [← bits4_15]
        exact bits4_ext (fun w _ => (e3 _).symm)
      have fin2 := fin (up2 S1 (a + 10) 4 15) (fun b j hb => by
        unfold up2
        rw [if_neg (fun e => by rw [e] at hb; rcases ha with rfl | rfl | rfl <;> cases hb)]) (fun j hj => by
        unfold up2
        rw [if_pos rfl, va_up_ne _ _ hj]) (by
        unfold up2
        rw [if_pos rfl, va_up_self]
        exact e4)
      rcases ha with rfl | rfl | rfl <;> (
      refine go [142] 60 _ _ _ _ _ _ _ _ _ ?_
      refine rf_n e1 ?_
      exact fin2)
    · have hS1 : SC (84 + 6 * kk) S1 bg hf := by
        refine SC_fr (fun j => ?_) e2
        rcases SD_of hk with e | e | e | e | e | e <;> (rw [e]; exact ⟨fr1 _ _ rfl, fr1 _ _ rfl, fr1 _ _ rfl, fr1 _ _ rfl⟩)
      have hs4 : scr (84 + 6 * kk + 4) = true := by rcases SD_of hk with e | e | e | e | e | e <;> (rw [e]; rfl)
      have fin2 : ∀ S2 : Mi, (∀ b j, b ≠ 84 + 6 * kk + 4 → S2 b j = S1 b j) → Q (some (.int 1)) n K (up2 S2 (a + 10) 4 (bits4 (fun w => hf (vls (nI p) (nI q) kd v (nI w) (nI d))))) G P := by
        intro S2 hS2
        refine fin _ (fun b j hb => ?_) (fun j hj => ?_) ?_
        · unfold up2
          rw [if_neg (fun e => by rw [e] at hb; rcases ha with rfl | rfl | rfl <;> cases hb)]
          exact hS2 b j (fun e => by rw [e, hs4] at hb; cases hb)
        · unfold up2
          rw [if_pos rfl, va_up_ne _ _ hj]
          refine hS2 _ _ ?_
          rcases ha with rfl | rfl | rfl <;> omega
        · unfold up2
          rw [if_pos rfl, va_up_self]
      rcases ha with rfl | rfl | rfl <;> (
      refine go [142] 60 _ _ _ _ _ _ _ _ _ ?_
      refine rf_s e1 ?_
      refine rf_v e1 ?_
      refine sv_go (SD_of hk) ?_
      refine m_heardWords (D := D) (SD_of hk) ho hS1 hv (fun S2 hS2 => ?_)
      exact fin2 S2 hS2)
  have big : ∀ m, m < 150 → w ≠ m := fun m hm => by have := g4.1; omega
  have xi := @ix6 p q
  have d4 : rmI (nI d) 4 = nI (d % 4) := rm_i (by omega) (by decide)
  have xr : nI p * 4 + rmI (nI d) 4 = nI (4 * p + d % 4) := by rw [d4, show (4 : Int32) = nI 4 from rfl, pk_mul, nI_add, Nat.mul_comm]
  have x1 : ixB (nI p * 4 + rmI (nI d) 4) 24 = true := by rw [xr]; exact ixB_nI (by omega) (by decide)
  have hrr : ∀ f : Nat → Int32, (∀ j, f j = S (a + 3) j) → f (nI p * 4 + rmI (nI d) 4).toNatClampNeg = rw (d % 4) := fun f hf => by rw [xr, nI_clamp (by omega), hf]; exact hr _ (by omega)
  have hpp : P (a + 1) (nI p).toNatClampNeg = some w := by rw [nI_clamp (by omega)]; exact g1
  have hkd : S w 0 = kd := g5.trans g3.symm
  have hu' : S (a + 5) (nI (6 * p + q)).toNatClampNeg = us := by rw [nI_clamp (by omega)]; exact hu
  have hl' : S (a + 6) (nI (6 * p + q)).toNatClampNeg = la := by rw [nI_clamp (by omega)]; exact hl
  have hr' : S (a + 3) (nI p * 4 + rmI (nI d) 4).toNatClampNeg = rw (d % 4) := by rw [xr, nI_clamp (by omega)]; exact hr _ (by omega)
  have hopen : opn bg la d = true → At 26 [.ref a, .int (nI p), .int (nI q), .int v, .int (nI d)] [] n K S G P 0 := by
    intro eo
    have A := A142 eo
    have ha' := ha
    rcases ha with rfl | rfl | rfl <;> (
    refine go [142] 100 _ _ _ _ _ _ _ _ _ ?_
    refine ite_t (ixB_nI hp (by decide)) ?_
    refine rf_v hpp ?_
    refine sh_p g4 ?_
    refine kg g2 (by decide) ?_
    refine m_pairN ?_
    refine ite_t (ixB_nI (by omega) (by decide)) ?_
    refine ite_t x1 ?_
    refine A _ (fun b j e1 e2 => ?_) ⟨rfl, rfl, Eq.trans ?_ hkd, rfl, rfl⟩ rfl rfl hu' hr'
    · have e1' := e1
      have e2' := e2
      simp only [up2, if_neg e1', if_neg e2']
    · show up2 (up2 S _ _ _) _ _ _ w 0 = S w 0
      unfold up2
      rw [if_neg (big _ (by decide)), if_neg (big _ (by decide))])
  have hclosed : opn bg la d = false → At 24 [.ref a, .int (nI p), .int (nI q), .int v, .int (nI d)] [] n K S G P 0 := by
    intro eo
    refine go [] 60 _ _ _ _ _ _ _ _ _ ?_
    exact h0 eo
  have ha' := ha
  rcases ha with rfl | rfl | rfl <;> (
  refine go [24, 26] 60 _ _ _ _ _ _ _ _ _ ?_
  refine m_firstDay ha' hH ?_
  refine ite_i (fun c1 => ?_) (fun c1 => ?_)
  · exact hclosed (by unfold opn; rw [decide_eq_true c1]; rfl)
  · refine m_pairN ?_
    refine ite_t (ixB_nI (by omega) (by decide)) ?_
    refine ite_i (fun c2 => ?_) (fun c2 => ?_)
    · have c2' := c2.trans hl'
      exact hclosed (by unfold opn; rw [decide_eq_true c2', Bool.or_true]; rfl)
    · have c2' : ¬ nI d = la := fun e => c2 (e.trans hl'.symm)
      exact hopen (by unfold opn; rw [decide_eq_false c1, decide_eq_false c2']; rfl))
theorem m_countingWords {a p q d : Nat} {us la : Int32} (ha : TA a) (hp : p < 6) (hq : q < 6) (hd : d < 20000) (hvn : ∃ j, j < 10 ∧ v = nI j) (hc : CP a n K S P bg hf p q kd v0 rw us la) (h : ∀ S', Fc S S' → Q (some (.int (bits4 (fun w => cnt bg hf (nI p) (nI q) kd v rw us la d w)))) n K S' G P) : Ok l L xs T1 (D + 5) jX9_countingWords 0 [.ref a, .int (nI p), .int (nI q), .int v, .int (nI d)] n K S G P Q := by
  refine I_X9_countingWords (by decide) (fun At go => ?_)
  have hc' := hc
  obtain ⟨hH, ⟨w, k, g1, g2, g3, g4, g5, g6, g7, g8⟩, hr, hu, hl⟩ := hc
  have ho : NA (a + 10) := by rcases ha with rfl | rfl | rfl <;> unfold NA <;> omega
  have hpp : P (a + 1) (nI p).toNatClampNeg = some w := by rw [nI_clamp (by omega)]; exact g1
  have call : ∀ Q', (opn bg la d = true → ∀ S', Fc S S' → S' (a + 10) 1 = v → S' (a + 10) 2 = nI d → S' (a + 10) 3 = us → S' (a + 10) 4 = bits4 (fun w => hf (vls (nI p) (nI q) kd v (nI w) (nI d))) → S' (a + 10) 5 = rw (d % 4) → Q' (some (.int 1)) n K S' G P) → (opn bg la d = false → Q' (some (.int 0)) n K S G P) → Ok l L xs T1 (D + 4) jX9_readies 0 [.ref a, .int (nI p), .int (nI q), .int v, .int (nI d)] n K S G P Q' := fun Q' q1 q0 => m_readies ha hp hq hd hc' q1 q0
  have fin1 : opn bg la d = true → ∀ S', Fc S S' → Q (some (.int (bits4 (fun w => cntK kd v rw d w (hf (vls (nI p) (nI q) kd v (nI w) (nI d))) (hf (vls (nI p) (nI q) kd v (nI w) (nI d)) && usB us w))))) n K S' G P := by
    intro eo S' hS
    have := h S' hS
    rw [bits4_ext (g := fun w => cntK kd v rw d w (hf (vls (nI p) (nI q) kd v (nI w) (nI d))) (hf (vls (nI p) (nI q) kd v (nI w) (nI d)) && usB us w)) (fun w _ => by unfold cnt; rw [eo, Bool.true_and])] at this
    exact this
  have fin0 : opn bg la d = false → Q (some (.int 0)) n K S G P := by
    intro eo
    have := h S (Fc.rf S)
    rw [bits4_ext (g := fun _ => false) (fun w _ => by unfold cnt; rw [eo, Bool.false_and]), bits4_0] at this
    exact this
  have words : ∀ Q' S', opn bg la d = true → Fc S S' → S' (a + 10) 1 = v → S' (a + 10) 2 = nI d → S' (a + 10) 3 = us → S' (a + 10) 4 = bits4 (fun w => hf (vls (nI p) (nI q) kd v (nI w) (nI d))) → S' (a + 10) 5 = rw (d % 4) → Q' (some (.int (bits4 (fun w => cntK kd v rw d w (hf (vls (nI p) (nI q) kd v (nI w) (nI d))) (hf (vls (nI p) (nI q) kd v (nI w) (nI d)) && usB us w))))) n K S' G P → Ok l L xs T1 (D + 4) (jsel 0 (kcl k)) 0 [.ref w, .ref (a + 10)] n K S' G P Q' := by
    intro Q' S' eo hS e1 e2 e3 e4 e5 hQ
    rw [g3] at hQ e4
    exact m_words (D := D + 1) g2 g4 ho hvn hd e1 e2 e3 e4 e5 hQ
  have a29 : ∀ S' x, Q (some (.int x)) n K S' G P → At 29 [.ref a, .int (nI p), .int (nI q), .int v, .int (nI d)] [.int x] n K S' G P 0 := by
    intro S' x hx
    refine go [] 60 _ _ _ _ _ _ _ _ _ ?_
    exact hx
  have a28 : opn bg la d = false → At 28 [.ref a, .int (nI p), .int (nI q), .int v, .int (nI d)] [] n K S G P 0 := by
    intro eo
    refine go [] 60 _ _ _ _ _ _ _ _ _ ?_
    exact fin0 eo
  rcases ha with rfl | rfl | rfl <;> (
  refine go [28, 29] 60 _ _ _ _ _ _ _ _ _ ?_
  refine call _ (fun eo S' hS e1 e2 e3 e4 e5 => ?_) (fun eo => ?_)
  · refine ite_t (ixB_nI hp (by decide)) ?_
    refine rf_v hpp ?_
    refine sh_p g4 ?_
    refine v_go g2 (by decide) rfl ?_
    refine words _ S' eo hS e1 e2 e3 e4 e5 ?_
    exact a29 _ _ (fin1 eo S' hS)
  · exact a28 eo)
end A
end

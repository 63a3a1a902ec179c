noncomputable section
/-! THE INVARIANT: the component's half, the model's half, what both share. N: numbers (0 people, 1 day, 2 streets, 3 text, 4 people of the image, 5 day of the image, 6 bodies ran); d: 0 the town, 1 the image, 2 the text, 3 0 whether there is an image, 4 sorts, 5 sizes, 6 bodies; g the items; sd the streets. -/
def SMb (cd k : Nat) (S : Mi) (b : Int32) (hf : (Nat → Int32) → Bool) : Prop := ∃ (cn : Nat) (cw : Nat → Nat) (cu : Nat → Int32) (bs : Nat → Nat) (lk : Nat → List Nat) (sem : Nat → (Nat → Int32) → Bool), cn ≤ 10 ∧ S 129 k = nI cn ∧ (∀ i, i < cn → cw i < 3 ∧ S 130 (10 * k + i) = nI (cw i) ∧ S 131 (10 * k + i) = cu i ∧ (cw i = 2 ∨ (S 132 (10 * k + i) = nI (bs i) ∧ S 133 (10 * k + i) = nI (lk i).length ∧ bs i + (lk i).length ≤ cd ∧ (∀ j, j < (lk i).length → S 134 (bs i + j) = nI ((lk i).getD j 0)) ∧ (∀ x, x ∈ lk i → x < 1803) ∧ ∀ vals, ev 110 (lk i) vals [] = some [sem i vals]))) ∧ b = lastb cw cu cn ∧ ∀ vals, hf vals = decide (0 < lou (wM cw cu) sem vals cn)
theorem SMb_SM {cd k : Nat} {S : Mi} {b : Int32} {hf : (Nat → Int32) → Bool} (h8 : cd ≤ 800) (h : SMb cd k S b hf) : SM k S b hf := by
  obtain ⟨cn, cw, cu, bs, lk, sem, h1, h2, h3, h4⟩ := h
  refine ⟨cn, cw, cu, bs, lk, sem, h1, h2, fun i hi => ?_, h4⟩
  obtain ⟨g1, g2, g3, g4⟩ := h3 i hi
  refine ⟨g1, g2, g3, ?_⟩
  rcases g4 with g4 | ⟨f1, f2, f3, f4⟩
  · exact .inl g4
  · exact .inr ⟨f1, f2, by omega, f4⟩
/-- what lies behind the codes may change -/
theorem SMb_fr {cd cd' k : Nat} {S S' : Mi} {b : Int32} {hf : (Nat → Int32) → Bool} (hc : cd ≤ cd') (h1 : ∀ j, j < cd → S' 134 j = S 134 j) (h2 : S' 129 k = S 129 k) (h3 : ∀ a i, 130 ≤ a → a ≤ 133 → i < 10 → S' a (10 * k + i) = S a (10 * k + i)) (hs : SMb cd k S b hf) : SMb cd' k S' b hf := by
  obtain ⟨cn, cw, cu, bs, lk, sem, g1, g2, g3, g4⟩ := hs
  refine ⟨cn, cw, cu, bs, lk, sem, g1, h2.trans g2, fun i hi => ?_, g4⟩
  obtain ⟨e1, e2, e3, e4⟩ := g3 i hi
  refine ⟨e1, (h3 _ _ (by decide) (by decide) (by omega)).trans e2, (h3 _ _ (by decide) (by decide) (by omega)).trans e3, ?_⟩
  rcases e4 with e4 | ⟨f1, f2, f3, f4, f5⟩
  · exact .inl e4
  · exact .inr ⟨(h3 _ _ (by decide) (by decide) (by omega)).trans f1, (h3 _ _ (by decide) (by decide) (by omega)).trans f2, by omega, fun j hj => (h1 _ (by omega)).trans (f4 j hj), f5⟩
def hdr (x : Int32) : Option Nat := if x = -1 then none else some (84 + 6 * x.toNatClampNeg)
def hdS (sd : Nat → Int32 × ((Nat → Int32) → Bool)) (x : Int32) : Int32 × ((Nat → Int32) → Bool) := if x = -1 then (0, fun _ => true) else sd x.toNatClampNeg
def TC (a : Nat) (tw : Nat → Int32) (np n : Nat) (K : Mk) (S : Mi) (P : Mr) : Prop := RC a tw S ∧ (∀ p, p < np → Psn a n K S P p (tw p) (tw (6 + p))) ∧ P a 8 = hdr (tw 224)
def STC (sd : Nat → Int32 × ((Nat → Int32) → Bool)) (ns : Nat) (S : Mi) : Prop := ∀ k, k < ns → SC (84 + 6 * k) S (sd k).1 (sd k).2
def STM (sd : Nat → Int32 × ((Nat → Int32) → Bool)) (ns cd : Nat) (S : Mi) : Prop := S 120 23 = nI cd ∧ cd ≤ 100 * ns ∧ ∀ k, k < ns → SMb cd k S (sd k).1 (sd k).2
def SaidOk (tw : Nat → Int32) (np : Nat) : Prop := ∃ r, r ≤ 5 ∧ tw 221 = nI r ∧ ∀ i, i < r → ∃ p q w t, p < np ∧ q < np ∧ w < 4 ∧ t ≤ 20 ∧ tw (150 + i) = nI p ∧ tw (155 + i) = nI q ∧ tw (160 + i) = nI w ∧ tw (165 + i) = nI t ∧ (tw (170 + i) = 0 ∨ tw (170 + i) = 1)
def PlanOk (tw : Nat → Int32) (np : Nat) : Prop := ∃ r, r ≤ 10 ∧ tw 222 = nI r ∧ ∀ i, i < r → tw (175 + i) = 0 ∨ (tw (175 + i) = 1 ∧ ∃ p q w, p < np ∧ q < np ∧ p ≠ q ∧ w < 4 ∧ tw (185 + i) = nI (100 * p + 10 * q + w))
def BookOk (tw : Nat → Int32) (np : Nat) : Prop := ∃ r, r ≤ 8 ∧ tw 223 = nI r ∧ ∀ i, i < r → ∃ p q, p < np ∧ q < np ∧ tw (195 + i) = nI p ∧ tw (203 + i) = nI q
def TwOk (tw : Nat → Int32) (np dy ns : Nat) : Prop := (tw 219 = nI np ∧ np ≤ 6) ∧ (tw 220 = nI dy ∧ dy ≤ 10050) ∧ (tw 224 = -1 ∨ ∃ k, k < ns ∧ tw 224 = nI k) ∧ (∀ p, p < np → (∃ k, k < 7 ∧ tw p = nI k) ∧ ∃ j, j < 10 ∧ tw (6 + p) = nI j) ∧ (∀ i, i < 36 → (tw (114 + i)).toInt ≤ dy) ∧ (∀ i, i < 36 → ∃ t, t < 3 ∧ tw (42 + i) = nI t) ∧ SaidOk tw np ∧ PlanOk tw np ∧ BookOk tw np
def InvC (N : Nat → Nat) (d : Nat → Nat → Int32) (g : Nat → Int64) (sd : Nat → Int32 × ((Nat → Int32) → Bool)) (n : Nat) (K : Mk) (S : Mi) (G : Ml) (P : Mr) : Prop :=
  (TC 33 (d 0) (N 0) n K S P ∧ S 32 3 = d 3 0 ∧ (d 3 0 = 1 → TC 45 (d 1) (N 4) n K S P)) ∧
  (STC sd (N 2) S ∧ S 32 7 = nI (N 2) ∧ ∀ i, i < 6 → P 70 i = some (84 + 6 * i)) ∧
  (S 32 5 = nI (N 3) ∧ ∀ i, i < N 3 → S 69 i = d 2 i) ∧
  ((∀ t, t < 6 → S 82 t = d 4 t ∧ S 83 t = d 5 t ∧ P 75 t = some (76 + t)) ∧ ∀ t i, t < 6 → i < 60 → G (76 + t) i = g (60 * t + i)) ∧
  (S 73 1 = nI (N 6) ∧ ∀ i, i < 20 → i < N 6 → S 74 i = d 6 i)
def InvM (N : Nat → Nat) (d : Nat → Nat → Int32) (g : Nat → Int64) (sd : Nat → Int32 × ((Nat → Int32) → Bool)) (S : Mi) (G : Ml) : Prop :=
  (RM (d 0) S ∧ S 120 40 = d 3 0 ∧ (d 3 0 = 1 → ∀ i, i < 225 → S 147 i = d 1 i)) ∧
  (S 120 15 = nI (N 2) ∧ ∃ cd, STM sd (N 2) cd S) ∧
  (S 120 9 = nI (N 3) ∧ ∀ i, i < N 3 → S 128 i = d 2 i) ∧
  ((∀ t, t < 6 → S 152 t = d 4 t ∧ S 153 t = d 5 t) ∧ ∀ i, i < 360 → G 154 i = g i) ∧
  (S 120 38 = nI (N 6) ∧ ∀ i, i < 20 → i < N 6 → S 146 i = d 6 i)
def DOk (N : Nat → Nat) (d : Nat → Nat → Int32) : Prop := TwOk (d 0) (N 0) (N 1) (N 2) ∧ N 1 ≤ 9999 ∧ (d 3 0 = 0 ∨ (d 3 0 = 1 ∧ TwOk (d 1) (N 4) (N 5) (N 2) ∧ N 5 ≤ 9999)) ∧ N 2 ≤ 6 ∧ (N 3 ≤ 100 ∧ ∀ i, i < N 3 → ∃ c, c < 128 ∧ d 2 i = nI c) ∧ (∀ t, t < 6 → (d 4 t = -1 ∧ d 5 t = 0) ∨ ∃ s m, s < 5 ∧ m ≤ 60 ∧ d 4 t = nI s ∧ d 5 t = nI m) ∧ N 6 ≤ 100
/-- what the component may change without being asked -/
def scr2 (b : Nat) : Bool := scr b || (Nat.ble 57 b && Nat.ble b 68 || (Nat.beq b 71 || Nat.beq b 72)) || (Nat.ble 120 b && Nat.ble b 154) || Nat.beq b 89 || Nat.beq b 95 || Nat.beq b 101 || Nat.beq b 107 || Nat.beq b 113 || Nat.beq b 119
def scm (b j : Nat) : Bool := Nat.blt b 120 || Nat.blt 154 b || Nat.beq b 135 || (Nat.ble 148 b && Nat.ble b 151) || (Nat.beq b 120 && (Nat.beq j 11 || Nat.beq j 12 || Nat.beq j 13 || Nat.beq j 14 || Nat.beq j 46))
theorem scr2_big {w : Nat} (h : 155 ≤ w) : scr2 w = false := by
  have hh : ∀ k, k < 155 → Nat.beq w k = false := fun k hk => by
    cases e : Nat.beq w k with
    | false => rfl
    | true => exact absurd (Nat.eq_of_beq_eq_true e) (by omega)
  have h1 : Nat.ble w 68 = false := by
    cases e : Nat.ble w 68 with
    | false => rfl
    | true => exact absurd (Nat.le_of_ble_eq_true e) (by omega)
  have h2 : Nat.ble w 154 = false := by
    cases e : Nat.ble w 154 with
    | false => rfl
    | true => exact absurd (Nat.le_of_ble_eq_true e) (by omega)
  unfold scr2
  rw [scr_big (by omega), h1, h2, hh 71 (by decide), hh 72 (by decide), hh 89 (by decide), hh 95 (by decide), hh 101 (by decide), hh 107 (by decide), hh 113 (by decide), hh 119 (by decide)]
  simp
theorem Psn_f2 {a n : Nat} {K : Mk} {S S' : Mi} {P : Mr} {p : Nat} {kd v : Int32} (h : ∀ b j, 155 ≤ b → S' b j = S b j) (hs : Psn a n K S P p kd v) : Psn a n K S' P p kd v := by
  obtain ⟨w, k, h1, h2, h3, h4, h5, h6, h7, h8⟩ := hs
  have g := h4.1
  exact ⟨w, k, h1, h2, h3, h4, (h _ _ g).trans h5, (h _ _ g).trans h6, (h _ _ g).trans h7, h8⟩
theorem SC_f2 {S S' : Mi} {k : Nat} {bg : Int32} {hf : (Nat → Int32) → Bool} (hk : k < 6) (h : ∀ b j, scr2 b = false → S' b j = S b j) (hs : SC (84 + 6 * k) S bg hf) : SC (84 + 6 * k) S' bg hf := by
  refine SC_fr (fun j => ?_) hs
  rcases SD_of hk with e | e | e | e | e | e <;> (rw [e]; exact ⟨h _ _ rfl, h _ _ rfl, h _ _ rfl, h _ _ rfl⟩)
theorem TC_fr {a : Nat} {tw : Nat → Int32} {np n : Nat} {K : Mk} {S S' : Mi} {P : Mr} (ha : a = 33 ∨ a = 45) (h : ∀ b j, scr2 b = false → S' b j = S b j) (hs : TC a tw np n K S P) : TC a tw np n K S' P := by
  obtain ⟨h1, h2, h3⟩ := hs
  refine ⟨RC_fr (fun b j hb _ => h _ _ ?_) h1, fun p hp => Psn_f2 (fun b j hb => h _ _ (scr2_big hb)) (h2 p hp), h3⟩
  have f : ∀ b, b < 10 → scr2 (33 + b) = false ∧ scr2 (45 + b) = false := by decide
  rcases ha with rfl | rfl
  · exact (f b hb).1
  · exact (f b hb).2
theorem InvC_fr {N : Nat → Nat} {d : Nat → Nat → Int32} {g : Nat → Int64} {sd : Nat → Int32 × ((Nat → Int32) → Bool)} {n : Nat} {K : Mk} {S S' : Mi} {G : Ml} {P : Mr} (h6 : N 2 ≤ 6) (h : ∀ b j, scr2 b = false → S' b j = S b j) (hs : InvC N d g sd n K S G P) : InvC N d g sd n K S' G P := by
  obtain ⟨⟨h1, h2, h3⟩, ⟨h4, h5, h5'⟩, ⟨h7, h8⟩, ⟨h9, h10⟩, h11, h12⟩ := hs
  refine ⟨⟨TC_fr (.inl rfl) h h1, (h _ _ rfl).trans h2, fun e => TC_fr (.inr rfl) h (h3 e)⟩, ⟨fun k hk => SC_f2 (by omega) h (h4 k hk), (h _ _ rfl).trans h5, h5'⟩, ⟨(h _ _ rfl).trans h7, fun i hi => (h _ _ rfl).trans (h8 i hi)⟩, ⟨fun t ht => ⟨(h _ _ rfl).trans (h9 t ht).1, (h _ _ rfl).trans (h9 t ht).2.1, (h9 t ht).2.2⟩, h10⟩, (h _ _ rfl).trans h11, fun i hi hj => (h _ _ rfl).trans (h12 i hi hj)⟩
theorem mloc_scm : ∀ k, k < 225 → scm (mloc k).1 (mloc k).2 = false := by decide +kernel
theorem InvM_fr {N : Nat → Nat} {d : Nat → Nat → Int32} {g : Nat → Int64} {sd : Nat → Int32 × ((Nat → Int32) → Bool)} {S S' : Mi} {G : Ml} (h : ∀ b j, scm b j = false → S' b j = S b j) (hs : InvM N d g sd S G) : InvM N d g sd S' G := by
  obtain ⟨⟨h1, h2, h3⟩, ⟨h4, cd, h5, h5', h6⟩, ⟨h7, h8⟩, ⟨h9, h10⟩, h11, h12⟩ := hs
  refine ⟨⟨RM_fr (fun k hk => h _ _ (mloc_scm k hk)) h1, (h _ _ rfl).trans h2, fun e i hi => (h _ _ rfl).trans (h3 e i hi)⟩, ⟨(h _ _ rfl).trans h4, cd, (h _ _ rfl).trans h5, h5', fun k hk => SMb_fr (Nat.le_refl _) (fun j _ => h _ _ rfl) (h _ _ rfl) (fun a i ha hb _ => ?_) (h6 k hk)⟩, ⟨(h _ _ rfl).trans h7, fun i hi => (h _ _ rfl).trans (h8 i hi)⟩, ⟨fun t ht => ⟨(h _ _ rfl).trans (h9 t ht).1, (h _ _ rfl).trans (h9 t ht).2⟩, h10⟩, (h _ _ rfl).trans h11, fun i hi hj => (h _ _ rfl).trans (h12 i hi hj)⟩
  have e : a = 130 ∨ a = 131 ∨ a = 132 ∨ a = 133 := by omega
  rcases e with rfl | rfl | rfl | rfl <;> exact h _ _ rfl
/-- each half lies apart -/
def FrC (S S' : Mi) : Prop := ∀ b j, 120 ≤ b → b ≤ 154 → S' b j = S b j
def FrM (S S' : Mi) : Prop := ∀ b j, (b < 120 ∨ 154 < b) → S' b j = S b j
theorem InvM_o {N : Nat → Nat} {d : Nat → Nat → Int32} {g : Nat → Int64} {sd : Nat → Int32 × ((Nat → Int32) → Bool)} {S S' : Mi} {G G' : Ml} (h : FrC S S') (hg : G' 154 = G 154) (hs : InvM N d g sd S G) : InvM N d g sd S' G' := by
  have hs' := InvM_fr (S' := S') (fun b j hb => ?_) hs
  · obtain ⟨h1, h2, h3, ⟨h4, h5⟩, h6⟩ := hs'
    exact ⟨h1, h2, h3, ⟨h4, by rw [hg]; exact h5⟩, h6⟩
  · refine h b j ?_ ?_
    · refine Classical.byContradiction (fun z => ?_)
      have : Nat.blt b 120 = true := by rw [Nat.blt_eq]; omega
      unfold scm at hb
      rw [this] at hb
      cases hb
    · refine Classical.byContradiction (fun z => ?_)
      have : Nat.blt 154 b = true := by rw [Nat.blt_eq]; omega
      unfold scm at hb
      rw [this, Bool.or_true] at hb
      cases hb
theorem InvC_o {N : Nat → Nat} {d : Nat → Nat → Int32} {g : Nat → Int64} {sd : Nat → Int32 × ((Nat → Int32) → Bool)} {n : Nat} {K : Mk} {S S' : Mi} {G G' : Ml} {P : Mr} (h6 : N 2 ≤ 6) (h : FrM S S') (hg : ∀ b, b ≠ 154 → G' b = G b) (hs : InvC N d g sd n K S G P) : InvC N d g sd n K S' G' P := by
  have hs' := InvC_fr (S' := S') h6 (fun b j hb => ?_) hs
  · obtain ⟨h1, h2, h3, ⟨h4, h5⟩, h6⟩ := hs'
    exact ⟨h1, h2, h3, ⟨h4, fun t i ht hi => by rw [hg _ (by omega)]; exact h5 t i ht hi⟩, h6⟩
  · refine h b j ?_
    refine Classical.byContradiction (fun z => ?_)
    have e1 : Nat.ble 120 b = true := Nat.ble_eq_true_of_le (by omega)
    have e2 : Nat.ble b 154 = true := Nat.ble_eq_true_of_le (by omega)
    unfold scr2 at hb
    rw [e1, e2] at hb
    simp at hb
end

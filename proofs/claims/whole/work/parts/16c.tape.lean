noncomputable section
/-! TAPE, ITEM. -/
def okTp (x y z : Int32) : Prop := inR 6 x = true ∧ (y = -1 ∨ (inR 5 y = true ∧ inR 61 z = true))
def rTp0 (x y z : Int32) : Int32 := if inR 6 x = true then (if inR 5 y = true then (if z.toInt < 0 then -14 else -2) else -2) else -1
def tpD (d : Nat → Nat → Int32) (x y z : Int32) : Nat → Nat → Int32 := upR (upR d 4 (va_up (d 4) x.toNatClampNeg y)) 5 (va_up (d 5) x.toNatClampNeg (if y = -1 then 0 else z))
def tpG (g : Nat → Int64) (t : Nat) : Nat → Int64 := fun i => if 60 * t ≤ i ∧ i < 60 * t + 60 then 0 else g i
def narV (s : Int32) (v : Int64) : Int64 := if s = 0 then (v.toInt32.toInt8.toInt32).toInt64 else if s = 1 then (v.toInt32.toInt16.toInt32).toInt64 else if s = 2 then v.toInt32.toInt64 else if s = 4 then (if v = 0 then 0 else 1) else v
section I
variable {N : Nat → Nat} {d : Nat → Nat → Int32} {g g' : Nat → Int64} {sd : Nat → Int32 × ((Nat → Int32) → Bool)} {n : Nat} {K : Mk} {S S' : Mi} {G G' : Ml} {P : Mr} {t : Nat} {y z : Int32}
theorem InvC_tp (hD : DOk N d) (ht : t < 6) (hI : InvC N d g sd n K S G P) (hf : ∀ b j, b ≠ 82 → b ≠ 83 → S' b j = S b j) (h4' : ∀ j, S' 82 j = va_up (S 82) t y j) (h5' : ∀ j, S' 83 j = va_up (S 83) t z j) (hg : ∀ t i, t < 6 → i < 60 → G' (76 + t) i = g' (60 * t + i)) : InvC N (upR (upR d 4 (va_up (d 4) t y)) 5 (va_up (d 5) t z)) g' sd n K S' G' P := by
  obtain ⟨⟨h1, h2, h3⟩, ⟨h4, h5, h5''⟩, ⟨h7, h8⟩, ⟨h9, h10⟩, h11, h12⟩ := hI
  have n6 := hD.2.2.2.1
  have tc : ∀ a tw np, (a = 33 ∨ a = 45) → TC a tw np n K S P → TC a tw np n K S' P := fun a tw np ha ⟨f1, f2, f3⟩ => ⟨RC_fr (fun b j hb _ => hf _ _ (by omega) (by omega)) f1, fun p hp => Psn_f2 (fun b j hb => hf _ _ (by omega) (by omega)) (f2 p hp), f3⟩
  refine ⟨⟨tc _ _ _ (.inl rfl) h1, (hf _ _ (by decide) (by omega)).trans h2, fun e => tc _ _ _ (.inr rfl) (h3 e)⟩, ⟨fun k hk => ?_, (hf _ _ (by decide) (by omega)).trans h5, h5''⟩, ⟨(hf _ _ (by decide) (by omega)).trans h7, fun i hi => (hf _ _ (by decide) (by omega)).trans (h8 i hi)⟩, ⟨fun u hu => ⟨?_, ?_, (h9 u hu).2.2⟩, hg⟩, (hf _ _ (by decide) (by omega)).trans h11, fun i hi hj => (hf _ _ (by decide) (by omega)).trans (h12 i hi hj)⟩
  · exact SC_fr (fun j => ⟨hf _ _ (by omega) (by omega), hf _ _ (by omega) (by omega), hf _ _ (by omega) (by omega), hf _ _ (by omega) (by omega)⟩) (h4 k hk)
  · refine (h4' u).trans ?_
    show va_up (S 82) t y u = va_up (d 4) t y u
    unfold va_up
    rw [(h9 u hu).1]
  · refine (h5' u).trans ?_
    show va_up (S 83) t z u = va_up (d 5) t z u
    unfold va_up
    rw [(h9 u hu).2.1]
theorem mloc_tp : ∀ k, k < 225 → (mloc k).1 ≠ 152 ∧ (mloc k).1 ≠ 153 := by decide +kernel
theorem InvM_tp (ht : t < 6) (hI : InvM N d g sd S G) (hf : ∀ b j, b ≠ 152 → b ≠ 153 → S' b j = S b j) (h4' : ∀ j, S' 152 j = va_up (S 152) t y j) (h5' : ∀ j, S' 153 j = va_up (S 153) t z j) (hg : ∀ i, i < 360 → G' 154 i = g' i) : InvM N (upR (upR d 4 (va_up (d 4) t y)) 5 (va_up (d 5) t z)) g' sd S' G' := by
  obtain ⟨⟨h1, h2, h3⟩, ⟨h4, cd, h5, h5'', h6⟩, ⟨h7, h8⟩, ⟨h9, h10⟩, h11, h12⟩ := hI
  refine ⟨⟨RM_fr (fun k hk => hf _ _ (mloc_tp k hk).1 (mloc_tp k hk).2) h1, (hf _ _ (by decide) (by omega)).trans h2, fun e i hi => (hf _ _ (by decide) (by omega)).trans (h3 e i hi)⟩, ⟨(hf _ _ (by decide) (by omega)).trans h4, cd, (hf _ _ (by decide) (by omega)).trans h5, h5'', fun k hk => ?_⟩, ⟨(hf _ _ (by decide) (by omega)).trans h7, fun i hi => (hf _ _ (by decide) (by omega)).trans (h8 i hi)⟩, ⟨fun u hu => ⟨?_, ?_⟩, hg⟩, (hf _ _ (by decide) (by omega)).trans h11, fun i hi hj => (hf _ _ (by decide) (by omega)).trans (h12 i hi hj)⟩
  · exact SMb_fr (Nat.le_refl _) (fun j _ => hf _ _ (by decide) (by omega)) (hf _ _ (by decide) (by omega)) (fun a i ha hb _ => hf _ _ (by omega) (by omega)) (h6 k hk)
  · refine (h4' u).trans ?_
    show va_up (S 152) t y u = va_up (d 4) t y u
    unfold va_up
    rw [(h9 u hu).1]
  · refine (h5' u).trans ?_
    show va_up (S 153) t z u = va_up (d 5) t z u
    unfold va_up
    rw [(h9 u hu).2]
/-- only the items change -/
theorem InvC_g (hI : InvC N d g sd n K S G P) (hg : ∀ t i, t < 6 → i < 60 → G' (76 + t) i = g' (60 * t + i)) : InvC N d g' sd n K S G' P := by
  obtain ⟨h1, h4, h7, ⟨h9, h10⟩, h11⟩ := hI
  exact ⟨h1, h4, h7, ⟨h9, hg⟩, h11⟩
theorem InvM_g (hI : InvM N d g sd S G) (hg : ∀ i, i < 360 → G' 154 i = g' i) : InvM N d g' sd S G' := by
  obtain ⟨h1, h4, h7, ⟨h9, h10⟩, h11⟩ := hI
  exact ⟨h1, h4, h7, ⟨h9, hg⟩, h11⟩
theorem d_tape (hD : DOk N d) {x y z : Int32} (h : okTp x y z) : DOk N (tpD d x y z) := by
  obtain ⟨d1, d2, d3, d4, d5, d6, d7⟩ := hD
  refine ⟨d1, d2, d3, d4, d5, fun u hu => ?_, d7⟩
  obtain ⟨hx, hy⟩ := h
  obtain ⟨t, ht, rfl⟩ := inR_ex hx
  have e4 : tpD d (nI t) y z 4 u = va_up (d 4) t y u := by unfold tpD; rw [nI_clamp (by omega)]; rfl
  have e5 : tpD d (nI t) y z 5 u = va_up (d 5) t (if y = -1 then 0 else z) u := by unfold tpD; rw [nI_clamp (by omega)]; rfl
  rw [e4, e5]
  unfold va_up
  by_cases e : u = t
  · rw [if_pos e, if_pos e]
    rcases hy with rfl | ⟨h1, h2⟩
    · exact .inl ⟨rfl, if_pos rfl⟩
    · obtain ⟨s, hs, rfl⟩ := inR_ex h1
      obtain ⟨m, hm, rfl⟩ := inR_ex h2
      refine .inr ⟨s, m, hs, by omega, rfl, if_neg (fun c => ?_)⟩
      rw [eq_i, nI_toInt (by omega), t_m1] at c
      omega
  · rw [if_neg e, if_neg e]
    exact d6 u hu
end I
section A
variable {l : Launch} {L : Nat} {xs : Nat → Int32} {D : Nat} {n : Nat} {K : Mk} {S : Mi} {G : Ml} {P : Mr} {Q : QT} {N : Nat → Nat} {d : Nat → Nat → Int32} {g : Nat → Int64} {sd : Nat → Int32 × ((Nat → Int32) → Bool)}
set_option maxRecDepth 20000
theorem rf_ls {A : Int64 → Int32 → Nat → List Value → Prop} {y : Option Nat} {b : Nat} {q : List Value} {i : Int32} {v : Int64} (h : y = some b) (hA : A v i b q) : (match Value.long v :: Value.int i :: va_rf y :: q with
    | .long v :: .int i :: .ref a :: q' => A v i a q'
    | _ => False) := by
  subst h
  exact hA
theorem m_narrowed {T : Tb} {s : Int32} {v : Int64} (h : Q (some (.long (narV s v))) n K S G P) : Ok l L xs T (D + 1) jX11_narrowed 0 [.int s, .long v] n K S G P Q := by
  refine I_X11_narrowed (by decide) (fun At go => ?_)
  unfold narV at h
  have a61 : ∀ r, Q (some (.long r)) n K S G P → At 61 [.int s, .long v, .retAddr 0] [.long r] n K S G P 0 := by
    intro r hr
    refine go [] 60 _ _ _ _ _ _ _ _ _ ?_
    exact hr
  refine go [61] 60 _ _ _ _ _ _ _ _ _ ?_
  refine ite_i (fun c => ?_) (fun c => ?_)
  · rw [if_pos c] at h
    exact h
  rw [if_neg c] at h
  refine ite_i (fun c => ?_) (fun c => ?_)
  · rw [if_pos c] at h
    exact h
  rw [if_neg c] at h
  refine ite_i (fun c => ?_) (fun c => ?_)
  · rw [if_pos c] at h
    exact h
  rw [if_neg c] at h
  refine ite_i (fun c => ?_) (fun c3 => ?_)
  · have c4 : ¬ s = 4 := fun e => by rw [c] at e; exact absurd e (by decide)
    rw [if_neg c4] at h
    exact h
  refine ite_i (fun c => ?_) (fun c => ?_)
  · rw [if_pos c] at h
    refine ite_i (fun c => ?_) (fun c => ?_)
    · rw [lg_cmp_eq] at c
      have c' : v = 0 := c
      rw [if_pos c'] at h
      exact a61 _ h
    · rw [lg_cmp_eq] at c
      have c' : ¬ v = 0 := c
      rw [if_neg c'] at h
      exact a61 _ h
  rw [if_neg c] at h
  exact h
theorem mm_kept {T : Tb} {s : Nat} {v : Int64} (hs : s < 5) (h : Q (some (.long (narV (nI s) v))) n K S G P) : Ok l L xs T (D + 1) jX12_kept 0 [.int (nI s), .long v] n K S G P Q := by
  refine I_X12_kept (by decide) (fun At go => ?_)
  unfold narV at h
  have a59 : ∀ r, Q (some (.long r)) n K S G P → At 59 [.int (nI s), .long v, .retAddr 0] [.long r] n K S G P 0 := by
    intro r hr
    refine go [] 60 _ _ _ _ _ _ _ _ _ ?_
    exact hr
  refine go [59] 60 _ _ _ _ _ _ _ _ _ ?_
  refine ite_i (fun c => ?_) (fun c0 => ?_)
  · rw [if_pos c] at h
    exact h
  rw [if_neg c0] at h
  refine ite_i (fun c => ?_) (fun c1 => ?_)
  · rw [if_pos c] at h
    exact h
  rw [if_neg c1] at h
  refine ite_i (fun c => ?_) (fun c2 => ?_)
  · rw [if_pos c] at h
    exact h
  rw [if_neg c2] at h
  refine ite_i (fun c => ?_) (fun c3 => ?_)
  · have c4 : ¬ nI s = 4 := fun e => by rw [c] at e; exact absurd e (by decide)
    rw [if_neg c4] at h
    exact h
  have c4 : nI s = 4 := by
    have e : s = 0 ∨ s = 1 ∨ s = 2 ∨ s = 3 ∨ s = 4 := by omega
    rcases e with rfl | rfl | rfl | rfl | rfl
    · exact absurd rfl c0
    · exact absurd rfl c1
    · exact absurd rfl c2
    · exact absurd rfl c3
    · rfl
  rw [if_pos c4] at h
  refine ite_i (fun c => ?_) (fun c => ?_)
  · rw [lg_cmp_eq] at c
    have c' : v = 0 := c
    rw [if_pos c'] at h
    exact a59 _ h
  · rw [lg_cmp_eq] at c
    have c' : ¬ v = 0 := c
    rw [if_neg c'] at h
    exact a59 _ h
theorem c_tape {x y z : Int32} (hI : InvC N d g sd n K S G P) (hD : DOk N d) (h1 : okTp x y z → ∀ S' G', FrC S S' → G' 154 = G 154 → InvC N (tpD d x y z) (tpG g x.toNatClampNeg) sd n K S' G' P → Q (some (.int 1)) n K S' G' P) (h0 : ¬ okTp x y z → Q (some (.int (rTp0 x y z))) n K S G P) : Ok l L xs T1 (D + 12) jX11_tape 0 [.ref 32, .int x, .int y, .int z] n K S G P Q := by
  refine I_X11_tape (by decide) (fun At go => ?_)
  have a45 : inR 6 x = true → (y = -1 ∨ (inR 5 y = true ∧ inR 61 z = true)) → At 45 [.ref 32, .int x, .int y, .int z, .retAddr 0] [] n K S G P 0 := by
    intro hx hy
    have h1 := h1 ⟨hx, hy⟩
    obtain ⟨t, ht, rfl⟩ := inR_ex hx
    have x6 : ixB (nI t) 6 = true := ixB_nI ht (by decide)
    have ek : (nI t).toNatClampNeg = t := nI_clamp (by omega)
    have fin : ∀ S', (∀ b j, b ≠ 82 → b ≠ 83 → S' b j = S b j) → (∀ j, S' 82 j = va_up (S 82) t y j) → (∀ j, S' 83 j = va_up (S 83) t (if y = -1 then 0 else z) j) → ∀ G', (∀ b j, ¬ (b = 76 + t ∧ j < 60) → G' b j = G b j) → (∀ j, j < 60 → G' (76 + t) j = 0) → Q (some (.int 1)) n K S' G' P := by
      intro S' f1 f2 f3 G' g1 g2
      refine h1 S' G' (fun b j q1 q2 => f1 b j (by omega) (by omega)) (by funext j; exact g1 _ _ (by omega)) ?_
      unfold tpD
      rw [ek]
      refine InvC_tp hD ht hI f1 f2 f3 (fun u i hu hi => ?_)
      unfold tpG
      by_cases e : u = t
      · subst e
        rw [if_pos (by omega)]
        exact g2 i hi
      · rw [if_neg (by omega), g1 _ _ (by omega)]
        exact hI.2.2.2.1.2 u i hu hi
    have e75 : P 75 (nI t).toNatClampNeg = some (76 + t) := by rw [ek]; exact (hI.2.2.2.1.1 t ht).2.2
    have loop : ∀ S', (∀ b j, b ≠ 82 → b ≠ 83 → S' b j = S b j) → (∀ j, S' 82 j = va_up (S 82) t y j) → (∀ j, S' 83 j = va_up (S 83) t (if y = -1 then 0 else z) j) → ∀ k i vi G', i + k = 60 → vi = nI i → (∀ b j, ¬ (b = 76 + t ∧ j < 60) → G' b j = G b j) → (∀ j, j < i → G' (76 + t) j = 0) → At 71 [.ref 32, .int (nI t), .int y, .int z, .int vi] [] n K S' G' P 0 := by
      intro S' f1 f2 f3 k
      induction k with
      | zero =>
        intro i vi G' hi hv g1 g2
        subst hv
        refine go [71] 60 _ _ _ _ _ _ _ _ _ ?_
        refine ite_t (by rw [le_i, nI_toInt (by omega), t_60]; omega) ?_
        exact fin S' f1 f2 f3 G' g1 (fun j hj => g2 j (by omega))
      | succ k ih =>
        intro i vi G' hi hv g1 g2
        subst hv
        refine go [71] 60 _ _ _ _ _ _ _ _ _ ?_
        refine ite_f (by rw [le_i, nI_toInt (by omega), t_60]; omega) ?_
        refine ite_t x6 ?_
        refine rf_ls e75 ?_
        refine sh_tp ht ?_
        refine ite_t (ixB_nI (by omega) (by decide)) ?_
        refine ih (i + 1) _ _ (by omega) (nI_1 i) (fun b j hb => ?_) (fun j hj => ?_)
        · refine Eq.trans (up2_o _ _ ?_) (g1 b j hb)
          rw [nI_clamp (by omega)]
          omega
        · by_cases e : j = i
          · rw [e, nI_clamp (by omega)]
            exact up2_s _ _ _ _
          · refine Eq.trans (up2_o _ _ ?_) (g2 j (by omega))
            rw [nI_clamp (by omega)]
            omega
    have a67 : ∀ v, (if y = -1 then 0 else z) = v → At 67 [.ref 32, .int (nI t), .int y, .int z, .retAddr 0] [.int v, .int (nI t), .ref 83] n K (up2 S 82 (nI t).toNatClampNeg y) G P 0 := by
      intro v hv
      subst hv
      refine go [71] 60 _ _ _ _ _ _ _ _ _ ?_
      refine ite_t x6 ?_
      refine loop _ (fun b j q1 q2 => ?_) (fun j => ?_) (fun j => ?_) 60 0 _ _ rfl rfl (fun b j _ => rfl) (fun j hj => absurd hj (by omega))
      · rw [up2_o _ _ (.inl q2), up2_o _ _ (.inl q1)]
      · rw [up2_o _ _ (.inl (by decide)), ek]
        rfl
      · rw [ek]
        rfl
    refine go [67, 71] 60 _ _ _ _ _ _ _ _ _ ?_
    refine ite_t x6 ?_
    refine ite_i (fun c => ?_) (fun c => ?_)
    · exact a67 0 (if_pos c)
    · exact a67 z (if_neg c)
  have c_no : ∀ r, ¬ okTp x y z → rTp0 x y z = r → Q (some (.int r)) n K S G P := by
    intro r c e
    rw [← e]
    exact h0 c
  have a30 : inR 6 x = true → ¬ y = -1 → ¬ (inR 5 y = true ∧ z.toInt < 61) → At 30 [.ref 32, .int x, .int y, .int z, .retAddr 0] [] n K S G P 0 := by
    intro hx hy hz
    refine go [] 60 _ _ _ _ _ _ _ _ _ ?_
    refine c_no (-2) (fun w => ?_) ?_
    · rcases w.2 with e | ⟨e1, e2⟩
      · exact hy e
      · obtain ⟨m, hm, rfl⟩ := inR_ex e2
        exact hz ⟨e1, by rw [nI_toInt (by omega)]; omega⟩
    · unfold rTp0
      rw [if_pos hx]
      by_cases e : inR 5 y = true
      · rw [if_pos e, if_neg (fun z' => hz ⟨e, by omega⟩)]
      · rw [if_neg e]
  have a33 : inR 6 x = true → (y = -1 ∨ (inR 5 y = true ∧ z.toInt < 61)) → At 33 [.ref 32, .int x, .int y, .int z, .retAddr 0] [] n K S G P 0 := by
    intro hx hy
    refine go [45] 60 _ _ _ _ _ _ _ _ _ ?_
    refine ite_i (fun c => a45 hx (.inl c)) (fun c => ?_)
    have hy5 : inR 5 y = true ∧ z.toInt < 61 := hy.resolve_left c
    refine ite_i (fun c2 => ?_) (fun c2 => ?_)
    · rw [le_i, t_0] at c2
      exact a45 hx (.inr ⟨hy5.1, inR_lt c2 hy5.2⟩)
    · rw [le_i, t_0] at c2
      refine c_no (-14) (fun w => ?_) ?_
      · rcases w.2 with e | ⟨e1, e2⟩
        · exact c e
        · obtain ⟨m, hm, rfl⟩ := inR_ex e2
          rw [nI_toInt (by omega)] at c2
          omega
      · unfold rTp0
        rw [if_pos hx, if_pos hy5.1, if_pos (by omega)]
  have a9 : inR 6 x = true → At 9 [.ref 32, .int x, .int y, .int z, .retAddr 0] [] n K S G P 0 := by
    intro hx
    refine go [30, 33] 60 _ _ _ _ _ _ _ _ _ ?_
    refine ite_i (fun c => ?_) (fun c => ?_)
    · rw [lt_i, t_m1] at c
      refine a30 hx (fun e => ?_) (fun w => ?_)
      · rw [eq_i, t_m1] at e; omega
      · obtain ⟨s, hs, rfl⟩ := inR_ex w.1
        rw [nI_toInt (by omega)] at c
        omega
    rw [lt_i, t_m1] at c
    refine ite_i (fun c2 => ?_) (fun c2 => ?_)
    · rw [lt_i, t_4] at c2
      refine a30 hx (fun e => ?_) (fun w => ?_)
      · rw [eq_i, t_m1] at e; omega
      · obtain ⟨s, hs, rfl⟩ := inR_ex w.1
        rw [nI_toInt (by omega)] at c2
        omega
    rw [lt_i, t_4] at c2
    refine ite_i (fun c3 => a33 hx (.inl c3)) (fun c3 => ?_)
    have c3' := c3
    rw [eq_i, t_m1] at c3'
    have y5 : inR 5 y = true := inR_lt (by omega) (by omega)
    refine ite_i (fun c4 => ?_) (fun c4 => ?_)
    · rw [le_i, t_60] at c4
      exact a33 hx (.inr ⟨y5, by omega⟩)
    · rw [le_i, t_60] at c4
      exact a30 hx c3 (fun w => by have := w.2; omega)
  refine go [9] 60 _ _ _ _ _ _ _ _ _ ?_
  refine m_tape2 (fun hx => a9 hx) (fun hx => ?_)
  refine c_no (-1) (fun w => ?_) ?_
  · have := w.1; rw [hx] at this; cases this
  · unfold rTp0
    rw [hx]
    rfl
end A
end

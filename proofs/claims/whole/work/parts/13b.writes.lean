noncomputable section
theorem va_up_comm {α : Type} (f : Nat → α) {k j : Nat} (a b : α) (h : k ≠ j) : va_up (va_up f k a) j b = va_up (va_up f j b) k a := by
  funext i
  unfold va_up
  by_cases h1 : i = j
  · rw [if_pos h1, if_neg (by omega), if_pos h1]
  · rw [if_neg h1]
    by_cases h2 : i = k
    · rw [if_pos h2, if_pos h2]
    · rw [if_neg h2, if_neg h2, if_neg h1]
section I
variable {N N' : Nat → Nat} {d : Nat → Nat → Int32} {g : Nat → Int64} {sd : Nat → Int32 × ((Nat → Int32) → Bool)} {n : Nat} {K : Mk} {S S' : Mi} {G : Ml} {P : Mr} {tx' : Nat → Int32}
theorem InvC_tx (hD : DOk N d) (hI : InvC N d g sd n K S G P) (hf : ∀ b j, b ≠ 69 → ¬ (b = 32 ∧ j = 5) → S' b j = S b j) (h5 : S' 32 5 = nI (N' 3)) (ht : ∀ i, i < N' 3 → S' 69 i = tx' i) (hN : ∀ i, i ≠ 3 → N' i = N i) : InvC N' (upR d 2 tx') g sd n K S' G P := by
  obtain ⟨⟨h1, h2, h3⟩, ⟨h4, h5', h5''⟩, ⟨h7, h8⟩, ⟨h9, h10⟩, h11, h12⟩ := hI
  have e0 := hN 0 (by decide)
  have e2 := hN 2 (by decide)
  have e4 := hN 4 (by decide)
  have e6 := hN 6 (by decide)
  have n6 := hD.2.2.2.1
  have tc : ∀ a tw np, (a = 33 ∨ a = 45) → TC a tw np n K S P → TC a tw np n K S' P := fun a tw np ha ⟨f1, f2, f3⟩ => ⟨RC_fr (fun b j hb _ => hf _ _ (by omega) (by omega)) f1, fun p hp => Psn_f2 (fun b j hb => hf _ _ (by omega) (by omega)) (f2 p hp), f3⟩
  refine ⟨⟨by rw [e0]; exact tc _ _ _ (.inl rfl) h1, (hf _ _ (by decide) (by omega)).trans h2, fun e => by rw [e4]; exact tc _ _ _ (.inr rfl) (h3 e)⟩, ⟨fun k hk => ?_, ?_, h5''⟩, ⟨h5, ht⟩, ⟨fun t ht => ⟨(hf _ _ (by decide) (by omega)).trans (h9 t ht).1, (hf _ _ (by decide) (by omega)).trans (h9 t ht).2.1, (h9 t ht).2.2⟩, h10⟩, ?_, fun i hi hj => ?_⟩
  · rw [e2] at hk
    exact SC_fr (fun j => ⟨hf _ _ (by omega) (by omega), hf _ _ (by omega) (by omega), hf _ _ (by omega) (by omega), hf _ _ (by omega) (by omega)⟩) (h4 k hk)
  · rw [e2]; exact (hf _ _ (by decide) (by omega)).trans h5'
  · rw [e6]; exact (hf _ _ (by decide) (by omega)).trans h11
  · rw [e6] at hj; exact (hf _ _ (by decide) (by omega)).trans (h12 i hi hj)
theorem mloc_tx : ∀ k, k < 225 → (mloc k).1 ≠ 128 ∧ ¬ ((mloc k).1 = 120 ∧ (mloc k).2 = 9) := by decide +kernel
theorem InvM_tx (hI : InvM N d g sd S G) (hf : ∀ b j, b ≠ 128 → ¬ (b = 120 ∧ j = 9) → S' b j = S b j) (h5 : S' 120 9 = nI (N' 3)) (ht : ∀ i, i < N' 3 → S' 128 i = tx' i) (hN : ∀ i, i ≠ 3 → N' i = N i) : InvM N' (upR d 2 tx') g sd S' G := by
  obtain ⟨⟨h1, h2, h3⟩, ⟨h4, cd, h5'', h5', h6⟩, ⟨h7, h8⟩, ⟨h9, h10⟩, h11, h12⟩ := hI
  have e2 := hN 2 (by decide)
  have e6 := hN 6 (by decide)
  refine ⟨⟨RM_fr (fun k hk => hf _ _ (mloc_tx k hk).1 (mloc_tx k hk).2) h1, (hf _ _ (by decide) (by omega)).trans h2, fun e i hi => (hf _ _ (by decide) (by omega)).trans (h3 e i hi)⟩, ⟨?_, cd, (hf _ _ (by decide) (by omega)).trans h5'', ?_, fun k hk => ?_⟩, ⟨h5, ht⟩, ⟨fun t ht => ⟨(hf _ _ (by decide) (by omega)).trans (h9 t ht).1, (hf _ _ (by decide) (by omega)).trans (h9 t ht).2⟩, h10⟩, ?_, fun i hi hj => ?_⟩
  · rw [e2]; exact (hf _ _ (by decide) (by omega)).trans h4
  · rw [e2]; exact h5'
  · rw [e2] at hk
    exact SMb_fr (Nat.le_refl _) (fun j _ => hf _ _ (by decide) (by omega)) (hf _ _ (by decide) (by omega)) (fun a i ha hb _ => hf _ _ (by omega) (by omega)) (h6 k hk)
  · rw [e6]; exact (hf _ _ (by decide) (by omega)).trans h11
  · rw [e6] at hj; exact (hf _ _ (by decide) (by omega)).trans (h12 i hi hj)
end I
def okPa (dy : Nat) (x : Int32) : Prop := inR 61 x = true ∧ dy + x.toNatClampNeg ≤ 9999
def rPa0 (x : Int32) : Int32 := if inR 61 x = true then -3 else -2
def okFe (tx : Nat) (x : Int32) : Prop := inR 128 x = true ∧ tx < 100
def rFe0 (x : Int32) : Int32 := if inR 128 x = true then -4 else -2
theorem byte_n : ∀ c, c < 128 → vp_nar .byte ((nI c).toInt8.toInt32) = nI c := by decide +kernel
section A
variable {l : Launch} {L : Nat} {xs : Nat → Int32} {D : Nat} {n : Nat} {K : Mk} {S : Mi} {G : Ml} {P : Mr} {Q : QT} {N : Nat → Nat} {d : Nat → Nat → Int32} {g : Nat → Int64} {sd : Nat → Int32 × ((Nat → Int32) → Bool)}
set_option maxRecDepth 20000
theorem c_pass {x : Int32} (hI : InvC N d g sd n K S G P) (hD : DOk N d) (h1 : okPa (N 1) x → ∀ S', FrC S S' → InvC (upR N 1 (N 1 + x.toNatClampNeg)) (upR d 0 (va_up (d 0) 220 (nI (N 1 + x.toNatClampNeg)))) g sd n K S' G P → Q (some (.int (nI (N 1 + x.toNatClampNeg)))) n K S' G P) (h0 : ¬ okPa (N 1) x → Q (some (.int (rPa0 x))) n K S G P) : Ok l L xs T1 (D + 12) jX11_pass 0 [.ref 32, .int x] n K S G P Q := by
  refine I_X11_pass (by decide) (fun At go => ?_)
  have hR := hI.1.1.1
  have hdy : S 33 7 = nI (N 1) := (RC_dy hR).trans hD.1.2.1.1
  have d9 := hD.2.1
  have a12 : inR 61 x = true → At 12 [.ref 32, .int x] [] n K S G P 0 := by
    intro hx
    obtain ⟨j, hj, ej⟩ := inR_ex hx
    subst ej
    have ek : (nI j).toNatClampNeg = j := nI_clamp (by omega)
    have es : S 33 7 + nI j = nI (N 1 + j) := by rw [hdy, nI_add]
    have a30 : N 1 + j ≤ 9999 → At 30 [.ref 32, .int (nI j)] [] n K S G P 0 := by
      intro hle
      have ok : okPa (N 1) (nI j) := ⟨hx, by rw [ek]; exact hle⟩
      have h1' := h1 ok
      rw [ek] at h1'
      have fin := h1' (up2 S 33 7 (nI (N 1 + j))) (fun b i h1 h2 => up2_o _ _ (by omega)) (InvC_tw hD hI (fun b i hb hs => up2_o _ _ (by omega)) (TC_up (c := 0) _ hD.1.1.2 ⟨by omega, by omega, by omega⟩ (by omega) (show cl 220 = (0, 7) from rfl) (by decide) hI.1.1) (fun i hi => upR_o _ _ (by omega)))
      rw [← es] at fin
      refine go [] 60 _ _ _ _ _ _ _ _ _ ?_
      exact fin
    refine go [30] 60 _ _ _ _ _ _ _ _ _ ?_
    refine ite_i (fun c => ?_) (fun c => ?_)
    · have c' : S 33 7 + nI j ≤ 9999 := c
      rw [es, le_i, nI_toInt (by omega), t_9999] at c'
      exact a30 (by omega)
    · have c' : ¬ S 33 7 + nI j ≤ 9999 := c
      rw [es, le_i, nI_toInt (by omega), t_9999] at c'
      have hQ := h0 (fun w => by have := w.2; rw [ek] at this; omega)
      unfold rPa0 at hQ
      rw [if_pos hx] at hQ
      exact hQ
  refine go [12] 60 _ _ _ _ _ _ _ _ _ ?_
  refine m_i0 (m := 60) (by decide) 60 rfl (fun hx => a12 hx) (fun c => ?_)
  have hQ := h0 (fun w => absurd (w.1.symm.trans c) (by decide))
  unfold rPa0 at hQ
  rw [if_neg (fun w => absurd (w.symm.trans c) (by decide))] at hQ
  exact hQ
theorem q_pass {x : Int32} (hI : InvM N d g sd S G) (hD : DOk N d) (h1 : okPa (N 1) x → ∀ S', FrM S S' → InvM (upR N 1 (N 1 + x.toNatClampNeg)) (upR d 0 (va_up (d 0) 220 (nI (N 1 + x.toNatClampNeg)))) g sd S' G → Q (some (.int (nI (N 1 + x.toNatClampNeg)))) n K S' G P) (h0 : ¬ okPa (N 1) x → Q (some (.int (rPa0 x))) n K S G P) : Ok l L xs T1 (D + 12) jX12_pass 0 [.ref 120, .int x] n K S G P Q := by
  refine I_X12_pass (by decide) (fun At go => ?_)
  have hR := hI.1.1
  have hdy : S 120 8 = nI (N 1) := (RM_dy hR).trans hD.1.2.1.1
  have d9 := hD.2.1
  have a13 : inR 61 x = true → At 13 [.ref 120, .int x] [] n K S G P 0 := by
    intro hx
    obtain ⟨j, hj, ej⟩ := inR_ex hx
    subst ej
    have ek : (nI j).toNatClampNeg = j := nI_clamp (by omega)
    have es : S 120 8 + nI j = nI (N 1 + j) := by rw [hdy, nI_add]
    have a28 : N 1 + j ≤ 9999 → At 28 [.ref 120, .int (nI j)] [] n K S G P 0 := by
      intro hle
      have ok : okPa (N 1) (nI j) := ⟨hx, by rw [ek]; exact hle⟩
      have h1' := h1 ok
      rw [ek] at h1'
      have fin := h1' (up2 S 120 8 (nI (N 1 + j))) (fun b i h1 => up2_o _ _ (by omega)) (InvM_tw hI (fun b i hb => up2_o _ _ (by
        refine Classical.byContradiction (fun z => ?_)
        have z1 : b = 120 := Classical.byContradiction (fun y => z (.inl y))
        have z2 : i = 8 := Classical.byContradiction (fun y => z (.inr y))
        subst z1
        subst z2
        cases hb)) (RM_up _ (by omega) (show mloc 220 = (120, 8) from rfl) hR) (fun i hi => upR_o _ _ (by omega)))
      rw [← es] at fin
      refine go [] 60 _ _ _ _ _ _ _ _ _ ?_
      exact fin
    refine go [28] 60 _ _ _ _ _ _ _ _ _ ?_
    refine ite_i (fun c => ?_) (fun c => ?_)
    · have c' : S 120 8 + nI j ≤ 9999 := c
      rw [es, le_i, nI_toInt (by omega), t_9999] at c'
      exact a28 (by omega)
    · have c' : ¬ S 120 8 + nI j ≤ 9999 := c
      rw [es, le_i, nI_toInt (by omega), t_9999] at c'
      have hQ := h0 (fun w => by have := w.2; rw [ek] at this; omega)
      unfold rPa0 at hQ
      rw [if_pos hx] at hQ
      exact hQ
  refine go [13] 60 _ _ _ _ _ _ _ _ _ ?_
  refine mm_w0 (m := 60) (by decide) 60 rfl (fun hx => a13 hx) (fun c => ?_)
  have hQ := h0 (fun w => absurd (w.1.symm.trans c) (by decide))
  unfold rPa0 at hQ
  rw [if_neg (fun w => absurd (w.symm.trans c) (by decide))] at hQ
  exact hQ
theorem d_pass {x : Int32} (hD : DOk N d) (ok : okPa (N 1) x) : DOk (upR N 1 (N 1 + x.toNatClampNeg)) (upR d 0 (va_up (d 0) 220 (nI (N 1 + x.toNatClampNeg)))) := by
  refine DOk_tw hD ?_ (by rw [upR_s]; exact ok.2) (fun i hi => upR_o _ _ (by omega))
  rw [upR_s, upR_o _ _ (by decide)]
  have hle := ok.2
  obtain ⟨h1, h2, h3, h4, h5, h6, ⟨r, r1, r2, r3⟩, ⟨s, s1, s2, s3⟩, ⟨b, b1, b2, b3⟩⟩ := hD.1
  have e : ∀ k, k ≠ 220 → va_up (d 0) 220 (nI (N 1 + x.toNatClampNeg)) k = d 0 k := fun k hk => va_up_ne _ _ hk
  refine ⟨⟨(e _ (by decide)).trans h1.1, h1.2⟩, ⟨va_up_self _ _ _, by omega⟩, ?_, fun q hq => ?_, fun i hi => ?_, fun i hi => by rw [e _ (by omega)]; exact h6 i hi, ⟨r, r1, (e _ (by decide)).trans r2, fun i hi => ?_⟩, ⟨s, s1, (e _ (by decide)).trans s2, fun i hi => ?_⟩, ⟨b, b1, (e _ (by decide)).trans b2, fun i hi => ?_⟩⟩
  · rw [e _ (by decide)]; exact h3
  · have := h1.2
    rw [e _ (by omega), e _ (by omega)]; exact h4 q hq
  · rw [e _ (by omega)]
    have := h5 i hi
    omega
  · rw [e _ (by omega), e _ (by omega), e _ (by omega), e _ (by omega), e _ (by omega)]; exact r3 i hi
  · rw [e _ (by omega), e _ (by omega)]; exact s3 i hi
  · rw [e _ (by omega), e _ (by omega)]; exact b3 i hi
theorem c_feed {x : Int32} (hI : InvC N d g sd n K S G P) (hD : DOk N d) (h1 : okFe (N 3) x → ∀ S', FrC S S' → InvC (upR N 3 (N 3 + 1)) (upR d 2 (va_up (d 2) (N 3) x)) g sd n K S' G P → Q (some (.int (nI (N 3 + 1)))) n K S' G P) (h0 : ¬ okFe (N 3) x → Q (some (.int (rFe0 x))) n K S G P) : Ok l L xs T1 (D + 12) jX11_feed 0 [.ref 32, .int x] n K S G P Q := by
  refine I_X11_feed (by decide) (fun At go => ?_)
  have ht := hI.2.2.1.1
  have t100 := hD.2.2.2.2.1.1
  have a12 : inR 128 x = true → At 12 [.ref 32, .int x] [] n K S G P 0 := by
    intro hx
    obtain ⟨j, hj, ej⟩ := inR_ex hx
    subst ej
    have a24 : N 3 < 100 → At 24 [.ref 32, .int (nI j)] [] n K S G P 0 := by
      intro hlt
      have es : S 32 5 + 1 = nI (N 3 + 1) := by rw [ht, nI_1]
      have fin := h1 ⟨hx, hlt⟩ (up2 (up2 S 69 (N 3) (nI j)) 32 5 (nI (N 3 + 1))) (fun b i h1 h2 => by rw [up2_o _ _ (by omega), up2_o _ _ (by omega)]) (InvC_tx hD hI (fun b i hb hs => by rw [up2_o _ _ (by omega), up2_o _ _ (by omega)]) (by rw [up2_s, upR_s]) (fun i hi => ?_) (fun i hi => upR_o _ _ hi))
      · have e1 : (S 32 5).toNatClampNeg = N 3 := by rw [ht, nI_clamp (by omega)]
        have e2 : vp_nar .byte ((nI j).toInt8.toInt32) = nI j := byte_n j hj
        have x1 : ixB (S 32 5) 100 = true := by rw [ht]; exact ixB_nI hlt (by decide)
        rw [← es] at fin
        have fin2 : Q (some (.int (S 32 5 + 1))) n K (up2 (up2 S 69 (S 32 5).toNatClampNeg (vp_nar .byte ((nI j).toInt8.toInt32))) 32 5 (S 32 5 + 1)) G P := by rw [e1, e2]; exact fin
        refine go [] 60 _ _ _ _ _ _ _ _ _ ?_
        refine ite_t x1 ?_
        exact fin2
      · rw [upR_s] at hi
        rw [up2_o _ _ (by omega)]
        by_cases e : i = N 3
        · subst e
          rw [up2_s, va_up_self]
        · rw [up2_o _ _ (by omega), va_up_ne _ _ e]
          exact hI.2.2.1.2 i (by omega)
    refine go [24] 60 _ _ _ _ _ _ _ _ _ ?_
    refine ite_i (fun c => ?_) (fun c => ?_)
    · rw [ht, lt_i, nI_toInt (by omega), t_100] at c
      exact a24 (by omega)
    · rw [ht, lt_i, nI_toInt (by omega), t_100] at c
      have hQ := h0 (fun w => by have := w.2; omega)
      unfold rFe0 at hQ
      rw [if_pos hx] at hQ
      exact hQ
  refine go [12] 60 _ _ _ _ _ _ _ _ _ ?_
  refine m_isWithin (fun c1 c2 => ?_) (fun c => ?_)
  · rw [t_127] at c2
    exact a12 (inR_lt c1 (by omega))
  · rw [t_127] at c
    have hx : inR 128 x = false := inR_f (by omega)
    have hQ := h0 (fun w => absurd (w.1.symm.trans hx) (by decide))
    unfold rFe0 at hQ
    rw [if_neg (fun w => absurd (w.symm.trans hx) (by decide))] at hQ
    exact hQ
theorem q_feed {x : Int32} (hI : InvM N d g sd S G) (hD : DOk N d) (h1 : okFe (N 3) x → ∀ S', FrM S S' → InvM (upR N 3 (N 3 + 1)) (upR d 2 (va_up (d 2) (N 3) x)) g sd S' G → Q (some (.int (nI (N 3 + 1)))) n K S' G P) (h0 : ¬ okFe (N 3) x → Q (some (.int (rFe0 x))) n K S G P) : Ok l L xs T1 (D + 12) jX12_feed 0 [.ref 120, .int x] n K S G P Q := by
  refine I_X12_feed (by decide) (fun At go => ?_)
  have ht := hI.2.2.1.1
  have t100 := hD.2.2.2.2.1.1
  have a13 : inR 128 x = true → At 13 [.ref 120, .int x] [] n K S G P 0 := by
    intro hx
    have a25 : N 3 < 100 → At 25 [.ref 120, .int x] [] n K S G P 0 := by
      intro hlt
      have es : S 120 9 + 1 = nI (N 3 + 1) := by rw [ht, nI_1]
      have fin := h1 ⟨hx, hlt⟩ (up2 (up2 S 120 9 (nI (N 3 + 1))) 128 (N 3) x) (fun b i h1 => by rw [up2_o _ _ (by omega), up2_o _ _ (by omega)]) (InvM_tx hI (fun b i hb hs => by rw [up2_o _ _ (by omega), up2_o _ _ (by omega)]) (by rw [up2_o _ _ (by omega), up2_s, upR_s]) (fun i hi => ?_) (fun i hi => upR_o _ _ hi))
      · have e1 : (S 120 9).toNatClampNeg = N 3 := by rw [ht, nI_clamp (by omega)]
        have x1 : ixB (S 120 9) 100 = true := by rw [ht]; exact ixB_nI hlt (by decide)
        rw [← es, ← e1] at fin
        refine go [] 60 _ _ _ _ _ _ _ _ _ ?_
        refine ite_t x1 ?_
        exact fin
      · rw [upR_s] at hi
        by_cases e : i = N 3
        · subst e
          rw [up2_s, va_up_self]
        · rw [up2_o _ _ (by omega), up2_o _ _ (by omega), va_up_ne _ _ e]
          exact hI.2.2.1.2 i (by omega)
    refine go [25] 60 _ _ _ _ _ _ _ _ _ ?_
    refine ite_i (fun c => ?_) (fun c => ?_)
    · rw [ht, eq_i, nI_toInt (by omega), t_100] at c
      have hQ := h0 (fun w => by have := w.2; omega)
      unfold rFe0 at hQ
      rw [if_pos hx] at hQ
      exact hQ
    · rw [ht, eq_i, nI_toInt (by omega), t_100] at c
      exact a25 (by omega)
  refine go [13] 60 _ _ _ _ _ _ _ _ _ ?_
  refine m_within (fun c1 c2 => ?_) (fun c => ?_)
  · rw [t_0] at c1
    rw [t_127] at c2
    exact a13 (inR_lt c1 (by omega))
  · rw [t_0, t_127] at c
    have hx : inR 128 x = false := inR_f (by omega)
    have hQ := h0 (fun w => absurd (w.1.symm.trans hx) (by decide))
    unfold rFe0 at hQ
    rw [if_neg (fun w => absurd (w.symm.trans hx) (by decide))] at hQ
    exact hQ
theorem d_feed {x : Int32} (hD : DOk N d) (ok : okFe (N 3) x) : DOk (upR N 3 (N 3 + 1)) (upR d 2 (va_up (d 2) (N 3) x)) := by
  obtain ⟨d1, d2, d3, d4, ⟨d5, d5'⟩, d6, d7⟩ := hD
  refine ⟨d1, d2, d3, d4, ⟨?_, fun i hi => ?_⟩, d6, d7⟩
  · rw [upR_s]
    have := ok.2
    omega
  · rw [upR_s] at hi
    by_cases e : i = N 3
    · obtain ⟨c, hc, ec⟩ := inR_ex ok.1
      refine ⟨c, hc, ?_⟩
      rw [e, upR_s, va_up_self, ec]
    · rw [upR_s, va_up_ne _ _ e]
      exact d5' i (by omega)
end A
end

noncomputable section
/-! THE CALLS THAT WRITE: row, pass, feed. -/
theorem upR_id {α : Type} (d : Nat → α) (b : Nat) : upR d b (d b) = d := by
  funext i
  unfold upR
  by_cases h : i = b
  · rw [if_pos h, h]
  · rw [if_neg h]
theorem upR_s {α : Type} (d : Nat → α) (b : Nat) (x : α) : upR d b x b = x := if_pos rfl
theorem upR_o {α : Type} (d : Nat → α) {b i : Nat} (x : α) (h : i ≠ b) : upR d b x i = d i := if_neg h
section I
variable {N N' : Nat → Nat} {d : Nat → Nat → Int32} {g : Nat → Int64} {sd : Nat → Int32 × ((Nat → Int32) → Bool)} {n : Nat} {K : Mk} {S S' : Mi} {G : Ml} {P : Mr} {tw' : Nat → Int32}
theorem InvC_tw (hD : DOk N d) (hI : InvC N d g sd n K S G P) (hf : ∀ b j, (b < 33 ∨ 44 < b) → scr2 b = false → S' b j = S b j) (hT : TC 33 tw' (N' 0) n K S' P) (hN : ∀ i, 2 ≤ i → N' i = N i) : InvC N' (upR d 0 tw') g sd n K S' G P := by
  obtain ⟨⟨h1, h2, h3⟩, ⟨h4, h5, h5'⟩, ⟨h7, h8⟩, ⟨h9, h10⟩, h11, h12⟩ := hI
  have e2 := hN 2 (by decide)
  have e3 := hN 3 (by decide)
  have e4 := hN 4 (by decide)
  have e6 := hN 6 (by decide)
  have n6 := hD.2.2.2.1
  refine ⟨⟨hT, (hf _ _ (by decide) rfl).trans h2, fun e => ?_⟩, ⟨fun k hk => ?_, ?_, h5'⟩, ⟨?_, fun i hi => ?_⟩, ⟨fun t ht => ⟨(hf _ _ (by decide) rfl).trans (h9 t ht).1, (hf _ _ (by decide) rfl).trans (h9 t ht).2.1, (h9 t ht).2.2⟩, h10⟩, ?_, fun i hi hj => ?_⟩
  · rw [e4]
    obtain ⟨f1, f2, f3⟩ := h3 e
    refine ⟨RC_fr (fun b j hb _ => hf _ _ (by omega) ?_) f1, fun p hp => Psn_f2 (fun b j hb => hf _ _ (by omega) (scr2_big hb)) (f2 p hp), f3⟩
    have f : ∀ b, b < 10 → scr2 (45 + b) = false := by decide
    exact f b hb
  · rw [e2] at hk
    refine SC_fr (fun j => ?_) (h4 k hk)
    rcases SD_of (k := k) (by omega) with e | e | e | e | e | e <;> (rw [e]; exact ⟨hf _ _ (by decide) rfl, hf _ _ (by decide) rfl, hf _ _ (by decide) rfl, hf _ _ (by decide) rfl⟩)
  · rw [e2]; exact (hf _ _ (by decide) rfl).trans h5
  · rw [e3]; exact (hf _ _ (by decide) rfl).trans h7
  · rw [e3] at hi; exact (hf _ _ (by decide) rfl).trans (h8 i hi)
  · rw [e6]; exact (hf _ _ (by decide) rfl).trans h11
  · rw [e6] at hj; exact (hf _ _ (by decide) rfl).trans (h12 i hi hj)
def fpm (b j : Nat) : Bool := (Nat.ble 128 b && Nat.ble b 134) || Nat.beq b 146 || Nat.beq b 147 || Nat.beq b 152 || Nat.beq b 153 || (Nat.beq b 120 && (Nat.beq j 9 || Nat.beq j 15 || Nat.beq j 23 || Nat.beq j 38 || Nat.beq j 40))
theorem InvM_tw (hI : InvM N d g sd S G) (hf : ∀ b j, fpm b j = true → S' b j = S b j) (hT : RM tw' S') (hN : ∀ i, 2 ≤ i → N' i = N i) : InvM N' (upR d 0 tw') g sd S' G := by
  obtain ⟨⟨h1, h2, h3⟩, ⟨h4, cd, h5, h5', h6⟩, ⟨h7, h8⟩, ⟨h9, h10⟩, h11, h12⟩ := hI
  have e2 := hN 2 (by decide)
  have e3 := hN 3 (by decide)
  have e6 := hN 6 (by decide)
  refine ⟨⟨hT, (hf _ _ rfl).trans h2, fun e i hi => (hf _ _ rfl).trans (h3 e i hi)⟩, ⟨?_, cd, (hf _ _ rfl).trans h5, ?_, fun k hk => ?_⟩, ⟨?_, fun i hi => ?_⟩, ⟨fun t ht => ⟨(hf _ _ rfl).trans (h9 t ht).1, (hf _ _ rfl).trans (h9 t ht).2⟩, h10⟩, ?_, fun i hi hj => ?_⟩
  · rw [e2]; exact (hf _ _ rfl).trans h4
  · rw [e2]; exact h5'
  · rw [e2] at hk
    refine SMb_fr (Nat.le_refl _) (fun j _ => hf _ _ rfl) (hf _ _ rfl) (fun a i ha hb _ => ?_) (h6 k hk)
    have e : a = 130 ∨ a = 131 ∨ a = 132 ∨ a = 133 := by omega
    rcases e with rfl | rfl | rfl | rfl <;> exact hf _ _ rfl
  · rw [e3]; exact (hf _ _ rfl).trans h7
  · rw [e3] at hi; exact (hf _ _ rfl).trans (h8 i hi)
  · rw [e6]; exact (hf _ _ rfl).trans h11
  · rw [e6] at hj; exact (hf _ _ rfl).trans (h12 i hi hj)
theorem TwOk_ne {tw tw' : Nat → Int32} {np dy ns : Nat} (h : TwOk tw np dy ns) (e : ∀ k, k < 225 → (k < 12 ∨ (42 ≤ k ∧ k < 78) ∨ 114 ≤ k) → tw' k = tw k) : TwOk tw' np dy ns := by
  obtain ⟨h1, h2, h3, h4, h5, h6, ⟨r, r1, r2, r3⟩, ⟨s, s1, s2, s3⟩, ⟨b, b1, b2, b3⟩⟩ := h
  refine ⟨⟨(e _ (by omega) (by omega)).trans h1.1, h1.2⟩, ⟨(e _ (by omega) (by omega)).trans h2.1, h2.2⟩, ?_, fun q hq => ?_, fun i hi => by rw [e _ (by omega) (by omega)]; exact h5 i hi, fun i hi => by rw [e _ (by omega) (by omega)]; exact h6 i hi, ⟨r, r1, (e _ (by omega) (by omega)).trans r2, fun i hi => ?_⟩, ⟨s, s1, (e _ (by omega) (by omega)).trans s2, fun i hi => ?_⟩, ⟨b, b1, (e _ (by omega) (by omega)).trans b2, fun i hi => ?_⟩⟩
  · rw [e _ (by omega) (by omega)]; exact h3
  · have := h1.2
    rw [e _ (by omega) (by omega), e _ (by omega) (by omega)]; exact h4 q hq
  · rw [e _ (by omega) (by omega), e _ (by omega) (by omega), e _ (by omega) (by omega), e _ (by omega) (by omega), e _ (by omega) (by omega)]; exact r3 i hi
  · rw [e _ (by omega) (by omega), e _ (by omega) (by omega)]; exact s3 i hi
  · rw [e _ (by omega) (by omega), e _ (by omega) (by omega)]; exact b3 i hi
theorem DOk_tw (hD : DOk N d) (hT : TwOk tw' (N' 0) (N' 1) (N 2)) (h1 : N' 1 ≤ 9999) (hN : ∀ i, 2 ≤ i → N' i = N i) : DOk N' (upR d 0 tw') := by
  obtain ⟨_, _, d3, d4, d5, d6, d7⟩ := hD
  have e2 := hN 2 (by decide)
  have e3 := hN 3 (by decide)
  have e4 := hN 4 (by decide)
  have e5 := hN 5 (by decide)
  have e6 := hN 6 (by decide)
  refine ⟨by rw [e2]; exact hT, h1, ?_, by rw [e2]; exact d4, by rw [e3]; exact d5, d6, by rw [e6]; exact d7⟩
  rw [e4, e5, e2]
  exact d3
end I
def okRo (tw : Nat → Int32) (np : Nat) (x y z : Int32) : Prop := (inR np x = true ∧ inR 4 y = true) ∧ inR 10 z = true ∧ tw x.toNatClampNeg = 6
def twRo (tw : Nat → Int32) (np : Nat) (x y z : Int32) : Nat → Int32 := @ite _ (okRo tw np x y z) (Classical.propDecidable _) (va_up tw (18 + (4 * x.toNatClampNeg + y.toNatClampNeg)) z) tw
def rRo (tw : Nat → Int32) (np : Nat) (x y z : Int32) : Int32 := if inR np x = true ∧ inR 4 y = true then (if inR 10 z = true then (if tw x.toNatClampNeg = 6 then tw (18 + (4 * x.toNatClampNeg + y.toNatClampNeg)) else -3) else -2) else -1
theorem twRo_t {tw : Nat → Int32} {np : Nat} {x y z : Int32} (h : okRo tw np x y z) : twRo tw np x y z = va_up tw (18 + (4 * x.toNatClampNeg + y.toNatClampNeg)) z := if_pos h
theorem twRo_f {tw : Nat → Int32} {np : Nat} {x y z : Int32} (h : ¬ okRo tw np x y z) : twRo tw np x y z = tw := if_neg h
section A
variable {l : Launch} {L : Nat} {xs : Nat → Int32} {D : Nat} {n : Nat} {K : Mk} {S : Mi} {G : Ml} {P : Mr} {Q : QT} {N : Nat → Nat} {d : Nat → Nat → Int32} {g : Nat → Int64} {sd : Nat → Int32 × ((Nat → Int32) → Bool)}
set_option maxRecDepth 20000
theorem TC_up {tw : Nat → Int32} {np k c i : Nat} (x : Int32) (h6 : np ≤ 6) (hk : kc k) (hp : k < 175 ∨ 195 ≤ k) (hl : cl k = (c, i)) (hc : c < 10) (h : TC 33 tw np n K S P) : TC 33 (va_up tw k x) np n K (up2 S (33 + c) i x) P := by
  obtain ⟨h1, h2, h3⟩ := h
  have k12 := hk.1
  have k224 := hk.2.1
  refine ⟨RC_up x hk hp hl h1, fun p hp => ?_, ?_⟩
  · rw [va_up_ne _ _ (by omega), va_up_ne _ _ (by omega)]
    exact Psn_f2 (fun b j hb => up2_o _ _ (by omega)) (h2 p hp)
  · rw [va_up_ne _ _ (by omega)]
    exact h3
theorem c_row {x y z : Int32} (hI : InvC N d g sd n K S G P) (hD : DOk N d) (h : ∀ S', FrC S S' → InvC N (upR d 0 (twRo (d 0) (N 0) x y z)) g sd n K S' G P → Q (some (.int (rRo (d 0) (N 0) x y z))) n K S' G P) : Ok l L xs T1 (D + 12) jX11_row 0 [.ref 32, .int x, .int y, .int z] n K S G P Q := by
  refine I_X11_row (by decide) (fun At go => ?_)
  have np6 := hD.1.1.2
  have hR := hI.1.1.1
  have hn : S 33 0 = nI (N 0) := (RC_np hR).trans hD.1.1.1
  have ta : TA 33 := .inl rfl
  have hno : ¬ okRo (d 0) (N 0) x y z → Q (some (.int (rRo (d 0) (N 0) x y z))) n K S G P := by
    intro c
    refine h S (FrC.rf S) ?_
    rw [twRo_f c, upR_id]
    exact hI
  unfold rRo at h hno
  have a19 : ¬ (inR (N 0) x = true ∧ inR 4 y = true) → At 19 [.ref 32, .int x, .int y, .int z, .retAddr 0] [] n K S G P 0 := by
    intro c
    have hQ := hno (fun w => c w.1)
    rw [if_neg c] at hQ
    refine go [21] 60 _ _ _ _ _ _ _ _ _ ?_
    exact hQ
  refine go [19, 21] 60 _ _ _ _ _ _ _ _ _ ?_
  refine m_has ta hn np6 (fun p hp ep => ?_) (fun c => a19 (fun w => by rw [inR_f c] at w; exact absurd w.1 (by decide)))
  refine m_i0 (m := 3) (by decide) 3 rfl (fun hy => ?_) (fun c => a19 (fun w => by rw [c] at w; exact absurd w.2 (by decide)))
  subst ep
  obtain ⟨j, hj, ej⟩ := inR_ex hy
  subst ej
  have hv : inR (N 0) (nI p) = true ∧ inR 4 (nI j) = true := ⟨inR_nI hp (by omega), hy⟩
  rw [if_pos hv] at h hno
  obtain ⟨w, k, g1, g2, g3, g4, g5, g6, g7, g8⟩ := hI.1.1.2.1 p hp
  have hpp : P (33 + 1) (nI p).toNatClampNeg = some w := by rw [nI_clamp (by omega)]; exact g1
  have x6 : ixB (nI p) 6 = true := ixB_nI (by omega) (by decide)
  have ek : (nI p).toNatClampNeg = p := nI_clamp (by omega)
  have ek2 : (nI j).toNatClampNeg = j := nI_clamp (by omega)
  have s8 : ∀ k, k < 7 → (isSub (kcl k) 8 = true ↔ k = 6) := by decide
  have a21 : At 21 [.ref 32, .int (nI p), .int (nI j), .int z, .retAddr 0] [] n K S G P 0 := by
    have a33 : inR 10 z = true → At 33 [.ref 32, .int (nI p), .int (nI j), .int z, .retAddr 0] [] n K S G P 0 := by
      intro hz
      rw [if_pos hz] at h hno
      have a51 : k = 6 → At 51 [.ref 32, .int (nI p), .int (nI j), .int z, .retAddr 0] [] n K S G P 0 := by
        intro e6
        have e6' : d 0 (nI p).toNatClampNeg = 6 := by rw [ek, g3, e6]; rfl
        have ok : okRo (d 0) (N 0) (nI p) (nI j) z := ⟨hv, hz, e6'⟩
        rw [twRo_t ok, if_pos e6', ek, ek2] at h
        have xi : nI p * 4 + nI j = nI (4 * p + j) := by rw [show (4 : Int32) = nI 4 from rfl, pk_mul, nI_add, Nat.mul_comm]
        have x24 : ixB (nI p * 4 + nI j) 24 = true := by rw [xi]; exact ixB_nI (by omega) (by decide)
        have er : S 36 (nI p * 4 + nI j).toNatClampNeg = d 0 (18 + (4 * p + j)) := by rw [xi, nI_clamp (by omega)]; exact RC_rows hR _ (by omega)
        have fin := h (up2 S 36 (4 * p + j) z) (fun b i h1 h2 => up2_o _ _ (by omega)) (InvC_tw hD hI (fun b i hb hs => up2_o _ _ (by omega)) (TC_up (c := 3) z np6 ⟨by omega, by omega, by omega⟩ (by omega) (cl_rows _ (by omega)) (by decide) hI.1.1) (fun i _ => rfl))
        have ei : (nI p * 4 + nI j).toNatClampNeg = 4 * p + j := by rw [xi, nI_clamp (by omega)]
        rw [← er, ← ei] at fin
        refine go [] 60 _ _ _ _ _ _ _ _ _ ?_
        refine ite_t x24 ?_
        refine ite_t x24 ?_
        exact fin
      refine go [51] 60 _ _ _ _ _ _ _ _ _ ?_
      refine ite_t x6 ?_
      refine rf_v hpp ?_
      refine sh_p g4 ?_
      refine ki g2 ?_
      refine ite_i (fun c => ?_) (fun c => ?_)
      · have c' : (cond (isSub (kcl k) 8) 1 0 : Int32) = 0 := c
        rw [cb_i] at c'
        have hk6 : ¬ k = 6 := fun e => by rw [(s8 k g2).mpr e] at c'; exact absurd c' (by decide)
        have hne : ¬ d 0 (nI p).toNatClampNeg = 6 := by
          rw [ek, g3, eq_i, nI_toInt (by omega), t_6]
          omega
        have hQ := hno (fun w => hne w.2.2)
        rw [if_neg hne] at hQ
        exact hQ
      · have c' : ¬ (cond (isSub (kcl k) 8) 1 0 : Int32) = 0 := c
        rw [cb_i] at c'
        exact a51 ((s8 k g2).mp (b2i_n c'))
    refine go [33] 60 _ _ _ _ _ _ _ _ _ ?_
    refine m_i0 (m := 9) (by decide) 9 rfl (fun hz => a33 hz) (fun c => ?_)
    have hQ := hno (fun w => absurd (w.2.1.symm.trans c) (by decide))
    rw [if_neg (fun w => absurd (w.symm.trans c) (by decide))] at hQ
    exact hQ
  exact a21
theorem q_row {x y z : Int32} (hI : InvM N d g sd S G) (hD : DOk N d) (h : ∀ S', FrM S S' → InvM N (upR d 0 (twRo (d 0) (N 0) x y z)) g sd S' G → Q (some (.int (rRo (d 0) (N 0) x y z))) n K S' G P) : Ok l L xs T1 (D + 12) jX12_row 0 [.ref 120, .int x, .int y, .int z] n K S G P Q := by
  refine I_X12_row (by decide) (fun At go => ?_)
  have np6 := hD.1.1.2
  have hR := hI.1.1
  have hn : S 120 0 = nI (N 0) := (RM_np hR).trans hD.1.1.1
  have hno : ¬ okRo (d 0) (N 0) x y z → Q (some (.int (rRo (d 0) (N 0) x y z))) n K S G P := by
    intro c
    refine h S (FrM.rf S) ?_
    rw [twRo_f c, upR_id]
    exact hI
  unfold rRo at h hno
  have a17 : ¬ (inR (N 0) x = true ∧ inR 4 y = true) → At 17 [.ref 120, .int x, .int y, .int z, .retAddr 0] [] n K S G P 0 := by
    intro c
    have hQ := hno (fun w => c w.1)
    rw [if_neg c] at hQ
    refine go [19] 60 _ _ _ _ _ _ _ _ _ ?_
    exact hQ
  refine go [17, 19] 60 _ _ _ _ _ _ _ _ _ ?_
  refine mm_isOne hn np6 (fun p hp ep => ?_) (fun c => a17 (fun w => by rw [inR_f c] at w; exact absurd w.1 (by decide)))
  refine mm_w0 (m := 3) (by decide) 3 rfl (fun hy => ?_) (fun c => a17 (fun w => by rw [c] at w; exact absurd w.2 (by decide)))
  subst ep
  obtain ⟨j, hj, ej⟩ := inR_ex hy
  subst ej
  have hv : inR (N 0) (nI p) = true ∧ inR 4 (nI j) = true := ⟨inR_nI hp (by omega), hy⟩
  rw [if_pos hv] at h hno
  have x6 : ixB (nI p) 6 = true := ixB_nI (by omega) (by decide)
  have ek : (nI p).toNatClampNeg = p := nI_clamp (by omega)
  have ek2 : (nI j).toNatClampNeg = j := nI_clamp (by omega)
  have e0 : S 121 (nI p).toNatClampNeg = d 0 (nI p).toNatClampNeg := by rw [ek]; have := RM_kind hR p (by omega); rw [Nat.zero_add] at this; exact this
  have a19 : At 19 [.ref 120, .int (nI p), .int (nI j), .int z, .retAddr 0] [] n K S G P 0 := by
    have a32 : inR 10 z = true → At 32 [.ref 120, .int (nI p), .int (nI j), .int z, .retAddr 0] [] n K S G P 0 := by
      intro hz
      rw [if_pos hz] at h hno
      have a46 : d 0 (nI p).toNatClampNeg = 6 → At 46 [.ref 120, .int (nI p), .int (nI j), .int z, .retAddr 0] [] n K S G P 0 := by
        intro e6'
        have ok : okRo (d 0) (N 0) (nI p) (nI j) z := ⟨hv, hz, e6'⟩
        rw [twRo_t ok, if_pos e6', ek, ek2] at h
        have xi : 4 * nI p + nI j = nI (4 * p + j) := by rw [show (4 : Int32) = nI 4 from rfl, pk_mul, nI_add]
        have x24 : ixB (4 * nI p + nI j) 24 = true := by rw [xi]; exact ixB_nI (by omega) (by decide)
        have er : S 124 (4 * nI p + nI j).toNatClampNeg = d 0 (18 + (4 * p + j)) := by rw [xi, nI_clamp (by omega)]; exact RM_rows hR _ (by omega)
        have fin := h (up2 S 124 (4 * p + j) z) (fun b i h1 => up2_o _ _ (by omega)) (InvM_tw hI (fun b i hb => up2_o _ _ (.inl (fun e => by subst e; cases hb))) (RM_up z (by omega) (ml_rows _ (by omega)) hR) (fun i _ => rfl))
        have ei : (4 * nI p + nI j).toNatClampNeg = 4 * p + j := by rw [xi, nI_clamp (by omega)]
        rw [← er, ← ei] at fin
        refine go [] 60 _ _ _ _ _ _ _ _ _ ?_
        refine ite_t x24 ?_
        refine ite_t x24 ?_
        exact fin
      refine go [46] 60 _ _ _ _ _ _ _ _ _ ?_
      refine ite_t x6 ?_
      refine ite_i (fun c => a46 (e0.symm.trans c)) (fun c => ?_)
      have hne : ¬ d 0 (nI p).toNatClampNeg = 6 := fun e => c (e0.trans e)
      have hQ := hno (fun w => hne w.2.2)
      rw [if_neg hne] at hQ
      exact hQ
    refine go [32] 60 _ _ _ _ _ _ _ _ _ ?_
    refine mm_w0 (m := 9) (by decide) 9 rfl (fun hz => a32 hz) (fun c => ?_)
    have hQ := hno (fun w => absurd (w.2.1.symm.trans c) (by decide))
    rw [if_neg (fun w => absurd (w.symm.trans c) (by decide))] at hQ
    exact hQ
  exact a19
theorem d_row {x y z : Int32} (hD : DOk N d) : DOk N (upR d 0 (twRo (d 0) (N 0) x y z)) := by
  refine DOk_tw hD ?_ hD.2.1 (fun i _ => rfl)
  by_cases c : okRo (d 0) (N 0) x y z
  · rw [twRo_t c]
    obtain ⟨p, hp, ep⟩ := inR_ex c.1.1
    obtain ⟨j, hj, ej⟩ := inR_ex c.1.2
    have np6 := hD.1.1.2
    rw [ep, ej, nI_clamp (by omega), nI_clamp (by omega)]
    exact TwOk_ne hD.1 (fun k hk h => va_up_ne _ _ (by omega))
  · rw [twRo_f c]
    exact hD.1
end A
end

noncomputable section
/-! IMAGE, UNDO. -/
def clb (z : Nat × Nat) : Bool := (Nat.beq z.1 0 && (Nat.beq z.2 0 || Nat.beq z.2 7 || Nat.beq z.2 10 || Nat.beq z.2 12 || Nat.beq z.2 14)) || (Nat.beq z.1 2 && Nat.blt z.2 6) || (Nat.beq z.1 3 && Nat.blt z.2 24) || (Nat.beq z.1 4 && Nat.blt z.2 36) || (Nat.beq z.1 5 && Nat.blt z.2 36) || (Nat.beq z.1 6 && Nat.blt z.2 36) || (Nat.beq z.1 7 && Nat.blt z.2 25) || (Nat.beq z.1 8 && Nat.blt z.2 20) || (Nat.beq z.1 9 && Nat.blt z.2 24)
theorem cl_clb : ∀ k, k < 212 → clb (cl (12 + k)) = true := by decide +kernel
def Bec (a b : Nat) (S S' : Mi) (P P' : Mr) : Prop := ((S' a 0 = S b 0 ∧ S' a 7 = S b 7 ∧ S' a 10 = S b 10 ∧ S' a 12 = S b 12 ∧ S' a 14 = S b 14) ∧ ((∀ i, i < 6 → S' (a + 2) i = S (b + 2) i) ∧ (∀ i, i < 24 → S' (a + 3) i = S (b + 3) i) ∧ (∀ i, i < 36 → S' (a + 4) i = S (b + 4) i) ∧ (∀ i, i < 36 → S' (a + 5) i = S (b + 5) i) ∧ (∀ i, i < 36 → S' (a + 6) i = S (b + 6) i) ∧ (∀ i, i < 25 → S' (a + 7) i = S (b + 7) i) ∧ (∀ i, i < 20 → S' (a + 8) i = S (b + 8) i) ∧ (∀ i, i < 24 → S' (a + 9) i = S (b + 9) i))) ∧ (∀ c j, (c < a ∨ a + 9 < c) → S' c j = S c j) ∧ P' a 8 = P b 8 ∧ (∀ i, i < 6 → P' (a + 1) i = P (b + 1) i) ∧ (∀ c j, c ≠ a → c ≠ a + 1 → P' c j = P c j)
theorem Bec_loc {a b : Nat} {S S' : Mi} {P P' : Mr} (h : Bec a b S S' P P') {k : Nat} (hk : k < 212) : S' (a + (cl (12 + k)).1) (cl (12 + k)).2 = S (b + (cl (12 + k)).1) (cl (12 + k)).2 := by
  have e := cl_clb k hk
  generalize cl (12 + k) = z at e
  obtain ⟨c, i⟩ := z
  unfold clb at e
  simp only [Bool.or_eq_true, Bool.and_eq_true, Nat.beq_eq, Nat.blt_eq] at e
  obtain ⟨⟨f1, f2⟩, _⟩ := h
  rcases e with ((((((((⟨rfl, e⟩ | ⟨rfl, e⟩) | ⟨rfl, e⟩) | ⟨rfl, e⟩) | ⟨rfl, e⟩) | ⟨rfl, e⟩) | ⟨rfl, e⟩) | ⟨rfl, e⟩) | ⟨rfl, e⟩)
  · rcases e with (((rfl | rfl) | rfl) | rfl) | rfl
    · exact f1.1
    · exact f1.2.1
    · exact f1.2.2.1
    · exact f1.2.2.2.1
    · exact f1.2.2.2.2
  · exact f2.1 _ e
  · exact f2.2.1 _ e
  · exact f2.2.2.1 _ e
  · exact f2.2.2.2.1 _ e
  · exact f2.2.2.2.2.1 _ e
  · exact f2.2.2.2.2.2.1 _ e
  · exact f2.2.2.2.2.2.2.1 _ e
  · exact f2.2.2.2.2.2.2.2 _ e
theorem TC_bec {a b np n : Nat} {K : Mk} {S S' : Mi} {P P' : Mr} {tw : Nat → Int32} (ha : a ≤ 60) (h6 : np ≤ 6) (h : Bec a b S S' P P') (hT : TC b tw np n K S P) : TC a tw np n K S' P' := by
  obtain ⟨⟨r1, r2⟩, p1, h8⟩ := hT
  refine ⟨⟨fun k hk => ?_, fun i hi e => ?_⟩, fun p hp => ?_, h.2.2.1.trans h8⟩
  · have := Bec_loc h (k := k - 12) (by have := hk.1; have := hk.2.1; omega)
    rw [show 12 + (k - 12) = k by have := hk.1; omega] at this
    exact this.trans (r1 k hk)
  · exact (h.1.2.2.2.2.2.2.2.1 _ (by omega)).trans (r2 i hi e)
  · obtain ⟨w, k, g1, g2, g3, g4, g5, g6, g7, g8⟩ := p1 p hp
    have gw := g4.1
    exact ⟨w, k, (h.2.2.2.1 p (by omega)).trans g1, g2, g3, g4, (h.2.1 _ _ (by omega)).trans g5, (h.2.1 _ _ (by omega)).trans g6, (h.2.1 _ _ (by omega)).trans g7, (h.2.2.2.2 _ _ (by omega) (by omega)).trans g8⟩
theorem TC_apart {a b c np n : Nat} {K : Mk} {S S' : Mi} {P P' : Mr} {tw : Nat → Int32} (hc : c + 9 < a ∨ a + 9 < c) (ha : a ≤ 60) (h : Bec a b S S' P P') (hT : TC c tw np n K S P) : TC c tw np n K S' P' := by
  obtain ⟨h1, p1, h8⟩ := hT
  refine ⟨RC_fr (fun b j hb _ => h.2.1 _ _ (by omega)) h1, fun p hp => ?_, (h.2.2.2.2 _ _ (by omega) (by omega)).trans h8⟩
  obtain ⟨w, k, g1, g2, g3, g4, g5, g6, g7, g8⟩ := p1 p hp
  have gw := g4.1
  exact ⟨w, k, (h.2.2.2.2 _ _ (by omega) (by omega)).trans g1, g2, g3, g4, (h.2.1 _ _ (by omega)).trans g5, (h.2.1 _ _ (by omega)).trans g6, (h.2.1 _ _ (by omega)).trans g7, (h.2.2.2.2 _ _ (by omega) (by omega)).trans g8⟩
def WO (n : Nat) (K : Mk) (P : Mr) : Prop := WhoOk 33 n K P ∧ WhoOk 45 n K P
theorem Who_bec {a b n : Nat} {K : Mk} {S S' : Mi} {P P' : Mr} (h : Bec a b S S' P P') (hw : WhoOk b n K P) : WhoOk a n K P' := fun i hi => by
  rw [h.2.2.2.1 i hi]
  exact hw i hi
theorem Who_apart {a b c n : Nat} {K : Mk} {S S' : Mi} {P P' : Mr} (hc : c + 1 ≠ a ∧ c ≠ a) (h : Bec a b S S' P P') (hw : WhoOk c n K P) : WhoOk c n K P' := fun i hi => by
  rw [h.2.2.2.2 _ i hc.1 (by omega)]
  exact hw i hi
def imN (N : Nat → Nat) : Nat → Nat := upR (upR N 4 (N 0)) 5 (N 1)
def imD (d : Nat → Nat → Int32) : Nat → Nat → Int32 := upR (upR d 1 (d 0)) 3 (va_up (d 3) 0 1)
def unN (N : Nat → Nat) : Nat → Nat := upR (upR N 0 (N 4)) 1 (N 5)
def unD (d : Nat → Nat → Int32) : Nat → Nat → Int32 := upR d 0 (d 1)
section A
variable {l : Launch} {L : Nat} {xs : Nat → Int32} {D : Nat} {n : Nat} {K : Mk} {S : Mi} {G : Ml} {P : Mr} {Q : QT} {N : Nat → Nat} {d : Nat → Nat → Int32} {g : Nat → Int64} {sd : Nat → Int32 × ((Nat → Int32) → Bool)}
set_option maxRecDepth 20000
theorem m_bec {a b : Nat} (hab : AB a b) (hw : WhoOk b n K P) (h : ∀ S' P', Bec a b S S' P P' → Q none n K S' G P') : Ok l L xs T1 (D + 1) jX9_becomes 0 [.ref a, .ref b] n K S G P Q :=
  m_becomes hab hw (fun S' P' h1 h2 h3 h4 h5 h6 => h S' P' ⟨⟨h1, h2⟩, h3, h4, h5, h6⟩)
theorem c_image (hI : InvC N d g sd n K S G P) (hD : DOk N d) (hW : WO n K P) (h : ∀ S' P', FrC S S' → InvC (imN N) (imD d) g sd n K S' G P' → WO n K P' → Q (some (.int (d 0 219))) n K S' G P') : Ok l L xs T1 (D + 12) jX11_image 0 [.ref 32] n K S G P Q := by
  refine I_X11_image (by decide) (fun At go => ?_)
  have np6 := hD.1.1.2
  refine go [] 60 _ _ _ _ _ _ _ _ _ ?_
  refine m_bec (.inl ⟨rfl, rfl⟩) hW.1 (fun S1 P1 hB => ?_)
  obtain ⟨⟨h1, h2, h3⟩, ⟨h4, h5, h5'⟩, ⟨h7, h8⟩, ⟨h9, h10⟩, h11, h12⟩ := hI
  have hf : ∀ b j, (b < 45 ∨ 54 < b) → ¬ (b = 32 ∧ j = 3) → up2 S1 32 3 1 b j = S b j := fun b j hb hc => by rw [up2_o _ _ (by omega)]; exact hB.2.1 b j hb
  have hP : ∀ b j, b ≠ 45 → b ≠ 46 → P1 b j = P b j := fun b j q1 q2 => hB.2.2.2.2 b j q1 q2
  have t33 := TC_apart (c := 33) (.inl (by decide)) (by decide) hB h1
  have t45 := TC_bec (by decide) np6 hB h1
  have up : ∀ {a tw np}, (a = 33 ∨ a = 45) → TC a tw np n K S1 P1 → TC a tw np n K (up2 S1 32 3 1) P1 := fun {a tw np} ha ⟨f1, f2, f3⟩ => ⟨RC_fr (fun b j hb _ => up2_o _ _ (by omega)) f1, fun p hp => Psn_f2 (fun b j hb => up2_o _ _ (by omega)) (f2 p hp), f3⟩
  have hI' : InvC (imN N) (imD d) g sd n K (up2 S1 32 3 1) G P1 := by
    refine ⟨⟨up (.inl rfl) t33, up2_s _ _ _ _, fun _ => up (.inr rfl) t45⟩, ⟨fun k hk => ?_, (hf _ _ (by decide) (by decide)).trans h5, fun i hi => (hP _ _ (by decide) (by decide)).trans (h5' i hi)⟩, ⟨(hf _ _ (by decide) (by decide)).trans h7, fun i hi => (hf _ _ (by decide) (by omega)).trans (h8 i hi)⟩, ⟨fun t ht => ⟨(hf _ _ (by decide) (by omega)).trans (h9 t ht).1, (hf _ _ (by decide) (by omega)).trans (h9 t ht).2.1, (hP _ _ (by decide) (by decide)).trans (h9 t ht).2.2⟩, h10⟩, (hf _ _ (by decide) (by decide)).trans h11, fun i hi hj => (hf _ _ (by decide) (by omega)).trans (h12 i hi hj)⟩
    exact SC_fr (fun j => ⟨hf _ _ (by omega) (by omega), hf _ _ (by omega) (by omega), hf _ _ (by omega) (by omega), hf _ _ (by omega) (by omega)⟩) (h4 k hk)
  have fin := h (up2 S1 32 3 1) P1 (fun b j q1 q2 => hf b j (by omega) (by omega)) hI' ⟨Who_apart (by decide) hB hW.1, Who_bec hB hW.1⟩
  have e : up2 S1 32 3 1 33 0 = d 0 219 := RC_np hI'.1.1.1
  rw [← e] at fin
  exact fin
theorem q_image (hI : InvM N d g sd S G) (hD : DOk N d) (h : ∀ S', FrM S S' → InvM (imN N) (imD d) g sd S' G → Q (some (.int (d 0 219))) n K S' G P) : Ok l L xs T1 (D + 12) jX12_image 0 [.ref 120] n K S G P Q := by
  refine I_X12_image (by decide) (fun At go => ?_)
  obtain ⟨⟨h1, h2, h3⟩, ⟨h4, cd, h5, h5', h6⟩, ⟨h7, h8⟩, ⟨h9, h10⟩, h11, h12⟩ := hI
  have hR1 : RM (d 0) (up2 S 120 40 1) := RM_fr (fun k hk => up2_o _ _ (by
    have e : ∀ k, k < 225 → (mloc k).1 ≠ 120 ∨ (mloc k).2 ≠ 40 := by decide +kernel
    exact e k hk)) h1
  refine go [] 60 _ _ _ _ _ _ _ _ _ ?_
  refine mm_keep (.inl rfl) hR1 (fun S1 f1 f2 => ?_)
  replace f1 : ∀ b j, b ≠ 147 → S1 b j = up2 S 120 40 1 b j := f1
  have hf : ∀ b j, b ≠ 147 → ¬ (b = 120 ∧ j = 40) → S1 b j = S b j := fun b j q1 q2 => (f1 b j q1).trans (up2_o _ _ (by omega))
  have hR : RM (d 0) S1 := RM_fr (fun k hk => f1 _ _ (by
    have e : ∀ k, k < 225 → (mloc k).1 ≠ 147 := by decide +kernel
    exact e k hk)) hR1
  have hI' : InvM (imN N) (imD d) g sd S1 G := by
    refine ⟨⟨hR, (f1 _ _ (by decide)).trans (up2_s _ _ _ _), fun _ i hi => f2 i hi⟩, ⟨(hf _ _ (by decide) (by decide)).trans h4, cd, (hf _ _ (by decide) (by decide)).trans h5, h5', fun k hk => SMb_fr (Nat.le_refl _) (fun j _ => hf _ _ (by decide) (by omega)) (hf _ _ (by decide) (by omega)) (fun a i ha hb _ => hf _ _ (by omega) (by omega)) (h6 k hk)⟩, ⟨(hf _ _ (by decide) (by decide)).trans h7, fun i hi => (hf _ _ (by decide) (by omega)).trans (h8 i hi)⟩, ⟨fun t ht => ⟨(hf _ _ (by decide) (by omega)).trans (h9 t ht).1, (hf _ _ (by decide) (by omega)).trans (h9 t ht).2⟩, h10⟩, (hf _ _ (by decide) (by decide)).trans h11, fun i hi hj => (hf _ _ (by decide) (by omega)).trans (h12 i hi hj)⟩
  have fin := h S1 (fun b j hb => hf b j (by omega) (by omega)) hI'
  have e : S1 120 0 = d 0 219 := RM_np hR
  rw [← e] at fin
  exact fin
theorem d_image (hD : DOk N d) : DOk (imN N) (imD d) := by
  obtain ⟨d1, d2, d3, d4, d5, d6, d7⟩ := hD
  exact ⟨d1, d2, .inr ⟨rfl, d1, d2⟩, d4, d5, d6, d7⟩
theorem c_undo (hI : InvC N d g sd n K S G P) (hD : DOk N d) (hW : WO n K P) (h1 : d 3 0 = 1 → ∀ S' P', FrC S S' → InvC (unN N) (unD d) g sd n K S' G P' → WO n K P' → Q (some (.int (d 1 219))) n K S' G P') (h0 : ¬ d 3 0 = 1 → Q (some (.int (-3))) n K S G P) : Ok l L xs T1 (D + 12) jX11_undo 0 [.ref 32] n K S G P Q := by
  refine I_X11_undo (by decide) (fun At go => ?_)
  have eim := hI.1.2.1
  have a10 : d 3 0 = 1 → At 10 [.ref 32] [] n K S G P 0 := by
    intro e1
    have t4 := hI.1.2.2 e1
    have np6 : N 4 ≤ 6 := by
      rcases hD.2.2.1 with z | z
      · rw [e1] at z; exact absurd z (by decide)
      · exact z.2.1.1.2
    refine go [] 60 _ _ _ _ _ _ _ _ _ ?_
    refine m_bec (.inr (.inl ⟨rfl, rfl⟩)) hW.2 (fun S1 P1 hB => ?_)
    obtain ⟨⟨q1, q2, q3⟩, ⟨h4, h5, h5'⟩, ⟨h7, h8⟩, ⟨h9, h10⟩, h11, h12⟩ := hI
    have hf : ∀ b j, (b < 33 ∨ 42 < b) → S1 b j = S b j := fun b j hb => hB.2.1 b j hb
    have hP : ∀ b j, b ≠ 33 → b ≠ 34 → P1 b j = P b j := fun b j q1 q2 => hB.2.2.2.2 b j q1 q2
    have t33 := TC_bec (by decide) np6 hB t4
    have t45 := TC_apart (c := 45) (.inr (by decide)) (by decide) hB t4
    have hI' : InvC (unN N) (unD d) g sd n K S1 G P1 := by
      refine ⟨⟨t33, (hf _ _ (by decide)).trans q2, fun _ => t45⟩, ⟨fun k hk => ?_, (hf _ _ (by decide)).trans h5, fun i hi => (hP _ _ (by decide) (by decide)).trans (h5' i hi)⟩, ⟨(hf _ _ (by decide)).trans h7, fun i hi => (hf _ _ (by decide)).trans (h8 i hi)⟩, ⟨fun t ht => ⟨(hf _ _ (by decide)).trans (h9 t ht).1, (hf _ _ (by decide)).trans (h9 t ht).2.1, (hP _ _ (by decide) (by decide)).trans (h9 t ht).2.2⟩, h10⟩, (hf _ _ (by decide)).trans h11, fun i hi hj => (hf _ _ (by decide)).trans (h12 i hi hj)⟩
      exact SC_fr (fun j => ⟨hf _ _ (by omega), hf _ _ (by omega), hf _ _ (by omega), hf _ _ (by omega)⟩) (h4 k hk)
    have fin := h1 e1 S1 P1 (fun b j q1 q2 => hf b j (by omega)) hI' ⟨Who_bec hB hW.2, Who_apart (by decide) hB hW.2⟩
    have e : S1 33 0 = d 1 219 := RC_np t33.1
    rw [← e] at fin
    exact fin
  refine go [10] 60 _ _ _ _ _ _ _ _ _ ?_
  refine ite_i (fun c => ?_) (fun c => ?_)
  · refine h0 (fun z => ?_)
    rw [eim, z] at c
    exact absurd c (by decide)
  · refine a10 ?_
    rcases hD.2.2.1 with z | z
    · exact absurd (eim.trans z) c
    · exact z.1
theorem q_undo (hI : InvM N d g sd S G) (hD : DOk N d) (h1 : d 3 0 = 1 → ∀ S', FrM S S' → InvM (unN N) (unD d) g sd S' G → Q (some (.int (d 1 219))) n K S' G P) (h0 : ¬ d 3 0 = 1 → Q (some (.int (-3))) n K S G P) : Ok l L xs T1 (D + 12) jX12_undo 0 [.ref 120] n K S G P Q := by
  refine I_X12_undo (by decide) (fun At go => ?_)
  have eim := hI.1.2.1
  have a10 : d 3 0 = 1 → At 10 [.ref 120] [] n K S G P 0 := by
    intro e1
    refine go [] 60 _ _ _ _ _ _ _ _ _ ?_
    refine mm_again (tw := d 1) (.inl rfl) hI.1.1 (hI.1.2.2 e1) (fun S1 hS hR => ?_)
    have hI' := InvM_tw (N' := unN N) hI (fun b j hb => hS b j (by
      cases e : tcell b j with
      | false => rfl
      | true =>
        exfalso
        unfold fpm at hb
        unfold tcell at e
        simp only [Bool.or_eq_true, Bool.and_eq_true, Nat.beq_eq, Nat.ble_eq] at hb e
        omega)) hR (fun i hi => by unfold unN; rw [upR_o _ _ (by omega), upR_o _ _ (by omega)])
    have fin := h1 e1 S1 (fun b j hb => hS b j (by
      cases e : tcell b j with
      | false => rfl
      | true =>
        exfalso
        unfold tcell at e
        simp only [Bool.or_eq_true, Bool.and_eq_true, Nat.beq_eq, Nat.ble_eq] at e
        omega)) hI'
    have e : S1 120 0 = d 1 219 := RM_np hR
    rw [← e] at fin
    exact fin
  refine go [10] 60 _ _ _ _ _ _ _ _ _ ?_
  refine ite_i (fun c => ?_) (fun c => ?_)
  · refine h0 (fun z => ?_)
    rw [eim, z] at c
    exact absurd c (by decide)
  · refine a10 ?_
    rcases hD.2.2.1 with z | z
    · exact absurd (eim.trans z) c
    · exact z.1
theorem d_undo (hD : DOk N d) (e : d 3 0 = 1) : DOk (unN N) (unD d) := by
  obtain ⟨d1, d2, d3, d4, d5, d6, d7⟩ := hD
  rcases d3 with z | z
  · rw [e] at z; exact absurd z (by decide)
  · exact ⟨z.2.1, z.2.2, .inr z, d4, d5, d6, d7⟩
end A
end

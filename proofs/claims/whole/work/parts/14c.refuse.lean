noncomputable section
def vRf (np : Nat) (x y z : Int32) : Prop := inR np x = true ∧ inR np y = true ∧ inR 4 z = true
def okRf (sd : Nat → Int32 × ((Nat → Int32) → Bool)) (tw : Nat → Int32) (np dy : Nat) (x y z : Int32) : Prop := vRf np x y z ∧ ¬ x = y ∧ cnW sd tw x.toNatClampNeg y.toNatClampNeg (tw (6 + x.toNatClampNeg)) dy z.toNatClampNeg = true
def rRf0 (np : Nat) (x y z : Int32) : Int32 := @ite _ (vRf np x y z) (Classical.propDecidable _) (if x = y then -2 else -5) (-1)
theorem rRf0_t {np : Nat} {x y z : Int32} (h : vRf np x y z) : rRf0 np x y z = if x = y then -2 else -5 := if_pos h
theorem rRf0_f {np : Nat} {x y z : Int32} (h : ¬ vRf np x y z) : rRf0 np x y z = -1 := if_neg h
section A
variable {l : Launch} {L : Nat} {xs : Nat → Int32} {D : Nat} {n : Nat} {K : Mk} {S : Mi} {G : Ml} {P : Mr} {Q : QT} {N : Nat → Nat} {d : Nat → Nat → Int32} {g : Nat → Int64} {sd : Nat → Int32 × ((Nat → Int32) → Bool)}
set_option maxRecDepth 20000
theorem c_refuse {x y z : Int32} (hI : InvC N d g sd n K S G P) (hD : DOk N d) (h1 : okRf sd (d 0) (N 0) (N 1) x y z → ∀ S', FrC S S' → InvC N (upR d 0 (rfT (d 0) x.toNatClampNeg y.toNatClampNeg z.toNatClampNeg (N 1))) g sd n K S' G P → Q (some (.int (rfT (d 0) x.toNatClampNeg y.toNatClampNeg z.toNatClampNeg (N 1) (42 + (6 * x.toNatClampNeg + y.toNatClampNeg))))) n K S' G P) (h0 : ¬ okRf sd (d 0) (N 0) (N 1) x y z → ∀ S', FrC S S' → InvC N d g sd n K S' G P → Q (some (.int (rRf0 (N 0) x y z))) n K S' G P) : Ok l L xs T1 (D + 12) jX11_refuse 0 [.ref 32, .int x, .int y, .int z] n K S G P Q := by
  refine I_X11_refuse (by decide) (fun At go => ?_)
  have np6 := hD.1.1.2
  have hR := hI.1.1.1
  have hn : S 33 0 = nI (N 0) := (RC_np hR).trans hD.1.1.1
  have hT := CT_of hI hD
  have a29 : ∀ S' x4 r, Q (some (.int r)) n K S' G P → At 29 [.ref 32, .int x, .int y, .int z, x4] [.int r] n K S' G P 0 := by
    intro S' x4 r hr
    refine go [19] 60 _ _ _ _ _ _ _ _ _ ?_
    exact hr
  refine go [19, 29] 60 _ _ _ _ _ _ _ _ _ ?_
  refine m_fault (np := N 0) hn np6 ?_
  by_cases hv : vRf (N 0) x y z
  · rw [rRf0_t hv] at h0
    by_cases he : x = y
    · have ef : flt (N 0) x y z = -2 := (if_pos hv).trans (if_pos he)
      have hQ := h0 (fun w => w.2.1 he) S (FrC.rf S) hI
      rw [if_pos he] at hQ
      rw [ef]
      exact a29 _ _ _ hQ
    · have ef : flt (N 0) x y z = 0 := (if_pos hv).trans (if_neg he)
      rw [if_neg he] at h0
      rw [ef]
      obtain ⟨p, hp, ep⟩ := inR_ex hv.1
      obtain ⟨q, hq, eq⟩ := inR_ex hv.2.1
      obtain ⟨w, hw, ew⟩ := inR_ex hv.2.2
      subst ep
      subst eq
      subst ew
      have k1 : (nI p).toNatClampNeg = p := nI_clamp (by omega)
      have k2 : (nI q).toNatClampNeg = q := nI_clamp (by omega)
      have k3 : (nI w).toNatClampNeg = w := nI_clamp (by omega)
      have okf : okRf sd (d 0) (N 0) (N 1) (nI p) (nI q) (nI w) ↔ cnW sd (d 0) p q (d 0 (6 + p)) (N 1) w = true := by
        unfold okRf
        rw [k1, k2, k3]
        exact ⟨fun z => z.2.2, fun z => ⟨hv, he, z⟩⟩
      rw [k1, k2, k3] at h1
      have a19 : At 19 [.ref 32, .int (nI p), .int (nI q), .int (nI w), .int 0] [] n K S G P 0 := by
        refine go [29] 60 _ _ _ _ _ _ _ _ _ ?_
        refine c_hears (D := D + 5) (dy := N 1) hT hp hq hw (fun c S' hF hT' => ?_) (fun c S' hF => ?_)
        · refine a29 _ _ _ (h1 (okf.mpr c) S' (fun b j q1 q2 => hF b j (by omega) (scr_big (by omega))) (InvC_tw hD hI (fun b j q1 q2 => hF b j (by omega) (scr2_scr q2)) hT' (fun i _ => rfl)))
        · exact a29 _ _ _ (h0 (fun z => c (okf.mp z)) S' (FrC_fc hF) (IC_fc hI hD hF))
      exact a19
  · have ef : flt (N 0) x y z = -1 := if_neg hv
    have hQ := h0 (fun w => hv w.1) S (FrC.rf S) hI
    rw [rRf0_f hv] at hQ
    rw [ef]
    exact a29 _ _ _ hQ
theorem q_refuse {x y z : Int32} (hI : InvM N d g sd S G) (hD : DOk N d) (h1 : okRf sd (d 0) (N 0) (N 1) x y z → ∀ S', FrM S S' → InvM N (upR d 0 (rfT (d 0) x.toNatClampNeg y.toNatClampNeg z.toNatClampNeg (N 1))) g sd S' G → Q (some (.int (rfT (d 0) x.toNatClampNeg y.toNatClampNeg z.toNatClampNeg (N 1) (42 + (6 * x.toNatClampNeg + y.toNatClampNeg))))) n K S' G P) (h0 : ¬ okRf sd (d 0) (N 0) (N 1) x y z → ∀ S', FrM S S' → InvM N d g sd S' G → Q (some (.int (rRf0 (N 0) x y z))) n K S' G P) : Ok l L xs T1 (D + 12) jX12_refuse 0 [.ref 120, .int x, .int y, .int z] n K S G P Q := by
  refine I_X12_refuse (by decide) (fun At go => ?_)
  have np6 := hD.1.1.2
  have hR := hI.1.1
  have hn : S 120 0 = nI (N 0) := (RM_np hR).trans hD.1.1.1
  have hT := MT_of hI hD
  have a16 : ¬ vRf (N 0) x y z → At 16 [.ref 120, .int x, .int y, .int z] [] n K S G P 0 := by
    intro c
    have hQ := h0 (fun w => c w.1) S (FrM.rf S) hI
    rw [rRf0_f c] at hQ
    refine go [18] 60 _ _ _ _ _ _ _ _ _ ?_
    exact hQ
  have a48 : ∀ S' r, Q (some (.int r)) n K S' G P → At 48 [.ref 120, .int x, .int y, .int z] [.int r] n K S' G P 0 := by
    intro S' r hr
    refine go [18] 60 _ _ _ _ _ _ _ _ _ ?_
    exact hr
  refine go [16, 18, 26, 46, 48] 60 _ _ _ _ _ _ _ _ _ ?_
  refine mm_are2 hn np6 (fun p q hp hq ep eq => ?_) (fun c => a16 (fun w => c ⟨w.1, w.2.1⟩))
  refine mm_isWord2 (fun hz => ?_) (fun c => a16 (fun w => absurd (w.2.2.symm.trans c) (by decide)))
  obtain ⟨w, hw, ew⟩ := inR_ex hz
  subst ep
  subst eq
  subst ew
  have hv : vRf (N 0) (nI p) (nI q) (nI w) := ⟨inR_nI hp (by omega), inR_nI hq (by omega), hz⟩
  rw [rRf0_t hv] at h0
  have k1 : (nI p).toNatClampNeg = p := nI_clamp (by omega)
  have k2 : (nI q).toNatClampNeg = q := nI_clamp (by omega)
  have k3 : (nI w).toNatClampNeg = w := nI_clamp (by omega)
  rw [k1, k2, k3] at h1
  have a26 : ¬ nI p = nI q → At 26 [.ref 120, .int (nI p), .int (nI q), .int (nI w)] [] n K S G P 0 := by
    intro he
    rw [if_neg he] at h0
    have okf : okRf sd (d 0) (N 0) (N 1) (nI p) (nI q) (nI w) ↔ cnW sd (d 0) p q (d 0 (6 + p)) (N 1) w = true := by
      unfold okRf
      rw [k1, k2, k3]
      exact ⟨fun z => z.2.2, fun z => ⟨hv, he, z⟩⟩
    refine go [46, 48] 60 _ _ _ _ _ _ _ _ _ ?_
    refine q_now (D := D + 6) (dy := N 1) hT hp hq hw (fun S' hS => ?_)
    have hT' := MT1_fm hS hT
    have hday : S' 120 8 = nI (N 1) := (RM_dy hT'.1).trans hD.1.2.1.1
    refine ite_i (fun c => ?_) (fun c => ?_)
    · have a46 : At 46 [.ref 120, .int (nI p), .int (nI q), .int (nI w)] [] n K S' G P 0 := by
        refine go [48] 60 _ _ _ _ _ _ _ _ _ ?_
        exact a48 _ _ (h0 (fun z => by rw [b2i_0 c] at okf; exact absurd (okf.mp z) (by decide)) S' (FrM_fm hS) (IM_fm hI hS))
      exact a46
    · refine mm_refuses (dy := N 1) hT'.1 (by omega) (by omega) hday (fun S2 hF hR2 => ?_)
      have hF2 := FrR_tr (FrR_fm hS) hF
      exact a48 _ _ (h1 (okf.mpr (b2i_n c)) S2 (FrR_frm hF2) (InvM_tw hI (FrR_fpm hF2) hR2 (fun i _ => rfl)))
  have a18 : At 18 [.ref 120, .int (nI p), .int (nI q), .int (nI w)] [] n K S G P 0 := by
    refine go [26] 60 _ _ _ _ _ _ _ _ _ ?_
    refine ite_i (fun c => ?_) (fun c => a26 c)
    have hQ := h0 (fun w => w.2.1 c) S (FrM.rf S) hI
    rw [if_pos c] at hQ
    exact hQ
  exact a18
theorem d_refuse {x y z : Int32} (hD : DOk N d) (ok : okRf sd (d 0) (N 0) (N 1) x y z) : DOk N (upR d 0 (rfT (d 0) x.toNatClampNeg y.toNatClampNeg z.toNatClampNeg (N 1))) := by
  have np6 := hD.1.1.2
  obtain ⟨p, hp, ep⟩ := inR_ex ok.1.1
  obtain ⟨q, hq, eq⟩ := inR_ex ok.1.2.1
  refine DOk_tw hD (TwOk_rf ?_ ?_ hD.1) hD.2.1 (fun i _ => rfl)
  · rw [ep, nI_clamp (by omega)]; exact hp
  · rw [eq, nI_clamp (by omega)]; exact hq
end A
end

noncomputable section
theorem TwOk_v {tw : Nat → Int32} {np dy ns p j : Nat} (hp : p < 6) (hj : j < 10) (h : TwOk tw np dy ns) : TwOk (va_up tw (6 + p) (nI j)) np dy ns := by
  obtain ⟨h1, h2, h3, h4, h5, h6, ⟨r, r1, r2, r3⟩, ⟨s, s1, s2, s3⟩, ⟨b, b1, b2, b3⟩⟩ := h
  have e : ∀ k, (k < 6 ∨ 12 ≤ k) → va_up tw (6 + p) (nI j) k = tw k := fun k hk => va_up_ne _ _ (by omega)
  refine ⟨⟨(e _ (by omega)).trans h1.1, h1.2⟩, ⟨(e _ (by omega)).trans h2.1, h2.2⟩, ?_, fun q hq => ⟨?_, ?_⟩, fun i hi => by rw [e _ (by omega)]; exact h5 i hi, fun i hi => by rw [e _ (by omega)]; exact h6 i hi, ⟨r, r1, (e _ (by omega)).trans r2, fun i hi => ?_⟩, ⟨s, s1, (e _ (by omega)).trans s2, fun i hi => ?_⟩, ⟨b, b1, (e _ (by omega)).trans b2, fun i hi => ?_⟩⟩
  · rw [e _ (by omega)]; exact h3
  · rw [e _ (by omega)]; exact (h4 q hq).1
  · by_cases hq2 : q = p
    · subst hq2
      exact ⟨j, hj, va_up_self _ _ _⟩
    · rw [va_up_ne _ _ (by omega)]; exact (h4 q hq).2
  · rw [e _ (by omega), e _ (by omega), e _ (by omega), e _ (by omega), e _ (by omega)]; exact r3 i hi
  · rw [e _ (by omega), e _ (by omega)]; exact s3 i hi
  · rw [e _ (by omega), e _ (by omega)]; exact b3 i hi
theorem cnW_v {sd : Nat → Int32 × ((Nat → Int32) → Bool)} {tw : Nat → Int32} {p p1 q1 : Nat} {x v : Int32} {d w : Nat} (hp : p < 6) (h1 : p1 < 6) (h2 : q1 < 6) : cnW sd (va_up tw (6 + p) x) p1 q1 v d w = cnW sd tw p1 q1 v d w := by
  unfold cnW cntT
  rw [va_up_ne _ _ (show 224 ≠ 6 + p by omega), va_up_ne _ _ (show p1 ≠ 6 + p by omega), va_up_ne _ _ (show 78 + (6 * p1 + q1) ≠ 6 + p by omega), va_up_ne _ _ (show 114 + (6 * p1 + q1) ≠ 6 + p by omega)]
  have e : (fun i => va_up tw (6 + p) x (18 + (4 * p1 + i))) = fun i => tw (18 + (4 * p1 + i)) := funext (fun i => va_up_ne _ _ (by omega))
  rw [e]
theorem allS_v {sd : Nat → Int32 × ((Nat → Int32) → Bool)} {tw : Nat → Int32} {np dy p r : Nat} {x v : Int32} (hp : p < 6) (h6 : np ≤ 6) (hrow : ∀ i, i < r → ∃ p q w t, rowOk tw np i p q w t) : ∀ m j, j + m = r → allS sd (va_up tw (6 + p) x) dy p v m j = allS sd tw dy p v m j := by
  intro m
  induction m with
  | zero => intro j _; rfl
  | succ m ih =>
    intro j hj
    obtain ⟨p1, q1, w1, t1, hr⟩ := hrow j (by omega)
    have e : ∀ k, (k < 6 ∨ 12 ≤ k) → va_up tw (6 + p) x k = tw k := fun k hk => va_up_ne _ _ (by omega)
    have hr' : rowOk (va_up tw (6 + p) x) np j p1 q1 w1 t1 := by
      obtain ⟨f1, f2, f3, f4, f5, f6, f7, f8⟩ := hr
      exact ⟨f1, f2, f3, f4, (e _ (by omega)).trans f5, (e _ (by omega)).trans f6, (e _ (by omega)).trans f7, (e _ (by omega)).trans f8⟩
    rw [allS, allS, soB_e h6 hr', soB_e h6 hr, cnW_v hp (by have := hr.1; omega) (by have := hr.2.1; omega), e _ (by omega), e _ (by omega), ih (j + 1) (by omega)]
section A
variable {l : Launch} {L : Nat} {xs : Nat → Int32} {D : Nat} {n : Nat} {K : Mk} {S : Mi} {G : Ml} {P : Mr} {Q : QT} {N : Nat → Nat} {d : Nat → Nat → Int32} {g : Nat → Int64} {sd : Nat → Int32 × ((Nat → Int32) → Bool)}
set_option maxRecDepth 20000
theorem q_can {x y : Int32} (hI : InvM N d g sd S G) (hD : DOk N d) (h : ∀ S', FrM S S' → InvM N d g sd S' G → Q (some (.int (rCn sd (d 0) (N 0) (N 1) x y))) n K S' G P) : Ok l L xs T1 (D + 12) jX12_can 0 [.ref 120, .int x, .int y] n K S G P Q := by
  refine I_X12_can (by decide) (fun At go => ?_)
  have hQ := h S (FrM.rf S) hI
  obtain ⟨r, r5, er, erc, hrow⟩ := rows_of (tk_said hD.1)
  have np6 := hD.1.1.2
  have hR := hI.1.1
  have hn : S 120 0 = nI (N 0) := (RM_np hR).trans hD.1.1.1
  have a17 : ¬ (inR (N 0) x = true ∧ inR 2 y = true) → At 17 [.ref 120, .int x, .int y, .retAddr 0, .retAddr 0, .retAddr 0, .retAddr 0] [] n K S G P 0 := by
    intro c
    unfold rCn at hQ
    rw [if_neg c] at hQ
    refine go [19, 37, 61, 68, 74, 90, 92] 60 _ _ _ _ _ _ _ _ _ ?_
    exact hQ
  refine go [17, 19, 37, 61, 68, 74, 90, 92] 60 _ _ _ _ _ _ _ _ _ ?_
  refine mm_isOne hn np6 (fun p hp ep => ?_) (fun c => a17 (fun w => by rw [inR_f c] at w; exact absurd w.1 (by decide)))
  subst ep
  refine mm_w0 (m := 1) (by decide) 1 rfl (fun hy => ?_) (fun c => a17 (fun w => by rw [c] at w; exact absurd w.2 (by decide)))
  have hQ' : ∀ S', Fm S S' → Q (some (.int (if y = 0 then nI (cB (cnF sd (d 0) (N 1) p) 10 0) else fwV (cnF sd (d 0) (N 1) p) 10 0))) n K S' G P := fun S' hS => by
    have := h S' (FrM_fm hS) (IM_fm hI hS)
    unfold rCn at this
    rw [if_pos ⟨inR_nI hp (by omega), hy⟩, nI_clamp (by omega)] at this
    exact this
  have a92 : ∀ S' had mn lst vn z, Q (some (.int z)) n K S' G P → At 92 [.ref 120, .int (nI p), .int y, .int had, .int mn, .int lst, .int vn] [.int z] n K S' G P 0 := by
    intro S' had mn lst vn z hz
    refine go [21] 60 _ _ _ _ _ _ _ _ _ ?_
    exact hz
  have x6 : ixB (nI p) 6 = true := ixB_nI (by omega) (by decide)
  have loop : ∀ m vn mn lst S', m ≤ 10 → (m = 0 → vn = -1) → (∀ z, m = z + 1 → vn = nI z) → mn = nI (cB (cnF sd (d 0) (N 1) p) (10 - m) m) → lst = fwV (cnF sd (d 0) (N 1) p) (10 - m) m → (∀ b j, b ≠ 135 → ¬ (b = 122 ∧ j = p) → S' b j = S b j) → At 37 [.ref 120, .int (nI p), .int y, .int (S 122 p), .int mn, .int lst, .int vn] [] n K S' G P 0 := by
    intro m
    induction m with
    | zero =>
      intro vn mn lst S' hm hv0 hv e1 e2 hS
      have e := hv0 rfl
      subst e
      have a74 : At 74 [.ref 120, .int (nI p), .int y, .int (S 122 p), .int mn, .int lst, .int (-1)] [] n K S' G P 0 := by
        have hF : Fm S (up2 S' 122 (nI p).toNatClampNeg (S 122 p)) := by
          intro b j hb
          rw [nI_clamp (by omega)]
          by_cases hc : b = 122 ∧ j = p
          · rw [hc.1, hc.2, up2_s]
          · rw [up2_o _ _ (by omega)]
            exact hS b j hb hc
        have hQ2 := hQ' _ hF
        rw [Nat.sub_zero] at e1 e2
        refine go [90, 92] 60 _ _ _ _ _ _ _ _ _ ?_
        refine ite_t x6 ?_
        refine ite_i (fun c => ?_) (fun c => ?_)
        · rw [if_pos c, ← e1] at hQ2
          exact a92 _ _ _ _ _ _ hQ2
        · rw [if_neg c, ← e2] at hQ2
          have a90 : At 90 [.ref 120, .int (nI p), .int y, .int (S 122 p), .int mn, .int lst, .int (-1)] [] n K (up2 S' 122 (nI p).toNatClampNeg (S 122 p)) G P 0 := by
            refine go [92] 60 _ _ _ _ _ _ _ _ _ ?_
            exact a92 _ _ _ _ _ _ hQ2
          exact a90
      refine go [37, 74] 60 _ _ _ _ _ _ _ _ _ ?_
      exact a74
    | succ m ih =>
      intro vn mn lst S' hm hv0 hv e1 e2 hS
      have e := hv m rfl
      subst e
      have f10 : 10 - m = (10 - (m + 1)) + 1 := by omega
      have a68 : ∀ S2 mn' lst', (∀ b j, b ≠ 135 → ¬ (b = 122 ∧ j = p) → S2 b j = S b j) → mn' = nI (cB (cnF sd (d 0) (N 1) p) (10 - m) m) → lst' = fwV (cnF sd (d 0) (N 1) p) (10 - m) m → At 68 [.ref 120, .int (nI p), .int y, .int (S 122 p), .int mn', .int lst', .int (nI m)] [] n K S2 G P 0 := by
        intro S2 mn' lst' hS2 e3 e4
        refine go [37] 60 _ _ _ _ _ _ _ _ _ ?_
        refine ih _ _ _ S2 (by omega) (fun z => ?_) (fun z ez => ?_) e3 e4 hS2
        · subst z; rfl
        · subst ez; exact nI_dn z
      have hS1 : ∀ b j, b ≠ 135 → ¬ (b = 122 ∧ j = p) → (up2 S' 122 (nI p).toNatClampNeg (nI m)) b j = S b j := by
        intro b j hb hc
        rw [nI_clamp (by omega), up2_o _ _ (by omega)]
        exact hS b j hb hc
      have hv1 : up2 S' 122 (nI p).toNatClampNeg (nI m) 122 p = nI m := by rw [nI_clamp (by omega), up2_s]
      have hM : MT1 (up2 S' 122 (nI p).toNatClampNeg (nI m)) sd (va_up (d 0) (6 + p) (nI m)) (N 0) (N 1) (N 2) := by
        obtain ⟨cd, c1, c2, c3⟩ := hI.2.1.2
        refine ⟨fun k hk => ?_, ⟨cd, (hS1 _ _ (by decide) (by omega)).trans c1, c2, fun k hk => SMb_fr (Nat.le_refl _) (fun j _ => hS1 _ _ (by decide) (by omega)) (hS1 _ _ (by decide) (by omega)) (fun a i ha hb _ => hS1 _ _ (by omega) (by omega)) (c3 k hk)⟩, hD.2.2.2.1, TwOk_v (by omega) (by omega) hD.1⟩
        by_cases ek : k = 6 + p
        · subst ek
          rw [ml_v p (by omega), va_up_self]
          exact hv1
        · rw [va_up_ne _ _ ek, hS1 _ _ (mloc_135 k hk) ?_]
          · exact hR k hk
          · intro hc
            refine ek ?_
            have e1 : mloc k = mloc (6 + p) := by
              rw [ml_v p (by omega)]
              exact Prod.ext hc.1 hc.2
            rw [← minv_mloc k hk, ← minv_mloc (6 + p) (by omega), e1]
      refine go [37, 61, 68, 74] 60 _ _ _ _ _ _ _ _ _ ?_
      refine ite_f (by rw [lt_i, t_0, nI_toInt (by omega)]; omega) ?_
      refine ite_t x6 ?_
      refine q_isAllSo (D := D + 4) (dy := N 1) hM hp r5 ((va_up_ne _ _ (by omega)).trans er) (fun S2 hS2 => ?_)
      rw [va_up_self, allS_v (by omega) np6 hrow r 0 (by omega)]
      have hS3 : ∀ b j, b ≠ 135 → ¬ (b = 122 ∧ j = p) → S2 b j = S b j := fun b j hb hc => (hS2 b j hb).trans (hS1 b j hb hc)
      have ef : cnF sd (d 0) (N 1) p m = allS sd (d 0) (N 1) p (nI m) r 0 := by unfold cnF; rw [erc]
      refine ite_i (fun c => ?_) (fun c => ?_)
      · refine a68 _ _ _ hS3 ?_ ?_
        · rw [f10, cB, ef, b2i_0 c, e1]
          show _ = nI (0 + _)
          rw [Nat.zero_add]
        · rw [f10, fwV, ef, b2i_0 c, if_neg (by decide), e2]
      · have a61 : At 61 [.ref 120, .int (nI p), .int y, .int (S 122 p), .int mn, .int lst, .int (nI m)] [] n K S2 G P 0 := by
          refine go [37, 68] 60 _ _ _ _ _ _ _ _ _ ?_
          refine a68 _ _ _ hS3 ?_ ?_
          · rw [f10, cB, ef, b2i_n c, e1, nI_1]
            show _ = nI (1 + _)
            rw [Nat.add_comm]
          · rw [f10, fwV, ef, b2i_n c, if_pos rfl]
        exact a61
  have e122 : S 122 (nI p).toNatClampNeg = S 122 p := by rw [nI_clamp (by omega)]
  have start := loop 10 9 0 (-5) S (Nat.le_refl _) (fun z => absurd z (by decide)) (fun z ez => by rw [show z = 9 by omega]; rfl) rfl rfl (fun b j _ _ => rfl)
  rw [← e122] at start
  have a19 : At 19 [.ref 120, .int (nI p), .int y, .retAddr 0, .retAddr 0, .retAddr 0, .retAddr 0] [] n K S G P 0 := by
    refine go [37] 60 _ _ _ _ _ _ _ _ _ ?_
    refine ite_t x6 ?_
    exact start
  exact a19
end A
end

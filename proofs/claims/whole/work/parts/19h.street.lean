noncomputable section
section A
variable {l : Launch} {L : Nat} {xs : Nat → Int32} {D : Nat} {n : Nat} {K : Mk} {S : Mi} {G : Ml} {P : Mr} {Q : QT} {N : Nat → Nat} {d : Nat → Nat → Int32} {g : Nat → Int64} {sd : Nat → Int32 × ((Nat → Int32) → Bool)}
set_option maxRecDepth 20000
theorem c_street (hI : InvC N d g sd n K S G P) (hD : DOk N d) (h2 : N 2 = 6 → Q (some (.int (-4))) n K S G P)
    (h1 : N 2 < 6 → (clR N d).1 = true → ∀ S' v, v = nI (N 2) → FrC S S' → InvC (stN N) (stD N d) g (stS N d sd) n K S' G (up2 P 33 8 (some (84 + 6 * N 2))) → Q (some (.int v)) n K S' G (up2 P 33 8 (some (84 + 6 * N 2))))
    (h0 : N 2 < 6 → (clR N d).1 = false → ∀ S' v, v = -10 - nI (clR N d).2.1 → FrC S S' → InvC (upR N 3 0) d g sd n K S' G P → Q (some (.int v)) n K S' G P) : Ok l L xs T1 (D + 25) jX11_street 0 [.ref 32] n K S G P Q := by
  refine I_X11_street (by decide) (fun At go => ?_)
  have n6 := hD.2.2.2.1
  have t100 := hD.2.2.2.2.1.1
  have h7 := hI.2.1.2.1
  have h5 := hI.2.2.1.1
  refine go [21] 60 _ _ _ _ _ _ _ _ _ ?_
  refine ite_i (fun c => ?_) (fun c => ?_)
  · rw [h7, lt_i, nI_toInt (by omega), t_6] at c
    have hk : N 2 < 6 := by omega
    have hs := SD_of hk
    have x6 : ixB (S 32 7) 6 = true := by rw [h7]; exact ixB_nI hk (by decide)
    have e70 : P 70 (S 32 7).toNatClampNeg = some (84 + 6 * N 2) := by rw [h7, nI_clamp (by omega)]; exact hI.2.1.2.2 _ hk
    have tx : ∀ i, i < N 3 → tOf d i < 128 ∧ S 69 i = nI (tOf d i) := fun i hi => ⟨(tOf_ok hD hi).1, (hI.2.2.1.2 i hi).trans (tOf_ok hD hi).2⟩
    refine ite_t x6 ?_
    rw [e70]
    have a21 : At 21 [.ref 32, .retAddr 0, .retAddr 0] [.ref (84 + 6 * N 2)] n K S G P 0 := by
      refine go [] 60 _ _ _ _ _ _ _ _ _ ?_
      refine sv_go hs ?_
      refine m_faultOf hs h5 t100 tx (fun S1 f1 hI1 => ?_)
      have ok10 := clL_ok (t := tOf d) t100 10 0 (Nat.zero_le _)
      have se := clL_se (t := tOf d) t100 10 0 (Nat.zero_le _)
      cases hb : (clL (tOf d) (N 3) 10 0).1 with
      | true =>
        have hC := hI1 hb
        have fin := h1 hk hb (up2 (up2 S1 32 5 0) 32 7 (nI (N 2 + 1))) (nI (N 2 + 1) - 1) (by rw [show (1 : Int32) = nI 1 from rfl, Nat.add_comm]; exact nI_sub') (fun b j y1 y2 => by rw [up2_o _ _ (by omega), up2_o _ _ (by omega)]; exact f1 b j (by omega))
          (InvC_st (S := S) (P := P) hD hI (fun b j y1 y2 => by rw [up2_o _ _ (by omega), up2_o _ _ (by omega)]; exact f1 b j y1) rfl rfl rfl rfl (by rw [up2_o _ _ (by omega), up2_s]) (up2_s _ _ _ _) (fun k hk' => ?_) (fun i hi => upR_o _ _ hi) (fun k hk' => ?_) (fun b j y => up2_o _ _ (by omega)) ?_)
        · have e1 : S1 32 7 + 1 = nI (N 2 + 1) := by rw [f1 _ _ (by omega), h7]; exact nI_1 _
          rw [← e1] at fin
          exact fin
        · have hk'' : k < N 2 + 1 := hk'
          by_cases e : k = N 2
          · subst e
            rw [show stS N d sd (N 2) = sdN (clL (tOf d) (N 3) 10 0).2.2 from upR_s _ _ _]
            refine SC_of ok10.1 (by omega) ok10.2.2 ?_
            obtain ⟨q1, q5, q0, qi⟩ := hC
            refine ⟨?_, ?_, ?_, fun i hi => ?_⟩
            · rw [up2_o _ _ (by omega), up2_o _ _ (by omega)]; exact q1
            · rw [up2_o _ _ (by omega), up2_o _ _ (by omega)]; exact q5
            · rw [up2_o _ _ (by omega), up2_o _ _ (by omega)]; exact q0
            · obtain ⟨k1, k2, k3⟩ := qi i hi
              refine ⟨?_, ?_, fun j hj => ?_⟩
              · rw [up2_o _ _ (by omega), up2_o _ _ (by omega)]; exact k1
              · rw [up2_o _ _ (by omega), up2_o _ _ (by omega)]; exact k2
              · rw [up2_o _ _ (by omega), up2_o _ _ (by omega)]; exact k3 j hj
          · rw [show stS N d sd k = sd k from upR_o _ _ e]
            exact STC_st (N := N) (S := S) (m := N 2) (Nat.le_refl _) (fun b j y1 y2 => by rw [up2_o _ _ (by omega), up2_o _ _ (by omega)]; exact f1 b j y1) hI.2.1.1 k (by omega)
        · show upR d 0 (va_up (d 0) 224 (nI (N 2))) 0 k = d 0 k
          rw [upR_s, va_up_ne _ _ (by omega)]
        · show up2 P 33 8 (some (84 + 6 * N 2)) 33 8 = hdr (upR d 0 (va_up (d 0) 224 (nI (N 2))) 0 224)
          rw [up2_s, upR_s, va_up_self]
          unfold hdr
          rw [if_neg (by rw [eq_i, nI_toInt (by omega), t_m1]; omega), nI_clamp (by omega)]
      | false =>
        have hQ := h0 hk hb (up2 S1 32 5 0) (-10 - nI (clR N d).2.1) rfl (fun b j y1 y2 => by rw [up2_o _ _ (by omega)]; exact f1 b j (by omega))
          (InvC_st (S := S) (P := P) hD hI (fun b j y1 y2 => by rw [up2_o _ _ (by omega)]; exact f1 b j y1) rfl rfl rfl rfl (up2_s _ _ _ _) ((up2_o _ _ (by omega)).trans ((f1 _ _ (by omega)).trans h7)) (STC_st (N := N) (S := S) (m := N 2) (Nat.le_refl _) (fun b j y1 y2 => by rw [up2_o _ _ (by omega)]; exact f1 b j y1) hI.2.1.1) (fun i hi => rfl) (fun k hk' => rfl) (fun b j y => rfl) hI.1.1.2.2)
        have hne : ¬ nI (clL (tOf d) (N 3) 10 0).2.1 = -1 := by rw [eq_i, nI_toInt (by omega), t_m1]; omega
        refine ite_f hne ?_
        exact hQ
    exact a21
  · rw [h7, lt_i, nI_toInt (by omega), t_6] at c
    exact h2 (by omega)
theorem q_street (hI : InvM N d g sd S G) (hD : DOk N d) (h2 : N 2 = 6 → Q (some (.int (-4))) n K S G P)
    (h1 : N 2 < 6 → (clR N d).1 = true → ∀ S' v, v = nI (N 2) → FrM S S' → InvM (stN N) (stD N d) g (stS N d sd) S' G → Q (some (.int v)) n K S' G P)
    (h0 : N 2 < 6 → (clR N d).1 = false → ∀ S' v, v = -10 - nI (clR N d).2.1 → FrM S S' → InvM (upR N 3 0) d g sd S' G → Q (some (.int v)) n K S' G P) : Ok l L xs T1 (D + 315) jX12_street 0 [.ref 120] n K S G P Q := by
  have n6 := hD.2.2.2.1
  have t100 := hD.2.2.2.2.1.1
  have h15 := hI.2.1.1
  by_cases hk : N 2 < 6
  · have hI' := hI
    obtain ⟨⟨r1, r2, r3⟩, ⟨r4, cd, r5, r6, r7⟩, ⟨r8, r9⟩, r10⟩ := hI'
    have tx : TxM S (tOf d) (N 3) := ⟨t100, r8, fun i hi => ⟨(tOf_ok hD hi).1, (r9 i hi).trans (tOf_ok hD hi).2⟩⟩
    have ok10 := clL_ok (t := tOf d) t100 10 0 (Nat.zero_le _)
    have se := clL_se (t := tOf d) t100 10 0 (Nat.zero_le _)
    refine mm_street r4 hk r5 r6 tx (fun hb S' v ev f k9 k15 k16 k129 hM => ?_) (fun hb S' v ev f k9 k15 k16 k23 k129 => ?_)
    · refine h1 hk hb S' v ev (fun b j y => f b j (by omega) (by omega) (by omega) (by omega)) ?_
      refine InvM_st (S := S) hI f rfl rfl k9 k15 ⟨cd + seM (clL (tOf d) (N 3) 10 0).2.2 (clL (tOf d) (N 3) 10 0).2.2.length, hM.1, ?_, fun k hk' => ?_⟩ (fun i hi => upR_o _ _ hi) ?_
      · show _ ≤ 100 * (N 2 + 1)
        omega
      · have hk'' : k < N 2 + 1 := hk'
        by_cases e : k = N 2
        · subst e
          rw [show stS N d sd (N 2) = sdN (clL (tOf d) (N 3) 10 0).2.2 from upR_s _ _ _]
          exact SMb_of ok10.1 ok10.2.2 k129 hM
        · rw [show stS N d sd k = sd k from upR_o _ _ e]
          exact SMb_st (kk := N 2) (by omega) (by omega) f (r7 k (by omega))
      · show RM (upR d 0 (va_up (d 0) 224 (nI (N 2))) 0) S'
        rw [upR_s]
        exact RM_224 f k16 r1
    · refine h0 hk hb S' v ev (fun b j y => f b j (by omega) (by omega) (by omega) (by omega)) ?_
      refine InvM_st (S := S) hI f rfl rfl k9 k15 ⟨cd, k23, r6, fun k hk' => SMb_st (kk := N 2) hk' (Nat.le_refl _) f (r7 k hk')⟩ (fun i hi => rfl) ?_
      have := RM_224 f (k16.trans (RM_hl r1)) r1
      refine RM_eq (fun j hj => ?_) this
      by_cases e : j = 224
      · subst e; exact va_up_self _ _ _
      · exact va_up_ne _ _ e
  · have e : N 2 = 6 := by omega
    exact mm_street0 (by rw [h15, e]; rfl) (h2 e)
end A
end

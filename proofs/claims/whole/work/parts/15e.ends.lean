noncomputable section
/-! ENDS. -/
theorem tdiv100 (a : Int) : a.tdiv 100 = if 0 ≤ a ∨ a % 100 = 0 then a / 100 else a / 100 + 1 := by
  rw [Int.tdiv_eq_ediv]
  by_cases h : 0 ≤ a ∨ (100 : Int) ∣ a
  · rw [if_pos h, if_pos (by rw [Int.dvd_iff_emod_eq_zero] at h; exact h)]
    omega
  · rw [if_neg h, if_neg (by rw [Int.dvd_iff_emod_eq_zero] at h; exact h)]
    rfl
theorem div100_i (x : Int32) : (x / 100).toInt = x.toInt.tdiv 100 := Int32.toInt_div_of_ne_right x 100 (by decide)
def enF (sd : Nat → Int32 × ((Nat → Int32) → Bool)) : Nat → Nat → (Nat → Int32) → Nat → (Nat → Int32)
  | 0, _, tw, _ => tw
  | m + 1, i, tw, dy => if tw (175 + i) = 0 then enF sd m (i + 1) (va_up tw 220 (nI (dy + 1))) (dy + 1) else if cnW sd tw ((tw (185 + i)).toNatClampNeg / 100) ((tw (185 + i)).toNatClampNeg / 10 % 10) (tw (6 + (tw (185 + i)).toNatClampNeg / 100)) dy ((tw (185 + i)).toNatClampNeg % 10) = true then enF sd m (i + 1) (rfT tw ((tw (185 + i)).toNatClampNeg / 100) ((tw (185 + i)).toNatClampNeg / 10 % 10) ((tw (185 + i)).toNatClampNeg % 10) dy) dy else enF sd m (i + 1) tw dy
def rEn (sd : Nat → Int32 × ((Nat → Int32) → Bool)) (tw : Nat → Int32) (np dy : Nat) (y : Int32) : Int32 := if inR 2 y = true then (if y = 0 then wedC (wdT (enF sd (tw 222).toNatClampNeg 0 tw dy)) np 0 0 else allT (tlT (enF sd (tw 222).toNatClampNeg 0 tw dy)) np np 0 0) else -1
theorem TwOk_dy {tw : Nat → Int32} {np dy ns : Nat} (hb : dy + 1 ≤ 10050) (h : TwOk tw np dy ns) : TwOk (va_up tw 220 (nI (dy + 1))) np (dy + 1) ns := by
  have np6 := h.1.2
  obtain ⟨h1, h2, h3, h4, h5, h6, h7, h8, h9⟩ := h
  have e : ∀ k, k ≠ 220 → va_up tw 220 (nI (dy + 1)) k = tw k := fun k hk => va_up_ne _ _ hk
  refine ⟨⟨(e _ (by decide)).trans h1.1, h1.2⟩, ⟨va_up_self _ _ _, hb⟩, ?_, fun q hq => ?_, fun i hi => ?_, fun i hi => by rw [e _ (by omega)]; exact h6 i hi, Said_ne h7 (fun k hk => e k (by omega)), Plan_ne h8 (fun k hk => e k (by omega)), Book_ne h9 (fun k hk => e k (by omega))⟩
  · rw [e _ (by decide)]; exact h3
  · rw [e _ (by omega), e _ (by omega)]; exact h4 q hq
  · rw [e _ (by omega)]
    have := h5 i hi
    omega
theorem pl_dig {p q w : Nat} (hp : p < 6) (hq : q < 6) (hw : w < 4) : (100 * p + 10 * q + w) / 100 = p ∧ (100 * p + 10 * q + w) / 10 % 10 = q ∧ (100 * p + 10 * q + w) % 10 = w := by omega
section A
variable {l : Launch} {L : Nat} {xs : Nat → Int32} {D : Nat} {n : Nat} {K : Mk} {S : Mi} {G : Ml} {P : Mr} {Q : QT} {N : Nat → Nat} {d : Nat → Nat → Int32} {g : Nat → Int64} {sd : Nat → Int32 × ((Nat → Int32) → Bool)}
set_option maxRecDepth 20000
theorem m_floorDiv100 {T : Tb} {x : Int32} (h : ∀ r : Int32, r.toInt = x.toInt / 100 → Q (some (.int r)) n K S G P) : Ok l L xs T (D + 1) jJ9_floorDiv_7cf53 0 [.int x, .int 100] n K S G P Q := by
  refine I_J9_floorDiv_7cf53 (by decide) (fun At go => ?_)
  have e := div100_i x
  have t := tdiv100 x.toInt
  have xn := xor_neg (x := x) (y := 100) (by decide)
  have rg := i_rng x
  have em : (x / 100 * 100).toInt = (x / 100).toInt * 100 := by
    rw [Int32.toInt_mul, t_100]
    exact Int.bmod_eq_of_le (by split at t <;> omega) (by split at t <;> omega)
  have e21 : (x / 100).toInt = x.toInt / 100 → At 21 [.int x, .int 100, .int (x / 100)] [] n K S G P 0 := fun q => by
    refine go [] 40 _ _ _ _ _ _ _ _ _ ?_
    exact h _ q
  refine go [21] 40 _ _ _ _ _ _ _ _ _ ?_
  refine ite_i (fun c => ?_) (fun c => ?_)
  · rw [le_i, t_0] at c
    have c' : 0 ≤ (x ^^^ 100).toInt := c
    exact e21 (by rw [e, t, if_pos (.inl (by omega))])
  · rw [le_i, t_0] at c
    have c' : ¬ 0 ≤ (x ^^^ 100).toInt := c
    refine ite_i (fun c2 => ?_) (fun c2 => ?_)
    · have c2' : (x / 100 * 100).toInt = x.toInt := by rw [show x / 100 * 100 = x from c2]
      exact e21 (by split at t <;> omega)
    · have c2' : ¬ (x / 100 * 100).toInt = x.toInt := fun q => c2 (Int32.toInt_inj.mp q)
      refine h _ ?_
      have e3 : (x / 100 - 1).toInt = x.toInt / 100 := by
        rw [Int32.toInt_sub, t_1]
        rw [Int.bmod_eq_of_le (by split at t <;> omega) (by split at t <;> omega)]
        split at t <;> omega
      exact e3
theorem m_fdn {T : Tb} {x : Int32} {m : Nat} (hm : m < 2 ^ 31) (hx : x = nI m) (h : Q (some (.int (nI (m / 100)))) n K S G P) : Ok l L xs T (D + 1) jJ9_floorDiv_7cf53 0 [.int x, .int 100] n K S G P Q := by
  refine m_floorDiv100 (fun r hr => ?_)
  have e : r = nI (m / 100) := nI_of' (by rw [hr, hx, nI_toInt hm]; omega)
  rw [e]
  exact h
theorem m_tnn {T : Tb} {x : Int32} {m : Nat} (hm : m < 2 ^ 31) (hx : x = nI m) (h : Q (some (.int (nI (m / 10 % 10)))) n K S G P) : Ok l L xs T (D + 2) jX11_tens 0 [.int x] n K S G P Q := by
  refine m_tens ?_
  have e : tensI x = m / 10 % 10 := by
    unfold tensI
    rw [hx, nI_toInt hm]
    omega
  rw [e]
  exact h
theorem m_onn {T : Tb} {x : Int32} {m : Nat} (hm : m < 2 ^ 31) (hx : x = nI m) (h : Q (some (.int (nI (m % 10)))) n K S G P) : Ok l L xs T (D + 2) jX11_ones 0 [.int x] n K S G P Q := by
  refine m_ones ?_
  have e : onesI x = m % 10 := by
    unfold onesI
    rw [hx, nI_toInt hm]
    omega
  rw [e]
  exact h
theorem c_ends {y : Int32} (hI : InvC N d g sd n K S G P) (hD : DOk N d) (hW : WO n K P) (h : ∀ S' P', FrC S S' → InvC N d g sd n K S' G P' → WO n K P' → Q (some (.int (rEn sd (d 0) (N 0) (N 1) y))) n K S' G P') : Ok l L xs T1 (D + 12) jX11_ends 0 [.ref 32, .int y] n K S G P Q := by
  refine I_X11_ends (by decide) (fun At go => ?_)
  have np6 := hD.1.1.2
  have d9 := hD.2.1
  obtain ⟨r, r10, er, hrow⟩ := tk_plan hD.1
  have a10 : inR 2 y = true → At 10 [.ref 32, .int y, .retAddr 0, .retAddr 0] [] n K S G P 0 := by
    intro hy
    refine go [23] 60 _ _ _ _ _ _ _ _ _ ?_
    refine m_bec (.inr (.inr ⟨rfl, rfl⟩)) hW.1 (fun S0 P0 hB => ?_)
    have hI0 : InvC N d g sd n K S0 G P0 := by
      have hI1 := InvC_fr (S' := S0) hD.2.2.2.1 (fun b j hb => hB.2.1 b j (by
        refine Classical.byContradiction (fun z => ?_)
        have z1 : 57 ≤ b ∧ b ≤ 66 := by omega
        have e1 : Nat.ble 57 b = true := Nat.ble_eq_true_of_le z1.1
        have e2 : Nat.ble b 68 = true := Nat.ble_eq_true_of_le (by omega)
        unfold scr2 at hb
        rw [e1, e2] at hb
        simp at hb)) hI
      obtain ⟨⟨q1, q2, q3⟩, ⟨h4, h5, h5'⟩, h78, ⟨h9, h10⟩, h1112⟩ := hI1
      have hP : ∀ b j, b ≠ 57 → b ≠ 58 → P0 b j = P b j := fun b j q1 q2 => hB.2.2.2.2 b j q1 q2
      have tp : ∀ a tw np, (a = 33 ∨ a = 45) → TC a tw np n K S0 P → TC a tw np n K S0 P0 := fun a tw np ha ⟨f1, f2, f3⟩ => ⟨f1, fun p hp => by
        obtain ⟨w, k, g1, g2, g3, g4, g5, g6, g7, g8⟩ := f2 p hp
        have gw := g4.1
        exact ⟨w, k, (hP _ _ (by omega) (by omega)).trans g1, g2, g3, g4, g5, g6, g7, (hP _ _ (by omega) (by omega)).trans g8⟩, (hP _ _ (by omega) (by omega)).trans f3⟩
      exact ⟨⟨tp _ _ _ (.inl rfl) q1, q2, fun e => tp _ _ _ (.inr rfl) (q3 e)⟩, ⟨h4, h5, fun i hi => (hP _ _ (by decide) (by decide)).trans (h5' i hi)⟩, h78, ⟨fun t ht => ⟨(h9 t ht).1, (h9 t ht).2.1, (hP _ _ (by decide) (by decide)).trans (h9 t ht).2.2⟩, h10⟩, h1112⟩
    have hW0 : WO n K P0 := ⟨Who_apart (by decide) hB hW.1, Who_apart (by decide) hB hW.2⟩
    have t57 := TC_bec (by decide) np6 hB hI.1.1
    have fr0 : FrC S S0 := fun b j q1 q2 => hB.2.1 b j (by omega)
    have fin : ∀ S1, (∀ b j, (b < 57 ∨ 68 < b) → scr b = false → S1 b j = S0 b j) → Q (some (.int (rEn sd (d 0) (N 0) (N 1) y))) n K S1 G P0 := by
      intro S1 hF
      refine h S1 P0 (fun b j q1 q2 => (hF b j (by omega) (scr_big (by omega))).trans (fr0 b j q1 q2)) (InvC_fr hD.2.2.2.1 (fun b j hb => hF b j (by
        refine Classical.byContradiction (fun z => ?_)
        have e1 : Nat.ble 57 b = true := Nat.ble_eq_true_of_le (by omega)
        have e2 : Nat.ble b 68 = true := Nat.ble_eq_true_of_le (by omega)
        unfold scr2 at hb
        rw [e1, e2] at hb
        simp at hb) (scr2_scr hb)) hI0) hW0
    have loop : ∀ m i vi x3 S1 tw dy, i + m = r → vi = nI i → (∀ b j, (b < 57 ∨ 68 < b) → scr b = false → S1 b j = S0 b j) → TC 57 tw (N 0) n K S1 P0 → TwOk tw (N 0) dy (N 2) → dy ≤ 9999 + i → tw 222 = nI r → enF sd (d 0 222).toNatClampNeg 0 (d 0) (N 1) = enF sd m i tw dy → At 23 [.ref 32, .int y, .int vi, x3] [] n K S1 G P0 0 := by
      intro m
      induction m with
      | zero =>
        intro i vi x3 S1 tw dy hi hv hF hT hk hdy hr2 he
        subst hv
        have hn : S1 57 12 = nI r := (RC_nq hT.1).trans hr2
        have hnp : S1 57 0 = nI (N 0) := (RC_np hT.1).trans hk.1.1
        have hQ := fin S1 hF
        unfold rEn at hQ
        rw [if_pos hy, he] at hQ
        have a127 : ∀ v, Q (some (.int v)) n K S1 G P0 → At 127 [.ref 32, .int y, .int (nI i), x3] [.int v] n K S1 G P0 0 := by
          intro v hv
          refine go [23] 60 _ _ _ _ _ _ _ _ _ ?_
          exact hv
        have a106 : At 106 [.ref 32, .int y, .int (nI i), x3] [] n K S1 G P0 0 := by
          refine go [120, 127] 60 _ _ _ _ _ _ _ _ _ ?_
          refine ite_i (fun c => ?_) (fun c => ?_)
          · rw [if_pos c] at hQ
            refine m_wedOnes (a := 57) (wd := wdT tw) (.inr (.inr rfl)) hnp np6 (fun i hi => RC_wed hT.1 i hi) ?_
            exact a127 _ hQ
          · rw [if_neg c] at hQ
            have a120 : At 120 [.ref 32, .int y, .int (nI i), x3] [] n K S1 G P0 0 := by
              refine go [127] 60 _ _ _ _ _ _ _ _ _ ?_
              refine m_tallies (a := 57) (ta := tlT tw) (.inr (.inr rfl)) hnp np6 (fun i hi => RC_ta hT.1 i hi) ?_
              exact a127 _ hQ
            exact a120
        refine go [23, 106] 60 _ _ _ _ _ _ _ _ _ ?_
        refine ite_t (by rw [hn, le_i, nI_toInt (by omega), nI_toInt (by omega)]; omega) ?_
        exact a106
      | succ m ih =>
        intro i vi x3 S1 tw dy hi hv hF hT hk hdy hr2 he
        subst hv
        have hn : S1 57 12 = nI r := (RC_nq hT.1).trans hr2
        have e2 : nI i * 2 = nI (2 * i) := by rw [show (2 : Int32) = nI 2 from rfl, pk_mul, Nat.mul_comm]
        have x0 : ixB (nI i * 2) 20 = true := by rw [e2]; exact ixB_nI (by omega) (by decide)
        have x1 : ixB (nI i * 2 + 1) 20 = true := by rw [e2, nI_1]; exact ixB_nI (by omega) (by decide)
        have r0 : S1 65 (nI i * 2).toNatClampNeg = tw (175 + i) := by rw [e2, nI_clamp (by omega)]; exact RC_go hT.1 i (by omega)
        have r1 : tw (175 + i) = 1 → S1 65 (nI i * 2 + 1).toNatClampNeg = tw (185 + i) := fun e => by rw [e2, nI_1, nI_clamp (by omega)]; exact hT.1.2 i (by omega) e
        have hCT : CT1 57 n K S1 P0 sd tw (N 0) dy (N 2) := by
          refine ⟨.inr (.inr rfl), hT, fun k hk => ?_, hD.2.2.2.1, hk⟩
          refine SC_fr (fun j => ?_) (hI0.2.1.1 k hk)
          have n6 := hD.2.2.2.1
          rcases SD_of (k := k) (by omega) with e | e | e | e | e | e <;> (rw [e]; exact ⟨hF _ _ (by decide) rfl, hF _ _ (by decide) rfl, hF _ _ (by decide) rfl, hF _ _ (by decide) rfl⟩)
        obtain ⟨r', q1, q2, q3⟩ := tk_plan hk
        have er' : r' = r := (nI_eq (by omega) (by omega)).mp (q2.symm.trans hr2)
        have hrow' := q3 i (by omega)
        have a100 : ∀ x3 S2 tw2 dy2, (∀ b j, (b < 57 ∨ 68 < b) → scr b = false → S2 b j = S0 b j) → TC 57 tw2 (N 0) n K S2 P0 → TwOk tw2 (N 0) dy2 (N 2) → dy2 ≤ 9999 + (i + 1) → tw2 222 = nI r → enF sd (d 0 222).toNatClampNeg 0 (d 0) (N 1) = enF sd m (i + 1) tw2 dy2 → At 100 [.ref 32, .int y, .int (nI i), x3] [] n K S2 G P0 0 := by
          intro x3 S2 tw2 dy2 f1 f2 f3 f4 f5 f6
          refine go [23] 60 _ _ _ _ _ _ _ _ _ ?_
          exact ih (i + 1) _ _ S2 tw2 dy2 (by omega) (nI_1 i) f1 f2 f3 f4 f5 f6
        have a78 : tw (175 + i) = 1 → ∀ c, c = tw (185 + i) → At 78 [.ref 32, .int y, .int (nI i), .int c] [] n K S1 G P0 0 := by
          intro e1 c ec
          rcases hrow' with e0 | ⟨_, p, q, w, hp, hq, hpq, hw, ew⟩
          · rw [e0] at e1; exact absurd e1 (by decide)
          · have ecn : c = nI (100 * p + 10 * q + w) := ec.trans ew
            have dg := pl_dig (p := p) (q := q) (w := w) (by omega) (by omega) hw
            rw [enF, if_neg (by rw [e1]; decide), ew, nI_clamp (by omega), dg.1, dg.2.1, dg.2.2] at he
            refine go [23, 100] 60 _ _ _ _ _ _ _ _ _ ?_
            refine m_fdn (m := 100 * p + 10 * q + w) (by omega) ecn ?_
            refine m_tnn (m := 100 * p + 10 * q + w) (by omega) ecn ?_
            refine m_onn (m := 100 * p + 10 * q + w) (by omega) ecn ?_
            rw [dg.1, dg.2.1, dg.2.2]
            refine c_hears (D := D + 5) (dy := dy) hCT hp hq hw (fun cc S2 hF2 hT2 => ?_) (fun cc S2 hF2 => ?_)
            · rw [if_pos cc] at he
              refine a100 _ S2 _ dy (fun b j hb hs => (hF2 b j (by omega) hs).trans (hF b j hb hs)) hT2 (TwOk_rf hp hq hk) (by omega) ?_ he
              rw [rfT_ne (by omega) (by omega) (by omega)]
              exact hr2
            · rw [if_neg cc] at he
              exact a100 _ S2 _ dy (fun b j hb hs => (hF2 b j hs).trans (hF b j hb hs)) (TC_fc (.inr (.inr rfl)) hF2 hT) hk (by omega) hr2 he
        refine go [23, 78, 100, 106] 60 _ _ _ _ _ _ _ _ _ ?_
        refine ite_f (by rw [hn, le_i, nI_toInt (by omega), nI_toInt (by omega)]; omega) ?_
        refine ite_t x1 ?_
        refine ite_t x0 ?_
        refine ite_i (fun c => ?_) (fun c => ?_)
        · have c' := r0.symm.trans c
          rw [enF, if_pos c'] at he
          have hday : S1 57 7 + 1 = nI (dy + 1) := by rw [RC_dy hT.1, hk.2.1.1, nI_1]
          have fin2 := a100 (.int (S1 65 (nI i * 2 + 1).toNatClampNeg)) (up2 S1 57 7 (nI (dy + 1))) _ (dy + 1) (fun b j hb hs => by rw [up2_o _ _ (by omega)]; exact hF b j hb hs) (TC_ua (c := 0) (nI (dy + 1)) (by decide) np6 ⟨by omega, by omega, by omega⟩ (by omega) (show cl 220 = (0, 7) from rfl) (by decide) hT) (TwOk_dy (by omega) hk) (by omega) ((va_up_ne _ _ (by decide)).trans hr2) he
          rw [← hday] at fin2
          exact fin2
        · have c' : tw (175 + i) = 1 := by
            rcases hrow' with e0 | e1
            · exact absurd (r0.trans e0) c
            · exact e1.1
          exact a78 c' _ (r1 c')
    refine loop r 0 _ _ S0 (d 0) (N 1) (by omega) rfl (fun _ _ _ _ => rfl) t57 hD.1 (by omega) er ?_
    rw [er, nI_clamp (by omega)]
  refine go [10] 60 _ _ _ _ _ _ _ _ _ ?_
  refine m_i0 (m := 1) (by decide) 1 rfl (fun hy => a10 hy) (fun c => ?_)
  have hQ := h S P (FrC.rf S) hI hW
  unfold rEn at hQ
  rw [if_neg (fun w => absurd (w.symm.trans c) (by decide))] at hQ
  exact hQ
end A
end

noncomputable section
def cB (f : Nat → Bool) : Nat → Nat → Nat
  | 0, _ => 0
  | m + 1, j => (f j).toNat + cB f m (j + 1)
def b10 (a0 a1 a2 a3 a4 a5 a6 a7 a8 a9 : Bool) : Int32 := ((((((((((0 ||| (if a0 = true then (1 : Int32) <<< (nI 0 &&& 31) else 0)) ||| (if a1 = true then (1 : Int32) <<< (nI 1 &&& 31) else 0)) ||| (if a2 = true then (1 : Int32) <<< (nI 2 &&& 31) else 0)) ||| (if a3 = true then (1 : Int32) <<< (nI 3 &&& 31) else 0)) ||| (if a4 = true then (1 : Int32) <<< (nI 4 &&& 31) else 0)) ||| (if a5 = true then (1 : Int32) <<< (nI 5 &&& 31) else 0)) ||| (if a6 = true then (1 : Int32) <<< (nI 6 &&& 31) else 0)) ||| (if a7 = true then (1 : Int32) <<< (nI 7 &&& 31) else 0)) ||| (if a8 = true then (1 : Int32) <<< (nI 8 &&& 31) else 0)) ||| (if a9 = true then (1 : Int32) <<< (nI 9 &&& 31) else 0))
theorem bitsK_10 (f : Nat → Bool) : bitsK f 10 = b10 (f 0) (f 1) (f 2) (f 3) (f 4) (f 5) (f 6) (f 7) (f 8) (f 9) := rfl
set_option maxRecDepth 40000 in
theorem bc10 : ∀ a0 a1 a2 a3 a4 a5 a6 a7 a8 a9 : Bool, bcI (b10 a0 a1 a2 a3 a4 a5 a6 a7 a8 a9) = nI (a0.toNat + (a1.toNat + (a2.toNat + (a3.toNat + (a4.toNat + (a5.toNat + (a6.toNat + (a7.toNat + (a8.toNat + (a9.toNat + 0)))))))))) := by decide +kernel
theorem bc_bitsK (f : Nat → Bool) : bcI (bitsK f 10) = nI (cB f 10 0) := (bc10 (f 0) (f 1) (f 2) (f 3) (f 4) (f 5) (f 6) (f 7) (f 8) (f 9))
theorem usB_bt' (us : Int32) {w : Nat} (hw : w < 32) : ((us >>> (nI w &&& 31)) &&& 1 = 0) ↔ bt us w = false := by
  have h0 : bt ((us >>> (nI w &&& 31)) &&& 1) 0 = bt us w := by
    rw [b_and, b_sshr w (by omega) us (by decide), one_bt 0 (by decide), if_pos (by omega)]
    simp
  constructor
  · intro h
    rw [h, b_0] at h0
    exact h0.symm
  · intro hb
    rw [hb] at h0
    refine b_ext (fun i hi => ?_)
    rw [b_0]
    by_cases hi0 : i = 0
    · subst hi0; exact h0
    · rw [b_and, one_bt i hi, decide_eq_false hi0, Bool.and_false]
theorem hb_bt {x : Int32} {i : Nat} (hi : i < 32) : hb x (nI i) ↔ bt x i = true := by
  have := usB_bt' x hi
  unfold hb
  constructor
  · intro h
    cases e : bt x i with
    | true => rfl
    | false => exact absurd (this.mpr e) h
  · intro h z
    rw [this.mp z] at h
    cases h
theorem bt_bitsK (f : Nat → Bool) : ∀ k, k ≤ 31 → ∀ i, i < 32 → bt (bitsK f k) i = (decide (i < k) && f i) := by
  intro k
  induction k with
  | zero =>
    intro _ i hi
    show bt 0 i = _
    rw [b_0, decide_eq_false (by omega), Bool.false_and]
  | succ k ih =>
    intro hk i hi
    show bt (bitsK f k ||| (if f k = true then (1 : Int32) <<< (nI k &&& 31) else 0)) i = _
    rw [b_or, ih (by omega) i hi]
    have e : bt (if f k = true then (1 : Int32) <<< (nI k &&& 31) else 0) i = (f k && decide (i = k)) := by
      by_cases c : f k = true
      · rw [if_pos c, b_shl k (by omega) 1 hi, c, Bool.true_and]
        by_cases h1 : k ≤ i
        · rw [decide_eq_true h1, one_bt _ (by omega), Bool.true_and, decide_eq_decide]
          omega
        · rw [decide_eq_false h1, Bool.false_and, decide_eq_false (by omega)]
      · rw [if_neg c, b_0]
        rw [Bool.not_eq_true] at c
        rw [c, Bool.false_and]
    rw [e]
    by_cases h1 : i = k
    · subst h1
      rw [decide_eq_false (by omega), decide_eq_true rfl, decide_eq_true (by omega)]
      simp
    · rw [decide_eq_false h1, Bool.and_false, Bool.or_false]
      congr 1
      rw [decide_eq_decide]
      omega
theorem fwV_t {f : Nat → Bool} : ∀ m j k, j ≤ k → k < j + m → f k = true → (∀ i, j ≤ i → i < k → f i = false) → fwV f m j = nI k := by
  intro m
  induction m with
  | zero => intro j k h1 h2; omega
  | succ m ih =>
    intro j k h1 h2 h3 h4
    by_cases e : j = k
    · subst e
      rw [fwV, if_pos h3]
    · rw [fwV, if_neg (by rw [h4 j (Nat.le_refl _) (by omega)]; decide)]
      exact ih (j + 1) k (by omega) (by omega) h3 (fun i h5 h6 => h4 i (by omega) h6)
theorem fwV_n {f : Nat → Bool} : ∀ m j, (∀ i, j ≤ i → i < j + m → f i = false) → fwV f m j = -5 := by
  intro m
  induction m with
  | zero => intro j _; rfl
  | succ m ih =>
    intro j h
    rw [fwV, if_neg (by rw [h j (Nat.le_refl _) (by omega)]; decide)]
    exact ih (j + 1) (fun i h1 h2 => h i (by omega) (by omega))
def rWr (sd : Nat → Int32 × ((Nat → Int32) → Bool)) (tw : Nat → Int32) (dy : Nat) : Int32 := wrV sd tw dy (tw 221).toNatClampNeg 0
def cnF (sd : Nat → Int32 × ((Nat → Int32) → Bool)) (tw : Nat → Int32) (dy p : Nat) : Nat → Bool := fun v => allS sd tw dy p (nI v) (tw 221).toNatClampNeg 0
def rCn (sd : Nat → Int32 × ((Nat → Int32) → Bool)) (tw : Nat → Int32) (np dy : Nat) (x y : Int32) : Int32 := if inR np x = true ∧ inR 2 y = true then (if y = 0 then nI (cB (cnF sd tw dy x.toNatClampNeg) 10 0) else fwV (cnF sd tw dy x.toNatClampNeg) 10 0) else -1
theorem rows_of {tw : Nat → Int32} {np : Nat} (h : SaidOk tw np) : ∃ r, r ≤ 5 ∧ tw 221 = nI r ∧ (tw 221).toNatClampNeg = r ∧ ∀ i, i < r → ∃ p q w t, rowOk tw np i p q w t := by
  obtain ⟨r, e1, e2, e3⟩ := h
  refine ⟨r, e1, e2, by rw [e2, nI_clamp (by omega)], fun i hi => ?_⟩
  obtain ⟨p, q, w, t, f⟩ := e3 i hi
  exact ⟨p, q, w, t, f.1, f.2.1, f.2.2.1, f.2.2.2.1, f.2.2.2.2.1, f.2.2.2.2.2.1, f.2.2.2.2.2.2.1, f.2.2.2.2.2.2.2.1⟩
section A
variable {l : Launch} {L : Nat} {xs : Nat → Int32} {D : Nat} {n : Nat} {K : Mk} {S : Mi} {G : Ml} {P : Mr} {Q : QT} {N : Nat → Nat} {d : Nat → Nat → Int32} {g : Nat → Int64} {sd : Nat → Int32 × ((Nat → Int32) → Bool)}
set_option maxRecDepth 20000
theorem m_isz {T : Tb} {a : Nat} {y v v' : Int32} (h1 : v = v') (h : Ok l L xs T D jX9_isSo 0 [.ref a, .int y, .int v'] n K S G P Q) : Ok l L xs T D jX9_isSo 0 [.ref a, .int y, .int v] n K S G P Q := by
  subst h1
  exact h
theorem c_wrong (hI : InvC N d g sd n K S G P) (hD : DOk N d) (h : ∀ S', FrC S S' → InvC N d g sd n K S' G P → Q (some (.int (rWr sd (d 0) (N 1)))) n K S' G P) : Ok l L xs T1 (D + 12) jX11_wrong 0 [.ref 32] n K S G P Q := by
  refine I_X11_wrong (by decide) (fun At go => ?_)
  obtain ⟨r, r5, er, erc, hrow⟩ := rows_of (tk_said hD.1)
  have np6 := hD.1.1.2
  have loop : ∀ m j vj S', j + m = r → vj = nI j → Fc S S' → (∀ S', Fc S S' → Q (some (.int (wrV sd (d 0) (N 1) m j))) n K S' G P) → At 2 [.ref 32, .int vj] [] n K S' G P 0 := by
    intro m
    induction m with
    | zero =>
      intro j vj S' hj hv1 hS hQ
      subst hv1
      have hs' := CT1_fc hS (CT_of hI hD)
      have hn : S' 33 10 = nI r := (RC_ns hs'.2.1.1).trans er
      refine go [2, 48, 54] 60 _ _ _ _ _ _ _ _ _ ?_
      refine ite_t (by rw [hn, le_i, nI_toInt (by omega), nI_toInt (by omega)]; omega) ?_
      have a54 : At 54 [.ref 32, .int (nI j)] [] n K S' G P 0 := by
        refine go [2] 60 _ _ _ _ _ _ _ _ _ ?_
        exact hQ S' hS
      exact a54
    | succ m ih =>
      intro j vj S' hj hv1 hS hQ
      subst hv1
      have hs' := CT1_fc hS (CT_of hI hD)
      have hn : S' 33 10 = nI r := (RC_ns hs'.2.1.1).trans er
      have e0 : nI j * 5 = nI (5 * j) := by rw [show (5 : Int32) = nI 5 from rfl, pk_mul, Nat.mul_comm]
      have x0 : ixB (nI j * 5) 25 = true := by rw [e0]; exact ixB_nI (by omega) (by decide)
      obtain ⟨p1, q1, w1, t1, hrj⟩ := hrow j (by omega)
      have e1 := hrj.2.2.2.2.1
      have hp := hrj.1
      have r0 : S' 40 (nI j * 5).toNatClampNeg = nI p1 := by rw [e0, nI_clamp (by omega)]; exact (RC_sb hs'.2.1.1 j (by omega)).trans e1
      obtain ⟨w, k, g1, g2, g3, g4, g5, g6, g7, g8⟩ := hs'.2.1.2.1 p1 hp
      have hpp : P 34 (S' 40 (nI j * 5).toNatClampNeg).toNatClampNeg = some w := by rw [r0, nI_clamp (by omega)]; exact g1
      have x1 : ixB (S' 40 (nI j * 5).toNatClampNeg) 6 = true := by rw [r0]; exact ixB_nI (by omega) (by decide)
      refine go [2, 48, 54] 60 _ _ _ _ _ _ _ _ _ ?_
      refine ite_f (by rw [hn, le_i, nI_toInt (by omega), nI_toInt (by omega)]; omega) ?_
      refine ite_t x0 ?_
      refine ite_t x1 ?_
      refine rf_v hpp ?_
      refine sh_p g4 ?_
      refine kg g2 (by decide) ?_
      refine m_isz g7 ?_
      refine c_isSo (D := D + 5) (dy := N 1) hs' (by omega) hrj (hD.1.2.2.2.1 p1 hp).2 (fun S2 hS2 => ?_)
      have hQ2 := hQ S2 (hS.tr hS2)
      rw [wrV, e1, nI_clamp (by omega)] at hQ2
      refine ite_i (fun c => ?_) (fun c => ?_)
      · rw [if_neg (by rw [b2i_0 c]; decide)] at hQ2
        exact hQ2
      · have a48 : At 48 [.ref 32, .int (nI j)] [] n K S2 G P 0 := by
          refine go [2] 60 _ _ _ _ _ _ _ _ _ ?_
          refine ih (j + 1) _ _ (by omega) (nI_1 j) (hS.tr hS2) (fun S3 hS3 => ?_)
          have := hQ S3 hS3
          rw [wrV, e1, nI_clamp (by omega), if_pos (b2i_n c)] at this
          exact this
        exact a48
  refine go [2] 60 _ _ _ _ _ _ _ _ _ ?_
  refine loop r 0 _ S (by omega) rfl (Fc.rf S) (fun S' hS => ?_)
  have := h S' (FrC_fc hS) (IC_fc hI hD hS)
  unfold rWr at this
  rw [erc] at this
  exact this
theorem q_wrong (hI : InvM N d g sd S G) (hD : DOk N d) (h : ∀ S', FrM S S' → InvM N d g sd S' G → Q (some (.int (rWr sd (d 0) (N 1)))) n K S' G P) : Ok l L xs T1 (D + 12) jX12_wrong 0 [.ref 120] n K S G P Q := by
  refine I_X12_wrong (by decide) (fun At go => ?_)
  obtain ⟨r, r5, er, erc, hrow⟩ := rows_of (tk_said hD.1)
  have np6 := hD.1.1.2
  have loop : ∀ m j vj S', j + m = r → vj = nI j → Fm S S' → (∀ S', Fm S S' → Q (some (.int (wrV sd (d 0) (N 1) m j))) n K S' G P) → At 2 [.ref 120, .int vj] [] n K S' G P 0 := by
    intro m
    induction m with
    | zero =>
      intro j vj S' hj hv1 hS hQ
      subst hv1
      have hs' := MT1_fm hS (MT_of hI hD)
      have hn : S' 120 25 = nI r := (RM_ns hs'.1).trans er
      refine go [2, 20, 26] 60 _ _ _ _ _ _ _ _ _ ?_
      refine ite_t (by rw [hn, le_i, nI_toInt (by omega), nI_toInt (by omega)]; omega) ?_
      have a26 : At 26 [.ref 120, .int (nI j)] [] n K S' G P 0 := by
        refine go [2] 60 _ _ _ _ _ _ _ _ _ ?_
        exact hQ S' hS
      exact a26
    | succ m ih =>
      intro j vj S' hj hv1 hS hQ
      subst hv1
      have hs' := MT1_fm hS (MT_of hI hD)
      have hn : S' 120 25 = nI r := (RM_ns hs'.1).trans er
      obtain ⟨p1, q1, w1, t1, hrj⟩ := hrow j (by omega)
      have e1 := hrj.2.2.2.2.1
      refine go [2, 20, 26] 60 _ _ _ _ _ _ _ _ _ ?_
      refine ite_f (by rw [hn, le_i, nI_toInt (by omega), nI_toInt (by omega)]; omega) ?_
      refine q_isSo (D := D + 5) (dy := N 1) hs' (by omega) hrj (fun S2 hS2 => ?_)
      have hQ2 := hQ S2 (hS.tr hS2)
      rw [wrV, e1, nI_clamp (by have := hrj.1; omega)] at hQ2
      refine ite_i (fun c => ?_) (fun c => ?_)
      · rw [if_neg (by rw [b2i_0 c]; decide)] at hQ2
        exact hQ2
      · have a20 : At 20 [.ref 120, .int (nI j)] [] n K S2 G P 0 := by
          refine go [2] 60 _ _ _ _ _ _ _ _ _ ?_
          refine ih (j + 1) _ _ (by omega) (nI_1 j) (hS.tr hS2) (fun S3 hS3 => ?_)
          have := hQ S3 hS3
          rw [wrV, e1, nI_clamp (by have := hrj.1; omega), if_pos (b2i_n c)] at this
          exact this
        exact a20
  refine go [2] 60 _ _ _ _ _ _ _ _ _ ?_
  refine loop r 0 _ S (by omega) rfl (Fm.rf S) (fun S' hS => ?_)
  have := h S' (FrM_fm hS) (IM_fm hI hS)
  unfold rWr at this
  rw [erc] at this
  exact this
theorem m_fbK {T : Tb} {f : Nat → Bool} (h : Q (some (.int (fwV f 10 0))) n K S G P) : Ok l L xs T (D + 2) jX11_firstBit 0 [.int (bitsK f 10)] n K S G P Q := by
  have e : ∀ k, k < 10 → (hb (bitsK f 10) (nI k) ↔ f k = true) := fun k hk => by
    rw [hb_bt (by omega), bt_bitsK f 10 (by decide) k (by omega), decide_eq_true hk, Bool.true_and]
  refine m_firstBit (fun k hk hb1 hmin => ?_) (fun hmin => ?_)
  · rw [fwV_t 10 0 k (by omega) (by omega) ((e k hk).mp hb1) (fun i _ hi => by have := hmin i hi; rw [e i (by omega), Bool.not_eq_true] at this; exact this)] at h
    exact h
  · rw [fwV_n 10 0 (fun i _ hi => by have := hmin i (by omega); rw [e i (by omega), Bool.not_eq_true] at this; exact this)] at h
    exact h
theorem c_can {x y : Int32} (hI : InvC N d g sd n K S G P) (hD : DOk N d) (h : ∀ S', FrC S S' → InvC N d g sd n K S' G P → Q (some (.int (rCn sd (d 0) (N 0) (N 1) x y))) n K S' G P) : Ok l L xs T1 (D + 12) jX11_can 0 [.ref 32, .int x, .int y] n K S G P Q := by
  refine I_X11_can (by decide) (fun At go => ?_)
  have hQ := h S (FrC.rf S) hI
  obtain ⟨r, r5, er, erc, hrow⟩ := rows_of (tk_said hD.1)
  have np6 := hD.1.1.2
  have hR := hI.1.1.1
  have hn : S 33 0 = nI (N 0) := (RC_np hR).trans hD.1.1.1
  have ta : TA 33 := .inl rfl
  have a19 : ¬ (inR (N 0) x = true ∧ inR 2 y = true) → At 19 [.ref 32, .int x, .int y, .retAddr 0, .retAddr 0] [] n K S G P 0 := by
    intro c
    unfold rCn at hQ
    rw [if_neg c] at hQ
    refine go [21, 26, 53, 59, 70, 74] 60 _ _ _ _ _ _ _ _ _ ?_
    exact hQ
  refine go [19, 21, 26, 53, 59, 70, 74] 60 _ _ _ _ _ _ _ _ _ ?_
  refine m_has ta hn np6 (fun p hp ep => ?_) (fun c => a19 (fun w => by rw [inR_f c] at w; exact absurd w.1 (by decide)))
  subst ep
  refine m_i0 (m := 1) (by decide) 1 rfl (fun hy => ?_) (fun c => a19 (fun w => by rw [c] at w; exact absurd w.2 (by decide)))
  have hQ' : ∀ S', Fc S S' → Q (some (.int (if y = 0 then nI (cB (cnF sd (d 0) (N 1) p) 10 0) else fwV (cnF sd (d 0) (N 1) p) 10 0))) n K S' G P := fun S' hS => by
    have := h S' (FrC_fc hS) (IC_fc hI hD hS)
    unfold rCn at this
    rw [if_pos ⟨inR_nI hp (by omega), hy⟩, nI_clamp (by omega)] at this
    exact this
  have a74 : ∀ S' b z vj, Q (some (.int z)) n K S' G P → At 74 [.ref 32, .int (nI p), .int y, .int b, .int vj] [.int z] n K S' G P 0 := by
    intro S' b z vj hz
    refine go [21] 60 _ _ _ _ _ _ _ _ _ ?_
    exact hz
  have loop : ∀ m j vj acc S', j + m = 10 → vj = nI j → acc = bitsK (cnF sd (d 0) (N 1) p) j → Fc S S' → At 26 [.ref 32, .int (nI p), .int y, .int acc, .int vj] [] n K S' G P 0 := by
    intro m
    induction m with
    | zero =>
      intro j vj acc S' hj hv1 ha hS
      have e : j = 10 := by omega
      subst e
      subst hv1
      subst ha
      have hQ2 := hQ' S' hS
      have a59 : At 59 [.ref 32, .int (nI p), .int y, .int (bitsK (cnF sd (d 0) (N 1) p) 10), .int (nI 10)] [] n K S' G P 0 := by
        refine go [70, 74] 60 _ _ _ _ _ _ _ _ _ ?_
        refine ite_i (fun c => ?_) (fun c => ?_)
        · rw [if_pos c, ← bc_bitsK] at hQ2
          refine m_bitCount ?_
          exact a74 _ _ _ _ hQ2
        · rw [if_neg c] at hQ2
          have a70 : At 70 [.ref 32, .int (nI p), .int y, .int (bitsK (cnF sd (d 0) (N 1) p) 10), .int (nI 10)] [] n K S' G P 0 := by
            refine go [74] 60 _ _ _ _ _ _ _ _ _ ?_
            refine m_fbK ?_
            exact a74 _ _ _ _ hQ2
          exact a70
      refine go [26, 53, 59] 60 _ _ _ _ _ _ _ _ _ ?_
      exact a59
    | succ m ih =>
      intro j vj acc S' hj hv1 ha hS
      subst hv1
      have hs' := CT1_fc hS (CT_of hI hD)
      have a53 : ∀ S2 acc', Fc S S2 → acc' = bitsK (cnF sd (d 0) (N 1) p) (j + 1) → At 53 [.ref 32, .int (nI p), .int y, .int acc', .int (nI j)] [] n K S2 G P 0 := by
        intro S2 acc' hS2 e
        refine go [26] 60 _ _ _ _ _ _ _ _ _ ?_
        exact ih (j + 1) _ _ _ (by omega) (nI_1 j) e hS2
      have eb : bitsK (cnF sd (d 0) (N 1) p) (j + 1) = acc ||| (if cnF sd (d 0) (N 1) p j = true then (1 : Int32) <<< (nI j &&& 31) else 0) := by rw [ha]; rfl
      refine go [26, 53, 59] 60 _ _ _ _ _ _ _ _ _ ?_
      refine ite_f (by rw [lt_i, t_9, nI_toInt (by omega)]; omega) ?_
      refine c_couldSay (D := D + 4) (dy := N 1) hs' hp ⟨j, by omega, rfl⟩ r5 er (fun S2 hS2 => ?_)
      have ef : cnF sd (d 0) (N 1) p j = allS sd (d 0) (N 1) p (nI j) r 0 := by unfold cnF; rw [erc]
      refine ite_i (fun c => ?_) (fun c => ?_)
      · refine a53 _ _ (hS.tr hS2) ?_
        rw [eb, ef, b2i_0 c, if_neg (by decide)]
        exact (b_ext (fun i hi => by rw [b_or, b_0, Bool.or_false])).symm
      · refine a53 _ _ (hS.tr hS2) ?_
        rw [eb, ef, b2i_n c, if_pos rfl]
  have a21 : At 21 [.ref 32, .int (nI p), .int y, .retAddr 0, .retAddr 0] [] n K S G P 0 := by
    refine go [26] 60 _ _ _ _ _ _ _ _ _ ?_
    exact loop 10 0 0 0 S rfl rfl rfl (Fc.rf S)
  exact a21
end A
end

noncomputable section
/-! THE IMAGE of the model: again (by program: gen15b.py). -/
def AgS (r : Nat) (S S1 : Mi) : Prop := ∀ b j, tcell b j = false → S1 b j = S b j
theorem AgS_up {r c i : Nat} {S S1 : Mi} {x : Int32} (hc : tcell c i = true) (h : AgS r S S1) : AgS r S (up2 S1 c i x) := fun b j hb => by rw [tc_o _ _ hb hc]; exact h b j hb
section A
variable {l : Launch} {L : Nat} {xs : Nat → Int32} {D : Nat} {n : Nat} {K : Mk} {S : Mi} {G : Ml} {P : Mr} {Q : QT} {r : Nat} {tw t0 u : Nat → Int32} {At : PT}
set_option maxRecDepth 20000
theorem tc_r (hr : r = 147 ∨ r = 148) (j : Nat) : tcell r j = false := by rcases hr with rfl | rfl <;> rfl
theorem al_2 (go : Walk l L xs T1 D tbX12_again 6 false 0 Q At) (hr : r = 147 ∨ r = 148) (hI : ∀ k, k < 225 → S r k = tw k) (h : ∀ v2 S1, AgS r S S1 → RM (bk [0, 6, 12] 6 tw u) S1 → At 47 [.ref 120, .ref r, .int v2] [] n K S1 G P 0) : ∀ S1, AgS r S S1 → RM u S1 → At 2 [.ref 120, .ref r, .int 0] [] n K S1 G P 0 := by
  have loop : ∀ m i vi S1, i + m = 6 → vi = nI i → AgS r S S1 → RM (bk [0, 6, 12] i tw u) S1 → At 2 [.ref 120, .ref r, .int vi] [] n K S1 G P 0 := by
    intro m
    induction m with
    | zero =>
      intro i vi S1 hi hv hS hT
      have ei : i = 6 := by omega
      subst ei
      subst hv
      refine go [2, 47] 60 _ _ _ _ _ _ _ _ _ ?_
      exact h _ S1 hS hT
    | succ m ih =>
      intro i vi S1 hi hv hS hT
      subst hv
      have rv : ∀ k, k < 225 → S1 r k = tw k := fun k hk => (hS _ _ (tc_r hr k)).trans (hI k hk)
      have kc : (nI i).toNatClampNeg = i := nI_clamp (by omega)
      have k0 : S1 r (nI i).toNatClampNeg = tw (0 + i) := by rw [kc, Nat.zero_add]; exact rv _ (by omega)
      have k6 : S1 r ((6 : Int32) + nI i).toNatClampNeg = tw (6 + i) := by rw [show ((6 : Int32) + nI i).toNatClampNeg = 6 + i from ix_o (o := 6) (by omega)]; exact rv _ (by omega)
      have x6 : ixB ((6 : Int32) + nI i) 225 = true := by rw [show (6 : Int32) = nI 6 from rfl, nI_add]; exact ixB_nI (by omega) (by decide)
      have k12 : S1 r ((12 : Int32) + nI i).toNatClampNeg = tw (12 + i) := by rw [show ((12 : Int32) + nI i).toNatClampNeg = 12 + i from ix_o (o := 12) (by omega)]; exact rv _ (by omega)
      have x12 : ixB ((12 : Int32) + nI i) 225 = true := by rw [show (12 : Int32) = nI 12 from rfl, nI_add]; exact ixB_nI (by omega) (by decide)
      have nxt : At 2 [.ref 120, .ref r, .int (nI i + 1)] [] n K (up2 (up2 (up2 (S1) 121 (nI i).toNatClampNeg (S1 r (nI i).toNatClampNeg)) 122 (nI i).toNatClampNeg (S1 r (6 + nI i).toNatClampNeg)) 123 (nI i).toNatClampNeg (S1 r (12 + nI i).toNatClampNeg)) G P 0 := by
        rw [k0, k6, k12, kc]
        have hT' : RM (fU tw i [0, 6, 12] (bk [0, 6, 12] i tw u)) (up2 (up2 (up2 (S1) 121 i (tw (0 + i))) 122 i (tw (6 + i))) 123 i (tw (12 + i))) := RM_up _ (by omega) (ml_wed i (by omega)) (RM_up _ (by omega) (ml_v i (by omega)) (RM_up _ (by omega) (ml_kind i (by omega)) (hT)))
        rw [fU_bk] at hT'
        exact ih (i + 1) _ _ (by omega) (nI_1 i) (AgS_up rfl (AgS_up rfl (AgS_up rfl (hS)))) hT'
      rcases hr with rfl | rfl <;> (
      refine go [2, 47] 80 _ _ _ _ _ _ _ _ _ ?_
      refine ite_f (by rw [le_i, nI_toInt (by omega)]; have : (6 : Int32).toInt = 6 := rfl; omega) ?_
      refine ite_t (ixB_nI (by omega) (by decide)) ?_
      refine ite_t (ixB_nI (by omega) (by decide)) ?_
      refine ite_t x6 ?_
      refine ite_t (ixB_nI (by omega) (by decide)) ?_
      refine ite_t x12 ?_
      refine ite_t (ixB_nI (by omega) (by decide)) ?_
      exact nxt)
  intro S1 hS hT
  refine loop 6 0 0 S1 rfl rfl hS ?_
  rw [bk_0]
  exact hT
theorem al_49 (go : Walk l L xs T1 D tbX12_again 6 false 0 Q At) (hr : r = 147 ∨ r = 148) (hI : ∀ k, k < 225 → S r k = tw k) (h : ∀ v2 S1, AgS r S S1 → RM (bk [18] 24 tw u) S1 → At 73 [.ref 120, .ref r, .int v2] [] n K S1 G P 0) : ∀ S1, AgS r S S1 → RM u S1 → At 49 [.ref 120, .ref r, .int 0] [] n K S1 G P 0 := by
  have loop : ∀ m i vi S1, i + m = 24 → vi = nI i → AgS r S S1 → RM (bk [18] i tw u) S1 → At 49 [.ref 120, .ref r, .int vi] [] n K S1 G P 0 := by
    intro m
    induction m with
    | zero =>
      intro i vi S1 hi hv hS hT
      have ei : i = 24 := by omega
      subst ei
      subst hv
      refine go [49, 73] 60 _ _ _ _ _ _ _ _ _ ?_
      exact h _ S1 hS hT
    | succ m ih =>
      intro i vi S1 hi hv hS hT
      subst hv
      have rv : ∀ k, k < 225 → S1 r k = tw k := fun k hk => (hS _ _ (tc_r hr k)).trans (hI k hk)
      have kc : (nI i).toNatClampNeg = i := nI_clamp (by omega)
      have k18 : S1 r ((18 : Int32) + nI i).toNatClampNeg = tw (18 + i) := by rw [show ((18 : Int32) + nI i).toNatClampNeg = 18 + i from ix_o (o := 18) (by omega)]; exact rv _ (by omega)
      have x18 : ixB ((18 : Int32) + nI i) 225 = true := by rw [show (18 : Int32) = nI 18 from rfl, nI_add]; exact ixB_nI (by omega) (by decide)
      have nxt : At 49 [.ref 120, .ref r, .int (nI i + 1)] [] n K (up2 (S1) 124 (nI i).toNatClampNeg (S1 r (18 + nI i).toNatClampNeg)) G P 0 := by
        rw [k18, kc]
        have hT' : RM (fU tw i [18] (bk [18] i tw u)) (up2 (S1) 124 i (tw (18 + i))) := RM_up _ (by omega) (ml_rows i (by omega)) (hT)
        rw [fU_bk] at hT'
        exact ih (i + 1) _ _ (by omega) (nI_1 i) (AgS_up rfl (hS)) hT'
      rcases hr with rfl | rfl <;> (
      refine go [49, 73] 80 _ _ _ _ _ _ _ _ _ ?_
      refine ite_f (by rw [le_i, nI_toInt (by omega)]; have : (24 : Int32).toInt = 24 := rfl; omega) ?_
      refine ite_t x18 ?_
      refine ite_t (ixB_nI (by omega) (by decide)) ?_
      exact nxt)
  intro S1 hS hT
  refine loop 24 0 0 S1 rfl rfl hS ?_
  rw [bk_0]
  exact hT
theorem al_75 (go : Walk l L xs T1 D tbX12_again 6 false 0 Q At) (hr : r = 147 ∨ r = 148) (hI : ∀ k, k < 225 → S r k = tw k) (h : ∀ v2 S1, AgS r S S1 → RM (bk [42, 78, 114] 36 tw u) S1 → At 123 [.ref 120, .ref r, .int v2] [] n K S1 G P 0) : ∀ S1, AgS r S S1 → RM u S1 → At 75 [.ref 120, .ref r, .int 0] [] n K S1 G P 0 := by
  have loop : ∀ m i vi S1, i + m = 36 → vi = nI i → AgS r S S1 → RM (bk [42, 78, 114] i tw u) S1 → At 75 [.ref 120, .ref r, .int vi] [] n K S1 G P 0 := by
    intro m
    induction m with
    | zero =>
      intro i vi S1 hi hv hS hT
      have ei : i = 36 := by omega
      subst ei
      subst hv
      refine go [75, 123] 60 _ _ _ _ _ _ _ _ _ ?_
      exact h _ S1 hS hT
    | succ m ih =>
      intro i vi S1 hi hv hS hT
      subst hv
      have rv : ∀ k, k < 225 → S1 r k = tw k := fun k hk => (hS _ _ (tc_r hr k)).trans (hI k hk)
      have kc : (nI i).toNatClampNeg = i := nI_clamp (by omega)
      have k42 : S1 r ((42 : Int32) + nI i).toNatClampNeg = tw (42 + i) := by rw [show ((42 : Int32) + nI i).toNatClampNeg = 42 + i from ix_o (o := 42) (by omega)]; exact rv _ (by omega)
      have x42 : ixB ((42 : Int32) + nI i) 225 = true := by rw [show (42 : Int32) = nI 42 from rfl, nI_add]; exact ixB_nI (by omega) (by decide)
      have k78 : S1 r ((78 : Int32) + nI i).toNatClampNeg = tw (78 + i) := by rw [show ((78 : Int32) + nI i).toNatClampNeg = 78 + i from ix_o (o := 78) (by omega)]; exact rv _ (by omega)
      have x78 : ixB ((78 : Int32) + nI i) 225 = true := by rw [show (78 : Int32) = nI 78 from rfl, nI_add]; exact ixB_nI (by omega) (by decide)
      have k114 : S1 r ((114 : Int32) + nI i).toNatClampNeg = tw (114 + i) := by rw [show ((114 : Int32) + nI i).toNatClampNeg = 114 + i from ix_o (o := 114) (by omega)]; exact rv _ (by omega)
      have x114 : ixB ((114 : Int32) + nI i) 225 = true := by rw [show (114 : Int32) = nI 114 from rfl, nI_add]; exact ixB_nI (by omega) (by decide)
      have nxt : At 75 [.ref 120, .ref r, .int (nI i + 1)] [] n K (up2 (up2 (up2 (S1) 125 (nI i).toNatClampNeg (S1 r (42 + nI i).toNatClampNeg)) 126 (nI i).toNatClampNeg (S1 r (78 + nI i).toNatClampNeg)) 127 (nI i).toNatClampNeg (S1 r (114 + nI i).toNatClampNeg)) G P 0 := by
        rw [k42, k78, k114, kc]
        have hT' : RM (fU tw i [42, 78, 114] (bk [42, 78, 114] i tw u)) (up2 (up2 (up2 (S1) 125 i (tw (42 + i))) 126 i (tw (78 + i))) 127 i (tw (114 + i))) := RM_up _ (by omega) (ml_la i (by omega)) (RM_up _ (by omega) (ml_us i (by omega)) (RM_up _ (by omega) (ml_ta i (by omega)) (hT)))
        rw [fU_bk] at hT'
        exact ih (i + 1) _ _ (by omega) (nI_1 i) (AgS_up rfl (AgS_up rfl (AgS_up rfl (hS)))) hT'
      rcases hr with rfl | rfl <;> (
      refine go [75, 123] 80 _ _ _ _ _ _ _ _ _ ?_
      refine ite_f (by rw [le_i, nI_toInt (by omega)]; have : (36 : Int32).toInt = 36 := rfl; omega) ?_
      refine ite_t x42 ?_
      refine ite_t (ixB_nI (by omega) (by decide)) ?_
      refine ite_t x78 ?_
      refine ite_t (ixB_nI (by omega) (by decide)) ?_
      refine ite_t x114 ?_
      refine ite_t (ixB_nI (by omega) (by decide)) ?_
      exact nxt)
  intro S1 hS hT
  refine loop 36 0 0 S1 rfl rfl hS ?_
  rw [bk_0]
  exact hT
theorem al_125 (go : Walk l L xs T1 D tbX12_again 6 false 0 Q At) (hr : r = 147 ∨ r = 148) (hI : ∀ k, k < 225 → S r k = tw k) (h : ∀ v2 S1, AgS r S S1 → RM (bk [150, 155, 160, 165, 170] 5 tw u) S1 → At 201 [.ref 120, .ref r, .int v2] [] n K S1 G P 0) : ∀ S1, AgS r S S1 → RM u S1 → At 125 [.ref 120, .ref r, .int 0] [] n K S1 G P 0 := by
  have loop : ∀ m i vi S1, i + m = 5 → vi = nI i → AgS r S S1 → RM (bk [150, 155, 160, 165, 170] i tw u) S1 → At 125 [.ref 120, .ref r, .int vi] [] n K S1 G P 0 := by
    intro m
    induction m with
    | zero =>
      intro i vi S1 hi hv hS hT
      have ei : i = 5 := by omega
      subst ei
      subst hv
      refine go [125, 201] 60 _ _ _ _ _ _ _ _ _ ?_
      exact h _ S1 hS hT
    | succ m ih =>
      intro i vi S1 hi hv hS hT
      subst hv
      have rv : ∀ k, k < 225 → S1 r k = tw k := fun k hk => (hS _ _ (tc_r hr k)).trans (hI k hk)
      have kc : (nI i).toNatClampNeg = i := nI_clamp (by omega)
      have k150 : S1 r ((150 : Int32) + nI i).toNatClampNeg = tw (150 + i) := by rw [show ((150 : Int32) + nI i).toNatClampNeg = 150 + i from ix_o (o := 150) (by omega)]; exact rv _ (by omega)
      have x150 : ixB ((150 : Int32) + nI i) 225 = true := by rw [show (150 : Int32) = nI 150 from rfl, nI_add]; exact ixB_nI (by omega) (by decide)
      have k155 : S1 r ((155 : Int32) + nI i).toNatClampNeg = tw (155 + i) := by rw [show ((155 : Int32) + nI i).toNatClampNeg = 155 + i from ix_o (o := 155) (by omega)]; exact rv _ (by omega)
      have x155 : ixB ((155 : Int32) + nI i) 225 = true := by rw [show (155 : Int32) = nI 155 from rfl, nI_add]; exact ixB_nI (by omega) (by decide)
      have k160 : S1 r ((160 : Int32) + nI i).toNatClampNeg = tw (160 + i) := by rw [show ((160 : Int32) + nI i).toNatClampNeg = 160 + i from ix_o (o := 160) (by omega)]; exact rv _ (by omega)
      have x160 : ixB ((160 : Int32) + nI i) 225 = true := by rw [show (160 : Int32) = nI 160 from rfl, nI_add]; exact ixB_nI (by omega) (by decide)
      have k165 : S1 r ((165 : Int32) + nI i).toNatClampNeg = tw (165 + i) := by rw [show ((165 : Int32) + nI i).toNatClampNeg = 165 + i from ix_o (o := 165) (by omega)]; exact rv _ (by omega)
      have x165 : ixB ((165 : Int32) + nI i) 225 = true := by rw [show (165 : Int32) = nI 165 from rfl, nI_add]; exact ixB_nI (by omega) (by decide)
      have k170 : S1 r ((170 : Int32) + nI i).toNatClampNeg = tw (170 + i) := by rw [show ((170 : Int32) + nI i).toNatClampNeg = 170 + i from ix_o (o := 170) (by omega)]; exact rv _ (by omega)
      have x170 : ixB ((170 : Int32) + nI i) 225 = true := by rw [show (170 : Int32) = nI 170 from rfl, nI_add]; exact ixB_nI (by omega) (by decide)
      have nxt : At 125 [.ref 120, .ref r, .int (nI i + 1)] [] n K (up2 (up2 (up2 (up2 (up2 (S1) 136 (nI i).toNatClampNeg (S1 r (150 + nI i).toNatClampNeg)) 137 (nI i).toNatClampNeg (S1 r (155 + nI i).toNatClampNeg)) 138 (nI i).toNatClampNeg (S1 r (160 + nI i).toNatClampNeg)) 139 (nI i).toNatClampNeg (S1 r (165 + nI i).toNatClampNeg)) 140 (nI i).toNatClampNeg (S1 r (170 + nI i).toNatClampNeg)) G P 0 := by
        rw [k150, k155, k160, k165, k170, kc]
        have hT' : RM (fU tw i [150, 155, 160, 165, 170] (bk [150, 155, 160, 165, 170] i tw u)) (up2 (up2 (up2 (up2 (up2 (S1) 136 i (tw (150 + i))) 137 i (tw (155 + i))) 138 i (tw (160 + i))) 139 i (tw (165 + i))) 140 i (tw (170 + i))) := RM_up _ (by omega) (ml_ss i (by omega)) (RM_up _ (by omega) (ml_si i (by omega)) (RM_up _ (by omega) (ml_sw i (by omega)) (RM_up _ (by omega) (ml_st i (by omega)) (RM_up _ (by omega) (ml_sb i (by omega)) (hT)))))
        rw [fU_bk] at hT'
        exact ih (i + 1) _ _ (by omega) (nI_1 i) (AgS_up rfl (AgS_up rfl (AgS_up rfl (AgS_up rfl (AgS_up rfl (hS)))))) hT'
      rcases hr with rfl | rfl <;> (
      refine go [125, 201] 80 _ _ _ _ _ _ _ _ _ ?_
      refine ite_f (by rw [le_i, nI_toInt (by omega)]; have : (5 : Int32).toInt = 5 := rfl; omega) ?_
      refine ite_t x150 ?_
      refine ite_t (ixB_nI (by omega) (by decide)) ?_
      refine ite_t x155 ?_
      refine ite_t (ixB_nI (by omega) (by decide)) ?_
      refine ite_t x160 ?_
      refine ite_t (ixB_nI (by omega) (by decide)) ?_
      refine ite_t x165 ?_
      refine ite_t (ixB_nI (by omega) (by decide)) ?_
      refine ite_t x170 ?_
      refine ite_t (ixB_nI (by omega) (by decide)) ?_
      exact nxt)
  intro S1 hS hT
  refine loop 5 0 0 S1 rfl rfl hS ?_
  rw [bk_0]
  exact hT
theorem al_203 (go : Walk l L xs T1 D tbX12_again 6 false 0 Q At) (hr : r = 147 ∨ r = 148) (hI : ∀ k, k < 225 → S r k = tw k) (h : ∀ v2 S1, AgS r S S1 → RM (bk [175, 185] 10 tw u) S1 → At 241 [.ref 120, .ref r, .int v2] [] n K S1 G P 0) : ∀ S1, AgS r S S1 → RM u S1 → At 203 [.ref 120, .ref r, .int 0] [] n K S1 G P 0 := by
  have loop : ∀ m i vi S1, i + m = 10 → vi = nI i → AgS r S S1 → RM (bk [175, 185] i tw u) S1 → At 203 [.ref 120, .ref r, .int vi] [] n K S1 G P 0 := by
    intro m
    induction m with
    | zero =>
      intro i vi S1 hi hv hS hT
      have ei : i = 10 := by omega
      subst ei
      subst hv
      refine go [203, 241] 60 _ _ _ _ _ _ _ _ _ ?_
      exact h _ S1 hS hT
    | succ m ih =>
      intro i vi S1 hi hv hS hT
      subst hv
      have rv : ∀ k, k < 225 → S1 r k = tw k := fun k hk => (hS _ _ (tc_r hr k)).trans (hI k hk)
      have kc : (nI i).toNatClampNeg = i := nI_clamp (by omega)
      have k175 : S1 r ((175 : Int32) + nI i).toNatClampNeg = tw (175 + i) := by rw [show ((175 : Int32) + nI i).toNatClampNeg = 175 + i from ix_o (o := 175) (by omega)]; exact rv _ (by omega)
      have x175 : ixB ((175 : Int32) + nI i) 225 = true := by rw [show (175 : Int32) = nI 175 from rfl, nI_add]; exact ixB_nI (by omega) (by decide)
      have k185 : S1 r ((185 : Int32) + nI i).toNatClampNeg = tw (185 + i) := by rw [show ((185 : Int32) + nI i).toNatClampNeg = 185 + i from ix_o (o := 185) (by omega)]; exact rv _ (by omega)
      have x185 : ixB ((185 : Int32) + nI i) 225 = true := by rw [show (185 : Int32) = nI 185 from rfl, nI_add]; exact ixB_nI (by omega) (by decide)
      have nxt : At 203 [.ref 120, .ref r, .int (nI i + 1)] [] n K (up2 (up2 (S1) 141 (nI i).toNatClampNeg (S1 r (175 + nI i).toNatClampNeg)) 142 (nI i).toNatClampNeg (S1 r (185 + nI i).toNatClampNeg)) G P 0 := by
        rw [k175, k185, kc]
        have hT' : RM (fU tw i [175, 185] (bk [175, 185] i tw u)) (up2 (up2 (S1) 141 i (tw (175 + i))) 142 i (tw (185 + i))) := RM_up _ (by omega) (ml_wh i (by omega)) (RM_up _ (by omega) (ml_go i (by omega)) (hT))
        rw [fU_bk] at hT'
        exact ih (i + 1) _ _ (by omega) (nI_1 i) (AgS_up rfl (AgS_up rfl (hS))) hT'
      rcases hr with rfl | rfl <;> (
      refine go [203, 241] 80 _ _ _ _ _ _ _ _ _ ?_
      refine ite_f (by rw [le_i, nI_toInt (by omega)]; have : (10 : Int32).toInt = 10 := rfl; omega) ?_
      refine ite_t x175 ?_
      refine ite_t (ixB_nI (by omega) (by decide)) ?_
      refine ite_t x185 ?_
      refine ite_t (ixB_nI (by omega) (by decide)) ?_
      exact nxt)
  intro S1 hS hT
  refine loop 10 0 0 S1 rfl rfl hS ?_
  rw [bk_0]
  exact hT
theorem al_243 (go : Walk l L xs T1 D tbX12_again 6 false 0 Q At) (hr : r = 147 ∨ r = 148) (hI : ∀ k, k < 225 → S r k = tw k) (h : ∀ v2 S1, AgS r S S1 → RM (bk [195, 203, 211] 8 tw u) S1 → At 294 [.ref 120, .ref r, .int v2] [] n K S1 G P 0) : ∀ S1, AgS r S S1 → RM u S1 → At 243 [.ref 120, .ref r, .int 0] [] n K S1 G P 0 := by
  have loop : ∀ m i vi S1, i + m = 8 → vi = nI i → AgS r S S1 → RM (bk [195, 203, 211] i tw u) S1 → At 243 [.ref 120, .ref r, .int vi] [] n K S1 G P 0 := by
    intro m
    induction m with
    | zero =>
      intro i vi S1 hi hv hS hT
      have ei : i = 8 := by omega
      subst ei
      subst hv
      refine go [243, 294] 60 _ _ _ _ _ _ _ _ _ ?_
      exact h _ S1 hS hT
    | succ m ih =>
      intro i vi S1 hi hv hS hT
      subst hv
      have rv : ∀ k, k < 225 → S1 r k = tw k := fun k hk => (hS _ _ (tc_r hr k)).trans (hI k hk)
      have kc : (nI i).toNatClampNeg = i := nI_clamp (by omega)
      have k195 : S1 r ((195 : Int32) + nI i).toNatClampNeg = tw (195 + i) := by rw [show ((195 : Int32) + nI i).toNatClampNeg = 195 + i from ix_o (o := 195) (by omega)]; exact rv _ (by omega)
      have x195 : ixB ((195 : Int32) + nI i) 225 = true := by rw [show (195 : Int32) = nI 195 from rfl, nI_add]; exact ixB_nI (by omega) (by decide)
      have k203 : S1 r ((203 : Int32) + nI i).toNatClampNeg = tw (203 + i) := by rw [show ((203 : Int32) + nI i).toNatClampNeg = 203 + i from ix_o (o := 203) (by omega)]; exact rv _ (by omega)
      have x203 : ixB ((203 : Int32) + nI i) 225 = true := by rw [show (203 : Int32) = nI 203 from rfl, nI_add]; exact ixB_nI (by omega) (by decide)
      have k211 : S1 r ((211 : Int32) + nI i).toNatClampNeg = tw (211 + i) := by rw [show ((211 : Int32) + nI i).toNatClampNeg = 211 + i from ix_o (o := 211) (by omega)]; exact rv _ (by omega)
      have x211 : ixB ((211 : Int32) + nI i) 225 = true := by rw [show (211 : Int32) = nI 211 from rfl, nI_add]; exact ixB_nI (by omega) (by decide)
      have nxt : At 243 [.ref 120, .ref r, .int (nI i + 1)] [] n K (up2 (up2 (up2 (S1) 143 (nI i).toNatClampNeg (S1 r (195 + nI i).toNatClampNeg)) 144 (nI i).toNatClampNeg (S1 r (203 + nI i).toNatClampNeg)) 145 (nI i).toNatClampNeg (S1 r (211 + nI i).toNatClampNeg)) G P 0 := by
        rw [k195, k203, k211, kc]
        have hT' : RM (fU tw i [195, 203, 211] (bk [195, 203, 211] i tw u)) (up2 (up2 (up2 (S1) 143 i (tw (195 + i))) 144 i (tw (203 + i))) 145 i (tw (211 + i))) := RM_up _ (by omega) (ml_bl i (by omega)) (RM_up _ (by omega) (ml_bt i (by omega)) (RM_up _ (by omega) (ml_bb i (by omega)) (hT)))
        rw [fU_bk] at hT'
        exact ih (i + 1) _ _ (by omega) (nI_1 i) (AgS_up rfl (AgS_up rfl (AgS_up rfl (hS)))) hT'
      rcases hr with rfl | rfl <;> (
      refine go [243, 294] 80 _ _ _ _ _ _ _ _ _ ?_
      refine ite_f (by rw [le_i, nI_toInt (by omega)]; have : (8 : Int32).toInt = 8 := rfl; omega) ?_
      refine ite_t x195 ?_
      refine ite_t (ixB_nI (by omega) (by decide)) ?_
      refine ite_t x203 ?_
      refine ite_t (ixB_nI (by omega) (by decide)) ?_
      refine ite_t x211 ?_
      refine ite_t (ixB_nI (by omega) (by decide)) ?_
      exact nxt)
  intro S1 hS hT
  refine loop 8 0 0 S1 rfl rfl hS ?_
  rw [bk_0]
  exact hT
theorem al_e (go : Walk l L xs T1 D tbX12_again 6 false 0 Q At) (hr : r = 147 ∨ r = 148) (hI : ∀ k, k < 225 → S r k = tw k) (hu : ∀ k, k < 219 → u k = tw k) (h : ∀ S1, AgS r S S1 → RM tw S1 → Q none n K S1 G P) (v2 : Int32) (S1 : Mi) (hS : AgS r S S1) (hT : RM u S1) : At 294 [.ref 120, .ref r, .int v2] [] n K S1 G P 0 := by
  have rv : ∀ k, k < 225 → S1 r k = tw k := fun k hk => (hS _ _ (tc_r hr k)).trans (hI k hk)
  have hT6 : RM (va_up (va_up (va_up (va_up (va_up (va_up (u) 219 (tw 219)) 220 (tw 220)) 221 (tw 221)) 222 (tw 222)) 223 (tw 223)) 224 (tw 224)) (up2 (up2 (up2 (up2 (up2 (up2 (S1) 120 0 (S1 r 219)) 120 8 (S1 r 220)) 120 25 (S1 r 221)) 120 31 (S1 r 222)) 120 34 (S1 r 223)) 120 16 (S1 r 224)) := by
    rw [rv 219 (by decide), rv 220 (by decide), rv 221 (by decide), rv 222 (by decide), rv 223 (by decide), rv 224 (by decide)]
    exact RM_up _ (by decide) (show mloc 224 = (120, 16) from rfl) (RM_up _ (by decide) (show mloc 223 = (120, 34) from rfl) (RM_up _ (by decide) (show mloc 222 = (120, 31) from rfl) (RM_up _ (by decide) (show mloc 221 = (120, 25) from rfl) (RM_up _ (by decide) (show mloc 220 = (120, 8) from rfl) (RM_up _ (by decide) (show mloc 219 = (120, 0) from rfl) (hT))))))
  have fin := h _ (AgS_up rfl (AgS_up rfl (AgS_up rfl (AgS_up rfl (AgS_up rfl (AgS_up rfl (hS))))))) (RM_eq (fun k hk => ?_) hT6)
  · rcases hr with rfl | rfl <;> (
    refine go [] 100 _ _ _ _ _ _ _ _ _ ?_
    exact fin)
  · by_cases c224 : k = 224
    · subst c224
      rw [va_up_self]
    by_cases c223 : k = 223
    · subst c223
      rw [va_up_ne _ _ (by decide), va_up_self]
    by_cases c222 : k = 222
    · subst c222
      rw [va_up_ne _ _ (by decide), va_up_ne _ _ (by decide), va_up_self]
    by_cases c221 : k = 221
    · subst c221
      rw [va_up_ne _ _ (by decide), va_up_ne _ _ (by decide), va_up_ne _ _ (by decide), va_up_self]
    by_cases c220 : k = 220
    · subst c220
      rw [va_up_ne _ _ (by decide), va_up_ne _ _ (by decide), va_up_ne _ _ (by decide), va_up_ne _ _ (by decide), va_up_self]
    by_cases c219 : k = 219
    · subst c219
      rw [va_up_ne _ _ (by decide), va_up_ne _ _ (by decide), va_up_ne _ _ (by decide), va_up_ne _ _ (by decide), va_up_ne _ _ (by decide), va_up_self]
    rw [va_up_ne _ _ (by omega), va_up_ne _ _ (by omega), va_up_ne _ _ (by omega), va_up_ne _ _ (by omega), va_up_ne _ _ (by omega), va_up_ne _ _ (by omega)]
    exact hu k (by omega)
theorem mm_again (hr : r = 147 ∨ r = 148) (hR : RM t0 S) (hI : ∀ k, k < 225 → S r k = tw k) (h : ∀ S', (∀ b j, tcell b j = false → S' b j = S b j) → RM tw S' → Q none n K S' G P) : Ok l L xs T1 (D + 1) jX12_again 0 [.ref 120, .ref r] n K S G P Q := by
  refine I_X12_again (by decide) (fun At go => ?_)
  refine go [2] 60 _ _ _ _ _ _ _ _ _ ?_
  refine al_2 (u := t0) go hr hI (fun v2 S1 hS hT => ?_) S (fun _ _ _ => rfl) hR
  refine go [49] 60 _ _ _ _ _ _ _ _ _ ?_
  refine al_49 go hr hI (fun v2 S1 hS hT => ?_) S1 hS hT
  refine go [75] 60 _ _ _ _ _ _ _ _ _ ?_
  refine al_75 go hr hI (fun v2 S1 hS hT => ?_) S1 hS hT
  refine go [125] 60 _ _ _ _ _ _ _ _ _ ?_
  refine al_125 go hr hI (fun v2 S1 hS hT => ?_) S1 hS hT
  refine go [203] 60 _ _ _ _ _ _ _ _ _ ?_
  refine al_203 go hr hI (fun v2 S1 hS hT => ?_) S1 hS hT
  refine go [243] 60 _ _ _ _ _ _ _ _ _ ?_
  refine al_243 go hr hI (fun v2 S1 hS hT => ?_) S1 hS hT
  exact al_e go hr hI (fun k hk => all_bk hk) h v2 S1 hS hT
end A
end

noncomputable section
/-! THE IMAGE of the model: keep (by program: gen15b.py). -/
def tcell (b j : Nat) : Bool := (Nat.ble 121 b && Nat.ble b 127) || (Nat.ble 136 b && Nat.ble b 145) || (Nat.beq b 120 && (Nat.beq j 0 || Nat.beq j 8 || Nat.beq j 25 || Nat.beq j 31 || Nat.beq j 34 || Nat.beq j 16))
theorem tc_o {α : Type} (S : Nat → Nat → α) {b j c i : Nat} (x : α) (hb : tcell b j = false) (hc : tcell c i = true) : up2 S c i x b j = S b j := by
  refine up2_o _ _ (Classical.byContradiction (fun z => ?_))
  have z1 : b = c := Classical.byContradiction (fun y => z (.inl y))
  have z2 : j = i := Classical.byContradiction (fun y => z (.inr y))
  subst z1
  subst z2
  rw [hb] at hc
  cases hc
theorem ix_o {o i : Nat} (h : o + i < 2 ^ 31) : (nI o + nI i).toNatClampNeg = o + i := by rw [nI_add, nI_clamp h]
def bk (ofs : List Nat) (i : Nat) (tw u : Nat → Int32) : Nat → Int32 := fun k => @ite _ (∃ o, o ∈ ofs ∧ o ≤ k ∧ k < o + i) (Classical.propDecidable _) (tw k) (u k)
theorem bk_t {ofs : List Nat} {i k o : Nat} {tw u : Nat → Int32} (h1 : o ∈ ofs) (h2 : o ≤ k) (h3 : k < o + i) : bk ofs i tw u k = tw k := if_pos ⟨o, h1, h2, h3⟩
theorem bk_k {ofs : List Nat} {i k : Nat} {tw u : Nat → Int32} (h : u k = tw k) : bk ofs i tw u k = tw k := by
  unfold bk
  split
  · rfl
  · exact h
theorem bk_0 {ofs : List Nat} {tw u : Nat → Int32} : bk ofs 0 tw u = u := by
  funext k
  unfold bk
  exact if_neg (fun ⟨o, _, h2, h3⟩ => by omega)
def fU (tw : Nat → Int32) (i : Nat) : List Nat → (Nat → Int32) → (Nat → Int32)
  | [], u => u
  | o :: r, u => fU tw i r (va_up u (o + i) (tw (o + i)))
theorem fU_k (tw : Nat → Int32) (i k : Nat) : ∀ (ofs : List Nat) (u : Nat → Int32), fU tw i ofs u k = @ite _ (∃ o, o ∈ ofs ∧ k = o + i) (Classical.propDecidable _) (tw k) (u k) := by
  intro ofs
  induction ofs with
  | nil => intro u; exact (if_neg (fun ⟨o, h, _⟩ => by cases h)).symm
  | cons o r ih =>
    intro u
    rw [show fU tw i (o :: r) u = fU tw i r (va_up u (o + i) (tw (o + i))) from rfl, ih]
    by_cases h : ∃ o, o ∈ r ∧ k = o + i
    · rw [if_pos h]
      obtain ⟨o', h1, h2⟩ := h
      exact (if_pos ⟨o', List.mem_cons_of_mem _ h1, h2⟩).symm
    · rw [if_neg h]
      by_cases e : k = o + i
      · subst e
        rw [va_up_self]
        exact (if_pos ⟨o, List.mem_cons_self, rfl⟩).symm
      · rw [va_up_ne _ _ e]
        refine (if_neg (fun ⟨o', h1, h2⟩ => ?_)).symm
        rcases List.mem_cons.mp h1 with h3 | h3
        · subst h3; exact e h2
        · exact h ⟨o', h3, h2⟩
theorem fU_bk (tw u : Nat → Int32) (i : Nat) (ofs : List Nat) : fU tw i ofs (bk ofs i tw u) = bk ofs (i + 1) tw u := by
  funext k
  rw [fU_k]
  by_cases h : ∃ o, o ∈ ofs ∧ k = o + i
  · rw [if_pos h]
    obtain ⟨o, h1, h2⟩ := h
    exact (bk_t h1 (by omega) (by omega)).symm
  · rw [if_neg h]
    unfold bk
    by_cases h3 : ∃ o, o ∈ ofs ∧ o ≤ k ∧ k < o + i
    · rw [if_pos h3]
      obtain ⟨o, h1, h4, h5⟩ := h3
      exact (if_pos ⟨o, h1, h4, by omega⟩).symm
    · rw [if_neg h3]
      refine (if_neg (fun ⟨o, h1, h4, h5⟩ => ?_)).symm
      by_cases e : k = o + i
      · exact h ⟨o, h1, e⟩
      · exact h3 ⟨o, h1, h4, by omega⟩
theorem upR_up {α : Type} (S : Nat → Nat → α) (r i : Nat) (u : Nat → α) (x : α) : up2 (upR S r u) r i x = upR S r (va_up u i x) := by
  funext b
  unfold up2 upR
  by_cases h : b = r
  · rw [if_pos h, if_pos h, if_pos h]
  · rw [if_neg h, if_neg h, if_neg h]
theorem all_bk {tw u : Nat → Int32} {k : Nat} (h : k < 219) : bk [195, 203, 211] 8 tw (bk [175, 185] 10 tw (bk [150, 155, 160, 165, 170] 5 tw (bk [42, 78, 114] 36 tw (bk [18] 24 tw (bk [0, 6, 12] 6 tw u))))) k = tw k := by
  by_cases c1 : k < 18
  · refine bk_k (bk_k (bk_k (bk_k (bk_k ?_))))
    by_cases c2 : k < 6
    · exact bk_t (o := 0) (by decide) (by omega) (by omega)
    · by_cases c3 : k < 12
      · exact bk_t (o := 6) (by decide) (by omega) (by omega)
      · exact bk_t (o := 12) (by decide) (by omega) (by omega)
  by_cases c1 : k < 42
  · exact bk_k (bk_k (bk_k (bk_k (bk_t (o := 18) (by decide) (by omega) (by omega)))))
  by_cases c1 : k < 150
  · refine bk_k (bk_k (bk_k ?_))
    by_cases c2 : k < 78
    · exact bk_t (o := 42) (by decide) (by omega) (by omega)
    · by_cases c3 : k < 114
      · exact bk_t (o := 78) (by decide) (by omega) (by omega)
      · exact bk_t (o := 114) (by decide) (by omega) (by omega)
  by_cases c1 : k < 175
  · refine bk_k (bk_k ?_)
    by_cases c2 : k < 155
    · exact bk_t (o := 150) (by decide) (by omega) (by omega)
    by_cases c2 : k < 160
    · exact bk_t (o := 155) (by decide) (by omega) (by omega)
    by_cases c2 : k < 165
    · exact bk_t (o := 160) (by decide) (by omega) (by omega)
    by_cases c2 : k < 170
    · exact bk_t (o := 165) (by decide) (by omega) (by omega)
    exact bk_t (o := 170) (by decide) (by omega) (by omega)
  by_cases c1 : k < 195
  · refine bk_k ?_
    by_cases c2 : k < 185
    · exact bk_t (o := 175) (by decide) (by omega) (by omega)
    exact bk_t (o := 185) (by decide) (by omega) (by omega)
  by_cases c2 : k < 203
  · exact bk_t (o := 195) (by decide) (by omega) (by omega)
  by_cases c2 : k < 211
  · exact bk_t (o := 203) (by decide) (by omega) (by omega)
  exact bk_t (o := 211) (by decide) (by omega) (by omega)
section A
variable {l : Launch} {L : Nat} {xs : Nat → Int32} {D : Nat} {n : Nat} {K : Mk} {S : Mi} {G : Ml} {P : Mr} {Q : QT} {r : Nat} {tw t0 u : Nat → Int32} {At : PT}
set_option maxRecDepth 20000
theorem kl_2 (go : Walk l L xs T1 D tbX12_keep 6 false 0 Q At) (hr : r = 147 ∨ r = 148) (hR : RM tw S) (h : ∀ v2, At 47 [.ref 120, .ref r, .int v2] [] n K (upR S r (bk [0, 6, 12] 6 tw u)) G P 0) : At 2 [.ref 120, .ref r, .int 0] [] n K (upR S r u) G P 0 := by
  have loop : ∀ m i vi, i + m = 6 → vi = nI i → At 2 [.ref 120, .ref r, .int vi] [] n K (upR S r (bk [0, 6, 12] i tw u)) G P 0 := by
    intro m
    induction m with
    | zero =>
      intro i vi hi hv
      have ei : i = 6 := by omega
      subst ei
      subst hv
      refine go [2, 47] 60 _ _ _ _ _ _ _ _ _ ?_
      exact h _
    | succ m ih =>
      intro i vi hi hv
      subst hv
      have kc : (nI i).toNatClampNeg = i := nI_clamp (by omega)
      have k0 : (nI i).toNatClampNeg = 0 + i := by rw [kc, Nat.zero_add]
      have v121 : S 121 (nI i).toNatClampNeg = tw (0 + i) := by rw [kc]; exact RM_kind hR i (by omega)
      have k6 : ((6 : Int32) + nI i).toNatClampNeg = 6 + i := ix_o (o := 6) (by omega)
      have x6 : ixB ((6 : Int32) + nI i) 225 = true := by rw [show (6 : Int32) = nI 6 from rfl, nI_add]; exact ixB_nI (by omega) (by decide)
      have v122 : S 122 (nI i).toNatClampNeg = tw (6 + i) := by rw [kc]; exact RM_v hR i (by omega)
      have k12 : ((12 : Int32) + nI i).toNatClampNeg = 12 + i := ix_o (o := 12) (by omega)
      have x12 : ixB ((12 : Int32) + nI i) 225 = true := by rw [show (12 : Int32) = nI 12 from rfl, nI_add]; exact ixB_nI (by omega) (by decide)
      have v123 : S 123 (nI i).toNatClampNeg = tw (12 + i) := by rw [kc]; exact RM_wed hR i (by omega)
      have nxt : At 2 [.ref 120, .ref r, .int (nI i + 1)] [] n K (up2 (up2 (up2 (upR S r (bk [0, 6, 12] i tw u)) r (nI i).toNatClampNeg (S 121 (nI i).toNatClampNeg)) r (6 + nI i).toNatClampNeg (S 122 (nI i).toNatClampNeg)) r (12 + nI i).toNatClampNeg (S 123 (nI i).toNatClampNeg)) G P 0 := by
        rw [v121, v122, v123, k0, k6, k12, upR_up, upR_up, upR_up]
        have q := ih (i + 1) _ (by omega) (nI_1 i)
        rw [← fU_bk] at q
        exact q
      rcases hr with rfl | rfl <;> (
      refine go [2, 47] 80 _ _ _ _ _ _ _ _ _ ?_
      refine ite_f (by rw [le_i, nI_toInt (by omega)]; have : (6 : Int32).toInt = 6 := rfl; omega) ?_
      refine ite_t (ixB_nI (by omega) (by decide)) ?_
      refine ite_t (ixB_nI (by omega) (by decide)) ?_
      refine ite_t (ixB_nI (by omega) (by decide)) ?_
      refine ite_t x6 ?_
      refine ite_t (ixB_nI (by omega) (by decide)) ?_
      refine ite_t x12 ?_
      exact nxt)
  have s := loop 6 0 0 rfl rfl
  rw [bk_0] at s
  exact s
theorem kl_49 (go : Walk l L xs T1 D tbX12_keep 6 false 0 Q At) (hr : r = 147 ∨ r = 148) (hR : RM tw S) (h : ∀ v2, At 73 [.ref 120, .ref r, .int v2] [] n K (upR S r (bk [18] 24 tw u)) G P 0) : At 49 [.ref 120, .ref r, .int 0] [] n K (upR S r u) G P 0 := by
  have loop : ∀ m i vi, i + m = 24 → vi = nI i → At 49 [.ref 120, .ref r, .int vi] [] n K (upR S r (bk [18] i tw u)) G P 0 := by
    intro m
    induction m with
    | zero =>
      intro i vi hi hv
      have ei : i = 24 := by omega
      subst ei
      subst hv
      refine go [49, 73] 60 _ _ _ _ _ _ _ _ _ ?_
      exact h _
    | succ m ih =>
      intro i vi hi hv
      subst hv
      have kc : (nI i).toNatClampNeg = i := nI_clamp (by omega)
      have k18 : ((18 : Int32) + nI i).toNatClampNeg = 18 + i := ix_o (o := 18) (by omega)
      have x18 : ixB ((18 : Int32) + nI i) 225 = true := by rw [show (18 : Int32) = nI 18 from rfl, nI_add]; exact ixB_nI (by omega) (by decide)
      have v124 : S 124 (nI i).toNatClampNeg = tw (18 + i) := by rw [kc]; exact RM_rows hR i (by omega)
      have nxt : At 49 [.ref 120, .ref r, .int (nI i + 1)] [] n K (up2 (upR S r (bk [18] i tw u)) r (18 + nI i).toNatClampNeg (S 124 (nI i).toNatClampNeg)) G P 0 := by
        rw [v124, k18, upR_up]
        have q := ih (i + 1) _ (by omega) (nI_1 i)
        rw [← fU_bk] at q
        exact q
      rcases hr with rfl | rfl <;> (
      refine go [49, 73] 80 _ _ _ _ _ _ _ _ _ ?_
      refine ite_f (by rw [le_i, nI_toInt (by omega)]; have : (24 : Int32).toInt = 24 := rfl; omega) ?_
      refine ite_t (ixB_nI (by omega) (by decide)) ?_
      refine ite_t x18 ?_
      exact nxt)
  have s := loop 24 0 0 rfl rfl
  rw [bk_0] at s
  exact s
theorem kl_75 (go : Walk l L xs T1 D tbX12_keep 6 false 0 Q At) (hr : r = 147 ∨ r = 148) (hR : RM tw S) (h : ∀ v2, At 123 [.ref 120, .ref r, .int v2] [] n K (upR S r (bk [42, 78, 114] 36 tw u)) G P 0) : At 75 [.ref 120, .ref r, .int 0] [] n K (upR S r u) G P 0 := by
  have loop : ∀ m i vi, i + m = 36 → vi = nI i → At 75 [.ref 120, .ref r, .int vi] [] n K (upR S r (bk [42, 78, 114] i tw u)) G P 0 := by
    intro m
    induction m with
    | zero =>
      intro i vi hi hv
      have ei : i = 36 := by omega
      subst ei
      subst hv
      refine go [75, 123] 60 _ _ _ _ _ _ _ _ _ ?_
      exact h _
    | succ m ih =>
      intro i vi hi hv
      subst hv
      have kc : (nI i).toNatClampNeg = i := nI_clamp (by omega)
      have k42 : ((42 : Int32) + nI i).toNatClampNeg = 42 + i := ix_o (o := 42) (by omega)
      have x42 : ixB ((42 : Int32) + nI i) 225 = true := by rw [show (42 : Int32) = nI 42 from rfl, nI_add]; exact ixB_nI (by omega) (by decide)
      have v125 : S 125 (nI i).toNatClampNeg = tw (42 + i) := by rw [kc]; exact RM_ta hR i (by omega)
      have k78 : ((78 : Int32) + nI i).toNatClampNeg = 78 + i := ix_o (o := 78) (by omega)
      have x78 : ixB ((78 : Int32) + nI i) 225 = true := by rw [show (78 : Int32) = nI 78 from rfl, nI_add]; exact ixB_nI (by omega) (by decide)
      have v126 : S 126 (nI i).toNatClampNeg = tw (78 + i) := by rw [kc]; exact RM_us hR i (by omega)
      have k114 : ((114 : Int32) + nI i).toNatClampNeg = 114 + i := ix_o (o := 114) (by omega)
      have x114 : ixB ((114 : Int32) + nI i) 225 = true := by rw [show (114 : Int32) = nI 114 from rfl, nI_add]; exact ixB_nI (by omega) (by decide)
      have v127 : S 127 (nI i).toNatClampNeg = tw (114 + i) := by rw [kc]; exact RM_la hR i (by omega)
      have nxt : At 75 [.ref 120, .ref r, .int (nI i + 1)] [] n K (up2 (up2 (up2 (upR S r (bk [42, 78, 114] i tw u)) r (42 + nI i).toNatClampNeg (S 125 (nI i).toNatClampNeg)) r (78 + nI i).toNatClampNeg (S 126 (nI i).toNatClampNeg)) r (114 + nI i).toNatClampNeg (S 127 (nI i).toNatClampNeg)) G P 0 := by
        rw [v125, v126, v127, k42, k78, k114, upR_up, upR_up, upR_up]
        have q := ih (i + 1) _ (by omega) (nI_1 i)
        rw [← fU_bk] at q
        exact q
      rcases hr with rfl | rfl <;> (
      refine go [75, 123] 80 _ _ _ _ _ _ _ _ _ ?_
      refine ite_f (by rw [le_i, nI_toInt (by omega)]; have : (36 : Int32).toInt = 36 := rfl; omega) ?_
      refine ite_t (ixB_nI (by omega) (by decide)) ?_
      refine ite_t x42 ?_
      refine ite_t (ixB_nI (by omega) (by decide)) ?_
      refine ite_t x78 ?_
      refine ite_t (ixB_nI (by omega) (by decide)) ?_
      refine ite_t x114 ?_
      exact nxt)
  have s := loop 36 0 0 rfl rfl
  rw [bk_0] at s
  exact s
theorem kl_125 (go : Walk l L xs T1 D tbX12_keep 6 false 0 Q At) (hr : r = 147 ∨ r = 148) (hR : RM tw S) (h : ∀ v2, At 201 [.ref 120, .ref r, .int v2] [] n K (upR S r (bk [150, 155, 160, 165, 170] 5 tw u)) G P 0) : At 125 [.ref 120, .ref r, .int 0] [] n K (upR S r u) G P 0 := by
  have loop : ∀ m i vi, i + m = 5 → vi = nI i → At 125 [.ref 120, .ref r, .int vi] [] n K (upR S r (bk [150, 155, 160, 165, 170] i tw u)) G P 0 := by
    intro m
    induction m with
    | zero =>
      intro i vi hi hv
      have ei : i = 5 := by omega
      subst ei
      subst hv
      refine go [125, 201] 60 _ _ _ _ _ _ _ _ _ ?_
      exact h _
    | succ m ih =>
      intro i vi hi hv
      subst hv
      have kc : (nI i).toNatClampNeg = i := nI_clamp (by omega)
      have k150 : ((150 : Int32) + nI i).toNatClampNeg = 150 + i := ix_o (o := 150) (by omega)
      have x150 : ixB ((150 : Int32) + nI i) 225 = true := by rw [show (150 : Int32) = nI 150 from rfl, nI_add]; exact ixB_nI (by omega) (by decide)
      have v136 : S 136 (nI i).toNatClampNeg = tw (150 + i) := by rw [kc]; exact RM_sb hR i (by omega)
      have k155 : ((155 : Int32) + nI i).toNatClampNeg = 155 + i := ix_o (o := 155) (by omega)
      have x155 : ixB ((155 : Int32) + nI i) 225 = true := by rw [show (155 : Int32) = nI 155 from rfl, nI_add]; exact ixB_nI (by omega) (by decide)
      have v137 : S 137 (nI i).toNatClampNeg = tw (155 + i) := by rw [kc]; exact RM_st hR i (by omega)
      have k160 : ((160 : Int32) + nI i).toNatClampNeg = 160 + i := ix_o (o := 160) (by omega)
      have x160 : ixB ((160 : Int32) + nI i) 225 = true := by rw [show (160 : Int32) = nI 160 from rfl, nI_add]; exact ixB_nI (by omega) (by decide)
      have v138 : S 138 (nI i).toNatClampNeg = tw (160 + i) := by rw [kc]; exact RM_sw hR i (by omega)
      have k165 : ((165 : Int32) + nI i).toNatClampNeg = 165 + i := ix_o (o := 165) (by omega)
      have x165 : ixB ((165 : Int32) + nI i) 225 = true := by rw [show (165 : Int32) = nI 165 from rfl, nI_add]; exact ixB_nI (by omega) (by decide)
      have v139 : S 139 (nI i).toNatClampNeg = tw (165 + i) := by rw [kc]; exact RM_si hR i (by omega)
      have k170 : ((170 : Int32) + nI i).toNatClampNeg = 170 + i := ix_o (o := 170) (by omega)
      have x170 : ixB ((170 : Int32) + nI i) 225 = true := by rw [show (170 : Int32) = nI 170 from rfl, nI_add]; exact ixB_nI (by omega) (by decide)
      have v140 : S 140 (nI i).toNatClampNeg = tw (170 + i) := by rw [kc]; exact RM_ss hR i (by omega)
      have nxt : At 125 [.ref 120, .ref r, .int (nI i + 1)] [] n K (up2 (up2 (up2 (up2 (up2 (upR S r (bk [150, 155, 160, 165, 170] i tw u)) r (150 + nI i).toNatClampNeg (S 136 (nI i).toNatClampNeg)) r (155 + nI i).toNatClampNeg (S 137 (nI i).toNatClampNeg)) r (160 + nI i).toNatClampNeg (S 138 (nI i).toNatClampNeg)) r (165 + nI i).toNatClampNeg (S 139 (nI i).toNatClampNeg)) r (170 + nI i).toNatClampNeg (S 140 (nI i).toNatClampNeg)) G P 0 := by
        rw [v136, v137, v138, v139, v140, k150, k155, k160, k165, k170, upR_up, upR_up, upR_up, upR_up, upR_up]
        have q := ih (i + 1) _ (by omega) (nI_1 i)
        rw [← fU_bk] at q
        exact q
      rcases hr with rfl | rfl <;> (
      refine go [125, 201] 80 _ _ _ _ _ _ _ _ _ ?_
      refine ite_f (by rw [le_i, nI_toInt (by omega)]; have : (5 : Int32).toInt = 5 := rfl; omega) ?_
      refine ite_t (ixB_nI (by omega) (by decide)) ?_
      refine ite_t x150 ?_
      refine ite_t (ixB_nI (by omega) (by decide)) ?_
      refine ite_t x155 ?_
      refine ite_t (ixB_nI (by omega) (by decide)) ?_
      refine ite_t x160 ?_
      refine ite_t (ixB_nI (by omega) (by decide)) ?_
      refine ite_t x165 ?_
      refine ite_t (ixB_nI (by omega) (by decide)) ?_
      refine ite_t x170 ?_
      exact nxt)
  have s := loop 5 0 0 rfl rfl
  rw [bk_0] at s
  exact s
theorem kl_203 (go : Walk l L xs T1 D tbX12_keep 6 false 0 Q At) (hr : r = 147 ∨ r = 148) (hR : RM tw S) (h : ∀ v2, At 241 [.ref 120, .ref r, .int v2] [] n K (upR S r (bk [175, 185] 10 tw u)) G P 0) : At 203 [.ref 120, .ref r, .int 0] [] n K (upR S r u) G P 0 := by
  have loop : ∀ m i vi, i + m = 10 → vi = nI i → At 203 [.ref 120, .ref r, .int vi] [] n K (upR S r (bk [175, 185] i tw u)) G P 0 := by
    intro m
    induction m with
    | zero =>
      intro i vi hi hv
      have ei : i = 10 := by omega
      subst ei
      subst hv
      refine go [203, 241] 60 _ _ _ _ _ _ _ _ _ ?_
      exact h _
    | succ m ih =>
      intro i vi hi hv
      subst hv
      have kc : (nI i).toNatClampNeg = i := nI_clamp (by omega)
      have k175 : ((175 : Int32) + nI i).toNatClampNeg = 175 + i := ix_o (o := 175) (by omega)
      have x175 : ixB ((175 : Int32) + nI i) 225 = true := by rw [show (175 : Int32) = nI 175 from rfl, nI_add]; exact ixB_nI (by omega) (by decide)
      have v141 : S 141 (nI i).toNatClampNeg = tw (175 + i) := by rw [kc]; exact RM_go hR i (by omega)
      have k185 : ((185 : Int32) + nI i).toNatClampNeg = 185 + i := ix_o (o := 185) (by omega)
      have x185 : ixB ((185 : Int32) + nI i) 225 = true := by rw [show (185 : Int32) = nI 185 from rfl, nI_add]; exact ixB_nI (by omega) (by decide)
      have v142 : S 142 (nI i).toNatClampNeg = tw (185 + i) := by rw [kc]; exact RM_wh hR i (by omega)
      have nxt : At 203 [.ref 120, .ref r, .int (nI i + 1)] [] n K (up2 (up2 (upR S r (bk [175, 185] i tw u)) r (175 + nI i).toNatClampNeg (S 141 (nI i).toNatClampNeg)) r (185 + nI i).toNatClampNeg (S 142 (nI i).toNatClampNeg)) G P 0 := by
        rw [v141, v142, k175, k185, upR_up, upR_up]
        have q := ih (i + 1) _ (by omega) (nI_1 i)
        rw [← fU_bk] at q
        exact q
      rcases hr with rfl | rfl <;> (
      refine go [203, 241] 80 _ _ _ _ _ _ _ _ _ ?_
      refine ite_f (by rw [le_i, nI_toInt (by omega)]; have : (10 : Int32).toInt = 10 := rfl; omega) ?_
      refine ite_t (ixB_nI (by omega) (by decide)) ?_
      refine ite_t x175 ?_
      refine ite_t (ixB_nI (by omega) (by decide)) ?_
      refine ite_t x185 ?_
      exact nxt)
  have s := loop 10 0 0 rfl rfl
  rw [bk_0] at s
  exact s
theorem kl_243 (go : Walk l L xs T1 D tbX12_keep 6 false 0 Q At) (hr : r = 147 ∨ r = 148) (hR : RM tw S) (h : ∀ v2, At 294 [.ref 120, .ref r, .int v2] [] n K (upR S r (bk [195, 203, 211] 8 tw u)) G P 0) : At 243 [.ref 120, .ref r, .int 0] [] n K (upR S r u) G P 0 := by
  have loop : ∀ m i vi, i + m = 8 → vi = nI i → At 243 [.ref 120, .ref r, .int vi] [] n K (upR S r (bk [195, 203, 211] i tw u)) G P 0 := by
    intro m
    induction m with
    | zero =>
      intro i vi hi hv
      have ei : i = 8 := by omega
      subst ei
      subst hv
      refine go [243, 294] 60 _ _ _ _ _ _ _ _ _ ?_
      exact h _
    | succ m ih =>
      intro i vi hi hv
      subst hv
      have kc : (nI i).toNatClampNeg = i := nI_clamp (by omega)
      have k195 : ((195 : Int32) + nI i).toNatClampNeg = 195 + i := ix_o (o := 195) (by omega)
      have x195 : ixB ((195 : Int32) + nI i) 225 = true := by rw [show (195 : Int32) = nI 195 from rfl, nI_add]; exact ixB_nI (by omega) (by decide)
      have v143 : S 143 (nI i).toNatClampNeg = tw (195 + i) := by rw [kc]; exact RM_bb hR i (by omega)
      have k203 : ((203 : Int32) + nI i).toNatClampNeg = 203 + i := ix_o (o := 203) (by omega)
      have x203 : ixB ((203 : Int32) + nI i) 225 = true := by rw [show (203 : Int32) = nI 203 from rfl, nI_add]; exact ixB_nI (by omega) (by decide)
      have v144 : S 144 (nI i).toNatClampNeg = tw (203 + i) := by rw [kc]; exact RM_bt hR i (by omega)
      have k211 : ((211 : Int32) + nI i).toNatClampNeg = 211 + i := ix_o (o := 211) (by omega)
      have x211 : ixB ((211 : Int32) + nI i) 225 = true := by rw [show (211 : Int32) = nI 211 from rfl, nI_add]; exact ixB_nI (by omega) (by decide)
      have v145 : S 145 (nI i).toNatClampNeg = tw (211 + i) := by rw [kc]; exact RM_bl hR i (by omega)
      have nxt : At 243 [.ref 120, .ref r, .int (nI i + 1)] [] n K (up2 (up2 (up2 (upR S r (bk [195, 203, 211] i tw u)) r (195 + nI i).toNatClampNeg (S 143 (nI i).toNatClampNeg)) r (203 + nI i).toNatClampNeg (S 144 (nI i).toNatClampNeg)) r (211 + nI i).toNatClampNeg (S 145 (nI i).toNatClampNeg)) G P 0 := by
        rw [v143, v144, v145, k195, k203, k211, upR_up, upR_up, upR_up]
        have q := ih (i + 1) _ (by omega) (nI_1 i)
        rw [← fU_bk] at q
        exact q
      rcases hr with rfl | rfl <;> (
      refine go [243, 294] 80 _ _ _ _ _ _ _ _ _ ?_
      refine ite_f (by rw [le_i, nI_toInt (by omega)]; have : (8 : Int32).toInt = 8 := rfl; omega) ?_
      refine ite_t (ixB_nI (by omega) (by decide)) ?_
      refine ite_t x195 ?_
      refine ite_t (ixB_nI (by omega) (by decide)) ?_
      refine ite_t x203 ?_
      refine ite_t (ixB_nI (by omega) (by decide)) ?_
      refine ite_t x211 ?_
      exact nxt)
  have s := loop 8 0 0 rfl rfl
  rw [bk_0] at s
  exact s
theorem kl_e (go : Walk l L xs T1 D tbX12_keep 6 false 0 Q At) (hr : r = 147 ∨ r = 148) (hR : RM tw S) (h : Q none n K (upR S r (va_up (va_up (va_up (va_up (va_up (va_up (u) 219 (tw 219)) 220 (tw 220)) 221 (tw 221)) 222 (tw 222)) 223 (tw 223)) 224 (tw 224))) G P) (v2 : Int32) : At 294 [.ref 120, .ref r, .int v2] [] n K (upR S r u) G P 0 := by
  rw [← upR_up, ← upR_up, ← upR_up, ← upR_up, ← upR_up, ← upR_up, ← RM_np hR, ← RM_dy hR, ← RM_ns hR, ← RM_nq hR, ← RM_nb hR, ← RM_hl hR] at h
  rcases hr with rfl | rfl <;> (
  refine go [] 100 _ _ _ _ _ _ _ _ _ ?_
  exact h)
theorem mm_keep (hr : r = 147 ∨ r = 148) (hR : RM tw S) (h : ∀ S', (∀ b j, b ≠ r → S' b j = S b j) → (∀ k, k < 225 → S' r k = tw k) → Q none n K S' G P) : Ok l L xs T1 (D + 1) jX12_keep 0 [.ref 120, .ref r] n K S G P Q := by
  refine I_X12_keep (by decide) (fun At go => ?_)
  have fin := h (upR S r (va_up (va_up (va_up (va_up (va_up (va_up (bk [195, 203, 211] 8 tw (bk [175, 185] 10 tw (bk [150, 155, 160, 165, 170] 5 tw (bk [42, 78, 114] 36 tw (bk [18] 24 tw (bk [0, 6, 12] 6 tw (S r))))))) 219 (tw 219)) 220 (tw 220)) 221 (tw 221)) 222 (tw 222)) 223 (tw 223)) 224 (tw 224))) (fun b j hb => congrFun (upR_o _ _ hb) j) (fun k hk => ?_)
  · have st := upR_id S r
    have s := kl_2 (u := S r) (n := n) (K := K) (G := G) (P := P) go hr hR (fun v2 => ?_)
    · rw [st] at s
      refine go [2] 60 _ _ _ _ _ _ _ _ _ ?_
      exact s
    · refine go [49] 60 _ _ _ _ _ _ _ _ _ ?_
      refine kl_49 go hr hR (fun v2 => ?_)
      refine go [75] 60 _ _ _ _ _ _ _ _ _ ?_
      refine kl_75 go hr hR (fun v2 => ?_)
      refine go [125] 60 _ _ _ _ _ _ _ _ _ ?_
      refine kl_125 go hr hR (fun v2 => ?_)
      refine go [203] 60 _ _ _ _ _ _ _ _ _ ?_
      refine kl_203 go hr hR (fun v2 => ?_)
      refine go [243] 60 _ _ _ _ _ _ _ _ _ ?_
      refine kl_243 go hr hR (fun v2 => ?_)
      exact kl_e go hr hR fin v2
  · rw [upR_s]
    by_cases c224 : k = 224
    · subst c224
      rw [va_up_self]
    by_cases c223 : k = 223
    · subst c223
      rw [va_up_ne _ _ (by decide), va_up_self]
    by_cases c222 : k = 222
    · subst c222
      rw [va_up_ne _ _ (by decide), va_up_ne _ _ (by decide), va_up_self]
    by_cases c221 : k = 221
    · subst c221
      rw [va_up_ne _ _ (by decide), va_up_ne _ _ (by decide), va_up_ne _ _ (by decide), va_up_self]
    by_cases c220 : k = 220
    · subst c220
      rw [va_up_ne _ _ (by decide), va_up_ne _ _ (by decide), va_up_ne _ _ (by decide), va_up_ne _ _ (by decide), va_up_self]
    by_cases c219 : k = 219
    · subst c219
      rw [va_up_ne _ _ (by decide), va_up_ne _ _ (by decide), va_up_ne _ _ (by decide), va_up_ne _ _ (by decide), va_up_ne _ _ (by decide), va_up_self]
    rw [va_up_ne _ _ (by omega), va_up_ne _ _ (by omega), va_up_ne _ _ (by omega), va_up_ne _ _ (by omega), va_up_ne _ _ (by omega), va_up_ne _ _ (by omega)]
    exact all_bk (by omega)
end A
end

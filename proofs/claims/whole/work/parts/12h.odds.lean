noncomputable section
/-! ODDS, MEAN. -/
def frV (a b : Nat) (y : Int32) : Int64 := if y = 0 then lN (a / Nat.gcd a b) else lN (b / Nat.gcd a b)
theorem bcx4 : ∀ a b c d : Bool, bcI (b4 a b c d) = nI (a.toNat + (b.toNat + (c.toNat + (d.toNat + 0)))) := by decide +kernel
theorem bc_bits4 (f : Nat → Bool) : bcI (bits4 f) = nI (cB f 4 0) := (bcx4 (f 0) (f 1) (f 2) (f 3))
theorem cB_le (f : Nat → Bool) : ∀ m j, cB f m j ≤ m := by
  intro m
  induction m with
  | zero => intro j; exact Nat.le_refl _
  | succ m ih =>
    intro j
    have := ih (j + 1)
    rw [cB]
    have h2 : (f j).toNat ≤ 1 := by cases f j <;> decide
    omega
theorem rowT_n {ta : Nat → Int32} (h : ∀ i, i < 36 → ∃ t, t < 3 ∧ ta i = nI t) {p : Nat} (hp : p < 6) : ∀ m j c, j + m ≤ 6 → ∃ c', c' ≤ c + 2 * m ∧ rowT ta p m j (nI c) = nI c' := by
  intro m
  induction m with
  | zero => intro j c _; exact ⟨c, by omega, rfl⟩
  | succ m ih =>
    intro j c hj
    obtain ⟨t, ht, e⟩ := h (6 * p + j) (by omega)
    obtain ⟨c', h1, h2⟩ := ih (j + 1) (c + t) (by omega)
    refine ⟨c', by omega, ?_⟩
    rw [rowT, e, nI_add]
    exact h2
theorem allT_n {ta : Nat → Int32} (h : ∀ i, i < 36 → ∃ t, t < 3 ∧ ta i = nI t) {np : Nat} (h6 : np ≤ 6) : ∀ m j c, j + m ≤ 6 → ∃ c', c' ≤ c + 12 * m ∧ allT ta np m j (nI c) = nI c' := by
  intro m
  induction m with
  | zero => intro j c _; exact ⟨c, by omega, rfl⟩
  | succ m ih =>
    intro j c hj
    obtain ⟨r, hr, er⟩ := rowT_n h (p := j) (by omega) np 0 0 (by omega)
    obtain ⟨c', h1, h2⟩ := ih (j + 1) (c + r) (by omega)
    refine ⟨c', by omega, ?_⟩
    rw [allT, show (0 : Int32) = nI 0 from rfl, er, nI_add]
    exact h2
def noV : Int64 := lc 0
def rOd (sd : Nat → Int32 × ((Nat → Int32) → Bool)) (tw : Nat → Int32) (np dy : Nat) (x y z : Int32) : Int64 := if (inR np x = true ∧ inR np y = true) ∧ ¬ x = y ∧ inR 2 z = true then frV (cB (fun w => cnW sd tw x.toNatClampNeg y.toNatClampNeg (tw (6 + x.toNatClampNeg)) dy w) 4 0) 4 z else noV
def rMe (tw : Nat → Int32) (np : Nat) (z : Int32) : Int64 := if inR 2 z = true ∧ ¬ np = 0 then frV (allT (tlT tw) np np 0 0).toNatClampNeg np z else noV
section A
variable {l : Launch} {L : Nat} {xs : Nat → Int32} {D : Nat} {n : Nat} {K : Mk} {S : Mi} {G : Ml} {P : Mr} {Q : QT} {N : Nat → Nat} {d : Nat → Nat → Int32} {g : Nat → Int64} {sd : Nat → Int32 × ((Nat → Int32) → Bool)}
set_option maxRecDepth 20000
theorem m_pof {T : Tb} {a b : Nat} {x z : Int32} (hx : x = nI a) (ha : a < 1000) (hb : b < 1000) (hb1 : 1 ≤ b) (h : Q (some (.long (frV a b z))) n K S G P) : Ok l L xs T (D + 1) jX11_partOfFraction 0 [.int x, .int (nI b), .int z] n K S G P Q := by
  refine I_X11_partOfFraction (by decide) (fun At go => ?_)
  subst hx
  have gb : Nat.gcd a b ≤ b := Nat.gcd_le_right _ hb1
  have gp : 1 ≤ Nat.gcd a b := Nat.gcd_pos_of_pos_right _ hb1
  have loop : ∀ m vi q, m + 1 ≤ b → vi = nI (m + 1) → Nat.gcd a b ≤ m + 1 → q < 1000 → Q (some (.long (lN (q / Nat.gcd a b)))) n K S G P → At 13 [.int (nI a), .int (nI b), .int z, .int (nI q), .int vi] [] n K S G P 0 := by
    intro m
    induction m with
    | zero =>
      intro vi q h1 hv hg hq hQ
      subst hv
      have e : Nat.gcd a b = 1 := by omega
      rw [e, Nat.div_one] at hQ
      have a45 : At 45 [.int (nI a), .int (nI b), .int z, .int (nI q), .int (nI (0 + 1))] [] n K S G P 0 := by
        rw [← nI_l (by omega)] at hQ
        refine go [13, 39] 60 _ _ _ _ _ _ _ _ _ ?_
        exact hQ
      refine go [13, 39, 45] 60 _ _ _ _ _ _ _ _ _ ?_
      exact a45
    | succ m ih =>
      intro vi q h1 hv hg hq hQ
      subst hv
      have ra : rmI (nI a) (nI (m + 1 + 1)) = nI (a % (m + 1 + 1)) := rm_i (by omega) (by omega)
      have rb : rmI (nI b) (nI (m + 1 + 1)) = nI (b % (m + 1 + 1)) := rm_i (by omega) (by omega)
      have nz : ¬ nI (m + 1 + 1) = 0 := nI_ne0 (by omega) (by omega)
      have a39 : Nat.gcd a b ≤ m + 1 → At 39 [.int (nI a), .int (nI b), .int z, .int (nI q), .int (nI (m + 1 + 1))] [] n K S G P 0 := by
        intro hg'
        refine go [13, 45] 60 _ _ _ _ _ _ _ _ _ ?_
        exact ih _ q (by omega) (nI_dn _) hg' hq hQ
      refine go [13, 39, 45] 60 _ _ _ _ _ _ _ _ _ ?_
      refine ite_f (by rw [le_i, nI_toInt (by omega), t_1]; omega) ?_
      refine ite_f nz ?_
      refine ite_i (fun c => ?_) (fun c => ?_)
      · have c' : rmI (nI a) (nI (m + 1 + 1)) = 0 := c
        rw [ra, eq_i, nI_toInt (by have := Nat.mod_lt a (show 0 < m + 1 + 1 by omega); omega), t_0] at c'
        refine ite_f nz ?_
        refine ite_i (fun c2 => ?_) (fun c2 => ?_)
        · have c2' : rmI (nI b) (nI (m + 1 + 1)) = 0 := c2
          rw [rb, eq_i, nI_toInt (by have := Nat.mod_lt b (show 0 < m + 1 + 1 by omega); omega), t_0] at c2'
          have e : Nat.gcd a b = m + 1 + 1 := by
            have hd : (m + 1 + 1) ∣ Nat.gcd a b := Nat.dvd_gcd (Nat.dvd_of_mod_eq_zero (by omega)) (Nat.dvd_of_mod_eq_zero (by omega))
            have := Nat.le_of_dvd (by omega) hd
            omega
          rw [e] at hQ
          have hdv : q / (m + 1 + 1) ≤ q := Nat.div_le_self _ _
          rw [← nI_l (by omega), ← dv_i (by omega) (by omega)] at hQ
          refine ite_f nz ?_
          exact hQ
        · have c2' : ¬ rmI (nI b) (nI (m + 1 + 1)) = 0 := c2
          rw [rb, eq_i, nI_toInt (by have := Nat.mod_lt b (show 0 < m + 1 + 1 by omega); omega), t_0] at c2'
          refine a39 ?_
          refine Nat.le_of_not_lt (fun hlt => c2' ?_)
          have e : Nat.gcd a b = m + 1 + 1 := by omega
          have hd := Nat.gcd_dvd_right a b
          rw [e] at hd
          have := Nat.mod_eq_zero_of_dvd hd
          omega
      · have c' : ¬ rmI (nI a) (nI (m + 1 + 1)) = 0 := c
        rw [ra, eq_i, nI_toInt (by have := Nat.mod_lt a (show 0 < m + 1 + 1 by omega); omega), t_0] at c'
        refine a39 ?_
        refine Nat.le_of_not_lt (fun hlt => c' ?_)
        have e : Nat.gcd a b = m + 1 + 1 := by omega
        have hd := Nat.gcd_dvd_left a b
        rw [e] at hd
        have := Nat.mod_eq_zero_of_dvd hd
        omega
  have eb : nI b = nI (b - 1 + 1) := by rw [show b - 1 + 1 = b by omega]
  have a9 : ∀ q, q < 1000 → Q (some (.long (lN (q / Nat.gcd a b)))) n K S G P → At 9 [.int (nI a), .int (nI b), .int z, .retAddr 0, .retAddr 0] [.int (nI q)] n K S G P 0 := by
    intro q hq hQ
    refine go [13, 39, 45] 60 _ _ _ _ _ _ _ _ _ ?_
    exact loop (b - 1) _ q (by omega) eb (by omega) hq hQ
  unfold frV at h
  refine go [8, 9, 13, 39, 45] 60 _ _ _ _ _ _ _ _ _ ?_
  refine ite_i (fun c => ?_) (fun c => ?_)
  · rw [if_pos c] at h
    exact a9 a ha h
  · rw [if_neg c] at h
    have a8 : At 8 [.int (nI a), .int (nI b), .int z, .retAddr 0, .retAddr 0] [] n K S G P 0 := by
      refine go [9, 13, 39, 45] 60 _ _ _ _ _ _ _ _ _ ?_
      exact a9 b hb h
    exact a8
theorem mm_part {T : Tb} {a b : Nat} {x y z : Int32} (hx : x = nI a) (hy : y = nI b) (ha : a < 1000) (hb : b < 1000) (hb1 : 1 ≤ b) (h : Q (some (.long (frV a b z))) n K S G P) : Ok l L xs T (D + 1) jX12_part 0 [.int x, .int y, .int z] n K S G P Q := by
  refine I_X12_part (by decide) (fun At go => ?_)
  subst hx
  subst hy
  have gb : Nat.gcd a b ≤ b := Nat.gcd_le_right _ hb1
  have gp : 1 ≤ Nat.gcd a b := Nat.gcd_pos_of_pos_right _ hb1
  have a41 : ∀ x3 x4 x5 r, Q (some (.long r)) n K S G P → At 41 [.int (nI a), .int (nI b), .int z, x3, x4, x5] [.long r] n K S G P 0 := by
    intro x3 x4 x5 r hr
    refine go [5] 60 _ _ _ _ _ _ _ _ _ ?_
    exact hr
  have loop : ∀ m u v x5, v < m → u < 1000 → v < 1000 → Nat.gcd u v = Nat.gcd a b → At 5 [.int (nI a), .int (nI b), .int z, .int (nI u), .int (nI v), x5] [] n K S G P 0 := by
    intro m
    induction m with
    | zero => intro u v x5 h1; exact absurd h1 (Nat.not_lt_zero _)
    | succ m ih =>
      intro u v x5 h1 hu hv hg
      by_cases hv0 : v = 0
      · subst hv0
        rw [Nat.gcd_zero_right] at hg
        have nz : ¬ nI u = 0 := nI_ne0 (by omega) (by omega)
        have a26 : At 26 [.int (nI a), .int (nI b), .int z, .int (nI u), .int (nI 0), x5] [] n K S G P 0 := by
          unfold frV at h
          rw [← hg] at h
          have d1 : a / u ≤ a := Nat.div_le_self _ _
          have d2 : b / u ≤ b := Nat.div_le_self _ _
          rw [← nI_l (by omega), ← nI_l (by omega), ← dv_i (by omega) (by omega), ← dv_i (by omega) (by omega)] at h
          refine go [5, 37, 41] 60 _ _ _ _ _ _ _ _ _ ?_
          refine ite_i (fun c => ?_) (fun c => ?_)
          · rw [if_pos c] at h
            refine ite_f nz ?_
            exact a41 _ _ _ _ h
          · rw [if_neg c] at h
            have a37 : At 37 [.int (nI a), .int (nI b), .int z, .int (nI u), .int (nI 0), x5] [] n K S G P 0 := by
              refine go [5, 41] 60 _ _ _ _ _ _ _ _ _ ?_
              refine ite_f nz ?_
              exact a41 _ _ _ _ h
            exact a37
        refine go [5, 26, 37, 41] 60 _ _ _ _ _ _ _ _ _ ?_
        exact a26
      · have nz : ¬ nI v = 0 := nI_ne0 (by omega) (by omega)
        have r1 : rmI (nI u) (nI v) = nI (u % v) := rm_i (by omega) (by omega)
        have hm := Nat.mod_lt u (show 0 < v by omega)
        have nxt := ih v (u % v) (.int (nI (u % v))) (by omega) hv (by omega) (by rw [← hg, Nat.gcd_comm v (u % v), Nat.gcd_comm u v, Nat.gcd_rec v u])
        rw [← r1] at nxt
        refine go [5, 26, 37, 41] 60 _ _ _ _ _ _ _ _ _ ?_
        refine ite_f nz ?_
        refine ite_f nz ?_
        exact nxt
  refine go [5, 26, 37, 41] 60 _ _ _ _ _ _ _ _ _ ?_
  exact loop 1000 a b _ hb ha hb rfl
end A
end

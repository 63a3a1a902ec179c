noncomputable section
/-! THE LAW: what holds at the head of its loop. -/
def InvA (n : Nat) (K : Mk) (S : Mi) (G : Ml) (P : Mr) : Prop := ∃ (N : Nat → Nat) (d : Nat → Nat → Int32) (g : Nat → Int64) (sd : Nat → Int32 × ((Nat → Int32) → Bool)), InvC N d g sd n K S G P ∧ InvM N d g sd S G ∧ DOk N d ∧ WO n K P ∧ 123 ≤ n
def XI (vi : Int32) (L : Nat) : Prop := ixB (vi + 1) L = true ∧ ixB (vi + 2) L = true ∧ ixB (vi + 3) L = true ∧ ixB (vi + 4) L = true ∧ ixB (vi + 5) L = true
abbrev LW (l : Launch) (L : Nat) (xs : Nat → Int32) (D : Nat) (Q : QT) (At : PT) : Prop := Walk l L xs T1 (D + 315) tbL_law 1 false 7302 Q At
def NX1 (At : PT) (vi : Int32) (n cs : Nat) : Prop := ∀ (n' : Nat) (K' : Mk) (S' : Mi) (G' : Ml) (P' : Mr) (cs' : Nat), InvA n' K' S' G' P' → (n' = n ∧ cs' = cs ∨ n' = n + 1 ∧ cs' = cs + 1) → At 1224 [.ref 31, .ref 32, .ref 120, .int vi] [] n' K' S' G' P' cs'
theorem ne_plan {np r : Nat} {x y : Int32} (h : okPl np r x y) : ¬ x = -1 := by
  intro e
  subst e
  unfold okPl at h
  revert h
  simp [inR]
theorem ne_book {np r : Nat} {x y z : Int32} (h : okBo np r x y z) : ¬ x = -1 := by
  intro e
  subst e
  unfold okBo at h
  revert h
  simp [inR]
theorem ne_say {np r : Nat} {x y w t : Int32} (h : okSa np r x y w t) : ¬ x = -1 := by
  intro e
  subst e
  unfold okSa at h
  revert h
  simp [inR]
section A
variable {l : Launch} {L : Nat} {xs : Nat → Int32} {D : Nat} {n : Nat} {K : Mk} {S : Mi} {G : Ml} {P : Mr} {Q : QT} {N : Nat → Nat} {d : Nat → Nat → Int32} {g : Nat → Int64} {sd : Nat → Int32 × ((Nat → Int32) → Bool)}
/-- refuse's answer by a name: its own words run away where it is compared -/
theorem c_refuse_v {x y z : Int32} (hI : InvC N d g sd n K S G P) (hD : DOk N d) (h1 : okRf sd (d 0) (N 0) (N 1) x y z → ∀ S' v, v = rfT (d 0) x.toNatClampNeg y.toNatClampNeg z.toNatClampNeg (N 1) (42 + (6 * x.toNatClampNeg + y.toNatClampNeg)) → FrC S S' → InvC N (upR d 0 (rfT (d 0) x.toNatClampNeg y.toNatClampNeg z.toNatClampNeg (N 1))) g sd n K S' G P → Q (some (.int v)) n K S' G P) (h0 : ¬ okRf sd (d 0) (N 0) (N 1) x y z → ∀ S' v, v = rRf0 (N 0) x y z → FrC S S' → InvC N d g sd n K S' G P → Q (some (.int v)) n K S' G P) : Ok l L xs T1 (D + 12) jX11_refuse 0 [.ref 32, .int x, .int y, .int z] n K S G P Q :=
  c_refuse hI hD (fun ok S' f i => h1 ok S' _ rfl f i) (fun no S' f i => h0 no S' _ rfl f i)
theorem q_refuse_v {x y z : Int32} (hI : InvM N d g sd S G) (hD : DOk N d) (h1 : okRf sd (d 0) (N 0) (N 1) x y z → ∀ S' v, v = rfT (d 0) x.toNatClampNeg y.toNatClampNeg z.toNatClampNeg (N 1) (42 + (6 * x.toNatClampNeg + y.toNatClampNeg)) → FrM S S' → InvM N (upR d 0 (rfT (d 0) x.toNatClampNeg y.toNatClampNeg z.toNatClampNeg (N 1))) g sd S' G → Q (some (.int v)) n K S' G P) (h0 : ¬ okRf sd (d 0) (N 0) (N 1) x y z → ∀ S' v, v = rRf0 (N 0) x y z → FrM S S' → InvM N d g sd S' G → Q (some (.int v)) n K S' G P) : Ok l L xs T1 (D + 12) jX12_refuse 0 [.ref 120, .int x, .int y, .int z] n K S G P Q :=
  q_refuse hI hD (fun ok S' f i => h1 ok S' _ rfl f i) (fun no S' f i => h0 no S' _ rfl f i)
end A
end

noncomputable section
/-! SHIFT. -/
def shP (m m2 : Nat) (i j c : Int32) : Prop := 0 ≤ c.toInt ∧ 0 ≤ i.toInt ∧ 0 ≤ j.toInt ∧ i.toInt + c.toInt ≤ (m : Int) ∧ j.toInt + c.toInt ≤ (m2 : Int)
def okSh (d : Nat → Nat → Int32) (x i y j c : Int32) : Prop := (inR 6 x = true ∧ inR 6 y = true) ∧ ¬ (d 4 x.toNatClampNeg = -1 ∨ d 4 y.toNatClampNeg = -1) ∧ d 4 x.toNatClampNeg = d 4 y.toNatClampNeg ∧ shP (d 5 x.toNatClampNeg).toNatClampNeg (d 5 y.toNatClampNeg).toNatClampNeg i j c
def rSh0 (d : Nat → Nat → Int32) (x y : Int32) : Int32 := if inR 6 x = true ∧ inR 6 y = true then (if d 4 x.toNatClampNeg = -1 ∨ d 4 y.toNatClampNeg = -1 then -11 else if d 4 x.toNatClampNeg = d 4 y.toNatClampNeg then -13 else -12) else -1
def shG (g : Nat → Int64) (x i y j c : Int32) : Nat → Int64 := fun k => if 60 * y.toNatClampNeg + j.toNatClampNeg ≤ k ∧ k < 60 * y.toNatClampNeg + j.toNatClampNeg + c.toNatClampNeg then g (60 * x.toNatClampNeg + i.toNatClampNeg + (k - (60 * y.toNatClampNeg + j.toNatClampNeg))) else g k
theorem tp_sho {n t : Nat} {K : Mk} (ht : t < 6) : sho T1 n K (76 + t) = some (.inl (2, 60)) := by
  have e : ∀ t, t < 6 → t = 0 ∨ t = 1 ∨ t = 2 ∨ t = 3 ∨ t = 4 ∨ t = 5 := by decide
  rcases e t ht with rfl | rfl | rfl | rfl | rfl | rfl <;> rfl
theorem cp_go {n t u : Nat} {K : Mk} {A B C : Nat → Nat → Prop} (ht : t < 6) (hu : u < 6) (h : C 60 60) : (match sho T1 n K (76 + t), sho T1 n K (76 + u) with
    | some (.inl (0, n0)), some (.inl (0, n1)) => A n0 n1
    | some (.inl (1, n0)), some (.inl (1, n1)) => B n0 n1
    | some (.inl (2, n0)), some (.inl (2, n1)) => C n0 n1
    | _, _ => False) := by
  simp only [tp_sho ht, tp_sho hu]
  exact h
theorem subN {m : Nat} {c : Int32} (hm : m ≤ 60) (h0 : 0 ≤ c.toInt) : (nI m - c).toInt = (m : Int) - c.toInt := by
  have := i_rng c
  rw [Int32.toInt_sub, nI_toInt (by omega)]
  exact Int.bmod_eq_of_le (by omega) (by omega)
section A
variable {l : Launch} {L : Nat} {xs : Nat → Int32} {D : Nat} {n : Nat} {K : Mk} {S : Mi} {G : Ml} {P : Mr} {Q : QT} {N : Nat → Nat} {d : Nat → Nat → Int32} {g : Nat → Int64} {sd : Nat → Int32 × ((Nat → Int32) → Bool)}
set_option maxRecDepth 20000
theorem c_shift {x i y j c : Int32} (hI : InvC N d g sd n K S G P) (hD : DOk N d) (h1 : okSh d x i y j c → ∀ S' G', FrC S S' → G' 154 = G 154 → InvC N d (shG g x i y j c) sd n K S' G' P → Q (some (.int c)) n K S' G' P) (h0 : ¬ okSh d x i y j c → Q (some (.int (rSh0 d x y))) n K S G P) : Ok l L xs T1 (D + 12) jX11_shift 0 [.ref 32, .int x, .int i, .int y, .int j, .int c] n K S G P Q := by
  refine I_X11_shift (by decide) (fun At go => ?_)
  have c_no : ∀ r, ¬ okSh d x i y j c → rSh0 d x y = r → Q (some (.int r)) n K S G P := by
    intro r c e
    rw [← e]
    exact h0 c
  have a14 : ¬ (inR 6 x = true ∧ inR 6 y = true) → At 14 [.ref 32, .int x, .int i, .int y, .int j, .int c] [] n K S G P 0 := by
    intro hx
    refine go [] 60 _ _ _ _ _ _ _ _ _ ?_
    exact c_no (-1) (fun w => hx w.1) (by unfold rSh0; rw [if_neg hx])
  have a16 : inR 6 x = true → inR 6 y = true → At 16 [.ref 32, .int x, .int i, .int y, .int j, .int c] [] n K S G P 0 := by
    intro hx hy
    obtain ⟨t, ht, rfl⟩ := inR_ex hx
    obtain ⟨u, hu, rfl⟩ := inR_ex hy
    have x6 : ixB (nI t) 6 = true := ixB_nI ht (by decide)
    have y6 : ixB (nI u) 6 = true := ixB_nI hu (by decide)
    have ek : (nI t).toNatClampNeg = t := nI_clamp (by omega)
    have eu : (nI u).toNatClampNeg = u := nI_clamp (by omega)
    obtain ⟨m, hm, em, hm0, hsrt⟩ := tp_ex hD ht
    obtain ⟨m2, hm2, em2, hm02, hsrt2⟩ := tp_ex hD hu
    have e4 : S 82 (nI t).toNatClampNeg = d 4 t := by rw [ek]; exact (hI.2.2.2.1.1 t ht).1
    have f4 : S 82 (nI u).toNatClampNeg = d 4 u := by rw [eu]; exact (hI.2.2.2.1.1 u hu).1
    have e5 : S 83 (nI t).toNatClampNeg = nI m := by rw [ek]; exact (hI.2.2.2.1.1 t ht).2.1.trans em
    have f5 : S 83 (nI u).toNatClampNeg = nI m2 := by rw [eu]; exact (hI.2.2.2.1.1 u hu).2.1.trans em2
    have e75 : P 75 (nI t).toNatClampNeg = some (76 + t) := by rw [ek]; exact (hI.2.2.2.1.1 t ht).2.2
    have f75 : P 75 (nI u).toNatClampNeg = some (76 + u) := by rw [eu]; exact (hI.2.2.2.1.1 u hu).2.2
    have okx : okSh d (nI t) i (nI u) j c ↔ (¬ (d 4 t = -1 ∨ d 4 u = -1) ∧ d 4 t = d 4 u ∧ shP m m2 i j c) := by
      unfold okSh
      rw [ek, eu, em, em2, nI_clamp (n := m) (by omega), nI_clamp (n := m2) (by omega)]
      exact ⟨fun w => w.2, fun w => ⟨⟨hx, hy⟩, w⟩⟩
    have a36 : (d 4 t = -1 ∨ d 4 u = -1) → At 36 [.ref 32, .int (nI t), .int i, .int (nI u), .int j, .int c] [] n K S G P 0 := by
      intro hs
      refine go [] 60 _ _ _ _ _ _ _ _ _ ?_
      exact c_no (-11) (fun w => (okx.mp w).1 hs) (by unfold rSh0; rw [if_pos ⟨hx, hy⟩, ek, eu, if_pos hs])
    have a98 : ¬ (d 4 t = -1 ∨ d 4 u = -1) → d 4 t = d 4 u → ¬ shP m m2 i j c → At 98 [.ref 32, .int (nI t), .int i, .int (nI u), .int j, .int c] [] n K S G P 0 := by
      intro hs he hp
      refine go [] 60 _ _ _ _ _ _ _ _ _ ?_
      exact c_no (-13) (fun w => hp (okx.mp w).2.2) (by unfold rSh0; rw [if_pos ⟨hx, hy⟩, ek, eu, if_neg hs, if_pos he])
    have a101 : ¬ (d 4 t = -1 ∨ d 4 u = -1) → d 4 t = d 4 u → shP m m2 i j c → At 101 [.ref 32, .int (nI t), .int i, .int (nI u), .int j, .int c] [] n K S G P 0 := by
      intro hs he hp
      have ok := okx.mpr ⟨hs, he, hp⟩
      obtain ⟨p1, p2, p3, p4, p5⟩ := hp
      have fin := h1 ok S (upR G (76 + u) (va_cpy (G (76 + t)) (G (76 + u)) i.toNatClampNeg j.toNatClampNeg c.toNatClampNeg)) (FrC.rf S) (upR_o _ _ (by omega)) (InvC_g hI (fun v k hv hk => by
        obtain ⟨a, ha, rfl⟩ := ex_nI p2
        obtain ⟨b, hb, rfl⟩ := ex_nI p3
        obtain ⟨z, hz, rfl⟩ := ex_nI p1
        rw [nI_toInt ha, nI_toInt hz] at p4
        rw [nI_toInt hb, nI_toInt hz] at p5
        unfold shG
        rw [ek, eu, nI_clamp ha, nI_clamp hb, nI_clamp hz]
        by_cases e : v = u
        · subst e
          rw [upR_s]
          unfold va_cpy
          by_cases e2 : b ≤ k ∧ k < b + z
          · rw [if_pos e2, if_pos (by omega), hI.2.2.2.1.2 t _ ht (by omega)]
            congr 1
            omega
          · rw [if_neg e2, if_neg (by omega)]
            exact hI.2.2.2.1.2 _ _ hv hk
        · rw [upR_o _ _ (by omega), if_neg (by omega)]
          exact hI.2.2.2.1.2 _ _ hv hk))
      refine go [] 60 _ _ _ _ _ _ _ _ _ ?_
      refine ite_t x6 ?_
      rw [e75]
      refine ite_t y6 ?_
      rw [f75]
      refine cp_go ht hu ⟨⟨p2, p3, p1, by omega, by omega⟩, ?_⟩
      exact fin
    have a57 : ¬ (d 4 t = -1 ∨ d 4 u = -1) → d 4 t = d 4 u → At 57 [.ref 32, .int (nI t), .int i, .int (nI u), .int j, .int c] [] n K S G P 0 := by
      intro hs he
      refine go [98, 101] 60 _ _ _ _ _ _ _ _ _ ?_
      refine ite_i (fun z => a98 hs he (fun w => by rw [lt_i, t_0] at z; have := w.1; omega)) (fun z1 => ?_)
      refine ite_i (fun z => a98 hs he (fun w => by rw [lt_i, t_0] at z; have := w.2.1; omega)) (fun z2 => ?_)
      refine ite_i (fun z => a98 hs he (fun w => by rw [lt_i, t_0] at z; have := w.2.2.1; omega)) (fun z3 => ?_)
      rw [lt_i, t_0] at z1 z2 z3
      refine ite_t x6 ?_
      refine ite_i (fun z => a98 hs he (fun w => ?_)) (fun z4 => ?_)
      · have z' : S 83 (nI t).toNatClampNeg - c < i := z
        rw [e5, lt_i, subN hm (by omega)] at z'
        have := w.2.2.2.1
        omega
      have z4' : ¬ S 83 (nI t).toNatClampNeg - c < i := z4
      rw [e5, lt_i, subN hm (by omega)] at z4'
      refine ite_t y6 ?_
      refine ite_i (fun z => ?_) (fun z => a98 hs he (fun w => ?_))
      · have z' : j ≤ S 83 (nI u).toNatClampNeg - c := z
        rw [f5, le_i, subN hm2 (by omega)] at z'
        exact a101 hs he ⟨by omega, by omega, by omega, by omega, by omega⟩
      · have z' : ¬ j ≤ S 83 (nI u).toNatClampNeg - c := z
        rw [f5, le_i, subN hm2 (by omega)] at z'
        have := w.2.2.2.2
        omega
    have a39 : ¬ (d 4 t = -1 ∨ d 4 u = -1) → At 39 [.ref 32, .int (nI t), .int i, .int (nI u), .int j, .int c] [] n K S G P 0 := by
      intro hs
      refine go [57] 60 _ _ _ _ _ _ _ _ _ ?_
      refine ite_t x6 ?_
      refine ite_t y6 ?_
      refine ite_i (fun z => a57 hs (by rw [e4, f4] at z; exact z)) (fun z => ?_)
      rw [e4, f4] at z
      exact c_no (-12) (fun w => z (okx.mp w).2.1) (by unfold rSh0; rw [if_pos ⟨hx, hy⟩, ek, eu, if_neg hs, if_neg z])
    refine go [36, 39] 60 _ _ _ _ _ _ _ _ _ ?_
    refine ite_t x6 ?_
    refine ite_i (fun z => a36 (.inl (e4.symm.trans z))) (fun z => ?_)
    refine ite_t y6 ?_
    refine ite_i (fun z2 => ?_) (fun z2 => ?_)
    · exact a36 (.inr (f4.symm.trans z2))
    · exact a39 (fun w => w.elim (fun w => z (e4.trans w)) (fun w => z2 (f4.trans w)))
  refine go [14, 16] 60 _ _ _ _ _ _ _ _ _ ?_
  refine m_tape2 (fun hx => ?_) (fun hx => a14 (fun w => by rw [hx] at w; cases w.1))
  refine m_tape2 (fun hy => a16 hx hy) (fun hy => a14 (fun w => by rw [hy] at w; cases w.2))
end A
end

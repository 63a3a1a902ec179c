noncomputable section
/-! READS TEST of the component. -/
def FrS (s m : Nat) (S S' : Mi) : Prop := ∀ b j, ¬ (b = s ∧ (j = 9 ∨ j = 5)) → ¬ (b = s + 3 ∧ m ≤ j) → S' b j = S b j
theorem FrS.rf (s m : Nat) (S : Mi) : FrS s m S S := fun _ _ _ _ => rfl
theorem FrS.tr {s m m' : Nat} {S S' S'' : Mi} (hm : m ≤ m') (h : FrS s m S S') (g : FrS s m' S' S'') : FrS s m S S'' := fun b j h1 h2 => (g b j h1 (by omega)).trans (h b j h1 h2)
theorem FrS_at {s m : Nat} {S S' : Mi} (h : FrAt s S S') : FrS s m S S' := fun b j h1 _ => h b j (by omega)
theorem TxC_fr {s m : Nat} {S S' : Mi} {t : Nat → Nat} {sz : Nat} (h : FrS s m S S') (hS : TxC s S t sz) : TxC s S' t sz := ⟨hS.1, (h _ _ (by omega) (by omega)).trans hS.2.1, fun i hi => ⟨(hS.2.2 i hi).1, (h _ _ (by omega) (by omega)).trans (hS.2.2 i hi).2⟩⟩
theorem stI0_3 {x : Nat} : stI0 (x + 3) = nI x := by
  unfold stI0
  rw [if_pos (by omega), show x + 3 - 3 = x by omega]
section A
variable {l : Launch} {L : Nat} {xs : Nat → Int32} {D : Nat} {n : Nat} {K : Mk} {S : Mi} {G : Ml} {P : Mr} {Q : QT} {s p sz m : Nat} {t : Nat → Nat}
set_option maxRecDepth 20000
theorem m_readsTest (hs : SD s) (hS : TxC s S t sz) (hp : S s 9 = nI p) (hle : p ≤ sz) (hm : S s 5 = nI m) (hmp : m ≤ p) (h1 : ∀ c p', tst t sz p = (some c, p') → ∀ S', FrS s m S S' → S' s 9 = nI p' → S' s 5 = nI (m + 1) → S' (s + 3) m = stI0 c → Q (some (.int 1)) n K S' G P) (h0 : ∀ p', tst t sz p = (none, p') → ∀ S', FrS s m S S' → S' s 9 = nI p' → S' s 5 = nI m → Q (some (.int 0)) n K S' G P) : Ok l L xs T1 (D + 7) jX7_readsTest 0 [.ref s] n K S G P Q := by
  refine I_X7_readsTest (by decide) (fun At go => ?_)
  have sz100 := hS.1
  have a34n : ∀ S' x1 x2 x3, Q (some (.int 0)) n K S' G P → At 34 [.ref s, .int x1, .int x2, x3] [.int (-1)] n K S' G P 0 := by
    intro S' x1 x2 x3 hQ
    refine go [42] 60 _ _ _ _ _ _ _ _ _ ?_
    exact hQ
  have a21n : ∀ S' x1 x2 x3, Q (some (.int 0)) n K S' G P → At 21 [.ref s, .int x1, x2, x3] [.int (-1)] n K S' G P 0 := by
    intro S' x1 x2 x3 hQ
    refine go [30, 34] 60 _ _ _ _ _ _ _ _ _ ?_
    exact a34n S' _ _ _ hQ
  refine go [15, 21] 60 _ _ _ _ _ _ _ _ _ ?_
  refine sv_go hs ?_
  refine m_oneA hs hS hp hle (fun S1 f1 g1 => ?_)
  have hS1 := TxC_fr (FrS_at (m := m) f1) hS
  have m1 : S1 s 5 = nI m := (f1 _ _ (by omega)).trans hm
  cases e1 : oneAt lxN t sz p with
  | none =>
    rw [e1] at g1
    exact a21n S1 _ _ _ (h0 p (by unfold tst; rw [e1]) S1 (FrS_at f1) g1 m1)
  | some i =>
    rw [e1] at g1
    replace g1 : S1 s 9 = nI (p + 1) := g1
    have hi : i < 6 ∧ p < sz := by
      unfold oneAt at e1
      split at e1
      · exact ⟨lxN_lt e1, by assumption⟩
      · cases e1
    have a15 : At 15 [.ref s, .int (nI i), .retAddr 0, .retAddr 0] [] n K S1 G P 0 := by
      refine go [21] 60 _ _ _ _ _ _ _ _ _ ?_
      refine sv_go hs ?_
      refine m_oneB hs hS1 g1 (by omega) (fun S2 f2 g2 => ?_)
      have F2 : FrS s m S S2 := (FrS_at f1).tr (Nat.le_refl _) (FrS_at f2)
      have hS2 := TxC_fr F2 hS
      have m2 : S2 s 5 = nI m := (f2 _ _ (by omega)).trans m1
      cases e2 : oneAt sgN t sz (p + 1) with
      | none =>
        rw [e2] at g2
        exact a21n S2 _ _ _ (h0 (p + 1) (by unfold tst; rw [e1, e2]) S2 F2 g2 m2)
      | some j =>
        rw [e2] at g2
        replace g2 : S2 s 9 = nI (p + 2) := g2
        have hj : j < 3 ∧ p + 1 < sz := by
          unfold oneAt at e2
          split at e2
          · exact ⟨sgN_lt e2, by assumption⟩
          · cases e2
        have a30 : At 30 [.ref s, .int (nI i), .int (nI j), .retAddr 0] [] n K S2 G P 0 := by
          refine go [34] 60 _ _ _ _ _ _ _ _ _ ?_
          refine sv_go hs ?_
          refine m_readNumber (D := D + 5) hs hS2 g2 (by omega) (fun v p' e3 S3 f3 g3 => ?_) (fun e3 => ?_)
          · have lt := num_lt e3
            have F3 : FrS s m S S3 := F2.tr (Nat.le_refl _) (FrS_at f3)
            have m3 : S3 s 5 = nI m := (f3 _ _ (by omega)).trans m2
            have ec : nI i * 300 + nI j * 100 + nI v = nI (300 * i + 100 * j + v) := by
              rw [show (300 : Int32) = nI 300 from rfl, show (100 : Int32) = nI 100 from rfl, Int32.mul_comm, Int32.mul_comm (nI j), pk_mul, pk_mul, nI_add, nI_add]
            have a42 : At 42 [.ref s, .int (nI i), .int (nI j), .int (nI v)] [] n K S3 G P 0 := by
              refine go [] 60 _ _ _ _ _ _ _ _ _ ?_
              refine sv_go hs ?_
              refine m_addStep (D := D + 5) (c := 300 * i + 100 * j + v + 3) (ec.trans stI0_3.symm) hs m3 (by omega) ?_
              refine h1 _ p' (by unfold tst; rw [e1]; dsimp only; rw [e2]; dsimp only; rw [e3]) _ (F3.tr (Nat.le_refl _) (fun b k q1 q2 => ?_)) ?_ ?_ ?_
              · rw [up2_o _ _ (by omega), up2_o _ _ (by omega)]
              · rw [up2_o _ _ (.inr (by decide)), up2_o _ _ (.inl (by omega))]; exact g3
              · rw [up2_s]
              · rw [up2_o _ _ (.inl (by omega)), up2_s]
            refine go [42] 60 _ _ _ _ _ _ _ _ _ ?_
            refine ite_f (by rw [eq_i, nI_toInt (by omega), t_m1]; omega) ?_
            exact a42
          · exact a34n S2 _ _ _ (h0 (p + 2) (by unfold tst; rw [e1]; dsimp only; rw [e2]; dsimp only; rw [e3]) S2 F2 g2 m2)
        refine go [30] 60 _ _ _ _ _ _ _ _ _ ?_
        refine ite_t (by show (0 : Int32) ≤ nI j; rw [le_i, nI_toInt (by omega), t_0]; omega) ?_
        exact a30
    refine ite_t (by show (0 : Int32) ≤ nI i; rw [le_i, nI_toInt (by omega), t_0]; omega) ?_
    exact a15
end A
end

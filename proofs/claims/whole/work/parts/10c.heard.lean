noncomputable section
section A
variable {l : Launch} {L : Nat} {xs : Nat → Int32} {D : Nat} {n : Nat} {K : Mk} {S : Mi} {G : Ml} {P : Mr} {Q : QT}
set_option maxRecDepth 20000
theorem m_heardWords {s o : Nat} {bg : Int32} {hf : (Nat → Int32) → Bool} {p q k v d : Int32} (hs : SD s) (ho : NA o) (hc : SC s S bg hf) (hv : ∀ w i, i < 6 → i ≠ 4 → S (o + 1) i = vls p q k v w d i) (h : ∀ S', (∀ b j, b ≠ s + 4 → S' b j = S b j) → Q (some (.int (bits4 (fun w => hf (vls p q k v (nI w) d))))) n K S' G P) : Ok l L xs T1 (D + 3) jX7_heardWords 0 [.ref s, .ref o] n K S G P Q := by
  refine I_X7_heardWords (by decide) (fun At go => ?_)
  obtain ⟨_, cn, wo, se, lk, sem, h10, hcn, hwo, hse, hcl, hhf⟩ := hc
  have hoo : o + 1 = 44 ∨ o + 1 = 56 ∨ o + 1 = 68 := by rcases ho with rfl | rfl | rfl <;> decide
  have hss : s + 4 = 88 ∨ s + 4 = 94 ∨ s + 4 = 100 ∨ s + 4 = 106 ∨ s + 4 = 112 ∨ s + 4 = 118 := by rcases hs with rfl | rfl | rfl | rfl | rfl | rfl <;> decide
  have loop3 : ∀ S', (∀ b j, b ≠ s + 4 → S' b j = S b j) → (∀ w, w < 4 → S' (s + 4) w = lou wo sem (vls p q k v (nI w) d) cn) → ∀ m j vj acc x4, j + m = 4 → vj = nI j → acc = bitsK (fun w => hf (vls p q k v (nI w) d)) j → At 91 [.ref s, .ref o, .int acc, .int vj, x4] [] n K S' G P 0 := by
    intro S' hS hL m
    induction m with
    | zero =>
      intro j vj acc x4 hj hv1 ha
      have e : j = 4 := by omega
      subst e
      subst hv1
      subst ha
      refine go [2, 22, 40, 73, 91, 113] 60 _ _ _ _ _ _ _ _ _ ?_
      exact h S' hS
    | succ m ih =>
      intro j vj acc x4 hj hv1 ha
      subst hv1
      have e := hL j (by omega)
      have e2 := hhf (vls p q k v (nI j) d)
      have nxt : ∀ y acc', acc' = acc ||| y → y = (if hf (vls p q k v (nI j) d) = true then (1 : Int32) <<< (nI j &&& 31) else 0) → At 113 [.ref s, .ref o, .int acc, .int (nI j), x4] [.int y, .int acc] n K S' G P 0 := by
        intro y acc' e3 e4
        refine go [2, 22, 40, 73, 91, 113] 60 _ _ _ _ _ _ _ _ _ ?_
        refine ih (j + 1) _ _ _ (by omega) (nI_1 j) ?_
        rw [ha, e4]
        rfl
      rcases hs with rfl | rfl | rfl | rfl | rfl | rfl <;> (
      refine go [2, 22, 40, 73, 91, 113] 60 _ _ _ _ _ _ _ _ _ ?_
      refine ite_f (by rw [le_i, t_4, nI_toInt (by omega)]; omega) ?_
      refine ite_t (ixB_nI (by omega) (by decide)) ?_
      refine ite_i (fun c => ?_) (fun c => ?_)
      · rw [nI_clamp (by omega), e, le_i, t_0] at c
        refine nxt _ _ rfl ?_
        rw [if_neg (by rw [e2, decide_eq_true_eq, lt_i, t_0]; omega)]
      · rw [nI_clamp (by omega), e, le_i, t_0] at c
        refine nxt _ _ rfl ?_
        rw [if_pos (by rw [e2, decide_eq_true_eq, lt_i, t_0]; omega)])
  have inner : ∀ (i words : _) (i10 : i < cn) (hw : words = bits4 (fun w => sem i (vls p q k v (nI w) d))), (∀ S', (∀ b j, b ≠ s + 4 → S' b j = S b j) → (∀ w, w < 4 → S' (s + 4) w = lou wo sem (vls p q k v (nI w) d) (i + 1)) → ∀ vi x3 x4, vi = nI (i + 1) → At 22 [.ref s, .ref o, .int vi, x3, x4] [] n K S' G P 0) → ∀ m j vj S', (∀ b j, b ≠ s + 4 → S' b j = S b j) → (∀ w, w < 4 → S' (s + 4) w = lou wo sem (vls p q k v (nI w) d) (if w < j then i + 1 else i)) → j + m = 4 → vj = nI j → At 40 [.ref s, .ref o, .int (nI i), .int words, .int vj] [] n K S' G P 0 := by
    intro i words i10 hw hk m
    induction m with
    | zero =>
      intro j vj S' hS hL hj hv1
      have e : j = 4 := by omega
      subst e
      subst hv1
      refine go [2, 22, 40, 73, 91, 113] 60 _ _ _ _ _ _ _ _ _ ?_
      refine hk S' hS (fun w hw0 => ?_) _ _ _ (nI_1 i)
      rw [hL w hw0, if_pos hw0]
    | succ m ih =>
      intro j vj S' hS hL hj hv1
      subst hv1
      have hwi := hwo i i10
      have eS : ∀ S'' (y : Int32), S'' = up2 S' (s + 4) j (lou wo sem (vls p q k v (nI j) d) i + y) → y = (if sem i (vls p q k v (nI j) d) = true then wo i else 0) → At 40 [.ref s, .ref o, .int (nI i), .int words, .int (nI j + 1)] [] n K S'' G P 0 := by
        intro S'' y e1 e2
        refine ih (j + 1) _ S'' (fun b j' hb => ?_) (fun w hw0 => ?_) (by omega) (nI_1 j)
        · rw [e1]
          unfold up2
          rw [if_neg hb]
          exact hS b j' hb
        · rw [e1]
          unfold up2
          rw [if_pos rfl]
          by_cases hwj : w = j
          · subst hwj
            rw [va_up_self, if_pos (by omega), e2]
            rfl
          · rw [va_up_ne _ _ hwj, hL w hw0]
            congr 1
            by_cases hlt : w < j
            · rw [if_pos hlt, if_pos (by omega)]
            · rw [if_neg hlt, if_neg (by omega)]
      have hcur := hL j (by omega)
      rw [if_neg (by omega)] at hcur
      have A73 : ∀ y cur : Int32, y = (if sem i (vls p q k v (nI j) d) = true then wo i else 0) → cur = lou wo sem (vls p q k v (nI j) d) i → At 73 [.ref s, .ref o, .int (nI i), .int words, .int (nI j)] [.int y, .int cur, .int (nI j), .ref (s + 4)] n K S' G P 0 := by
        intro y cur e2 e3
        subst e3
        rcases hs with rfl | rfl | rfl | rfl | rfl | rfl <;> (
        refine go [2, 22, 40, 73, 91, 113] 60 _ _ _ _ _ _ _ _ _ ?_
        refine ite_t (ixB_nI (by omega) (by decide)) ?_
        exact eS _ y (by rw [nI_clamp (by omega)]) e2)
      rcases hs with rfl | rfl | rfl | rfl | rfl | rfl <;> (
      refine go [2, 22, 40, 73, 91, 113] 60 _ _ _ _ _ _ _ _ _ ?_
      refine ite_f (by rw [le_i, t_4, nI_toInt (by omega)]; omega) ?_
      refine ite_t (ixB_nI (by omega) (by decide)) ?_
      refine m_hasBit (fun c => ?_) (fun c => ?_)
      · rw [hw, hb_bits4 _ (by omega)] at c
        refine ite_t (ixB_nI (by omega) (by decide)) ?_
        exact A73 _ _ (by rw [nI_clamp (by omega), hS _ _ (by decide), hwi, if_pos c]) (by rw [nI_clamp (by omega)]; exact hcur)
      · rw [hw, hb_bits4 _ (by omega)] at c
        exact A73 _ _ (by rw [if_neg c]) (by rw [nI_clamp (by omega)]; exact hcur))
  have loop2 : ∀ m i S' vi x3 x4, i + m = cn → vi = nI i → (∀ b j, b ≠ s + 4 → S' b j = S b j) → (∀ w, w < 4 → S' (s + 4) w = lou wo sem (vls p q k v (nI w) d) i) → At 22 [.ref s, .ref o, .int vi, x3, x4] [] n K S' G P 0 := by
    intro m
    induction m with
    | zero =>
      intro i S' vi x3 x4 hi hv1 hS hL
      subst hv1
      have e : i = cn := by omega
      subst e
      have fin := loop3 S' hS hL 4 0 0 0 x4 rfl rfl rfl
      have hn' : S' s 1 = nI i := by rw [hS s 1 (by omega)]; exact hcn
      rcases hs with rfl | rfl | rfl | rfl | rfl | rfl <;> (
      refine go [2, 22, 40, 73, 91, 113] 60 _ _ _ _ _ _ _ _ _ ?_
      refine ite_t (by rw [hn', le_i]; omega) ?_
      exact fin)
    | succ m ih =>
      intro i S' vi x3 x4 hi hv1 hS hL
      subst hv1
      have hn' : S' s 1 = nI cn := by rw [hS s 1 (by omega)]; exact hcn
      obtain ⟨g1, g2, g3, g4, g5, g6⟩ := hcl i (by omega)
      have hprev : i ≠ 0 → S' (s + 2) (i - 1) = nI (se i) := fun h0 => by
        rw [hS _ _ (by omega)]
        have := (hcl (i - 1) (by omega)).1
        rw [show i - 1 + 1 = i by omega] at this
        exact this
      have fin : ∀ words, words = bits4 (fun w => sem i (vls p q k v (nI w) d)) → At 40 [.ref s, .ref o, .int (nI i), .int words, .int 0] [] n K S' G P 0 := fun words hw =>
        inner i words (by omega) hw (fun S'' h1 h2 vi x3 x4 e0 => ih (i + 1) S'' _ x3 x4 (by omega) e0 h1 h2) 4 0 0 S' hS (fun w hw0 => by rw [if_neg (by omega)]; exact hL w hw0) rfl rfl
      have call : ∀ Q', Q' (some (.int (bits4 (fun w => sem i (vls p q k v (nI w) d))))) n K S' G P → Ok l L xs T1 (D + 2) jX7_wordsHolding 0 [.ref s, .int (nI i), .ref o] n K S' G P Q' := fun Q' hQ =>
        m_wordsHolding (b := se i) (e := se (i + 1)) (lk := lk i) (f := fun w => sem i (vls p q k v (nI w) d)) (p := p) (q := q) (k := k) (v := v) (d := d) hs ho (by omega) (fun h0 => by rw [h0]; exact hse) hprev (by rw [hS _ _ (by omega)]; exact g1) g2 g3 (fun j hj => by rw [hS _ _ (by omega)]; exact g4 j hj) g5 (fun w j hj h4 => by rw [hS _ _ (by omega)]; exact hv w j hj h4) (by
          rcases g6 with ⟨e1, e2⟩ | e1
          · exact .inl ⟨e1, fun w _ => e2 _⟩
          · exact .inr (fun w _ => e1 _)) hQ
      rcases hs with rfl | rfl | rfl | rfl | rfl | rfl <;> (
      refine go [2, 22, 40, 73, 91, 113] 60 _ _ _ _ _ _ _ _ _ ?_
      refine ite_f (by rw [hn', le_i, nI_toInt (by omega), nI_toInt (by omega)]; omega) ?_
      refine call _ ?_
      exact fin _ rfl)
  have loop1 : ∀ m j vj S' x3 x4, j + m = 4 → vj = nI j → (∀ b j, b ≠ s + 4 → S' b j = S b j) → (∀ w, w < j → S' (s + 4) w = 1) → At 2 [.ref s, .ref o, .int vj, x3, x4] [] n K S' G P 0 := by
    intro m
    induction m with
    | zero =>
      intro j vj S' x3 x4 hj hv1 hS hL
      have e : j = 4 := by omega
      subst e
      subst hv1
      refine go [2, 22, 40, 73, 91, 113] 60 _ _ _ _ _ _ _ _ _ ?_
      exact loop2 cn 0 S' 0 _ _ (by omega) rfl hS (fun w hw0 => hL w hw0)
    | succ m ih =>
      intro j vj S' x3 x4 hj hv1 hS hL
      subst hv1
      have eS : ∀ S'', S'' = up2 S' (s + 4) j 1 → At 2 [.ref s, .ref o, .int (nI j + 1), x3, x4] [] n K S'' G P 0 := by
        intro S'' e1
        refine ih (j + 1) _ S'' _ _ (by omega) (nI_1 j) (fun b j' hb => ?_) (fun w hw0 => ?_)
        · rw [e1]
          unfold up2
          rw [if_neg hb]
          exact hS b j' hb
        · rw [e1]
          unfold up2
          rw [if_pos rfl]
          by_cases hwj : w = j
          · subst hwj
            rw [va_up_self]
          · rw [va_up_ne _ _ hwj, hL w (by omega)]
      rcases hs with rfl | rfl | rfl | rfl | rfl | rfl <;> (
      refine go [2, 22, 40, 73, 91, 113] 60 _ _ _ _ _ _ _ _ _ ?_
      refine ite_f (by rw [le_i, t_4, nI_toInt (by omega)]; omega) ?_
      refine ite_t (ixB_nI (by omega) (by decide)) ?_
      exact eS _ (by rw [nI_clamp (by omega)]))
  refine go [2, 22, 40, 73, 91, 113] 60 _ _ _ _ _ _ _ _ _ ?_
  exact loop1 4 0 0 S _ _ rfl rfl (fun b j _ => rfl) (fun w hw => absurd hw (Nat.not_lt_zero w))
end A
end

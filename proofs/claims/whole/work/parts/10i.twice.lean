noncomputable section
/-! TWICE, on both sides. -/
def twC (t : Int32) (cn : Int32 → Int32 → Nat → Nat → Bool) (us la : Int32) (dy n : Nat) : Prop := if t = 1 then ∃ w, w < 4 ∧ cn us la (dy + n) w = true else ∃ k w, k < n ∧ w < 4 ∧ cn us la (dy + k) w = true ∧ ∃ w', w' < 4 ∧ cn (us ||| ((1 : Int32) <<< (nI w &&& 31))) (nI (dy + k)) (dy + n) w' = true
def fstN (C : Nat → Prop) : Nat → Nat → Int32
  | 0, _ => -5
  | m + 1, j => @ite _ (C j) (Classical.propDecidable _) (nI j) (fstN C m (j + 1))
theorem fstN_t {C : Nat → Prop} {m j : Nat} (h : C j) : fstN C (m + 1) j = nI j := if_pos h
theorem fstN_f {C : Nat → Prop} {m j : Nat} (h : ¬ C j) : fstN C (m + 1) j = fstN C m (j + 1) := if_neg h
def twV (t : Int32) (cn : Int32 → Int32 → Nat → Nat → Bool) (us la : Int32) (dy : Nat) : Int32 := if t = 2 then 0 else fstN (twC t cn us la dy) 31 0
theorem b4_z : ∀ a b c d : Bool, b4 a b c d = 0 ↔ a = false ∧ b = false ∧ c = false ∧ d = false := by decide +kernel
theorem bits4_z (f : Nat → Bool) : bits4 f = 0 ↔ ∀ w, w < 4 → f w = false := by
  rw [bits4_b4, b4_z]
  constructor
  · intro h w hw
    match w, hw with
    | 0, _ => exact h.1
    | 1, _ => exact h.2.1
    | 2, _ => exact h.2.2.1
    | 3, _ => exact h.2.2.2
  · intro h
    exact ⟨h 0 (by decide), h 1 (by decide), h 2 (by decide), h 3 (by decide)⟩
theorem bits4_nz (f : Nat → Bool) (h : ¬ bits4 f = 0) : ∃ w, w < 4 ∧ f w = true := by
  refine Classical.byContradiction (fun g => h ((bits4_z f).mpr (fun w hw => ?_)))
  cases e : f w with
  | false => rfl
  | true => exact absurd ⟨w, hw, e⟩ g
theorem b4_or : ∀ a b c d a' b' c' d' : Bool, b4 a b c d ||| b4 a' b' c' d' = b4 (a || a') (b || b') (c || c') (d || d') := by decide +kernel
theorem bits4_or (f g : Nat → Bool) : bits4 f ||| bits4 g = bits4 (fun w => f w || g w) := by
  rw [bits4_b4, bits4_b4, bits4_b4, b4_or]
def MPq (S : Mi) (bg : Int32) (hf : (Nat → Int32) → Bool) (p q : Nat) (kd v : Int32) (rw : Nat → Int32) (dy : Nat) (t us la : Int32) : Prop := MP S bg hf p kd v rw ∧ S 120 8 = nI dy ∧ S 125 (6 * p + q) = t ∧ S 126 (6 * p + q) = us ∧ S 127 (6 * p + q) = la
theorem MPq_fm {S S' : Mi} {bg : Int32} {hf : (Nat → Int32) → Bool} {p q : Nat} {kd v : Int32} {rw : Nat → Int32} {dy : Nat} {t us la : Int32} (h : Fm S S') (hs : MPq S bg hf p q kd v rw dy t us la) : MPq S' bg hf p q kd v rw dy t us la := by
  obtain ⟨h1, h2, h3, h4, h5⟩ := hs
  exact ⟨MP_fm h h1, (h _ _ (by decide)).trans h2, (h _ _ (by decide)).trans h3, (h _ _ (by decide)).trans h4, (h _ _ (by decide)).trans h5⟩
section A
variable {l : Launch} {L : Nat} {xs : Nat → Int32} {D : Nat} {n : Nat} {K : Mk} {S : Mi} {G : Ml} {P : Mr} {Q : QT} {bg : Int32} {hf : (Nat → Int32) → Bool} {p q : Nat} {kd v : Int32} {rw : Nat → Int32} {dy : Nat} {t us la : Int32}
set_option maxRecDepth 20000
theorem mm_dcz2 {y1 y2 d d' us us' la la' : Int32} (h1 : d = d') (h2 : us = us') (h3 : la = la') (h : Ok l L xs T1 D jX12_any 0 [.ref 120, .int y1, .int y2, .int d', .int us', .int la'] n K S G P Q) : Ok l L xs T1 D jX12_any 0 [.ref 120, .int y1, .int y2, .int d, .int us, .int la] n K S G P Q := by
  subst h1 h2 h3
  exact h
theorem mm_isTwo {m : Nat} (hp : p < 6) (hq : q < 6) (hd : dy ≤ 10100) (hm : m < 31) (hh : MPq S bg hf p q kd v rw dy t us la) (h1 : ∀ S', Fm S S' → (∃ k w, k < m ∧ w < 4 ∧ cnt bg hf (nI p) (nI q) kd v rw us la (dy + k) w = true ∧ ∃ w', w' < 4 ∧ cnt bg hf (nI p) (nI q) kd v rw (us ||| ((1 : Int32) <<< (nI w &&& 31))) (nI (dy + k)) (dy + m) w' = true) → Q (some (.int 1)) n K S' G P) (h0 : ∀ S', Fm S S' → (¬ ∃ k w, k < m ∧ w < 4 ∧ cnt bg hf (nI p) (nI q) kd v rw us la (dy + k) w = true ∧ ∃ w', w' < 4 ∧ cnt bg hf (nI p) (nI q) kd v rw (us ||| ((1 : Int32) <<< (nI w &&& 31))) (nI (dy + k)) (dy + m) w' = true) → Q (some (.int 0)) n K S' G P) : Ok l L xs T1 (D + 6) jX12_isTwo 0 [.ref 120, .int (nI p), .int (nI q), .int (nI m)] n K S G P Q := by
  refine I_X12_isTwo (by decide) (fun At go => ?_)
  have xi := @ix6m p q
  have inner : ∀ k, k < m → (∀ S', Fm S S' → (∀ w, w < 4 → cnt bg hf (nI p) (nI q) kd v rw us la (dy + k) w = true → ¬ ∃ w', w' < 4 ∧ cnt bg hf (nI p) (nI q) kd v rw (us ||| ((1 : Int32) <<< (nI w &&& 31))) (nI (dy + k)) (dy + m) w' = true) → ∀ vj, At 100 [.ref 120, .int (nI p), .int (nI q), .int (nI m), .int (nI (6 * p + q)), .int (nI k), vj] [] n K S' G P 0) → ∀ r j vj S', j + r = 4 → vj = nI j → Fm S S' → (∀ w, w < j → cnt bg hf (nI p) (nI q) kd v rw us la (dy + k) w = true → ¬ ∃ w', w' < 4 ∧ cnt bg hf (nI p) (nI q) kd v rw (us ||| ((1 : Int32) <<< (nI w &&& 31))) (nI (dy + k)) (dy + m) w' = true) → At 20 [.ref 120, .int (nI p), .int (nI q), .int (nI m), .int (nI (6 * p + q)), .int (nI k), .int vj] [] n K S' G P 0 := by
    intro k hk hdone r
    induction r with
    | zero =>
      intro j vj S' hj hv1 hS ha
      have e : j = 4 := by omega
      subst e
      subst hv1
      refine go [11, 20, 94, 100] 60 _ _ _ _ _ _ _ _ _ ?_
      exact hdone S' hS ha _
    | succ r ih =>
      intro j vj S' hj hv1 hS ha
      subst hv1
      obtain ⟨m1, m2, m3, m4, m5⟩ := MPq_fm hS hh
      have x1 : ixB (nI (6 * p + q)) 36 = true := ixB_nI (by omega) (by decide)
      have nxt : ∀ S'', Fm S S'' → (cnt bg hf (nI p) (nI q) kd v rw us la (dy + k) j = true → ¬ ∃ w', w' < 4 ∧ cnt bg hf (nI p) (nI q) kd v rw (us ||| ((1 : Int32) <<< (nI j &&& 31))) (nI (dy + k)) (dy + m) w' = true) → At 94 [.ref 120, .int (nI p), .int (nI q), .int (nI m), .int (nI (6 * p + q)), .int (nI k), .int (nI j)] [] n K S'' G P 0 := by
        intro S'' hS2 hc
        refine go [11, 20, 94, 100] 60 _ _ _ _ _ _ _ _ _ ?_
        refine ih (j + 1) _ _ (by omega) (nI_1 j) hS2 (fun w hw => ?_)
        rcases Nat.lt_or_ge w j with g | g
        · exact ha w g
        · have e : w = j := by omega
          subst e
          exact hc
      have e8 : S' 120 8 + nI k = nI (dy + k) := by rw [m2, nI_add]
      have eu : S' 126 (nI (6 * p + q)).toNatClampNeg = us := by rw [nI_clamp (by omega)]; exact m4
      have el : S' 127 (nI (6 * p + q)).toNatClampNeg = la := by rw [nI_clamp (by omega)]; exact m5
      refine go [11, 20, 94, 100] 60 _ _ _ _ _ _ _ _ _ ?_
      refine ite_f (by rw [le_i, t_4, nI_toInt (by omega)]; omega) ?_
      refine ite_t x1 ?_
      refine ite_t x1 ?_
      refine mm_dcz e8 eu el ?_
      refine mm_doesCount (q := nI q) (us := us) (la := la) hp (by omega) (by omega) m1 (fun S2 hS2 => ?_)
      refine ite_i (fun c => ?_) (fun c => ?_)
      · exact nxt _ (hS.tr hS2) (fun g => by rw [b2i_0 c] at g; cases g)
      · obtain ⟨k1, k2, k3, k4, k5⟩ := MPq_fm (hS.tr hS2) hh
        have e8' : S2 120 8 + nI m = nI (dy + m) := by rw [k2, nI_add]
        have e8k : S2 120 8 + nI k = nI (dy + k) := by rw [k2, nI_add]
        have eu' : S2 126 (nI (6 * p + q)).toNatClampNeg ||| ((1 : Int32) <<< (nI j &&& 31)) = us ||| ((1 : Int32) <<< (nI j &&& 31)) := by rw [nI_clamp (by omega), k4]
        refine ite_t x1 ?_
        refine mm_dcz2 e8' eu' e8k ?_
        refine mm_any (q := nI q) hp (by omega) k1 (fun S3 hS3 g => ?_) (fun S3 hS3 g => ?_)
        · exact h1 _ ((hS.tr hS2).tr hS3) ⟨k, j, hk, by omega, b2i_n c, g⟩
        · refine nxt _ ((hS.tr hS2).tr hS3) (fun _ ⟨w', g1, g2⟩ => ?_)
          rw [g w' g1] at g2
          cases g2
  have loop : ∀ r k vk S' vj, k + r = m → vk = nI k → Fm S S' → (∀ k' w, k' < k → w < 4 → cnt bg hf (nI p) (nI q) kd v rw us la (dy + k') w = true → ¬ ∃ w', w' < 4 ∧ cnt bg hf (nI p) (nI q) kd v rw (us ||| ((1 : Int32) <<< (nI w &&& 31))) (nI (dy + k')) (dy + m) w' = true) → At 11 [.ref 120, .int (nI p), .int (nI q), .int (nI m), .int (nI (6 * p + q)), .int vk, vj] [] n K S' G P 0 := by
    intro r
    induction r with
    | zero =>
      intro k vk S' vj hk hv1 hS ha
      have e : k = m := by omega
      subst e
      subst hv1
      refine go [11, 20, 94, 100] 60 _ _ _ _ _ _ _ _ _ ?_
      refine ite_t (by rw [le_i]; omega) ?_
      exact h0 S' hS (fun ⟨k', w, g1, g2, g3, g4⟩ => ha k' w g1 g2 g3 g4)
    | succ r ih =>
      intro k vk S' vj hk hv1 hS ha
      subst hv1
      have fin : At 20 [.ref 120, .int (nI p), .int (nI q), .int (nI m), .int (nI (6 * p + q)), .int (nI k), .int 0] [] n K S' G P 0 := by
        refine inner k (by omega) (fun S2 hS2 g vj => ?_) 4 0 _ _ rfl rfl hS (fun w hw => absurd hw (Nat.not_lt_zero w))
        refine go [11, 20, 94, 100] 60 _ _ _ _ _ _ _ _ _ ?_
        refine ih (k + 1) _ _ _ (by omega) (nI_1 k) hS2 (fun k' w g1 g2 => ?_)
        rcases Nat.lt_or_ge k' k with z | z
        · exact ha k' w z g2
        · have e : k' = k := by omega
          subst e
          exact g w g2
      refine go [11, 20, 94, 100] 60 _ _ _ _ _ _ _ _ _ ?_
      refine ite_f (by rw [le_i, nI_toInt (by omega), nI_toInt (by omega)]; omega) ?_
      exact fin
  have start := loop m 0 0 S (.retAddr 0) (by omega) rfl (Fm.rf S) (fun k' w g => absurd g (Nat.not_lt_zero k'))
  rw [← xi] at start
  refine go [11, 20, 94, 100] 60 _ _ _ _ _ _ _ _ _ ?_
  exact start
theorem mm_twice (hp : p < 6) (hq : q < 6) (hd : dy ≤ 10100) (hh : MPq S bg hf p q kd v rw dy t us la) (h : ∀ S', Fm S S' → Q (some (.int (twV t (fun us la d w => cnt bg hf (nI p) (nI q) kd v rw us la d w) us la dy))) n K S' G P) : Ok l L xs T1 (D + 7) jX12_twice 0 [.ref 120, .int (nI p), .int (nI q)] n K S G P Q := by
  refine I_X12_twice (by decide) (fun At go => ?_)
  have xi := @ix6m p q
  have x1 : ixB (6 * nI p + nI q) 36 = true := by rw [xi]; exact ixB_nI (by omega) (by decide)
  have et : S 125 (6 * nI p + nI q).toNatClampNeg = t := by rw [xi, nI_clamp (by omega)]; exact hh.2.2.1
  by_cases ht : t = 2
  · have hQ := h S (Fm.rf S)
    unfold twV at hQ
    rw [if_pos ht] at hQ
    refine go [22] 60 _ _ _ _ _ _ _ _ _ ?_
    refine ite_t x1 ?_
    refine ite_t (et.trans ht) ?_
    exact hQ
  · unfold twV at h
    rw [if_neg ht] at h
    have loop : ∀ r k vk S', k + r = 31 → vk = nI k → Fm S S' → (∀ S', Fm S S' → Q (some (.int (fstN (twC t (fun us la d w => cnt bg hf (nI p) (nI q) kd v rw us la d w) us la dy) r k))) n K S' G P) → At 22 [.ref 120, .int (nI p), .int (nI q), .int (6 * nI p + nI q), .int vk] [] n K S' G P 0 := by
      intro r
      induction r with
      | zero =>
        intro k vk S' hk hv1 hS hQ
        have e : k = 31 := by omega
        subst e
        subst hv1
        refine go [22, 81, 84] 60 _ _ _ _ _ _ _ _ _ ?_
        exact hQ S' hS
      | succ r ih =>
        intro k vk S' hk hv1 hS hQ
        subst hv1
        obtain ⟨m1, m2, m3, m4, m5⟩ := MPq_fm hS hh
        have et : S' 125 (6 * nI p + nI q).toNatClampNeg = t := by rw [xi, nI_clamp (by omega)]; exact m3
        have eu : S' 126 (6 * nI p + nI q).toNatClampNeg = us := by rw [xi, nI_clamp (by omega)]; exact m4
        have el : S' 127 (6 * nI p + nI q).toNatClampNeg = la := by rw [xi, nI_clamp (by omega)]; exact m5
        have e8 : S' 120 8 + nI k = nI (dy + k) := by rw [m2, nI_add]
        have a81 : ∀ S2, Fm S S2 → twC t (fun us la d w => cnt bg hf (nI p) (nI q) kd v rw us la d w) us la dy k → At 81 [.ref 120, .int (nI p), .int (nI q), .int (6 * nI p + nI q), .int (nI k)] [] n K S2 G P 0 := by
          intro S2 hS2 hC
          have := hQ S2 hS2
          rw [fstN_t hC] at this
          refine go [22] 60 _ _ _ _ _ _ _ _ _ ?_
          exact this
        have a84 : ∀ S2, Fm S S2 → ¬ twC t (fun us la d w => cnt bg hf (nI p) (nI q) kd v rw us la d w) us la dy k → At 84 [.ref 120, .int (nI p), .int (nI q), .int (6 * nI p + nI q), .int (nI k)] [] n K S2 G P 0 := by
          intro S2 hS2 hC
          refine go [22, 81, 84] 60 _ _ _ _ _ _ _ _ _ ?_
          refine ih (k + 1) _ _ (by omega) (nI_1 k) hS2 (fun S3 hS3 => ?_)
          have := hQ S3 hS3
          rw [fstN_f hC] at this
          exact this
        refine go [22, 81, 84] 60 _ _ _ _ _ _ _ _ _ ?_
        refine ite_f (by rw [le_i, nI_toInt (by omega)]; have : (31 : Int32).toInt = 31 := rfl; omega) ?_
        refine ite_t x1 ?_
        refine ite_i (fun c => ?_) (fun c => ?_)
        · rw [et] at c
          refine ite_t x1 ?_
          refine ite_t x1 ?_
          refine mm_dcz2 e8 eu el ?_
          refine mm_any (q := nI q) hp (by omega) m1 (fun S3 hS3 g => ?_) (fun S3 hS3 g => ?_)
          · exact a81 _ (hS.tr hS3) (by unfold twC; rw [if_pos c]; exact g)
          · refine a84 _ (hS.tr hS3) (by unfold twC; rw [if_pos c]; exact fun ⟨w', g1, g2⟩ => absurd ((g w' g1).symm.trans g2) (by decide))
        · rw [et] at c
          refine mm_isTwo hp hq hd (by omega) (MPq_fm hS hh) (fun S3 hS3 g => ?_) (fun S3 hS3 g => ?_)
          · exact a81 _ (hS.tr hS3) (by unfold twC; rw [if_neg c]; exact g)
          · exact a84 _ (hS.tr hS3) (by unfold twC; rw [if_neg c]; exact g)
    refine go [22] 60 _ _ _ _ _ _ _ _ _ ?_
    refine ite_t x1 ?_
    refine ite_f (fun e => ht (et.symm.trans e)) ?_
    exact loop 31 0 _ S rfl rfl (Fm.rf S) h
end A
end

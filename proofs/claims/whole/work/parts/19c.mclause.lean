noncomputable section
/-! A CLAUSE, of the model. -/
def FrX (i m : Nat) (S S' : Mi) : Prop := ∀ b j, ¬ (b = 120 ∧ (j = 11 ∨ j = 12 ∨ j = 13 ∨ j = 14 ∨ j = 23)) → ¬ (b = 134 ∧ m ≤ j) → ¬ (130 ≤ b ∧ b ≤ 133 ∧ j = i) → S' b j = S b j
theorem nI_sub' {a b : Nat} : nI (a + b) - nI a = nI b := by rw [← nI_add, Int32.add_comm, Int32.add_sub_cancel]
section B
variable {l : Launch} {L : Nat} {xs : Nat → Int32} {D : Nat} {n : Nat} {K : Mk} {S : Mi} {G : Ml} {P : Mr} {Q : QT} {p sz i m : Nat} {t : Nat → Nat} {vi : Int32}
set_option maxRecDepth 20000
theorem mm_isE0 (hS : TxM S t sz) (hp : S 120 11 = nI p) (hle : p ≤ sz) (hm : S 120 23 = nI m) (hm8 : m + (sz - p) < 800) (ho : S 120 14 = 0) (h : ∀ S', MR m S (pE (psr t sz 101) 0 p) S' → Q (some (.int (b2i (pE (psr t sz 101) 0 p).1))) n K S' G P) : Ok l L xs T1 (D + 313) jX12_isE 0 [.ref 120] n K S G P Q := by
  have := hS.1
  exact (mm_reads 101).2.2 D 0 p m S Q (by decide) hS hp hle hm hm8 ho (by omega) h
theorem mm_isClause (ev : vi = nI i) (hi : i < 61) (hS : TxM S t sz) (hp : S 120 11 = nI p) (hle : p ≤ sz) (hm : S 120 23 = nI m) (hm8 : m + (sz - p) < 800)
    (h1 : ∀ w v lc lm q, clP t sz p = (some (w, v, lc, lm), q) → ∀ S', FrX i m S S' → S' 120 11 = nI q → S' 120 23 = nI (m + lm.length) → S' 130 i = nI w → S' 131 i = nI v → S' 132 i = nI m → S' 133 i = nI lm.length → (∀ j, j < lm.length → S' 134 (m + j) = nI (lm.getD j 0)) → Q (some (.int 1)) n K S' G P)
    (h0 : ∀ q, clP t sz p = (none, q) → ∀ S', FrX i m S S' → S' 120 11 = nI q → Q (some (.int 0)) n K S' G P) : Ok l L xs T1 (D + 314) jX12_isClause 0 [.ref 120, .int vi] n K S G P Q := by
  refine I_X12_isClause (by decide) (fun At go => ?_)
  have hS' := hS
  obtain ⟨s1, s2, s3⟩ := hS'
  have ei : vi.toNatClampNeg = i := by rw [ev, nI_clamp (by omega)]
  have xi : ixB vi 61 = true := by rw [ev]; exact ixB_nI hi (by decide)
  have fin : ∀ S4 w v lc lm q, clP t sz p = (some (w, v, lc, lm), q) → FrX i m S S4 → S4 120 11 = nI q → S4 120 23 = nI (m + lm.length) → S4 130 i = nI w → S4 131 i = nI v → S4 132 i = nI m → (∀ j, j < lm.length → S4 134 (m + j) = nI (lm.getD j 0)) → At 184 [.ref 120, .int vi, .int (nI w), .int 1] [] n K S4 G P 0 := by
    intro S4 w v lc lm q e f g11 g23 g0 g1 g2 gj
    have hQ := h1 w v lc lm q e (up2 S4 133 i (S4 120 23 - S4 132 i)) (fun b j k1 k2 k3 => by rw [up2_o _ _ (by omega)]; exact f b j k1 k2 k3)
      (by rw [up2_o _ _ (by omega)]; exact g11) (by rw [up2_o _ _ (by omega)]; exact g23) (by rw [up2_o _ _ (by omega)]; exact g0) (by rw [up2_o _ _ (by omega)]; exact g1) (by rw [up2_o _ _ (by omega)]; exact g2)
      (by rw [up2_s, g23, g2]; exact nI_sub') (fun j hj => by rw [up2_o _ _ (by omega)]; exact gj j hj)
    rw [← ei] at hQ
    refine go [] 60 _ _ _ _ _ _ _ _ _ ?_
    refine ite_t xi ?_
    refine ite_t xi ?_
    exact hQ
  have a182 : ∀ S2 x1 x2 x3, Q (some (.int 0)) n K S2 G P → At 182 [.ref 120, x1, x2, x3] [] n K S2 G P 0 := by
    intro S2 x1 x2 x3 hQ
    refine go [] 60 _ _ _ _ _ _ _ _ _ ?_
    exact hQ
  have a129 : ∀ S2 w v q q2, wdP t sz p = (some w, q) → w < 3 → num t sz q = some (v, q2) → p ≤ q2 → q2 ≤ sz → FrV S S2 → S2 120 11 = nI q2 → S2 120 12 = nI v → At 129 [.ref 120, .int vi, .int (nI w), .int 1] [] n K S2 G P 0 := by
    intro S2 w v q q2 hw w3 hn hp2 hq2 f g11 g12
    have g23 : S2 120 23 = nI m := (f _ _ (by omega)).trans hm
    have key : ∀ S3, S3 = up2 (up2 (up2 (up2 S2 130 i (nI w)) 131 i (S2 120 12)) 132 i (S2 120 23)) 120 14 0 → FrX i m S S3 ∧ S3 120 11 = nI q2 ∧ S3 120 23 = nI m ∧ S3 130 i = nI w ∧ S3 131 i = nI v ∧ S3 132 i = nI m ∧ S3 120 14 = 0 := by
      intro S3 e
      subst e
      refine ⟨fun b j k1 k2 k3 => ?_, ?_, ?_, ?_, ?_, ?_, up2_s _ _ _ _⟩
      · rw [up2_o _ _ (by omega), up2_o _ _ (by omega), up2_o _ _ (by omega), up2_o _ _ (by omega)]
        exact f b j (by omega)
      · rw [up2_o _ _ (by omega), up2_o _ _ (by omega), up2_o _ _ (by omega), up2_o _ _ (by omega)]
        exact g11
      · rw [up2_o _ _ (by omega), up2_o _ _ (by omega), up2_o _ _ (by omega), up2_o _ _ (by omega)]
        exact g23
      · rw [up2_o _ _ (by omega), up2_o _ _ (by omega), up2_o _ _ (by omega), up2_s]
      · rw [up2_o _ _ (by omega), up2_o _ _ (by omega), up2_s]
        exact g12
      · rw [up2_o _ _ (by omega), up2_s]
        exact g23
    have F : ∀ S3, S3 = up2 (up2 (up2 (up2 S2 130 i (nI w)) 131 i (S2 120 12)) 132 i (S2 120 23)) 120 14 0 → w = 2 → At 184 [.ref 120, .int vi, .int (nI w), .int 1] [] n K S3 G P 0 := by
      intro S3 e w2
      obtain ⟨k1, k2, k3, k4, k5, k6, k7⟩ := key S3 e
      subst w2
      exact fin S3 2 v [] [] q2 (clP_b hw hn) k1 k2 k3 k4 k5 k6 (fun j hj => absurd hj (Nat.not_lt_zero _))
    have O : ∀ S3, S3 = up2 (up2 (up2 (up2 S2 130 i (nI w)) 131 i (S2 120 12)) 132 i (S2 120 23)) 120 14 0 → w ≠ 2 → At 166 [.ref 120, .int vi, .int (nI w), .int 1] [] n K S3 G P 0 := by
      intro S3 e w2
      obtain ⟨k1, k2, k3, k4, k5, k6, k7⟩ := key S3 e
      clear e
      have hS3 : TxM S3 t sz := ⟨s1, (k1 _ _ (by omega) (by omega) (by omega)).trans s2, fun z hz => ⟨(s3 z hz).1, (k1 _ _ (by omega) (by omega) (by omega)).trans (s3 z hz).2⟩⟩
      refine go [182, 184] 60 _ _ _ _ _ _ _ _ _ ?_
      refine mm_is (c := 32) rfl hS3 k2 hq2 (by decide) (fun z1 z2 => ?_) (fun z3 => ?_)
      · have ic : isC t sz 32 q2 = true := isC_i.mpr ⟨z1, z2⟩
        refine mm_isE0 (p := q2 + 1) (m := m) (TxM_fr (m := m) (fun b j y1 _ => up2_o _ _ (by omega)) hS3) (up2_s _ _ _ _) z1 ((up2_o _ _ (.inr (by decide))).trans k3) (by omega) ((up2_o _ _ (.inr (by decide))).trans k7) (fun S4 hC => ?_)
        have hC' := MR_at hC
        have fr : FrX i m S S4 := fun b j y1 y2 y3 => (hC'.1 b j (by omega) y2).trans (k1 b j y1 y2 y3)
        cases hb : (pE (psr t sz 101) 0 (q2 + 1)).1 with
        | false => exact a182 S4 _ _ _ (h0 _ (clP_e hw hn w2 ic hb) S4 fr hC.2.1)
        | true => exact fin S4 w v _ _ _ (clP_t hw hn w2 ic hb) fr hC.2.1 hC.2.2.2.1 ((hC'.1 _ _ (by omega) (by omega)).trans k4) ((hC'.1 _ _ (by omega) (by omega)).trans k5) ((hC'.1 _ _ (by omega) (by omega)).trans k6) hC.2.2.2.2
      · exact a182 S3 _ _ _ (h0 _ (clP_s hw hn w2 (fun k => z3 (isC_i.mp k))) S3 k1 k2)
    have F' := F _ rfl
    have O' := O _ rfl
    rw [← ei] at F' O'
    refine go [166, 184] 60 _ _ _ _ _ _ _ _ _ ?_
    refine ite_t xi ?_
    refine ite_t xi ?_
    refine ite_t xi ?_
    refine ite_i (fun z => ?_) (fun z => ?_)
    · rw [le_i, nI_toInt (by omega), t_2] at z
      exact F' (by omega)
    · rw [le_i, nI_toInt (by omega), t_2] at z
      exact O' (by omega)
  have a127 : ∀ S2 x1 x2 x3, Q (some (.int 0)) n K S2 G P → At 127 [.ref 120, x1, x2, x3] [] n K S2 G P 0 := by
    intro S2 x1 x2 x3 hQ
    refine go [] 60 _ _ _ _ _ _ _ _ _ ?_
    exact hQ
  have a115f : ∀ S1 (x2 : Int32) q, wdP t sz p = (none, q) → FrP1 S S1 → S1 120 11 = nI q → At 115 [.ref 120, .int vi, .int x2, .retAddr 0] [.int 0] n K S1 G P 0 := by
    intro S1 x2 q hw f g
    refine go [127] 60 _ _ _ _ _ _ _ _ _ ?_
    exact a127 S1 _ _ _ (h0 q (clP_w hw) S1 (fun b j y1 _ _ => f b j (by omega)) g)
  have a115t : ∀ S1 (x2 : Int32) w q, x2 = nI w → wdP t sz p = (some w, q) → FrP1 S S1 → S1 120 11 = nI q → At 115 [.ref 120, .int vi, .int x2, .retAddr 0] [.int 1] n K S1 G P 0 := by
    intro S1 x2 w q ex hw f g
    subst ex
    obtain ⟨w3, wl, wq⟩ := wdP_lt hle hw
    have hS1 : TxM S1 t sz := TxM_fr (m := 0) (fun b j y1 _ => f b j (by omega)) hS
    refine go [127, 129] 60 _ _ _ _ _ _ _ _ _ ?_
    refine mm_isNumber hS1 g wq (fun v q2 hn S2 f2 g2 g12 => ?_) (fun hn S2 f2 g2 => ?_)
    · have nl := num_lt hn
      exact a129 S2 w v q q2 hw w3 hn (by omega) nl.2.2.1 (fun b j hb => (f2 b j hb).trans (f b j (by omega))) g2 g12
    · exact a127 S2 _ _ _ (h0 q (clP_n hw hn) S2 (fun b j y1 _ _ => (f2 b j (by omega)).trans (f b j (by omega))) g2)
  have a69n : ¬ isC t sz 108 p = true → ¬ isC t sz 100 p = true → ¬ isC t sz 98 p = true → At 69 [.ref 120, .int vi, .int (-1), .retAddr 0] [] n K S G P 0 := by
    intro c1 c2 c3
    refine go [115] 60 _ _ _ _ _ _ _ _ _ ?_
    exact a115f S _ p (by unfold wdP; rw [if_neg c1, if_neg c2, if_neg c3]) (fun _ _ _ => rfl) hp
  have a69_0 : isC t sz 108 p = true → At 69 [.ref 120, .int vi, .int 0, .retAddr 0] [] n K S G P 0 := by
    intro c1
    have ew : wdP t sz p = ((if (mW t sz (wdL 5) p).1 = true then some 0 else none), (mW t sz (wdL 5) p).2) := by unfold wdP; rw [if_pos c1]
    refine go [115] 60 _ _ _ _ _ _ _ _ _ ?_
    refine mm_isAll (a := 5) hS hp hle (by decide) (by decide) (by decide) (fun S1 f g => ?_)
    cases hb : (mW t sz (wdL 5) p).1 with
    | true => rw [hb, if_pos rfl] at ew; exact a115t S1 _ 0 _ rfl ew f g
    | false => rw [hb, if_neg (by decide)] at ew; exact a115f S1 _ _ ew f g
  have a69_1 : ¬ isC t sz 108 p = true → isC t sz 100 p = true → At 69 [.ref 120, .int vi, .int 1, .retAddr 0] [] n K S G P 0 := by
    intro c1 c2
    have ew : wdP t sz p = ((if (mW t sz (wdL 6) p).1 = true then some 1 else none), (mW t sz (wdL 6) p).2) := by unfold wdP; rw [if_neg c1, if_pos c2]
    refine go [115] 60 _ _ _ _ _ _ _ _ _ ?_
    refine mm_isAll (a := 6) hS hp hle (by decide) (by decide) (by decide) (fun S1 f g => ?_)
    cases hb : (mW t sz (wdL 6) p).1 with
    | true => rw [hb, if_pos rfl] at ew; exact a115t S1 _ 1 _ rfl ew f g
    | false => rw [hb, if_neg (by decide)] at ew; exact a115f S1 _ _ ew f g
  have a69_2 : ¬ isC t sz 108 p = true → ¬ isC t sz 100 p = true → isC t sz 98 p = true → At 69 [.ref 120, .int vi, .int 2, .retAddr 0] [] n K S G P 0 := by
    intro c1 c2 c3
    have ew : wdP t sz p = ((if (mW t sz (wdL 7) p).1 = true then some 2 else none), (mW t sz (wdL 7) p).2) := by unfold wdP; rw [if_neg c1, if_neg c2, if_pos c3]
    refine go [115] 60 _ _ _ _ _ _ _ _ _ ?_
    refine mm_isAll (a := 7) hS hp hle (by decide) (by decide) (by decide) (fun S1 f g => ?_)
    cases hb : (mW t sz (wdL 7) p).1 with
    | true => rw [hb, if_pos rfl] at ew; exact a115t S1 _ 2 _ rfl ew f g
    | false => rw [hb, if_neg (by decide)] at ew; exact a115f S1 _ _ ew f g
  have xp : p < sz → ixB (S 120 11) 100 = true := fun z => by rw [hp]; exact ixB_nI (by omega) (by decide)
  have ep : p < sz → S 128 (S 120 11).toNatClampNeg = nI (t p) := fun z => by rw [hp, nI_clamp (by omega)]; exact (s3 p z).2
  have lit : ∀ c, c < 128 → p < sz → (S 128 (S 120 11).toNatClampNeg = nI c ↔ isC t sz c p = true) := by
    intro c hc z
    have tl := (s3 p z).1
    rw [ep z, isC_i, eq_i, nI_toInt (by omega), nI_toInt (by omega)]
    omega
  refine go [69] 60 _ _ _ _ _ _ _ _ _ ?_
  refine ite_i (fun z => ?_) (fun z => ?_)
  · rw [hp, s2, le_i, nI_toInt (by omega), nI_toInt (by omega)] at z
    have no : ∀ c, ¬ isC t sz c p = true := fun c k => by rw [isC_i] at k; omega
    exact a69n (no _) (no _) (no _)
  · rw [hp, s2, le_i, nI_toInt (by omega), nI_toInt (by omega)] at z
    have zp : p < sz := by omega
    refine ite_t (xp zp) ?_
    refine ite_i (fun c1 => ?_) (fun c1 => ?_)
    · exact a69_0 ((lit 108 (by decide) zp).mp c1)
    · have n1 : ¬ isC t sz 108 p = true := fun k => c1 ((lit 108 (by decide) zp).mpr k)
      refine ite_t (xp zp) ?_
      refine ite_i (fun c2 => ?_) (fun c2 => ?_)
      · exact a69_1 n1 ((lit 100 (by decide) zp).mp c2)
      · have n2 : ¬ isC t sz 100 p = true := fun k => c2 ((lit 100 (by decide) zp).mpr k)
        refine ite_t (xp zp) ?_
        refine ite_i (fun c3 => ?_) (fun c3 => ?_)
        · exact a69_2 n1 n2 ((lit 98 (by decide) zp).mp c3)
        · exact a69n n1 n2 (fun k => c3 ((lit 98 (by decide) zp).mpr k))
end B
end

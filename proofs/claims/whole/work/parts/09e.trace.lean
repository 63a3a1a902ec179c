noncomputable section
/-! TRACES and what a kind's bodies do. -/
def bg (S : Mi) (b : Int32) : Mi := up2 (if 20 ≤ S 73 1 then S else up2 S 74 (S 73 1).toNatClampNeg b) 73 1 (S 73 1 + 1)
def bgm (S : Mi) (b : Int32) : Mi := up2 (if 20 ≤ S 120 38 then S else up2 S 146 (S 120 38).toNatClampNeg b) 120 38 (S 120 38 + 1)
def bgs (S : Mi) : List Int32 → Mi
  | [] => S
  | b :: r => bgs (bg S b) r
def bgms (S : Mi) : List Int32 → Mi
  | [] => S
  | b :: r => bgms (bgm S b) r
theorem bgs_app (S : Mi) (x y : List Int32) : bgs S (x ++ y) = bgs (bgs S x) y := by
  induction x generalizing S with
  | nil => rfl
  | cons b r ih => exact ih _
theorem bgms_app (S : Mi) (x y : List Int32) : bgms S (x ++ y) = bgms (bgms S x) y := by
  induction x generalizing S with
  | nil => rfl
  | cons b r ih => exact ih _
def TrOk (S : Mi) (k : Nat) : Prop := 0 ≤ (S 73 1).toInt ∧ (S 73 1).toInt + k < 2147483648
theorem bg_o (S : Mi) (b : Int32) {w i : Nat} (h1 : w ≠ 73) (h2 : w ≠ 74) : bg S b w i = S w i := by
  unfold bg up2
  rw [if_neg h1]
  split
  · rfl
  · dsimp only
    rw [if_neg h2]
theorem bg_c (S : Mi) (b : Int32) : bg S b 73 1 = S 73 1 + 1 := by
  unfold bg up2
  rw [if_pos rfl]
  simp [va_up]
theorem tr_bg {S : Mi} {k : Nat} (b : Int32) (h : TrOk S (k + 1)) : TrOk (bg S b) k := by
  obtain ⟨h1, h2⟩ := h
  unfold TrOk
  have e : (S 73 1 + 1).toInt = (S 73 1).toInt + 1 := by
    rw [Int32.toInt_add, t_1]
    exact Int.bmod_eq_of_le (by omega) (by omega)
  rw [bg_c, e]
  omega
theorem bgs_o {w i : Nat} (h1 : w ≠ 73) (h2 : w ≠ 74) : ∀ (x : List Int32) (S : Mi), bgs S x w i = S w i := by
  intro x
  induction x with
  | nil => intro S; rfl
  | cons b r ih => intro S; exact (ih _).trans (bg_o S b h1 h2)
theorem tr_bgs {k : Nat} : ∀ (x : List Int32) (S : Mi), TrOk S (k + x.length) → TrOk (bgs S x) k := by
  intro x
  induction x with
  | nil => intro S h; exact h
  | cons b r ih => intro S h; exact ih _ (tr_bg b h)
section A
variable {l : Launch} {L : Nat} {xs : Nat → Int32} {D : Nat} {n : Nat} {K : Mk} {S : Mi} {G : Ml} {P : Mr} {Q : QT}
set_option maxRecDepth 20000
theorem m_begins {b : Int32} (ht : 0 ≤ (S 73 1).toInt) (h : Q none n K (bg S b) G P) : Ok l L xs T1 (D + 1) jX10_begins 0 [.ref 73, .int b] n K S G P Q := by
  refine I_X10_begins (by decide) (fun At go => ?_)
  have f19 : ∀ S', S' = (if 20 ≤ S 73 1 then S else up2 S 74 (S 73 1).toNatClampNeg b) → S' 73 1 = S 73 1 → At 19 [.ref 73, .int b] [] n K S' G P 0 := by
    intro S' e1 e2
    refine go [] 40 _ _ _ _ _ _ _ _ _ ?_
    have e : up2 S' 73 1 (S' 73 1 + 1) = bg S b := by rw [e2, e1]; rfl
    rw [← e] at h
    exact h
  refine go [19] 40 _ _ _ _ _ _ _ _ _ ?_
  refine ite_i (fun c => ?_) (fun c => ?_)
  · exact f19 _ (if_pos c).symm rfl
  · rw [le_i, t_20] at c
    refine ite_t ?_ ?_
    · obtain ⟨r, hr, e⟩ := ex_nI ht
      rw [e] at c ⊢
      rw [nI_toInt hr] at c
      exact ixB_nI (by omega) (by decide)
    · exact f19 _ (if_neg (by rw [le_i, t_20]; exact c)).symm rfl
theorem mm_ran {b : Int32} (ht : 0 ≤ (S 120 38).toInt) (h : Q none n K (bgm S b) G P) : Ok l L xs T1 (D + 1) jX12_ran 0 [.ref 120, .int b] n K S G P Q := by
  refine I_X12_ran (by decide) (fun At go => ?_)
  have f19 : ∀ S', S' = (if 20 ≤ S 120 38 then S else up2 S 146 (S 120 38).toNatClampNeg b) → S' 120 38 = S 120 38 → At 19 [.ref 120, .int b] [] n K S' G P 0 := by
    intro S' e1 e2
    refine go [] 40 _ _ _ _ _ _ _ _ _ ?_
    have e : up2 S' 120 38 (S' 120 38 + 1) = bgm S b := by rw [e2, e1]; rfl
    rw [← e] at h
    exact h
  refine go [19] 40 _ _ _ _ _ _ _ _ _ ?_
  refine ite_i (fun c => ?_) (fun c => ?_)
  · exact f19 _ (if_pos c).symm rfl
  · rw [le_i, t_20] at c
    refine ite_t ?_ ?_
    · obtain ⟨r, hr, e⟩ := ex_nI ht
      rw [e] at c ⊢
      rw [nI_toInt hr] at c
      exact ixB_nI (by omega) (by decide)
    · exact f19 _ (if_neg (by rw [le_i, t_20]; exact c)).symm rfl
end A
end

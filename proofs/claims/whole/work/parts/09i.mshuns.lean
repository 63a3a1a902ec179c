noncomputable section
/-! SHUNS of the model, by the kind's number. -/
def MtOk (S : Mi) (k : Nat) : Prop := 0 ≤ (S 120 38).toInt ∧ (S 120 38).toInt + k < 2147483648
theorem mt_le {S : Mi} {j k : Nat} (h : MtOk S k) (hj : j ≤ k) : MtOk S j := ⟨h.1, by have := h.2; omega⟩
theorem bgm_o (S : Mi) (b : Int32) {w i : Nat} (h1 : w ≠ 120) (h2 : w ≠ 146) : bgm S b w i = S w i := by
  unfold bgm up2
  rw [if_neg h1]
  split
  · rfl
  · dsimp only
    rw [if_neg h2]
theorem bgm_c (S : Mi) (b : Int32) : bgm S b 120 38 = S 120 38 + 1 := by
  unfold bgm up2
  rw [if_pos rfl]
  simp [va_up]
theorem mt_bg {S : Mi} {k : Nat} (b : Int32) (h : MtOk S (k + 1)) : MtOk (bgm S b) k := by
  obtain ⟨h1, h2⟩ := h
  unfold MtOk
  have e : (S 120 38 + 1).toInt = (S 120 38).toInt + 1 := by
    rw [Int32.toInt_add, t_1]
    exact Int.bmod_eq_of_le (by omega) (by omega)
  rw [bgm_c, e]
  omega
theorem bgms_o {w i : Nat} (h1 : w ≠ 120) (h2 : w ≠ 146) : ∀ (x : List Int32) (S : Mi), bgms S x w i = S w i := by
  intro x
  induction x with
  | nil => intro S; rfl
  | cons b r ih => intro S; exact (ih _).trans (bgm_o S b h1 h2)
theorem mt_bgs {k : Nat} : ∀ (x : List Int32) (S : Mi), MtOk S (k + x.length) → MtOk (bgms S x) k := by
  intro x
  induction x with
  | nil => intro S h; exact h
  | cons b r ih => intro S h; exact ih _ (mt_bg b h)
theorem bgms_c (S : Mi) (b : Int32) (r : List Int32) : bgms S (b :: r) = bgms (bgm S b) r := by simp only [bgms]
section A
variable {l : Launch} {L : Nat} {xs : Nat → Int32} {D : Nat} {n : Nat} {K : Mk} {S : Mi} {G : Ml} {P : Mr} {Q : QT} {p : Nat} {v x : Int32}
set_option maxRecDepth 20000
theorem mm_sh0 (ht : MtOk S 1) (h : Q (some (.int (x + nI p))) n K (bgms S [10]) G P) : Ok l L xs T1 (D + 2) jX12_shuns 0 [.ref 120, .int (nI p), .int 0, .int x] n K S G P Q := by
  refine I_X12_shuns (by decide) (fun At go => ?_)
  rw [bgms_c] at h
  refine go [] 40 _ _ _ _ _ _ _ _ _ ?_
  refine mm_ran ht.1 ?_
  exact h
theorem mm_sh1 (ht : MtOk S 1) (h : Q (some (.int (x + nI p))) n K (bgms S [10]) G P) : Ok l L xs T1 (D + 3) jX12_shuns 0 [.ref 120, .int (nI p), .int 1, .int x] n K S G P Q := by
  refine I_X12_shuns (by decide) (fun At go => ?_)
  refine go [] 40 _ _ _ _ _ _ _ _ _ ?_
  refine mm_above ?_
  refine mm_sh0 ht ?_
  exact h
theorem mm_sh3 (ht : MtOk S 1) (h : Q (some (.int (x + nI p))) n K (bgms S [10]) G P) : Ok l L xs T1 (D + 3) jX12_shuns 0 [.ref 120, .int (nI p), .int 3, .int x] n K S G P Q := by
  refine I_X12_shuns (by decide) (fun At go => ?_)
  refine go [] 40 _ _ _ _ _ _ _ _ _ ?_
  refine mm_above ?_
  refine mm_sh0 ht ?_
  exact h
theorem mm_sh2 (ht : MtOk S 2) (h : Q (some (.int (x * 3 + nI p))) n K (bgms S [30, 10]) G P) : Ok l L xs T1 (D + 3) jX12_shuns 0 [.ref 120, .int (nI p), .int 2, .int x] n K S G P Q := by
  refine I_X12_shuns (by decide) (fun At go => ?_)
  rw [bgms_c] at h
  refine go [] 40 _ _ _ _ _ _ _ _ _ ?_
  refine mm_ran ht.1 ?_
  refine mm_sh0 (mt_bg 30 ht) ?_
  exact h
theorem mm_sh5 (ht : MtOk S 2) (h : Q (some (.int (x * 3 + nI p))) n K (bgms S [30, 10]) G P) : Ok l L xs T1 (D + 4) jX12_shuns 0 [.ref 120, .int (nI p), .int 5, .int x] n K S G P Q := by
  refine I_X12_shuns (by decide) (fun At go => ?_)
  refine go [] 40 _ _ _ _ _ _ _ _ _ ?_
  refine mm_above ?_
  refine mm_sh2 ht ?_
  exact h
theorem mm_sh4 (ht : MtOk S 2) (h : Q (some (.int (-(x + nI p)))) n K (bgms S [50, 10]) G P) : Ok l L xs T1 (D + 4) jX12_shuns 0 [.ref 120, .int (nI p), .int 4, .int x] n K S G P Q := by
  refine I_X12_shuns (by decide) (fun At go => ?_)
  rw [bgms_c] at h
  refine go [] 40 _ _ _ _ _ _ _ _ _ ?_
  refine mm_ran ht.1 ?_
  refine mm_sh1 (mt_bg 50 ht) ?_
  exact h
theorem mm_sh6 (hp : p < 6) (hv : S 122 p = v) (ht : MtOk S 2) (h : Q (some (.int ((x + nI p) ^^^ v))) n K (bgms S [71, 10]) G P) : Ok l L xs T1 (D + 4) jX12_shuns 0 [.ref 120, .int (nI p), .int 6, .int x] n K S G P Q := by
  refine I_X12_shuns (by decide) (fun At go => ?_)
  have h' : Q (some (.int ((x + nI p) ^^^ bgms S [71, 10] 122 (nI p).toNatClampNeg))) n K (bgms S [71, 10]) G P := by
    rw [nI_clamp (by omega), bgms_o (by decide) (by decide), hv]
    exact h
  rw [bgms_c] at h'
  refine go [] 40 _ _ _ _ _ _ _ _ _ ?_
  refine mm_ran ht.1 ?_
  refine mm_sh3 (mt_bg 71 ht) ?_
  refine ite_t (ixB_nI hp (by decide)) ?_
  exact h'
end A
end

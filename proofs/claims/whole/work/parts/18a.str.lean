noncomputable section
/-! STRINGS: length, charAt, indexOf of the ten texts. -/
def lxO (t : Nat) : Int32 := if t = 112 then 0 else if t = 113 then 1 else if t = 107 then 2 else if t = 118 then 3 else if t = 119 then 4 else if t = 100 then 5 else -1
def sgO (t : Nat) : Int32 := if t = 60 then 0 else if t = 61 then 1 else if t = 62 then 2 else -1
theorem byte_i : ∀ c, c < 128 → (nI c).toInt8.toInt32 = nI c := by decide +kernel
theorem bt_eq {b t : Nat} (hb : b < 128) (ht : t < 128) {x : Int32} (hx : x = nI b) : x = (nI t).toInt8.toInt32 ↔ t = b := by
  rw [byte_i t ht, hx, eq_i, nI_toInt (by omega), nI_toInt (by omega)]
  omega
theorem nI_lit {t b : Nat} (ht : t < 128) (hb : b < 128) : nI b = nI t ↔ t = b := by
  rw [eq_i, nI_toInt (by omega), nI_toInt (by omega)]
  omega
section A
variable {l : Launch} {L : Nat} {xs : Nat → Int32} {T : Tb} {D : Nat} {n : Nat} {K : Mk} {S : Mi} {G : Ml} {P : Mr} {Q : QT} {a t : Nat}
set_option maxRecDepth 20000
theorem m_coder (ha : a < 10) (h : Q (some (.int 0)) n K S G P) : Ok l L xs T (D + 1) jJ0_coder_7d493 0 [.ref a] n K S G P Q := by
  refine I_J0_coder_7d493 (by decide) (fun At go => ?_)
  have e : a = 0 ∨ a = 1 ∨ a = 2 ∨ a = 3 ∨ a = 4 ∨ a = 5 ∨ a = 6 ∨ a = 7 ∨ a = 8 ∨ a = 9 := by omega
  rcases e with rfl | rfl | rfl | rfl | rfl | rfl | rfl | rfl | rfl | rfl <;> (
  refine go [] 40 _ _ _ _ _ _ _ _ _ ?_
  exact h)
theorem m_latin (ha : a < 10) (h : Q (some (.int 1)) n K S G P) : Ok l L xs T (D + 1) jJ0_isLatin1_aae02 0 [.ref a] n K S G P Q := by
  refine I_J0_isLatin1_aae02 (by decide) (fun At go => ?_)
  have e : a = 0 ∨ a = 1 ∨ a = 2 ∨ a = 3 ∨ a = 4 ∨ a = 5 ∨ a = 6 ∨ a = 7 ∨ a = 8 ∨ a = 9 := by omega
  rcases e with rfl | rfl | rfl | rfl | rfl | rfl | rfl | rfl | rfl | rfl <;> (
  refine go [] 40 _ _ _ _ _ _ _ _ _ ?_
  exact h)
theorem m_strLen (ha : a < 10) (h : Q (some (.int (nI (strB.getD a []).length))) n K S G P) : Ok l L xs T (D + 2) jJ0_length_8abf5 0 [.ref a] n K S G P Q := by
  refine I_J0_length_8abf5 (by decide) (fun At go => ?_)
  have e : a = 0 ∨ a = 1 ∨ a = 2 ∨ a = 3 ∨ a = 4 ∨ a = 5 ∨ a = 6 ∨ a = 7 ∨ a = 8 ∨ a = 9 := by omega
  rcases e with rfl | rfl | rfl | rfl | rfl | rfl | rfl | rfl | rfl | rfl <;> (
  refine go [] 40 _ _ _ _ _ _ _ _ _ ?_
  refine m_coder (by decide) ?_
  exact h)
theorem m_ck3 {x y : Int32} (h0 : 0 ≤ x.toInt) (h1 : x.toInt < y.toInt) (h : Q (some (.int x)) n K S G P) : Ok l L xs T (D + 1) jJ3_checkIndex_8e157 0 [.int x, .int y, .retAddr 7] n K S G P Q := by
  refine I_J3_checkIndex_8e157 (by decide) (fun At go => ?_)
  have a16 : At 16 [.int x, .int y, .retAddr 7] [] n K S G P 0 := by
    refine go [] 40 _ _ _ _ _ _ _ _ _ ?_
    exact h
  refine go [9, 16] 40 _ _ _ _ _ _ _ _ _ ?_
  refine ite_f (by rw [lt_i, t_0]; omega) ?_
  refine ite_t (by rw [lt_i]; exact h1) ?_
  exact a16
theorem m_ck0 {x y : Int32} (h0 : 0 ≤ x.toInt) (h1 : x.toInt < y.toInt) (h : Q none n K S G P) : Ok l L xs T (D + 2) jJ0_checkIndex_df160 0 [.int x, .int y] n K S G P Q := by
  refine I_J0_checkIndex_df160 (by decide) (fun At go => ?_)
  refine go [] 40 _ _ _ _ _ _ _ _ _ ?_
  refine m_ck3 h0 h1 ?_
  exact h
theorem m_ch1 {i : Nat} (ha : a < 10) (hi : i < (strB.getD a []).length) (h : Q (some (.int ((strB.getD a []).getD i 0))) n K S G P) : Ok l L xs T (D + 3) jJ1_charAt_3b067 0 [.ref (10 + a), .int (nI i)] n K S G P Q := by
  refine I_J1_charAt_3b067 (by decide) (fun At go => ?_)
  have hl : ∀ a, a < 10 → (strB.getD a []).length ≤ 6 := by decide
  have hl' := hl a ha
  have e : a = 0 ∨ a = 1 ∨ a = 2 ∨ a = 3 ∨ a = 4 ∨ a = 5 ∨ a = 6 ∨ a = 7 ∨ a = 8 ∨ a = 9 := by omega
  have e2 : i = 0 ∨ i = 1 ∨ i = 2 ∨ i = 3 ∨ i = 4 ∨ i = 5 := by omega
  rcases e with rfl | rfl | rfl | rfl | rfl | rfl | rfl | rfl | rfl | rfl <;> rcases e2 with rfl | rfl | rfl | rfl | rfl | rfl <;> first | exact absurd hi (by decide) | (
  refine go [] 40 _ _ _ _ _ _ _ _ _ ?_
  refine m_ck0 (by decide) (by decide) ?_
  exact h)
theorem m_strAt {i : Nat} (ha : a < 10) (hi : i < (strB.getD a []).length) (h : Q (some (.int ((strB.getD a []).getD i 0))) n K S G P) : Ok l L xs T (D + 4) jJ0_charAt_5068e 0 [.ref a, .int (nI i)] n K S G P Q := by
  refine I_J0_charAt_5068e (by decide) (fun At go => ?_)
  have e : a = 0 ∨ a = 1 ∨ a = 2 ∨ a = 3 ∨ a = 4 ∨ a = 5 ∨ a = 6 ∨ a = 7 ∨ a = 8 ∨ a = 9 := by omega
  have hc : narrow .char (.int ((strB.getD a []).getD i 0)) = .int ((strB.getD a []).getD i 0) := by
    have hl : ∀ a, a < 10 → (strB.getD a []).length ≤ 6 := by decide
    have hh : ∀ a, a < 10 → ∀ i, i < 6 → narrow .char (.int ((strB.getD a []).getD i 0)) = .int ((strB.getD a []).getD i 0) := by decide
    have := hl a ha
    exact hh a ha i (by omega)
  rcases e with rfl | rfl | rfl | rfl | rfl | rfl | rfl | rfl | rfl | rfl <;> (
  refine go [] 40 _ _ _ _ _ _ _ _ _ ?_
  refine m_latin (by decide) ?_
  refine m_ch1 (by decide) hi ?_
  exact ite_t hc h)
theorem m_canEnc (ht : t < 128) (h : Q (some (.int 1)) n K S G P) : Ok l L xs T (D + 1) jJ1_canEncode_9a6ad 0 [.int (nI t)] n K S G P Q := by
  refine I_J1_canEncode_9a6ad (by decide) (fun At go => ?_)
  refine go [] 40 _ _ _ _ _ _ _ _ _ ?_
  refine ite_f (by rw [lt_i, nI_toInt (by omega), t_0]; omega) ?_
  refine ite_f (by rw [lt_i, nI_toInt (by omega)]; have : (255 : Int32).toInt = 255 := rfl; omega) ?_
  exact h
theorem m_ixC3 (ht : t < 128) (ha : a = 13 ∨ a = 18) (h : Q (some (.int (lxO t))) n K S G P) : Ok l L xs T (D + 1) jJ1_indexOfChar_4cfef 0 [.ref a, .int (nI t), .int 0, .int 6] n K S G P Q := by
  refine I_J1_indexOfChar_4cfef (by decide) (fun At go => ?_)
  unfold lxO at h
  rcases ha with rfl | rfl <;> (
  refine go [] 120 _ _ _ _ _ _ _ _ _ ?_
  refine ite_i (fun c => ?_) (fun c => ?_)
  · rw [if_pos ((bt_eq (b := 112) (by decide) ht rfl).mp c)] at h
    exact h
  rw [if_neg (fun z => c ((bt_eq (b := 112) (by decide) ht rfl).mpr z))] at h
  refine ite_i (fun c => ?_) (fun c => ?_)
  · rw [if_pos ((bt_eq (b := 113) (by decide) ht rfl).mp c)] at h
    exact h
  rw [if_neg (fun z => c ((bt_eq (b := 113) (by decide) ht rfl).mpr z))] at h
  refine ite_i (fun c => ?_) (fun c => ?_)
  · rw [if_pos ((bt_eq (b := 107) (by decide) ht rfl).mp c)] at h
    exact h
  rw [if_neg (fun z => c ((bt_eq (b := 107) (by decide) ht rfl).mpr z))] at h
  refine ite_i (fun c => ?_) (fun c => ?_)
  · rw [if_pos ((bt_eq (b := 118) (by decide) ht rfl).mp c)] at h
    exact h
  rw [if_neg (fun z => c ((bt_eq (b := 118) (by decide) ht rfl).mpr z))] at h
  refine ite_i (fun c => ?_) (fun c => ?_)
  · rw [if_pos ((bt_eq (b := 119) (by decide) ht rfl).mp c)] at h
    exact h
  rw [if_neg (fun z => c ((bt_eq (b := 119) (by decide) ht rfl).mpr z))] at h
  refine ite_i (fun c => ?_) (fun c => ?_)
  · rw [if_pos ((bt_eq (b := 100) (by decide) ht rfl).mp c)] at h
    exact h
  rw [if_neg (fun z => c ((bt_eq (b := 100) (by decide) ht rfl).mpr z))] at h
  exact h)
theorem m_ixC4 (ht : t < 128) (ha : a = 14 ∨ a = 19) (h : Q (some (.int (sgO t))) n K S G P) : Ok l L xs T (D + 1) jJ1_indexOfChar_4cfef 0 [.ref a, .int (nI t), .int 0, .int 3] n K S G P Q := by
  refine I_J1_indexOfChar_4cfef (by decide) (fun At go => ?_)
  unfold sgO at h
  rcases ha with rfl | rfl <;> (
  refine go [] 120 _ _ _ _ _ _ _ _ _ ?_
  refine ite_i (fun c => ?_) (fun c => ?_)
  · rw [if_pos ((bt_eq (b := 60) (by decide) ht rfl).mp c)] at h
    exact h
  rw [if_neg (fun z => c ((bt_eq (b := 60) (by decide) ht rfl).mpr z))] at h
  refine ite_i (fun c => ?_) (fun c => ?_)
  · rw [if_pos ((bt_eq (b := 61) (by decide) ht rfl).mp c)] at h
    exact h
  rw [if_neg (fun z => c ((bt_eq (b := 61) (by decide) ht rfl).mpr z))] at h
  refine ite_i (fun c => ?_) (fun c => ?_)
  · rw [if_pos ((bt_eq (b := 62) (by decide) ht rfl).mp c)] at h
    exact h
  rw [if_neg (fun z => c ((bt_eq (b := 62) (by decide) ht rfl).mpr z))] at h
  exact h)
theorem m_ixB3 (ht : t < 128) (ha : a = 13 ∨ a = 18) (h : Q (some (.int (lxO t))) n K S G P) : Ok l L xs T (D + 2) jJ1_indexOf_4cfef 0 [.ref a, .int (nI t), .int 0, .int 6] n K S G P Q := by
  refine I_J1_indexOf_4cfef (by decide) (fun At go => ?_)
  rcases ha with rfl | rfl
  · refine go [] 60 _ _ _ _ _ _ _ _ _ ?_
    refine m_canEnc ht ?_
    refine m_max ?_
    refine m_min ?_
    exact m_ixC3 ht (.inl rfl) h
  · refine go [] 60 _ _ _ _ _ _ _ _ _ ?_
    refine m_canEnc ht ?_
    refine m_max ?_
    refine m_min ?_
    exact m_ixC3 ht (.inr rfl) h
theorem m_ixB4 (ht : t < 128) (ha : a = 14 ∨ a = 19) (h : Q (some (.int (sgO t))) n K S G P) : Ok l L xs T (D + 2) jJ1_indexOf_4cfef 0 [.ref a, .int (nI t), .int 0, .int 3] n K S G P Q := by
  refine I_J1_indexOf_4cfef (by decide) (fun At go => ?_)
  rcases ha with rfl | rfl
  · refine go [] 60 _ _ _ _ _ _ _ _ _ ?_
    refine m_canEnc ht ?_
    refine m_max ?_
    refine m_min ?_
    exact m_ixC4 ht (.inl rfl) h
  · refine go [] 60 _ _ _ _ _ _ _ _ _ ?_
    refine m_canEnc ht ?_
    refine m_max ?_
    refine m_min ?_
    exact m_ixC4 ht (.inr rfl) h
theorem m_ixA3 (ht : t < 128) (ha : a = 3 ∨ a = 8) (h : Q (some (.int (lxO t))) n K S G P) : Ok l L xs T (D + 4) jJ0_indexOf_7cf53 0 [.ref a, .int (nI t), .int 0] n K S G P Q := by
  refine I_J0_indexOf_7cf53 (by decide) (fun At go => ?_)
  have a36 : ∀ b, At 36 [.ref b, .int (nI t), .int 0] [.int (lxO t)] n K S G P 0 := by
    intro b
    refine go [] 60 _ _ _ _ _ _ _ _ _ ?_
    exact h
  rcases ha with rfl | rfl
  · refine go [36] 60 _ _ _ _ _ _ _ _ _ ?_
    refine m_latin (by decide) ?_
    refine m_strLen (by decide) ?_
    exact m_ixB3 ht (.inl rfl) (a36 _)
  · refine go [36] 60 _ _ _ _ _ _ _ _ _ ?_
    refine m_latin (by decide) ?_
    refine m_strLen (by decide) ?_
    exact m_ixB3 ht (.inr rfl) (a36 _)
theorem m_ixO3 (ht : t < 128) (ha : a = 3 ∨ a = 8) (h : Q (some (.int (lxO t))) n K S G P) : Ok l L xs T (D + 5) jJ0_indexOf_0f7a4 0 [.ref a, .int (nI t)] n K S G P Q := by
  refine I_J0_indexOf_0f7a4 (by decide) (fun At go => ?_)
  rcases ha with rfl | rfl
  · refine go [] 60 _ _ _ _ _ _ _ _ _ ?_
    refine m_ixA3 ht (.inl rfl) ?_
    exact h
  · refine go [] 60 _ _ _ _ _ _ _ _ _ ?_
    refine m_ixA3 ht (.inr rfl) ?_
    exact h
theorem m_ixA4 (ht : t < 128) (ha : a = 4 ∨ a = 9) (h : Q (some (.int (sgO t))) n K S G P) : Ok l L xs T (D + 4) jJ0_indexOf_7cf53 0 [.ref a, .int (nI t), .int 0] n K S G P Q := by
  refine I_J0_indexOf_7cf53 (by decide) (fun At go => ?_)
  have a36 : ∀ b, At 36 [.ref b, .int (nI t), .int 0] [.int (sgO t)] n K S G P 0 := by
    intro b
    refine go [] 60 _ _ _ _ _ _ _ _ _ ?_
    exact h
  rcases ha with rfl | rfl
  · refine go [36] 60 _ _ _ _ _ _ _ _ _ ?_
    refine m_latin (by decide) ?_
    refine m_strLen (by decide) ?_
    exact m_ixB4 ht (.inl rfl) (a36 _)
  · refine go [36] 60 _ _ _ _ _ _ _ _ _ ?_
    refine m_latin (by decide) ?_
    refine m_strLen (by decide) ?_
    exact m_ixB4 ht (.inr rfl) (a36 _)
theorem m_ixO4 (ht : t < 128) (ha : a = 4 ∨ a = 9) (h : Q (some (.int (sgO t))) n K S G P) : Ok l L xs T (D + 5) jJ0_indexOf_0f7a4 0 [.ref a, .int (nI t)] n K S G P Q := by
  refine I_J0_indexOf_0f7a4 (by decide) (fun At go => ?_)
  rcases ha with rfl | rfl
  · refine go [] 60 _ _ _ _ _ _ _ _ _ ?_
    refine m_ixA4 ht (.inl rfl) ?_
    exact h
  · refine go [] 60 _ _ _ _ _ _ _ _ _ ?_
    refine m_ixA4 ht (.inr rfl) ?_
    exact h
end A
end

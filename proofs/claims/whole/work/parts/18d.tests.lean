noncomputable section
/-! A TEST, of the component. -/
def lxN (t : Nat) : Option Nat := if t = 112 then some 0 else if t = 113 then some 1 else if t = 107 then some 2 else if t = 118 then some 3 else if t = 119 then some 4 else if t = 100 then some 5 else none
def sgN (t : Nat) : Option Nat := if t = 60 then some 0 else if t = 61 then some 1 else if t = 62 then some 2 else none
def oI : Option Nat → Int32
  | some i => nI i
  | none => -1
theorem lxO_N (t : Nat) : lxO t = oI (lxN t) := by
  unfold lxO lxN
  repeat' split
  all_goals rfl
theorem sgO_N (t : Nat) : sgO t = oI (sgN t) := by
  unfold sgO sgN
  repeat' split
  all_goals rfl
theorem lxN_lt {t i : Nat} (h : lxN t = some i) : i < 6 := by
  unfold lxN at h
  repeat' split at h
  all_goals first | (cases h; decide) | cases h
theorem sgN_lt {t i : Nat} (h : sgN t = some i) : i < 3 := by
  unfold sgN at h
  repeat' split at h
  all_goals first | (cases h; decide) | cases h
/-- a sign's place in a text, at a place of the read one -/
def oneAt (f : Nat → Option Nat) (t : Nat → Nat) (sz p : Nat) : Option Nat := if p < sz then f (t p) else none
def tst (t : Nat → Nat) (sz p : Nat) : Option Nat × Nat := match oneAt lxN t sz p with
  | none => (none, p)
  | some i => match oneAt sgN t sz (p + 1) with
    | none => (none, p + 1)
    | some j => match num t sz (p + 2) with
      | none => (none, p + 2)
      | some (v, p') => (some (300 * i + 100 * j + v + 3), p')
section A
variable {l : Launch} {L : Nat} {xs : Nat → Int32} {D : Nat} {n : Nat} {K : Mk} {S : Mi} {G : Ml} {P : Mr} {Q : QT} {s p sz : Nat} {t : Nat → Nat}
set_option maxRecDepth 20000
theorem oI_lt {o : Option Nat} (h : ∀ i, o = some i → i < 6) : (oI o < 0 ↔ o = none) := by
  cases o with
  | none => exact ⟨fun _ => rfl, fun _ => by decide⟩
  | some i =>
    have := h i rfl
    constructor
    · intro z
      have z' : nI i < 0 := z
      rw [lt_i, nI_toInt (by omega), t_0] at z'
      omega
    · intro z; cases z
theorem ch_i : ∀ c, c < 128 → ((nI c).toUInt32 % 65536).toInt32 = nI c := by decide +kernel
theorem m_ixO3c {x : Int32} {c : Nat} (ex : x = nI c) (hc : c < 128) (h : Q (some (.int (lxO c))) n K S G P) : Ok l L xs T1 (D + 5) jJ0_indexOf_0f7a4 0 [.ref 3, .int (x.toUInt32 % 65536).toInt32] n K S G P Q := by
  subst ex
  rw [ch_i c hc]
  exact m_ixO3 hc (.inl rfl) h
theorem m_ixO4c {x : Int32} {c : Nat} (ex : x = nI c) (hc : c < 128) (h : Q (some (.int (sgO c))) n K S G P) : Ok l L xs T1 (D + 5) jJ0_indexOf_0f7a4 0 [.ref 4, .int (x.toUInt32 % 65536).toInt32] n K S G P Q := by
  subst ex
  rw [ch_i c hc]
  exact m_ixO4 hc (.inl rfl) h
theorem m_oneA (hs : SD s) (hS : TxC s S t sz) (hp : S s 9 = nI p) (hle : p ≤ sz) (h : ∀ S', FrAt s S S' → S' s 9 = nI (match oneAt lxN t sz p with | none => p | some _ => p + 1) → Q (some (.int (oI (oneAt lxN t sz p)))) n K S' G P) : Ok l L xs T1 (D + 6) jX7_takesOneOf 0 [.ref s, .ref 3] n K S G P Q := by
  refine I_X7_takesOneOf (by decide) (fun At go => ?_)
  obtain ⟨s1, s2, s3⟩ := hS
  have xp : p < sz → ixB (S s 9) 100 = true := fun z => by rw [hp]; exact ixB_nI (by omega) (by decide)
  have ep : p < sz → S (s + 5) (S s 9).toNatClampNeg = nI (t p) := fun z => by rw [hp, nI_clamp (by omega)]; exact (s3 p z).2
  have h6 : ∀ i, oneAt lxN t sz p = some i → i < 6 := fun i e => by
    unfold oneAt at e
    split at e
    · have := lxN_lt e; omega
    · cases e
  have a29 : At 29 [.ref s, .ref 3, .retAddr 0] [.int (oI (oneAt lxN t sz p))] n K S G P 0 := by
    have e0 : S s 9 + 0 = nI p := by rw [hp, show (0 : Int32) = nI 0 from rfl, nI_add]; rfl
    have e1 : S s 9 + 1 = nI (p + 1) := by rw [hp]; exact nI_1 p
    have fin0 : oneAt lxN t sz p = none → Q (some (.int (oI (oneAt lxN t sz p)))) n K (up2 S s 9 (S s 9 + 0)) G P := fun e => h _ (fun b j hb => up2_o _ _ (by omega)) (by rw [up2_s, e0, e])
    have fin1 : ¬ oneAt lxN t sz p = none → Q (some (.int (oI (oneAt lxN t sz p)))) n K (up2 S s 9 (S s 9 + 1)) G P := fun e => h _ (fun b j hb => up2_o _ _ (by omega)) (by
      rw [up2_s, e1]
      cases e2 : oneAt lxN t sz p with
      | none => exact absurd e2 e
      | some i => rfl)
    generalize hv : oI (oneAt lxN t sz p) = v at fin0 fin1
    have hv0 : v < 0 ↔ oneAt lxN t sz p = none := by rw [← hv]; exact oI_lt h6
    have a44 : ∀ k, Q (some (.int v)) n K (up2 S s 9 (S s 9 + k)) G P → At 44 [.ref s, .ref 3, .int v] [.int k, .int (S s 9), .ref s] n K S G P 0 := by
      intro k hQ
      rcases hs with rfl | rfl | rfl | rfl | rfl | rfl <;> (
      refine go [] 60 _ _ _ _ _ _ _ _ _ ?_
      exact hQ)
    have a43 : ¬ oneAt lxN t sz p = none → At 43 [.ref s, .ref 3, .int v] [.int (S s 9), .ref s] n K S G P 0 := by
      intro z
      refine go [44] 60 _ _ _ _ _ _ _ _ _ ?_
      exact a44 1 (fin1 z)
    rcases hs with rfl | rfl | rfl | rfl | rfl | rfl <;> (
    refine go [43, 44] 60 _ _ _ _ _ _ _ _ _ ?_
    refine ite_i (fun z => ?_) (fun z => ?_)
    · refine a43 (fun w => ?_)
      have := hv0.mpr w
      rw [lt_i, t_0] at this
      rw [le_i, t_0] at z
      omega
    · refine a44 0 (fin0 (hv0.mp ?_))
      rw [lt_i, t_0]
      rw [le_i, t_0] at z
      omega)
  have a28 : ¬ p < sz → At 28 [.ref s, .ref 3, .retAddr 0] [] n K S G P 0 := by
    intro z
    have e : oI (oneAt lxN t sz p) = -1 := by unfold oneAt; rw [if_neg z]; rfl
    rw [e] at a29
    refine go [29] 60 _ _ _ _ _ _ _ _ _ ?_
    exact a29
  have a25 : p < sz → oI (oneAt lxN t sz p) = lxO (t p) := fun z => by unfold oneAt; rw [if_pos z, lxO_N]
  rcases hs with rfl | rfl | rfl | rfl | rfl | rfl <;> (
  refine go [28, 29] 60 _ _ _ _ _ _ _ _ _ ?_
  refine ite_i (fun z => ?_) (fun z => ?_)
  · rw [hp, s2, le_i, nI_toInt (by omega), nI_toInt (by omega)] at z
    exact a28 (by omega)
  · rw [hp, s2, le_i, nI_toInt (by omega), nI_toInt (by omega)] at z
    have zp : p < sz := by omega
    have tl := (s3 p zp).1
    refine ite_t (xp zp) ?_
    refine m_ixO3c (c := t p) (ep zp) tl ?_
    rw [← a25 zp]
    exact a29)
theorem m_oneB (hs : SD s) (hS : TxC s S t sz) (hp : S s 9 = nI p) (hle : p ≤ sz) (h : ∀ S', FrAt s S S' → S' s 9 = nI (match oneAt sgN t sz p with | none => p | some _ => p + 1) → Q (some (.int (oI (oneAt sgN t sz p)))) n K S' G P) : Ok l L xs T1 (D + 6) jX7_takesOneOf 0 [.ref s, .ref 4] n K S G P Q := by
  refine I_X7_takesOneOf (by decide) (fun At go => ?_)
  obtain ⟨s1, s2, s3⟩ := hS
  have xp : p < sz → ixB (S s 9) 100 = true := fun z => by rw [hp]; exact ixB_nI (by omega) (by decide)
  have ep : p < sz → S (s + 5) (S s 9).toNatClampNeg = nI (t p) := fun z => by rw [hp, nI_clamp (by omega)]; exact (s3 p z).2
  have h6 : ∀ i, oneAt sgN t sz p = some i → i < 6 := fun i e => by
    unfold oneAt at e
    split at e
    · have := sgN_lt e; omega
    · cases e
  have a29 : At 29 [.ref s, .ref 4, .retAddr 0] [.int (oI (oneAt sgN t sz p))] n K S G P 0 := by
    have e0 : S s 9 + 0 = nI p := by rw [hp, show (0 : Int32) = nI 0 from rfl, nI_add]; rfl
    have e1 : S s 9 + 1 = nI (p + 1) := by rw [hp]; exact nI_1 p
    have fin0 : oneAt sgN t sz p = none → Q (some (.int (oI (oneAt sgN t sz p)))) n K (up2 S s 9 (S s 9 + 0)) G P := fun e => h _ (fun b j hb => up2_o _ _ (by omega)) (by rw [up2_s, e0, e])
    have fin1 : ¬ oneAt sgN t sz p = none → Q (some (.int (oI (oneAt sgN t sz p)))) n K (up2 S s 9 (S s 9 + 1)) G P := fun e => h _ (fun b j hb => up2_o _ _ (by omega)) (by
      rw [up2_s, e1]
      cases e2 : oneAt sgN t sz p with
      | none => exact absurd e2 e
      | some i => rfl)
    generalize hv : oI (oneAt sgN t sz p) = v at fin0 fin1
    have hv0 : v < 0 ↔ oneAt sgN t sz p = none := by rw [← hv]; exact oI_lt h6
    have a44 : ∀ k, Q (some (.int v)) n K (up2 S s 9 (S s 9 + k)) G P → At 44 [.ref s, .ref 4, .int v] [.int k, .int (S s 9), .ref s] n K S G P 0 := by
      intro k hQ
      rcases hs with rfl | rfl | rfl | rfl | rfl | rfl <;> (
      refine go [] 60 _ _ _ _ _ _ _ _ _ ?_
      exact hQ)
    have a43 : ¬ oneAt sgN t sz p = none → At 43 [.ref s, .ref 4, .int v] [.int (S s 9), .ref s] n K S G P 0 := by
      intro z
      refine go [44] 60 _ _ _ _ _ _ _ _ _ ?_
      exact a44 1 (fin1 z)
    rcases hs with rfl | rfl | rfl | rfl | rfl | rfl <;> (
    refine go [43, 44] 60 _ _ _ _ _ _ _ _ _ ?_
    refine ite_i (fun z => ?_) (fun z => ?_)
    · refine a43 (fun w => ?_)
      have := hv0.mpr w
      rw [lt_i, t_0] at this
      rw [le_i, t_0] at z
      omega
    · refine a44 0 (fin0 (hv0.mp ?_))
      rw [lt_i, t_0]
      rw [le_i, t_0] at z
      omega)
  have a28 : ¬ p < sz → At 28 [.ref s, .ref 4, .retAddr 0] [] n K S G P 0 := by
    intro z
    have e : oI (oneAt sgN t sz p) = -1 := by unfold oneAt; rw [if_neg z]; rfl
    rw [e] at a29
    refine go [29] 60 _ _ _ _ _ _ _ _ _ ?_
    exact a29
  have a25 : p < sz → oI (oneAt sgN t sz p) = sgO (t p) := fun z => by unfold oneAt; rw [if_pos z, sgO_N]
  rcases hs with rfl | rfl | rfl | rfl | rfl | rfl <;> (
  refine go [28, 29] 60 _ _ _ _ _ _ _ _ _ ?_
  refine ite_i (fun z => ?_) (fun z => ?_)
  · rw [hp, s2, le_i, nI_toInt (by omega), nI_toInt (by omega)] at z
    exact a28 (by omega)
  · rw [hp, s2, le_i, nI_toInt (by omega), nI_toInt (by omega)] at z
    have zp : p < sz := by omega
    have tl := (s3 p zp).1
    refine ite_t (xp zp) ?_
    refine m_ixO4c (c := t p) (ep zp) tl ?_
    rw [← a25 zp]
    exact a29)
end A
end

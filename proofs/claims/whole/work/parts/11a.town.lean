noncomputable section
/-! A TOWN's VALUE: 225 numbers; where each lies, on both sides (by program: gen11a.py). -/
def mloc (k : Nat) : Nat × Nat := if k < 6 then (121, k - 0) else if k < 12 then (122, k - 6) else if k < 18 then (123, k - 12) else if k < 42 then (124, k - 18) else if k < 78 then (125, k - 42) else if k < 114 then (126, k - 78) else if k < 150 then (127, k - 114) else if k < 155 then (136, k - 150) else if k < 160 then (137, k - 155) else if k < 165 then (138, k - 160) else if k < 170 then (139, k - 165) else if k < 175 then (140, k - 170) else if k < 185 then (141, k - 175) else if k < 195 then (142, k - 185) else if k < 203 then (143, k - 195) else if k < 211 then (144, k - 203) else if k < 219 then (145, k - 211) else if k = 219 then (120, 0) else if k = 220 then (120, 8) else if k = 221 then (120, 25) else if k = 222 then (120, 31) else if k = 223 then (120, 34) else (120, 16)
def minv (z : Nat × Nat) : Nat := if z.1 = 121 then 0 + z.2 else if z.1 = 122 then 6 + z.2 else if z.1 = 123 then 12 + z.2 else if z.1 = 124 then 18 + z.2 else if z.1 = 125 then 42 + z.2 else if z.1 = 126 then 78 + z.2 else if z.1 = 127 then 114 + z.2 else if z.1 = 136 then 150 + z.2 else if z.1 = 137 then 155 + z.2 else if z.1 = 138 then 160 + z.2 else if z.1 = 139 then 165 + z.2 else if z.1 = 140 then 170 + z.2 else if z.1 = 141 then 175 + z.2 else if z.1 = 142 then 185 + z.2 else if z.1 = 143 then 195 + z.2 else if z.1 = 144 then 203 + z.2 else if z.1 = 145 then 211 + z.2 else if z.2 = 0 then 219 else if z.2 = 8 then 220 else if z.2 = 25 then 221 else if z.2 = 31 then 222 else if z.2 = 34 then 223 else 224
theorem minv_mloc : ∀ k, k < 225 → minv (mloc k) = k := by decide +kernel
theorem ml_kind : ∀ i, i < 6 → mloc (0 + i) = (121, i) := by decide +kernel
theorem ml_v : ∀ i, i < 6 → mloc (6 + i) = (122, i) := by decide +kernel
theorem ml_wed : ∀ i, i < 6 → mloc (12 + i) = (123, i) := by decide +kernel
theorem ml_rows : ∀ i, i < 24 → mloc (18 + i) = (124, i) := by decide +kernel
theorem ml_ta : ∀ i, i < 36 → mloc (42 + i) = (125, i) := by decide +kernel
theorem ml_us : ∀ i, i < 36 → mloc (78 + i) = (126, i) := by decide +kernel
theorem ml_la : ∀ i, i < 36 → mloc (114 + i) = (127, i) := by decide +kernel
theorem ml_sb : ∀ i, i < 5 → mloc (150 + i) = (136, i) := by decide +kernel
theorem ml_st : ∀ i, i < 5 → mloc (155 + i) = (137, i) := by decide +kernel
theorem ml_sw : ∀ i, i < 5 → mloc (160 + i) = (138, i) := by decide +kernel
theorem ml_si : ∀ i, i < 5 → mloc (165 + i) = (139, i) := by decide +kernel
theorem ml_ss : ∀ i, i < 5 → mloc (170 + i) = (140, i) := by decide +kernel
theorem ml_go : ∀ i, i < 10 → mloc (175 + i) = (141, i) := by decide +kernel
theorem ml_wh : ∀ i, i < 10 → mloc (185 + i) = (142, i) := by decide +kernel
theorem ml_bb : ∀ i, i < 8 → mloc (195 + i) = (143, i) := by decide +kernel
theorem ml_bt : ∀ i, i < 8 → mloc (203 + i) = (144, i) := by decide +kernel
theorem ml_bl : ∀ i, i < 8 → mloc (211 + i) = (145, i) := by decide +kernel
def cl (k : Nat) : Nat × Nat := if k < 18 then (2, k - 12) else if k < 42 then (3, k - 18) else if k < 78 then (4, k - 42) else if k < 114 then (5, k - 78) else if k < 150 then (6, k - 114) else if k < 155 then (7, 5 * (k - 150) + 0) else if k < 160 then (7, 5 * (k - 155) + 1) else if k < 165 then (7, 5 * (k - 160) + 2) else if k < 170 then (7, 5 * (k - 165) + 3) else if k < 175 then (7, 5 * (k - 170) + 4) else if k < 185 then (8, 2 * (k - 175)) else if k < 195 then (8, 2 * (k - 185) + 1) else if k < 203 then (9, 3 * (k - 195) + 0) else if k < 211 then (9, 3 * (k - 203) + 1) else if k < 219 then (9, 3 * (k - 211) + 2) else if k = 219 then (0, 0) else if k = 220 then (0, 7) else if k = 221 then (0, 10) else if k = 222 then (0, 12) else (0, 14)
def cinv (z : Nat × Nat) : Nat := if z.1 = 2 then 12 + z.2 else if z.1 = 3 then 18 + z.2 else if z.1 = 4 then 42 + z.2 else if z.1 = 5 then 78 + z.2 else if z.1 = 6 then 114 + z.2 else if z.1 = 7 then 150 + 5 * (z.2 % 5) + z.2 / 5 else if z.1 = 8 then 175 + 10 * (z.2 % 2) + z.2 / 2 else if z.1 = 9 then 195 + 8 * (z.2 % 3) + z.2 / 3 else if z.2 = 0 then 219 else if z.2 = 7 then 220 else if z.2 = 10 then 221 else if z.2 = 12 then 222 else 223
theorem cinv_cl : ∀ k, k < 212 → cinv (cl (12 + k)) = 12 + k := by decide +kernel
theorem cl_wed : ∀ i, i < 6 → cl (12 + i) = (2, i) := by decide +kernel
theorem cl_rows : ∀ i, i < 24 → cl (18 + i) = (3, i) := by decide +kernel
theorem cl_ta : ∀ i, i < 36 → cl (42 + i) = (4, i) := by decide +kernel
theorem cl_us : ∀ i, i < 36 → cl (78 + i) = (5, i) := by decide +kernel
theorem cl_la : ∀ i, i < 36 → cl (114 + i) = (6, i) := by decide +kernel
theorem cl_sb : ∀ i, i < 5 → cl (150 + i) = (7, 5 * i + 0) := by decide +kernel
theorem cl_st : ∀ i, i < 5 → cl (155 + i) = (7, 5 * i + 1) := by decide +kernel
theorem cl_sw : ∀ i, i < 5 → cl (160 + i) = (7, 5 * i + 2) := by decide +kernel
theorem cl_si : ∀ i, i < 5 → cl (165 + i) = (7, 5 * i + 3) := by decide +kernel
theorem cl_ss : ∀ i, i < 5 → cl (170 + i) = (7, 5 * i + 4) := by decide +kernel
theorem cl_go : ∀ i, i < 10 → cl (175 + i) = (8, 2 * i) := by decide +kernel
theorem cl_wh : ∀ i, i < 10 → cl (185 + i) = (8, 2 * i + 1) := by decide +kernel
theorem cl_bb : ∀ i, i < 8 → cl (195 + i) = (9, 3 * i + 0) := by decide +kernel
theorem cl_bt : ∀ i, i < 8 → cl (203 + i) = (9, 3 * i + 1) := by decide +kernel
theorem cl_bl : ∀ i, i < 8 → cl (211 + i) = (9, 3 * i + 2) := by decide +kernel
theorem cl_8 : ∀ k, k < 212 → (cl (12 + k)).1 = 8 → 175 ≤ 12 + k ∧ 12 + k < 195 := by decide +kernel
theorem cl_10 : ∀ k, k < 212 → (cl (12 + k)).1 < 10 ∧ (cl (12 + k)).1 ≠ 1 := by decide +kernel
theorem up2_s {α : Type} (S : Nat → Nat → α) (c i : Nat) (x : α) : up2 S c i x c i = x := by
  unfold up2
  rw [if_pos rfl, va_up_self]
theorem up2_o {α : Type} (S : Nat → Nat → α) {c i b j : Nat} (x : α) (h : b ≠ c ∨ j ≠ i) : up2 S c i x b j = S b j := by
  unfold up2
  by_cases hb : b = c
  · rw [if_pos hb, va_up_ne _ _ (by omega)]
  · rw [if_neg hb]
def RM (tw : Nat → Int32) (S : Mi) : Prop := ∀ k, k < 225 → S (mloc k).1 (mloc k).2 = tw k
theorem RM_fr {tw : Nat → Int32} {S S' : Mi} (h : ∀ k, k < 225 → S' (mloc k).1 (mloc k).2 = S (mloc k).1 (mloc k).2) (hs : RM tw S) : RM tw S' := fun k hk => (h k hk).trans (hs k hk)
theorem RM_eq {tw tw' : Nat → Int32} {S : Mi} (h : ∀ k, k < 225 → tw k = tw' k) (hs : RM tw S) : RM tw' S := fun k hk => (hs k hk).trans (h k hk)
theorem RM_up {tw : Nat → Int32} {S : Mi} {k c i : Nat} (x : Int32) (hk : k < 225) (hl : mloc k = (c, i)) (hs : RM tw S) : RM (va_up tw k x) (up2 S c i x) := by
  intro j hj
  by_cases e : j = k
  · subst e
    rw [hl, up2_s, va_up_self]
  · rw [va_up_ne _ _ e, up2_o, hs j hj]
    refine Classical.byContradiction (fun g => e ?_)
    have e1 : mloc j = mloc k := by
      rw [hl]
      exact Prod.ext (Classical.byContradiction (fun z => g (.inl z))) (Classical.byContradiction (fun z => g (.inr z)))
    rw [← minv_mloc j hj, ← minv_mloc k hk, e1]
def kc (k : Nat) : Prop := 12 ≤ k ∧ k < 224 ∧ (k < 185 ∨ 195 ≤ k)
def RC (a : Nat) (tw : Nat → Int32) (S : Mi) : Prop := (∀ k, kc k → S (a + (cl k).1) (cl k).2 = tw k) ∧ ∀ i, i < 10 → tw (175 + i) = 1 → S (a + 8) (2 * i + 1) = tw (185 + i)
theorem RC_eq {a : Nat} {tw tw' : Nat → Int32} {S : Mi} (h : ∀ k, 12 ≤ k → k < 224 → tw k = tw' k) (hs : RC a tw S) : RC a tw' S := ⟨fun k hk => (hs.1 k hk).trans (h k hk.1 hk.2.1), fun i hi e => (hs.2 i hi ((h _ (by omega) (by omega)).trans e)).trans (h _ (by omega) (by omega))⟩
theorem RC_fr {a : Nat} {tw : Nat → Int32} {S S' : Mi} (h : ∀ b j, b < 10 → b ≠ 1 → S' (a + b) j = S (a + b) j) (hs : RC a tw S) : RC a tw S' := by
  refine ⟨fun k hk => ?_, fun i hi e => (h 8 _ (by decide) (by decide)).trans (hs.2 i hi e)⟩
  have := cl_10 (k - 12) (by have := hk.1; have := hk.2.1; omega)
  rw [show 12 + (k - 12) = k by have := hk.1; omega] at this
  exact (h _ _ this.1 this.2).trans (hs.1 k hk)
theorem RC_up {a : Nat} {tw : Nat → Int32} {S : Mi} {k c i : Nat} (x : Int32) (hk : kc k) (hp : k < 175 ∨ 195 ≤ k) (hl : cl k = (c, i)) (hs : RC a tw S) : RC a (va_up tw k x) (up2 S (a + c) i x) := by
  have h8 := cl_8 (k - 12) (by have := hk.1; have := hk.2.1; omega)
  rw [show 12 + (k - 12) = k by have := hk.1; omega, hl] at h8
  dsimp only at h8
  refine ⟨fun j hj => ?_, fun j hj e => ?_⟩
  · by_cases e : j = k
    · subst e
      rw [hl, up2_s, va_up_self]
    · rw [va_up_ne _ _ e, up2_o, hs.1 j hj]
      refine Classical.byContradiction (fun g => e ?_)
      have e1 : cl j = cl k := by
        rw [hl]
        exact Prod.ext (Classical.byContradiction (fun z => g (.inl (by omega)))) (Classical.byContradiction (fun z => g (.inr z)))
      have f1 := cinv_cl (j - 12) (by have := hj.1; have := hj.2.1; omega)
      have f2 := cinv_cl (k - 12) (by have := hk.1; have := hk.2.1; omega)
      rw [show 12 + (j - 12) = j by have := hj.1; omega] at f1
      rw [show 12 + (k - 12) = k by have := hk.1; omega] at f2
      rw [← f1, ← f2, e1]
  · rw [va_up_ne _ _ (by omega)] at e
    rw [va_up_ne _ _ (by omega), up2_o _ _ (.inl (by omega))]
    exact hs.2 j hj e
section A
variable {a : Nat} {tw : Nat → Int32} {S : Mi}
theorem RM_kind (h : RM tw S) : ∀ i, i < 6 → S 121 i = tw (0 + i) := fun i hi => by have := h (0 + i) (by omega); rw [ml_kind i hi] at this; exact this
theorem RM_v (h : RM tw S) : ∀ i, i < 6 → S 122 i = tw (6 + i) := fun i hi => by have := h (6 + i) (by omega); rw [ml_v i hi] at this; exact this
theorem RM_wed (h : RM tw S) : ∀ i, i < 6 → S 123 i = tw (12 + i) := fun i hi => by have := h (12 + i) (by omega); rw [ml_wed i hi] at this; exact this
theorem RM_rows (h : RM tw S) : ∀ i, i < 24 → S 124 i = tw (18 + i) := fun i hi => by have := h (18 + i) (by omega); rw [ml_rows i hi] at this; exact this
theorem RM_ta (h : RM tw S) : ∀ i, i < 36 → S 125 i = tw (42 + i) := fun i hi => by have := h (42 + i) (by omega); rw [ml_ta i hi] at this; exact this
theorem RM_us (h : RM tw S) : ∀ i, i < 36 → S 126 i = tw (78 + i) := fun i hi => by have := h (78 + i) (by omega); rw [ml_us i hi] at this; exact this
theorem RM_la (h : RM tw S) : ∀ i, i < 36 → S 127 i = tw (114 + i) := fun i hi => by have := h (114 + i) (by omega); rw [ml_la i hi] at this; exact this
theorem RM_sb (h : RM tw S) : ∀ i, i < 5 → S 136 i = tw (150 + i) := fun i hi => by have := h (150 + i) (by omega); rw [ml_sb i hi] at this; exact this
theorem RM_st (h : RM tw S) : ∀ i, i < 5 → S 137 i = tw (155 + i) := fun i hi => by have := h (155 + i) (by omega); rw [ml_st i hi] at this; exact this
theorem RM_sw (h : RM tw S) : ∀ i, i < 5 → S 138 i = tw (160 + i) := fun i hi => by have := h (160 + i) (by omega); rw [ml_sw i hi] at this; exact this
theorem RM_si (h : RM tw S) : ∀ i, i < 5 → S 139 i = tw (165 + i) := fun i hi => by have := h (165 + i) (by omega); rw [ml_si i hi] at this; exact this
theorem RM_ss (h : RM tw S) : ∀ i, i < 5 → S 140 i = tw (170 + i) := fun i hi => by have := h (170 + i) (by omega); rw [ml_ss i hi] at this; exact this
theorem RM_go (h : RM tw S) : ∀ i, i < 10 → S 141 i = tw (175 + i) := fun i hi => by have := h (175 + i) (by omega); rw [ml_go i hi] at this; exact this
theorem RM_wh (h : RM tw S) : ∀ i, i < 10 → S 142 i = tw (185 + i) := fun i hi => by have := h (185 + i) (by omega); rw [ml_wh i hi] at this; exact this
theorem RM_bb (h : RM tw S) : ∀ i, i < 8 → S 143 i = tw (195 + i) := fun i hi => by have := h (195 + i) (by omega); rw [ml_bb i hi] at this; exact this
theorem RM_bt (h : RM tw S) : ∀ i, i < 8 → S 144 i = tw (203 + i) := fun i hi => by have := h (203 + i) (by omega); rw [ml_bt i hi] at this; exact this
theorem RM_bl (h : RM tw S) : ∀ i, i < 8 → S 145 i = tw (211 + i) := fun i hi => by have := h (211 + i) (by omega); rw [ml_bl i hi] at this; exact this
theorem RM_np (h : RM tw S) : S 120 0 = tw 219 := h 219 (by decide)
theorem RM_dy (h : RM tw S) : S 120 8 = tw 220 := h 220 (by decide)
theorem RM_ns (h : RM tw S) : S 120 25 = tw 221 := h 221 (by decide)
theorem RM_nq (h : RM tw S) : S 120 31 = tw 222 := h 222 (by decide)
theorem RM_nb (h : RM tw S) : S 120 34 = tw 223 := h 223 (by decide)
theorem RM_hl (h : RM tw S) : S 120 16 = tw 224 := h 224 (by decide)
theorem RC_wed (h : RC a tw S) : ∀ i, i < 6 → S (a + 2) i = tw (12 + i) := fun i hi => by have := h.1 (12 + i) (by unfold kc; omega); rw [cl_wed i hi] at this; exact this
theorem RC_rows (h : RC a tw S) : ∀ i, i < 24 → S (a + 3) i = tw (18 + i) := fun i hi => by have := h.1 (18 + i) (by unfold kc; omega); rw [cl_rows i hi] at this; exact this
theorem RC_ta (h : RC a tw S) : ∀ i, i < 36 → S (a + 4) i = tw (42 + i) := fun i hi => by have := h.1 (42 + i) (by unfold kc; omega); rw [cl_ta i hi] at this; exact this
theorem RC_us (h : RC a tw S) : ∀ i, i < 36 → S (a + 5) i = tw (78 + i) := fun i hi => by have := h.1 (78 + i) (by unfold kc; omega); rw [cl_us i hi] at this; exact this
theorem RC_la (h : RC a tw S) : ∀ i, i < 36 → S (a + 6) i = tw (114 + i) := fun i hi => by have := h.1 (114 + i) (by unfold kc; omega); rw [cl_la i hi] at this; exact this
theorem RC_sb (h : RC a tw S) : ∀ i, i < 5 → S (a + 7) (5 * i + 0) = tw (150 + i) := fun i hi => by have := h.1 (150 + i) (by unfold kc; omega); rw [cl_sb i hi] at this; exact this
theorem RC_st (h : RC a tw S) : ∀ i, i < 5 → S (a + 7) (5 * i + 1) = tw (155 + i) := fun i hi => by have := h.1 (155 + i) (by unfold kc; omega); rw [cl_st i hi] at this; exact this
theorem RC_sw (h : RC a tw S) : ∀ i, i < 5 → S (a + 7) (5 * i + 2) = tw (160 + i) := fun i hi => by have := h.1 (160 + i) (by unfold kc; omega); rw [cl_sw i hi] at this; exact this
theorem RC_si (h : RC a tw S) : ∀ i, i < 5 → S (a + 7) (5 * i + 3) = tw (165 + i) := fun i hi => by have := h.1 (165 + i) (by unfold kc; omega); rw [cl_si i hi] at this; exact this
theorem RC_ss (h : RC a tw S) : ∀ i, i < 5 → S (a + 7) (5 * i + 4) = tw (170 + i) := fun i hi => by have := h.1 (170 + i) (by unfold kc; omega); rw [cl_ss i hi] at this; exact this
theorem RC_go (h : RC a tw S) : ∀ i, i < 10 → S (a + 8) (2 * i) = tw (175 + i) := fun i hi => by have := h.1 (175 + i) (by unfold kc; omega); rw [cl_go i hi] at this; exact this
theorem RC_bb (h : RC a tw S) : ∀ i, i < 8 → S (a + 9) (3 * i + 0) = tw (195 + i) := fun i hi => by have := h.1 (195 + i) (by unfold kc; omega); rw [cl_bb i hi] at this; exact this
theorem RC_bt (h : RC a tw S) : ∀ i, i < 8 → S (a + 9) (3 * i + 1) = tw (203 + i) := fun i hi => by have := h.1 (203 + i) (by unfold kc; omega); rw [cl_bt i hi] at this; exact this
theorem RC_bl (h : RC a tw S) : ∀ i, i < 8 → S (a + 9) (3 * i + 2) = tw (211 + i) := fun i hi => by have := h.1 (211 + i) (by unfold kc; omega); rw [cl_bl i hi] at this; exact this
theorem RC_np (h : RC a tw S) : S a 0 = tw 219 := h.1 219 (by unfold kc; omega)
theorem RC_dy (h : RC a tw S) : S a 7 = tw 220 := h.1 220 (by unfold kc; omega)
theorem RC_ns (h : RC a tw S) : S a 10 = tw 221 := h.1 221 (by unfold kc; omega)
theorem RC_nq (h : RC a tw S) : S a 12 = tw 222 := h.1 222 (by unfold kc; omega)
theorem RC_nb (h : RC a tw S) : S a 14 = tw 223 := h.1 223 (by unfold kc; omega)
end A
end

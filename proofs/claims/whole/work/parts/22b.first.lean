noncomputable section
/-! THE FIRST STATE: what the constructors leave. -/
def SF (S : Mi) : Prop := (∀ b j, ¬ (b = 120 ∧ j = 16) → b ≠ 152 → b ≠ 82 → S b j = 0) ∧ S 120 16 = -1 ∧ (∀ t, t < 6 → S 152 t = -1) ∧ ∀ t, t < 6 → S 82 t = -1
def PF (P : Mr) : Prop := PBi 6 P ∧ fa moL P
def tw0 (i : Nat) : Int32 := if i = 224 then -1 else 0
def d0 (k i : Nat) : Int32 := if k ≤ 1 then tw0 i else if k = 4 then -1 else 0
theorem tw0_0 {i : Nat} (h : i ≠ 224) : tw0 i = 0 := if_neg h
theorem mloc_0 : ∀ k, k < 224 → ¬ ((mloc k).1 = 120 ∧ (mloc k).2 = 16) ∧ (mloc k).1 ≠ 152 ∧ (mloc k).1 ≠ 82 := by decide +kernel
theorem TwOk_0 : TwOk tw0 0 0 0 := by
  refine ⟨⟨rfl, by decide⟩, ⟨rfl, by decide⟩, .inl rfl, fun p hp => absurd hp (Nat.not_lt_zero _), fun i hi => ?_, fun i hi => ⟨0, by decide, ?_⟩, ⟨0, by decide, rfl, fun i hi => absurd hi (Nat.not_lt_zero _)⟩, ⟨0, by decide, rfl, fun i hi => absurd hi (Nat.not_lt_zero _)⟩, ⟨0, by decide, rfl, fun i hi => absurd hi (Nat.not_lt_zero _)⟩⟩
  · rw [tw0_0 (by omega), t_0]; omega
  · rw [tw0_0 (by omega)]; rfl
theorem inv0 {K : Mk} {S : Mi} {G : Ml} {P : Mr} (hS : SF S) (hG : Zg G) (hP : PF P) : InvA 123 K S G P := by
  obtain ⟨s1, s2, s3, s4⟩ := hS
  obtain ⟨⟨⟨pb, nn, p75⟩, pk⟩, pm⟩ := hP
  refine ⟨fun _ => 0, d0, fun _ => 0, fun _ => (0, fun _ => true), ?_, ?_, ?_, ?_, Nat.le_refl _⟩
  · refine ⟨⟨⟨⟨fun k hk => ?_, fun i hi e => ?_⟩, fun p hp => absurd hp (Nat.not_lt_zero _), nn.1⟩, s1 _ _ (by decide) (by decide) (by decide), fun e => absurd e (by decide)⟩, ⟨fun k hk => absurd hk (Nat.not_lt_zero _), s1 _ _ (by decide) (by decide) (by decide), fun i hi => (pk i hi).2⟩, ⟨s1 _ _ (by decide) (by decide) (by decide), fun i hi => absurd hi (Nat.not_lt_zero _)⟩, ⟨fun t ht => ⟨s4 t ht, s1 _ _ (by omega) (by decide) (by decide), p75 t ht⟩, fun t i ht hi => hG _ _⟩, s1 _ _ (by decide) (by decide) (by decide), fun i hi hj => absurd hj (Nat.not_lt_zero _)⟩
    · have c := cl_10 (k - 12) (by have := hk.1; have := hk.2.1; omega)
      rw [show 12 + (k - 12) = k by have := hk.1; omega] at c
      rw [s1 _ _ (by omega) (by omega) (by omega)]
      exact (tw0_0 (by have := hk.2.1; omega)).symm
    · exact absurd ((tw0_0 (show 175 + i ≠ 224 by omega)).symm.trans e) (by decide)
  · refine ⟨⟨fun k hk => ?_, s1 _ _ (by decide) (by decide) (by decide), fun e => absurd e (by decide)⟩, ⟨s1 _ _ (by decide) (by decide) (by decide), 0, s1 _ _ (by decide) (by decide) (by decide), Nat.zero_le _, fun k hk => absurd hk (Nat.not_lt_zero _)⟩, ⟨s1 _ _ (by decide) (by decide) (by decide), fun i hi => absurd hi (Nat.not_lt_zero _)⟩, ⟨fun t ht => ⟨s3 t ht, s1 _ _ (by omega) (by decide) (by decide)⟩, fun i hi => hG _ _⟩, s1 _ _ (by decide) (by decide) (by decide), fun i hi hj => absurd hj (Nat.not_lt_zero _)⟩
    by_cases e : k = 224
    · subst e; exact s2
    · obtain ⟨m1, m2, m3⟩ := mloc_0 k (by omega)
      rw [s1 _ _ m1 m2 m3]
      exact (tw0_0 e).symm
  · exact ⟨TwOk_0, by decide, .inl rfl, by decide, ⟨by decide, fun i hi => absurd hi (Nat.not_lt_zero _)⟩, fun t ht => .inl ⟨rfl, rfl⟩, by decide⟩
  · exact ⟨fun i hi => .inl (nn.2.1 i), fun i hi => .inl (nn.2.2 i)⟩
/-- references that each object of the beginning holds for good -/
def finL : List (Nat × Nat × Nat) := lB ++ (stL 84 ++ (stL 90 ++ (stL 96 ++ (stL 102 ++ (stL 108 ++ (stL 114 ++ moL))))))
theorem PF_fin {P : Mr} (h : PF P) : fa finL P := by
  obtain ⟨⟨⟨pb, nn, p75⟩, pk⟩, pm⟩ := h
  exact fa_app pb (fa_app (pk 0 (by decide)).1 (fa_app (pk 1 (by decide)).1 (fa_app (pk 2 (by decide)).1 (fa_app (pk 3 (by decide)).1 (fa_app (pk 4 (by decide)).1 (fa_app (pk 5 (by decide)).1 pm))))))
def okFs (i d : Nat) (gs : List (Option Nat)) (k : Nat) : Bool := match gs.getD k none with
  | none => true
  | some x => decide (fk d k = 2) && finL.contains (i + 32, k, x)
def okC (i : Nat) : Bool := match T0.2.1 i, T1.2.1 i with
  | .inl a, .inl b => decide (a = b)
  | .inr (c, fs), .inr (d, gs) => decide (c = d) && (decide (fs = List.replicate gs.length none) && (List.range gs.length).all (okFs i d gs))
  | _, _ => false
theorem okC_all : (List.range 123).all okC = true := by decide +kernel
theorem cel_01 {E : En} {P : Mr} (hP : PF P) {i : Nat} (hi : i < 123) (f : Nat → Int32) (g : Nat → Int64) : cel E (T0.2.1 i) f g (P (i + 32)) = cel E (T1.2.1 i) f g (P (i + 32)) := by
  have ok := List.all_eq_true.mp okC_all i (List.mem_range.mpr hi)
  unfold okC at ok
  cases h0 : T0.2.1 i with
  | inl a =>
    cases h1 : T1.2.1 i with
    | inl b =>
      rw [h0, h1] at ok
      rw [of_decide_eq_true ok]
    | inr b => rw [h0, h1] at ok; cases ok
  | inr a =>
    obtain ⟨c, fs⟩ := a
    cases h1 : T1.2.1 i with
    | inl b => rw [h0, h1] at ok; cases ok
    | inr b =>
      obtain ⟨d, gs⟩ := b
      rw [h0, h1] at ok
      simp only [Bool.and_eq_true, decide_eq_true_eq] at ok
      obtain ⟨e1, e2, e3⟩ := ok
      subst e1 e2
      show (Sum.inr (c, fvs E c (List.replicate gs.length none) f (P (i + 32))) : va_E) = Sum.inr (c, fvs E c gs f (P (i + 32)))
      congr 2
      unfold fvs
      rw [List.length_replicate]
      refine List.map_congr_left (fun k hk => ?_)
      have ok2 := List.all_eq_true.mp e3 k hk
      have hn : (List.replicate gs.length (none : Option Nat)).getD k none = none := by
        rw [List.getD_eq_getElem?_getD, List.getElem?_replicate]
        split <;> rfl
      unfold fvl
      rw [hn]
      unfold okFs at ok2
      cases hg : gs.getD k none with
      | none => rfl
      | some x =>
        rw [hg] at ok2
        simp only [Bool.and_eq_true, decide_eq_true_eq] at ok2
        have hx : P (i + 32) k = some x := fa_mem (PF_fin hP) (i + 32, k, x) (List.contains_iff_mem.mp ok2.2)
        dsimp only
        rw [if_pos ok2.1, hx]
        rfl
theorem Wh_01 {E : En} {K : Mk} {S : Mi} {G : Ml} {P : Mr} {H : Heap} (hP : PF P) (h : Wh E T0 123 K S G P H) : Wh E T1 123 K S G P H := by
  refine ⟨Nat.le_refl _, ?_⟩
  have e : wsl E T1 123 K S G P = wsl E T0 123 K S G P := by
    unfold wsl
    refine List.map_congr_left (fun i hi => ?_)
    have h123 := List.mem_range.mp hi
    have e0 : shp T0 K (i + 32) = T0.2.1 i := by
      unfold shp
      rw [show Nat.beq T0.2.2 0 = true from rfl, Bool.or_true, cond_true, Nat.add_sub_cancel]
    have e1 : shp T1 K (i + 32) = T1.2.1 i := by
      unfold shp
      rw [Nat.add_sub_cancel, show Nat.blt i T1.1 = true from Nat.blt_eq.mpr h123, Bool.true_or, cond_true]
    rw [e0, e1, cel_01 hP h123]
  rw [e]
  exact h.2
end

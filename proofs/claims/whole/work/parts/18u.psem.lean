noncomputable section
theorem PSem_le {h h' : Nat} {r : PRs} (hh : h ≤ h') (p : PSem h r) : PSem h' r := by
  obtain ⟨a1, a2, a3, g, a4⟩ := p
  exact ⟨a1, a2, a3, g, fun lim vals => ⟨PuC_le hh (a4 lim vals).1, (a4 lim vals).2⟩⟩
theorem PSem_n {h : Nat} {r : PRs} {b : Bool} {p : Nat} (hr : PSem h r) : PSem h (b, p, r.2.2.1 ++ [0], r.2.2.2 ++ [0]) := by
  obtain ⟨a1, a2, a3, g, a4⟩ := hr
  refine ⟨mem_ap a1 zero_lt3, mem_ap a2 zero_lt3, ?_, fun v => !g v, fun lim vals => ⟨PuC_not (a4 lim vals).1, ?_⟩⟩
  · show 1 ≤ (r.2.2.2 ++ [0]).length
    rw [List.length_append]; omega
  · refine PuC_le ?_ (PuC_not (a4 lim vals).2)
    show _ ≤ (r.2.2.2 ++ [0]).length
    rw [List.length_append]; omega
theorem psr_sem {t : Nat → Nat} {sz : Nat} : ∀ f, SemF t sz f := by
  intro f
  induction f with
  | zero => exact fun d p _ => ⟨fun h => (by cases h), fun h => (by cases h), fun h => (by cases h)⟩
  | succ f ih =>
    intro d p hd
    refine ⟨fun h => ?_, fun h => ?_, fun h => ?_⟩
    · have e : psr t sz (f + 1) 0 d p = pF t sz (psr t sz f) d p := rfl
      rw [e] at h ⊢
      unfold pF at h ⊢
      by_cases c1 : d < 4 ∧ isC t sz 33 p = true
      · rw [if_pos c1] at h ⊢
        have h' : (psr t sz f 0 (d + 1) (p + 1)).1 = true := h
        rw [if_pos h']
        exact PSem_n (PSem_le (by omega) ((ih (d + 1) (p + 1) (by omega)).1 h'))
      · rw [if_neg c1] at h ⊢
        by_cases c2 : d < 4 ∧ isC t sz 40 p = true
        · rw [if_pos c2] at h ⊢
          by_cases c3 : (pE (psr t sz f) (d + 1) (p + 1)).1 = true ∧ isC t sz 41 (pE (psr t sz f) (d + 1) (p + 1)).2.1 = true
          · rw [if_pos c3]
            have := PSem_le (h' := 2 * (4 - d) + 1) (by omega) (pE_sem ih (show d + 1 ≤ 4 by omega) c3.1)
            exact this
          · rw [if_neg c3] at h
            cases h
        · rw [if_neg c2] at h ⊢
          cases hz : tst t sz p with
          | mk o p' =>
            rw [hz] at h
            cases o with
            | none => cases h
            | some c =>
              have hc := tst_code hz
              have m1 : ∀ x, x ∈ [c] → x < 1803 := fun x hx => by rw [List.mem_singleton] at hx; rw [hx]; exact hc.2
              exact ⟨m1, m1, Nat.le_refl _, fun v => tsB (c - 3) v, fun lim vals => ⟨PuC_le (by omega) (PuC_test hc.1), PuC_test hc.1⟩⟩
    · have e : psr t sz (f + 1) 1 d p = pTT t sz 38 1 (psr t sz f 0 d) (psr t sz f 1 d) p := rfl
      rw [e] at h ⊢
      by_cases c : isC t sz 38 p = true
      · by_cases c2 : (psr t sz f 0 d (p + 1)).1 = true
        · rw [pTT_t1 c c2] at h ⊢
          have h' : (psr t sz f 1 d (psr t sz f 0 d (p + 1)).2.1).1 = true := h
          rw [if_pos h']
          exact ASem_s ((ih d (p + 1) hd).1 c2) ((ih d _ hd).2.1 h')
        · rw [pTT_t0 c c2] at h; cases h
      · rw [pTT_f c]; exact ASem_0
    · have e : psr t sz (f + 1) 2 d p = pTT t sz 124 2 (pT (psr t sz f) d) (psr t sz f 2 d) p := rfl
      rw [e] at h ⊢
      by_cases c : isC t sz 124 p = true
      · by_cases c2 : (pT (psr t sz f) d (p + 1)).1 = true
        · rw [pTT_t1 c c2] at h ⊢
          have h' : (psr t sz f 2 d (pT (psr t sz f) d (p + 1)).2.1).1 = true := h
          rw [if_pos h']
          exact OSem_s (pT_sem ih hd c2) ((ih d _ hd).2.2 h')
        · rw [pTT_t0 c c2] at h; cases h
      · rw [pTT_f c]; exact OSem_0
end

noncomputable section
theorem ASem_0 {h p : Nat} : ASem h (true, p, [], []) := ⟨fun c hc => absurd hc List.not_mem_nil, fun c hc => absurd hc List.not_mem_nil, fun _ => true, fun lim vals => ⟨fun st x _ => by show some (x :: st) = some ((x && true) :: st); rw [Bool.and_true], fun st x _ => by show some (x :: st) = some ((x && true) :: st); rw [Bool.and_true]⟩⟩
theorem OSem_0 {h p : Nat} : OSem h (true, p, [], []) := ⟨fun c hc => absurd hc List.not_mem_nil, fun c hc => absurd hc List.not_mem_nil, fun _ => false, fun lim vals => ⟨fun st x _ => by show some (x :: st) = some ((x || false) :: st); rw [Bool.or_false], fun st x _ => by show some (x :: st) = some ((x || false) :: st); rw [Bool.or_false]⟩⟩
theorem one_lt : ∀ c, c ∈ [1] → c < 1803 := by decide
theorem two_lt : ∀ c, c ∈ [2] → c < 1803 := by decide
theorem ASem_s {h : Nat} {r q : PRs} {b : Bool} {p : Nat} (hr : PSem h r) (hq : ASem h q) : ASem h (b, p, r.2.2.1 ++ [1] ++ q.2.2.1, r.2.2.2 ++ q.2.2.2 ++ [1]) := by
  obtain ⟨a1, a2, a3, g, a4⟩ := hr
  obtain ⟨b1, b2, k, b4⟩ := hq
  refine ⟨mem_ap (mem_ap a1 one_lt) b1, mem_ap (mem_ap a2 b2) one_lt, fun v => g v && k v, fun lim vals => ⟨?_, ?_⟩⟩
  · have e := OpC_op (h := h) (OpC_and (a4 lim vals).1) (b4 lim vals).1 (Nat.le_refl _) (Nat.le_refl _)
    simp only [Bool.and_assoc] at e
    exact e
  · have p0 := PuC_op (h := (r.2.2.2 ++ q.2.2.2).length) (h1 := r.2.2.2.length) (h2 := q.2.2.2.length) (o := fun x => x && k vals) (a4 lim vals).2 (b4 lim vals).2 (by rw [List.length_append]; omega) (by rw [List.length_append]; omega)
    have e := OpC_and p0
    refine fun st x hs => e st x ?_
    have hs' : st.length + 1 + (r.2.2.2 ++ q.2.2.2 ++ [1]).length ≤ lim := hs
    rw [List.length_append] at hs'
    omega
theorem OSem_s {h : Nat} {r q : PRs} {b : Bool} {p : Nat} (hr : PSem h r) (hq : OSem h q) : OSem h (b, p, r.2.2.1 ++ [2] ++ q.2.2.1, r.2.2.2 ++ q.2.2.2 ++ [2]) := by
  obtain ⟨a1, a2, a3, g, a4⟩ := hr
  obtain ⟨b1, b2, k, b4⟩ := hq
  refine ⟨mem_ap (mem_ap a1 two_lt) b1, mem_ap (mem_ap a2 b2) two_lt, fun v => g v || k v, fun lim vals => ⟨?_, ?_⟩⟩
  · have e := OpC_op (h := h) (OpC_or (a4 lim vals).1) (b4 lim vals).1 (Nat.le_refl _) (Nat.le_refl _)
    simp only [Bool.or_assoc] at e
    exact e
  · have p0 := PuC_op (h := (r.2.2.2 ++ q.2.2.2).length) (h1 := r.2.2.2.length) (h2 := q.2.2.2.length) (o := fun x => x || k vals) (a4 lim vals).2 (b4 lim vals).2 (by rw [List.length_append]; omega) (by rw [List.length_append]; omega)
    have e := OpC_or p0
    refine fun st x hs => e st x ?_
    have hs' : st.length + 1 + (r.2.2.2 ++ q.2.2.2 ++ [2]).length ≤ lim := hs
    rw [List.length_append] at hs'
    omega
end

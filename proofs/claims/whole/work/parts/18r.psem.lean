noncomputable section
/-! EACH READ CLAUSE SAYS THE SAME ON BOTH SIDES. -/
def PSem (h : Nat) (r : PRs) : Prop := (∀ c, c ∈ r.2.2.1 → c < 1803) ∧ (∀ c, c ∈ r.2.2.2 → c < 1803) ∧ 1 ≤ r.2.2.2.length ∧ ∃ g : (Nat → Int32) → Bool, ∀ lim vals, PuC lim h r.2.2.1 vals (g vals) ∧ PuC lim r.2.2.2.length r.2.2.2 vals (g vals)
def ASem (h : Nat) (r : PRs) : Prop := (∀ c, c ∈ r.2.2.1 → c < 1803) ∧ (∀ c, c ∈ r.2.2.2 → c < 1803) ∧ ∃ g : (Nat → Int32) → Bool, ∀ lim vals, OpC lim h r.2.2.1 vals (fun x => x && g vals) ∧ OpC lim r.2.2.2.length r.2.2.2 vals (fun x => x && g vals)
def OSem (h : Nat) (r : PRs) : Prop := (∀ c, c ∈ r.2.2.1 → c < 1803) ∧ (∀ c, c ∈ r.2.2.2 → c < 1803) ∧ ∃ g : (Nat → Int32) → Bool, ∀ lim vals, OpC lim h r.2.2.1 vals (fun x => x || g vals) ∧ OpC lim r.2.2.2.length r.2.2.2 vals (fun x => x || g vals)
theorem mem_ap {l1 l2 : List Nat} (h1 : ∀ c, c ∈ l1 → c < 1803) (h2 : ∀ c, c ∈ l2 → c < 1803) : ∀ c, c ∈ l1 ++ l2 → c < 1803 := fun c hc => by
  rw [List.mem_append] at hc
  exact hc.elim (h1 c) (h2 c)
theorem PSem_A {h : Nat} {r q : PRs} {b : Bool} {p : Nat} (hr : PSem h r) (hq : ASem h q) : PSem (h + 1) (b, p, r.2.2.1 ++ q.2.2.1, r.2.2.2 ++ q.2.2.2) := by
  obtain ⟨a1, a2, a3, g, a4⟩ := hr
  obtain ⟨b1, b2, k, b4⟩ := hq
  refine ⟨mem_ap a1 b1, mem_ap a2 b2, ?_, fun v => g v && k v, fun lim vals => ⟨?_, ?_⟩⟩
  · show 1 ≤ (r.2.2.2 ++ q.2.2.2).length
    rw [List.length_append]; omega
  · exact PuC_op (h1 := h) (h2 := h) (o := fun x => x && k vals) (a4 lim vals).1 (b4 lim vals).1 (Nat.le_succ h) (by omega)
  · refine PuC_op (h1 := r.2.2.2.length) (h2 := q.2.2.2.length) (o := fun x => x && k vals) (a4 lim vals).2 (b4 lim vals).2 ?_ ?_
    · show _ ≤ (r.2.2.2 ++ q.2.2.2).length
      rw [List.length_append]; omega
    · show _ ≤ (r.2.2.2 ++ q.2.2.2).length
      rw [List.length_append]; omega
theorem PSem_O {h : Nat} {r q : PRs} {b : Bool} {p : Nat} (hr : PSem h r) (hq : OSem h q) : PSem (h + 1) (b, p, r.2.2.1 ++ q.2.2.1, r.2.2.2 ++ q.2.2.2) := by
  obtain ⟨a1, a2, a3, g, a4⟩ := hr
  obtain ⟨b1, b2, k, b4⟩ := hq
  refine ⟨mem_ap a1 b1, mem_ap a2 b2, ?_, fun v => g v || k v, fun lim vals => ⟨?_, ?_⟩⟩
  · show 1 ≤ (r.2.2.2 ++ q.2.2.2).length
    rw [List.length_append]; omega
  · exact PuC_op (h1 := h) (h2 := h) (o := fun x => x || k vals) (a4 lim vals).1 (b4 lim vals).1 (Nat.le_succ h) (by omega)
  · refine PuC_op (h1 := r.2.2.2.length) (h2 := q.2.2.2.length) (o := fun x => x || k vals) (a4 lim vals).2 (b4 lim vals).2 ?_ ?_
    · show _ ≤ (r.2.2.2 ++ q.2.2.2).length
      rw [List.length_append]; omega
    · show _ ≤ (r.2.2.2 ++ q.2.2.2).length
      rw [List.length_append]; omega
end

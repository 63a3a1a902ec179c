noncomputable section
/-! ROWS OF ROWS, on the machine (the library's own law of the instruction). -/
theorem outer_arr (c : ClassId) (N h0 : Nat) : ∀ i, Jvm.Free.Multi.outerC c N h0 i = arrV c N (fun j => if j < i then .ref (h0 + 1 + j) else .null)
  | 0 => by
    show ({ cls := c, slots := Array.replicate N .null, vm := .none } : Cell) = _
    rw [arrV_new]
    congr 1
  | i + 1 => by
    show (Jvm.Free.Multi.outerC c N h0 i).setSlot i (.ref (h0 + 1 + i)) = _
    rw [outer_arr c N h0 i, arrV_store]
    congr 1
    funext j
    unfold updV
    by_cases e : j = i
    · subst e
      simp
    · by_cases h : j < i
      · simp [e, h, show j < i + 1 by omega]
      · simp [e, h, show ¬ j < i + 1 by omega]
theorem mu_step (l : Launch) : MuStep l := by
  intro p e R s m args below meth c T locs cells slots g rest X hx hown hlink hover harr hg hdg hst hcells hslots
  have es : "[" ++ (FieldType.array .long).toString = "[[J" := by decide
  have es2 : (FieldType.array .long).toString = "[J" := by decide
  obtain ⟨vm₁, cA, comp, hW, hfA, hfC, hO, hI, X1, step⟩ := X.multianewarray2F hx (own := "RefusedTwice") (index := 59) (ty := .long) hown (by rw [es]; exact hlink) hover harr hg hdg (n := 6) (k := 60) (rest := rest) hst (by decide) (by decide) (by decide) (by decide) (by decide) rfl rfl (by show cells + (1 + 6) ≤ R.cells; omega) (by show slots + (6 + 6 * 60) ≤ R.slots; omega)
  have e6 : (6 : Int32).toNatClampNeg = 6 := by decide
  have e60 : (60 : Int32).toNatClampNeg = 60 := by decide
  rw [e6, e60] at X1 step
  rw [es] at hfA
  rw [es2] at hfC
  obtain ⟨f1, f2, f3, f4⟩ := Jvm.Free.Multi.fill_facts (T.setVm vm₁) cA comp 6 60 (defaultValue .long) 6
  refine ⟨Jvm.Free.Multi.fill (T.setVm vm₁) cA comp 6 60 (defaultValue .long) 6, cA, comp, hfA, hfC, f1, fun a ha => ?_, ?_, fun j hj => ?_, X1, step⟩
  · exact Jvm.Free.Multi.fill_old (T.setVm vm₁) cA comp 6 60 (defaultValue .long) ha 6
  · rw [← outer_arr]
    exact f2
  · rw [← arrV_new]
    exact Jvm.Free.Multi.fill_inner (T.setVm vm₁) cA comp 6 60 (defaultValue .long) 6 j hj
end

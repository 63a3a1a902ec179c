theorem plOk_13 : plOk 13 = true := by
  unfold plOk
  refine List.all_eq_true.mpr (fun q hq => ?_)
  obtain ⟨i, hi⟩ := List.getElem?_of_mem hq
  have hl : i < (plo 13).length := (List.getElem?_eq_some_iff.mp hi).1
  have hz : (plo 13).length = 67 := by decide +kernel
  by_cases h25 : i < 25
  · exact List.all_eq_true.mp plO_13_0 q (List.mem_of_getElem? (i := i - 0) (by rw [List.getElem?_take, if_pos (by omega), List.getElem?_drop, show 0 + (i - 0) = i by omega]; exact hi))
  by_cases h50 : i < 50
  · exact List.all_eq_true.mp plO_13_25 q (List.mem_of_getElem? (i := i - 25) (by rw [List.getElem?_take, if_pos (by omega), List.getElem?_drop, show 25 + (i - 25) = i by omega]; exact hi))
  by_cases h67 : i < 67
  · exact List.all_eq_true.mp plO_13_50 q (List.mem_of_getElem? (i := i - 50) (by rw [List.getElem?_take, if_pos (by omega), List.getElem?_drop, show 50 + (i - 50) = i by omega]; exact hi))
  exact absurd (hz ▸ hl) h67

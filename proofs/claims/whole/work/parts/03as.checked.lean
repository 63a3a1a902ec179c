theorem plOk_12 : plOk 12 = true := by
  unfold plOk
  refine List.all_eq_true.mpr (fun q hq => ?_)
  obtain ⟨i, hi⟩ := List.getElem?_of_mem hq
  have hl : i < (plo 12).length := (List.getElem?_eq_some_iff.mp hi).1
  have hz : (plo 12).length = 112 := by decide +kernel
  by_cases h25 : i < 25
  · exact List.all_eq_true.mp plO_12_0 q (List.mem_of_getElem? (i := i - 0) (by rw [List.getElem?_take, if_pos (by omega), List.getElem?_drop, show 0 + (i - 0) = i by omega]; exact hi))
  by_cases h50 : i < 50
  · exact List.all_eq_true.mp plO_12_25 q (List.mem_of_getElem? (i := i - 25) (by rw [List.getElem?_take, if_pos (by omega), List.getElem?_drop, show 25 + (i - 25) = i by omega]; exact hi))
  by_cases h75 : i < 75
  · exact List.all_eq_true.mp plO_12_50 q (List.mem_of_getElem? (i := i - 50) (by rw [List.getElem?_take, if_pos (by omega), List.getElem?_drop, show 50 + (i - 50) = i by omega]; exact hi))
  by_cases h100 : i < 100
  · exact List.all_eq_true.mp plO_12_75 q (List.mem_of_getElem? (i := i - 75) (by rw [List.getElem?_take, if_pos (by omega), List.getElem?_drop, show 75 + (i - 75) = i by omega]; exact hi))
  by_cases h112 : i < 112
  · exact List.all_eq_true.mp plO_12_100 q (List.mem_of_getElem? (i := i - 100) (by rw [List.getElem?_take, if_pos (by omega), List.getElem?_drop, show 100 + (i - 100) = i by omega]; exact hi))
  exact absurd (hz ▸ hl) h112

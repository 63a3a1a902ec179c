theorem plOk_12 : plOk 12 = true := by
  unfold plOk
  refine List.all_eq_true.mpr (fun q hq => ?_)
  obtain ⟨i, hi⟩ := List.getElem?_of_mem hq
  have hl : i < (plo 12).length := (List.getElem?_eq_some_iff.mp hi).1
  have hz : (plo 12).length = 112 := by decide +kernel
  by_cases h12 : i < 12
  · exact List.all_eq_true.mp plO_12_0 q (List.mem_of_getElem? (i := i - 0) (by rw [List.getElem?_take, if_pos (by omega), List.getElem?_drop, show 0 + (i - 0) = i by omega]; exact hi))
  by_cases h24 : i < 24
  · exact List.all_eq_true.mp plO_12_12 q (List.mem_of_getElem? (i := i - 12) (by rw [List.getElem?_take, if_pos (by omega), List.getElem?_drop, show 12 + (i - 12) = i by omega]; exact hi))
  by_cases h36 : i < 36
  · exact List.all_eq_true.mp plO_12_24 q (List.mem_of_getElem? (i := i - 24) (by rw [List.getElem?_take, if_pos (by omega), List.getElem?_drop, show 24 + (i - 24) = i by omega]; exact hi))
  by_cases h48 : i < 48
  · exact List.all_eq_true.mp plO_12_36 q (List.mem_of_getElem? (i := i - 36) (by rw [List.getElem?_take, if_pos (by omega), List.getElem?_drop, show 36 + (i - 36) = i by omega]; exact hi))
  by_cases h60 : i < 60
  · exact List.all_eq_true.mp plO_12_48 q (List.mem_of_getElem? (i := i - 48) (by rw [List.getElem?_take, if_pos (by omega), List.getElem?_drop, show 48 + (i - 48) = i by omega]; exact hi))
  by_cases h72 : i < 72
  · exact List.all_eq_true.mp plO_12_60 q (List.mem_of_getElem? (i := i - 60) (by rw [List.getElem?_take, if_pos (by omega), List.getElem?_drop, show 60 + (i - 60) = i by omega]; exact hi))
  by_cases h84 : i < 84
  · exact List.all_eq_true.mp plO_12_72 q (List.mem_of_getElem? (i := i - 72) (by rw [List.getElem?_take, if_pos (by omega), List.getElem?_drop, show 72 + (i - 72) = i by omega]; exact hi))
  by_cases h96 : i < 96
  · exact List.all_eq_true.mp plO_12_84 q (List.mem_of_getElem? (i := i - 84) (by rw [List.getElem?_take, if_pos (by omega), List.getElem?_drop, show 84 + (i - 84) = i by omega]; exact hi))
  by_cases h108 : i < 108
  · exact List.all_eq_true.mp plO_12_96 q (List.mem_of_getElem? (i := i - 96) (by rw [List.getElem?_take, if_pos (by omega), List.getElem?_drop, show 96 + (i - 96) = i by omega]; exact hi))
  by_cases h112 : i < 112
  · exact List.all_eq_true.mp plO_12_108 q (List.mem_of_getElem? (i := i - 108) (by rw [List.getElem?_take, if_pos (by omega), List.getElem?_drop, show 108 + (i - 108) = i by omega]; exact hi))
  exact absurd (hz ▸ hl) h112

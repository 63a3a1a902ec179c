theorem lays_ok : (List.range 13).all layOk = true := by decide +kernel
theorem tabs_law : tabOk 214 = true := by
  refine List.all_eq_true.mpr (fun pc hpc => ?_)
  have h0 : pc < 1232 := List.mem_range.mp hpc
  by_cases h256 : pc < 256
  · exact List.all_eq_true.mp tabL_0 pc (List.mem_map.mpr ⟨pc - 0, List.mem_range.mpr (by omega), by omega⟩)
  by_cases h512 : pc < 512
  · exact List.all_eq_true.mp tabL_256 pc (List.mem_map.mpr ⟨pc - 256, List.mem_range.mpr (by omega), by omega⟩)
  by_cases h768 : pc < 768
  · exact List.all_eq_true.mp tabL_512 pc (List.mem_map.mpr ⟨pc - 512, List.mem_range.mpr (by omega), by omega⟩)
  by_cases h1024 : pc < 1024
  · exact List.all_eq_true.mp tabL_768 pc (List.mem_map.mpr ⟨pc - 768, List.mem_range.mpr (by omega), by omega⟩)
  by_cases h1232 : pc < 1232
  · exact List.all_eq_true.mp tabL_1024 pc (List.mem_map.mpr ⟨pc - 1024, List.mem_range.mpr (by omega), by omega⟩)
  exact absurd h0 h1232
theorem tabs_ok {j : Nat} (h : j < 215) : tabOk j = true := by
  by_cases h10 : j < 10
  · exact List.all_eq_true.mp tabs_0 j (List.mem_map.mpr ⟨j - 0, List.mem_range.mpr (by omega), by omega⟩)
  by_cases h20 : j < 20
  · exact List.all_eq_true.mp tabs_10 j (List.mem_map.mpr ⟨j - 10, List.mem_range.mpr (by omega), by omega⟩)
  by_cases h30 : j < 30
  · exact List.all_eq_true.mp tabs_20 j (List.mem_map.mpr ⟨j - 20, List.mem_range.mpr (by omega), by omega⟩)
  by_cases h40 : j < 40
  · exact List.all_eq_true.mp tabs_30 j (List.mem_map.mpr ⟨j - 30, List.mem_range.mpr (by omega), by omega⟩)
  by_cases h50 : j < 50
  · exact List.all_eq_true.mp tabs_40 j (List.mem_map.mpr ⟨j - 40, List.mem_range.mpr (by omega), by omega⟩)
  by_cases h60 : j < 60
  · exact List.all_eq_true.mp tabs_50 j (List.mem_map.mpr ⟨j - 50, List.mem_range.mpr (by omega), by omega⟩)
  by_cases h70 : j < 70
  · exact List.all_eq_true.mp tabs_60 j (List.mem_map.mpr ⟨j - 60, List.mem_range.mpr (by omega), by omega⟩)
  by_cases h80 : j < 80
  · exact List.all_eq_true.mp tabs_70 j (List.mem_map.mpr ⟨j - 70, List.mem_range.mpr (by omega), by omega⟩)
  by_cases h90 : j < 90
  · exact List.all_eq_true.mp tabs_80 j (List.mem_map.mpr ⟨j - 80, List.mem_range.mpr (by omega), by omega⟩)
  by_cases h100 : j < 100
  · exact List.all_eq_true.mp tabs_90 j (List.mem_map.mpr ⟨j - 90, List.mem_range.mpr (by omega), by omega⟩)
  by_cases h110 : j < 110
  · exact List.all_eq_true.mp tabs_100 j (List.mem_map.mpr ⟨j - 100, List.mem_range.mpr (by omega), by omega⟩)
  by_cases h120 : j < 120
  · exact List.all_eq_true.mp tabs_110 j (List.mem_map.mpr ⟨j - 110, List.mem_range.mpr (by omega), by omega⟩)
  by_cases h130 : j < 130
  · exact List.all_eq_true.mp tabs_120 j (List.mem_map.mpr ⟨j - 120, List.mem_range.mpr (by omega), by omega⟩)
  by_cases h140 : j < 140
  · exact List.all_eq_true.mp tabs_130 j (List.mem_map.mpr ⟨j - 130, List.mem_range.mpr (by omega), by omega⟩)
  by_cases h150 : j < 150
  · exact List.all_eq_true.mp tabs_140 j (List.mem_map.mpr ⟨j - 140, List.mem_range.mpr (by omega), by omega⟩)
  by_cases h160 : j < 160
  · exact List.all_eq_true.mp tabs_150 j (List.mem_map.mpr ⟨j - 150, List.mem_range.mpr (by omega), by omega⟩)
  by_cases h170 : j < 170
  · exact List.all_eq_true.mp tabs_160 j (List.mem_map.mpr ⟨j - 160, List.mem_range.mpr (by omega), by omega⟩)
  by_cases h180 : j < 180
  · exact List.all_eq_true.mp tabs_170 j (List.mem_map.mpr ⟨j - 170, List.mem_range.mpr (by omega), by omega⟩)
  by_cases h190 : j < 190
  · exact List.all_eq_true.mp tabs_180 j (List.mem_map.mpr ⟨j - 180, List.mem_range.mpr (by omega), by omega⟩)
  by_cases h200 : j < 200
  · exact List.all_eq_true.mp tabs_190 j (List.mem_map.mpr ⟨j - 190, List.mem_range.mpr (by omega), by omega⟩)
  by_cases h210 : j < 210
  · exact List.all_eq_true.mp tabs_200 j (List.mem_map.mpr ⟨j - 200, List.mem_range.mpr (by omega), by omega⟩)
  by_cases h214 : j < 214
  · exact List.all_eq_true.mp tabs_210 j (List.mem_map.mpr ⟨j - 210, List.mem_range.mpr (by omega), by omega⟩)
  have e : j = 214 := by omega
  rw [e]; exact tabs_law
theorem plOk_all {o : Nat} (h : o < 19) : plOk o = true := by
  match o, h with
  | 0, _ => exact plOk_0
  | 1, _ => exact plOk_1
  | 2, _ => exact plOk_2
  | 3, _ => exact plOk_3
  | 4, _ => exact plOk_4
  | 5, _ => exact plOk_5
  | 6, _ => exact plOk_6
  | 7, _ => exact plOk_7
  | 8, _ => exact plOk_8
  | 9, _ => exact plOk_9
  | 10, _ => exact plOk_10
  | 11, _ => exact plOk_11
  | 12, _ => exact plOk_12
  | 13, _ => exact plOk_13
  | 14, _ => exact plOk_14
  | 15, _ => exact plOk_15
  | 16, _ => exact plOk_16
  | 17, _ => exact plOk_17
  | 18, _ => exact plOk_18
  | n + 19, h => exact absurd h (by omega)
theorem wrd_in {o i : Nat} {r : Rs} (h : o < 19) (hp : poolIn o i r = true) : ∀ w ∈ wrd o i r, w ∈ lw_tbl ∧ (goodWord w = true ∨ spec w = true) := by
  obtain ⟨q, hq, h1⟩ := List.any_eq_true.mp hp
  simp only [Bool.and_eq_true, decide_eq_true_eq] at h1
  obtain ⟨e1, e2⟩ := h1
  have h2 := List.all_eq_true.mp (plOk_all h) q hq
  simp only [Bool.and_eq_true, decide_eq_true_eq] at h2
  rw [e1, e2] at h2
  intro w hw
  refine ⟨?_, ?_⟩
  · rw [← h2.1] at hw
    obtain ⟨a, -, ha⟩ := List.mem_filterMap.mp hw
    exact List.mem_of_getElem? ha
  · have h3 := List.all_eq_true.mp h2.2 w hw
    simpa [Bool.or_eq_true] using h3
theorem wrd_good {o i : Nat} {r : Rs} (h : o < 19) (hp : poolIn o i r = true) {w : Cond} (hw : w ∈ wrd o i r) (hs : spec w = false) : w ∈ gtbl := by
  obtain ⟨h1, h2⟩ := wrd_in h hp w hw
  rcases h2 with h2 | h2
  · exact List.mem_filter.mpr ⟨h1, h2⟩
  · rw [hs] at h2; cases h2
theorem lay_good {i : Nat} (h : i < 13) : ∀ w ∈ u_ws (cnm i) (FT i) (nf i), w ∈ gtbl := by
  have h1 := List.all_eq_true.mp lays_ok i (List.mem_range.mpr h)
  unfold layOk at h1
  simp only [Bool.and_eq_true, decide_eq_true_eq] at h1
  intro w hw
  refine List.mem_filter.mpr ⟨?_, List.all_eq_true.mp h1.2 w hw⟩
  rw [← h1.1] at hw
  obtain ⟨a, -, ha⟩ := List.mem_filterMap.mp hw
  exact List.mem_of_getElem? ha

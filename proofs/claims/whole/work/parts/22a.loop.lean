noncomputable section
/-! THE LAW's loop. -/
theorem lm6_s : ∀ L, L < 6 → (nI L - 6).toInt = (L : Int) - 6 := by decide +kernel
theorem lm6 {L : Nat} (h : L ≤ 3072) : (nI L - 6).toInt = (L : Int) - 6 := by
  by_cases h6 : L < 6
  · exact lm6_s L h6
  · have e : nI L - 6 = nI (L - 6) := by
      have := nI_sub' (a := 6) (b := L - 6)
      rw [show 6 + (L - 6) = L by omega] at this
      exact this
    rw [e, nI_toInt (by omega)]
    omega
theorem XI_of {i L : Nat} {vi : Int32} (e : vi = nI i) (h : i + 6 ≤ L) (hL : L ≤ 3072) : XI vi L := by
  subst e
  refine ⟨?_, ?_, ?_, ?_, ?_⟩
  · rw [show (1 : Int32) = nI 1 from rfl, nI_add]; exact ixB_nI (by omega) (by omega)
  · rw [show (2 : Int32) = nI 2 from rfl, nI_add]; exact ixB_nI (by omega) (by omega)
  · rw [show (3 : Int32) = nI 3 from rfl, nI_add]; exact ixB_nI (by omega) (by omega)
  · rw [show (4 : Int32) = nI 4 from rfl, nI_add]; exact ixB_nI (by omega) (by omega)
  · rw [show (5 : Int32) = nI 5 from rfl, nI_add]; exact ixB_nI (by omega) (by omega)
section A
variable {l : Launch} {L : Nat} {xs : Nat → Int32} {D : Nat} {Q : QT} {At : PT}
set_option maxRecDepth 20000
theorem law_loop (go : LW l L xs D Q At) (hQ : ∀ n K S G P, Q (some (.int 1)) n K S G P) (hL : L ≤ 3072) : ∀ (m i : Nat) (vi : Int32) (n : Nat) (K : Mk) (S : Mi) (G : Ml) (P : Mr) (cs : Nat), vi = nI i → i ≤ 3072 → L < i + 6 * m + 6 → cs + m ≤ 7302 → InvA n K S G P → At 18 [.ref 31, .ref 32, .ref 120, .int vi] [] n K S G P cs := by
  intro m
  induction m with
  | zero =>
    intro i vi n K S G P cs ev hi hm hcs hI
    refine go [18] 60 _ _ _ _ _ _ _ _ _ ?_
    refine ite_t (by rw [lt_i, lm6 hL, ev, nI_toInt (by omega)]; omega) ?_
    exact hQ _ _ _ _ _
  | succ m ih =>
    intro i vi n K S G P cs ev hi hm hcs hI
    by_cases hc : i + 6 ≤ L
    · have hx := XI_of ev hc hL
      have hcs1 : cs + 1 ≤ 7302 := by omega
      have x0 : ixB vi L = true := by rw [ev]; exact ixB_nI (by omega) (by omega)
      have nx : NX1 At vi n cs := by
        intro n' K' S' G' P' cs' hI' hn
        refine go [18] 60 _ _ _ _ _ _ _ _ _ ?_
        refine ih (i + 6) _ n' K' S' G' P' cs' ?_ (by omega) (by omega) (by omega) hI'
        rw [ev, show (6 : Int32) = nI 6 from rfl, nI_add]
      have y_one : At 172 [.ref 31, .ref 32, .ref 120, .int vi] [] n K S G P cs := w_one go hx hI hcs1 nx
      have y_of : At 205 [.ref 31, .ref 32, .ref 120, .int vi] [] n K S G P cs := w_of go hx hI hcs1 nx
      have y_between : At 238 [.ref 31, .ref 32, .ref 120, .int vi] [] n K S G P cs := w_between go hx hI hcs1 nx
      have y_counts : At 281 [.ref 31, .ref 32, .ref 120, .int vi] [] n K S G P cs := w_counts go hx hI hcs1 nx
      have y_refuse : At 324 [.ref 31, .ref 32, .ref 120, .int vi] [] n K S G P cs := w_refuse go hx hI hcs1 nx
      have y_row : At 367 [.ref 31, .ref 32, .ref 120, .int vi] [] n K S G P cs := w_row go hx hI hcs1 nx
      have y_feed : At 410 [.ref 31, .ref 32, .ref 120, .int vi] [] n K S G P cs := w_feed go hx hI hcs1 nx
      have y_street : At 433 [.ref 31, .ref 32, .ref 120, .int vi] [] n K S G P cs := w_street go hx hI hcs1 nx
      have y_told : At 446 [.ref 31, .ref 32, .ref 120, .int vi] [] n K S G P cs := w_told go hx hI hcs1 nx
      have y_pass : At 469 [.ref 31, .ref 32, .ref 120, .int vi] [] n K S G P cs := w_pass go hx hI hcs1 nx
      have y_match : At 492 [.ref 31, .ref 32, .ref 120, .int vi] [] n K S G P cs := w_match go hx hI hcs1 nx
      have y_say : At 525 [.ref 31, .ref 32, .ref 120, .int vi] [] n K S G P cs := w_say go hx hI hcs1 nx
      have y_wrong : At 604 [.ref 31, .ref 32, .ref 120, .int vi] [] n K S G P cs := w_wrong go hx hI hcs1 nx
      have y_can : At 617 [.ref 31, .ref 32, .ref 120, .int vi] [] n K S G P cs := w_can go hx hI hcs1 nx
      have y_odds : At 650 [.ref 31, .ref 32, .ref 120, .int vi] [] n K S G P cs := w_odds go hx hI hcs1 nx
      have y_mean : At 694 [.ref 31, .ref 32, .ref 120, .int vi] [] n K S G P cs := w_mean go hx hI hcs1 nx
      have y_plan : At 718 [.ref 31, .ref 32, .ref 120, .int vi] [] n K S G P cs := w_plan go hx hI hcs1 nx
      have y_ends : At 751 [.ref 31, .ref 32, .ref 120, .int vi] [] n K S G P cs := w_ends go hx hI hcs1 nx
      have y_book : At 774 [.ref 31, .ref 32, .ref 120, .int vi] [] n K S G P cs := w_book go hx hI hcs1 nx
      have y_looked : At 817 [.ref 31, .ref 32, .ref 120, .int vi] [] n K S G P cs := w_looked go hx hI hcs1 nx
      have y_judge : At 830 [.ref 31, .ref 32, .ref 120, .int vi] [] n K S G P cs := w_judge go hx hI hcs1 nx
      have y_image : At 863 [.ref 31, .ref 32, .ref 120, .int vi] [] n K S G P cs := w_image go hx hI hcs1 nx
      have y_undo : At 876 [.ref 31, .ref 32, .ref 120, .int vi] [] n K S G P cs := w_undo go hx hI hcs1 nx
      have y_act : At 889 [.ref 31, .ref 32, .ref 120, .int vi] [] n K S G P cs := w_act go hx hI hcs1 nx
      have y_trace : At 932 [.ref 31, .ref 32, .ref 120, .int vi] [] n K S G P cs := w_trace go hx hI hcs1 nx
      have y_taken : At 955 [.ref 31, .ref 32, .ref 120, .int vi] [] n K S G P cs := w_taken go hx hI hcs1 nx
      have y_count : At 988 [.ref 31, .ref 32, .ref 120, .int vi] [] n K S G P cs := w_count go hx hI hcs1 nx
      have y_tape : At 1011 [.ref 31, .ref 32, .ref 120, .int vi] [] n K S G P cs := w_tape go hx hI hcs1 nx
      have y_item : At 1054 [.ref 31, .ref 32, .ref 120, .int vi] [] n K S G P cs := w_item go hx hI hcs1 nx
      have y_read : At 1127 [.ref 31, .ref 32, .ref 120, .int vi] [] n K S G P cs := w_read go hx hI hcs1 nx
      have y_shift : At 1161 [.ref 31, .ref 32, .ref 120, .int vi] [] n K S G P cs := w_shift go hx hI hcs1 nx
      refine go [172, 205, 238, 281, 324, 367, 410, 433, 446, 469, 492, 525, 604, 617, 650, 694, 718, 751, 774, 817, 830, 863, 876, 889, 932, 955, 988, 1011, 1054, 1127, 1161, 1224] 60 _ _ _ _ _ _ _ _ _ ?_
      refine ite_f (by rw [lt_i, lm6 hL, ev, nI_toInt (by omega)]; omega) ?_
      refine ite_t x0 ?_
      refine ite_i (fun _ => y_one) (fun _ => ?_)
      refine ite_i (fun _ => y_of) (fun _ => ?_)
      refine ite_i (fun _ => y_between) (fun _ => ?_)
      refine ite_i (fun _ => y_counts) (fun _ => ?_)
      refine ite_i (fun _ => y_refuse) (fun _ => ?_)
      refine ite_i (fun _ => y_row) (fun _ => ?_)
      refine ite_i (fun _ => y_feed) (fun _ => ?_)
      refine ite_i (fun _ => y_street) (fun _ => ?_)
      refine ite_i (fun _ => y_told) (fun _ => ?_)
      refine ite_i (fun _ => y_pass) (fun _ => ?_)
      refine ite_i (fun _ => y_match) (fun _ => ?_)
      refine ite_i (fun _ => y_say) (fun _ => ?_)
      refine ite_i (fun _ => y_wrong) (fun _ => ?_)
      refine ite_i (fun _ => y_can) (fun _ => ?_)
      refine ite_i (fun _ => y_odds) (fun _ => ?_)
      refine ite_i (fun _ => y_mean) (fun _ => ?_)
      refine ite_i (fun _ => y_plan) (fun _ => ?_)
      refine ite_i (fun _ => y_ends) (fun _ => ?_)
      refine ite_i (fun _ => y_book) (fun _ => ?_)
      refine ite_i (fun _ => y_looked) (fun _ => ?_)
      refine ite_i (fun _ => y_judge) (fun _ => ?_)
      refine ite_i (fun _ => y_image) (fun _ => ?_)
      refine ite_i (fun _ => y_undo) (fun _ => ?_)
      refine ite_i (fun _ => y_act) (fun _ => ?_)
      refine ite_i (fun _ => y_trace) (fun _ => ?_)
      refine ite_i (fun _ => y_taken) (fun _ => ?_)
      refine ite_i (fun _ => y_count) (fun _ => ?_)
      refine ite_i (fun _ => y_tape) (fun _ => ?_)
      refine ite_i (fun _ => y_item) (fun _ => ?_)
      refine ite_i (fun _ => y_read) (fun _ => ?_)
      refine ite_i (fun _ => y_shift) (fun _ => ?_)
      exact nx n K S G P cs hI (.inl ⟨rfl, rfl⟩)
    · refine go [18] 60 _ _ _ _ _ _ _ _ _ ?_
      refine ite_t (by rw [lt_i, lm6 hL, ev, nI_toInt (by omega)]; omega) ?_
      exact hQ _ _ _ _ _
end A
end

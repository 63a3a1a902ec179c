noncomputable section
/-! THE LAW's cases: tape, item, shift (by program: gen21.py). -/
section A
variable {l : Launch} {L : Nat} {xs : Nat → Int32} {D : Nat} {n : Nat} {K : Mk} {S : Mi} {G : Ml} {P : Mr} {Q : QT} {vi : Int32} {At : PT} {cs : Nat}
set_option maxRecDepth 20000
theorem w_tape (go : LW l L xs D Q At) (hx : XI vi L) (hI : InvA n K S G P) (hcs : cs + 1 ≤ 7302) (nx : NX1 At vi n cs) : At 1011 [.ref 31, .ref 32, .ref 120, .int vi] [] n K S G P cs := by
  obtain ⟨N, d, g, sd, hC, hJ, hD, hW, hn⟩ := hI
  obtain ⟨x1, x2, x3, x4, x5⟩ := hx
  have n6 := hD.2.2.2.1
  refine go [1224] 200 _ _ _ _ _ _ _ _ _ ?_
  refine ite_t x1 ?_
  refine ite_t x2 ?_
  refine ite_t x3 ?_
  refine c_tape hC hD (fun ok S1 G1 f1 g1 i1 => ?_) (fun no => ?_)
  · refine ite_t x1 ?_
    refine ite_t x2 ?_
    refine ite_t x3 ?_
    refine q_tape (InvM_o f1 g1 hJ) (fun ok2 S2 G2 f2 g2 j2 => ?_) (fun no2 => absurd ok no2)
    exact nx _ _ _ _ _ _ ⟨N, _, _, sd, InvC_o n6 f2 g2 i1, j2, (d_tape hD ok), hW, hn⟩ (.inl ⟨rfl, rfl⟩)
  · refine ite_t x1 ?_
    refine ite_t x2 ?_
    refine ite_t x3 ?_
    refine q_tape hJ (fun ok2 => absurd ok2 no) (fun no2 => ?_)
    refine ite_t rfl ?_
    exact nx _ _ _ _ _ _ ⟨N, d, g, sd, hC, hJ, hD, hW, hn⟩ (.inl ⟨rfl, rfl⟩)
theorem w_item (go : LW l L xs D Q At) (hx : XI vi L) (hI : InvA n K S G P) (hcs : cs + 1 ≤ 7302) (nx : NX1 At vi n cs) : At 1054 [.ref 31, .ref 32, .ref 120, .int vi] [] n K S G P cs := by
  obtain ⟨N, d, g, sd, hC, hJ, hD, hW, hn⟩ := hI
  obtain ⟨x1, x2, x3, x4, x5⟩ := hx
  have n6 := hD.2.2.2.1
  refine go [1224] 200 _ _ _ _ _ _ _ _ _ ?_
  refine ite_t x1 ?_
  refine ite_t x2 ?_
  refine ite_t x3 ?_
  refine ite_t x4 ?_
  refine c_item hC hD (fun ok S1 G1 f1 g1 i1 => ?_) (fun no => ?_)
  · refine ite_t x1 ?_
    refine ite_t x2 ?_
    refine ite_t x3 ?_
    refine ite_t x4 ?_
    refine q_item (InvM_o f1 g1 hJ) hD (fun ok2 S2 G2 f2 g2 j2 => ?_) (fun no2 => absurd ok no2)
    exact nx _ _ _ _ _ _ ⟨N, d, _, sd, InvC_o n6 f2 g2 i1, j2, hD, hW, hn⟩ (.inl ⟨rfl, rfl⟩)
  · refine ite_t x1 ?_
    refine ite_t x2 ?_
    refine ite_t x3 ?_
    refine ite_t x4 ?_
    refine q_item hJ hD (fun ok2 => absurd ok2 no) (fun no2 => ?_)
    refine ite_t rfl ?_
    exact nx _ _ _ _ _ _ ⟨N, d, g, sd, hC, hJ, hD, hW, hn⟩ (.inl ⟨rfl, rfl⟩)
theorem w_shift (go : LW l L xs D Q At) (hx : XI vi L) (hI : InvA n K S G P) (hcs : cs + 1 ≤ 7302) (nx : NX1 At vi n cs) : At 1161 [.ref 31, .ref 32, .ref 120, .int vi] [] n K S G P cs := by
  obtain ⟨N, d, g, sd, hC, hJ, hD, hW, hn⟩ := hI
  obtain ⟨x1, x2, x3, x4, x5⟩ := hx
  have n6 := hD.2.2.2.1
  refine go [1224] 200 _ _ _ _ _ _ _ _ _ ?_
  refine ite_t x1 ?_
  refine ite_t x2 ?_
  refine ite_t x3 ?_
  refine ite_t x4 ?_
  refine ite_t x5 ?_
  refine c_shift hC hD (fun ok S1 G1 f1 g1 i1 => ?_) (fun no => ?_)
  · refine ite_t x1 ?_
    refine ite_t x2 ?_
    refine ite_t x3 ?_
    refine ite_t x4 ?_
    refine ite_t x5 ?_
    refine q_shift (InvM_o f1 g1 hJ) hD (fun ok2 S2 G2 f2 g2 j2 => ?_) (fun no2 => absurd ok no2)
    refine ite_t rfl ?_
    exact nx _ _ _ _ _ _ ⟨N, d, _, sd, InvC_o n6 f2 g2 i1, j2, hD, hW, hn⟩ (.inl ⟨rfl, rfl⟩)
  · refine ite_t x1 ?_
    refine ite_t x2 ?_
    refine ite_t x3 ?_
    refine ite_t x4 ?_
    refine ite_t x5 ?_
    refine q_shift hJ hD (fun ok2 => absurd ok2 no) (fun no2 => ?_)
    refine ite_t rfl ?_
    exact nx _ _ _ _ _ _ ⟨N, d, g, sd, hC, hJ, hD, hW, hn⟩ (.inl ⟨rfl, rfl⟩)
end A
end

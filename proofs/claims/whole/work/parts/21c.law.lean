noncomputable section
/-! THE LAW's cases: row, act, pass, feed, refuse (by program: gen21.py). -/
section A
variable {l : Launch} {L : Nat} {xs : Nat → Int32} {D : Nat} {n : Nat} {K : Mk} {S : Mi} {G : Ml} {P : Mr} {Q : QT} {vi : Int32} {At : PT} {cs : Nat}
set_option maxRecDepth 20000
theorem w_row (go : LW l L xs D Q At) (hx : XI vi L) (hI : InvA n K S G P) (hcs : cs + 1 ≤ 7302) (nx : NX1 At vi n cs) : At 367 [.ref 31, .ref 32, .ref 120, .int vi] [] n K S G P cs := by
  obtain ⟨N, d, g, sd, hC, hJ, hD, hW, hn⟩ := hI
  obtain ⟨x1, x2, x3, x4, x5⟩ := hx
  have n6 := hD.2.2.2.1
  refine go [1224] 200 _ _ _ _ _ _ _ _ _ ?_
  refine ite_t x1 ?_
  refine ite_t x2 ?_
  refine ite_t x3 ?_
  refine c_row hC hD (fun S1 f1 i1 => ?_)
  refine ite_t x1 ?_
  refine ite_t x2 ?_
  refine ite_t x3 ?_
  refine q_row (InvM_o f1 rfl hJ) hD (fun S2 f2 j2 => ?_)
  refine ite_t rfl ?_
  exact nx _ _ _ _ _ _ ⟨N, _, g, sd, InvC_o n6 f2 (fun _ _ => rfl) i1, j2, (d_row hD), hW, hn⟩ (.inl ⟨rfl, rfl⟩)
theorem w_act (go : LW l L xs D Q At) (hx : XI vi L) (hI : InvA n K S G P) (hcs : cs + 1 ≤ 7302) (nx : NX1 At vi n cs) : At 889 [.ref 31, .ref 32, .ref 120, .int vi] [] n K S G P cs := by
  obtain ⟨N, d, g, sd, hC, hJ, hD, hW, hn⟩ := hI
  obtain ⟨x1, x2, x3, x4, x5⟩ := hx
  have n6 := hD.2.2.2.1
  refine go [1224] 200 _ _ _ _ _ _ _ _ _ ?_
  refine ite_t x1 ?_
  refine ite_t x2 ?_
  refine ite_t x3 ?_
  refine c_act hC hD (fun S1 f1 i1 => ?_)
  refine ite_t x1 ?_
  refine ite_t x2 ?_
  refine ite_t x3 ?_
  refine q_act (InvM_o f1 rfl hJ) hD (fun S2 f2 j2 => ?_)
  refine ite_t rfl ?_
  exact nx _ _ _ _ _ _ ⟨_, _, g, sd, InvC_o (by exact n6) f2 (fun _ _ => rfl) i1, j2, (d_act hD (Nat.le_trans (rAcL_len hD.1 _ _) (by decide))), hW, hn⟩ (.inl ⟨rfl, rfl⟩)
theorem w_pass (go : LW l L xs D Q At) (hx : XI vi L) (hI : InvA n K S G P) (hcs : cs + 1 ≤ 7302) (nx : NX1 At vi n cs) : At 469 [.ref 31, .ref 32, .ref 120, .int vi] [] n K S G P cs := by
  obtain ⟨N, d, g, sd, hC, hJ, hD, hW, hn⟩ := hI
  obtain ⟨x1, x2, x3, x4, x5⟩ := hx
  have n6 := hD.2.2.2.1
  refine go [1224] 200 _ _ _ _ _ _ _ _ _ ?_
  refine ite_t x1 ?_
  refine c_pass hC hD (fun ok S1 f1 i1 => ?_) (fun no => ?_)
  · refine ite_t x1 ?_
    refine q_pass (InvM_o f1 rfl hJ) hD (fun ok2 S2 f2 j2 => ?_) (fun no2 => absurd ok no2)
    refine ite_t rfl ?_
    exact nx _ _ _ _ _ _ ⟨_, _, g, sd, InvC_o (by exact n6) f2 (fun _ _ => rfl) i1, j2, (d_pass hD ok), hW, hn⟩ (.inl ⟨rfl, rfl⟩)
  · refine ite_t x1 ?_
    refine q_pass hJ hD (fun ok2 S2 f2 j2 => absurd ok2 no) (fun no2 => ?_)
    refine ite_t rfl ?_
    exact nx _ _ _ _ _ _ ⟨N, d, g, sd, hC, hJ, hD, hW, hn⟩ (.inl ⟨rfl, rfl⟩)
theorem w_feed (go : LW l L xs D Q At) (hx : XI vi L) (hI : InvA n K S G P) (hcs : cs + 1 ≤ 7302) (nx : NX1 At vi n cs) : At 410 [.ref 31, .ref 32, .ref 120, .int vi] [] n K S G P cs := by
  obtain ⟨N, d, g, sd, hC, hJ, hD, hW, hn⟩ := hI
  obtain ⟨x1, x2, x3, x4, x5⟩ := hx
  have n6 := hD.2.2.2.1
  refine go [1224] 200 _ _ _ _ _ _ _ _ _ ?_
  refine ite_t x1 ?_
  refine c_feed hC hD (fun ok S1 f1 i1 => ?_) (fun no => ?_)
  · refine ite_t x1 ?_
    refine q_feed (InvM_o f1 rfl hJ) hD (fun ok2 S2 f2 j2 => ?_) (fun no2 => absurd ok no2)
    refine ite_t rfl ?_
    exact nx _ _ _ _ _ _ ⟨_, _, g, sd, InvC_o (by exact n6) f2 (fun _ _ => rfl) i1, j2, (d_feed hD ok), hW, hn⟩ (.inl ⟨rfl, rfl⟩)
  · refine ite_t x1 ?_
    refine q_feed hJ hD (fun ok2 S2 f2 j2 => absurd ok2 no) (fun no2 => ?_)
    refine ite_t rfl ?_
    exact nx _ _ _ _ _ _ ⟨N, d, g, sd, hC, hJ, hD, hW, hn⟩ (.inl ⟨rfl, rfl⟩)
theorem w_refuse (go : LW l L xs D Q At) (hx : XI vi L) (hI : InvA n K S G P) (hcs : cs + 1 ≤ 7302) (nx : NX1 At vi n cs) : At 324 [.ref 31, .ref 32, .ref 120, .int vi] [] n K S G P cs := by
  obtain ⟨N, d, g, sd, hC, hJ, hD, hW, hn⟩ := hI
  obtain ⟨x1, x2, x3, x4, x5⟩ := hx
  have n6 := hD.2.2.2.1
  refine go [1224] 200 _ _ _ _ _ _ _ _ _ ?_
  refine ite_t x1 ?_
  refine ite_t x2 ?_
  refine ite_t x3 ?_
  refine c_refuse_v hC hD (fun ok S1 v ev f1 i1 => ?_) (fun no S1 v ev f1 i1 => ?_)
  · refine ite_t x1 ?_
    refine ite_t x2 ?_
    refine ite_t x3 ?_
    refine q_refuse_v (InvM_o f1 rfl hJ) hD (fun ok2 S2 v2 ev2 f2 j2 => ?_) (fun no2 => absurd ok no2)
    refine ite_t (ev.trans ev2.symm) ?_
    exact nx _ _ _ _ _ _ ⟨N, _, g, sd, InvC_o n6 f2 (fun _ _ => rfl) i1, j2, (d_refuse hD ok), hW, hn⟩ (.inl ⟨rfl, rfl⟩)
  · refine ite_t x1 ?_
    refine ite_t x2 ?_
    refine ite_t x3 ?_
    refine q_refuse_v (InvM_o f1 rfl hJ) hD (fun ok2 => absurd ok2 no) (fun no2 S2 v2 ev2 f2 j2 => ?_)
    refine ite_t (ev.trans ev2.symm) ?_
    exact nx _ _ _ _ _ _ ⟨N, d, g, sd, InvC_o n6 f2 (fun _ _ => rfl) i1, j2, hD, hW, hn⟩ (.inl ⟨rfl, rfl⟩)
end A
end

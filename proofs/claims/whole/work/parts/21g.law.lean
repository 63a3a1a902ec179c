noncomputable section
/-! THE LAW's cases: one, image, ends, undo, street (by program: gen21.py). -/
section A
variable {l : Launch} {L : Nat} {xs : Nat → Int32} {D : Nat} {n : Nat} {K : Mk} {S : Mi} {G : Ml} {P : Mr} {Q : QT} {vi : Int32} {At : PT} {cs : Nat}
set_option maxRecDepth 20000
theorem w_one (go : LW l L xs D Q At) (hx : XI vi L) (hI : InvA n K S G P) (hcs : cs + 1 ≤ 7302) (nx : NX1 At vi n cs) : At 172 [.ref 31, .ref 32, .ref 120, .int vi] [] n K S G P cs := by
  obtain ⟨N, d, g, sd, hC, hJ, hD, hW, hn⟩ := hI
  obtain ⟨x1, x2, x3, x4, x5⟩ := hx
  have n6 := hD.2.2.2.1
  by_cases ok : okOn N (xs (vi + 1).toNatClampNeg) (xs (vi + 2).toNatClampNeg)
  · refine go [1224] 200 _ _ _ _ _ _ _ _ _ ?_
    refine ite_t x1 ?_
    refine ite_t x2 ?_
    refine ⟨1, hcs, ?_⟩
    refine c_one1 hC hD hW hn ok (fun S1 P1 f1 i1 w1 => ?_)
    refine ite_t x1 ?_
    refine ite_t x2 ?_
    refine q_one (InvM_o f1 rfl hJ) hD (fun ok2 S2 f2 j2 => ?_) (fun no2 => absurd ok no2)
    refine ite_t rfl ?_
    exact nx _ _ _ _ _ _ ⟨_, _, g, sd, InvC_o (by exact n6) f2 (fun _ _ => rfl) i1, j2, d_one hD ok, w1, by omega⟩ (.inr ⟨rfl, rfl⟩)
  · refine go [1224] 200 _ _ _ _ _ _ _ _ _ ?_
    refine ite_t x1 ?_
    refine ite_t x2 ?_
    refine ⟨0, by omega, ?_⟩
    refine c_one0 hC hD ok ?_
    refine ite_t x1 ?_
    refine ite_t x2 ?_
    refine q_one hJ hD (fun ok2 => absurd ok2 ok) (fun no2 => ?_)
    refine ite_t rfl ?_
    exact nx _ _ _ _ _ _ ⟨N, d, g, sd, hC, hJ, hD, hW, hn⟩ (.inl ⟨rfl, rfl⟩)
theorem w_image (go : LW l L xs D Q At) (hx : XI vi L) (hI : InvA n K S G P) (hcs : cs + 1 ≤ 7302) (nx : NX1 At vi n cs) : At 863 [.ref 31, .ref 32, .ref 120, .int vi] [] n K S G P cs := by
  obtain ⟨N, d, g, sd, hC, hJ, hD, hW, hn⟩ := hI
  obtain ⟨x1, x2, x3, x4, x5⟩ := hx
  have n6 := hD.2.2.2.1
  refine go [1224] 200 _ _ _ _ _ _ _ _ _ ?_
  refine c_image hC hD hW (fun S1 P1 f1 i1 w1 => ?_)
  refine q_image (InvM_o f1 rfl hJ) hD (fun S2 f2 j2 => ?_)
  refine ite_t rfl ?_
  exact nx _ _ _ _ _ _ ⟨_, _, g, sd, InvC_o (by exact n6) f2 (fun _ _ => rfl) i1, j2, (d_image hD), w1, hn⟩ (.inl ⟨rfl, rfl⟩)
theorem w_ends (go : LW l L xs D Q At) (hx : XI vi L) (hI : InvA n K S G P) (hcs : cs + 1 ≤ 7302) (nx : NX1 At vi n cs) : At 751 [.ref 31, .ref 32, .ref 120, .int vi] [] n K S G P cs := by
  obtain ⟨N, d, g, sd, hC, hJ, hD, hW, hn⟩ := hI
  obtain ⟨x1, x2, x3, x4, x5⟩ := hx
  have n6 := hD.2.2.2.1
  refine go [1224] 200 _ _ _ _ _ _ _ _ _ ?_
  refine ite_t x1 ?_
  refine c_ends hC hD hW (fun S1 P1 f1 i1 w1 => ?_)
  refine ite_t x1 ?_
  refine q_ends (InvM_o f1 rfl hJ) hD (fun S2 f2 j2 => ?_)
  refine ite_t rfl ?_
  exact nx _ _ _ _ _ _ ⟨N, d, g, sd, InvC_o n6 f2 (fun _ _ => rfl) i1, j2, hD, w1, hn⟩ (.inl ⟨rfl, rfl⟩)
theorem w_undo (go : LW l L xs D Q At) (hx : XI vi L) (hI : InvA n K S G P) (hcs : cs + 1 ≤ 7302) (nx : NX1 At vi n cs) : At 876 [.ref 31, .ref 32, .ref 120, .int vi] [] n K S G P cs := by
  obtain ⟨N, d, g, sd, hC, hJ, hD, hW, hn⟩ := hI
  obtain ⟨x1, x2, x3, x4, x5⟩ := hx
  have n6 := hD.2.2.2.1
  refine go [1224] 200 _ _ _ _ _ _ _ _ _ ?_
  refine c_undo hC hD hW (fun ok S1 P1 f1 i1 w1 => ?_) (fun no => ?_)
  · refine q_undo (InvM_o f1 rfl hJ) hD (fun ok2 S2 f2 j2 => ?_) (fun no2 => absurd ok no2)
    refine ite_t rfl ?_
    exact nx _ _ _ _ _ _ ⟨_, _, g, sd, InvC_o (by exact n6) f2 (fun _ _ => rfl) i1, j2, (d_undo hD ok), w1, hn⟩ (.inl ⟨rfl, rfl⟩)
  · refine q_undo hJ hD (fun ok2 => absurd ok2 no) (fun no2 => ?_)
    exact nx _ _ _ _ _ _ ⟨N, d, g, sd, hC, hJ, hD, hW, hn⟩ (.inl ⟨rfl, rfl⟩)
theorem w_street (go : LW l L xs D Q At) (hx : XI vi L) (hI : InvA n K S G P) (hcs : cs + 1 ≤ 7302) (nx : NX1 At vi n cs) : At 433 [.ref 31, .ref 32, .ref 120, .int vi] [] n K S G P cs := by
  obtain ⟨N, d, g, sd, hC, hJ, hD, hW, hn⟩ := hI
  obtain ⟨x1, x2, x3, x4, x5⟩ := hx
  have n6 := hD.2.2.2.1
  refine go [1224] 200 _ _ _ _ _ _ _ _ _ ?_
  refine c_street hC hD (fun h6 => ?_) (fun lt ok S1 v ev f1 i1 => ?_) (fun lt no S1 v ev f1 i1 => ?_)
  · refine q_street hJ hD (fun _ => ?_) (fun lt => absurd h6 (by omega)) (fun lt => absurd h6 (by omega))
    exact nx _ _ _ _ _ _ ⟨N, d, g, sd, hC, hJ, hD, hW, hn⟩ (.inl ⟨rfl, rfl⟩)
  · refine q_street (InvM_o f1 rfl hJ) hD (fun h6 => absurd h6 (by omega)) (fun lt2 ok2 S2 v2 ev2 f2 j2 => ?_) (fun lt2 no2 => absurd (ok.symm.trans no2) (by decide))
    refine ite_t (ev.trans ev2.symm) ?_
    exact nx _ _ _ _ _ _ ⟨_, _, g, _, InvC_o (by show N 2 + 1 ≤ 6; omega) f2 (fun _ _ => rfl) i1, j2, (d_street1 hD lt), (WO_8 hW), hn⟩ (.inl ⟨rfl, rfl⟩)
  · refine q_street (InvM_o f1 rfl hJ) hD (fun h6 => absurd h6 (by omega)) (fun lt2 ok2 => absurd (ok2.symm.trans no) (by decide)) (fun lt2 no2 S2 v2 ev2 f2 j2 => ?_)
    refine ite_t (ev.trans ev2.symm) ?_
    exact nx _ _ _ _ _ _ ⟨_, d, g, sd, InvC_o (by exact n6) f2 (fun _ _ => rfl) i1, j2, (d_street0 hD), hW, hn⟩ (.inl ⟨rfl, rfl⟩)
end A
end

noncomputable section
/-! THE LAW's cases: the calls that only ask (by program: gen21.py). -/
section A
variable {l : Launch} {L : Nat} {xs : Nat → Int32} {D : Nat} {n : Nat} {K : Mk} {S : Mi} {G : Ml} {P : Mr} {Q : QT} {vi : Int32} {At : PT} {cs : Nat}
set_option maxRecDepth 20000
theorem w_of (go : LW l L xs D Q At) (hx : XI vi L) (hI : InvA n K S G P) (hcs : cs + 1 ≤ 7302) (nx : NX1 At vi n cs) : At 205 [.ref 31, .ref 32, .ref 120, .int vi] [] n K S G P cs := by
  obtain ⟨N, d, g, sd, hC, hJ, hD, hW, hn⟩ := hI
  obtain ⟨x1, x2, x3, x4, x5⟩ := hx
  have n6 := hD.2.2.2.1
  refine go [1224] 200 _ _ _ _ _ _ _ _ _ ?_
  refine ite_t x1 ?_
  refine ite_t x2 ?_
  refine c_of hC hD (fun S1 f1 i1 => ?_)
  refine ite_t x1 ?_
  refine ite_t x2 ?_
  refine q_of (InvM_o f1 rfl hJ) hD (fun S2 f2 j2 => ?_)
  refine ite_t rfl ?_
  exact nx _ _ _ _ _ _ ⟨N, d, g, sd, InvC_o n6 f2 (fun _ _ => rfl) i1, j2, hD, hW, hn⟩ (.inl ⟨rfl, rfl⟩)
theorem w_between (go : LW l L xs D Q At) (hx : XI vi L) (hI : InvA n K S G P) (hcs : cs + 1 ≤ 7302) (nx : NX1 At vi n cs) : At 238 [.ref 31, .ref 32, .ref 120, .int vi] [] n K S G P cs := by
  obtain ⟨N, d, g, sd, hC, hJ, hD, hW, hn⟩ := hI
  obtain ⟨x1, x2, x3, x4, x5⟩ := hx
  have n6 := hD.2.2.2.1
  refine go [1224] 200 _ _ _ _ _ _ _ _ _ ?_
  refine ite_t x1 ?_
  refine ite_t x2 ?_
  refine ite_t x3 ?_
  refine c_between hC hD (fun S1 f1 i1 => ?_)
  refine ite_t x1 ?_
  refine ite_t x2 ?_
  refine ite_t x3 ?_
  refine q_between (InvM_o f1 rfl hJ) hD (fun S2 f2 j2 => ?_)
  refine ite_t rfl ?_
  exact nx _ _ _ _ _ _ ⟨N, d, g, sd, InvC_o n6 f2 (fun _ _ => rfl) i1, j2, hD, hW, hn⟩ (.inl ⟨rfl, rfl⟩)
theorem w_counts (go : LW l L xs D Q At) (hx : XI vi L) (hI : InvA n K S G P) (hcs : cs + 1 ≤ 7302) (nx : NX1 At vi n cs) : At 281 [.ref 31, .ref 32, .ref 120, .int vi] [] n K S G P cs := by
  obtain ⟨N, d, g, sd, hC, hJ, hD, hW, hn⟩ := hI
  obtain ⟨x1, x2, x3, x4, x5⟩ := hx
  have n6 := hD.2.2.2.1
  refine go [1224] 200 _ _ _ _ _ _ _ _ _ ?_
  refine ite_t x1 ?_
  refine ite_t x2 ?_
  refine ite_t x3 ?_
  refine c_counts hC hD (fun S1 f1 i1 => ?_)
  refine ite_t x1 ?_
  refine ite_t x2 ?_
  refine ite_t x3 ?_
  refine q_counts (InvM_o f1 rfl hJ) hD (fun S2 f2 j2 => ?_)
  refine ite_t rfl ?_
  exact nx _ _ _ _ _ _ ⟨N, d, g, sd, InvC_o n6 f2 (fun _ _ => rfl) i1, j2, hD, hW, hn⟩ (.inl ⟨rfl, rfl⟩)
theorem w_told (go : LW l L xs D Q At) (hx : XI vi L) (hI : InvA n K S G P) (hcs : cs + 1 ≤ 7302) (nx : NX1 At vi n cs) : At 446 [.ref 31, .ref 32, .ref 120, .int vi] [] n K S G P cs := by
  obtain ⟨N, d, g, sd, hC, hJ, hD, hW, hn⟩ := hI
  obtain ⟨x1, x2, x3, x4, x5⟩ := hx
  have n6 := hD.2.2.2.1
  refine go [1224] 200 _ _ _ _ _ _ _ _ _ ?_
  refine ite_t x1 ?_
  refine c_told hC hD (fun S1 f1 i1 => ?_)
  refine ite_t x1 ?_
  refine q_told (InvM_o f1 rfl hJ) hD (fun S2 f2 j2 => ?_)
  refine ite_t rfl ?_
  exact nx _ _ _ _ _ _ ⟨N, d, g, sd, InvC_o n6 f2 (fun _ _ => rfl) i1, j2, hD, hW, hn⟩ (.inl ⟨rfl, rfl⟩)
theorem w_match (go : LW l L xs D Q At) (hx : XI vi L) (hI : InvA n K S G P) (hcs : cs + 1 ≤ 7302) (nx : NX1 At vi n cs) : At 492 [.ref 31, .ref 32, .ref 120, .int vi] [] n K S G P cs := by
  obtain ⟨N, d, g, sd, hC, hJ, hD, hW, hn⟩ := hI
  obtain ⟨x1, x2, x3, x4, x5⟩ := hx
  have n6 := hD.2.2.2.1
  refine go [1224] 200 _ _ _ _ _ _ _ _ _ ?_
  refine ite_t x1 ?_
  refine ite_t x2 ?_
  refine c_match hC hD (fun S1 f1 i1 => ?_)
  refine ite_t x1 ?_
  refine ite_t x2 ?_
  refine q_match (InvM_o f1 rfl hJ) hD (fun S2 f2 j2 => ?_)
  refine ite_t rfl ?_
  exact nx _ _ _ _ _ _ ⟨N, d, g, sd, InvC_o n6 f2 (fun _ _ => rfl) i1, j2, hD, hW, hn⟩ (.inl ⟨rfl, rfl⟩)
theorem w_wrong (go : LW l L xs D Q At) (hx : XI vi L) (hI : InvA n K S G P) (hcs : cs + 1 ≤ 7302) (nx : NX1 At vi n cs) : At 604 [.ref 31, .ref 32, .ref 120, .int vi] [] n K S G P cs := by
  obtain ⟨N, d, g, sd, hC, hJ, hD, hW, hn⟩ := hI
  obtain ⟨x1, x2, x3, x4, x5⟩ := hx
  have n6 := hD.2.2.2.1
  refine go [1224] 200 _ _ _ _ _ _ _ _ _ ?_
  refine c_wrong hC hD (fun S1 f1 i1 => ?_)
  refine q_wrong (InvM_o f1 rfl hJ) hD (fun S2 f2 j2 => ?_)
  refine ite_t rfl ?_
  exact nx _ _ _ _ _ _ ⟨N, d, g, sd, InvC_o n6 f2 (fun _ _ => rfl) i1, j2, hD, hW, hn⟩ (.inl ⟨rfl, rfl⟩)
theorem w_can (go : LW l L xs D Q At) (hx : XI vi L) (hI : InvA n K S G P) (hcs : cs + 1 ≤ 7302) (nx : NX1 At vi n cs) : At 617 [.ref 31, .ref 32, .ref 120, .int vi] [] n K S G P cs := by
  obtain ⟨N, d, g, sd, hC, hJ, hD, hW, hn⟩ := hI
  obtain ⟨x1, x2, x3, x4, x5⟩ := hx
  have n6 := hD.2.2.2.1
  refine go [1224] 200 _ _ _ _ _ _ _ _ _ ?_
  refine ite_t x1 ?_
  refine ite_t x2 ?_
  refine c_can hC hD (fun S1 f1 i1 => ?_)
  refine ite_t x1 ?_
  refine ite_t x2 ?_
  refine q_can (InvM_o f1 rfl hJ) hD (fun S2 f2 j2 => ?_)
  refine ite_t rfl ?_
  exact nx _ _ _ _ _ _ ⟨N, d, g, sd, InvC_o n6 f2 (fun _ _ => rfl) i1, j2, hD, hW, hn⟩ (.inl ⟨rfl, rfl⟩)
theorem w_odds (go : LW l L xs D Q At) (hx : XI vi L) (hI : InvA n K S G P) (hcs : cs + 1 ≤ 7302) (nx : NX1 At vi n cs) : At 650 [.ref 31, .ref 32, .ref 120, .int vi] [] n K S G P cs := by
  obtain ⟨N, d, g, sd, hC, hJ, hD, hW, hn⟩ := hI
  obtain ⟨x1, x2, x3, x4, x5⟩ := hx
  have n6 := hD.2.2.2.1
  refine go [1224] 200 _ _ _ _ _ _ _ _ _ ?_
  refine ite_t x1 ?_
  refine ite_t x2 ?_
  refine ite_t x3 ?_
  refine c_odds hC hD (fun S1 f1 i1 => ?_)
  refine ite_t x1 ?_
  refine ite_t x2 ?_
  refine ite_t x3 ?_
  refine q_odds (InvM_o f1 rfl hJ) hD (fun S2 f2 j2 => ?_)
  refine ite_t (by rw [lg_cmp_eq]) ?_
  exact nx _ _ _ _ _ _ ⟨N, d, g, sd, InvC_o n6 f2 (fun _ _ => rfl) i1, j2, hD, hW, hn⟩ (.inl ⟨rfl, rfl⟩)
theorem w_mean (go : LW l L xs D Q At) (hx : XI vi L) (hI : InvA n K S G P) (hcs : cs + 1 ≤ 7302) (nx : NX1 At vi n cs) : At 694 [.ref 31, .ref 32, .ref 120, .int vi] [] n K S G P cs := by
  obtain ⟨N, d, g, sd, hC, hJ, hD, hW, hn⟩ := hI
  obtain ⟨x1, x2, x3, x4, x5⟩ := hx
  have n6 := hD.2.2.2.1
  refine go [1224] 200 _ _ _ _ _ _ _ _ _ ?_
  refine ite_t x1 ?_
  refine c_mean hC hD (fun S1 f1 i1 => ?_)
  refine ite_t x1 ?_
  refine q_mean (InvM_o f1 rfl hJ) hD (fun S2 f2 j2 => ?_)
  refine ite_t (by rw [lg_cmp_eq]) ?_
  exact nx _ _ _ _ _ _ ⟨N, d, g, sd, InvC_o n6 f2 (fun _ _ => rfl) i1, j2, hD, hW, hn⟩ (.inl ⟨rfl, rfl⟩)
theorem w_looked (go : LW l L xs D Q At) (hx : XI vi L) (hI : InvA n K S G P) (hcs : cs + 1 ≤ 7302) (nx : NX1 At vi n cs) : At 817 [.ref 31, .ref 32, .ref 120, .int vi] [] n K S G P cs := by
  obtain ⟨N, d, g, sd, hC, hJ, hD, hW, hn⟩ := hI
  obtain ⟨x1, x2, x3, x4, x5⟩ := hx
  have n6 := hD.2.2.2.1
  refine go [1224] 200 _ _ _ _ _ _ _ _ _ ?_
  refine c_looked hC hD (fun S1 f1 i1 => ?_)
  refine q_looked (InvM_o f1 rfl hJ) hD (fun S2 f2 j2 => ?_)
  refine ite_t rfl ?_
  exact nx _ _ _ _ _ _ ⟨N, d, g, sd, InvC_o n6 f2 (fun _ _ => rfl) i1, j2, hD, hW, hn⟩ (.inl ⟨rfl, rfl⟩)
theorem w_judge (go : LW l L xs D Q At) (hx : XI vi L) (hI : InvA n K S G P) (hcs : cs + 1 ≤ 7302) (nx : NX1 At vi n cs) : At 830 [.ref 31, .ref 32, .ref 120, .int vi] [] n K S G P cs := by
  obtain ⟨N, d, g, sd, hC, hJ, hD, hW, hn⟩ := hI
  obtain ⟨x1, x2, x3, x4, x5⟩ := hx
  have n6 := hD.2.2.2.1
  refine go [1224] 200 _ _ _ _ _ _ _ _ _ ?_
  refine ite_t x1 ?_
  refine ite_t x2 ?_
  refine c_judge hC hD (fun S1 f1 i1 => ?_)
  refine ite_t x1 ?_
  refine ite_t x2 ?_
  refine q_judge (InvM_o f1 rfl hJ) hD (fun S2 f2 j2 => ?_)
  refine ite_t rfl ?_
  exact nx _ _ _ _ _ _ ⟨N, d, g, sd, InvC_o n6 f2 (fun _ _ => rfl) i1, j2, hD, hW, hn⟩ (.inl ⟨rfl, rfl⟩)
theorem w_trace (go : LW l L xs D Q At) (hx : XI vi L) (hI : InvA n K S G P) (hcs : cs + 1 ≤ 7302) (nx : NX1 At vi n cs) : At 932 [.ref 31, .ref 32, .ref 120, .int vi] [] n K S G P cs := by
  obtain ⟨N, d, g, sd, hC, hJ, hD, hW, hn⟩ := hI
  obtain ⟨x1, x2, x3, x4, x5⟩ := hx
  have n6 := hD.2.2.2.1
  refine go [1224] 200 _ _ _ _ _ _ _ _ _ ?_
  refine ite_t x1 ?_
  refine c_trace hC hD (fun S1 f1 i1 => ?_)
  refine ite_t x1 ?_
  refine q_trace (InvM_o f1 rfl hJ) hD (fun S2 f2 j2 => ?_)
  refine ite_t rfl ?_
  exact nx _ _ _ _ _ _ ⟨N, d, g, sd, InvC_o n6 f2 (fun _ _ => rfl) i1, j2, hD, hW, hn⟩ (.inl ⟨rfl, rfl⟩)
theorem w_taken (go : LW l L xs D Q At) (hx : XI vi L) (hI : InvA n K S G P) (hcs : cs + 1 ≤ 7302) (nx : NX1 At vi n cs) : At 955 [.ref 31, .ref 32, .ref 120, .int vi] [] n K S G P cs := by
  obtain ⟨N, d, g, sd, hC, hJ, hD, hW, hn⟩ := hI
  obtain ⟨x1, x2, x3, x4, x5⟩ := hx
  have n6 := hD.2.2.2.1
  refine go [1224] 200 _ _ _ _ _ _ _ _ _ ?_
  refine ite_t x1 ?_
  refine ite_t x2 ?_
  refine c_taken hC hD (fun S1 f1 i1 => ?_)
  refine ite_t x1 ?_
  refine ite_t x2 ?_
  refine q_taken (InvM_o f1 rfl hJ) hD (fun S2 f2 j2 => ?_)
  refine ite_t rfl ?_
  exact nx _ _ _ _ _ _ ⟨N, d, g, sd, InvC_o n6 f2 (fun _ _ => rfl) i1, j2, hD, hW, hn⟩ (.inl ⟨rfl, rfl⟩)
theorem w_count (go : LW l L xs D Q At) (hx : XI vi L) (hI : InvA n K S G P) (hcs : cs + 1 ≤ 7302) (nx : NX1 At vi n cs) : At 988 [.ref 31, .ref 32, .ref 120, .int vi] [] n K S G P cs := by
  obtain ⟨N, d, g, sd, hC, hJ, hD, hW, hn⟩ := hI
  obtain ⟨x1, x2, x3, x4, x5⟩ := hx
  have n6 := hD.2.2.2.1
  refine go [1224] 200 _ _ _ _ _ _ _ _ _ ?_
  refine ite_t x1 ?_
  refine c_count hC hD (fun S1 f1 i1 => ?_)
  refine ite_t x1 ?_
  refine q_count (InvM_o f1 rfl hJ) hD (fun S2 f2 j2 => ?_)
  refine ite_t rfl ?_
  exact nx _ _ _ _ _ _ ⟨N, d, g, sd, InvC_o n6 f2 (fun _ _ => rfl) i1, j2, hD, hW, hn⟩ (.inl ⟨rfl, rfl⟩)
theorem w_read (go : LW l L xs D Q At) (hx : XI vi L) (hI : InvA n K S G P) (hcs : cs + 1 ≤ 7302) (nx : NX1 At vi n cs) : At 1127 [.ref 31, .ref 32, .ref 120, .int vi] [] n K S G P cs := by
  obtain ⟨N, d, g, sd, hC, hJ, hD, hW, hn⟩ := hI
  obtain ⟨x1, x2, x3, x4, x5⟩ := hx
  have n6 := hD.2.2.2.1
  refine go [1224] 200 _ _ _ _ _ _ _ _ _ ?_
  refine ite_t x1 ?_
  refine ite_t x2 ?_
  refine c_read hC hD (fun S1 f1 i1 => ?_)
  refine ite_t x1 ?_
  refine ite_t x2 ?_
  refine q_read (InvM_o f1 rfl hJ) hD (fun S2 f2 j2 => ?_)
  refine ite_t (by rw [lg_cmp_eq]) ?_
  exact nx _ _ _ _ _ _ ⟨N, d, g, sd, InvC_o n6 f2 (fun _ _ => rfl) i1, j2, hD, hW, hn⟩ (.inl ⟨rfl, rfl⟩)
end A
end

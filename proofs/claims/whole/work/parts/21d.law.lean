noncomputable section
/-! THE LAW's cases: plan, book (by program: gen21.py). -/
section A
variable {l : Launch} {L : Nat} {xs : Nat → Int32} {D : Nat} {n : Nat} {K : Mk} {S : Mi} {G : Ml} {P : Mr} {Q : QT} {vi : Int32} {At : PT} {cs : Nat}
set_option maxRecDepth 20000
theorem w_plan (go : LW l L xs D Q At) (hx : XI vi L) (hI : InvA n K S G P) (hcs : cs + 1 ≤ 7302) (nx : NX1 At vi n cs) : At 718 [.ref 31, .ref 32, .ref 120, .int vi] [] n K S G P cs := by
  obtain ⟨N, d, g, sd, hC, hJ, hD, hW, hn⟩ := hI
  obtain ⟨x1, x2, x3, x4, x5⟩ := hx
  have n6 := hD.2.2.2.1
  obtain ⟨r, r5, hr, _⟩ := hD.1.2.2.2.2.2.2.2.1
  refine go [1224] 200 _ _ _ _ _ _ _ _ _ ?_
  refine ite_t x1 ?_
  refine ite_t x2 ?_
  refine c_plan hC hD hr r5 (fun em S1 f1 i1 => ?_) (fun ok S1 f1 i1 => ?_) (fun nm no => ?_)
  · refine ite_t x1 ?_
    refine ite_t x2 ?_
    refine q_plan (InvM_o f1 rfl hJ) hD hr r5 (fun em2 S2 f2 j2 => ?_) (fun ok2 => absurd em (ne_plan ok2)) (fun nm2 => absurd em nm2)
    exact nx _ _ _ _ _ _ ⟨N, _, g, sd, InvC_o n6 f2 (fun _ _ => rfl) i1, j2, (d_plan0 hD), hW, hn⟩ (.inl ⟨rfl, rfl⟩)
  · refine ite_t x1 ?_
    refine ite_t x2 ?_
    refine q_plan (InvM_o f1 rfl hJ) hD hr r5 (fun em2 => absurd em2 (ne_plan ok)) (fun ok2 S2 f2 j2 => ?_) (fun nm2 no2 => absurd ok no2)
    refine ite_t rfl ?_
    exact nx _ _ _ _ _ _ ⟨N, _, g, sd, InvC_o n6 f2 (fun _ _ => rfl) i1, j2, (d_plan hD hr ok), hW, hn⟩ (.inl ⟨rfl, rfl⟩)
  · refine ite_t x1 ?_
    refine ite_t x2 ?_
    refine q_plan hJ hD hr r5 (fun em2 => absurd em2 nm) (fun ok2 => absurd ok2 no) (fun nm2 no2 => ?_)
    refine ite_t rfl ?_
    exact nx _ _ _ _ _ _ ⟨N, d, g, sd, hC, hJ, hD, hW, hn⟩ (.inl ⟨rfl, rfl⟩)
theorem w_book (go : LW l L xs D Q At) (hx : XI vi L) (hI : InvA n K S G P) (hcs : cs + 1 ≤ 7302) (nx : NX1 At vi n cs) : At 774 [.ref 31, .ref 32, .ref 120, .int vi] [] n K S G P cs := by
  obtain ⟨N, d, g, sd, hC, hJ, hD, hW, hn⟩ := hI
  obtain ⟨x1, x2, x3, x4, x5⟩ := hx
  have n6 := hD.2.2.2.1
  obtain ⟨r, r5, hr, _⟩ := hD.1.2.2.2.2.2.2.2.2
  refine go [1224] 200 _ _ _ _ _ _ _ _ _ ?_
  refine ite_t x1 ?_
  refine ite_t x2 ?_
  refine ite_t x3 ?_
  refine c_book hC hD hr r5 (fun em S1 f1 i1 => ?_) (fun ok S1 f1 i1 => ?_) (fun nm no => ?_)
  · refine ite_t x1 ?_
    refine ite_t x2 ?_
    refine ite_t x3 ?_
    refine q_book (InvM_o f1 rfl hJ) hD hr r5 (fun em2 S2 f2 j2 => ?_) (fun ok2 => absurd em (ne_book ok2)) (fun nm2 => absurd em nm2)
    exact nx _ _ _ _ _ _ ⟨N, _, g, sd, InvC_o n6 f2 (fun _ _ => rfl) i1, j2, (d_book0 hD), hW, hn⟩ (.inl ⟨rfl, rfl⟩)
  · refine ite_t x1 ?_
    refine ite_t x2 ?_
    refine ite_t x3 ?_
    refine q_book (InvM_o f1 rfl hJ) hD hr r5 (fun em2 => absurd em2 (ne_book ok)) (fun ok2 S2 f2 j2 => ?_) (fun nm2 no2 => absurd ok no2)
    refine ite_t rfl ?_
    exact nx _ _ _ _ _ _ ⟨N, _, g, sd, InvC_o n6 f2 (fun _ _ => rfl) i1, j2, (d_book hD hr ok), hW, hn⟩ (.inl ⟨rfl, rfl⟩)
  · refine ite_t x1 ?_
    refine ite_t x2 ?_
    refine ite_t x3 ?_
    refine q_book hJ hD hr r5 (fun em2 => absurd em2 nm) (fun ok2 => absurd ok2 no) (fun nm2 no2 => ?_)
    refine ite_t rfl ?_
    exact nx _ _ _ _ _ _ ⟨N, d, g, sd, hC, hJ, hD, hW, hn⟩ (.inl ⟨rfl, rfl⟩)
end A
end

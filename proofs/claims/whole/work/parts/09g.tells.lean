noncomputable section
/-! TELLS of the component, by the class. -/
section A
variable {l : Launch} {L : Nat} {xs : Nat → Int32} {D : Nat} {n : Nat} {K : Mk} {S : Mi} {G : Ml} {P : Mr} {Q : QT} {w c : Nat} {nu v x : Int32}
set_option maxRecDepth 20000
theorem m_t4_0 (hp : Pn n K S P w 0 nu v) (ht : TrOk S 6) (h : Q (some (.int (t4V 0 nu v x))) n K (bgs S (t4L 0)) G P) : Ok l L xs T1 (D + 7) jX4_tells 0 [.ref w, .int x] n K S G P Q := by
  refine I_X4_tells (by decide) (fun At go => ?_)
  rw [show bgs S (t4L 0) = bgs (bg S 12) (scL 0) from bgs_c S 12 (scL 0)] at h
  refine go [] 40 _ _ _ _ _ _ _ _ _ ?_
  refine sh_p hp.1 ?_
  refine rf_v hp.2.2.2 ?_
  refine m_begins ht.1 ?_
  refine sh_p hp.1 ?_
  refine m_s00 (pn_bg 12 hp) (tr_le (tr_bg 12 ht) (by decide)) ?_
  exact h
theorem m_t4_1 (hp : Pn n K S P w 1 nu v) (ht : TrOk S 6) (h : Q (some (.int (t4V 1 nu v x))) n K (bgs S (t4L 1)) G P) : Ok l L xs T1 (D + 7) jX4_tells 0 [.ref w, .int x] n K S G P Q := by
  refine I_X4_tells (by decide) (fun At go => ?_)
  rw [show bgs S (t4L 1) = bgs (bg S 12) (scL 1) from bgs_c S 12 (scL 1)] at h
  refine go [] 40 _ _ _ _ _ _ _ _ _ ?_
  refine sh_p hp.1 ?_
  refine rf_v hp.2.2.2 ?_
  refine m_begins ht.1 ?_
  refine sh_p hp.1 ?_
  refine m_s4 (pn_bg 12 hp) (.inr (.inl rfl)) (tr_le (tr_bg 12 ht) (by decide)) ?_
  exact h
theorem m_t4_2 (hp : Pn n K S P w 2 nu v) (ht : TrOk S 6) (h : Q (some (.int (t4V 2 nu v x))) n K (bgs S (t4L 2)) G P) : Ok l L xs T1 (D + 7) jX4_tells 0 [.ref w, .int x] n K S G P Q := by
  refine I_X4_tells (by decide) (fun At go => ?_)
  rw [show bgs S (t4L 2) = bgs (bg S 12) (scL 2) from bgs_c S 12 (scL 2)] at h
  refine go [] 40 _ _ _ _ _ _ _ _ _ ?_
  refine sh_p hp.1 ?_
  refine rf_v hp.2.2.2 ?_
  refine m_begins ht.1 ?_
  refine sh_p hp.1 ?_
  refine m_s4 (pn_bg 12 hp) (.inr (.inr (.inl rfl))) (tr_le (tr_bg 12 ht) (by decide)) ?_
  exact h
theorem m_t4_4 (hp : Pn n K S P w 4 nu v) (ht : TrOk S 6) (h : Q (some (.int (t4V 4 nu v x))) n K (bgs S (t4L 4)) G P) : Ok l L xs T1 (D + 7) jX4_tells 0 [.ref w, .int x] n K S G P Q := by
  refine I_X4_tells (by decide) (fun At go => ?_)
  rw [show bgs S (t4L 4) = bgs (bg S 12) (scL 4) from bgs_c S 12 (scL 4)] at h
  refine go [] 40 _ _ _ _ _ _ _ _ _ ?_
  refine sh_p hp.1 ?_
  refine rf_v hp.2.2.2 ?_
  refine m_begins ht.1 ?_
  refine sh_p hp.1 ?_
  refine m_s4 (pn_bg 12 hp) (.inr (.inr (.inr (.inl rfl)))) (tr_le (tr_bg 12 ht) (by decide)) ?_
  exact h
theorem m_t4_5 (hp : Pn n K S P w 5 nu v) (ht : TrOk S 6) (h : Q (some (.int (t4V 5 nu v x))) n K (bgs S (t4L 5)) G P) : Ok l L xs T1 (D + 7) jX4_tells 0 [.ref w, .int x] n K S G P Q := by
  refine I_X4_tells (by decide) (fun At go => ?_)
  rw [show bgs S (t4L 5) = bgs (bg S 12) (scL 5) from bgs_c S 12 (scL 5)] at h
  refine go [] 40 _ _ _ _ _ _ _ _ _ ?_
  refine sh_p hp.1 ?_
  refine rf_v hp.2.2.2 ?_
  refine m_begins ht.1 ?_
  refine sh_p hp.1 ?_
  refine m_s4 (pn_bg 12 hp) (.inr (.inr (.inr (.inr (.inl rfl))))) (tr_le (tr_bg 12 ht) (by decide)) ?_
  exact h
theorem m_t4_6 (hp : Pn n K S P w 6 nu v) (ht : TrOk S 6) (h : Q (some (.int (t4V 6 nu v x))) n K (bgs S (t4L 6)) G P) : Ok l L xs T1 (D + 7) jX4_tells 0 [.ref w, .int x] n K S G P Q := by
  refine I_X4_tells (by decide) (fun At go => ?_)
  rw [show bgs S (t4L 6) = bgs (bg S 12) (scL 6) from bgs_c S 12 (scL 6)] at h
  refine go [] 40 _ _ _ _ _ _ _ _ _ ?_
  refine sh_p hp.1 ?_
  refine rf_v hp.2.2.2 ?_
  refine m_begins ht.1 ?_
  refine sh_p hp.1 ?_
  refine m_s6 (pn_bg 12 hp) (tr_le (tr_bg 12 ht) (by decide)) ?_
  exact h
theorem m_t4_8 (hp : Pn n K S P w 8 nu v) (ht : TrOk S 6) (h : Q (some (.int (t4V 8 nu v x))) n K (bgs S (t4L 8)) G P) : Ok l L xs T1 (D + 7) jX4_tells 0 [.ref w, .int x] n K S G P Q := by
  refine I_X4_tells (by decide) (fun At go => ?_)
  rw [show bgs S (t4L 8) = bgs (bg S 12) (scL 8) from bgs_c S 12 (scL 8)] at h
  refine go [] 40 _ _ _ _ _ _ _ _ _ ?_
  refine sh_p hp.1 ?_
  refine rf_v hp.2.2.2 ?_
  refine m_begins ht.1 ?_
  refine sh_p hp.1 ?_
  refine m_s8 (pn_bg 12 hp) rfl (tr_le (tr_bg 12 ht) (by decide)) ?_
  exact h
end A
end

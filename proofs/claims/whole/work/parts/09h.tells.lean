noncomputable section
/-! TELLS of the mute, the told and the loud. -/
section A
variable {l : Launch} {L : Nat} {xs : Nat → Int32} {D : Nat} {n : Nat} {K : Mk} {S : Mi} {G : Ml} {P : Mr} {Q : QT} {w c : Nat} {nu v x : Int32}
set_option maxRecDepth 20000
theorem m_t2_2 (hp : Pn n K S P w 2 nu v) (ht : TrOk S 12) (h : Q (some (.int (teV 2 nu v x))) n K (bgs S (teL 2)) G P) : Ok l L xs T1 (D + 8) jX2_tells 0 [.ref w, .int x] n K S G P Q := by
  refine I_X2_tells (by decide) (fun At go => ?_)
  have e : bgs S (teL 2) = bgs (bgs (bg S 40) (t4L 2)) (scL 2) := by
    rw [show teL 2 = 40 :: (t4L 2 ++ scL 2) from rfl, bgs_c, bgs_app]
  rw [e] at h
  refine go [] 40 _ _ _ _ _ _ _ _ _ ?_
  refine sh_p hp.1 ?_
  refine rf_v hp.2.2.2 ?_
  refine m_begins ht.1 ?_
  refine sh_p hp.1 ?_
  refine m_t4_2 (pn_bg 40 hp) (tr_le (tr_bg 40 ht) (by decide)) ?_
  refine sh_p hp.1 ?_
  refine m_s4 (pn_bgs _ (pn_bg 40 hp)) (.inr (.inr (.inl rfl))) (tr_bgs (k := 3) [12, 11, 10] _ (tr_le (tr_bg 40 ht) (by decide))) ?_
  exact h
theorem m_t2_8 (hp : Pn n K S P w 8 nu v) (ht : TrOk S 12) (h : Q (some (.int (teV 8 nu v x))) n K (bgs S (teL 8)) G P) : Ok l L xs T1 (D + 8) jX2_tells 0 [.ref w, .int x] n K S G P Q := by
  refine I_X2_tells (by decide) (fun At go => ?_)
  have e : bgs S (teL 8) = bgs (bgs (bg S 40) (t4L 8)) (scL 8) := by
    rw [show teL 8 = 40 :: (t4L 8 ++ scL 8) from rfl, bgs_c, bgs_app]
  rw [e] at h
  refine go [] 40 _ _ _ _ _ _ _ _ _ ?_
  refine sh_p hp.1 ?_
  refine rf_v hp.2.2.2 ?_
  refine m_begins ht.1 ?_
  refine sh_p hp.1 ?_
  refine m_t4_8 (pn_bg 40 hp) (tr_le (tr_bg 40 ht) (by decide)) ?_
  refine sh_p hp.1 ?_
  refine m_s8 (pn_bgs _ (pn_bg 40 hp)) rfl (tr_bgs (k := 5) [12, 70, 11, 71, 10, 10] _ (tr_bg 40 ht)) ?_
  exact h
theorem m_t1 (hp : Pn n K S P w 1 nu v) (ht : TrOk S 7) (h : Q (some (.int (teV 1 nu v x))) n K (bgs S (teL 1)) G P) : Ok l L xs T1 (D + 8) jX1_tells 0 [.ref w, .int x] n K S G P Q := by
  refine I_X1_tells (by decide) (fun At go => ?_)
  have h' : Q (some (.int (t4V 1 nu v (x - bg S 60 w 1)))) n K (bgs (bg S 60) (t4L 1)) G P := by
    rw [show bgs S (teL 1) = bgs (bg S 60) (t4L 1) from bgs_c S 60 (t4L 1)] at h
    rw [(pn_bg 60 hp).2.1]
    exact h
  refine go [] 40 _ _ _ _ _ _ _ _ _ ?_
  refine sh_p hp.1 ?_
  refine rf_v hp.2.2.2 ?_
  refine m_begins ht.1 ?_
  refine sh_p hp.1 ?_
  refine sh_p hp.1 ?_
  refine m_t4_1 (pn_bg 60 hp) (tr_le (tr_bg 60 ht) (by decide)) ?_
  exact h'
end A
end

noncomputable section
/-! SCOFFS of the model: the body of One, by the kind of the one it is asked of. -/
section A
variable {l : Launch} {L : Nat} {xs : Nat → Int32} {D : Nat} {n : Nat} {K : Mk} {S : Mi} {G : Ml} {P : Mr} {Q : QT} {p : Nat} {v x : Int32}
set_option maxRecDepth 20000
theorem mm_shz {y z k : Int32} (hz : z = k) (h : Ok l L xs T1 D jX12_shuns 0 [.ref 120, .int y, .int k, .int x] n K S G P Q) : Ok l L xs T1 D jX12_shuns 0 [.ref 120, .int y, .int z, .int x] n K S G P Q := by
  subst hz
  exact h
theorem mm_scz {y z k : Int32} (hz : z = k) (h : Ok l L xs T1 D jX12_scoffs 0 [.ref 120, .int y, .int k, .int x] n K S G P Q) : Ok l L xs T1 D jX12_scoffs 0 [.ref 120, .int y, .int z, .int x] n K S G P Q := by
  subst hz
  exact h
theorem mm_s0_0 (hp : p < 6) (hk : S 121 p = 0) (hv : S 122 p = v) (ht : MtOk S 3) (h : Q (some (.int (s4V 4 (nI p) v x))) n K (bgms S (s4L 4)) G P) : Ok l L xs T1 (D + 5) jX12_scoffs 0 [.ref 120, .int (nI p), .int 0, .int x] n K S G P Q := by
  refine I_X12_scoffs (by decide) (fun At go => ?_)
  have h' : Q (some (.int (shV 4 (nI p) v x - bgms S (s4L 4) 122 (nI p).toNatClampNeg))) n K (bgms S (s4L 4)) G P := by
    rw [nI_clamp (by omega), bgms_o (by decide) (by decide), hv]
    exact h
  rw [show bgms S (s4L 4) = bgms (bgm S 11) (shL 4) from bgms_c S 11 (shL 4)] at h'
  have hz : bgm S 11 121 (nI p).toNatClampNeg = 0 := by
    rw [nI_clamp (by omega), bgm_o S 11 (by decide) (by decide), hk]
  refine go [] 40 _ _ _ _ _ _ _ _ _ ?_
  refine mm_ran ht.1 ?_
  refine ite_t (ixB_nI hp (by decide)) ?_
  refine mm_shz hz ?_
  refine mm_sh0 (mt_le (mt_bg 11 ht) (by decide)) ?_
  refine ite_t (ixB_nI hp (by decide)) ?_
  exact h'
theorem mm_s0_1 (hp : p < 6) (hk : S 121 p = 1) (hv : S 122 p = v) (ht : MtOk S 3) (h : Q (some (.int (s4V 0 (nI p) v x))) n K (bgms S (s4L 0)) G P) : Ok l L xs T1 (D + 5) jX12_scoffs 0 [.ref 120, .int (nI p), .int 0, .int x] n K S G P Q := by
  refine I_X12_scoffs (by decide) (fun At go => ?_)
  have h' : Q (some (.int (shV 0 (nI p) v x - bgms S (s4L 0) 122 (nI p).toNatClampNeg))) n K (bgms S (s4L 0)) G P := by
    rw [nI_clamp (by omega), bgms_o (by decide) (by decide), hv]
    exact h
  rw [show bgms S (s4L 0) = bgms (bgm S 11) (shL 0) from bgms_c S 11 (shL 0)] at h'
  have hz : bgm S 11 121 (nI p).toNatClampNeg = 1 := by
    rw [nI_clamp (by omega), bgm_o S 11 (by decide) (by decide), hk]
  refine go [] 40 _ _ _ _ _ _ _ _ _ ?_
  refine mm_ran ht.1 ?_
  refine ite_t (ixB_nI hp (by decide)) ?_
  refine mm_shz hz ?_
  refine mm_sh1 (mt_le (mt_bg 11 ht) (by decide)) ?_
  refine ite_t (ixB_nI hp (by decide)) ?_
  exact h'
theorem mm_s0_2 (hp : p < 6) (hk : S 121 p = 2) (hv : S 122 p = v) (ht : MtOk S 3) (h : Q (some (.int (s4V 5 (nI p) v x))) n K (bgms S (s4L 5)) G P) : Ok l L xs T1 (D + 5) jX12_scoffs 0 [.ref 120, .int (nI p), .int 0, .int x] n K S G P Q := by
  refine I_X12_scoffs (by decide) (fun At go => ?_)
  have h' : Q (some (.int (shV 5 (nI p) v x - bgms S (s4L 5) 122 (nI p).toNatClampNeg))) n K (bgms S (s4L 5)) G P := by
    rw [nI_clamp (by omega), bgms_o (by decide) (by decide), hv]
    exact h
  rw [show bgms S (s4L 5) = bgms (bgm S 11) (shL 5) from bgms_c S 11 (shL 5)] at h'
  have hz : bgm S 11 121 (nI p).toNatClampNeg = 2 := by
    rw [nI_clamp (by omega), bgm_o S 11 (by decide) (by decide), hk]
  refine go [] 40 _ _ _ _ _ _ _ _ _ ?_
  refine mm_ran ht.1 ?_
  refine ite_t (ixB_nI hp (by decide)) ?_
  refine mm_shz hz ?_
  refine mm_sh2 (mt_le (mt_bg 11 ht) (by decide)) ?_
  refine ite_t (ixB_nI hp (by decide)) ?_
  exact h'
theorem mm_s0_3 (hp : p < 6) (hk : S 121 p = 3) (hv : S 122 p = v) (ht : MtOk S 3) (h : Q (some (.int (s4V 2 (nI p) v x))) n K (bgms S (s4L 2)) G P) : Ok l L xs T1 (D + 5) jX12_scoffs 0 [.ref 120, .int (nI p), .int 0, .int x] n K S G P Q := by
  refine I_X12_scoffs (by decide) (fun At go => ?_)
  have h' : Q (some (.int (shV 2 (nI p) v x - bgms S (s4L 2) 122 (nI p).toNatClampNeg))) n K (bgms S (s4L 2)) G P := by
    rw [nI_clamp (by omega), bgms_o (by decide) (by decide), hv]
    exact h
  rw [show bgms S (s4L 2) = bgms (bgm S 11) (shL 2) from bgms_c S 11 (shL 2)] at h'
  have hz : bgm S 11 121 (nI p).toNatClampNeg = 3 := by
    rw [nI_clamp (by omega), bgm_o S 11 (by decide) (by decide), hk]
  refine go [] 40 _ _ _ _ _ _ _ _ _ ?_
  refine mm_ran ht.1 ?_
  refine ite_t (ixB_nI hp (by decide)) ?_
  refine mm_shz hz ?_
  refine mm_sh3 (mt_le (mt_bg 11 ht) (by decide)) ?_
  refine ite_t (ixB_nI hp (by decide)) ?_
  exact h'
theorem mm_s0_4 (hp : p < 6) (hk : S 121 p = 4) (hv : S 122 p = v) (ht : MtOk S 3) (h : Q (some (.int (s4V 6 (nI p) v x))) n K (bgms S (s4L 6)) G P) : Ok l L xs T1 (D + 5) jX12_scoffs 0 [.ref 120, .int (nI p), .int 0, .int x] n K S G P Q := by
  refine I_X12_scoffs (by decide) (fun At go => ?_)
  have h' : Q (some (.int (shV 6 (nI p) v x - bgms S (s4L 6) 122 (nI p).toNatClampNeg))) n K (bgms S (s4L 6)) G P := by
    rw [nI_clamp (by omega), bgms_o (by decide) (by decide), hv]
    exact h
  rw [show bgms S (s4L 6) = bgms (bgm S 11) (shL 6) from bgms_c S 11 (shL 6)] at h'
  have hz : bgm S 11 121 (nI p).toNatClampNeg = 4 := by
    rw [nI_clamp (by omega), bgm_o S 11 (by decide) (by decide), hk]
  refine go [] 40 _ _ _ _ _ _ _ _ _ ?_
  refine mm_ran ht.1 ?_
  refine ite_t (ixB_nI hp (by decide)) ?_
  refine mm_shz hz ?_
  refine mm_sh4 (mt_le (mt_bg 11 ht) (by decide)) ?_
  refine ite_t (ixB_nI hp (by decide)) ?_
  exact h'
theorem mm_s0_5 (hp : p < 6) (hk : S 121 p = 5) (hv : S 122 p = v) (ht : MtOk S 3) (h : Q (some (.int (s4V 1 (nI p) v x))) n K (bgms S (s4L 1)) G P) : Ok l L xs T1 (D + 5) jX12_scoffs 0 [.ref 120, .int (nI p), .int 0, .int x] n K S G P Q := by
  refine I_X12_scoffs (by decide) (fun At go => ?_)
  have h' : Q (some (.int (shV 1 (nI p) v x - bgms S (s4L 1) 122 (nI p).toNatClampNeg))) n K (bgms S (s4L 1)) G P := by
    rw [nI_clamp (by omega), bgms_o (by decide) (by decide), hv]
    exact h
  rw [show bgms S (s4L 1) = bgms (bgm S 11) (shL 1) from bgms_c S 11 (shL 1)] at h'
  have hz : bgm S 11 121 (nI p).toNatClampNeg = 5 := by
    rw [nI_clamp (by omega), bgm_o S 11 (by decide) (by decide), hk]
  refine go [] 40 _ _ _ _ _ _ _ _ _ ?_
  refine mm_ran ht.1 ?_
  refine ite_t (ixB_nI hp (by decide)) ?_
  refine mm_shz hz ?_
  refine mm_sh5 (mt_le (mt_bg 11 ht) (by decide)) ?_
  refine ite_t (ixB_nI hp (by decide)) ?_
  exact h'
theorem mm_s0_6 (hp : p < 6) (hk : S 121 p = 6) (hv : S 122 p = v) (ht : MtOk S 3) (h : Q (some (.int (s4V 8 (nI p) v x))) n K (bgms S (s4L 8)) G P) : Ok l L xs T1 (D + 5) jX12_scoffs 0 [.ref 120, .int (nI p), .int 0, .int x] n K S G P Q := by
  refine I_X12_scoffs (by decide) (fun At go => ?_)
  have h' : Q (some (.int (shV 8 (nI p) v x - bgms S (s4L 8) 122 (nI p).toNatClampNeg))) n K (bgms S (s4L 8)) G P := by
    rw [nI_clamp (by omega), bgms_o (by decide) (by decide), hv]
    exact h
  rw [show bgms S (s4L 8) = bgms (bgm S 11) (shL 8) from bgms_c S 11 (shL 8)] at h'
  have hz : bgm S 11 121 (nI p).toNatClampNeg = 6 := by
    rw [nI_clamp (by omega), bgm_o S 11 (by decide) (by decide), hk]
  refine go [] 40 _ _ _ _ _ _ _ _ _ ?_
  refine mm_ran ht.1 ?_
  refine ite_t (ixB_nI hp (by decide)) ?_
  refine mm_shz hz ?_
  refine mm_sh6 (v := v) hp ((bgm_o S 11 (by decide) (by decide)).trans hv) (mt_le (mt_bg 11 ht) (by decide)) ?_
  refine ite_t (ixB_nI hp (by decide)) ?_
  exact h'
end A
end

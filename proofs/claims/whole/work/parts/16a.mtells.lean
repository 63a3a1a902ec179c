noncomputable section
/-! SCOFFS and TELLS of the model, by the kind's number (by program: gen16a.py). -/
section A
variable {l : Launch} {L : Nat} {xs : Nat → Int32} {D : Nat} {n : Nat} {K : Mk} {S : Mi} {G : Ml} {P : Mr} {Q : QT} {p : Nat} {v x : Int32}
set_option maxRecDepth 20000
theorem mm_s1_1 (hp : p < 6) (hk : S 121 p = 1) (hv : S 122 p = v) (ht : MtOk S 4) (h : Q (some (.int (s4V 0 (nI p) v x ^^^ 6))) n K (bgms S (20 :: s4L 0)) G P) : Ok l L xs T1 (D + 6) jX12_scoffs 0 [.ref 120, .int (nI p), .int 1, .int x] n K S G P Q := by
  refine I_X12_scoffs (by decide) (fun At go => ?_)
  rw [bgms_c] at h
  refine go [] 40 _ _ _ _ _ _ _ _ _ ?_
  refine mm_ran ht.1 ?_
  refine mm_s0_1 hp ((bgm_o S 20 (by decide) (by decide)).trans hk) ((bgm_o S 20 (by decide) (by decide)).trans hv) (mt_bg 20 ht) ?_
  exact h
theorem mm_s1_4 (hp : p < 6) (hk : S 121 p = 4) (hv : S 122 p = v) (ht : MtOk S 4) (h : Q (some (.int (s4V 6 (nI p) v x ^^^ 6))) n K (bgms S (20 :: s4L 6)) G P) : Ok l L xs T1 (D + 6) jX12_scoffs 0 [.ref 120, .int (nI p), .int 1, .int x] n K S G P Q := by
  refine I_X12_scoffs (by decide) (fun At go => ?_)
  rw [bgms_c] at h
  refine go [] 40 _ _ _ _ _ _ _ _ _ ?_
  refine mm_ran ht.1 ?_
  refine mm_s0_4 hp ((bgm_o S 20 (by decide) (by decide)).trans hk) ((bgm_o S 20 (by decide) (by decide)).trans hv) (mt_bg 20 ht) ?_
  exact h
theorem mm_s4_4 (hp : p < 6) (hk : S 121 p = 4) (hv : S 122 p = v) (ht : MtOk S 5) (h : Q (some (.int (scV 6 (nI p) v x))) n K (bgms S (scL 6)) G P) : Ok l L xs T1 (D + 7) jX12_scoffs 0 [.ref 120, .int (nI p), .int 4, .int x] n K S G P Q := by
  refine I_X12_scoffs (by decide) (fun At go => ?_)
  rw [show bgms S (scL 6) = bgms (bgm S 51) (20 :: s4L 6) from bgms_c S 51 (20 :: s4L 6)] at h
  refine go [] 40 _ _ _ _ _ _ _ _ _ ?_
  refine mm_ran ht.1 ?_
  refine mm_s1_4 (x := x + 1) hp ((bgm_o S 51 (by decide) (by decide)).trans hk) ((bgm_o S 51 (by decide) (by decide)).trans hv) (mt_bg 51 ht) ?_
  exact h
theorem mm_s2_2 (hp : p < 6) (hk : S 121 p = 2) (hv : S 122 p = v) (ht : MtOk S 3) (h : Q (some (.int (s4V 5 (nI p) v x))) n K (bgms S (s4L 5)) G P) : Ok l L xs T1 (D + 6) jX12_scoffs 0 [.ref 120, .int (nI p), .int 2, .int x] n K S G P Q := by
  refine I_X12_scoffs (by decide) (fun At go => ?_)
  refine go [] 40 _ _ _ _ _ _ _ _ _ ?_
  refine mm_above ?_
  refine mm_scz (k := 0) (by decide) ?_
  refine mm_s0_2 hp hk hv ht ?_
  exact h
theorem mm_s2_5 (hp : p < 6) (hk : S 121 p = 5) (hv : S 122 p = v) (ht : MtOk S 3) (h : Q (some (.int (s4V 1 (nI p) v x))) n K (bgms S (s4L 1)) G P) : Ok l L xs T1 (D + 6) jX12_scoffs 0 [.ref 120, .int (nI p), .int 2, .int x] n K S G P Q := by
  refine I_X12_scoffs (by decide) (fun At go => ?_)
  refine go [] 40 _ _ _ _ _ _ _ _ _ ?_
  refine mm_above ?_
  refine mm_scz (k := 0) (by decide) ?_
  refine mm_s0_5 hp hk hv ht ?_
  exact h
theorem mm_s5_5 (hp : p < 6) (hk : S 121 p = 5) (hv : S 122 p = v) (ht : MtOk S 3) (h : Q (some (.int (s4V 1 (nI p) v x))) n K (bgms S (s4L 1)) G P) : Ok l L xs T1 (D + 7) jX12_scoffs 0 [.ref 120, .int (nI p), .int 5, .int x] n K S G P Q := by
  refine I_X12_scoffs (by decide) (fun At go => ?_)
  refine go [] 40 _ _ _ _ _ _ _ _ _ ?_
  refine mm_above ?_
  refine mm_scz (k := 2) (by decide) ?_
  refine mm_s2_5 hp hk hv ht ?_
  exact h
theorem mm_s3_3 (hp : p < 6) (hk : S 121 p = 3) (hv : S 122 p = v) (ht : MtOk S 3) (h : Q (some (.int (s4V 2 (nI p) v x))) n K (bgms S (s4L 2)) G P) : Ok l L xs T1 (D + 6) jX12_scoffs 0 [.ref 120, .int (nI p), .int 3, .int x] n K S G P Q := by
  refine I_X12_scoffs (by decide) (fun At go => ?_)
  refine go [] 40 _ _ _ _ _ _ _ _ _ ?_
  refine mm_above ?_
  refine mm_scz (k := 0) (by decide) ?_
  refine mm_s0_3 hp hk hv ht ?_
  exact h
theorem mm_s3_6 (hp : p < 6) (hk : S 121 p = 6) (hv : S 122 p = v) (ht : MtOk S 3) (h : Q (some (.int (s4V 8 (nI p) v x))) n K (bgms S (s4L 8)) G P) : Ok l L xs T1 (D + 6) jX12_scoffs 0 [.ref 120, .int (nI p), .int 3, .int x] n K S G P Q := by
  refine I_X12_scoffs (by decide) (fun At go => ?_)
  refine go [] 40 _ _ _ _ _ _ _ _ _ ?_
  refine mm_above ?_
  refine mm_scz (k := 0) (by decide) ?_
  refine mm_s0_6 hp hk hv ht ?_
  exact h
theorem mm_s6_6 (hp : p < 6) (hk : S 121 p = 6) (hv : S 122 p = v) (ht : MtOk S 5) (h : Q (some (.int (scV 8 (nI p) v x))) n K (bgms S (scL 8)) G P) : Ok l L xs T1 (D + 7) jX12_scoffs 0 [.ref 120, .int (nI p), .int 6, .int x] n K S G P Q := by
  refine I_X12_scoffs (by decide) (fun At go => ?_)
  have e : bgms S (scL 8) = bgms (bgms (bgm S 70) (s4L 8)) [10] := by rw [show scL 8 = 70 :: (s4L 8 ++ [10]) from rfl, bgms_c, bgms_app]
  rw [e] at h
  refine go [] 40 _ _ _ _ _ _ _ _ _ ?_
  refine mm_ran ht.1 ?_
  refine mm_s3_6 hp ((bgm_o S 70 (by decide) (by decide)).trans hk) ((bgm_o S 70 (by decide) (by decide)).trans hv) (mt_le (mt_bg 70 ht) (by decide)) ?_
  refine mm_sh3 (mt_bgs (k := 1) [11, 71, 10] _ (mt_bg 70 ht)) ?_
  exact h
/-- scoffs, of a person of the kind k -/
theorem mm_scK {k : Nat} (hk7 : k < 7) (hp : p < 6) (hk : S 121 p = nI k) (hv : S 122 p = v) (ht : MtOk S 5) (h : Q (some (.int (scV (kcl k) (nI p) v x))) n K (bgms S (scL (kcl k))) G P) : Ok l L xs T1 (D + 7) jX12_scoffs 0 [.ref 120, .int (nI p), .int (nI k), .int x] n K S G P Q := by
  match k, hk7, hk, h with
  | 0, _, hk, h => exact mm_s0_0 (D := D + 2) hp hk hv (mt_le ht (by decide)) h
  | 1, _, hk, h => exact mm_s1_1 (D := D + 1) hp hk hv (mt_le ht (by decide)) h
  | 2, _, hk, h => exact mm_s2_2 (D := D + 1) hp hk hv (mt_le ht (by decide)) h
  | 3, _, hk, h => exact mm_s3_3 (D := D + 1) hp hk hv (mt_le ht (by decide)) h
  | 4, _, hk, h => exact mm_s4_4 hp hk hv ht h
  | 5, _, hk, h => exact mm_s5_5 hp hk hv (mt_le ht (by decide)) h
  | 6, _, hk, h => exact mm_s6_6 hp hk hv ht h
theorem mm_shK {k : Nat} (hk7 : k < 7) (hp : p < 6) (hv : S 122 p = v) (ht : MtOk S 2) (h : Q (some (.int (shV (kcl k) (nI p) v x))) n K (bgms S (shL (kcl k))) G P) : Ok l L xs T1 (D + 4) jX12_shuns 0 [.ref 120, .int (nI p), .int (nI k), .int x] n K S G P Q := by
  match k, hk7, h with
  | 0, _, h => exact mm_sh0 (D := D + 2) (mt_le ht (by decide)) h
  | 1, _, h => exact mm_sh1 (D := D + 1) (mt_le ht (by decide)) h
  | 2, _, h => exact mm_sh2 (D := D + 1) ht h
  | 3, _, h => exact mm_sh3 (D := D + 1) (mt_le ht (by decide)) h
  | 4, _, h => exact mm_sh4 ht h
  | 5, _, h => exact mm_sh5 ht h
  | 6, _, h => exact mm_sh6 hp hv ht h
/-- tells at the kind 0, of a person of the kind k -/
theorem mm_t0K {k : Nat} (hk7 : k < 7) (hp : p < 6) (hk : S 121 p = nI k) (hv : S 122 p = v) (ht : MtOk S 6) (h : Q (some (.int (t4V (kcl k) (nI p) v x))) n K (bgms S (t4L (kcl k))) G P) : Ok l L xs T1 (D + 8) jX12_tells 0 [.ref 120, .int (nI p), .int 0, .int x] n K S G P Q := by
  refine I_X12_tells (by decide) (fun At go => ?_)
  rw [show bgms S (t4L (kcl k)) = bgms (bgm S 12) (scL (kcl k)) from bgms_c S 12 (scL (kcl k))] at h
  have hz : bgm S 12 121 (nI p).toNatClampNeg = nI k := by rw [nI_clamp (by omega), bgm_o S 12 (by decide) (by decide), hk]
  refine go [] 40 _ _ _ _ _ _ _ _ _ ?_
  refine mm_ran ht.1 ?_
  refine ite_t (ixB_nI hp (by decide)) ?_
  refine mm_scz hz ?_
  refine mm_scK hk7 hp ((bgm_o S 12 (by decide) (by decide)).trans hk) ((bgm_o S 12 (by decide) (by decide)).trans hv) (mt_bg 12 ht) ?_
  exact h
theorem mm_tez {y z k : Int32} (hz : z = k) (h : Ok l L xs T1 D jX12_tells 0 [.ref 120, .int y, .int k, .int x] n K S G P Q) : Ok l L xs T1 D jX12_tells 0 [.ref 120, .int y, .int z, .int x] n K S G P Q := by
  subst hz
  exact h
theorem mm_t1_1 (hp : p < 6) (hk : S 121 p = nI 1) (hv : S 122 p = v) (ht : MtOk S 6) (h : Q (some (.int (t4V (kcl 1) (nI p) v x))) n K (bgms S (t4L (kcl 1))) G P) : Ok l L xs T1 (D + 9) jX12_tells 0 [.ref 120, .int (nI p), .int 1, .int x] n K S G P Q := by
  refine I_X12_tells (by decide) (fun At go => ?_)
  refine go [] 40 _ _ _ _ _ _ _ _ _ ?_
  refine mm_above ?_
  refine mm_tez (k := 0) (by decide) ?_
  refine mm_t0K (k := 1) (by decide) hp hk hv ht ?_
  exact h
theorem mm_t1_4 (hp : p < 6) (hk : S 121 p = nI 4) (hv : S 122 p = v) (ht : MtOk S 6) (h : Q (some (.int (t4V (kcl 4) (nI p) v x))) n K (bgms S (t4L (kcl 4))) G P) : Ok l L xs T1 (D + 9) jX12_tells 0 [.ref 120, .int (nI p), .int 1, .int x] n K S G P Q := by
  refine I_X12_tells (by decide) (fun At go => ?_)
  refine go [] 40 _ _ _ _ _ _ _ _ _ ?_
  refine mm_above ?_
  refine mm_tez (k := 0) (by decide) ?_
  refine mm_t0K (k := 4) (by decide) hp hk hv ht ?_
  exact h
theorem mm_t2_2 (hp : p < 6) (hk : S 121 p = nI 2) (hv : S 122 p = v) (ht : MtOk S 6) (h : Q (some (.int (t4V (kcl 2) (nI p) v x))) n K (bgms S (t4L (kcl 2))) G P) : Ok l L xs T1 (D + 9) jX12_tells 0 [.ref 120, .int (nI p), .int 2, .int x] n K S G P Q := by
  refine I_X12_tells (by decide) (fun At go => ?_)
  refine go [] 40 _ _ _ _ _ _ _ _ _ ?_
  refine mm_above ?_
  refine mm_tez (k := 0) (by decide) ?_
  refine mm_t0K (k := 2) (by decide) hp hk hv ht ?_
  exact h
theorem mm_t2_5 (hp : p < 6) (hk : S 121 p = nI 5) (hv : S 122 p = v) (ht : MtOk S 6) (h : Q (some (.int (t4V (kcl 5) (nI p) v x))) n K (bgms S (t4L (kcl 5))) G P) : Ok l L xs T1 (D + 9) jX12_tells 0 [.ref 120, .int (nI p), .int 2, .int x] n K S G P Q := by
  refine I_X12_tells (by decide) (fun At go => ?_)
  refine go [] 40 _ _ _ _ _ _ _ _ _ ?_
  refine mm_above ?_
  refine mm_tez (k := 0) (by decide) ?_
  refine mm_t0K (k := 5) (by decide) hp hk hv ht ?_
  exact h
theorem mm_t4_4 (hp : p < 6) (hk : S 121 p = nI 4) (hv : S 122 p = v) (ht : MtOk S 6) (h : Q (some (.int (t4V (kcl 4) (nI p) v x))) n K (bgms S (t4L (kcl 4))) G P) : Ok l L xs T1 (D + 10) jX12_tells 0 [.ref 120, .int (nI p), .int 4, .int x] n K S G P Q := by
  refine I_X12_tells (by decide) (fun At go => ?_)
  refine go [] 40 _ _ _ _ _ _ _ _ _ ?_
  refine mm_above ?_
  refine mm_tez (k := 1) (by decide) ?_
  refine mm_t1_4 hp hk hv ht ?_
  exact h
theorem mm_t3_3 (hp : p < 6) (hk : S 121 p = nI 3) (hv : S 122 p = v) (ht : MtOk S 13) (h : Q (some (.int (teV 2 (nI p) v x))) n K (bgms S (teL 2)) G P) : Ok l L xs T1 (D + 9) jX12_tells 0 [.ref 120, .int (nI p), .int 3, .int x] n K S G P Q := by
  refine I_X12_tells (by decide) (fun At go => ?_)
  have e : bgms S (teL 2) = bgms (bgms (bgm S 40) (t4L 2)) (scL 2) := by rw [show teL 2 = 40 :: (t4L 2 ++ scL 2) from rfl, bgms_c, bgms_app]
  rw [e] at h
  have hk1 : bgm S 40 121 p = nI 3 := (bgm_o S 40 (by decide) (by decide)).trans hk
  have hk2 : bgms (bgm S 40) (t4L 2) 121 p = nI 3 := (bgms_o (by decide) (by decide) _ _).trans hk1
  have hz : bgms (bgm S 40) (t4L 2) 121 (nI p).toNatClampNeg = nI 3 := by rw [nI_clamp (by omega)]; exact hk2
  refine go [] 40 _ _ _ _ _ _ _ _ _ ?_
  refine mm_ran ht.1 ?_
  refine mm_t0K (k := 3) (by decide) hp hk1 ((bgm_o S 40 (by decide) (by decide)).trans hv) (mt_le (mt_bg 40 ht) (by decide)) ?_
  refine ite_t (ixB_nI hp (by decide)) ?_
  refine mm_scz hz ?_
  refine mm_scK (k := 3) (D := D + 1) (by decide) hp hk2 ((bgms_o (by decide) (by decide) _ _).trans ((bgm_o S 40 (by decide) (by decide)).trans hv)) (mt_bgs (k := 5) [12, 11, 10] _ (mt_le (mt_bg 40 ht) (by decide))) ?_
  exact h
theorem mm_t3_6 (hp : p < 6) (hk : S 121 p = nI 6) (hv : S 122 p = v) (ht : MtOk S 13) (h : Q (some (.int (teV 8 (nI p) v x))) n K (bgms S (teL 8)) G P) : Ok l L xs T1 (D + 9) jX12_tells 0 [.ref 120, .int (nI p), .int 3, .int x] n K S G P Q := by
  refine I_X12_tells (by decide) (fun At go => ?_)
  have e : bgms S (teL 8) = bgms (bgms (bgm S 40) (t4L 8)) (scL 8) := by rw [show teL 8 = 40 :: (t4L 8 ++ scL 8) from rfl, bgms_c, bgms_app]
  rw [e] at h
  have hk1 : bgm S 40 121 p = nI 6 := (bgm_o S 40 (by decide) (by decide)).trans hk
  have hk2 : bgms (bgm S 40) (t4L 8) 121 p = nI 6 := (bgms_o (by decide) (by decide) _ _).trans hk1
  have hz : bgms (bgm S 40) (t4L 8) 121 (nI p).toNatClampNeg = nI 6 := by rw [nI_clamp (by omega)]; exact hk2
  refine go [] 40 _ _ _ _ _ _ _ _ _ ?_
  refine mm_ran ht.1 ?_
  refine mm_t0K (k := 6) (by decide) hp hk1 ((bgm_o S 40 (by decide) (by decide)).trans hv) (mt_le (mt_bg 40 ht) (by decide)) ?_
  refine ite_t (ixB_nI hp (by decide)) ?_
  refine mm_scz hz ?_
  refine mm_scK (k := 6) (D := D + 1) (by decide) hp hk2 ((bgms_o (by decide) (by decide) _ _).trans ((bgm_o S 40 (by decide) (by decide)).trans hv)) (mt_bgs (k := 5) [12, 70, 11, 71, 10, 10] _ (mt_le (mt_bg 40 ht) (by decide))) ?_
  exact h
theorem mm_t5_5 (hp : p < 6) (hk : S 121 p = nI 5) (hv : S 122 p = v) (ht : MtOk S 7) (h : Q (some (.int (teV 1 (nI p) v x))) n K (bgms S (teL 1)) G P) : Ok l L xs T1 (D + 10) jX12_tells 0 [.ref 120, .int (nI p), .int 5, .int x] n K S G P Q := by
  refine I_X12_tells (by decide) (fun At go => ?_)
  rw [show bgms S (teL 1) = bgms (bgm S 60) (t4L 1) from bgms_c S 60 (t4L 1)] at h
  refine go [] 40 _ _ _ _ _ _ _ _ _ ?_
  refine mm_ran ht.1 ?_
  refine mm_t2_5 (x := x - nI p) hp ((bgm_o S 60 (by decide) (by decide)).trans hk) ((bgm_o S 60 (by decide) (by decide)).trans hv) (mt_bg 60 ht) ?_
  exact h
theorem mm_t6_6 (hp : p < 6) (hk : S 121 p = nI 6) (hv : S 122 p = v) (ht : MtOk S 13) (h : Q (some (.int (teV 8 (nI p) v x))) n K (bgms S (teL 8)) G P) : Ok l L xs T1 (D + 10) jX12_tells 0 [.ref 120, .int (nI p), .int 6, .int x] n K S G P Q := by
  refine I_X12_tells (by decide) (fun At go => ?_)
  refine go [] 40 _ _ _ _ _ _ _ _ _ ?_
  refine mm_above ?_
  refine mm_tez (k := 3) (by decide) ?_
  refine mm_t3_6 hp hk hv ht ?_
  exact h
theorem mm_teK {k : Nat} (hk7 : k < 7) (hp : p < 6) (hk : S 121 p = nI k) (hv : S 122 p = v) (ht : MtOk S 13) (h : Q (some (.int (teV (kcl k) (nI p) v x))) n K (bgms S (teL (kcl k))) G P) : Ok l L xs T1 (D + 10) jX12_tells 0 [.ref 120, .int (nI p), .int (nI k), .int x] n K S G P Q := by
  match k, hk7, hk, h with
  | 0, _, hk, h => exact mm_t0K (k := 0) (D := D + 2) (by decide) hp hk hv (mt_le ht (by decide)) h
  | 1, _, hk, h => exact mm_t1_1 (D := D + 1) hp hk hv (mt_le ht (by decide)) h
  | 2, _, hk, h => exact mm_t2_2 (D := D + 1) hp hk hv (mt_le ht (by decide)) h
  | 3, _, hk, h => exact mm_t3_3 (D := D + 1) hp hk hv ht h
  | 4, _, hk, h => exact mm_t4_4 hp hk hv (mt_le ht (by decide)) h
  | 5, _, hk, h => exact mm_t5_5 hp hk hv (mt_le ht (by decide)) h
  | 6, _, hk, h => exact mm_t6_6 hp hk hv ht h
end A
end

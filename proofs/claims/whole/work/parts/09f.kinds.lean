noncomputable section
/-! WHAT A KIND'S BODIES ANSWER, and which run: by the number of the class. -/
def shV (c : Nat) (nu v x : Int32) : Int32 := match c with
  | 5 => x * 3 + nu
  | 1 => x * 3 + nu
  | 6 => -(x + nu)
  | 8 => (x + nu) ^^^ v
  | _ => x + nu
def shL (c : Nat) : List Int32 := match c with
  | 5 => [30, 10]
  | 1 => [30, 10]
  | 6 => [50, 10]
  | 8 => [71, 10]
  | _ => [10]
def s4V (c : Nat) (nu v x : Int32) : Int32 := shV c nu v x - v
def s4L (c : Nat) : List Int32 := 11 :: shL c
def scV (c : Nat) (nu v x : Int32) : Int32 := match c with
  | 0 => s4V 0 nu v x ^^^ 6
  | 6 => s4V 6 nu v (x + 1) ^^^ 6
  | 8 => s4V 8 nu v x + (2 + nu)
  | c => s4V c nu v x
def scL (c : Nat) : List Int32 := match c with
  | 0 => 20 :: s4L 0
  | 6 => 51 :: 20 :: s4L 6
  | 8 => 70 :: (s4L 8 ++ [10])
  | c => s4L c
def t4V (c : Nat) (nu v x : Int32) : Int32 := scV c nu v x * 2
def t4L (c : Nat) : List Int32 := 12 :: scL c
def teV (c : Nat) (nu v x : Int32) : Int32 := match c with
  | 2 => t4V 2 nu v x + scV 2 nu v 1
  | 8 => t4V 8 nu v x + scV 8 nu v 1
  | 1 => t4V 1 nu v (x - nu)
  | c => t4V c nu v x
def teL (c : Nat) : List Int32 := match c with
  | 2 => 40 :: (t4L 2 ++ scL 2)
  | 8 => 40 :: (t4L 8 ++ scL 8)
  | 1 => 60 :: t4L 1
  | c => t4L c
/-- a person, with number and value -/
def Pn (n : Nat) (K : Mk) (S : Mi) (P : Mr) (w c : Nat) (nu v : Int32) : Prop := Per n K w c ∧ S w 1 = nu ∧ S w 2 = v ∧ P w 3 = some 73
theorem pn_bg {n : Nat} {K : Mk} {S : Mi} {P : Mr} {w c : Nat} {nu v : Int32} (b : Int32) (h : Pn n K S P w c nu v) : Pn n K (bg S b) P w c nu v := by
  obtain ⟨h1, h2, h3, h4⟩ := h
  have g := h1.1
  exact ⟨h1, by rw [bg_o S b (by omega) (by omega)]; exact h2, by rw [bg_o S b (by omega) (by omega)]; exact h3, h4⟩
theorem pn_bgs {n : Nat} {K : Mk} {S : Mi} {P : Mr} {w c : Nat} {nu v : Int32} (x : List Int32) (h : Pn n K S P w c nu v) : Pn n K (bgs S x) P w c nu v := by
  obtain ⟨h1, h2, h3, h4⟩ := h
  have g := h1.1
  exact ⟨h1, by rw [bgs_o (by omega) (by omega)]; exact h2, by rw [bgs_o (by omega) (by omega)]; exact h3, h4⟩
section A
variable {l : Launch} {L : Nat} {xs : Nat → Int32} {D : Nat} {n : Nat} {K : Mk} {S : Mi} {G : Ml} {P : Mr} {Q : QT} {w c : Nat} {nu v x : Int32}
set_option maxRecDepth 20000
theorem rf_v {A : Nat → List Value → Prop} {y : Option Nat} {b : Nat} {q : List Value} (h : y = some b) (hA : A b q) : (match va_rf y :: q with
    | .ref a :: q' => A a q'
    | _ => False) := by
  subst h
  exact hA
def PC (c : Nat) : Prop := c = 0 ∨ c = 1 ∨ c = 2 ∨ c = 4 ∨ c = 5 ∨ c = 6 ∨ c = 8
theorem m_sh4 (hp : Pn n K S P w c nu v) (hc : PC c) (ht : TrOk S 1) (h : Q (some (.int (x + nu))) n K (bgs S [10]) G P) : Ok l L xs T1 (D + 2) jX4_shuns 0 [.ref w, .int x] n K S G P Q := by
  refine I_X4_shuns (by decide) (fun At go => ?_)
  have h' : Q (some (.int (x + bg S 10 w 1))) n K (bg S 10) G P := by
    rw [(pn_bg 10 hp).2.1]
    exact h
  rcases hc with rfl | rfl | rfl | rfl | rfl | rfl | rfl <;> (
  refine go [] 40 _ _ _ _ _ _ _ _ _ ?_
  refine sh_p hp.1 ?_
  refine rf_v hp.2.2.2 ?_
  refine m_begins ht.1 ?_
  refine sh_p hp.1 ?_
  exact h')
theorem bgs_c (S : Mi) (b : Int32) (r : List Int32) : bgs S (b :: r) = bgs (bg S b) r := by simp only [bgs]
theorem tr_le {S : Mi} {j k : Nat} (h : TrOk S k) (hj : j ≤ k) : TrOk S j := ⟨h.1, by have := h.2; omega⟩
theorem m_sh5 (hp : Pn n K S P w c nu v) (hc : PC c) (ht : TrOk S 2) (h : Q (some (.int (x * 3 + nu))) n K (bgs S ([30, 10])) G P) : Ok l L xs T1 (D + 3) jX5_shuns 0 [.ref w, .int x] n K S G P Q := by
  refine I_X5_shuns (by decide) (fun At go => ?_)
  have hc' := hc
  rw [bgs_c] at h
  rcases hc with rfl | rfl | rfl | rfl | rfl | rfl | rfl <;> (
  refine go [] 40 _ _ _ _ _ _ _ _ _ ?_
  refine sh_p hp.1 ?_
  refine rf_v hp.2.2.2 ?_
  refine m_begins ht.1 ?_
  refine sh_p hp.1 ?_
  refine m_sh4 (pn_bg 30 hp) hc' (tr_bg 30 ht) ?_
  exact h)
theorem m_sh6 (hp : Pn n K S P w c nu v) (hc : PC c) (ht : TrOk S 2) (h : Q (some (.int (-(x + nu)))) n K (bgs S ([50, 10])) G P) : Ok l L xs T1 (D + 3) jX6_shuns 0 [.ref w, .int x] n K S G P Q := by
  refine I_X6_shuns (by decide) (fun At go => ?_)
  have hc' := hc
  rw [bgs_c] at h
  rcases hc with rfl | rfl | rfl | rfl | rfl | rfl | rfl <;> (
  refine go [] 40 _ _ _ _ _ _ _ _ _ ?_
  refine sh_p hp.1 ?_
  refine rf_v hp.2.2.2 ?_
  refine m_begins ht.1 ?_
  refine sh_p hp.1 ?_
  refine m_sh4 (pn_bg 50 hp) hc' (tr_bg 50 ht) ?_
  exact h)
theorem m_sh8 (hp : Pn n K S P w c nu v) (hc : PC c) (ht : TrOk S 2) (h : Q (some (.int ((x + nu) ^^^ v))) n K (bgs S ([71, 10])) G P) : Ok l L xs T1 (D + 3) jX8_shuns 0 [.ref w, .int x] n K S G P Q := by
  refine I_X8_shuns (by decide) (fun At go => ?_)
  have hc' := hc
  have h' : Q (some (.int ((x + nu) ^^^ bgs S [71, 10] w 2))) n K (bgs S [71, 10]) G P := by
    rw [(pn_bgs [71, 10] hp).2.2.1]
    exact h
  rw [bgs_c] at h'
  rcases hc with rfl | rfl | rfl | rfl | rfl | rfl | rfl <;> (
  refine go [] 40 _ _ _ _ _ _ _ _ _ ?_
  refine sh_p hp.1 ?_
  refine rf_v hp.2.2.2 ?_
  refine m_begins ht.1 ?_
  refine sh_p hp.1 ?_
  refine m_sh4 (pn_bg 71 hp) hc' (tr_bg 71 ht) ?_
  refine sh_p hp.1 ?_
  exact h')
theorem m_s4 (hp : Pn n K S P w c nu v) (hc : PC c) (ht : TrOk S 3) (h : Q (some (.int (s4V c nu v x))) n K (bgs S (s4L c)) G P) : Ok l L xs T1 (D + 4) jX4_scoffs 0 [.ref w, .int x] n K S G P Q := by
  refine I_X4_scoffs (by decide) (fun At go => ?_)
  have hc' := hc
  have h' : Q (some (.int (shV c nu v x - bgs S (s4L c) w 2))) n K (bgs S (s4L c)) G P := by
    rw [(pn_bgs (s4L c) hp).2.2.1]
    exact h
  rw [show bgs S (s4L c) = bgs (bg S 11) (shL c) from bgs_c S 11 (shL c)] at h'
  rcases hc with rfl | rfl | rfl | rfl | rfl | rfl | rfl
  · refine go [] 40 _ _ _ _ _ _ _ _ _ ?_
    refine sh_p hp.1 ?_
    refine rf_v hp.2.2.2 ?_
    refine m_begins ht.1 ?_
    refine sh_p hp.1 ?_
    refine m_sh4 (pn_bg 11 hp) hc' (tr_le (tr_bg 11 ht) (by decide)) ?_
    refine sh_p hp.1 ?_
    exact h'
  · refine go [] 40 _ _ _ _ _ _ _ _ _ ?_
    refine sh_p hp.1 ?_
    refine rf_v hp.2.2.2 ?_
    refine m_begins ht.1 ?_
    refine sh_p hp.1 ?_
    refine m_sh5 (pn_bg 11 hp) hc' (tr_bg 11 ht) ?_
    refine sh_p hp.1 ?_
    exact h'
  · refine go [] 40 _ _ _ _ _ _ _ _ _ ?_
    refine sh_p hp.1 ?_
    refine rf_v hp.2.2.2 ?_
    refine m_begins ht.1 ?_
    refine sh_p hp.1 ?_
    refine m_sh4 (pn_bg 11 hp) hc' (tr_le (tr_bg 11 ht) (by decide)) ?_
    refine sh_p hp.1 ?_
    exact h'
  · refine go [] 40 _ _ _ _ _ _ _ _ _ ?_
    refine sh_p hp.1 ?_
    refine rf_v hp.2.2.2 ?_
    refine m_begins ht.1 ?_
    refine sh_p hp.1 ?_
    refine m_sh4 (pn_bg 11 hp) hc' (tr_le (tr_bg 11 ht) (by decide)) ?_
    refine sh_p hp.1 ?_
    exact h'
  · refine go [] 40 _ _ _ _ _ _ _ _ _ ?_
    refine sh_p hp.1 ?_
    refine rf_v hp.2.2.2 ?_
    refine m_begins ht.1 ?_
    refine sh_p hp.1 ?_
    refine m_sh5 (pn_bg 11 hp) hc' (tr_bg 11 ht) ?_
    refine sh_p hp.1 ?_
    exact h'
  · refine go [] 40 _ _ _ _ _ _ _ _ _ ?_
    refine sh_p hp.1 ?_
    refine rf_v hp.2.2.2 ?_
    refine m_begins ht.1 ?_
    refine sh_p hp.1 ?_
    refine m_sh6 (pn_bg 11 hp) hc' (tr_bg 11 ht) ?_
    refine sh_p hp.1 ?_
    exact h'
  · refine go [] 40 _ _ _ _ _ _ _ _ _ ?_
    refine sh_p hp.1 ?_
    refine rf_v hp.2.2.2 ?_
    refine m_begins ht.1 ?_
    refine sh_p hp.1 ?_
    refine m_sh8 (pn_bg 11 hp) hc' (tr_bg 11 ht) ?_
    refine sh_p hp.1 ?_
    exact h'
theorem m_s00 (hp : Pn n K S P w 0 nu v) (ht : TrOk S 4) (h : Q (some (.int (s4V 0 nu v x ^^^ 6))) n K (bgs S (20 :: s4L 0)) G P) : Ok l L xs T1 (D + 5) jX0_scoffs 0 [.ref w, .int x] n K S G P Q := by
  refine I_X0_scoffs (by decide) (fun At go => ?_)
  have p : PC 0 := .inl rfl
  rw [bgs_c] at h
  refine go [] 40 _ _ _ _ _ _ _ _ _ ?_
  refine sh_p hp.1 ?_
  refine rf_v hp.2.2.2 ?_
  refine m_begins ht.1 ?_
  refine sh_p hp.1 ?_
  refine m_s4 (pn_bg 20 hp) p (tr_bg 20 ht) ?_
  exact h
theorem m_s06 (hp : Pn n K S P w 6 nu v) (ht : TrOk S 4) (h : Q (some (.int (s4V 6 nu v x ^^^ 6))) n K (bgs S (20 :: s4L 6)) G P) : Ok l L xs T1 (D + 5) jX0_scoffs 0 [.ref w, .int x] n K S G P Q := by
  refine I_X0_scoffs (by decide) (fun At go => ?_)
  have p : PC 6 := .inr (.inr (.inr (.inr (.inr (.inl rfl)))))
  rw [bgs_c] at h
  refine go [] 40 _ _ _ _ _ _ _ _ _ ?_
  refine sh_p hp.1 ?_
  refine rf_v hp.2.2.2 ?_
  refine m_begins ht.1 ?_
  refine sh_p hp.1 ?_
  refine m_s4 (pn_bg 20 hp) p (tr_bg 20 ht) ?_
  exact h
theorem m_s6 (hp : Pn n K S P w 6 nu v) (ht : TrOk S 5) (h : Q (some (.int (s4V 6 nu v (x + 1) ^^^ 6))) n K (bgs S (51 :: 20 :: s4L 6)) G P) : Ok l L xs T1 (D + 6) jX6_scoffs 0 [.ref w, .int x] n K S G P Q := by
  refine I_X6_scoffs (by decide) (fun At go => ?_)
  have p : PC 6 := .inr (.inr (.inr (.inr (.inr (.inl rfl)))))
  rw [bgs_c] at h
  refine go [] 40 _ _ _ _ _ _ _ _ _ ?_
  refine sh_p hp.1 ?_
  refine rf_v hp.2.2.2 ?_
  refine m_begins ht.1 ?_
  refine sh_p hp.1 ?_
  refine m_s06 (pn_bg 51 hp) (tr_bg 51 ht) ?_
  exact h
theorem m_s8 (hp : Pn n K S P w c nu v) (hc : c = 8) (ht : TrOk S 5) (h : Q (some (.int (s4V 8 nu v x + (2 + nu)))) n K (bgs S (70 :: (s4L 8 ++ [10]))) G P) : Ok l L xs T1 (D + 5) jX8_scoffs 0 [.ref w, .int x] n K S G P Q := by
  refine I_X8_scoffs (by decide) (fun At go => ?_)
  have hc' := hc
  subst hc
  have p8 : PC 8 := .inr (.inr (.inr (.inr (.inr (.inr rfl)))))
  rw [bgs_c, bgs_app] at h
  refine go [] 40 _ _ _ _ _ _ _ _ _ ?_
  refine sh_p hp.1 ?_
  refine rf_v hp.2.2.2 ?_
  refine m_begins ht.1 ?_
  refine sh_p hp.1 ?_
  refine m_s4 (pn_bg 70 hp) p8 (tr_le (tr_bg 70 ht) (by decide)) ?_
  refine sh_p hp.1 ?_
  refine m_sh4 (pn_bgs _ (pn_bg 70 hp)) p8 (tr_bgs (k := 1) [11, 71, 10] _ (tr_bg 70 ht)) ?_
  exact h
end A
end

noncomputable section
/-! WHAT A KIND'S BODIES ANSWER, and which run: by the number of the class. -/
def shV (c : Nat) (nu v x : Int32) : Int32 := match c with
  | 5 => x * 3 + nu
  | 1 => x * 3 + nu
  | 6 => -(x + nu)
  | 8 => (x + nu) ^^^ v
  | _ => x + nu
def shL (c : Nat) : List Int32 := match c with
  | 5 => [30, 10]
  | 1 => [30, 10]
  | 6 => [50, 10]
  | 8 => [71, 10]
  | _ => [10]
def s4V (c : Nat) (nu v x : Int32) : Int32 := shV c nu v x - v
def s4L (c : Nat) : List Int32 := 11 :: shL c
def scV (c : Nat) (nu v x : Int32) : Int32 := match c with
  | 0 => s4V 0 nu v x ^^^ 6
  | 6 => s4V 6 nu v (x + 1) ^^^ 6
  | 8 => s4V 8 nu v x + (2 + nu)
  | c => s4V c nu v x
def scL (c : Nat) : List Int32 := match c with
  | 0 => 20 :: s4L 0
  | 6 => 51 :: 20 :: s4L 6
  | 8 => 70 :: (s4L 8 ++ [10])
  | c => s4L c
def t4V (c : Nat) (nu v x : Int32) : Int32 := scV c nu v x * 2
def t4L (c : Nat) : List Int32 := 12 :: scL c
def teV (c : Nat) (nu v x : Int32) : Int32 := match c with
  | 2 => t4V 2 nu v x + scV 2 nu v 1
  | 8 => t4V 8 nu v x + scV 8 nu v 1
  | 1 => t4V 1 nu v (x - nu)
  | c => t4V c nu v x
def teL (c : Nat) : List Int32 := match c with
  | 2 => 40 :: (t4L 2 ++ scL 2)
  | 8 => 40 :: (t4L 8 ++ scL 8)
  | 1 => 60 :: t4L 1
  | c => t4L c
/-- a person, with number and value -/
def Pn (n : Nat) (K : Mk) (S : Mi) (P : Mr) (w c : Nat) (nu v : Int32) : Prop := Per n K w c ∧ S w 1 = nu ∧ S w 2 = v ∧ P w 3 = some 73
theorem pn_bg {n : Nat} {K : Mk} {S : Mi} {P : Mr} {w c : Nat} {nu v : Int32} (b : Int32) (h : Pn n K S P w c nu v) : Pn n K (bg S b) P w c nu v := by
  obtain ⟨h1, h2, h3, h4⟩ := h
  have g := h1.1
  exact ⟨h1, by rw [bg_o S b (by omega) (by omega)]; exact h2, by rw [bg_o S b (by omega) (by omega)]; exact h3, h4⟩
theorem pn_bgs {n : Nat} {K : Mk} {S : Mi} {P : Mr} {w c : Nat} {nu v : Int32} (x : List Int32) (h : Pn n K S P w c nu v) : Pn n K (bgs S x) P w c nu v := by
  obtain ⟨h1, h2, h3, h4⟩ := h
  have g := h1.1
  exact ⟨h1, by rw [bgs_o (by omega) (by omega)]; exact h2, by rw [bgs_o (by omega) (by omega)]; exact h3, h4⟩
section A
variable {l : Launch} {L : Nat} {xs : Nat → Int32} {D : Nat} {n : Nat} {K : Mk} {S : Mi} {G : Ml} {P : Mr} {Q : QT} {w c : Nat} {nu v x : Int32}
set_option maxRecDepth 20000
theorem rf_v {A : Nat → List Value → Prop} {y : Option Nat} {b : Nat} {q : List Value} (h : y = some b) (hA : A b q) : (match va_rf y :: q with
    | .ref a :: q' => A a q'
    | _ => False) := by
  subst h
  exact hA
def PC (c : Nat) : Prop := c = 0 ∨ c = 1 ∨ c = 2 ∨ c = 4 ∨ c = 5 ∨ c = 6 ∨ c = 8
theorem m_sh4 (hp : Pn n K S P w c nu v) (hc : PC c) (ht : TrOk S 1) (h : Q (some (.int (x + nu))) n K (bgs S [10]) G P) : Ok l L xs T1 (D + 2) jX4_shuns 0 [.ref w, .int x] n K S G P Q := by
  refine I_X4_shuns (by decide) (fun At go => ?_)
  have h' : Q (some (.int (x + bg S 10 w 1))) n K (bg S 10) G P := by
    rw [(pn_bg 10 hp).2.1]
    exact h
  rcases hc with rfl | rfl | rfl | rfl | rfl | rfl | rfl <;> (
  refine go [] 40 _ _ _ _ _ _ _ _ _ ?_
  refine sh_p hp.1 ?_
  refine rf_v hp.2.2.2 ?_
  refine m_begins ht.1 ?_
  refine sh_p hp.1 ?_
  exact h')
end A
end

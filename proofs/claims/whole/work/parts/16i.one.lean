noncomputable section
/-! ONE of the component. -/
theorem sh_nw {n c : Nat} {K : Mk} {A : Nat → List (Option Nat) → Prop} (hn : 123 ≤ n) (h : A c [none, none, none, none]) : (match shp T1 (upR K (n + 32) c) (n + 32) with
    | .inr (ci, fs) => A ci fs
    | _ => False) := by
  have b2 : Nat.blt (n + 32 - 32) 123 = false := by rw [← Bool.not_eq_true, Nat.blt_eq]; omega
  have e : shp T1 (upR K (n + 32) c) (n + 32) = cond (Nat.blt (n + 32 - 32) 123 || Nat.beq 1 0) (T1.2.1 (n + 32 - 32)) (.inr (upR K (n + 32) c (n + 32), [none, none, none, none])) := rfl
  rw [e, b2, upR_s]
  exact h
def nwS (S : Mi) (w : Nat) (k b v : Int32) : Mi := up2 (up2 (up2 (upR S w (fun _ => 0)) w 0 k) w 1 b) w 2 v
def nwP (P : Mr) (w : Nat) : Mr := up2 (upR P w (fun _ => none)) w 3 (some 73)
section A
variable {l : Launch} {L : Nat} {xs : Nat → Int32} {D : Nat} {n : Nat} {K : Mk} {S : Mi} {G : Ml} {P : Mr} {Q : QT} {N : Nat → Nat} {d : Nat → Nat → Int32} {g : Nat → Int64} {sd : Nat → Int32 × ((Nat → Int32) → Bool)} {w c : Nat} {a b v : Int32}
set_option maxRecDepth 20000
theorem m_i4 (hp : Per n K w c) (hc : PC c) (h : Q none n K (up2 (up2 (up2 S w 0 a) w 1 b) w 2 v) G (up2 P w 3 (some 73))) : Ok l L xs T1 (D + 1) jX4_init 0 [.ref w, .int a, .int b, .int v, .ref 73] n K S G P Q := by
  refine I_X4_init (by decide) (fun At go => ?_)
  rcases hc with rfl | rfl | rfl | rfl | rfl | rfl | rfl <;> (
  refine go [] 60 _ _ _ _ _ _ _ _ _ ?_
  refine sh_p hp ?_
  refine sh_p hp ?_
  refine sh_p hp ?_
  refine sh_p hp ?_
  exact h)
theorem m_i0_ (hp : Per n K w c) (hc : PC c) (h : Q none n K (up2 (up2 (up2 S w 0 a) w 1 b) w 2 v) G (up2 P w 3 (some 73))) : Ok l L xs T1 (D + 2) jX0_init 0 [.ref w, .int a, .int b, .int v, .ref 73] n K S G P Q := by
  refine I_X0_init (by decide) (fun At go => ?_)
  refine go [] 60 _ _ _ _ _ _ _ _ _ ?_
  refine m_i4 hp hc ?_
  exact h
theorem m_i5 (hp : Per n K w c) (hc : PC c) (h : Q none n K (up2 (up2 (up2 S w 0 a) w 1 b) w 2 v) G (up2 P w 3 (some 73))) : Ok l L xs T1 (D + 2) jX5_init 0 [.ref w, .int a, .int b, .int v, .ref 73] n K S G P Q := by
  refine I_X5_init (by decide) (fun At go => ?_)
  refine go [] 60 _ _ _ _ _ _ _ _ _ ?_
  refine m_i4 hp hc ?_
  exact h
theorem m_i2 (hp : Per n K w c) (hc : PC c) (h : Q none n K (up2 (up2 (up2 S w 0 a) w 1 b) w 2 v) G (up2 P w 3 (some 73))) : Ok l L xs T1 (D + 2) jX2_init 0 [.ref w, .int a, .int b, .int v, .ref 73] n K S G P Q := by
  refine I_X2_init (by decide) (fun At go => ?_)
  refine go [] 60 _ _ _ _ _ _ _ _ _ ?_
  refine m_i4 hp hc ?_
  exact h
theorem m_i6 (hp : Per n K w c) (hc : PC c) (h : Q none n K (up2 (up2 (up2 S w 0 a) w 1 b) w 2 v) G (up2 P w 3 (some 73))) : Ok l L xs T1 (D + 3) jX6_init 0 [.ref w, .int a, .int b, .int v, .ref 73] n K S G P Q := by
  refine I_X6_init (by decide) (fun At go => ?_)
  refine go [] 60 _ _ _ _ _ _ _ _ _ ?_
  refine m_i0_ hp hc ?_
  exact h
theorem m_i1 (hp : Per n K w c) (hc : PC c) (h : Q none n K (up2 (up2 (up2 S w 0 a) w 1 b) w 2 v) G (up2 P w 3 (some 73))) : Ok l L xs T1 (D + 3) jX1_init 0 [.ref w, .int a, .int b, .int v, .ref 73] n K S G P Q := by
  refine I_X1_init (by decide) (fun At go => ?_)
  refine go [] 60 _ _ _ _ _ _ _ _ _ ?_
  refine m_i5 hp hc ?_
  exact h
theorem m_i8 (hp : Per n K w c) (hc : PC c) (h : Q none n K (up2 (up2 (up2 S w 0 a) w 1 b) w 2 v) G (up2 P w 3 (some 73))) : Ok l L xs T1 (D + 3) jX8_init 0 [.ref w, .int a, .int b, .int v, .ref 73] n K S G P Q := by
  refine I_X8_init (by decide) (fun At go => ?_)
  refine go [] 60 _ _ _ _ _ _ _ _ _ ?_
  refine m_i2 hp hc ?_
  exact h
theorem m_newcomer {k p : Nat} (hn : 123 ≤ n) (hk : k < 7) (h0 : S 33 0 = nI p) (h : Q (some (.ref (n + 32))) (n + 1) (upR K (n + 32) (kcl k)) (nwS S (n + 32) (nI k) (nI p) v) G (nwP P (n + 32))) : Ok l L xs T1 (D + 4) jX11_newcomer 1 [.ref 32, .int (nI k), .int v] n K S G P Q := by
  refine I_X11_newcomer (by decide) (fun At go => ?_)
  have hc := kcl_pc hk
  have hper : Per (n + 1) (upR K (n + 32) (kcl k)) (n + 32) (kcl k) := ⟨by omega, by omega, upR_s _ _ _⟩
  have h0' : upR S (n + 32) (fun _ => 0) 33 0 = nI p := by rw [upR_o _ _ (by omega)]; exact h0
  unfold nwS nwP at h
  rw [← h0'] at h
  match k, hk, hc, hper, h with
  | 0, _, hc, hper, h =>
    refine go [] 60 _ _ _ _ _ _ _ _ _ ?_
    refine sh_nw hn ?_
    refine m_i4 hper hc ?_
    exact h
  | 1, _, hc, hper, h =>
    refine go [] 60 _ _ _ _ _ _ _ _ _ ?_
    refine sh_nw hn ?_
    refine m_i0_ hper hc ?_
    exact h
  | 2, _, hc, hper, h =>
    refine go [] 60 _ _ _ _ _ _ _ _ _ ?_
    refine sh_nw hn ?_
    refine m_i5 hper hc ?_
    exact h
  | 3, _, hc, hper, h =>
    refine go [] 60 _ _ _ _ _ _ _ _ _ ?_
    refine sh_nw hn ?_
    refine m_i2 hper hc ?_
    exact h
  | 4, _, hc, hper, h =>
    refine go [] 60 _ _ _ _ _ _ _ _ _ ?_
    refine sh_nw hn ?_
    refine m_i6 hper hc ?_
    exact h
  | 5, _, hc, hper, h =>
    refine go [] 60 _ _ _ _ _ _ _ _ _ ?_
    refine sh_nw hn ?_
    refine m_i1 hper hc ?_
    exact h
  | 6, _, hc, hper, h =>
    refine go [] 60 _ _ _ _ _ _ _ _ _ ?_
    refine sh_nw hn ?_
    refine m_i8 hper hc ?_
    exact h
def okOn (N : Nat → Nat) (x y : Int32) : Prop := inR 7 x = true ∧ inR 10 y = true ∧ N 0 < 6
def rOn0 (x y : Int32) : Int32 := if inR 7 x = true then (if inR 10 y = true then -4 else -2) else -1
def onN (N : Nat → Nat) : Nat → Nat := upR N 0 (N 0 + 1)
def onD (N : Nat → Nat) (d : Nat → Nat → Int32) (x y : Int32) : Nat → Nat → Int32 := upR d 0 (oneT (d 0) (N 0) x.toNatClampNeg y)
theorem InvC_on {S' : Mi} {k : Nat} {y : Int32} (hD : DOk N d) (hn : 123 ≤ n) (hk : k < 7) (h6 : N 0 < 6) (hI : InvC N d g sd n K S G P) (hf : ∀ b j, (b < 33 ∨ 43 < b) → S' b j = nwS S (n + 32) (nI k) (nI (N 0)) y b j) (hR : RC 33 (oneS (d 0) (N 0)) S') : InvC (upR N 0 (N 0 + 1)) (upR d 0 (oneT (d 0) (N 0) k y)) g sd (n + 1) (upR K (n + 32) (kcl k)) S' G (up2 (nwP P (n + 32)) 34 (N 0) (some (n + 32))) := by
  obtain ⟨⟨h1, h2, h3⟩, ⟨h4, h5, h5'⟩, ⟨h7, h8⟩, ⟨h9, h10⟩, h11, h12⟩ := hI
  have hf2 : ∀ b j, (b < 33 ∨ 43 < b) → b ≠ n + 32 → S' b j = S b j := fun b j q1 q2 => by
    rw [hf b j q1]
    unfold nwS
    rw [up2_o _ _ (.inl q2), up2_o _ _ (.inl q2), up2_o _ _ (.inl q2), upR_o _ _ q2]
  have hP : ∀ b j, ¬ (b = 34 ∧ j = N 0) → b ≠ n + 32 → up2 (nwP P (n + 32)) 34 (N 0) (some (n + 32)) b j = P b j := fun b j q1 q2 => by
    rw [up2_o _ _ (by omega)]
    unfold nwP
    rw [up2_o _ _ (.inl q2), upR_o _ _ q2]
  have ps : ∀ a p kd v, (a + 1 ≠ 34 ∨ p ≠ N 0) → a ≤ 100 → Psn a n K S P p kd v → Psn a (n + 1) (upR K (n + 32) (kcl k)) S' (up2 (nwP P (n + 32)) 34 (N 0) (some (n + 32))) p kd v := by
    intro a p kd v q1 q2 ⟨w, k', g1, g2, g3, g4, g5, g6, g7, g8⟩
    have gw := g4.1
    have gw2 := g4.2.1
    have e := hf2 w
    exact ⟨w, k', (hP _ _ (by omega) (by omega)).trans g1, g2, g3, ⟨gw, by omega, (upR_o _ _ (by omega)).trans g4.2.2⟩, (e _ (by omega) (by omega)).trans g5, (e _ (by omega) (by omega)).trans g6, (e _ (by omega) (by omega)).trans g7, (hP _ _ (by omega) (by omega)).trans g8⟩
  have oT : ∀ j, j ≠ N 0 → j ≠ 6 + N 0 → oneT (d 0) (N 0) k y j = oneS (d 0) (N 0) j := fun j q1 q2 => by
    unfold oneT
    rw [va_up_ne _ _ q2, va_up_ne _ _ q1]
  have oS : ∀ j, (j < 12 ∨ j = 224) → oneS (d 0) (N 0) j = d 0 j := fun j q => by
    unfold oneS
    rw [va_up_ne _ _ (by omega)]
    have c1 : ∀ b, 42 ≤ b → b ≤ 114 → clrB b (N 0) 6 j = false := fun b b1 b2 => by
      cases e : clrB b (N 0) 6 j with
      | false => rfl
      | true => have := clr_r h6 (Nat.le_refl 6) e; omega
    unfold twCl
    rw [c1 42 (by decide) (by decide), c1 78 (by decide) (by decide), c1 114 (by decide) (by decide)]
    simp only [Bool.false_eq_true, or_self, if_false]
    unfold twRw
    rw [if_neg (by omega), va_up_ne _ _ (by omega)]
  refine ⟨⟨⟨RC_eq (fun j q1 q2 => (oT j (by omega) (by omega)).symm) hR, fun p hp => ?_, ?_⟩, (hf2 _ _ (by decide) (by omega)).trans h2, fun e => ?_⟩, ⟨fun k hk => ?_, (hf2 _ _ (by decide) (by omega)).trans h5, fun i hi => (hP _ _ (by omega) (by omega)).trans (h5' i hi)⟩, ⟨(hf2 _ _ (by decide) (by omega)).trans h7, fun i hi => (hf2 _ _ (by decide) (by omega)).trans (h8 i hi)⟩, ⟨fun t ht => ⟨(hf2 _ _ (by decide) (by omega)).trans (h9 t ht).1, (hf2 _ _ (by decide) (by omega)).trans (h9 t ht).2.1, (hP _ _ (by omega) (by omega)).trans (h9 t ht).2.2⟩, h10⟩, (hf2 _ _ (by decide) (by omega)).trans h11, fun i hi hj => (hf2 _ _ (by decide) (by omega)).trans (h12 i hi hj)⟩
  · have hp' : p < N 0 + 1 := hp
    by_cases e : p = N 0
    · subst e
      have ek : oneT (d 0) (N 0) k y (N 0) = nI k := by
        unfold oneT
        rw [va_up_ne _ _ (by omega), va_up_self]
      have ev : oneT (d 0) (N 0) k y (6 + N 0) = y := by
        unfold oneT
        rw [va_up_self]
      show Psn 33 (n + 1) _ S' _ (N 0) (oneT (d 0) (N 0) k y (N 0)) (oneT (d 0) (N 0) k y (6 + N 0))
      rw [ek, ev]
      have sw : ∀ j, S' (n + 32) j = nwS S (n + 32) (nI k) (nI (N 0)) y (n + 32) j := fun j => hf _ _ (by omega)
      refine ⟨n + 32, k, up2_s _ _ _ _, hk, rfl, ⟨by omega, by omega, upR_s _ _ _⟩, ?_, ?_, ?_, ?_⟩
      · rw [sw]; unfold nwS; rw [up2_o _ _ (.inr (by decide)), up2_o _ _ (.inr (by decide)), up2_s]
      · rw [sw]; unfold nwS; rw [up2_o _ _ (.inr (by decide)), up2_s]
      · rw [sw]; unfold nwS; rw [up2_s]
      · rw [up2_o _ _ (by omega)]; unfold nwP; rw [up2_s]
    · have ez : oneT (d 0) (N 0) k y p = d 0 p := (oT p e (by omega)).trans (oS p (by omega))
      have ev : oneT (d 0) (N 0) k y (6 + p) = d 0 (6 + p) := (oT _ (by omega) (by omega)).trans (oS _ (by omega))
      show Psn 33 (n + 1) _ S' _ p (oneT (d 0) (N 0) k y p) (oneT (d 0) (N 0) k y (6 + p))
      rw [ez, ev]
      exact ps 33 p _ _ (.inr e) (by decide) (h1.2.1 p (by omega))
  · have e : oneT (d 0) (N 0) k y 224 = d 0 224 := (oT _ (by omega) (by omega)).trans (oS _ (by omega))
    refine ((hP _ _ (by omega) (by omega)).trans h1.2.2).trans ?_
    show hdr (d 0 224) = hdr (oneT (d 0) (N 0) k y 224)
    rw [e]
  · obtain ⟨f1, f2, f3⟩ := h3 e
    exact ⟨RC_fr (fun b j hb _ => hf2 _ _ (by omega) (by omega)) f1, fun p hp => ps 45 p _ _ (.inl (by decide)) (by decide) (f2 p hp), (hP _ _ (by omega) (by omega)).trans f3⟩
  · have hk' : k < N 2 := hk
    have := hD.2.2.2.1
    exact SC_fr (fun j => ⟨hf2 _ _ (by omega) (by omega), hf2 _ _ (by omega) (by omega), hf2 _ _ (by omega) (by omega), hf2 _ _ (by omega) (by omega)⟩) (h4 k hk)
theorem WO_on {k p : Nat} (hn : 123 ≤ n) (hk : k < 7) (hW : WO n K P) : WO (n + 1) (upR K (n + 32) (kcl k)) (up2 (nwP P (n + 32)) 34 p (some (n + 32))) := by
  have hP : ∀ b j, ¬ (b = 34 ∧ j = p) → b ≠ n + 32 → up2 (nwP P (n + 32)) 34 p (some (n + 32)) b j = P b j := fun b j q1 q2 => by
    rw [up2_o _ _ (by omega)]
    unfold nwP
    rw [up2_o _ _ (.inl q2), upR_o _ _ q2]
  have pw : ∀ w k', Per n K w (kcl k') → Per (n + 1) (upR K (n + 32) (kcl k)) w (kcl k') := fun w k' h => by
    have h1 := h.1
    have h2 := h.2.1
    exact ⟨h1, by omega, (upR_o _ _ (by omega)).trans h.2.2⟩
  refine ⟨fun i hi => ?_, fun i hi => ?_⟩
  · by_cases e : i = p
    · subst e
      exact .inr ⟨n + 32, k, up2_s _ _ _ _, hk, by omega, by omega, upR_s _ _ _⟩
    · rw [hP _ _ (by omega) (by omega)]
      rcases hW.1 i hi with h | ⟨w, k', h1, h2, h3⟩
      · exact .inl h
      · exact .inr ⟨w, k', h1, h2, pw w k' h3⟩
  · rw [hP _ _ (by omega) (by omega)]
    rcases hW.2 i hi with h | ⟨w, k', h1, h2, h3⟩
    · exact .inl h
    · exact .inr ⟨w, k', h1, h2, pw w k' h3⟩
theorem c_one1 {x y : Int32} (hI : InvC N d g sd n K S G P) (hD : DOk N d) (hW : WO n K P) (hn : 123 ≤ n) (ok : okOn N x y) (h : ∀ S' P', FrC S S' → InvC (onN N) (onD N d x y) g sd (n + 1) (upR K (n + 32) (kcl x.toNatClampNeg)) S' G P' → WO (n + 1) (upR K (n + 32) (kcl x.toNatClampNeg)) P' → Q (some (.int (nI (N 0)))) (n + 1) (upR K (n + 32) (kcl x.toNatClampNeg)) S' G P') : Ok l L xs T1 (D + 12) jX11_one 1 [.ref 32, .int x, .int y] n K S G P Q := by
  refine I_X11_one (by decide) (fun At go => ?_)
  obtain ⟨hx, hy, h6⟩ := ok
  obtain ⟨k, hk, rfl⟩ := inR_ex hx
  have ek : (nI k).toNatClampNeg = k := nI_clamp (by omega)
  rw [ek] at h
  unfold onD onN at h
  rw [ek] at h
  have hR := hI.1.1.1
  have hnp : S 33 0 = nI (N 0) := (RC_np hR).trans hD.1.1.1
  have a38 : At 38 [.ref 32, .int (nI k), .int y] [] n K S G P 0 := by
    refine go [] 60 _ _ _ _ _ _ _ _ _ ?_
    refine ⟨1, by decide, ?_⟩
    refine m_newcomer (D := D + 7) hn hk hnp ?_
    refine m_welcomes (D := D + 8) (np := N 0) (k := k) (tw := d 0) (RC_fr (fun b j hb _ => ?_) hR) hD.1.1.1 h6 hk ⟨by omega, by omega, upR_s _ _ _⟩ (fun S' f1 f2 => ?_)
    · unfold nwS
      rw [up2_o _ _ (by omega), up2_o _ _ (by omega), up2_o _ _ (by omega), upR_o _ _ (by omega)]
    · refine h S' _ (fun b j q1 q2 => ?_) (InvC_on hD hn hk h6 hI f1 f2) (WO_on hn hk hW)
      rw [f1 b j (by omega)]
      unfold nwS
      rw [up2_o _ _ (by omega), up2_o _ _ (by omega), up2_o _ _ (by omega), upR_o _ _ (by omega)]
  have a23 : At 23 [.ref 32, .int (nI k), .int y] [] n K S G P 0 := by
    refine go [38] 60 _ _ _ _ _ _ _ _ _ ?_
    refine ite_t (by rw [hnp, lt_i, nI_toInt (by omega), t_6]; omega) ?_
    exact a38
  have a11 : At 11 [.ref 32, .int (nI k), .int y] [] n K S G P 0 := by
    refine go [23] 60 _ _ _ _ _ _ _ _ _ ?_
    refine m_i0 (m := 9) (by decide) 9 rfl (fun _ => a23) (fun c => ?_)
    rw [hy] at c
    cases c
  refine go [11] 60 _ _ _ _ _ _ _ _ _ ?_
  refine m_i0 (m := 6) (by decide) 6 rfl (fun _ => a11) (fun c => ?_)
  rw [hx] at c
  cases c
theorem c_one0 {x y : Int32} (hI : InvC N d g sd n K S G P) (hD : DOk N d) (ok : ¬ okOn N x y) (h : Q (some (.int (rOn0 x y))) n K S G P) : Ok l L xs T1 (D + 12) jX11_one 0 [.ref 32, .int x, .int y] n K S G P Q := by
  refine I_X11_one (by decide) (fun At go => ?_)
  have hR := hI.1.1.1
  have hnp : S 33 0 = nI (N 0) := (RC_np hR).trans hD.1.1.1
  have h6 := hD.1.1.2
  unfold rOn0 at h
  have a23 : inR 7 x = true → inR 10 y = true → At 23 [.ref 32, .int x, .int y] [] n K S G P 0 := by
    intro hx hy
    have e : N 0 = 6 := by
      refine Classical.byContradiction (fun z => ok ⟨hx, hy, by omega⟩)
    rw [if_pos hx, if_pos hy] at h
    refine go [38] 60 _ _ _ _ _ _ _ _ _ ?_
    refine ite_f (by rw [hnp, lt_i, nI_toInt (by omega), t_6]; omega) ?_
    exact h
  have a11 : inR 7 x = true → At 11 [.ref 32, .int x, .int y] [] n K S G P 0 := by
    intro hx
    refine go [23] 60 _ _ _ _ _ _ _ _ _ ?_
    refine m_i0 (m := 9) (by decide) 9 rfl (fun hy => a23 hx hy) (fun c => ?_)
    rw [hx, c] at h
    exact h
  refine go [11] 60 _ _ _ _ _ _ _ _ _ ?_
  refine m_i0 (m := 6) (by decide) 6 rfl (fun hx => a11 hx) (fun c => ?_)
  rw [c] at h
  exact h
end A
end

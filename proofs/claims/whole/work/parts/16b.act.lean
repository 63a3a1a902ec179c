noncomputable section
/-! ACT. -/
def acL (c : Nat) (y : Int32) : List Int32 := if y = 0 then shL c else if y = 1 then scL c else if y = 2 then teL c else []
def acV (c : Nat) (nu v x y : Int32) : Int32 := if y = 0 then shV c nu v x else if y = 1 then scV c nu v x else if y = 2 then teV c nu v x else 0
def rAcL (tw : Nat → Int32) (np : Nat) (x y : Int32) : List Int32 := if inR np x = true then acL (kcl (tw x.toNatClampNeg).toNatClampNeg) y else []
def rAc (tw : Nat → Int32) (np : Nat) (x y z : Int32) : Int32 := if inR np x = true then acV (kcl (tw x.toNatClampNeg).toNatClampNeg) x (tw (6 + x.toNatClampNeg)) z y else 0
def acN (N : Nat → Nat) (r : List Int32) : Nat → Nat := upR N 6 r.length
def acD (d : Nat → Nat → Int32) (r : List Int32) : Nat → Nat → Int32 := upR d 6 (fun i => r.getD i 0)
theorem acL_len {k : Nat} (hk : k < 7) (y : Int32) : (acL (kcl k) y).length ≤ 13 := by
  unfold acL
  have e0 : ∀ k, k < 7 → (shL (kcl k)).length ≤ 13 := by decide
  have e1 : ∀ k, k < 7 → (scL (kcl k)).length ≤ 13 := by decide
  have e2 : ∀ k, k < 7 → (teL (kcl k)).length ≤ 13 := by decide
  split
  · exact e0 k hk
  · split
    · exact e1 k hk
    · split
      · exact e2 k hk
      · decide
theorem rAcL_len {tw : Nat → Int32} {np dy ns : Nat} (h : TwOk tw np dy ns) (x y : Int32) : (rAcL tw np x y).length ≤ 13 := by
  unfold rAcL
  by_cases hx : inR np x = true
  · rw [if_pos hx]
    obtain ⟨p, hp, rfl⟩ := inR_ex hx
    have := h.1.2
    obtain ⟨⟨k, hk, ek⟩, _⟩ := h.2.2.2.1 p hp
    rw [nI_clamp (by omega), ek, nI_clamp (by omega)]
    exact acL_len hk y
  · rw [if_neg hx]; decide
theorem bg_v {S : Mi} {m : Nat} (b : Int32) (hm : m < 20) (h : S 73 1 = nI m) : bg S b 73 1 = nI (m + 1) ∧ bg S b 74 m = b ∧ ∀ i, i < m → bg S b 74 i = S 74 i := by
  have c : ¬ (20 : Int32) ≤ nI m := by rw [le_i, nI_toInt (by omega)]; have : (20 : Int32).toInt = 20 := rfl; omega
  refine ⟨by rw [bg_c, h]; exact nI_1 m, ?_, fun i hi => ?_⟩
  · unfold bg
    rw [h, if_neg c, up2_o _ _ (by omega), nI_clamp (by omega)]
    exact up2_s _ _ _ _
  · unfold bg
    rw [h, if_neg c, up2_o _ _ (by omega), nI_clamp (by omega)]
    exact up2_o _ _ (by omega)
theorem bgm_v {S : Mi} {m : Nat} (b : Int32) (hm : m < 20) (h : S 120 38 = nI m) : bgm S b 120 38 = nI (m + 1) ∧ bgm S b 146 m = b ∧ ∀ i, i < m → bgm S b 146 i = S 146 i := by
  have c : ¬ (20 : Int32) ≤ nI m := by rw [le_i, nI_toInt (by omega)]; have : (20 : Int32).toInt = 20 := rfl; omega
  refine ⟨?_, ?_, fun i hi => ?_⟩
  · unfold bgm
    rw [up2_s, h]; exact nI_1 m
  · unfold bgm
    rw [h, if_neg c, up2_o _ _ (by omega), nI_clamp (by omega)]
    exact up2_s _ _ _ _
  · unfold bgm
    rw [h, if_neg c, up2_o _ _ (by omega), nI_clamp (by omega)]
    exact up2_o _ _ (by omega)
theorem bgs_v : ∀ (r : List Int32) (S : Mi) (m : Nat), m + r.length ≤ 20 → S 73 1 = nI m → bgs S r 73 1 = nI (m + r.length) ∧ (∀ i, i < r.length → bgs S r 74 (m + i) = r.getD i 0) ∧ ∀ i, i < m → bgs S r 74 i = S 74 i := by
  intro r
  induction r with
  | nil => intro S m _ h; exact ⟨h, fun i hi => absurd hi (by simp), fun i _ => rfl⟩
  | cons b r ih =>
    intro S m hm h
    simp only [List.length_cons] at hm
    obtain ⟨b1, b2, b3⟩ := bg_v b (by omega) h
    obtain ⟨i1, i2, i3⟩ := ih (bg S b) (m + 1) (by omega) b1
    rw [bgs_c]
    refine ⟨by rw [i1, List.length_cons]; congr 1; omega, fun i hi => ?_, fun i hi => (i3 i (by omega)).trans (b3 i hi)⟩
    cases i with
    | zero => exact (i3 m (by omega)).trans b2
    | succ i =>
      have := i2 i (by simp only [List.length_cons] at hi; omega)
      rw [show m + 1 + i = m + (i + 1) by omega] at this
      exact this
theorem bgms_v : ∀ (r : List Int32) (S : Mi) (m : Nat), m + r.length ≤ 20 → S 120 38 = nI m → bgms S r 120 38 = nI (m + r.length) ∧ (∀ i, i < r.length → bgms S r 146 (m + i) = r.getD i 0) ∧ ∀ i, i < m → bgms S r 146 i = S 146 i := by
  intro r
  induction r with
  | nil => intro S m _ h; exact ⟨h, fun i hi => absurd hi (by simp), fun i _ => rfl⟩
  | cons b r ih =>
    intro S m hm h
    simp only [List.length_cons] at hm
    obtain ⟨b1, b2, b3⟩ := bgm_v b (by omega) h
    obtain ⟨i1, i2, i3⟩ := ih (bgm S b) (m + 1) (by omega) b1
    rw [bgms_c]
    refine ⟨by rw [i1, List.length_cons]; congr 1; omega, fun i hi => ?_, fun i hi => (i3 i (by omega)).trans (b3 i hi)⟩
    cases i with
    | zero => exact (i3 m (by omega)).trans b2
    | succ i =>
      have := i2 i (by simp only [List.length_cons] at hi; omega)
      rw [show m + 1 + i = m + (i + 1) by omega] at this
      exact this
theorem bgm_f (S : Mi) (b : Int32) {w i : Nat} (h : ¬ (w = 120 ∧ i = 38)) (h2 : w ≠ 146) : bgm S b w i = S w i := by
  unfold bgm
  rw [up2_o _ _ (by omega)]
  split
  · rfl
  · exact up2_o _ _ (by omega)
theorem bg_f (S : Mi) (b : Int32) {w i : Nat} (h : ¬ (w = 73 ∧ i = 1)) (h2 : w ≠ 74) : bg S b w i = S w i := by
  unfold bg
  rw [up2_o _ _ (by omega)]
  split
  · rfl
  · exact up2_o _ _ (by omega)
theorem bgms_f {w i : Nat} (h : ¬ (w = 120 ∧ i = 38)) (h2 : w ≠ 146) : ∀ (r : List Int32) (S : Mi), bgms S r w i = S w i := by
  intro r
  induction r with
  | nil => intro S; rfl
  | cons b r ih => intro S; rw [bgms_c]; exact (ih _).trans (bgm_f S b h h2)
theorem bgs_f {w i : Nat} (h : ¬ (w = 73 ∧ i = 1)) (h2 : w ≠ 74) : ∀ (r : List Int32) (S : Mi), bgs S r w i = S w i := by
  intro r
  induction r with
  | nil => intro S; rfl
  | cons b r ih => intro S; rw [bgs_c]; exact (ih _).trans (bg_f S b h h2)
section I
variable {N : Nat → Nat} {d : Nat → Nat → Int32} {g : Nat → Int64} {sd : Nat → Int32 × ((Nat → Int32) → Bool)} {n : Nat} {K : Mk} {S S' : Mi} {G : Ml} {P : Mr} {r : List Int32}
theorem InvC_ac (hD : DOk N d) (hr : r.length ≤ 20) (hI : InvC N d g sd n K S G P) : InvC (acN N r) (acD d r) g sd n K (bgs (up2 S 73 1 0) r) G P := by
  obtain ⟨⟨h1, h2, h3⟩, ⟨h4, h5', h5''⟩, ⟨h7, h8⟩, ⟨h9, h10⟩, h11, h12⟩ := hI
  obtain ⟨v1, v2, _⟩ := bgs_v r (up2 S 73 1 0) 0 (by omega) (up2_s _ _ _ _)
  rw [Nat.zero_add] at v1
  have hf : ∀ b j, b ≠ 74 → ¬ (b = 73 ∧ j = 1) → bgs (up2 S 73 1 0) r b j = S b j := fun b j q1 q2 => (bgs_f q2 q1 _ _).trans (up2_o _ _ (by omega))
  have n6 := hD.2.2.2.1
  have tc : ∀ a tw np, (a = 33 ∨ a = 45) → TC a tw np n K S P → TC a tw np n K (bgs (up2 S 73 1 0) r) P := fun a tw np ha ⟨f1, f2, f3⟩ => ⟨RC_fr (fun b j hb _ => hf _ _ (by omega) (by omega)) f1, fun p hp => Psn_f2 (fun b j hb => hf _ _ (by omega) (by omega)) (f2 p hp), f3⟩
  refine ⟨⟨tc _ _ _ (.inl rfl) h1, (hf _ _ (by decide) (by omega)).trans h2, fun e => tc _ _ _ (.inr rfl) (h3 e)⟩, ⟨fun k hk => ?_, (hf _ _ (by decide) (by omega)).trans h5', h5''⟩, ⟨(hf _ _ (by decide) (by omega)).trans h7, fun i hi => (hf _ _ (by decide) (by omega)).trans (h8 i hi)⟩, ⟨fun t ht => ⟨(hf _ _ (by decide) (by omega)).trans (h9 t ht).1, (hf _ _ (by decide) (by omega)).trans (h9 t ht).2.1, (h9 t ht).2.2⟩, h10⟩, v1, fun i hi hj => ?_⟩
  · have hk' : k < N 2 := hk
    exact SC_fr (fun j => ⟨hf _ _ (by omega) (by omega), hf _ _ (by omega) (by omega), hf _ _ (by omega) (by omega), hf _ _ (by omega) (by omega)⟩) (h4 k hk)
  · have := v2 i hj
    rw [Nat.zero_add] at this
    exact this
theorem mloc_ac : ∀ k, k < 225 → (mloc k).1 ≠ 146 ∧ ¬ ((mloc k).1 = 120 ∧ (mloc k).2 = 38) := by decide +kernel
theorem InvM_ac (hr : r.length ≤ 20) (hI : InvM N d g sd S G) : InvM (acN N r) (acD d r) g sd (bgms (up2 S 120 38 0) r) G := by
  obtain ⟨⟨h1, h2, h3⟩, ⟨h4, cd, h5'', h5', h6⟩, ⟨h7, h8⟩, ⟨h9, h10⟩, h11, h12⟩ := hI
  obtain ⟨v1, v2, _⟩ := bgms_v r (up2 S 120 38 0) 0 (by omega) (up2_s _ _ _ _)
  rw [Nat.zero_add] at v1
  have hf : ∀ b j, b ≠ 146 → ¬ (b = 120 ∧ j = 38) → bgms (up2 S 120 38 0) r b j = S b j := fun b j q1 q2 => (bgms_f q2 q1 _ _).trans (up2_o _ _ (by omega))
  refine ⟨⟨RM_fr (fun k hk => hf _ _ (mloc_ac k hk).1 (mloc_ac k hk).2) h1, (hf _ _ (by decide) (by omega)).trans h2, fun e i hi => (hf _ _ (by decide) (by omega)).trans (h3 e i hi)⟩, ⟨(hf _ _ (by decide) (by omega)).trans h4, cd, (hf _ _ (by decide) (by omega)).trans h5'', h5', fun k hk => ?_⟩, ⟨(hf _ _ (by decide) (by omega)).trans h7, fun i hi => (hf _ _ (by decide) (by omega)).trans (h8 i hi)⟩, ⟨fun t ht => ⟨(hf _ _ (by decide) (by omega)).trans (h9 t ht).1, (hf _ _ (by decide) (by omega)).trans (h9 t ht).2⟩, h10⟩, v1, fun i hi hj => ?_⟩
  · exact SMb_fr (Nat.le_refl _) (fun j _ => hf _ _ (by decide) (by omega)) (hf _ _ (by decide) (by omega)) (fun a i ha hb _ => hf _ _ (by omega) (by omega)) (h6 k hk)
  · have := v2 i hj
    rw [Nat.zero_add] at this
    exact this
theorem d_act (hD : DOk N d) (hr : r.length ≤ 20) : DOk (acN N r) (acD d r) := by
  obtain ⟨d1, d2, d3, d4, d5, d6, d7⟩ := hD
  exact ⟨d1, d2, d3, d4, d5, d6, show r.length ≤ 100 by omega⟩
end I
section A
variable {l : Launch} {L : Nat} {xs : Nat → Int32} {D : Nat} {n : Nat} {K : Mk} {S : Mi} {G : Ml} {P : Mr} {Q : QT} {N : Nat → Nat} {d : Nat → Nat → Int32} {g : Nat → Int64} {sd : Nat → Int32 × ((Nat → Int32) → Bool)} {w : Nat} {nu v x : Int32}
set_option maxRecDepth 20000
theorem kcl_pc {k : Nat} (h : k < 7) : PC (kcl k) := by
  have e : ∀ k, k < 7 → kcl k = 0 ∨ kcl k = 1 ∨ kcl k = 2 ∨ kcl k = 4 ∨ kcl k = 5 ∨ kcl k = 6 ∨ kcl k = 8 := by decide
  exact e k h
theorem m_shK {k : Nat} (hk7 : k < 7) (hp : Pn n K S P w (kcl k) nu v) (ht : TrOk S 2) (h : Q (some (.int (shV (kcl k) nu v x))) n K (bgs S (shL (kcl k))) G P) : Ok l L xs T1 (D + 3) (jsel 1 (kcl k)) 0 [.ref w, .int x] n K S G P Q := by
  have hc := kcl_pc hk7
  match k, hk7, hp, h with
  | 0, _, hp, h => exact m_sh4 (D := D + 1) hp hc (tr_le ht (by decide)) h
  | 1, _, hp, h => exact m_sh4 (D := D + 1) hp hc (tr_le ht (by decide)) h
  | 2, _, hp, h => exact m_sh5 hp hc ht h
  | 3, _, hp, h => exact m_sh4 (D := D + 1) hp hc (tr_le ht (by decide)) h
  | 4, _, hp, h => exact m_sh6 hp hc ht h
  | 5, _, hp, h => exact m_sh5 hp hc ht h
  | 6, _, hp, h => exact m_sh8 hp hc ht h
theorem m_scK {k : Nat} (hk7 : k < 7) (hp : Pn n K S P w (kcl k) nu v) (ht : TrOk S 5) (h : Q (some (.int (scV (kcl k) nu v x))) n K (bgs S (scL (kcl k))) G P) : Ok l L xs T1 (D + 6) (jsel 2 (kcl k)) 0 [.ref w, .int x] n K S G P Q := by
  have hc := kcl_pc hk7
  match k, hk7, hp, h with
  | 0, _, hp, h => exact m_s4 (D := D + 2) hp hc (tr_le ht (by decide)) h
  | 1, _, hp, h => exact m_s00 (D := D + 1) hp (tr_le ht (by decide)) h
  | 2, _, hp, h => exact m_s4 (D := D + 2) hp hc (tr_le ht (by decide)) h
  | 3, _, hp, h => exact m_s4 (D := D + 2) hp hc (tr_le ht (by decide)) h
  | 4, _, hp, h => exact m_s6 hp ht h
  | 5, _, hp, h => exact m_s4 (D := D + 2) hp hc (tr_le ht (by decide)) h
  | 6, _, hp, h => exact m_s8 (D := D + 1) hp rfl ht h
theorem m_teK {k : Nat} (hk7 : k < 7) (hp : Pn n K S P w (kcl k) nu v) (ht : TrOk S 12) (h : Q (some (.int (teV (kcl k) nu v x))) n K (bgs S (teL (kcl k))) G P) : Ok l L xs T1 (D + 8) (jsel 3 (kcl k)) 0 [.ref w, .int x] n K S G P Q := by
  match k, hk7, hp, h with
  | 0, _, hp, h => exact m_t4_4 (D := D + 1) hp (tr_le ht (by decide)) h
  | 1, _, hp, h => exact m_t4_0 (D := D + 1) hp (tr_le ht (by decide)) h
  | 2, _, hp, h => exact m_t4_5 (D := D + 1) hp (tr_le ht (by decide)) h
  | 3, _, hp, h => exact m_t2_2 hp ht h
  | 4, _, hp, h => exact m_t4_6 (D := D + 1) hp (tr_le ht (by decide)) h
  | 5, _, hp, h => exact m_t1 hp (tr_le ht (by decide)) h
  | 6, _, hp, h => exact m_t2_8 hp ht h
theorem c_act {x y z : Int32} (hI : InvC N d g sd n K S G P) (hD : DOk N d) (h : ∀ S', FrC S S' → InvC (acN N (rAcL (d 0) (N 0) x y)) (acD d (rAcL (d 0) (N 0) x y)) g sd n K S' G P → Q (some (.int (rAc (d 0) (N 0) x y z))) n K S' G P) : Ok l L xs T1 (D + 12) jX11_act 0 [.ref 32, .int x, .int y, .int z] n K S G P Q := by
  refine I_X11_act (by decide) (fun At go => ?_)
  have np6 := hD.1.1.2
  have hn : S 33 0 = nI (N 0) := (RC_np hI.1.1.1).trans hD.1.1.1
  have ta : TA 33 := by unfold TA; omega
  have hr := rAcL_len hD.1 x y
  have fin := h (bgs (up2 S 73 1 0) (rAcL (d 0) (N 0) x y)) (fun b j q1 q2 => (bgs_f (by omega) (by omega) _ _).trans (up2_o _ _ (by omega))) (InvC_ac hD (by omega) hI)
  have t0 : TrOk (up2 S 73 1 0) 13 := ⟨by rw [up2_s]; decide, by rw [up2_s]; decide⟩
  have hn' : up2 S 73 1 0 33 0 = nI (N 0) := (up2_o _ _ (by omega)).trans hn
  rcases inR_c (N 0) x with ⟨p, hp, rfl⟩ | hx
  · obtain ⟨w, k, hpp, hk, ek, hper, g5, g6, g7, g8⟩ := hI.1.1.2.1 p hp
    have gw := hper.1
    have hPn : Pn n K (up2 S 73 1 0) P w (kcl k) (nI p) (d 0 (6 + p)) := ⟨hper, (up2_o _ _ (by omega)).trans g6, (up2_o _ _ (by omega)).trans g7, g8⟩
    have hw : P 34 (nI p).toNatClampNeg = some w := by rw [nI_clamp (by omega)]; exact hpp
    unfold rAc rAcL at fin
    rw [if_pos (inR_nI hp (by omega)), if_pos (inR_nI hp (by omega)), nI_clamp (by omega), ek, nI_clamp (by omega)] at fin
    unfold acV acL at fin
    have a21 : At 21 [.ref 32, .int (nI p), .int y, .int z] [] n K (up2 S 73 1 0) G P 0 := by
      refine go [21] 60 _ _ _ _ _ _ _ _ _ ?_
      refine ite_i (fun c => ?_) (fun c => ?_)
      · rw [if_pos c, if_pos c] at fin
        refine ite_t (ixB_nI (by omega) (by decide)) ?_
        refine rf_v hw ?_
        refine sh_p hper ?_
        refine v_go hk (by decide) rfl ?_
        refine m_shK (D := D + 8) hk hPn (tr_le t0 (by decide)) ?_
        exact fin
      rw [if_neg c, if_neg c] at fin
      refine ite_i (fun c => ?_) (fun c => ?_)
      · rw [if_pos c, if_pos c] at fin
        refine ite_t (ixB_nI (by omega) (by decide)) ?_
        refine rf_v hw ?_
        refine sh_p hper ?_
        refine v_go hk (by decide) rfl ?_
        refine m_scK (D := D + 5) hk hPn (tr_le t0 (by decide)) ?_
        exact fin
      rw [if_neg c, if_neg c] at fin
      refine ite_i (fun c => ?_) (fun c => ?_)
      · rw [if_pos c, if_pos c] at fin
        refine ite_t (ixB_nI (by omega) (by decide)) ?_
        refine rf_v hw ?_
        refine sh_p hper ?_
        refine v_go hk (by decide) rfl ?_
        refine m_teK (D := D + 3) hk hPn (tr_le t0 (by decide)) ?_
        exact fin
      rw [if_neg c, if_neg c] at fin
      exact fin
    refine go [21] 60 _ _ _ _ _ _ _ _ _ ?_
    refine m_has ta hn' np6 (fun p' _ _ => ?_) (fun c => absurd ⟨by rw [nI_toInt (by omega)]; omega, by rw [nI_toInt (by omega)]; omega⟩ c)
    exact a21
  · unfold rAc rAcL at fin
    rw [hx, if_neg (by decide), if_neg (by decide)] at fin
    refine go [21] 60 _ _ _ _ _ _ _ _ _ ?_
    refine m_has ta hn' np6 (fun p' hp' e => (inR_n hx hp' (by omega) e).elim) (fun _ => ?_)
    exact fin
theorem q_act {x y z : Int32} (hI : InvM N d g sd S G) (hD : DOk N d) (h : ∀ S', FrM S S' → InvM (acN N (rAcL (d 0) (N 0) x y)) (acD d (rAcL (d 0) (N 0) x y)) g sd S' G → Q (some (.int (rAc (d 0) (N 0) x y z))) n K S' G P) : Ok l L xs T1 (D + 12) jX12_act 0 [.ref 120, .int x, .int y, .int z] n K S G P Q := by
  refine I_X12_act (by decide) (fun At go => ?_)
  have np6 := hD.1.1.2
  have hR := hI.1.1
  have hn : up2 S 120 38 0 120 0 = nI (N 0) := (up2_o _ _ (by omega)).trans ((RM_np hR).trans hD.1.1.1)
  have hr := rAcL_len hD.1 x y
  have fin := h (bgms (up2 S 120 38 0) (rAcL (d 0) (N 0) x y)) (fun b j q1 => (bgms_f (by omega) (by omega) _ _).trans (up2_o _ _ (by omega))) (InvM_ac (by omega) hI)
  have t0 : MtOk (up2 S 120 38 0) 13 := ⟨by rw [up2_s]; decide, by rw [up2_s]; decide⟩
  have a22 : rAcL (d 0) (N 0) x y = [] → rAc (d 0) (N 0) x y z = 0 → At 22 [.ref 120, .int x, .int y, .int z, .retAddr 0] [] n K (up2 S 120 38 0) G P 0 := by
    intro e1 e2
    rw [e1, e2] at fin
    refine go [] 60 _ _ _ _ _ _ _ _ _ ?_
    exact fin
  rcases inR_c (N 0) x with ⟨p, hp, rfl⟩ | hx
  · obtain ⟨⟨k, hk, ek⟩, _⟩ := hD.1.2.2.2.1 p hp
    have u1 : rAcL (d 0) (N 0) (nI p) y = acL (kcl k) y := by unfold rAcL; rw [if_pos (inR_nI hp (by omega)), nI_clamp (by omega), ek, nI_clamp (by omega)]
    have u2 : rAc (d 0) (N 0) (nI p) y z = acV (kcl k) (nI p) (d 0 (6 + p)) z y := by unfold rAc; rw [if_pos (inR_nI hp (by omega)), nI_clamp (by omega), ek, nI_clamp (by omega)]
    rw [u1, u2] at a22
    rw [u1, u2] at fin
    unfold acV acL at fin a22
    have hkd : up2 S 120 38 0 121 p = nI k := by have := RM_kind hR p (by omega); rw [Nat.zero_add] at this; exact (up2_o _ _ (by omega)).trans (this.trans ek)
    have hv : up2 S 120 38 0 122 p = d 0 (6 + p) := (up2_o _ _ (by omega)).trans (RM_v hR p (by omega))
    have hz : up2 S 120 38 0 121 (nI p).toNatClampNeg = nI k := by rw [nI_clamp (by omega)]; exact hkd
    have a71 : ∀ S' r v4, Q (some (.int r)) n K S' G P → At 71 [.ref 120, .int (nI p), .int y, .int z, v4] [.int r] n K S' G P 0 := by
      intro S' r v4 hQ
      refine go [] 60 _ _ _ _ _ _ _ _ _ ?_
      exact hQ
    have a24 : inR 3 y = true → At 24 [.ref 120, .int (nI p), .int y, .int z, .retAddr 0] [] n K (up2 S 120 38 0) G P 0 := by
      intro hy
      refine go [71] 60 _ _ _ _ _ _ _ _ _ ?_
      refine ite_t (ixB_nI (by omega) (by decide)) ?_
      refine ite_i (fun c => ?_) (fun c => ?_)
      · rw [if_pos c, if_pos c] at fin
        rw [hz]
        refine mm_shK (D := D + 7) hk (by omega) hv (mt_le t0 (by decide)) ?_
        exact a71 _ _ _ fin
      rw [if_neg c, if_neg c] at fin
      have c0 := c
      refine ite_i (fun c => ?_) (fun c => ?_)
      · rw [if_pos c, if_pos c] at fin
        rw [hz]
        refine mm_scK (D := D + 4) hk (by omega) hkd hv (mt_le t0 (by decide)) ?_
        exact a71 _ _ _ fin
      rw [if_neg c, if_neg c] at fin
      have c2 : y = 2 := by
        obtain ⟨j, hj, rfl⟩ := inR_ex hy
        have e : j = 0 ∨ j = 1 ∨ j = 2 := by omega
        rcases e with rfl | rfl | rfl
        · exact absurd rfl c0
        · exact absurd rfl c
        · rfl
      rw [if_pos c2, if_pos c2] at fin
      rw [hz]
      refine mm_teK (D := D + 1) hk (by omega) hkd hv t0 ?_
      exact a71 _ _ _ fin
    refine go [22, 24] 60 _ _ _ _ _ _ _ _ _ ?_
    refine mm_isOne hn np6 (fun p' _ _ => ?_) (fun c => absurd ⟨by rw [nI_toInt (by omega)]; omega, by rw [nI_toInt (by omega)]; omega⟩ c)
    refine mm_w0 (m := 2) (by decide) 2 rfl (fun hy => a24 hy) (fun c => ?_)
    have n0 : ¬ y = 0 := fun e => by rw [e] at c; exact absurd c (by decide)
    have n1 : ¬ y = 1 := fun e => by rw [e] at c; exact absurd c (by decide)
    have n2 : ¬ y = 2 := fun e => by rw [e] at c; exact absurd c (by decide)
    rw [if_neg n0, if_neg n0, if_neg n1, if_neg n1, if_neg n2, if_neg n2] at a22
    exact a22 rfl rfl
  · refine go [22, 24] 60 _ _ _ _ _ _ _ _ _ ?_
    refine mm_isOne hn np6 (fun p' hp' e => (inR_n hx hp' (by omega) e).elim) (fun _ => ?_)
    exact a22 (by unfold rAcL; rw [hx]; rfl) (by unfold rAc; rw [hx]; rfl)
end A
end

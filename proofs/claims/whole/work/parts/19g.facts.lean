noncomputable section
/-! A READ STREET says the same on both sides. -/
theorem cg_c {c : Cl} {r : List Cl} {i : Nat} : cg (c :: r) (i + 1) = cg r i := rfl
theorem seC_c {c : Cl} {r : List Cl} : ∀ i, seC (c :: r) (i + 1) = c.2.2.1.length + seC r i
  | 0 => by show 0 + c.2.2.1.length = c.2.2.1.length + 0; omega
  | i + 1 => by
    show seC (c :: r) (i + 1) + (cg (c :: r) (i + 1)).2.2.1.length = c.2.2.1.length + (seC r i + (cg r i).2.2.1.length)
    rw [seC_c i, cg_c]; omega
theorem seM_c {c : Cl} {r : List Cl} : ∀ i, seM (c :: r) (i + 1) = c.2.2.2.length + seM r i
  | 0 => by show 0 + c.2.2.2.length = c.2.2.2.length + 0; omega
  | i + 1 => by
    show seM (c :: r) (i + 1) + (cg (c :: r) (i + 1)).2.2.2.length = c.2.2.2.length + (seM r i + (cg r i).2.2.2.length)
    rw [seM_c i, cg_c]; omega
theorem clL_se {t : Nat → Nat} {sz : Nat} (h100 : sz ≤ 100) : ∀ k p, p ≤ sz → p + seC (clL t sz k p).2.2 (clL t sz k p).2.2.length ≤ sz ∧ p + seM (clL t sz k p).2.2 (clL t sz k p).2.2.length ≤ sz := by
  intro k
  induction k with
  | zero => intro p hp; exact ⟨hp, hp⟩
  | succ k ih =>
    intro p hp
    cases hc : clP t sz p with
    | mk o q =>
      cases o with
      | none =>
        rw [clL_n hc]
        exact ⟨hp, hp⟩
      | some c =>
        obtain ⟨k1, k2, k3, k4⟩ := clP_ok hp h100 hc
        by_cases z : k ≠ 0 ∧ isC t sz 59 q = true
        · rw [clL_m hc z.1 z.2]
          have z1 := (isC_i.mp z.2).1
          obtain ⟨i1, i2⟩ := ih (q + 1) z1
          dsimp only
          rw [List.length_cons, seC_c, seM_c]
          omega
        · rw [clL_e hc z]
          dsimp only
          rw [show [c].length = 0 + 1 from rfl, seC_c, seM_c]
          show p + (c.2.2.1.length + 0) ≤ sz ∧ p + (c.2.2.2.length + 0) ≤ sz
          omega
def woL (ys : List Cl) (i : Nat) : Int32 := woC (cg ys i).1 (cg ys i).2.1
def sdN (ys : List Cl) : Int32 × ((Nat → Int32) → Bool) := (bgL ys ys.length, fun vals => decide (0 < lou (woL ys) (fun i => semC (cg ys i)) vals ys.length))
theorem SC_of {s : Nat} {S : Mi} {ys : List Cl} (h10 : ys.length ≤ 10) (h100 : seC ys ys.length ≤ 100) (hok : ∀ c, c ∈ ys → ClOk c) (h : CInv s S ys) : SC s S (sdN ys).1 (sdN ys).2 := by
  obtain ⟨h1, h5, h0, hi⟩ := h
  refine ⟨h0, ys.length, woL ys, seC ys, fun i => (cg ys i).2.2.1, fun i => semC (cg ys i), h10, h1, fun i hl => (hi i hl).1, rfl, fun i hl => ?_, fun vals => rfl⟩
  obtain ⟨k1, k2, k3⟩ := hi i hl
  obtain ⟨o1, o2, o3, o4⟩ := hok _ (cg_mem hl)
  have := seC_le (ys := ys) (i := i + 1) (j := ys.length) (by omega)
  refine ⟨k2, rfl, by omega, k3, ?_, ?_⟩
  · show ∀ x, x ∈ (cg ys i).2.2.1 → x < 1803
    by_cases z : (cg ys i).1 = 2
    · rw [(o3 z).1]; exact fun x hx => absurd hx List.not_mem_nil
    · exact (o4 z).1
  · by_cases z : (cg ys i).1 = 2
    · exact .inl ⟨(o3 z).1, fun vals => if_pos z⟩
    · exact .inr (fun vals => ((o4 z).2.2 vals).1)
theorem SMb_of {k cd : Nat} {S : Mi} {ys : List Cl} (h10 : ys.length ≤ 10) (hok : ∀ c, c ∈ ys → ClOk c) (h129 : S 129 k = nI ys.length) (h : MInv k cd S ys) : SMb (cd + seM ys ys.length) k S (sdN ys).1 (sdN ys).2 := by
  obtain ⟨h23, hi⟩ := h
  refine ⟨ys.length, fun i => (cg ys i).1, fun i => nI (cg ys i).2.1, fun i => cd + seM ys i, fun i => (cg ys i).2.2.2, fun i => semC (cg ys i), h10, h129, fun i hl => ?_, rfl, fun vals => rfl⟩
  obtain ⟨k0, k1, k2, k3, kj⟩ := hi i hl
  obtain ⟨o1, o2, o3, o4⟩ := hok _ (cg_mem hl)
  refine ⟨o1, k0, k1, ?_⟩
  by_cases z : (cg ys i).1 = 2
  · exact .inl z
  · have := seM_le (ys := ys) (i := i + 1) (j := ys.length) (by omega)
    have e2 : seM ys (i + 1) = seM ys i + (cg ys i).2.2.2.length := rfl
    exact .inr ⟨k2, k3, by dsimp only; omega, kj, (o4 z).2.1, fun vals => ((o4 z).2.2 vals).2⟩
def tOf (d : Nat → Nat → Int32) (i : Nat) : Nat := (d 2 i).toNatClampNeg
def clR (N : Nat → Nat) (d : Nat → Nat → Int32) : Bool × Nat × List Cl := clL (tOf d) (N 3) 10 0
def stN (N : Nat → Nat) : Nat → Nat := upR (upR N 2 (N 2 + 1)) 3 0
def stD (N : Nat → Nat) (d : Nat → Nat → Int32) : Nat → Nat → Int32 := upR d 0 (va_up (d 0) 224 (nI (N 2)))
def stS (N : Nat → Nat) (d : Nat → Nat → Int32) (sd : Nat → Int32 × ((Nat → Int32) → Bool)) : Nat → Int32 × ((Nat → Int32) → Bool) := upR sd (N 2) (sdN (clR N d).2.2)
section I
variable {N N' : Nat → Nat} {d d' : Nat → Nat → Int32} {g : Nat → Int64} {sd sd' : Nat → Int32 × ((Nat → Int32) → Bool)} {n : Nat} {K : Mk} {S S' : Mi} {G : Ml} {P P' : Mr}
theorem InvC_st (hD : DOk N d) (hI : InvC N d g sd n K S G P) (f : ∀ b j, (b < 84 + 6 * N 2 ∨ 84 + 6 * N 2 + 5 < b) → ¬ (b = 32 ∧ (j = 5 ∨ j = 7)) → S' b j = S b j) (e0 : N' 0 = N 0) (e4 : N' 4 = N 4) (e6 : N' 6 = N 6) (e3 : N' 3 = 0) (h5 : S' 32 5 = 0) (h7 : S' 32 7 = nI (N' 2)) (hst : STC sd' (N' 2) S') (hd : ∀ i, i ≠ 0 → d' i = d i) (hd0 : ∀ k, k < 224 → d' 0 k = d 0 k) (hP : ∀ b j, ¬ (b = 33 ∧ j = 8) → P' b j = P b j) (hP8 : P' 33 8 = hdr (d' 0 224)) : InvC N' d' g sd' n K S' G P' := by
  obtain ⟨⟨h1, h2, h3⟩, ⟨h4, h5', h5''⟩, ⟨h7', h8⟩, ⟨h9, h10⟩, h11, h12⟩ := hI
  have n6 := hD.2.2.2.1
  have p6 := hD.1.1.2
  have ps : ∀ a p kd v, (a = 33 ∨ a = 45) → Psn a n K S P p kd v → Psn a n K S' P' p kd v := by
    intro a p kd v ha h
    obtain ⟨w, k, g1, g2, g3, g4, g5, g6, g7, g8⟩ := h
    have gw := g4.1
    exact ⟨w, k, (hP _ _ (by omega)).trans g1, g2, g3, g4, (f _ _ (by omega) (by omega)).trans g5, (f _ _ (by omega) (by omega)).trans g6, (f _ _ (by omega) (by omega)).trans g7, (hP _ _ (by omega)).trans g8⟩
  refine ⟨⟨⟨RC_eq (fun k _ hk => (hd0 k hk).symm) (RC_fr (fun b j hb _ => f _ _ (by omega) (by omega)) h1.1), fun p hp => ?_, hP8⟩, ?_, fun e => ?_⟩, ⟨hst, h7, fun i hi => (hP _ _ (by omega)).trans (h5'' i hi)⟩, ⟨by rw [e3]; exact h5, fun i hi => absurd hi (by rw [e3]; exact Nat.not_lt_zero _)⟩, ⟨fun t ht => ?_, h10⟩, ?_, fun i hi hj => ?_⟩
  · rw [e0] at hp
    rw [hd0 _ (by omega), hd0 _ (by omega)]
    exact ps 33 p _ _ (.inl rfl) (h1.2.1 p hp)
  · rw [hd 3 (by decide)]; exact (f _ _ (by omega) (by omega)).trans h2
  · rw [hd 3 (by decide)] at e
    obtain ⟨k1, k2, k3⟩ := h3 e
    rw [hd 1 (by decide), e4]
    exact ⟨RC_fr (fun b j hb _ => f _ _ (by omega) (by omega)) k1, fun p hp => ps 45 p _ _ (.inr rfl) (k2 p hp), (hP _ _ (by omega)).trans k3⟩
  · rw [hd 4 (by decide), hd 5 (by decide)]
    exact ⟨(f _ _ (by omega) (by omega)).trans (h9 t ht).1, (f _ _ (by omega) (by omega)).trans (h9 t ht).2.1, (hP _ _ (by omega)).trans (h9 t ht).2.2⟩
  · rw [e6]; exact (f _ _ (by omega) (by omega)).trans h11
  · rw [e6] at hj
    rw [hd 6 (by decide)]; exact (f _ _ (by omega) (by omega)).trans (h12 i hi hj)
theorem STC_st {m : Nat} (hm : m ≤ N 2) (f : ∀ b j, (b < 84 + 6 * N 2 ∨ 84 + 6 * N 2 + 5 < b) → ¬ (b = 32 ∧ (j = 5 ∨ j = 7)) → S' b j = S b j) (h : STC sd m S) : STC sd m S' := fun k hk => SC_fr (fun j => ⟨f _ _ (by omega) (by omega), f _ _ (by omega) (by omega), f _ _ (by omega) (by omega), f _ _ (by omega) (by omega)⟩) (h k hk)
theorem mloc_st : ∀ k, k < 224 → ¬ ((mloc k).1 = 120 ∧ ((mloc k).2 = 9 ∨ (mloc k).2 = 11 ∨ (mloc k).2 = 12 ∨ (mloc k).2 = 13 ∨ (mloc k).2 = 14 ∨ (mloc k).2 = 15 ∨ (mloc k).2 = 16 ∨ (mloc k).2 = 23)) ∧ (mloc k).1 ≠ 134 ∧ ¬ (130 ≤ (mloc k).1 ∧ (mloc k).1 ≤ 133) ∧ (mloc k).1 ≠ 129 := by decide +kernel
theorem RM_224 {kk cd : Nat} {tw : Nat → Int32} {x : Int32} (f : FrG kk cd S S') (h16 : S' 120 16 = x) (h : RM tw S) : RM (va_up tw 224 x) S' := by
  intro j hj
  by_cases e : j = 224
  · subst e
    rw [va_up_self]
    exact h16
  · rw [va_up_ne _ _ e]
    obtain ⟨m1, m2, m3, m4⟩ := mloc_st j (by omega)
    exact (f _ _ m1 (fun z => m2 z.1) (fun z => m3 ⟨z.1, z.2.1⟩) (fun z => m4 z.1)).trans (h j hj)
theorem InvM_st {kk cd : Nat} (hI : InvM N d g sd S G) (f : FrG kk cd S S') (e6 : N' 6 = N 6) (e3 : N' 3 = 0) (h9 : S' 120 9 = 0) (h15 : S' 120 15 = nI (N' 2)) (hst : ∃ cd', STM sd' (N' 2) cd' S') (hd : ∀ i, i ≠ 0 → d' i = d i) (hR : RM (d' 0) S') : InvM N' d' g sd' S' G := by
  obtain ⟨⟨h1, h2, h3⟩, ⟨h4, cd0, h5'', h5', h6⟩, ⟨h7, h8⟩, ⟨h9', h10⟩, h11, h12⟩ := hI
  refine ⟨⟨hR, ?_, fun e i hi => ?_⟩, ⟨h15, hst⟩, ⟨by rw [e3]; exact h9, fun i hi => absurd hi (by rw [e3]; exact Nat.not_lt_zero _)⟩, ⟨fun t ht => ?_, h10⟩, ?_, fun i hi hj => ?_⟩
  · rw [hd 3 (by decide)]; exact (f _ _ (by omega) (by omega) (by omega) (by omega)).trans h2
  · rw [hd 3 (by decide)] at e
    rw [hd 1 (by decide)]
    exact (f _ _ (by omega) (by omega) (by omega) (by omega)).trans (h3 e i hi)
  · rw [hd 4 (by decide), hd 5 (by decide)]
    exact ⟨(f _ _ (by omega) (by omega) (by omega) (by omega)).trans (h9' t ht).1, (f _ _ (by omega) (by omega) (by omega) (by omega)).trans (h9' t ht).2⟩
  · rw [e6]; exact (f _ _ (by omega) (by omega) (by omega) (by omega)).trans h11
  · rw [e6] at hj
    rw [hd 6 (by decide)]; exact (f _ _ (by omega) (by omega) (by omega) (by omega)).trans (h12 i hi hj)
theorem SMb_st {kk cd cd' k : Nat} {b : Int32} {hf : (Nat → Int32) → Bool} (hk : k < kk) (hc : cd ≤ cd') (f : FrG kk cd S S') (h : SMb cd k S b hf) : SMb cd' k S' b hf := SMb_fr hc (fun j hj => f _ _ (by omega) (by omega) (by omega) (by omega)) (f _ _ (by omega) (by omega) (by omega) (by omega)) (fun a i ha hb hi => f _ _ (by omega) (by omega) (by omega) (by omega)) h
theorem TwOk_st {tw : Nat → Int32} {np dy ns : Nat} (h : TwOk tw np dy ns) : TwOk (va_up tw 224 (nI ns)) np dy (ns + 1) := by
  obtain ⟨h1, h2, h3, h4, h5, h6, ⟨r, r1, r2, r3⟩, ⟨s, s1, s2, s3⟩, ⟨b, b1, b2, b3⟩⟩ := h
  have e : ∀ k, k ≠ 224 → va_up tw 224 (nI ns) k = tw k := fun k hk => va_up_ne _ _ hk
  refine ⟨⟨(e _ (by decide)).trans h1.1, h1.2⟩, ⟨(e _ (by decide)).trans h2.1, h2.2⟩, .inr ⟨ns, Nat.lt_succ_self _, va_up_self _ _ _⟩, fun q hq => ?_, fun i hi => ?_, fun i hi => by rw [e _ (by omega)]; exact h6 i hi, ⟨r, r1, (e _ (by decide)).trans r2, fun i hi => ?_⟩, ⟨s, s1, (e _ (by decide)).trans s2, fun i hi => ?_⟩, ⟨b, b1, (e _ (by decide)).trans b2, fun i hi => ?_⟩⟩
  · have := h1.2
    rw [e _ (by omega), e _ (by omega)]; exact h4 q hq
  · rw [e _ (by omega)]; exact h5 i hi
  · rw [e _ (by omega), e _ (by omega), e _ (by omega), e _ (by omega), e _ (by omega)]; exact r3 i hi
  · rw [e _ (by omega), e _ (by omega)]; exact s3 i hi
  · rw [e _ (by omega), e _ (by omega)]; exact b3 i hi
theorem TwOk_ns {tw : Nat → Int32} {np dy ns : Nat} (h : TwOk tw np dy ns) : TwOk tw np dy (ns + 1) := by
  obtain ⟨h1, h2, h3, h4⟩ := h
  refine ⟨h1, h2, ?_, h4⟩
  rcases h3 with h3 | ⟨k, hk, e⟩
  · exact .inl h3
  · exact .inr ⟨k, by omega, e⟩
theorem d_street1 (hD : DOk N d) (hk : N 2 < 6) : DOk (stN N) (stD N d) := by
  obtain ⟨d1, d2, d3, d4, d5, d6, d7⟩ := hD
  refine ⟨TwOk_st d1, d2, ?_, by show N 2 + 1 ≤ 6; omega, ⟨Nat.zero_le _, fun i hi => absurd hi (Nat.not_lt_zero _)⟩, d6, d7⟩
  rcases d3 with d3 | ⟨e1, e2, e3⟩
  · exact .inl d3
  · exact .inr ⟨e1, TwOk_ns e2, e3⟩
theorem d_street0 (hD : DOk N d) : DOk (upR N 3 0) d := by
  obtain ⟨d1, d2, d3, d4, d5, d6, d7⟩ := hD
  exact ⟨d1, d2, d3, d4, ⟨Nat.zero_le _, fun i hi => absurd hi (Nat.not_lt_zero _)⟩, d6, d7⟩
theorem tOf_ok (hD : DOk N d) {i : Nat} (hi : i < N 3) : tOf d i < 128 ∧ d 2 i = nI (tOf d i) := by
  obtain ⟨c, hc, e⟩ := hD.2.2.2.2.1.2 i hi
  unfold tOf
  rw [e, nI_clamp (by omega)]
  exact ⟨hc, rfl⟩
theorem WO_8 {x : Option Nat} (h : WO n K P) : WO n K (up2 P 33 8 x) := ⟨fun i hi => by rw [up2_o _ _ (by omega)]; exact h.1 i hi, fun i hi => by rw [up2_o _ _ (by omega)]; exact h.2 i hi⟩
end I
end

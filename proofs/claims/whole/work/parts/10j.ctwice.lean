noncomputable section
/-! TWICE of the component. -/
def CPq (a n : Nat) (K : Mk) (S : Mi) (P : Mr) (bg : Int32) (hf : (Nat → Int32) → Bool) (p q : Nat) (kd v : Int32) (rw : Nat → Int32) (dy : Nat) (t us la : Int32) : Prop := CP a n K S P bg hf p q kd v rw us la ∧ S a 7 = nI dy ∧ S (a + 4) (6 * p + q) = t
theorem CPq_fr {a n : Nat} {K : Mk} {S S' : Mi} {P : Mr} {bg : Int32} {hf : (Nat → Int32) → Bool} {p q : Nat} {kd v : Int32} {rw : Nat → Int32} {dy : Nat} {t us la : Int32} (ha : TA a) (h : Fc S S') (hs : CPq a n K S P bg hf p q kd v rw dy t us la) : CPq a n K S' P bg hf p q kd v rw dy t us la := by
  obtain ⟨h1, h2, h3⟩ := hs
  have e : scr a = false ∧ scr (a + 4) = false := by rcases ha with rfl | rfl | rfl <;> exact ⟨rfl, rfl⟩
  exact ⟨CP_fr ha h h1, (h _ _ e.1).trans h2, (h _ _ e.2).trans h3⟩
theorem opn_of {bg la : Int32} {d e : Nat} (h : opn bg la d = true) (he : e < d) (hd : d < 2 ^ 31) : opn bg (nI e) d = true := by
  unfold opn at h ⊢
  rw [Bool.not_eq_true', Bool.or_eq_false_iff] at h ⊢
  refine ⟨h.1, decide_eq_false ?_⟩
  rw [nI_eq hd (by omega)]
  omega
theorem opn_no {bg la x : Int32} {d e : Nat} (h : opn bg la d = false) (hl : la.toInt ≤ e) (he : e < d) (hd : d < 2 ^ 31) : opn bg x d = false := by
  unfold opn at h ⊢
  have h2 : ¬ nI d = la := fun q => by rw [← q, nI_toInt hd] at hl; omega
  rw [decide_eq_false h2, Bool.or_false] at h
  rw [Bool.not_eq_false'] at h ⊢
  rw [h]
  rfl
def fwB (f : Nat → Nat → Bool) : Nat → Nat → Bool
  | 0, _ => false
  | k + 1, w => fwB f k w || f k w
theorem fwB_t (f : Nat → Nat → Bool) (w : Nat) : ∀ k, fwB f k w = true ↔ ∃ j, j < k ∧ f j w = true := by
  intro k
  induction k with
  | zero => exact ⟨fun h => (by cases h), fun ⟨j, h, _⟩ => absurd h (Nat.not_lt_zero j)⟩
  | succ k ih =>
    rw [show fwB f (k + 1) w = (fwB f k w || f k w) from rfl, Bool.or_eq_true, ih]
    constructor
    · rintro (⟨j, h1, h2⟩ | h)
      · exact ⟨j, by omega, h2⟩
      · exact ⟨k, by omega, h⟩
    · rintro ⟨j, h1, h2⟩
      rcases Nat.lt_or_ge j k with g | g
      · exact .inl ⟨j, g, h2⟩
      · have e : j = k := by omega
        subst e
        exact .inr h2
section A
variable {l : Launch} {L : Nat} {xs : Nat → Int32} {D : Nat} {n : Nat} {K : Mk} {S : Mi} {G : Ml} {P : Mr} {Q : QT} {bg : Int32} {hf : (Nat → Int32) → Bool} {a p q : Nat} {kd v : Int32} {rw : Nat → Int32} {dy : Nat} {t us la : Int32}
set_option maxRecDepth 20000
theorem m_secondCounts {d : Nat} {x : Int32} {fw hd : Nat → Bool} (ha : TA a) (hp : p < 6) (hvn : ∃ j, j < 10 ∧ v = nI j) (hd2 : d < 20000) (hpn : Psn a n K S P p kd v) (hx : x = bits4 fw) (e1 : S (a + 10) 1 = v) (e2 : S (a + 10) 2 = nI d) (e3 : S (a + 10) 3 = us) (e4 : S (a + 10) 4 = bits4 hd) (e5 : S (a + 10) 5 = rw (d % 4)) (h1 : ∀ S', Fc S S' → (∃ w, w < 4 ∧ fw w = true ∧ ∃ w', w' < 4 ∧ cntK kd v rw d w' (hd w') (hd w' && usB (us ||| ((1 : Int32) <<< (nI w &&& 31))) w') = true) → Q (some (.int 1)) n K S' G P) (h0 : ∀ S', Fc S S' → (¬ ∃ w, w < 4 ∧ fw w = true ∧ ∃ w', w' < 4 ∧ cntK kd v rw d w' (hd w') (hd w' && usB (us ||| ((1 : Int32) <<< (nI w &&& 31))) w') = true) → Q (some (.int 0)) n K S' G P) : Ok l L xs T1 (D + 4) jX9_secondCounts 0 [.ref a, .int (nI p), .int x] n K S G P Q := by
  refine I_X9_secondCounts (by decide) (fun At go => ?_)
  subst hx
  obtain ⟨w, k, g1, g2, g3, g4, g5, g6, g7, g8⟩ := hpn
  have ho : NA (a + 10) := by rcases ha with rfl | rfl | rfl <;> unfold NA <;> omega
  have so : scr (a + 10) = true := by rcases ha with rfl | rfl | rfl <;> rfl
  have hpp : P (a + 1) (nI p).toNatClampNeg = some w := by rw [nI_clamp (by omega)]; exact g1
  have loop : ∀ m j vj S', j + m = 4 → vj = nI j → (∀ b i, ¬ (b = a + 10 ∧ i = 3) → S' b i = S b i) → (∀ w, w < j → fw w = true → ¬ ∃ w', w' < 4 ∧ cntK kd v rw d w' (hd w') (hd w' && usB (us ||| ((1 : Int32) <<< (nI w &&& 31))) w') = true) → At 11 [.ref a, .int (nI p), .int (bits4 fw), .int us, .int vj] [] n K S' G P 0 := by
    intro m
    induction m with
    | zero =>
      intro j vj S' hj hv1 hS hN
      have e : j = 4 := by omega
      subst e
      subst hv1
      refine go [11, 57] 60 _ _ _ _ _ _ _ _ _ ?_
      refine h0 S' (fun b i hb => hS b i (fun e => by rw [e.1, so] at hb; cases hb)) (fun ⟨w, z1, z2, z3⟩ => hN w z1 z2 z3)
    | succ m ih =>
      intro j vj S' hj hv1 hS hN
      subst hv1
      have nxt : ∀ S2, (∀ b i, ¬ (b = a + 10 ∧ i = 3) → S2 b i = S b i) → (fw j = true → ¬ ∃ w', w' < 4 ∧ cntK kd v rw d w' (hd w') (hd w' && usB (us ||| ((1 : Int32) <<< (nI j &&& 31))) w') = true) → At 57 [.ref a, .int (nI p), .int (bits4 fw), .int us, .int (nI j)] [] n K S2 G P 0 := by
        intro S2 hS2 hc
        refine go [11, 57] 60 _ _ _ _ _ _ _ _ _ ?_
        refine ih (j + 1) _ _ (by omega) (nI_1 j) hS2 (fun w hw => ?_)
        rcases Nat.lt_or_ge w j with g | g
        · exact hN w g
        · have e : w = j := by omega
          subst e
          exact hc
      have hS2 : ∀ S2, S2 = up2 S' (a + 10) 3 (us ||| ((1 : Int32) <<< (nI j &&& 31))) → (∀ b i, ¬ (b = a + 10 ∧ i = 3) → S2 b i = S b i) ∧ S2 (a + 10) 3 = us ||| ((1 : Int32) <<< (nI j &&& 31)) := by
        intro S2 e
        subst e
        refine ⟨fun b i hbi => ?_, ?_⟩
        · unfold up2
          by_cases hb : b = a + 10
          · rw [if_pos hb, va_up_ne _ _ (fun hi => hbi ⟨hb, hi⟩)]
            exact hS b i hbi
          · rw [if_neg hb]
            exact hS b i hbi
        · unfold up2
          rw [if_pos rfl, va_up_self]
      have words : ∀ Q' S2, S2 = up2 S' (a + 10) 3 (us ||| ((1 : Int32) <<< (nI j &&& 31))) → Q' (some (.int (bits4 (fun w => cntK kd v rw d w (hd w) (hd w && usB (us ||| ((1 : Int32) <<< (nI j &&& 31))) w))))) n K S2 G P → Ok l L xs T1 (D + 3) (jsel 0 (kcl k)) 0 [.ref w, .ref (a + 10)] n K S2 G P Q' := by
        intro Q' S2 e hQ
        obtain ⟨f1, f2⟩ := hS2 S2 e
        rw [g3] at hQ
        exact m_words g2 g4 ho hvn hd2 ((f1 _ _ (fun z => absurd z.2 (by decide))).trans e1) ((f1 _ _ (fun z => absurd z.2 (by decide))).trans e2) f2 ((f1 _ _ (fun z => absurd z.2 (by decide))).trans e4) ((f1 _ _ (fun z => absurd z.2 (by decide))).trans e5) hQ
      have yes : ∀ S2, S2 = up2 S' (a + 10) 3 (us ||| ((1 : Int32) <<< (nI j &&& 31))) → fw j = true → (∃ w', w' < 4 ∧ cntK kd v rw d w' (hd w') (hd w' && usB (us ||| ((1 : Int32) <<< (nI j &&& 31))) w') = true) → Q (some (.int 1)) n K S2 G P := by
        intro S2 e z1 z2
        refine h1 S2 (fun b i hb => (hS2 S2 e).1 b i (fun e => by rw [e.1, so] at hb; cases hb)) ⟨j, by omega, z1, z2⟩
      have eb := hb_bits4 fw (w := j) (by omega)
      rcases ha with rfl | rfl | rfl <;> (
      refine go [11, 57] 60 _ _ _ _ _ _ _ _ _ ?_
      refine ite_f (by rw [le_i, t_4, nI_toInt (by omega)]; omega) ?_
      refine m_hasBit (fun c => ?_) (fun c => ?_)
      · rw [eb] at c
        refine ite_t (ixB_nI hp (by decide)) ?_
        refine rf_v hpp ?_
        refine sh_p g4 ?_
        refine v_go g2 (by decide) rfl ?_
        refine words _ _ rfl ?_
        refine ite_i (fun c2 => ?_) (fun c2 => ?_)
        · refine nxt _ (hS2 _ rfl).1 (fun _ ⟨w', z1, z2⟩ => ?_)
          rw [(bits4_z _).mp c2 w' z1] at z2
          cases z2
        · exact yes _ rfl c (bits4_nz _ c2)
      · rw [eb] at c
        exact nxt _ (hS2 _ rfl).1 (fun z => absurd z c))
  have us' : S (a + 10) 3 = us := e3
  have start := loop 4 0 0 S rfl rfl (fun b i _ => rfl) (fun w hw => absurd hw (Nat.not_lt_zero w))
  rw [← us'] at start
  rcases ha with rfl | rfl | rfl <;> (
  refine go [11, 57] 60 _ _ _ _ _ _ _ _ _ ?_
  exact start)
theorem m_twice (ha : TA a) (hp : p < 6) (hq : q < 6) (hd : dy ≤ 10100) (hvn : ∃ j, j < 10 ∧ v = nI j) (hla : la.toInt ≤ dy) (hh : CPq a n K S P bg hf p q kd v rw dy t us la) (h : ∀ S', Fc S S' → Q (some (.int (twV t (fun us la d w => cnt bg hf (nI p) (nI q) kd v rw us la d w) us la dy))) n K S' G P) : Ok l L xs T1 (D + 5) jX9_twice 0 [.ref a, .int (nI p), .int (nI q)] n K S G P Q := by
  refine I_X9_twice (by decide) (fun At go => ?_)
  have hh' := hh
  obtain ⟨⟨hH, hpn, hr, hu, hl⟩, h7, ht4⟩ := hh
  have hpn' := hpn
  obtain ⟨w, k, g1, g2, g3, g4, g5, g6, g7, g8⟩ := hpn
  have hpp : P (a + 1) (nI p).toNatClampNeg = some w := by rw [nI_clamp (by omega)]; exact g1
  have ho : NA (a + 10) := by rcases ha with rfl | rfl | rfl <;> unfold NA <;> omega
  have x36 : ixB (nI (6 * p + q)) 36 = true := ixB_nI (by omega) (by decide)
  have et : S (a + 4) (nI (6 * p + q)).toNatClampNeg = t := by rw [nI_clamp (by omega)]; exact ht4
  by_cases ht : t = 2
  · have hQ := h S (Fc.rf S)
    unfold twV at hQ
    rw [if_pos ht] at hQ
    have et2 := et.trans ht
    rcases ha with rfl | rfl | rfl <;> (
    refine go [24] 60 _ _ _ _ _ _ _ _ _ ?_
    refine m_pairN ?_
    refine ite_t x36 ?_
    refine ite_t et2 ?_
    exact hQ)
  · unfold twV at h
    rw [if_neg ht] at h
    have loop : ∀ r j vj S' fw (x6 : Value), j + r = 31 → vj = nI j → fw = bits4 (fwB (fun j w => cnt bg hf (nI p) (nI q) kd v rw us la (dy + j) w) j) → Fc S S' → (∀ S', Fc S S' → Q (some (.int (fstN (twC t (fun us la d w => cnt bg hf (nI p) (nI q) kd v rw us la d w) us la dy) r j))) n K S' G P) → At 24 [.ref a, .int (nI p), .int (nI q), .int (nI (6 * p + q)), .int fw, .int vj, x6] [] n K S' G P 0 := by
      intro r
      induction r with
      | zero =>
        intro j vj S' fw x6 hj hv1 hfw hS hQ
        have e : j = 31 := by omega
        subst e
        subst hv1
        refine go [24, 99, 102, 109] 60 _ _ _ _ _ _ _ _ _ ?_
        exact hQ S' hS
      | succ r ih =>
        intro j vj S' fw x6 hj hv1 hfw hS hQ
        subst hv1
        have hc2 := CPq_fr ha hS hh'
        obtain ⟨⟨hH', hpn2, hr', hu', hl'⟩, h7', ht4'⟩ := hc2
        have a99 : ∀ S2 (x6 : Value), Fc S S2 → twC t (fun us la d w => cnt bg hf (nI p) (nI q) kd v rw us la d w) us la dy j → At 99 [.ref a, .int (nI p), .int (nI q), .int (nI (6 * p + q)), .int fw, .int (nI j), x6] [] n K S2 G P 0 := by
          intro S2 x6 hS2 hC
          have := hQ S2 hS2
          rw [fstN_t hC] at this
          refine go [24] 60 _ _ _ _ _ _ _ _ _ ?_
          exact this
        have a109 : ∀ S2 fw' (x6 : Value), Fc S S2 → fw' = bits4 (fwB (fun j w => cnt bg hf (nI p) (nI q) kd v rw us la (dy + j) w) (j + 1)) → ¬ twC t (fun us la d w => cnt bg hf (nI p) (nI q) kd v rw us la d w) us la dy j → At 109 [.ref a, .int (nI p), .int (nI q), .int (nI (6 * p + q)), .int fw', .int (nI j), x6] [] n K S2 G P 0 := by
          intro S2 fw' x6 hS2 hf hC
          refine go [24] 60 _ _ _ _ _ _ _ _ _ ?_
          refine ih (j + 1) _ _ _ _ (by omega) (nI_1 j) hf hS2 (fun S3 hS3 => ?_)
          have := hQ S3 hS3
          rw [fstN_f hC] at this
          exact this
        have e7 : S' a 7 + nI j = nI (dy + j) := by rw [h7', nI_add]
        have ev : ∀ f : Nat → Nat → Int32, f w 2 = S' w 2 → f w 2 = v := fun f e => e.trans ((Psn_fr hS hpn').elim (fun w' hw' => by
          obtain ⟨k', f1, f2, f3, f4, f5, f6, f7, f8⟩ := hw'
          rw [g1] at f1
          cases f1
          exact f7))
        have et' : S' (a + 4) (nI (6 * p + q)).toNatClampNeg = t := by rw [nI_clamp (by omega)]; exact ht4'
        have call : ∀ Q', (opn bg la (dy + j) = true → ∀ S2, Fc S' S2 → S2 (a + 10) 1 = v → S2 (a + 10) 2 = nI (dy + j) → S2 (a + 10) 3 = us → S2 (a + 10) 4 = bits4 (fun w => hf (vls (nI p) (nI q) kd v (nI w) (nI (dy + j)))) → S2 (a + 10) 5 = rw ((dy + j) % 4) → Q' (some (.int 1)) n K S2 G P) → (opn bg la (dy + j) = false → Q' (some (.int 0)) n K S' G P) → Ok l L xs T1 (D + 4) jX9_readies 0 [.ref a, .int (nI p), .int (nI q), .int (S' w 2), .int (S' a 7 + nI j)] n K S' G P Q' := by
          intro Q' q1 q0
          rw [ev S' rfl, e7]
          exact m_readies ha hp hq (by omega) ⟨hH', hpn2, hr', hu', hl'⟩ q1 q0
        have words : ∀ Q' S2, Fc S' S2 → S2 (a + 10) 1 = v → S2 (a + 10) 2 = nI (dy + j) → S2 (a + 10) 3 = us → S2 (a + 10) 4 = bits4 (fun w => hf (vls (nI p) (nI q) kd v (nI w) (nI (dy + j)))) → S2 (a + 10) 5 = rw ((dy + j) % 4) → Q' (some (.int (bits4 (fun w => cntK kd v rw (dy + j) w (hf (vls (nI p) (nI q) kd v (nI w) (nI (dy + j)))) (hf (vls (nI p) (nI q) kd v (nI w) (nI (dy + j))) && usB us w))))) n K S2 G P → Ok l L xs T1 (D + 4) (jsel 0 (kcl k)) 0 [.ref w, .ref (a + 10)] n K S2 G P Q' := by
          intro Q' S2 hS2 e1 e2 e3 e4 e5 hQ'
          rw [g3] at hQ' e4
          exact m_words (D := D + 1) g2 g4 ho hvn (by omega) e1 e2 e3 e4 e5 hQ'
        have dyj : dy + j < 2 ^ 31 := by omega
        have nope : opn bg la (dy + j) = false → ¬ twC t (fun us la d w => cnt bg hf (nI p) (nI q) kd v rw us la d w) us la dy j := by
          intro eo hC
          unfold twC at hC
          by_cases c : t = 1
          · rw [if_pos c] at hC
            obtain ⟨w', z1, z2⟩ := hC
            unfold cnt at z2
            dsimp only at z2
            rw [eo] at z2
            cases z2
          · rw [if_neg c] at hC
            obtain ⟨k', w1, z1, z2, z3, w', z4, z5⟩ := hC
            unfold cnt at z5
            dsimp only at z5
            rw [opn_no eo hla (by omega) dyj] at z5
            cases z5
        have fwn : opn bg la (dy + j) = false → fw = bits4 (fwB (fun j w => cnt bg hf (nI p) (nI q) kd v rw us la (dy + j) w) (j + 1)) := by
          intro eo
          rw [hfw]
          refine bits4_ext (fun w _ => ?_)
          show _ = (fwB (fun j w => cnt bg hf (nI p) (nI q) kd v rw us la (dy + j) w) j w || cnt bg hf (nI p) (nI q) kd v rw us la (dy + j) w)
          unfold cnt
          rw [eo, Bool.false_and, Bool.or_false]
        have a102 : opn bg la (dy + j) = true → ∀ S2 wd, Fc S S2 → wd = bits4 (fun w => cntK kd v rw (dy + j) w (hf (vls (nI p) (nI q) kd v (nI w) (nI (dy + j)))) (hf (vls (nI p) (nI q) kd v (nI w) (nI (dy + j))) && usB us w)) → ¬ twC t (fun us la d w => cnt bg hf (nI p) (nI q) kd v rw us la d w) us la dy j → At 102 [.ref a, .int (nI p), .int (nI q), .int (nI (6 * p + q)), .int fw, .int (nI j), .int wd] [] n K S2 G P 0 := by
          intro eo S2 wd hS2 e hC
          refine go [24, 99, 102, 109] 60 _ _ _ _ _ _ _ _ _ ?_
          refine a109 _ _ _ hS2 ?_ hC
          rw [hfw, e]
          refine (bits4_or _ _).trans ?_
          refine bits4_ext (fun w _ => ?_)
          show _ = (fwB (fun j w => cnt bg hf (nI p) (nI q) kd v rw us la (dy + j) w) j w || cnt bg hf (nI p) (nI q) kd v rw us la (dy + j) w)
          conv => rhs; rw [cnt, eo, Bool.true_and]
        have seconds : ∀ Q' S2, opn bg la (dy + j) = true → ¬ t = 1 → Fc S' S2 → S2 (a + 10) 1 = v → S2 (a + 10) 2 = nI (dy + j) → S2 (a + 10) 3 = us → S2 (a + 10) 4 = bits4 (fun w => hf (vls (nI p) (nI q) kd v (nI w) (nI (dy + j)))) → S2 (a + 10) 5 = rw ((dy + j) % 4) → (∀ S3, Fc S S3 → twC t (fun us la d w => cnt bg hf (nI p) (nI q) kd v rw us la d w) us la dy j → Q' (some (.int 1)) n K S3 G P) → (∀ S3, Fc S S3 → ¬ twC t (fun us la d w => cnt bg hf (nI p) (nI q) kd v rw us la d w) us la dy j → Q' (some (.int 0)) n K S3 G P) → Ok l L xs T1 (D + 4) jX9_secondCounts 0 [.ref a, .int (nI p), .int fw] n K S2 G P Q' := by
          intro Q' S2 eo hnt hS2 e1 e2 e3 e4 e5 q1 q0
          refine m_secondCounts (fw := fwB (fun j w => cnt bg hf (nI p) (nI q) kd v rw us la (dy + j) w) j) ha hp hvn (by omega) (Psn_fr hS2 hpn2) hfw e1 e2 e3 e4 e5 (fun S3 hS3 hE => ?_) (fun S3 hS3 hE => ?_)
          · refine q1 S3 ((hS.tr hS2).tr hS3) ?_
            unfold twC
            rw [if_neg hnt]
            obtain ⟨w1, z1, z2, w', z3, z4⟩ := hE
            obtain ⟨k', z5, z6⟩ := (fwB_t _ _ _).mp z2
            refine ⟨k', w1, z5, z1, z6, w', z3, ?_⟩
            show cnt _ _ _ _ _ _ _ _ _ _ _ = true
            unfold cnt
            rw [opn_of eo (by omega) dyj, z4]
            rfl
          · refine q0 S3 ((hS.tr hS2).tr hS3) (fun hC => hE ?_)
            unfold twC at hC
            rw [if_neg hnt] at hC
            obtain ⟨k', w1, z1, z2, z3, w', z4, z5⟩ := hC
            refine ⟨w1, z2, (fwB_t _ _ _).mpr ⟨k', z1, z3⟩, w', z4, ?_⟩
            unfold cnt at z5
            dsimp only at z5
            rw [opn_of eo (by omega) dyj, Bool.true_and] at z5
            exact z5
        have yes1 : opn bg la (dy + j) = true → t = 1 → ¬ bits4 (fun w => cntK kd v rw (dy + j) w (hf (vls (nI p) (nI q) kd v (nI w) (nI (dy + j)))) (hf (vls (nI p) (nI q) kd v (nI w) (nI (dy + j))) && usB us w)) = 0 → twC t (fun us la d w => cnt bg hf (nI p) (nI q) kd v rw us la d w) us la dy j := by
          intro eo e hb
          unfold twC
          rw [if_pos e]
          obtain ⟨w', z1, z2⟩ := bits4_nz _ hb
          refine ⟨w', z1, ?_⟩
          show cnt _ _ _ _ _ _ _ _ _ _ _ = true
          unfold cnt
          rw [eo, z2]
          rfl
        have no1 : opn bg la (dy + j) = true → t = 1 → bits4 (fun w => cntK kd v rw (dy + j) w (hf (vls (nI p) (nI q) kd v (nI w) (nI (dy + j)))) (hf (vls (nI p) (nI q) kd v (nI w) (nI (dy + j))) && usB us w)) = 0 → ¬ twC t (fun us la d w => cnt bg hf (nI p) (nI q) kd v rw us la d w) us la dy j := by
          intro eo e hb hC
          unfold twC at hC
          rw [if_pos e] at hC
          obtain ⟨w', z1, z2⟩ := hC
          unfold cnt at z2
          dsimp only at z2
          rw [eo, (bits4_z _).mp hb w' z1] at z2
          cases z2
        have a4 : scr (a + 4) = false := by rcases ha with rfl | rfl | rfl <;> rfl
        have et2 : ∀ S2, Fc S' S2 → S2 (a + 4) (nI (6 * p + q)).toNatClampNeg = t := fun S2 hS2 => (hS2 _ _ a4).trans et'
        rcases ha with rfl | rfl | rfl <;> (
        refine go [24, 99, 102, 109] 60 _ _ _ _ _ _ _ _ _ ?_
        refine ite_f (by rw [lt_i, t_30, nI_toInt (by omega)]; omega) ?_
        refine ite_t (ixB_nI hp (by decide)) ?_
        refine rf_v hpp ?_
        refine sh_p g4 ?_
        refine kg g2 (by decide) ?_
        refine call _ (fun eo S2 hS2 e1 e2 e3 e4 e5 => ?_) (fun eo => ?_)
        · refine ite_t (ixB_nI hp (by decide)) ?_
          refine rf_v hpp ?_
          refine sh_p g4 ?_
          refine v_go g2 (by decide) rfl ?_
          refine words _ S2 hS2 e1 e2 e3 e4 e5 ?_
          refine ite_t x36 ?_
          refine ite_i (fun c => ?_) (fun c => ?_)
          · have c' := (et2 S2 hS2).symm.trans c
            refine ite_i (fun c2 => ?_) (fun c2 => ?_)
            · exact a102 eo _ _ (hS.tr hS2) rfl (no1 eo c' c2)
            · exact a99 _ _ (hS.tr hS2) (yes1 eo c' c2)
          · have c' : ¬ t = 1 := fun z => c ((et2 S2 hS2).trans z)
            refine seconds _ S2 eo c' hS2 e1 e2 e3 e4 e5 (fun S3 hS3 hC => ?_) (fun S3 hS3 hC => ?_)
            · exact a99 _ _ hS3 hC
            · exact a102 eo _ _ hS3 rfl hC
        · exact a109 _ _ _ hS (fwn eo) (nope eo))
    have start := loop 31 0 0 S 0 (.retAddr 0) rfl rfl (by rw [← bits4_0]; rfl) (Fc.rf S) h
    rcases ha with rfl | rfl | rfl <;> (
    refine go [24] 60 _ _ _ _ _ _ _ _ _ ?_
    refine m_pairN ?_
    refine ite_t x36 ?_
    refine ite_f (fun e => ht (et.symm.trans e)) ?_
    exact start)
end A
end

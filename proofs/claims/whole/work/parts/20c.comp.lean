noncomputable section
/-! THE COMPONENT's constructor, over T0; MuH: the one instruction that makes rows of rows, proved last. -/
def MuH (l : Launch) : Prop := ∀ (p : Program) (e : Env) (R : Room) (s : State) (m : MethodId) (args : Array Value) (below : List Frame) (meth : Method) (c : Code) (E : En) (T : Tb) (D rz mc : Nat) (ini : Bool) (Z : State → Prop) (Q : QT) (nx : PT) (lo st : List Value) (n : Nat) (K : Mk) (S : Mi) (G : Ml) (P : Mr) (cs : Nat), Cx p l e R s m args below meth c E T 69 D rz mc ini Z Q → NX p l e R s m args below meth c E T 69 mc Z nx → i_multi T mc nx 105 lo st n K S G P cs → AtW p l e R s m args below meth c E T 69 mc Z 101 lo st n K S G P cs
theorem Ok_introM {l : Launch} {L : Nat} {xs : Nat → Int32} {T : Tb} {D j c : Nat} {as : List Value} {n : Nat} {K : Mk} {S : Mi} {G : Ml} {P : Mr} {Q : QT} (hM : MuH l) (e69 : j = 69) (hj : j < nMeth) (hc6 : c < 600) (ha : as.all okA = true) (hle : (layv as).length ≤ mL j)
    (h : ∀ At : PT, Walk l L xs T D (tb j) (rzj j) (inij j) c Q At → (∀ (lo st : List Value) (n : Nat) (K : Mk) (S : Mi) (G : Ml) (P : Mr) (cs : Nat), i_multi T c At 105 lo st n K S G P cs → At 101 lo st n K S G P cs) → At 0 (lo0 j as) [] n K S G P 0) : Ok l L xs T (D + 1) j c as n K S G P Q := by
  intro E hL hxs
  have hm := mt_use hj
  refine Met.ofWF (cc := bb j) (maxL := mL j) (ret0 := rt j) hm.1 rfl ?_
  intro p e s m args below meth c₀ s₁ B hml hv
  obtain ⟨rfl, hW, hK, hX, hsz⟩ := hv
  have hts := atoms_spec (ws := wsj j) B.pre
  have hown : s.vm.findClass (cnm (ow j)) = some m.cls := by
    rw [← hm.2.1]
    exact findClass_of_methodNamed B.named
  have C : Cx p l e (headSpec (wsj j) (rmD (D + 1) c)).room s m (as.map (tv E)).toArray below meth c₀ E T j D (rzj j) c (inij j) (MQ below (OkQ E T n c Q) (as.map (tv E)).toArray s c (1000 * c) (aW E)) Q := by
    refine ⟨B.exec, B.bytes, hml, hown, fun w hw => hts w (List.mem_cons_of_mem _ hw), hK, hX, by omega, ⟨Nat.le_refl _, ?_, Nat.le_refl _, Nat.le_refl _⟩, ?_, hj, hm.2.2, ?_⟩
    · show 64 * D + 104 ≤ 64 * (D + 1) + 40
      omega
    · intro hi
      have e1 : (yy j).name = "<init>" := of_decide_eq_true hi
      rw [← e1]
      exact (name_of_methodNamed B.named B.method).1
    · intro r n' K' S' G' P' cs H locs ls pc i hQ hw hS hcs hme hz hi hrz hdg
      have hcs2 : cs = c := by
        have : ¬ 600 ≤ c := by omega
        simp only [Bool.or_eq_true, Nat.ble_eq, Nat.beq_eq] at hme
        omega
      subst hcs2
      have hq : ∀ t : State, t.heap = H → s.WarmedH t.vm → OkQ E T n cs Q (as.map (tv E)).toArray s (.returned (r.map (tv E))) t := by
        intro t ht _
        refine ⟨⟨r, n', K', S', G', P', rfl, by omega, hQ, by rw [ht]; exact hw⟩, ?_, ?_⟩
        · rw [ht]; exact hS.1
        · intro q h1 h2
          rw [ht]
          exact hS.2.1 q h1 h2
      have hf : ∀ q ∈ locs, aW E q.base := hS.2.2
      have hret := B.returns
      have hrr := rz_ret hrz
      cases r with
      | none =>
        have e1 : i = .return_ := hi
        subst e1
        exact W.vret B.exec B.bytes (hret.trans hrr) hq hf hdg
      | some v =>
        cases v with
        | int x =>
          have e1 : i = .ireturn := hi
          subst e1
          obtain ⟨ty, h1, h2⟩ := hrr
          exact W.zret B.exec B.bytes (hret.trans h1) h2 hq hf hdg
        | long x =>
          have e1 : i = .lreturn := hi
          subst e1
          exact W.lret B.exec B.bytes (hret.trans hrr) hq hf hdg
        | ref x =>
          have e1 : i = .areturn := hi
          subst e1
          obtain ⟨ty, h1, h2⟩ := hrr
          exact W.aret B.exec B.bytes (hret.trans h1) h2 (Or.inr ⟨_, rfl⟩) hq hf hdg
        | _ => exact hi.elim
  have hAt := h (AtW p l e (headSpec (wsj j) (rmD (D + 1) c)).room s m (as.map (tv E)).toArray below meth c₀ E T j c (MQ below (OkQ E T n c Q) (as.map (tv E)).toArray s c (1000 * c) (aW E))) (fun stop k pc lo st n K S G P cs h => stp_sound C (fun pc lo st n K S G P cs h => wps_sound C hL hxs k pc lo st n K S G P cs h) hL hxs h) (fun lo st n K S G P cs hm => by
    subst e69
    exact hM _ _ _ _ _ _ _ _ _ _ _ _ _ _ _ _ _ _ _ _ _ _ _ _ _ _ C (fun _ _ _ _ _ _ _ _ _ h => h) hm)
  have haa : ∀ v ∈ as, okA v = true := List.all_eq_true.mp ha
  rw [lg_entry_eq]
  exact hAt s.heap [] _ hW (lh_entry E haa hle) va_S.rf (Nat.zero_le _) (by omega)
def ntL (a i : Nat) : List (Nat × Nat × Nat) → Bool
  | [] => true
  | q :: r => !(Nat.beq q.1 a && Nat.beq q.2.1 i) && ntL a i r
theorem fa_up {P : Mr} {a i : Nat} {x : Option Nat} : ∀ {L : List (Nat × Nat × Nat)}, ntL a i L = true → fa L P → fa L (up2 P a i x)
  | [], _, _ => trivial
  | q :: r, hr, h => by
    unfold ntL at hr
    simp only [Bool.and_eq_true, Bool.not_eq_true', Bool.and_eq_false_iff] at hr
    refine ⟨(up2_o _ _ ?_).trans h.1, fa_up hr.2 h.2⟩
    rcases hr.1 with e | e
    · exact .inl (Nat.ne_of_beq_eq_false e)
    · exact .inr (Nat.ne_of_beq_eq_false e)
def NN (P : Mr) : Prop := P 33 8 = none ∧ (∀ j, P 34 j = none) ∧ ∀ j, P 46 j = none
theorem NN_fr {lo hi : Nat} {P P' : Mr} (f : FrQ lo hi P P') (h : (hi < 33 ∨ 46 < lo)) (hn : NN P) : NN P' := ⟨(f _ _ (by omega)).trans hn.1, fun j => (f _ _ (by omega)).trans (hn.2.1 j), fun j => (f _ _ (by omega)).trans (hn.2.2 j)⟩
def lA : List (Nat × Nat × Nat) := [(32, 10, 73), (73, 0, 74), (32, 9, 72), (32, 8, 71), (32, 6, 70), (32, 4, 69), (32, 2, 57), (32, 1, 45), (32, 0, 33)] ++ (twL 57 ++ (twL 45 ++ twL 33))
def lB : List (Nat × Nat × Nat) := [(32, 13, 83), (32, 12, 82), (32, 11, 75)] ++ lA
def PB (P : Mr) : Prop := fa lB P ∧ NN P ∧ ∀ t, t < 6 → P 75 t = some (76 + t)
def PBi (i : Nat) (P : Mr) : Prop := PB P ∧ ∀ k, k < i → fa (stL (84 + 6 * k)) P ∧ P 70 k = some (84 + 6 * k)
theorem PB_fr {lo hi : Nat} {P P' : Mr} (f : FrQ lo hi P P') (h1 : 84 ≤ lo) (hb : PB P) : PB P' := ⟨fa_fr (lo := 32) (hi := 75) f (by omega) (by decide) hb.1, NN_fr f (by omega) hb.2.1, fun t ht => (f _ _ (by omega)).trans (hb.2.2 t ht)⟩
theorem PB_70 {i : Nat} {x : Option Nat} {P : Mr} (hb : PB P) : PB (up2 P 70 i x) := by
  have nt : ∀ L : List (Nat × Nat × Nat), (L.all fun q => !Nat.beq q.1 70) = true → fa L P → fa L (up2 P 70 i x) := by
    intro L
    induction L with
    | nil => intro _ _; trivial
    | cons q r ih =>
      intro h g
      simp only [List.all_cons, Bool.and_eq_true, Bool.not_eq_true'] at h
      exact ⟨(up2_o _ _ (.inl (Nat.ne_of_beq_eq_false h.1))).trans g.1, ih h.2 g.2⟩
  exact ⟨nt _ (by decide) hb.1, ⟨(up2_o _ _ (by omega)).trans hb.2.1.1, fun j => (up2_o _ _ (by omega)).trans (hb.2.1.2.1 j), fun j => (up2_o _ _ (by omega)).trans (hb.2.1.2.2 j)⟩, fun t ht => (up2_o _ _ (by omega)).trans (hb.2.2 t ht)⟩
theorem fa_70 {i k : Nat} {x : Option Nat} {P : Mr} (h : fa (stL (84 + 6 * k)) P) : fa (stL (84 + 6 * k)) (up2 P 70 i x) := by
  obtain ⟨h1, h2, h3, h4, h5, _⟩ := h
  exact ⟨(up2_o _ _ (by omega)).trans h1, (up2_o _ _ (by omega)).trans h2, (up2_o _ _ (by omega)).trans h3, (up2_o _ _ (by omega)).trans h4, (up2_o _ _ (by omega)).trans h5, trivial⟩
theorem fa_st {k lo hi : Nat} {P P' : Mr} (f : FrQ lo hi P P') (hd : 84 + 6 * k < lo) (h : fa (stL (84 + 6 * k)) P) : fa (stL (84 + 6 * k)) P' := by
  obtain ⟨h1, h2, h3, h4, h5, _⟩ := h
  exact ⟨(f _ _ (by omega)).trans h1, (f _ _ (by omega)).trans h2, (f _ _ (by omega)).trans h3, (f _ _ (by omega)).trans h4, (f _ _ (by omega)).trans h5, trivial⟩
theorem Zg_mu {G : Ml} {a b : Nat} (h : Zg G) : Zg (fun c => if a ≤ c ∧ c < b then fun _ => 0 else G c) := fun c j => by
  show (if a ≤ c ∧ c < b then fun _ => 0 else G c) j = 0
  split
  · rfl
  · exact h c j
theorem FrQ_R {a : Nat} {f : Nat → Option Nat} {P : Mr} : FrQ a a P (upR P a f) := FrQ_uR FrQ_rf (Nat.le_refl _) (Nat.le_refl _)
section A
variable {l : Launch} {L : Nat} {xs : Nat → Int32} {D : Nat} {K : Mk} {S : Mi} {G : Ml} {P : Mr} {Q : QT}
set_option maxRecDepth 20000
theorem t_comp (hM : MuH l) (hz : Zs S) (hg : Zg G) (h : ∀ K' S' G' P', (∀ b j, b ≠ 82 → S' b j = 0) → (∀ t, t < 6 → S' 82 t = -1) → Zg G' → PBi 6 P' → Q none 88 K' S' G' P') : Ok l L xs T0 (D + 3) jX11_init 87 [.ref 32] 1 K S G P Q := by
  refine Ok_introM (j := 69) (c := 87) hM rfl (by decide) (by decide) rfl (Nat.le_of_ble_eq_true rfl) (fun At go mu => ?_)
  have loop2 : ∀ m i vi K' S' G' P', i + m = 6 → vi = nI i → (∀ b j, b ≠ 82 → S' b j = 0) → (∀ t, t < i → S' 82 t = -1) → Zg G' → PBi 6 P' → At 153 [.ref 32, .int vi] [] 88 K' S' G' P' 87 := by
    intro m
    induction m with
    | zero =>
      intro i vi K' S' G' P' hi ev f1 f2 f3 f4
      subst ev
      refine go [153] 40 _ _ _ _ _ _ _ _ _ ?_
      refine ite_t (by rw [le_i, t_6, nI_toInt (by omega)]; omega) ?_
      exact h K' S' G' P' f1 (fun t ht => f2 t (by omega)) f3 f4
    | succ m ih =>
      intro i vi K' S' G' P' hi ev f1 f2 f3 f4
      subst ev
      have e12 : P' 32 12 = some 82 := fa_mem f4.1.1 (32, 12, 82) (by decide)
      have ei : (nI i).toNatClampNeg = i := nI_clamp (by omega)
      have nx : At 153 [.ref 32, .int (nI i + 1)] [] 88 K' (up2 S' 82 i (-1)) G' P' 87 := by
        refine ih (i + 1) _ K' _ G' P' (by omega) (nI_1 i) (fun b j h1 => ?_) (fun t ht => ?_) f3 f4
        · rw [up2_o _ _ (by omega)]; exact f1 b j h1
        · by_cases e : t = i
          · rw [e, up2_s]
          · rw [up2_o _ _ (by omega)]; exact f2 t (by omega)
      have nx' : At 153 [.ref 32, .int (nI i + 1)] [] 88 K' (up2 S' 82 (nI i).toNatClampNeg (-1)) G' P' 87 := by rw [ei]; exact nx
      have a163 : At 163 [.ref 32, .int (nI i)] [.ref 82] 88 K' S' G' P' 87 := by
        refine go [153] 40 _ _ _ _ _ _ _ _ _ ?_
        refine ite_t (ixB_nI (by omega) (by decide)) ?_
        exact nx'
      have e163 : At 163 [.ref 32, .int (nI i)] [va_rf (P' 32 12)] 88 K' S' G' P' 87 := by rw [e12]; exact a163
      refine go [153, 163] 40 _ _ _ _ _ _ _ _ _ ?_
      refine ite_f (by rw [le_i, t_6, nI_toInt (by omega)]; omega) ?_
      exact e163
  have loop1 : ∀ m i vi ni ci K' S' G' P', i + m = 6 → vi = nI i → ni = 52 + 6 * i → ci = 51 + 6 * i → Zs S' → Zg G' → PBi i P' → At 126 [.ref 32, .int vi] [] ni K' S' G' P' ci := by
    intro m
    induction m with
    | zero =>
      intro i vi ni ci K' S' G' P' hi ev en ec f1 f2 f3
      have e6 : i = 6 := by omega
      subst e6 ev en ec
      refine go [126, 153] 40 _ _ _ _ _ _ _ _ _ ?_
      exact loop2 6 0 0 K' S' G' P' rfl rfl (fun b j _ => f1 b j) (fun t ht => absurd ht (Nat.not_lt_zero _)) f2 f3
    | succ m ih =>
      intro i vi ni ci K' S' G' P' hi ev en ec f1 f2 f3
      have e6 : P' 32 6 = some 70 := fa_mem f3.1.1 (32, 6, 70) (by decide)
      have nx : ∀ K2 S2 G2 P2 vj nj cj ij, vj = nI i + 1 → nj = 52 + 6 * (i + 1) → cj = 51 + 6 * (i + 1) → ij = i → Zs S2 → Zg G2 → FrQ (84 + 6 * i) (89 + 6 * i) P' P2 → fa (stL (84 + 6 * i)) P2 → At 126 [.ref 32, .int vj] [] nj K2 S2 G2 (up2 P2 70 ij (some (84 + 6 * i))) cj := by
        intro K2 S2 G2 P2 vj nj cj ij e1 e2 e3 e4 g1 g2 g3 g4
        subst e4
        refine ih (ij + 1) vj nj cj K2 S2 G2 _ (by omega) (e1.trans (nI_1 ij)) e2 e3 g1 g2 ⟨PB_70 (PB_fr g3 (by omega) f3.1), fun k hk => ?_⟩
        by_cases e : k = ij
        · subst e
          exact ⟨fa_70 g4, up2_s _ _ _ _⟩
        · obtain ⟨k1, k2⟩ := f3.2 k (by omega)
          exact ⟨fa_70 (fa_st g3 (by omega) k1), (up2_o _ _ (by omega)).trans ((g3 _ _ (by omega)).trans k2)⟩
      have ei : i = 0 ∨ i = 1 ∨ i = 2 ∨ i = 3 ∨ i = 4 ∨ i = 5 := by omega
      subst ev en ec
      have a136 : At 136 [.ref 32, .int (nI i)] [va_rf (P' 32 6)] (52 + 6 * i) K' S' G' P' (51 + 6 * i) := by
        rw [show va_rf (P' 32 6) = Value.ref 70 by rw [e6]; rfl]
        rcases ei with rfl | rfl | rfl | rfl | rfl | rfl <;> (
        refine go [126] 40 _ _ _ _ _ _ _ _ _ ?_
        refine ⟨5, by decide, ?_⟩
        first
          | refine t_street (k := 0) (by decide) (Zs_uR f1) f2 (fun K2 S2 G2 P2 g1 g2 g3 g4 => ?_)
          | refine t_street (k := 1) (by decide) (Zs_uR f1) f2 (fun K2 S2 G2 P2 g1 g2 g3 g4 => ?_)
          | refine t_street (k := 2) (by decide) (Zs_uR f1) f2 (fun K2 S2 G2 P2 g1 g2 g3 g4 => ?_)
          | refine t_street (k := 3) (by decide) (Zs_uR f1) f2 (fun K2 S2 G2 P2 g1 g2 g3 g4 => ?_)
          | refine t_street (k := 4) (by decide) (Zs_uR f1) f2 (fun K2 S2 G2 P2 g1 g2 g3 g4 => ?_)
          | refine t_street (k := 5) (by decide) (Zs_uR f1) f2 (fun K2 S2 G2 P2 g1 g2 g3 g4 => ?_)
        exact nx K2 S2 G2 P2 _ _ _ _ rfl rfl rfl rfl g1 g2 (FrQ_tr (FrQ_uR FrQ_rf (by decide) (by decide)) g3 (by decide) (by decide)) g4)
      rcases ei with rfl | rfl | rfl | rfl | rfl | rfl <;> (
      refine go [126, 136] 40 _ _ _ _ _ _ _ _ _ ?_
      exact a136)
  have a105 : ∀ K' S' G' P', Zs S' → Zg G' → fa lA P' → NN P' → (∀ t, t < 6 → P' 75 t = some (76 + t)) → At 105 [.ref 32, .retAddr 0] [.ref 75, .ref 32] 50 K' S' G' P' 49 := by
    intro K' S' G' P' f1 f2 f3 f4 f5
    refine go [126] 60 _ _ _ _ _ _ _ _ _ ?_
    refine loop1 6 0 0 _ _ _ _ _ _ rfl rfl rfl rfl ?_ ?_ ⟨⟨⟨rfl, rfl, rfl, ?_⟩, ?_, ?_⟩, fun k hk => absurd hk (Nat.not_lt_zero _)⟩
    · repeat (first | exact f1 | apply Zs_up | apply Zs_uR)
    · repeat (first | exact f2 | apply Zg_uR)
    · exact fa_up (by decide) (fa_up (by decide) (fa_up (by decide) f3))
    · exact ⟨f4.1, f4.2.1, f4.2.2⟩
    · exact f5
  have a101 : ∀ K' S' G' P', Zs S' → Zg G' → fa lA P' → NN P' → At 101 [.ref 32, .retAddr 0] [.int 60, .int 6, .ref 32] 43 K' S' G' P' 42 := by
    intro K' S' G' P' f1 f2 f3 f4
    refine mu _ _ _ _ _ _ _ _ ?_
    show cond (Nat.ble (42 + 7) 87) (if (60 : Int32) = 60 ∧ (6 : Int32) = 6 ∧ shp T0 K' (43 + 32) = .inl (6, 6) ∧ (∀ i, i < 6 → shp T0 K' (43 + 33 + i) = .inl (2, 60)) then At 105 [.ref 32, .retAddr 0] (.ref (43 + 32) :: [.ref 32]) (43 + 7) K' S' (fun b => if 43 + 33 ≤ b ∧ b < 43 + 39 then fun _ => 0 else G' b) (upR P' (43 + 32) (fun j => if j < 6 then some (43 + 33 + j) else none)) (42 + 7) else False) False
    rw [show Nat.ble (42 + 7) 87 = true from rfl, cond_true]
    refine ite_t ⟨rfl, rfl, rfl, fun i hi => ?_⟩ ?_
    · have e : i = 0 ∨ i = 1 ∨ i = 2 ∨ i = 3 ∨ i = 4 ∨ i = 5 := by omega
      rcases e with rfl | rfl | rfl | rfl | rfl | rfl <;> rfl
    · refine a105 _ _ _ _ f1 (Zg_mu f2) (fa_fr (lo := 32) (hi := 74) (lo' := 75) (hi' := 75) FrQ_R (by decide) (by decide) f3) ⟨f4.1, f4.2.1, f4.2.2⟩ (fun t ht => ?_)
      show upR P' 75 _ 75 t = _
      rw [upR_self]
      exact if_pos ht
  have aT : ∀ K' S' G' P', Zs S' → Zg G' → fa ([(32, 2, 57), (32, 1, 45), (32, 0, 33)] ++ (twL 57 ++ (twL 45 ++ twL 33))) P' → NN P' → At 37 [.ref 32, .retAddr 0] [] 37 K' S' G' P' 36 := by
    intro K' S' G' P' f1 f2 f3 f4
    refine go [101] 90 _ _ _ _ _ _ _ _ _ ?_
    refine ⟨1, by decide, ?_⟩
    refine t_trace ?_ ?_ (fun K2 S2 G2 P2 g1 g2 g3 g4 => ?_)
    · repeat (first | exact f1 | apply Zs_up | apply Zs_uR)
    · repeat (first | exact f2 | apply Zg_uR)
    · refine a101 _ _ _ _ g1 g2 ⟨rfl, (up2_o _ _ (by decide)).trans g4, (up2_o _ _ (by decide)).trans ((g3 _ _ (by decide)).trans rfl), (up2_o _ _ (by decide)).trans ((g3 _ _ (by decide)).trans rfl), (up2_o _ _ (by decide)).trans ((g3 _ _ (by decide)).trans rfl), (up2_o _ _ (by decide)).trans ((g3 _ _ (by decide)).trans rfl), ?_⟩ ?_
      · refine fa_up (a := 32) (i := 10) (by decide) (fa_fr (lo := 32) (hi := 68) g3 (by decide) (by decide) (fa_fr (lo := 32) (hi := 68) (lo' := 73) (hi' := 73) FrQ_R (by decide) (by decide) ?_))
        refine fa_up (a := 32) (i := 9) (by decide) (fa_up (a := 32) (i := 8) (by decide) (fa_up (a := 32) (i := 6) (by decide) (fa_fr (lo := 32) (hi := 68) (lo' := 70) (hi' := 70) FrQ_R (by decide) (by decide) ?_)))
        exact fa_up (a := 32) (i := 4) (by decide) f3
      · exact ⟨(up2_o _ _ (by decide)).trans ((g3 _ _ (by decide)).trans f4.1), fun j => (up2_o _ _ (.inl (by decide))).trans ((g3 _ _ (by decide)).trans (f4.2.1 j)), fun j => (up2_o _ _ (.inl (by decide))).trans ((g3 _ _ (by decide)).trans (f4.2.2 j))⟩
  refine go [37] 90 _ _ _ _ _ _ _ _ _ ?_
  refine ⟨11, by decide, ?_⟩
  refine t_town (by decide) (Zs_uR hz) hg (fun K1 S1 G1 P1 z1 y1 f1 l1 h1 w1 => ?_)
  refine ⟨11, by decide, ?_⟩
  refine t_town (by decide) (Zs_uR z1) y1 (fun K2 S2 G2 P2 z2 y2 f2 l2 h2 w2 => ?_)
  refine ⟨11, by decide, ?_⟩
  refine t_town (by decide) (Zs_uR z2) y2 (fun K3 S3 G3 P3 z3 y3 f3 l3 h3 w3 => ?_)
  have m1 : fa (twL 33) P1 := l1
  have m2 : fa (twL 45) P2 := l2
  have m3 : fa (twL 57) P3 := l3
  have fin : ∀ Pf, Pf = up2 P3 32 2 (some 57) → fa ([(32, 2, 57), (32, 1, 45), (32, 0, 33)] ++ (twL 57 ++ (twL 45 ++ twL 33))) Pf ∧ NN Pf := by
    intro Pf e
    subst e
    have k3 : fa (twL 57) (up2 P3 32 2 (some 57)) := fa_up (by decide) m3
    have k2 : fa (twL 45) (up2 P3 32 2 (some 57)) := fa_up (by decide) (fa_fr (lo := 45) (hi := 55) f3 (by decide) (by decide) (fa_fr (lo := 45) (hi := 55) (lo' := 57) (hi' := 57) FrQ_R (by decide) (by decide) (fa_up (a := 32) (i := 1) (by decide) m2)))
    have k1 : fa (twL 33) (up2 P3 32 2 (some 57)) := fa_up (by decide) (fa_fr (lo := 33) (hi := 43) f3 (by decide) (by decide) (fa_fr (lo := 33) (hi := 43) (lo' := 57) (hi' := 57) FrQ_R (by decide) (by decide) (fa_up (a := 32) (i := 1) (by decide) (fa_fr (lo := 33) (hi := 43) f2 (by decide) (by decide) (fa_fr (lo := 33) (hi := 43) (lo' := 45) (hi' := 45) FrQ_R (by decide) (by decide) (fa_up (a := 32) (i := 0) (by decide) m1))))))
    refine ⟨fa_app (L := [(32, 2, 57), (32, 1, 45), (32, 0, 33)]) ⟨rfl, (up2_o _ _ (by decide)).trans ((f3 _ _ (by decide)).trans rfl), (up2_o _ _ (by decide)).trans ((f3 _ _ (by decide)).trans ((f2 _ _ (by decide)).trans rfl)), trivial⟩ (fa_app k3 (fa_app k2 k1)), ?_⟩
    exact ⟨(up2_o _ _ (by decide)).trans ((f3 _ _ (by decide)).trans ((f2 _ _ (by decide)).trans h1)), fun j => (up2_o _ _ (.inl (by decide))).trans ((f3 _ _ (by decide)).trans ((f2 _ _ (by decide)).trans (w1 j))), fun j => (up2_o _ _ (.inl (by decide))).trans ((f3 _ _ (by decide)).trans (w2 j))⟩
  exact aT _ _ _ _ z3 y3 (fin _ rfl).1 (fin _ rfl).2
end A
end

noncomputable section
/-! A METHOD's CONTRACT out of the calculus alone. -/
theorem Met.ofWF {y : MethodName} {ws ws' : List Cond} {rm : Room} {Pc : Array Value → State → Prop} {Qc : Array Value → State → Outcome → State → Prop} {mc ms : Nat} {free : Addr → Prop} {l : Launch} {cc : ByteArray} {maxL : Nat} {ret0 : Option FieldType}
    (hy : plainFor y = true) (hw : ws = Cond.code y cc maxL ret0 :: ws')
    (body : ∀ p e s m args below meth c s₁, BodyLoose p l y (headSpec ws rm) cc maxL ret0 e s m args below meth c s₁ → c.maxLocals = maxL → Pc args s →
      W p l e (headSpec ws rm).room s m args below meth c s.heap [] 0 0 (MQ below Qc args s mc ms free) (entryFrame m args maxL)) : Met l y ws rm Pc Qc mc ms free := by
  refine MetFree.of_bodySF (code := cc) (maxLocals := maxL) (ret := ret0) hy ?_ ?_
  · intro args s m h hn
    obtain ⟨meth, c, h1, h2, h3, h4, h5, h6, -, -⟩ := Cond.code_spec hn (atoms_spec (ws := ws) h _ (by rw [hw]; exact List.mem_cons_self))
    exact ⟨meth, c, h1, h2, h3, h4, h5, h6⟩
  · intro p e s m args below meth c s₁ B hml hP _
    obtain ⟨t, a1, o, b1, b2, b3⟩ := body p e s m args below meth c s₁ B hml hP s₁ (by rw [B.state]; rfl) (Stand.of_body B)
    exact ⟨t, o, a1, b1, b2, ⟨b3.1, b3.2⟩⟩
def rzj (j : Nat) : Nat := match rt j with
  | none => 6
  | some .int => 0
  | some .boolean => 1
  | some .char => 2
  | some .byte => 3
  | some .long => 4
  | some (.object _) => 5
  | some (.array _) => 5
  | _ => 9
def inij (j : Nat) : Bool := decide ((yy j).name = "<init>")
theorem mt_ok : (List.range nMeth).all (fun j => plainFor (yy j) && decide ((yy j).cls = cnm (ow j)) && decide (ow j < 19)) = true := by decide +kernel
theorem mt_use {j : Nat} (h : j < nMeth) : plainFor (yy j) = true ∧ (yy j).cls = cnm (ow j) ∧ ow j < 19 := by
  have := List.all_eq_true.mp mt_ok j (List.mem_range.mpr h)
  simp only [Bool.and_eq_true, decide_eq_true_eq] at this
  exact ⟨this.1.1, this.1.2, this.2⟩
def okA : Value → Bool
  | .double _ => false
  | _ => true
theorem layv_cons {v : Value} {r : List Value} (h : okA v = true) : (v.category = 2 ∧ layv (v :: r) = v :: .retAddr 0 :: layv r) ∨ (v.category = 1 ∧ layv (v :: r) = v :: layv r) := by
  cases v with
  | double x => cases h
  | long x => exact Or.inl ⟨rfl, rfl⟩
  | _ => exact Or.inr ⟨rfl, rfl⟩
theorem lg_len (E : En) : ∀ (as : List Value), (∀ v ∈ as, okA v = true) → (lg_sl (as.map (tv E))).length = (layv as).length
  | [], _ => rfl
  | v :: r, h => by
    have ih := lg_len E r (fun x hx => h x (List.mem_cons_of_mem _ hx))
    have hc := tv_cat E v
    rcases layv_cons (r := r) (h v List.mem_cons_self) with ⟨h1, h2⟩ | ⟨h1, h2⟩
    · rw [h2]
      simp only [List.map_cons, lg_sl, List.flatMap_cons, hc, h1, if_true] at ih ⊢
      simp only [List.length_append, List.length_cons, List.length_nil]
      rw [ih]
      omega
    · rw [h2]
      simp only [List.map_cons, lg_sl, List.flatMap_cons, hc, h1] at ih ⊢
      rw [if_neg (by decide), List.length_append, ih]
      simp only [List.length_cons, List.length_nil]
      omega
theorem lay_arg (E : En) : ∀ (as : List Value) (i0 i : Nat) (v : Value), (∀ v ∈ as, okA v = true) → (layv as)[i]? = some v → kn v = true → (i0 + i, tv E v) ∈ lv_args i0 (as.map (tv E))
  | [], i0, i, v, _, h, _ => by simp [layv] at h
  | w :: r, i0, i, v, ha, h, hk => by
    have hr := fun x hx => ha x (List.mem_cons_of_mem _ hx)
    have hc := tv_cat E w
    rcases layv_cons (r := r) (ha w List.mem_cons_self) with ⟨h1, h2⟩ | ⟨h1, h2⟩
    · rw [h2] at h
      match i, h with
      | 0, h =>
        simp only [List.getElem?_cons_zero, Option.some.injEq] at h
        subst h
        exact List.mem_cons_self
      | 1, h =>
        simp only [List.getElem?_cons_succ, List.getElem?_cons_zero, Option.some.injEq] at h
        subst h
        cases hk
      | i + 2, h =>
        simp only [List.getElem?_cons_succ] at h
        have := lay_arg E r (i0 + 2) i v hr h hk
        refine List.mem_cons_of_mem _ ?_
        rw [hc, if_pos h1, show i0 + (i + 2) = i0 + 2 + i by omega]
        exact this
    · rw [h2] at h
      match i, h with
      | 0, h =>
        simp only [List.getElem?_cons_zero, Option.some.injEq] at h
        subst h
        exact List.mem_cons_self
      | i + 1, h =>
        simp only [List.getElem?_cons_succ] at h
        have := lay_arg E r (i0 + 1) i v hr h hk
        refine List.mem_cons_of_mem _ ?_
        rw [hc, if_neg (by omega), show i0 + (i + 1) = i0 + 1 + i by omega]
        exact this
def lo0 (j : Nat) (as : List Value) : List Value := layv as ++ List.replicate (mL j - (layv as).length) (.retAddr 0)
theorem lh_entry (E : En) {j : Nat} {as : List Value} (ha : ∀ v ∈ as, okA v = true) (hle : (layv as).length ≤ mL j) : lh E ((lg_sl (as.map (tv E)) ++ List.replicate (mL j - (lg_sl (as.map (tv E))).length) Slot.unset).toArray) (mL j) (lo0 j as) := by
  have hlen := lg_len E as ha
  have h := lv_entry (as.map (tv E)) (n := mL j) (by rw [hlen]; exact hle)
  refine ⟨h.1, by unfold lo0; rw [List.length_append, List.length_replicate]; omega, h.2.1, fun i v hv hk => ?_⟩
  unfold lo0 at hv
  by_cases hi : i < (layv as).length
  · rw [List.getElem?_append_left hi] at hv
    have := lay_arg E as 0 i v ha hv hk
    rw [Nat.zero_add] at this
    exact h.2.2 _ this
  · rw [List.getElem?_append_right (by omega), List.getElem?_replicate] at hv
    split at hv
    · cases hv
      cases hk
    · cases hv
/-- what a method's own walk may use: At holds where k instructions lead to what they ask -/
abbrev Walk (l : Launch) (L : Nat) (xs : Nat → Int32) (T : Tb) (D : Nat) (tab : Tab) (rz : Nat) (ini : Bool) (mc : Nat) (Q : QT) (At : PT) : Prop := ∀ (stop : List Nat) (k : Nat) (pc : Nat) (lo st : List Value) (n : Nat) (K : Mk) (S : Mi) (G : Ml) (P : Mr) (cs : Nat), stp T L xs tab rz ini mc (Ok l L xs T D) Q (wps T L xs tab rz ini mc (Ok l L xs T D) Q At stop k) pc lo st n K S G P cs → At pc lo st n K S G P cs
theorem rz_ret {j : Nat} {r : Option Value} (h : rzOk (rzj j) r) : match r with
    | none => rt j = none
    | some (.int x) => ∃ ty, rt j = some ty ∧ narrow ty (.int x) = .int x
    | some (.long _) => rt j = some .long
    | some (.ref _) => ∃ ty, rt j = some ty ∧ ((∃ n, ty = .object n) ∨ ∃ t, ty = .array t)
    | _ => False := by
  unfold rzj at h
  cases hr : rt j with
  | none =>
    rw [hr] at h
    cases r with
    | none => rfl
    | some v => cases v <;> first | exact h.elim | (simp [rzOk] at h)
  | some ty =>
    rw [hr] at h
    cases r with
    | none => cases ty <;> simp [rzOk] at h
    | some v =>
      cases v with
      | int x => cases ty <;> first | exact ⟨_, rfl, rfl⟩ | exact ⟨_, rfl, h⟩ | exact h.elim
      | long x => cases ty <;> first | rfl | (simp [rzOk] at h)
      | ref x => cases ty <;> first | exact ⟨_, rfl, Or.inl ⟨_, rfl⟩⟩ | exact ⟨_, rfl, Or.inr ⟨_, rfl⟩⟩ | (simp [rzOk] at h)
      | _ => exact h.elim
theorem Ok_intro {l : Launch} {L : Nat} {xs : Nat → Int32} {T : Tb} {D j c : Nat} {as : List Value} {n : Nat} {K : Mk} {S : Mi} {G : Ml} {P : Mr} {Q : QT} (hj : j < nMeth) (hc6 : c < 600) (ha : as.all okA = true) (hle : (layv as).length ≤ mL j)
    (h : ∀ At : PT, Walk l L xs T D (tb j) (rzj j) (inij j) c Q At → At 0 (lo0 j as) [] n K S G P 0) : Ok l L xs T (D + 1) j c as n K S G P Q := by
  intro E hL hxs
  have hm := mt_use hj
  refine Met.ofWF (cc := bb j) (maxL := mL j) (ret0 := rt j) hm.1 rfl ?_
  intro p e s m args below meth c₀ s₁ B hml hv
  obtain ⟨rfl, hW, hK, hX, hsz⟩ := hv
  have hts := atoms_spec (ws := wsj j) B.pre
  have hown : s.vm.findClass (cnm (ow j)) = some m.cls := by
    rw [← hm.2.1]
    exact findClass_of_methodNamed B.named
  have C : Cx p l e (headSpec (wsj j) (rmD (D + 1) c)).room s m (as.map (tv E)).toArray below meth c₀ E T j D (rzj j) c (inij j) (MQ below (OkQ E T n c Q) (as.map (tv E)).toArray s c (1000 * c) (aW E)) Q := by
    refine ⟨B.exec, B.bytes, hml, hown, fun w hw => hts w (List.mem_cons_of_mem _ hw), hK, hX, by omega, ⟨Nat.le_refl _, ?_, Nat.le_refl _, Nat.le_refl _⟩, ?_, hj, hm.2.2, ?_⟩
    · show 64 * D + 104 ≤ 64 * (D + 1) + 40
      omega
    · intro hi
      have e1 : (yy j).name = "<init>" := of_decide_eq_true hi
      rw [← e1]
      exact (name_of_methodNamed B.named B.method).1
    · intro r n' K' S' G' P' cs H locs ls pc i hQ hw hS hcs hme hz hi hrz hdg
      have hcs2 : cs = c := by
        have : ¬ 600 ≤ c := by omega
        simp only [Bool.or_eq_true, Nat.ble_eq, Nat.beq_eq] at hme
        omega
      subst hcs2
      have hq : ∀ t : State, t.heap = H → s.WarmedH t.vm → OkQ E T n cs Q (as.map (tv E)).toArray s (.returned (r.map (tv E))) t := by
        intro t ht _
        refine ⟨⟨r, n', K', S', G', P', rfl, by omega, hQ, by rw [ht]; exact hw⟩, ?_, ?_⟩
        · rw [ht]; exact hS.1
        · intro q h1 h2
          rw [ht]
          exact hS.2.1 q h1 h2
      have hf : ∀ q ∈ locs, aW E q.base := hS.2.2
      have hlocks := B.notSynchronized
      have hret := B.returns
      have hrr := rz_ret hrz
      cases r with
      | none =>
        have e1 : i = .return_ := hi
        subst e1
        exact W.vret B.exec B.bytes (hret.trans hrr) hq hf hdg
      | some v =>
        cases v with
        | int x =>
          have e1 : i = .ireturn := hi
          subst e1
          obtain ⟨ty, h1, h2⟩ := hrr
          exact W.zret B.exec B.bytes (hret.trans h1) h2 hq hf hdg
        | long x =>
          have e1 : i = .lreturn := hi
          subst e1
          exact W.lret B.exec B.bytes (hret.trans hrr) hq hf hdg
        | ref x =>
          have e1 : i = .areturn := hi
          subst e1
          obtain ⟨ty, h1, h2⟩ := hrr
          exact W.aret B.exec B.bytes (hret.trans h1) h2 (Or.inr ⟨_, rfl⟩) hq hf hdg
        | _ => exact hi.elim
  have hAt := h (AtW p l e (headSpec (wsj j) (rmD (D + 1) c)).room s m (as.map (tv E)).toArray below meth c₀ E T j c (MQ below (OkQ E T n c Q) (as.map (tv E)).toArray s c (1000 * c) (aW E))) (fun stop k pc lo st n K S G P cs h => stp_sound C (fun pc lo st n K S G P cs h => wps_sound C hL hxs k pc lo st n K S G P cs h) hL hxs h)
  have haa : ∀ v ∈ as, okA v = true := List.all_eq_true.mp ha
  rw [lg_entry_eq]
  exact hAt s.heap [] _ hW (lh_entry E haa hle) va_S.rf (Nat.zero_le _) (by omega)
end

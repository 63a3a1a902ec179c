noncomputable section
/-! SOUNDNESS of calls: a callee's contract is 'Ok'. -/
def Wd (E : En) (T : Tb) (n : Nat) (K : Mk) (S : Mi) (G : Ml) (P : Mr) (U : State) : Prop := Wh E T n K S G P U.heap ∧ va_K (gG E) vwC (tysE E) U ∧ Ext E U U.heap ∧ U.heap.size = gB E + n
def wsj (j : Nat) : List Cond := cdw j :: gtbl
def OkQ (E : En) (T : Tb) (n c : Nat) (Q : QT) : Array Value → State → Outcome → State → Prop := fun _ st o t => (∃ (r : Option Value) (n' : Nat) (K' : Mk) (S' : Mi) (G' : Ml) (P' : Mr), o = .returned (r.map (tv E)) ∧ n' = n + c ∧ Q r n' K' S' G' P' ∧ Wh E T n' K' S' G' P' t.heap) ∧ va_F (aW E) st t
/-- method j, from this state of the calculus, with these arguments, comes back, making c cells, with Q -/
def Ok (l : Launch) (L : Nat) (xs : Nat → Int32) (T : Tb) (D j c : Nat) (as : List Value) (n : Nat) (K : Mk) (S : Mi) (G : Ml) (P : Mr) (Q : QT) : Prop :=
  ∀ E : En, gL E = L → gS E = xs → Met l (yy j) (wsj j) (rmD D c) (va_Pc (as.map (tv E)) (Wd E T n K S G P)) (OkQ E T n c Q) c (1000 * c) (aW E)
theorem gt_good : ∀ w ∈ gtbl, (w.onTables && w.keeps) = true ∨ ∃ ty, w = .arrayClass ty := fun w h => good_of_word (List.mem_filter.mp h).2
theorem wsj_in {j : Nat} (h : cdw j ∈ gtbl) : GoodIn gtbl (wsj j) := fun w hw => by
  rcases List.mem_cons.mp hw with e | e
  · rw [e]; exact ⟨h, gt_good _ h⟩
  · exact ⟨e, gt_good _ e⟩
theorem mL_le : (List.range nMeth).all (fun j => decide (mL j ≤ 45) && decide ((yy j).cls ≠ "java/lang/invoke/MethodHandle" ∧ (yy j).cls ≠ "java/lang/invoke/VarHandle")) = true := by decide +kernel
theorem mL_use {j : Nat} (h : j < nMeth) : mL j ≤ 45 ∧ (yy j).cls ≠ "java/lang/invoke/MethodHandle" ∧ (yy j).cls ≠ "java/lang/invoke/VarHandle" := by
  have := List.all_eq_true.mp mL_le j (List.mem_range.mpr h)
  simp only [Bool.and_eq_true, decide_eq_true_eq] at this
  exact this
/-- what the tables say of a call's entry -/
def callP (r : Rs) : Bool := match r.1 with
  | 1 => decide (r.2.1 < nMeth) && decide ((parseMethodDescriptor (yy r.2.1).desc).map (fun d => d.parameters.length) = some r.2.2.1)
  | 2 => decide (r.2.1 < nMeth) && decide ((parseMethodDescriptor (yy r.2.1).desc).map (fun d => d.parameters.length) = some r.2.2.1) && decide (r.2.2.2.1 < 19) && decide (cnm r.2.2.2.1 = (yy r.2.1).cls)
  | 3 => (pers.filter (fun ci => isSub ci (xnm r.2.2.2.1).1)).all (fun ci => decide (jsel r.2.1 ci < nMeth)) && decide ((parseMethodDescriptor (xN r.2.2.2.1).desc).map (fun d => d.parameters.length) = some r.2.2.1) && decide (yy (jsel r.2.1 4) = ⟨"RefusedTwice$One", (xN r.2.2.2.1).name, (xN r.2.2.2.1).desc⟩)
  | 4 => decide (r.2.1 < nMeth) && decide ((parseMethodDescriptor (yy r.2.1).desc).map (fun d => d.parameters.length) = some r.2.2.1) && decide ((yy r.2.1).name = "<init>") && decide (rt r.2.1 = none)
  | 6 => decide (r.2.1 < nMeth) && decide ((parseMethodDescriptor (yy r.2.1).desc).map (fun d => d.parameters.length) = some r.2.2.1) && decide ((yy r.2.1).name ≠ "<init>")
  | _ => true
theorem callP_ok : (List.range 19).all (fun o => (plo o).all (fun q => callP q.2.1)) = true := by decide +kernel
theorem callP_use {o i : Nat} {r : Rs} (ho : o < 19) (hp : poolIn o i r = true) : callP r = true := by
  obtain ⟨q, hq, h1⟩ := List.any_eq_true.mp hp
  simp only [Bool.and_eq_true, decide_eq_true_eq] at h1
  have h2 := List.all_eq_true.mp (List.all_eq_true.mp callP_ok o (List.mem_range.mpr ho)) q hq
  rw [h1.2] at h2
  exact h2
theorem tkA_spec : ∀ (n : Nat) (acc st : List Value) (k : List Value → List Value → Prop), tkA n acc st k → ∃ as q, k as q ∧ as.length = acc.length + n ∧ acc.reverse ++ st = as.reverse ++ q
  | 0, acc, st, k, h => ⟨acc, st, h, rfl, rfl⟩
  | n + 1, acc, [], k, h => h.elim
  | n + 1, acc, v :: st, k, h => by
    obtain ⟨as, q, h1, h2, h3⟩ := tkA_spec n (v :: acc) st k h
    refine ⟨as, q, h1, by simp at h2; omega, ?_⟩
    rw [← h3]
    simp
section A
variable {p : Program} {l : Launch} {e : Env} {R : Room} {s : State} {m : MethodId} {args : Array Value} {below : List Frame} {meth : Method} {c : Code} {E : En} {T : Tb} {j D rz mc : Nat} {ini : Bool} {Z : State → Prop} {Q : QT} {nx : PT}
variable {pc nt : Nat} {lo st : List Value} {n : Nat} {K : Mk} {S : Mi} {G : Ml} {P : Mr} {cs : Nat}
theorem s_copy {i : Nat} {r : Rs} (C : Cx p l e R s m args below meth c E T j D rz mc ini Z Q) (hN : NX p l e R s m args below meth c E T j mc Z nx) (hd : decode (bb j) pc = .ok (.invokestatic i, 3)) (hp : poolIn (ow j) i r = true) (hr : r.1 = 16) (h : i_copy T nx (pc + 3) lo st n K S G P cs) : AtW p l e R s m args below meth c E T j mc Z pc lo st n K S G P cs := by
  intro H locs ls hw hl hS hc hz
  obtain ⟨tg, r2, r3, r4, r5⟩ := r
  simp only at hr
  subst hr
  have w1 := C.word hp (w := .methodLink (cnm (ow j)) i arraycopyName) List.mem_cons_self rfl
  have w2 := C.word hp (w := .native arraycopyName) (List.mem_cons_of_mem _ List.mem_cons_self) rfl
  have w3 := C.word hp (w := .static arraycopyName) (List.mem_cons_of_mem _ (List.mem_cons_of_mem _ List.mem_cons_self)) rfl
  have w4 := C.word hp (w := .initialized "java/lang/System") (List.mem_cons_of_mem _ (List.mem_cons_of_mem _ (List.mem_cons_of_mem _ List.mem_cons_self))) rfl
  have hml : c.maxLocals = ls.size := C.2.2.1.trans hl.1.symm
  have hrm := C.2.2.2.2.2.2.2.2.1
  have hnw : nativeFrameWords "java/lang/System" "arraycopy" 5 + 11 ≤ 90 := by decide
  unfold i_copy at h
  split at h
  · rename_i ln dp b sp a q
    replace h := cT h
    obtain ⟨h0, h⟩ := h
    have hsc : ((q.map (tv E)).map fun v => v.category).sum ≤ 8 := by rw [tv_scat]; exact Nat.ble_eq.mp h0
    have hlo : ((q.map (tv E)).map fun v => v.category).sum + (nativeFrameWords "java/lang/System" "arraycopy" 5 + 11) ≤ R.locals := by omega
    have hfr : 1 ≤ R.frames := by omega
    split at h
    · rename_i n0 n1 ha hb
      obtain ⟨hcp, h⟩ := h
      obtain ⟨g1, g2, g3, g4, g5⟩ := cl_len hcp
      refine va_copyi (ty := .int) C.1 C.2.1 hml C.2.2.2.1 w1 w2 w3 w4 C.2.2.2.2.2.1 hw.2 (wsl_D E T n K S G P) hS (a - 32) (b - 32) 0 0 (hw.cell ha) (hw.cell hb) (tysE_at E (by decide)) (tysE_at E (by decide)) rfl g1 g2 g3 g4 g5 (fun _ _ => rfl) hfr hlo hd (fun H1 locs1 hP1 _ hS1 => ?_)
      exact hN _ _ _ _ _ _ _ _ _ h H1 locs1 ls (upd_core hw hb (fun b' hb' => upR_ne S _ hb') (fun _ _ => rfl) (fun _ _ => rfl) (by rw [upR_self]; rfl) hP1) hl hS1 hc hz
    · rename_i n0 n1 ha hb
      obtain ⟨hcp, hft, h⟩ := h
      obtain ⟨g1, g2, g3, g4, g5⟩ := cl_len hcp
      refine va_copyi (ty := .byte) C.1 C.2.1 hml C.2.2.2.1 w1 w2 w3 w4 C.2.2.2.2.2.1 hw.2 (wsl_D E T n K S G P) hS (a - 32) (b - 32) 1 1 (hw.cell ha) (hw.cell hb) (tysE_at E (by decide)) (tysE_at E (by decide)) rfl g1 g2 g3 g4 g5 hft hfr hlo hd (fun H1 locs1 hP1 _ hS1 => ?_)
      exact hN _ _ _ _ _ _ _ _ _ h H1 locs1 ls (upd_core hw hb (fun b' hb' => upR_ne S _ hb') (fun _ _ => rfl) (fun _ _ => rfl) (by rw [upR_self]; rfl) hP1) hl hS1 hc hz
    · rename_i n0 n1 ha hb
      obtain ⟨hcp, h⟩ := h
      obtain ⟨g1, g2, g3, g4, g5⟩ := cl_len hcp
      refine va_copyl (ty := .long) C.1 C.2.1 hml C.2.2.2.1 w1 w2 w3 w4 C.2.2.2.2.2.1 hw.2 (wsl_D E T n K S G P) hS (a - 32) (b - 32) 2 2 (hw.cell ha) (hw.cell hb) (tysE_at E (by decide)) (tysE_at E (by decide)) rfl g1 g2 g3 g4 g5 (fun _ _ => rfl) hfr hlo hd (fun H1 locs1 hP1 _ hS1 => ?_)
      exact hN _ _ _ _ _ _ _ _ _ h H1 locs1 ls (upd_core hw hb (fun _ _ => rfl) (fun b' hb' => upR_ne G _ hb') (fun _ _ => rfl) (by rw [upR_self]; rfl) hP1) hl hS1 hc hz
    · exact h.elim
  · exact h.elim
theorem pre_of (C : Cx p l e R s m args below meth c E T j D rz mc ini Z Q) {H : Heap} {locs : List Loc} (hw : Wh E T n K S G P H) (hS : va_S (aW E) s.heap H locs) (hsz : H.size = gB E + n) : ∀ U : State, U.heap = H → s.WarmedH U.vm → Wd E T n K S G P U := by
  intro U hU hW
  refine ⟨by rw [hU]; exact hw, va_K.moved hW.alike C.2.2.2.2.2.1, ?_, by rw [hU]; exact hsz⟩
  rw [hU]
  exact Ext.moved hW (fun a h1 h2 => hS.2.1 a h1 h2) hS.1 C.2.2.2.2.2.2.1
theorem blind (av : List Value) : FrameBlind (va_Pc av (Wd E T n K S G P)) := by
  intro a U g mk h
  obtain ⟨h0, h1, h2, h3, h4⟩ := h
  exact ⟨h0, h1, va_K.moved (u := U) (U := U.calling g mk a) (Vm.Alike.refl U.vm) h2, Ext.moved (s := U) (U := U.calling g mk a) (State.WarmedH.refl U) (fun _ _ _ => rfl) (Nat.le_refl _) h3, h4⟩
theorem call_go {H : Heap} {locs : List Loc} {ls : Array Slot} {c' rk : Nat} {q st0 : List Value} {a : Array Value} (C : Cx p l e R s m args below meth c E T j D rz mc ini Z Q) (hN : NX p l e R s m args below meth c E T j mc Z nx) (hl : lh E ls (mL j) lo) (hS : va_S (aW E) s.heap H locs) (hc : cs + c' ≤ mc) (hz : s.heap.size + cs = gB E + n) (hr : va_Run p l e R s m args below meth c H locs cs (1000 * cs) c' (1000 * c') (F0 m pc ls st0) (q.map (tv E)) (OkQ E T n c' (rgo rk nx (pc + 3) lo q (cs + c')) a) (aW E)) : W p l e R s m args below meth c H locs cs (1000 * cs) Z (F0 m pc ls st0) := by
  intro T0 hT X
  obtain ⟨v, st₀, t, T', L', h0, X', hL, e1, e2, ⟨⟨r, n', K', S', G', P', ho, hn', hQ, hw'⟩, hF⟩, hgo⟩ := hr T0 hT X
  have hv : v = r.map (tv E) := by
    injection ho
  subst hv
  subst hn'
  have hF1 := hF.1
  have hF2 := hF.2
  rw [h0] at hF1 hF2
  have hS' : va_S (aW E) s.heap T'.heap (locs ++ L') := by
    refine ⟨Nat.le_trans hS.1 (by rw [e1]; exact hF1), fun x h1 h2 => ?_, fun x hx => ?_⟩
    · rw [e1, hF2 x (Nat.lt_of_lt_of_le h1 hS.1) h2]
      exact hS.2.1 x h1 h2
    · rcases List.mem_append.mp hx with g | g
      · exact hS.2.2 x g
      · exact hL x g
  rw [show 1000 * cs + 1000 * c' = 1000 * (cs + c') by omega] at X'
  rw [← e1] at hw'
  have hz' : s.heap.size + (cs + c') = gB E + (n + c') := by omega
  unfold rgo at hQ
  split at hQ
  · obtain ⟨t2, a1, b1⟩ := hN _ _ _ _ _ _ _ _ _ hQ T'.heap (locs ++ L') ls hw' hl hS' hc hz' T' rfl X'
    exact ⟨t2, hgo t2 a1, b1⟩
  · obtain ⟨t2, a1, b1⟩ := hN _ _ _ _ _ _ _ _ _ hQ T'.heap (locs ++ L') ls hw' hl hS' hc hz' T' rfl X'
    exact ⟨t2, hgo t2 a1, b1⟩
  · obtain ⟨t2, a1, b1⟩ := hN _ _ _ _ _ _ _ _ _ hQ T'.heap (locs ++ L') ls hw' hl hS' hc hz' T' rfl X'
    exact ⟨t2, hgo t2 a1, b1⟩
  · obtain ⟨t2, a1, b1⟩ := hN _ _ _ _ _ _ _ _ _ hQ T'.heap (locs ++ L') ls hw' hl hS' hc hz' T' rfl X'
    exact ⟨t2, hgo t2 a1, b1⟩
  · exact hQ.elim
theorem go_split {mc0 jj rk nt0 : Nat} {as q : List Value} {Cl : CT} (h : i_go mc0 jj as q rk Cl nx nt0 lo n K S G P cs) (hc : cs ≤ mc0) : scat q ≤ 8 ∧ ∃ c', cs + c' ≤ mc0 ∧ Cl jj c' as n K S G P (rgo rk nx nt0 lo q (cs + c')) := by
  unfold i_go at h
  replace h := cT h
  obtain ⟨h0, h⟩ := h
  refine ⟨Nat.ble_eq.mp h0, ?_⟩
  cases hm : mcq jj with
  | true => rw [hm] at h; exact h
  | false => rw [hm] at h; exact ⟨0, hc, h⟩
theorem room_fit (C : Cx p l e R s m args below meth c E T j D rz mc ini Z Q) {jj c' : Nat} (hj : jj < nMeth) : (rmD D c').frames + 1 ≤ R.frames ∧ 8 + (mL jj + 11) + (rmD D c').locals ≤ R.locals := by
  have h1 := C.2.2.2.2.2.2.2.2.1
  have h2 := (mL_use hj).1
  refine ⟨h1.1, ?_⟩
  show 8 + (mL jj + 11) + (64 * D + 40) ≤ R.locals
  omega
theorem Cx.fix (C : Cx p l e R s m args below meth c E T j D rz mc ini Z Q) : CallFix p m c (bb j) (mL j) s args gtbl (cnm (ow j)) := ⟨C.1, C.2.1, C.2.2.1, C.2.2.2.1, C.2.2.2.2.1⟩
theorem callB_mk (C : Cx p l e R s m args below meth c E T j D rz mc ini Z Q) {i jj na c' : Nat} (hj : jj < nMeth) (hcd : cdw jj ∈ gtbl) (hini : (Cond.initialized (yy jj).cls).before args s = true) (hlk : (Cond.methodLink (cnm (ow j)) i (yy jj)).before args s = true) (hna : (parseMethodDescriptor (yy jj).desc).map (fun d => d.parameters.length) = some na) : CallB R s args (cnm (ow j)) i (yy jj) (bb jj) (mL jj) (rt jj) (wsj jj) (rmD D c') c' (1000 * c') na :=
  callB_of na C.2.2.2.2.1 (wsj_in hcd) rfl rfl rfl hini hlk ⟨(mL_use hj).2.1, (mL_use hj).2.2, hna⟩ (room_fit C hj)
theorem s_static {L : Nat} {xs : Nat → Int32} {i : Nat} {r : Rs} (C : Cx p l e R s m args below meth c E T j D rz mc ini Z Q) (hN : NX p l e R s m args below meth c E T j mc Z nx) (hL : gL E = L) (hxs : gS E = xs) (hd : decode (bb j) pc = .ok (.invokestatic i, 3)) (hp : r.1 = 99 ∨ poolIn (ow j) i r = true) (h : i_stat T mc r (Ok l L xs T D) nx (pc + 3) lo st n K S G P cs) : AtW p l e R s m args below meth c E T j mc Z pc lo st n K S G P cs := by
  unfold i_stat at h
  cases hb : Nat.beq r.1 1 with
  | false =>
    rw [hb] at h
    simp only [cond_false] at h
    replace h := cT h
    obtain ⟨h1, h⟩ := h
    have hr : r.1 = 16 := Nat.beq_eq.mp h1
    rcases hp with hp | hp
    · omega
    · exact s_copy C hN hd hp hr h
  | true =>
    rw [hb] at h
    simp only [cond_true] at h
    have hr : r.1 = 1 := Nat.beq_eq.mp hb
    rcases hp with hp | hp
    · omega
    obtain ⟨tg, jj, na, hh, rk⟩ := r
    simp only at hr h
    subst hr
    have ho := C.2.2.2.2.2.2.2.2.2.2.2.1
    have hcp := callP_use ho hp
    simp only [callP, Bool.and_eq_true, decide_eq_true_eq] at hcp
    obtain ⟨hj, hna⟩ := hcp
    intro H locs ls hw hl hS hc hz
    replace h := tkA_spec _ _ _ _ h
    obtain ⟨as, q, h, hal, hst⟩ := h
    simp only [List.length_nil, Nat.zero_add, List.reverse_nil, List.nil_append] at hal hst
    replace h := go_split h hc
    obtain ⟨hq, c', hc', h⟩ := h
    refine W_sz (fun hX => ?_)
    have hsz := hw.size C hS hz hX
    have hrm := C.2.2.2.2.2.2.2.2.1
    have wS := C.word hp (w := .static (yy jj)) (List.mem_cons_of_mem _ List.mem_cons_self) rfl
    have wI := C.word hp (w := .initialized (yy jj).cls) (List.mem_cons_of_mem _ (List.mem_cons_of_mem _ List.mem_cons_self)) rfl
    have wC := wrd_good ho hp (w := cdw jj) (List.mem_cons_of_mem _ (List.mem_cons_of_mem _ (List.mem_cons_of_mem _ List.mem_cons_self))) rfl
    have hst2 : st.map (tv E) = (as.map (tv E)).reverse ++ q.map (tv E) := by rw [hst]; simp
    have hroom := lv_room (m := m) (pc := pc) (ls := ls) (rest := st.map (tv E)) (st := q.map (tv E)) (by rw [tv_scat]; exact hq)
    have hf : cs + c' ≤ R.cells ∧ 1000 * cs + 1000 * c' ≤ R.slots := ⟨by omega, by omega⟩
    have hpre : PreS s H (va_Pc (as.map (tv E)) (Wd E T n K S G P)) (as.map (tv E)) := ⟨blind _, fun U hU hW => ⟨rfl, pre_of C hw hS hsz U hU hW⟩⟩
    by_cases h0 : hh = 0
    · subst h0
      have wL := C.word hp (w := .methodLink (cnm (ow j)) i (yy jj)) List.mem_cons_self rfl
      exact call_go C hN hl hS hc' hz (va_runS C.fix (h E hL hxs) ⟨callB_mk C hj wC wI wL hna, wS⟩ hpre rfl (by simp [hal]) hl.1 hst2 hroom hd hf)
    · have hmem : Cond.methodLinkNest (cnm (ow j)) i (yy jj) "RefusedTwice" ∈ wrd (ow j) i (1, jj, na, hh, rk) := by
        show _ ∈ wrd1 (ow j) i jj hh
        unfold wrd1
        rw [if_neg h0]
        exact List.mem_cons_self
      have hroom2 := room_fit C (c' := c') hj
      exact call_go C hN hl hS hc' hz (va_runSN C.fix (h E hL hxs) ⟨va_cnB na C.2.2.2.2.1 (wsj_in wC) rfl rfl rfl (C.wordX hp hmem rfl) wI ⟨(mL_use hj).2.1, (mL_use hj).2.2, hna⟩ hroom2, wS, trivial⟩ hpre rfl (by simp [hal]) hl.1 hst2 hroom hd hf)
theorem s_virtual {L : Nat} {xs : Nat → Int32} {i : Nat} {r : Rs} (C : Cx p l e R s m args below meth c E T j D rz mc ini Z Q) (hN : NX p l e R s m args below meth c E T j mc Z nx) (hL : gL E = L) (hxs : gS E = xs) (hd : decode (bb j) pc = .ok (.invokevirtual i, 3)) (hp : r.1 = 99 ∨ poolIn (ow j) i r = true) (h : i_virt T mc r (Ok l L xs T D) nx (pc + 3) lo st n K S G P cs) : AtW p l e R s m args below meth c E T j mc Z pc lo st n K S G P cs := by
  unfold i_virt at h
  intro H locs ls hw hl hS hc hz
  replace h := tkA_spec _ _ _ _ h
  obtain ⟨as, q0, h, hal, hst⟩ := h
  simp only [List.length_nil, Nat.zero_add, List.reverse_nil, List.nil_append] at hal hst
  split at h
  · rename_i a q
    obtain ⟨tg, jj, na, r4, rk⟩ := r
    simp only at h hal
    refine W_sz (fun hX => ?_)
    have hsz := hw.size C hS hz hX
    have hrm := C.2.2.2.2.2.2.2.2.1
    have ho := C.2.2.2.2.2.2.2.2.2.2.2.1
    have hst2 : st.map (tv E) = (as.map (tv E)).reverse ++ .ref (ad E a) :: q.map (tv E) := by rw [hst]; simp [tv]
    have hblind : FrameBlind (va_Pc ((Value.ref a :: as).map (tv E)) (Wd E T n K S G P)) := blind _
    have hpre : ∀ U : State, U.heap = H → s.WarmedH U.vm → va_Pc ((Value.ref a :: as).map (tv E)) (Wd E T n K S G P) (Value.ref (ad E a) :: as.map (tv E)).toArray U := fun U hU hW => ⟨rfl, pre_of C hw hS hsz U hU hW⟩
    cases hb : Nat.beq tg 2 with
    | true =>
      rw [hb] at h
      simp only [cond_true] at h
      have e2 : tg = 2 := Nat.beq_eq.mp hb
      subst e2
      rcases hp with hp | hp
      · exact absurd (show 2 = 99 from hp) (by decide)
      have hcp := callP_use ho hp
      simp only [callP, Bool.and_eq_true, decide_eq_true_eq] at hcp
      obtain ⟨⟨⟨hj, hna⟩, h19⟩, hcls⟩ := hcp
      have wL := C.word hp (w := .methodLink (cnm (ow j)) i (yy jj)) List.mem_cons_self rfl
      have wM := C.word hp (w := .instanceMethod (yy jj)) (List.mem_cons_of_mem _ List.mem_cons_self) rfl
      have wX := C.word hp (w := .selects (cnm r4) (yy jj) (yy jj)) (List.mem_cons_of_mem _ (List.mem_cons_of_mem _ List.mem_cons_self)) rfl
      have wI := C.word hp (w := .initialized (cnm r4)) (List.mem_cons_of_mem _ (List.mem_cons_of_mem _ (List.mem_cons_of_mem _ List.mem_cons_self))) rfl
      have wC := wrd_good ho hp (w := cdw jj) (List.mem_cons_of_mem _ (List.mem_cons_of_mem _ (List.mem_cons_of_mem _ (List.mem_cons_of_mem _ List.mem_cons_self)))) rfl
      have fin : (∃ cellB : Cell, H[ad E a]? = some cellB ∧ cellB.vm.isStatics = false ∧ s.vm.findClass (cnm r4) = some cellB.cls) → i_go mc jj (.ref a :: as) q rk (Ok l L xs T D) nx (pc + 3) lo n K S G P cs → W p l e R s m args below meth c H locs cs (1000 * cs) Z (F0 m pc ls (st.map (tv E))) := by
        intro hrv h
        obtain ⟨hq, c', hc', h⟩ := go_split h hc
        have hroom := lv_room (m := m) (pc := pc) (ls := ls) (rest := st.map (tv E)) (st := q.map (tv E)) (by rw [tv_scat]; exact hq)
        have hf : cs + c' ≤ R.cells ∧ 1000 * cs + 1000 * c' ≤ R.slots := ⟨by omega, by omega⟩
        exact call_go C hN hl hS hc' hz (va_runV C.fix (h E hL hxs) ⟨callB_mk C hj wC (by rw [← hcls]; exact wI) wL hna, wM, wX⟩ ⟨hblind, hrv, hpre⟩ rfl (by simp [hal]) hl.1 hst2 hroom hd hf)
      cases hb2 : (Nat.blt a 10 && Nat.beq r4 14) with
      | true =>
        rw [hb2] at h
        simp only [cond_true] at h
        simp only [Bool.and_eq_true, Nat.beq_eq] at hb2
        have e4 := hb2.2
        subst e4
        have ha : @LT.lt Nat instLTNat a 10 := Nat.blt_eq.mp hb2.1
        have ha1 : ad E a = gX E a := if_pos (by omega)
        refine fin ?_ h
        rw [ha1]
        exact vk_recv (i := 0) (StrS.one C.2.2.2.2.2.2.1.2.2.2.1 ha) Nat.zero_lt_one hS
      | false =>
        rw [hb2] at h
        simp only [cond_false] at h
        split at h
        · rename_i ci fs hs
          replace h := cT h
          obtain ⟨h1, h⟩ := h
          have e4 : ci = r4 := Nat.beq_eq.mp h1
          subst e4
          exact fin (hw.recv C.2.2.2.2.2.1 hs) h
        · exact h.elim
    | false =>
      rw [hb] at h
      simp only [cond_false] at h
      replace h := cT h
      obtain ⟨h3, h⟩ := h
      have e3 : tg = 3 := Nat.beq_eq.mp h3
      subst e3
      rcases hp with hp | hp
      · exact absurd (show 3 = 99 from hp) (by decide)
      split at h
      · rename_i ci fs hs
        replace h := cAnd h
        obtain ⟨h1, h2, h⟩ := h
        have hci : ci ∈ pers := by simpa using h1
        have hcp := callP_use ho hp
        simp only [callP, Bool.and_eq_true, decide_eq_true_eq] at hcp
        obtain ⟨⟨hj, hna⟩, hy4⟩ := hcp
        have hcf : ci ∈ pers.filter (fun ci => isSub ci (xnm r4).1) := List.mem_filter.mpr ⟨hci, h2⟩
        have hj := List.all_eq_true.mp hj ci hcf
        simp only [decide_eq_true_eq] at hj
        obtain ⟨hq, c', hc', h⟩ := go_split h hc
        have hroom := lv_room (m := m) (pc := pc) (ls := ls) (rest := st.map (tv E)) (st := q.map (tv E)) (by rw [tv_scat]; exact hq)
        have hf : cs + c' ≤ R.cells ∧ 1000 * cs + 1000 * c' ≤ R.slots := ⟨by omega, by omega⟩
        have m0 : ∀ w, w ∈ [Cond.methodLink (cnm (ow j)) i (xN r4), .sameMethod (xN r4).cls "RefusedTwice$One" (xN r4).name (xN r4).desc, .instanceMethod (yy (jsel jj 4)), cdw (jsel jj 4)] → w ∈ wrd (ow j) i (3, jj, na, r4, rk) := fun w hw => List.mem_append_left _ hw
        have m1 : ∀ w, w ∈ [Cond.selects (cnm ci) (xN r4) (yy (jsel jj ci)), .instanceMethod (yy (jsel jj ci)), .initialized (yy (jsel jj ci)).cls, cdw (jsel jj ci)] → w ∈ wrd (ow j) i (3, jj, na, r4, rk) := fun w hw => List.mem_append_right _ (List.mem_flatMap.mpr ⟨ci, hcf, hw⟩)
        have wL := C.word hp (w := .methodLink (cnm (ow j)) i (xN r4)) (m0 _ List.mem_cons_self) rfl
        have wE := C.word hp (w := .sameMethod (xN r4).cls "RefusedTwice$One" (xN r4).name (xN r4).desc) (m0 _ (List.mem_cons_of_mem _ List.mem_cons_self)) rfl
        have wM4 := C.word hp (w := .instanceMethod (yy (jsel jj 4))) (m0 _ (List.mem_cons_of_mem _ (List.mem_cons_of_mem _ List.mem_cons_self))) rfl
        have wC4 := C.word hp (w := cdw (jsel jj 4)) (m0 _ (List.mem_cons_of_mem _ (List.mem_cons_of_mem _ (List.mem_cons_of_mem _ List.mem_cons_self)))) rfl
        have wX := C.word hp (w := .selects (cnm ci) (xN r4) (yy (jsel jj ci))) (m1 _ List.mem_cons_self) rfl
        have wM := C.word hp (w := .instanceMethod (yy (jsel jj ci))) (m1 _ (List.mem_cons_of_mem _ List.mem_cons_self)) rfl
        have wI := C.word hp (w := .initialized (yy (jsel jj ci)).cls) (m1 _ (List.mem_cons_of_mem _ (List.mem_cons_of_mem _ List.mem_cons_self))) rfl
        have wC := wrd_good ho hp (w := cdw (jsel jj ci)) (m1 _ (List.mem_cons_of_mem _ (List.mem_cons_of_mem _ (List.mem_cons_of_mem _ List.mem_cons_self)))) rfl
        have hdecl : va_Decl s ⟨"RefusedTwice$One", (xN r4).name, (xN r4).desc⟩ := by
          rw [← hy4]
          exact va_Decl.of wM4 wC4
        have hroom2 := room_fit C (c' := c') hj
        have hlen : ∀ sig, parseMethodDescriptor (xN r4).desc = some sig → na = sig.parameters.length := by
          intro sig hsig
          rw [hsig] at hna
          exact (Option.some.inj hna).symm
        have hcu : va_CU R s args (cnm (ow j)) (cnm ci) "RefusedTwice$One" i (xN r4) (yy (jsel jj ci)) (bb (jsel jj ci)) (mL (jsel jj ci)) (rt (jsel jj ci)) (wsj (jsel jj ci)) (rmD D c') c' (1000 * c') na :=
          ⟨⟨rfl, rfl, hroom2.1, hroom2.2, pay_in C.2.2.2.2.1 (wsj_in wC), List.mem_cons_self⟩, C.2.2.2.2.1 _ wC, wI, ⟨by decide, by decide⟩, hlen, wL, wE, hdecl, wX, wM⟩
        exact call_go C hN hl hS hc' hz (va_runU C.fix (h E hL hxs) hcu ⟨hblind, hw.recv C.2.2.2.2.2.1 hs, hpre⟩ rfl (by simp [hal]) hl.1 hst2 hroom hd hf)
      · exact h.elim
  · exact h.elim
end A
end

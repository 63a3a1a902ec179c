noncomputable section
section A
variable {p : Program} {l : Launch} {e : Env} {R : Room} {s : State} {m : MethodId} {args : Array Value} {below : List Frame} {meth : Method} {c : Code} {E : En} {T : Tb} {j D rz mc : Nat} {ini : Bool} {Z : State → Prop} {Q : QT} {nx : PT}
variable {pc nt : Nat} {lo st : List Value} {n : Nat} {K : Mk} {S : Mi} {G : Ml} {P : Mr} {cs : Nat}
/-- a call of what the class above has, or has from above -/
theorem sup_run {H : Heap} {locs : List Loc} {cl sl : Nat} {y : MethodName} {bytes cc : ByteArray} {maxL nL mc0 ms na index : Nat} {rt0 : Option FieldType} {ws : List Cond} {rm : Room} {Pc : Array Value → State → Prop} {Qc : Array Value → State → Outcome → State → Prop} {free : Addr → Prop} {Ts : List Cond} {own C ref : String} {cC : ClassId} {b : Addr} {As rest : List Value} {g : JFrame}
    (hat : ClassAt s C cC) (S : CallFix p m c cc nL s args Ts own) (hM : Met l y ws rm Pc Qc mc0 ms free)
    (hrc : rm.cells = mc0) (hrs : rm.slots = ms) (hfr : rm.frames + 1 ≤ R.frames) (hlo : 8 + (maxL + 11) + rm.locals ≤ R.locals) (hws : ∀ w ∈ ws, ∀ (a' : Array Value) (U : State), s.WarmedH U.vm → w.before a' U = true) (hcw : Cond.code y bytes maxL rt0 ∈ ws)
    (hlink : (Cond.methodLink own index ⟨ref, y.name, y.desc⟩).before args s = true) (hsame : (Cond.sameMethod ref y.cls y.name y.desc).before args s = true) (hsup : (Cond.superclass own ref).before args s = true) (hup : ref = y.cls ∨ (Cond.superclass ref y.cls).before args s = true)
    (hinst : (Cond.instanceMethod y).before args s = true) (hini : (Cond.initialized y.cls).before args s = true) (hcode : (Cond.code y bytes maxL rt0).before args s = true) (hno : y.name ≠ "<init>") (hlen : ∀ sig, parseMethodDescriptor y.desc = some sig → na = sig.parameters.length)
    (hp : PreV s H C b Pc As)
    (hg : g.method = m) (hn : As.length = na) (hsize : g.locals.size = nL) (hstack : g.stack = As.reverse ++ .ref b :: rest) (hW : 2 * g.monitorRoom + (rest.map fun v => v.category).sum ≤ 8) (hdg : decode cc g.pc = .ok (.invokespecial index, 3)) (hf : cl + mc0 ≤ R.cells ∧ sl + ms ≤ R.slots) :
    va_Run p l e R s m args below meth c H locs cl sl mc0 ms g rest (Qc (Value.ref b :: As).toArray) (free) := by
  have hK : Back l R p e below s args y 3 8 (PreOf R mc0 ms Pc) (PostOf Qc mc0 ms free) := back_of (bytes := bytes) (maxL := maxL) (ret := rt0) hM hp.1 hrc hrs hfr hlo hws hcw (fun a' U hW => word_at hW (Or.inl (by first | rfl | simp [Cond.onTables, Cond.keeps, Cond.steady])) hini)
  obtain ⟨hx, hb, hml, ho, -⟩ := S
  obtain ⟨-, ⟨cellB, hcB, hoB, hclB⟩, hPc⟩ := hp
  obtain ⟨hfc, kB, hkB, -⟩ := hat
  cases hfc.symm.trans hclB
  obtain ⟨mk, methM, hnamed, hmethM, hstM, habM⟩ := Cond.instanceMethod_spec hinst
  obtain ⟨methM', cM, hmethM', -, -, -, -, -, -, hsigM⟩ := Cond.code_spec hnamed hcode
  cases hmethM.symm.trans hmethM'
  obtain ⟨ps, dk, kp, hps, hdk, hkp, hsuper, -, -, hnid⟩ := Cond.superclass_spec ho hsup
  have hn0 : s.methodNamed? ⟨y.cls, y.name, y.desc⟩ = some mk := hnamed
  have hsub : s.vm.isSubclass ps mk.cls = true := by
    rcases hup with e1 | h1
    · have hpm : ps = mk.cls := by
        rw [e1] at hps
        exact Option.some.inj (hps.symm.trans (findClass_of_methodNamed hnamed))
      rw [hpm]
      simp [Vm.isSubclass, Vm.isSubclassAux]
    · obtain ⟨p2, k2, kp2, g1, g2, g3, g4, -⟩ := Cond.superclass_spec hps h1
      have hpm : p2 = mk.cls := Option.some.inj (g1.symm.trans (findClass_of_methodNamed hnamed))
      subst hpm
      have hpos : 0 < s.vm.classes.size := Nat.lt_of_le_of_lt (Nat.zero_le _) (Array.getElem?_eq_some_iff.mp g2).1
      obtain ⟨sz, hsz⟩ := Nat.exists_eq_succ_of_ne_zero (Nat.pos_iff_ne_zero.mp hpos)
      unfold Vm.isSubclass
      rw [hsz]
      simp [Vm.isSubclassAux, g2, g4]
  intro T hT X
  obtain ⟨vm₁, X₁, hstep₁⟩ := X.invokespecialUp hx ho hlink hsame hn0 hmethM hstM habM hno hdk hnid hps hsuper hsub (a := b) (cell := cellB) (by rw [hT]; exact hcB)
    (fun z h => by rw [h] at hoB; cases hoB) hkB (g := g) hg (argsL := As) (rest := rest) (hn.trans (hlen _ hsigM)) hstack (by rw [hb]; exact hdg)
  obtain ⟨v, B, X', hpost, hsteps⟩ := hK m meth c ⟨T.setVm vm₁, locs, cl, sl⟩ { g with stack := rest } (.invokespecial index) mk (Value.ref b :: As).toArray X₁ hg (hsize.trans hml.symm) (by rw [hb]; exact hdg) hW (X₁.named hnamed) ⟨hf.1, hf.2, hPc (T.setVm vm₁) hT X₁.warmed⟩
  obtain ⟨U', l2, c2, s2⟩ := B
  obtain ⟨g', mk', t, L, e1, e2, hq, h1, hL, h2, h3⟩ := hpost
  dsimp only [Pt.U, Pt.locs, Pt.cells, Pt.slots] at X' e1 e2 h1 h2 h3
  subst h1; subst h2; subst h3
  exact ⟨v, (T.setVm vm₁).calling g' mk' (Value.ref b :: As).toArray, t, U', L, hT, X', hL, e1, e2, hq, fun target h => hstep₁ _ (by rw [doInvoke_state]; exact hsteps.trans h)⟩
theorem s_special {L : Nat} {xs : Nat → Int32} {i : Nat} {r : Rs} (C : Cx p l e R s m args below meth c E T j D rz mc ini Z Q) (hN : NX p l e R s m args below meth c E T j mc Z nx) (hL : gL E = L) (hxs : gS E = xs) (hd : decode (bb j) pc = .ok (.invokespecial i, 3)) (hp : r.1 = 99 ∨ poolIn (ow j) i r = true) (h : i_spec T mc r (Ok l L xs T D) nx (pc + 3) lo st n K S G P cs) : AtW p l e R s m args below meth c E T j mc Z pc lo st n K S G P cs := by
  unfold i_spec at h
  intro H locs ls hw hl hS hc hz
  obtain ⟨tg, jj, na, r4, rk⟩ := r
  have ho := C.2.2.2.2.2.2.2.2.2.2.2.1
  have hrm := C.2.2.2.2.2.2.2.2.1
  cases hb5 : Nat.beq tg 5 with
  | true =>
    rw [hb5] at h
    simp only [cond_true] at h
    have e5 : tg = 5 := Nat.beq_eq.mp hb5
    subst e5
    rcases hp with hp | hp
    · exact absurd (show 5 = 99 from hp) (by decide)
    split at h
    · rename_i a q
      have wL := C.word hp (w := .methodLink (cnm (ow j)) i objectInit) List.mem_cons_self rfl
      have wM := C.word hp (w := .instanceMethod objectInit) (List.mem_cons_of_mem _ List.mem_cons_self) rfl
      have wC := C.word hp (w := .code objectInit ⟨#[0xb1]⟩ 1 none) (List.mem_cons_of_mem _ (List.mem_cons_of_mem _ List.mem_cons_self)) rfl
      replace h := cT h
      obtain ⟨hq, h⟩ := h
      replace hq := Nat.ble_eq.mp hq
      exact W.objInit C.1 C.2.1 C.2.2.2.1 wL wM wC rfl (hl.1.trans C.2.2.1.symm) rfl hd (by omega) (by show 2 * 0 + _ + 12 ≤ R.locals; rw [tv_scat]; omega) (hN _ _ _ _ _ _ _ _ _ h H locs ls hw hl hS hc hz)
    · exact h.elim
  | false =>
    rw [hb5] at h
    simp only [cond_false] at h
    replace h := tkA_spec _ _ _ _ h
    obtain ⟨as, q0, h, hal, hst⟩ := h
    simp only [List.length_nil, Nat.zero_add, List.reverse_nil, List.nil_append] at hal hst
    split at h
    · rename_i a q
      refine W_sz (fun hX => ?_)
      have hsz := hw.size C hS hz hX
      have hst2 : st.map (tv E) = (as.map (tv E)).reverse ++ .ref (ad E a) :: q.map (tv E) := by rw [hst]; simp [tv]
      have hblind : FrameBlind (va_Pc ((Value.ref a :: as).map (tv E)) (Wd E T n K S G P)) := blind _
      have hpre : ∀ U : State, U.heap = H → s.WarmedH U.vm → va_Pc ((Value.ref a :: as).map (tv E)) (Wd E T n K S G P) (Value.ref (ad E a) :: as.map (tv E)).toArray U := fun U hU hW => ⟨rfl, pre_of C hw hS hsz U hU hW⟩
      cases hb4 : Nat.beq tg 4 with
      | true =>
        rw [hb4] at h
        simp only [cond_true] at h
        have e4 : tg = 4 := Nat.beq_eq.mp hb4
        subst e4
        rcases hp with hp | hp
        · exact absurd (show 4 = 99 from hp) (by decide)
        have hcp := callP_use ho hp
        simp only [callP, Bool.and_eq_true, decide_eq_true_eq] at hcp
        obtain ⟨⟨⟨hj, hna⟩, hnm⟩, hrt⟩ := hcp
        have wL := C.word hp (w := .methodLink (cnm (ow j)) i (yy jj)) List.mem_cons_self rfl
        have wM := C.word hp (w := .instanceMethod (yy jj)) (List.mem_cons_of_mem _ List.mem_cons_self) rfl
        have wI := C.word hp (w := .initialized (yy jj).cls) (List.mem_cons_of_mem _ (List.mem_cons_of_mem _ List.mem_cons_self)) rfl
        have wC := wrd_good ho hp (w := cdw jj) (List.mem_cons_of_mem _ (List.mem_cons_of_mem _ (List.mem_cons_of_mem _ List.mem_cons_self))) rfl
        replace h := go_split h hc
        obtain ⟨hq, c', hc', h⟩ := h
        have hroom := lv_room (m := m) (pc := pc) (ls := ls) (rest := st.map (tv E)) (st := q.map (tv E)) (by rw [tv_scat]; exact hq)
        have hf : cs + c' ≤ R.cells ∧ 1000 * cs + 1000 * c' ≤ R.slots := ⟨by omega, by omega⟩
        have hcb := callB_mk C (c' := c') hj wC wI wL hna
        rw [hrt] at hcb
        exact call_go C hN hl hS hc' hz (va_runI C.fix (h E hL hxs) ⟨hcb, hnm, wM⟩ ⟨hblind, hpre⟩ rfl (by simp [hal]) hl.1 hst2 hroom hd hf)
      | false =>
        rw [hb4] at h
        simp only [cond_false] at h
        replace h := cT h
        obtain ⟨h6, h⟩ := h
        have e6 : tg = 6 := Nat.beq_eq.mp h6
        subst e6
        rcases hp with hp | hp
        · exact absurd (show 6 = 99 from hp) (by decide)
        have hcp := callP_use ho hp
        simp only [callP, Bool.and_eq_true, decide_eq_true_eq] at hcp
        obtain ⟨⟨hj, hna⟩, hnm⟩ := hcp
        split at h
        · rename_i ci fs hs
          replace h := go_split h hc
          obtain ⟨hq, c', hc', h⟩ := h
          have hroom := lv_room (m := m) (pc := pc) (ls := ls) (rest := st.map (tv E)) (st := q.map (tv E)) (by rw [tv_scat]; exact hq)
          have hf : cs + c' ≤ R.cells ∧ 1000 * cs + 1000 * c' ≤ R.slots := ⟨by omega, by omega⟩
          have m0 : ∀ w, w ∈ [Cond.methodLink (cnm (ow j)) i ⟨cnm r4, (yy jj).name, (yy jj).desc⟩, .sameMethod (cnm r4) (yy jj).cls (yy jj).name (yy jj).desc, .superclass (cnm (ow j)) (cnm r4), .instanceMethod (yy jj), .initialized (yy jj).cls, cdw jj] → w ∈ wrd (ow j) i (6, jj, na, r4, rk) := fun w hw => List.mem_append_left _ hw
          have wL := C.word hp (w := .methodLink (cnm (ow j)) i ⟨cnm r4, (yy jj).name, (yy jj).desc⟩) (m0 _ List.mem_cons_self) rfl
          have wE := C.word hp (w := .sameMethod (cnm r4) (yy jj).cls (yy jj).name (yy jj).desc) (m0 _ (List.mem_cons_of_mem _ List.mem_cons_self)) rfl
          have wU := C.word hp (w := .superclass (cnm (ow j)) (cnm r4)) (m0 _ (List.mem_cons_of_mem _ (List.mem_cons_of_mem _ List.mem_cons_self))) rfl
          have wM := C.word hp (w := .instanceMethod (yy jj)) (m0 _ (List.mem_cons_of_mem _ (List.mem_cons_of_mem _ (List.mem_cons_of_mem _ List.mem_cons_self)))) rfl
          have wI := C.word hp (w := .initialized (yy jj).cls) (m0 _ (List.mem_cons_of_mem _ (List.mem_cons_of_mem _ (List.mem_cons_of_mem _ (List.mem_cons_of_mem _ List.mem_cons_self))))) rfl
          have wC := wrd_good ho hp (w := cdw jj) (m0 _ (List.mem_cons_of_mem _ (List.mem_cons_of_mem _ (List.mem_cons_of_mem _ (List.mem_cons_of_mem _ (List.mem_cons_of_mem _ List.mem_cons_self)))))) rfl
          have hup : cnm r4 = (yy jj).cls ∨ (Cond.superclass (cnm r4) (yy jj).cls).before args s = true := by
            by_cases q1 : cnm r4 = (yy jj).cls
            · exact Or.inl q1
            · refine Or.inr (C.word hp ?_ rfl)
              refine List.mem_append_right _ ?_
              rw [if_neg q1]
              exact List.mem_cons_self
          have hlen : ∀ sig, parseMethodDescriptor (yy jj).desc = some sig → na = sig.parameters.length := by
            intro sig hsig
            rw [hsig] at hna
            exact (Option.some.inj hna).symm
          have hroom2 := room_fit C (c' := c') hj
          have hcl := (C.2.2.2.2.2.1.1 ci _ (vwC_at (hw.obj hs))).2
          exact call_go C hN hl hS hc' hz (sup_run hcl C.fix (h E hL hxs) rfl rfl hroom2.1 hroom2.2 (pay_in C.2.2.2.2.1 (wsj_in wC)) List.mem_cons_self wL wE wU hup wM wI (C.2.2.2.2.1 _ wC) hnm hlen ⟨hblind, hw.recv C.2.2.2.2.2.1 hs, hpre⟩ rfl (by simp [hal]) hl.1 hst2 hroom hd hf)
        · exact h.elim
    · exact h.elim
theorem s_ret {r : Option Value} {ins : Instr} (C : Cx p l e R s m args below meth c E T j D rz mc ini Z Q) (hd : decode (bb j) pc = .ok (ins, 1)) (hi : retI r ins) (hz0 : rzOk rz r) (hm : (Nat.ble 600 mc || Nat.beq cs mc) = true) (hst : st = r.toList) (h : Q r n K S G P) : AtW p l e R s m args below meth c E T j mc Z pc lo st n K S G P cs := by
  intro H locs ls hw hl hS hc hz
  have h1 := C.2.2.2.2.2.2.2.2.2.2.2.2 r n K S G P cs H locs ls pc ins h hw hS hc hm hz hi hz0 hd
  rw [hst]
  cases r <;> exact h1
theorem s_ireturn (C : Cx p l e R s m args below meth c E T j D rz mc ini Z Q) (hd : decode (bb j) pc = .ok (.ireturn, 1)) (h : cond (Nat.ble 600 mc || Nat.beq cs mc) (i_ret rz Q st n K S G P) False) : AtW p l e R s m args below meth c E T j mc Z pc lo st n K S G P cs := by
  replace h := cT h
  obtain ⟨hm, h⟩ := h
  unfold i_ret at h
  split at h
  · rename_i x
    split at h
    · exact s_ret (r := some (.int x)) (ins := .ireturn) C hd rfl trivial hm rfl h
    · split at h
      · rename_i hx
        exact s_ret (r := some (.int x)) (ins := .ireturn) C hd rfl (show narrow .boolean (.int x) = .int x by rcases hx with rfl | rfl <;> decide +kernel) hm rfl h
      · exact h.elim
    · split at h
      · rename_i hx
        exact s_ret (r := some (.int x)) (ins := .ireturn) C hd rfl hx hm rfl h
      · exact h.elim
    · split at h
      · rename_i hx
        exact s_ret (r := some (.int x)) (ins := .ireturn) C hd rfl hx hm rfl h
      · exact h.elim
    · exact h.elim
  · exact h.elim
theorem s_lreturn (C : Cx p l e R s m args below meth c E T j D rz mc ini Z Q) (hd : decode (bb j) pc = .ok (.lreturn, 1)) (h : cond (Nat.ble 600 mc || Nat.beq cs mc) (i_lret rz Q st n K S G P) False) : AtW p l e R s m args below meth c E T j mc Z pc lo st n K S G P cs := by
  replace h := cT h
  obtain ⟨hm, h⟩ := h
  unfold i_lret at h
  split at h
  · rename_i x
    replace h := cT h
    obtain ⟨h0, h⟩ := h
    exact s_ret (r := some (.long x)) (ins := .lreturn) C hd rfl (Nat.beq_eq.mp h0) hm rfl h
  · exact h.elim
theorem s_areturn (C : Cx p l e R s m args below meth c E T j D rz mc ini Z Q) (hd : decode (bb j) pc = .ok (.areturn, 1)) (h : cond (Nat.ble 600 mc || Nat.beq cs mc) (i_aret rz Q st n K S G P) False) : AtW p l e R s m args below meth c E T j mc Z pc lo st n K S G P cs := by
  replace h := cT h
  obtain ⟨hm, h⟩ := h
  unfold i_aret at h
  split at h
  · rename_i x
    replace h := cT h
    obtain ⟨h0, h⟩ := h
    exact s_ret (r := some (.ref x)) (ins := .areturn) C hd rfl (Nat.beq_eq.mp h0) hm rfl h
  · exact h.elim
theorem s_return (C : Cx p l e R s m args below meth c E T j D rz mc ini Z Q) (hd : decode (bb j) pc = .ok (.return_, 1)) (h : cond (Nat.ble 600 mc || Nat.beq cs mc) (i_vret rz Q st n K S G P) False) : AtW p l e R s m args below meth c E T j mc Z pc lo st n K S G P cs := by
  replace h := cT h
  obtain ⟨hm, h⟩ := h
  unfold i_vret at h
  split at h
  · replace h := cT h
    obtain ⟨h0, h⟩ := h
    exact s_ret (r := none) (ins := .return_) C hd rfl (Nat.beq_eq.mp h0) hm rfl h
  · exact h.elim
end A
end

noncomputable section
/-! THE CALCULUS IS ENOUGH: what it asks, the machine does. -/
theorem cast_in : ∀ x ∈ pers, isSub x 4 = true → (x == 4) = false → Cond.castable (cnm x) "RefusedTwice$One" ∈ lw_tbl := by decide +kernel
theorem p8_ok : (List.range 19).all (fun o => (plo o).all (fun q => decide (q.2.1.1 = 8 → q.2.1.2.1 ∈ pers) && decide (q.2.1.1 = 12 → (o, q.1) = strO q.2.1.2.1 ∧ q.2.1.2.1 < 10))) = true := by decide +kernel
theorem p8_use {o i : Nat} {r : Rs} (ho : o < 19) (hp : poolIn o i r = true) : (r.1 = 8 → r.2.1 ∈ pers) ∧ (r.1 = 12 → (o, i) = strO r.2.1 ∧ r.2.1 < 10) := by
  obtain ⟨q, hq, h1⟩ := List.any_eq_true.mp hp
  simp only [Bool.and_eq_true, decide_eq_true_eq] at h1
  have h2 := List.all_eq_true.mp (List.all_eq_true.mp p8_ok o (List.mem_range.mpr ho)) q hq
  simp only [Bool.and_eq_true, decide_eq_true_eq] at h2
  rw [h1.1, h1.2] at h2
  exact h2
/-- an instruction's entry has the tag that goes with it -/
def tagOk (e : Ent) : Bool := match e.1 with
  | .new _ => Nat.beq e.2.2.2.2.2.1 7
  | .instanceof _ => Nat.beq e.2.2.2.2.2.1 8
  | .anewarray _ => Nat.beq e.2.2.2.2.2.1 9
  | _ => true
def tagP (j pc : Nat) : Bool := match look (tb j) pc with
  | none => true
  | some e => tagOk e
def tagsOk (j : Nat) : Bool := (List.range (16 * (tb j).length)).all (tagP j)
theorem tags_ok : (List.range nMeth).all tagsOk = true := by decide +kernel
theorem tag_use {j pc : Nat} {e : Ent} (hj : j < nMeth) (hl : look (tb j) pc = some e) : tagOk e = true := by
  have h := List.all_eq_true.mp tags_ok j (List.mem_range.mpr hj)
  have h1 := List.all_eq_true.mp h pc (List.mem_range.mpr (look_lt hl))
  unfold tagP at h1
  rw [hl] at h1
  exact h1
section A
variable {p : Program} {l : Launch} {e : Env} {R : Room} {s : State} {m : MethodId} {args : Array Value} {below : List Frame} {meth : Method} {c : Code} {E : En} {T : Tb} {j D rz mc : Nat} {ini : Bool} {Z : State → Prop} {Q : QT} {nx : PT}
variable {pc nt : Nat} {lo st : List Value} {n : Nat} {K : Mk} {S : Mi} {G : Ml} {P : Mr} {cs : Nat}
theorem tgOk_use {pc : Nat} {off : Int} {t : Nat} (h : tgOk pc off t = true) : (pc : Int) + off = (t : Int) := by
  unfold tgOk at h
  exact of_decide_eq_true h
set_option maxHeartbeats 1000000 in
theorem stp_sound {L : Nat} {xs : Nat → Int32} (C : Cx p l e R s m args below meth c E T j D rz mc ini Z Q) (hN : NX p l e R s m args below meth c E T j mc Z nx) (hL : gL E = L) (hxs : gS E = xs) (h : stp T L xs (tb j) rz ini mc (Ok l L xs T D) Q nx pc lo st n K S G P cs) : AtW p l e R s m args below meth c E T j mc Z pc lo st n K S G P cs := by
  unfold stp at h
  split at h
  · exact h.elim
  · rename_i e hlk
    have hj := C.2.2.2.2.2.2.2.2.2.2.1
    have ho := C.2.2.2.2.2.2.2.2.2.2.2.1
    obtain ⟨hd0, hlt, hent⟩ := tabOk_use (tabs_ok hj) hlk
    have hlen := lenOk_use hj hlk
    have htag := tag_use hj hlk
    obtain ⟨ins, nt, tg, v, sw, r⟩ := e
    have hnt : ilen ins ≠ 0 → nt = pc + ilen ins ∧ decode (bb j) pc = .ok (ins, ilen ins) := by
      intro h0
      rcases hlen with q | q
      · exact absurd q h0
      · simp only at q hlt hd0
        exact ⟨by omega, by rw [← q]; exact hd0⟩
    try simp only at hent htag
    unfold stI at h
    try simp only at h
    cases ins with
    | iconst x =>
      obtain ⟨e1, hd⟩ := hnt (by simp [ilen])
      subst e1
      simp only [entOk, decide_eq_true_eq] at hent
      exact s_iconst C hN hd hent h
    | bipush x =>
      obtain ⟨e1, hd⟩ := hnt (by simp [ilen])
      subst e1
      simp only [entOk, decide_eq_true_eq] at hent
      exact s_bipush C hN hd hent h
    | sipush x =>
      obtain ⟨e1, hd⟩ := hnt (by simp [ilen])
      subst e1
      simp only [entOk, decide_eq_true_eq] at hent
      exact s_sipush C hN hd hent h
    | lconst x =>
      obtain ⟨e1, hd⟩ := hnt (by simp [ilen])
      subst e1
      exact s_lconst C hN hd h
    | aconst_null =>
      obtain ⟨e1, hd⟩ := hnt (by simp [ilen])
      subst e1
      exact s_null C hN hd h
    | iload x =>
      obtain ⟨e1, hd⟩ := hnt (by simp [ilen])
      subst e1
      exact s_iload C hN hd h
    | iload_n x =>
      obtain ⟨e1, hd⟩ := hnt (by simp [ilen])
      subst e1
      exact s_iload_n C hN hd h
    | lload x =>
      obtain ⟨e1, hd⟩ := hnt (by simp [ilen])
      subst e1
      exact s_lload C hN hd h
    | lload_n x =>
      obtain ⟨e1, hd⟩ := hnt (by simp [ilen])
      subst e1
      exact s_lload_n C hN hd h
    | aload x =>
      obtain ⟨e1, hd⟩ := hnt (by simp [ilen])
      subst e1
      exact s_aload C hN hd h
    | aload_n x =>
      obtain ⟨e1, hd⟩ := hnt (by simp [ilen])
      subst e1
      exact s_aload_n C hN hd h
    | istore x =>
      obtain ⟨e1, hd⟩ := hnt (by simp [ilen])
      subst e1
      exact s_istore C hN hd h
    | istore_n x =>
      obtain ⟨e1, hd⟩ := hnt (by simp [ilen])
      subst e1
      exact s_istore_n C hN hd h
    | lstore x =>
      obtain ⟨e1, hd⟩ := hnt (by simp [ilen])
      subst e1
      exact s_lstore C hN hd h
    | lstore_n x =>
      obtain ⟨e1, hd⟩ := hnt (by simp [ilen])
      subst e1
      exact s_lstore_n C hN hd h
    | astore x =>
      obtain ⟨e1, hd⟩ := hnt (by simp [ilen])
      subst e1
      exact s_astore C hN hd h
    | astore_n x =>
      obtain ⟨e1, hd⟩ := hnt (by simp [ilen])
      subst e1
      exact s_astore_n C hN hd h
    | iinc x y =>
      obtain ⟨e1, hd⟩ := hnt (by simp [ilen])
      subst e1
      simp only [entOk, decide_eq_true_eq] at hent
      exact s_iinc C hN hd hent h
    | iadd =>
      obtain ⟨e1, hd⟩ := hnt (by simp [ilen])
      subst e1
      exact s_iadd C hN hd h
    | isub =>
      obtain ⟨e1, hd⟩ := hnt (by simp [ilen])
      subst e1
      exact s_isub C hN hd h
    | imul =>
      obtain ⟨e1, hd⟩ := hnt (by simp [ilen])
      subst e1
      exact s_imul C hN hd h
    | iand =>
      obtain ⟨e1, hd⟩ := hnt (by simp [ilen])
      subst e1
      exact s_iand C hN hd h
    | ior =>
      obtain ⟨e1, hd⟩ := hnt (by simp [ilen])
      subst e1
      exact s_ior C hN hd h
    | ixor =>
      obtain ⟨e1, hd⟩ := hnt (by simp [ilen])
      subst e1
      exact s_ixor C hN hd h
    | ishl =>
      obtain ⟨e1, hd⟩ := hnt (by simp [ilen])
      subst e1
      exact s_ishl C hN hd h
    | ishr =>
      obtain ⟨e1, hd⟩ := hnt (by simp [ilen])
      subst e1
      exact s_ishr C hN hd h
    | iushr =>
      obtain ⟨e1, hd⟩ := hnt (by simp [ilen])
      subst e1
      exact s_iushr C hN hd h
    | idiv =>
      obtain ⟨e1, hd⟩ := hnt (by simp [ilen])
      subst e1
      exact s_idiv C hN hd h
    | irem =>
      obtain ⟨e1, hd⟩ := hnt (by simp [ilen])
      subst e1
      exact s_irem C hN hd h
    | ineg =>
      obtain ⟨e1, hd⟩ := hnt (by simp [ilen])
      subst e1
      exact s_ineg C hN hd h
    | i2b =>
      obtain ⟨e1, hd⟩ := hnt (by simp [ilen])
      subst e1
      exact s_i2b C hN hd h
    | i2s =>
      obtain ⟨e1, hd⟩ := hnt (by simp [ilen])
      subst e1
      exact s_i2s C hN hd h
    | i2c =>
      obtain ⟨e1, hd⟩ := hnt (by simp [ilen])
      subst e1
      exact s_i2c C hN hd h
    | i2l =>
      obtain ⟨e1, hd⟩ := hnt (by simp [ilen])
      subst e1
      exact s_i2l C hN hd h
    | l2i =>
      obtain ⟨e1, hd⟩ := hnt (by simp [ilen])
      subst e1
      exact s_l2i C hN hd h
    | lcmp =>
      obtain ⟨e1, hd⟩ := hnt (by simp [ilen])
      subst e1
      exact s_lcmp C hN hd h
    | ladd =>
      obtain ⟨e1, hd⟩ := hnt (by simp [ilen])
      subst e1
      exact s_ladd C hN hd h
    | land =>
      obtain ⟨e1, hd⟩ := hnt (by simp [ilen])
      subst e1
      exact s_land C hN hd h
    | lor =>
      obtain ⟨e1, hd⟩ := hnt (by simp [ilen])
      subst e1
      exact s_lor C hN hd h
    | lxor =>
      obtain ⟨e1, hd⟩ := hnt (by simp [ilen])
      subst e1
      exact s_lxor C hN hd h
    | lshl =>
      obtain ⟨e1, hd⟩ := hnt (by simp [ilen])
      subst e1
      exact s_lshl C hN hd h
    | lshr =>
      obtain ⟨e1, hd⟩ := hnt (by simp [ilen])
      subst e1
      exact s_lshr C hN hd h
    | dup =>
      obtain ⟨e1, hd⟩ := hnt (by simp [ilen])
      subst e1
      exact s_dup C hN hd h
    | dup_x1 =>
      obtain ⟨e1, hd⟩ := hnt (by simp [ilen])
      subst e1
      exact s_dup_x1 C hN hd h
    | dup2 =>
      obtain ⟨e1, hd⟩ := hnt (by simp [ilen])
      subst e1
      exact s_dup2 C hN hd h
    | pop =>
      obtain ⟨e1, hd⟩ := hnt (by simp [ilen])
      subst e1
      exact s_pop C hN hd h
    | baload =>
      obtain ⟨e1, hd⟩ := hnt (by simp [ilen])
      subst e1
      exact s_baload C hN hd h
    | laload =>
      obtain ⟨e1, hd⟩ := hnt (by simp [ilen])
      subst e1
      exact s_laload C hN hd h
    | aaload =>
      obtain ⟨e1, hd⟩ := hnt (by simp [ilen])
      subst e1
      exact s_aaload C hN hd h
    | iastore =>
      obtain ⟨e1, hd⟩ := hnt (by simp [ilen])
      subst e1
      exact s_iastore C hN hd h
    | bastore =>
      obtain ⟨e1, hd⟩ := hnt (by simp [ilen])
      subst e1
      exact s_bastore C hN hd h
    | lastore =>
      obtain ⟨e1, hd⟩ := hnt (by simp [ilen])
      subst e1
      exact s_lastore C hN hd h
    | if_icmp x y =>
      obtain ⟨e1, hd⟩ := hnt (by simp [ilen])
      subst e1
      have ht := tgOk_use hent
      exact s_i_c2 ht C hN hd h
    | ifCond x y =>
      obtain ⟨e1, hd⟩ := hnt (by simp [ilen])
      subst e1
      have ht := tgOk_use hent
      exact s_i_c1 ht C hN hd h
    | goto y =>
      obtain ⟨e1, hd⟩ := hnt (by simp [ilen])
      subst e1
      have ht := tgOk_use hent
      exact s_goto ht C hN hd h
    | ifnull y =>
      obtain ⟨e1, hd⟩ := hnt (by simp [ilen])
      subst e1
      have ht := tgOk_use hent
      exact s_ifnull ht C hN hd h
    | ifnonnull y =>
      obtain ⟨e1, hd⟩ := hnt (by simp [ilen])
      subst e1
      have ht := tgOk_use hent
      exact s_ifnonnull ht C hN hd h
    | iaload =>
      obtain ⟨e1, hd⟩ := hnt (by simp [ilen])
      subst e1
      subst hL
      subst hxs
      exact s_iaload C hN hd h
    | arraylength =>
      obtain ⟨e1, hd⟩ := hnt (by simp [ilen])
      subst e1
      subst hL
      exact s_arraylength C hN hd h
    | aastore =>
      obtain ⟨e1, hd⟩ := hnt (by simp [ilen])
      subst e1
      exact s_aastore C hN (fun x h1 h2 h3 => C.2.2.2.2.2.2.1.1 _ (cast_in x h1 h2 h3) rfl) hd h
    | getfield i =>
      obtain ⟨e1, hd⟩ := hnt (by simp [ilen])
      subst e1
      exact s_getfield C hN hd hent h
    | putfield i =>
      obtain ⟨e1, hd⟩ := hnt (by simp [ilen])
      subst e1
      exact s_putfield C hN hd hent h
    | getstatic i =>
      obtain ⟨e1, hd⟩ := hnt (by simp [ilen])
      subst e1
      exact s_getstatic C hN hd hent h
    | invokestatic i =>
      obtain ⟨e1, hd⟩ := hnt (by simp [ilen])
      subst e1
      simp only [entOk, Bool.or_eq_true, decide_eq_true_eq] at hent
      exact s_static C hN hL hxs hd hent h
    | invokevirtual i =>
      obtain ⟨e1, hd⟩ := hnt (by simp [ilen])
      subst e1
      simp only [entOk, Bool.or_eq_true, decide_eq_true_eq] at hent
      exact s_virtual C hN hL hxs hd hent h
    | invokespecial i =>
      obtain ⟨e1, hd⟩ := hnt (by simp [ilen])
      subst e1
      simp only [entOk, Bool.or_eq_true, decide_eq_true_eq] at hent
      exact s_special C hN hL hxs hd hent h
    | new i =>
      obtain ⟨e1, hd⟩ := hnt (by simp [ilen])
      subst e1
      exact s_new C hN hd hent (Nat.beq_eq.mp htag) h
    | instanceof i =>
      obtain ⟨e1, hd⟩ := hnt (by simp [ilen])
      subst e1
      exact s_instanceof C hN hd hent ⟨Nat.beq_eq.mp htag, (p8_use ho hent).1 (Nat.beq_eq.mp htag)⟩ h
    | newarray i =>
      obtain ⟨e1, hd⟩ := hnt (by simp [ilen])
      subst e1
      exact s_newarray C hN hd h
    | anewarray i =>
      obtain ⟨e1, hd⟩ := hnt (by simp [ilen])
      subst e1
      exact s_anewarray C hN hd hent (Nat.beq_eq.mp htag) h
    | ldc i =>
      obtain ⟨e1, hd⟩ := hnt (by simp [ilen])
      subst e1
      simp only [entOk, Bool.and_eq_true, Bool.or_eq_true, decide_eq_true_eq] at hent
      exact s_ldc C hN hd hent.1 hent.2 (p8_use ho hent.1).2 h
    | ldc_w i =>
      obtain ⟨e1, hd⟩ := hnt (by simp [ilen])
      subst e1
      simp only [entOk, Bool.and_eq_true, decide_eq_true_eq] at hent
      exact s_ldc_w C hN hd hent.1 hent.2 h
    | ldc2_w i =>
      obtain ⟨e1, hd⟩ := hnt (by simp [ilen])
      subst e1
      simp only [entOk, Bool.and_eq_true, decide_eq_true_eq] at hent
      exact s_ldc2_w C hN hd hent.1 hent.2 h
    | ireturn =>
      obtain ⟨e1, hd⟩ := hnt (by simp [ilen])
      subst e1
      exact s_ireturn C hd h
    | lreturn =>
      obtain ⟨e1, hd⟩ := hnt (by simp [ilen])
      subst e1
      exact s_lreturn C hd h
    | areturn =>
      obtain ⟨e1, hd⟩ := hnt (by simp [ilen])
      subst e1
      exact s_areturn C hd h
    | return_ =>
      obtain ⟨e1, hd⟩ := hnt (by simp [ilen])
      subst e1
      exact s_return C hd h
    | tableswitch d0 lo0 hi offs =>
      simp only [entOk, Bool.and_eq_true, decide_eq_true_eq] at hent
      obtain ⟨⟨⟨⟨⟨g1, g2⟩, g3⟩, g4⟩, g5⟩, g6⟩ := hent
      exact s_tableswitch C hN hd0 (tgOk_use g1) g2 g3 g4 g5 (fun i hi => by have := List.all_eq_true.mp g6 i (List.mem_range.mpr hi); exact of_decide_eq_true this) h
    | lookupswitch d0 ps =>
      simp only [entOk, Bool.and_eq_true, decide_eq_true_eq] at hent
      obtain ⟨⟨⟨g1, g2⟩, g3⟩, g4⟩ := hent
      exact s_lookupswitch C hN hd0 (tgOk_use g1) g2 g3 (fun q hq => by have := List.all_eq_true.mp g4 q hq; simp only [Bool.and_eq_true, decide_eq_true_eq] at this; exact ⟨this.1.1, this.1.2, this.2⟩) h
    | _ => exact h.elim
theorem wps_sound {L : Nat} {xs : Nat → Int32} {stop : List Nat} (C : Cx p l e R s m args below meth c E T j D rz mc ini Z Q) (hL : gL E = L) (hxs : gS E = xs) : ∀ (k : Nat) (pc : Nat) (lo st : List Value) (n : Nat) (K : Mk) (S : Mi) (G : Ml) (P : Mr) (cs : Nat), wps T L xs (tb j) rz ini mc (Ok l L xs T D) Q (AtW p l e R s m args below meth c E T j mc Z) stop k pc lo st n K S G P cs → AtW p l e R s m args below meth c E T j mc Z pc lo st n K S G P cs
  | 0, _, _, _, _, _, _, _, _, _, h => h
  | k + 1, pc, _, _, _, _, _, _, _, _, h => by
    unfold wps at h
    cases hs : stopB stop pc with
    | true => rw [hs] at h; exact h
    | false => rw [hs] at h; exact stp_sound C (fun pc lo st n K S G P cs h => wps_sound C hL hxs k pc lo st n K S G P cs h) hL hxs h
end A
end

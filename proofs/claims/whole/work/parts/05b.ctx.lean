noncomputable section
/-! WHAT HOLDS AROUND a run: the machine, the tables, what lies outside the world. -/
def strI : List (Nat × Nat) := [(7, 74), (7, 80), (7, 82), (7, 97), (7, 103), (12, 218), (12, 224), (12, 226), (12, 187), (12, 192)]
def strO (k : Nat) : Nat × Nat := strI.getD k (7, 0)
def isNC : Cond → Bool
  | .methodLinkNest _ _ _ _ => true
  | .castable _ _ => true
  | _ => false
def aW (E : En) : Nat → Prop := fun q => gB E ≤ q
/-- the ten texts; two of them may be one object, so nothing is said of their being apart; and what is known of rows of longs -/
def StrS (E : En) (U : State) (H : Heap) : Prop := (∀ i : Nat, i < 10 → va_O "java/lang/String" (gX E i) (aW E) U H ∧ va_OF "java/lang/String" "coder" "B" (.int 0) (gX E i) (aW E) U H ∧ va_OF "java/lang/String" "value" "[B" (.ref (gX E (i + 10))) (gX E i) (aW E) U H ∧ va_T .byte (gX E (i + 10)) ((strB.map (fun l => l.length)).getD i 0) (fun j => .int ((strB.getD i []).getD j 0)) (aW E) U H) ∧ (Cond.arrayOver (.array .long)).before #[] U = true
theorem StrS.moved {E : En} {u U : State} {H : Heap} (hvm : u.vm.Alike U.vm) (h : StrS E u H) : StrS E U H :=
  ⟨fun i hi => ⟨va_O.moved hvm (h.1 i hi).1, va_OF.moved hvm (h.1 i hi).2.1, va_OF.moved hvm (h.1 i hi).2.2.1, va_T.moved hvm (h.1 i hi).2.2.2⟩, over_moved hvm h.2⟩
theorem StrS.kept {E : En} {U : State} {H H1 : Heap} (h : StrS E U H) (hq : ∀ a : Nat, a < H.size → ¬ aW E a → H1[a]? = H[a]?) : StrS E U H1 :=
  ⟨fun i hi => ⟨(h.1 i hi).1.kept hq, (h.1 i hi).2.1.kept hq, (h.1 i hi).2.2.1.kept hq, (h.1 i hi).2.2.2.kept hq⟩, h.2⟩
theorem StrS.one {E : En} {U : State} {H : Heap} (h : StrS E U H) {a : Nat} (ha : a < 10) : vk_S 1 [(strB.map (fun l => l.length)).getD a 0] [strB.getD a []] (fun _ => gX E a) (fun _ => gX E (a + 10)) (aW E) U H :=
  ⟨fun i hi => by
    have e : i = 0 := by omega
    subst e
    exact h.1 a ha, fun i j hi hj _ => by omega⟩
/-- what lies outside: words of the tables that are said of each state, texts, two statics of the JDK, kinds that are no others, the script -/
def Ext (E : En) (U : State) (H : Heap) : Prop :=
  (∀ w ∈ lw_tbl, isNC w = true → va_Nw w U) ∧
  (∀ C : String, Cond.arrayOver (.object C) ∈ lw_tbl → va_AO C U) ∧
  (∀ k, k < 10 → vk_R (cnm (strO k).1) (strO k).2 (strs.getD k "") (gX E k) U) ∧
  StrS E U H ∧
  va_Z "java/lang/String" "COMPACT_STRINGS" "Z" (.int 1) (aW E) U H ∧
  va_Z "jdk/internal/util/Preconditions" "SIOOBE_FORMATTER" "Ljava/util/function/BiFunction;" (va_rf (gF E)) (aW E) U H ∧
  (∀ ci ∈ pers, ∀ c ∈ pers, isSub ci c = false → va_Nc (cnm ci) (cnm c) U) ∧
  va_X (gX E 31) (gL E) (gS E) U H ∧ gX E 31 < H.size ∧ gX E 31 < gB E
theorem Ext.moved {E : En} {s U : State} {H H1 : Heap} (hW : s.WarmedH U.vm) (hq : ∀ a : Nat, a < H.size → ¬ aW E a → H1[a]? = H[a]?) (hz : H.size ≤ H1.size) (h : Ext E s H) : Ext E U H1 := by
  obtain ⟨h1, h2, h3, h4, h5, h6, h7, h8, h9, h10⟩ := h
  refine ⟨fun w hw hn => ?_, fun C hC => va_AO.moved hW.alike (h2 C hC), fun k hk => vk_R.warm hW (h3 k hk), StrS.moved hW.alike (h4.kept hq), va_Z.moved hW.alike (h5.kept hq), va_Z.moved hW.alike (h6.kept hq), fun ci hci c hc hs => va_Nc.moved hW.alike (h7 ci hci c hc hs), va_X.moved hW.alike (h8.kept (hq _ h9 (Nat.not_le.mpr h10))), Nat.lt_of_lt_of_le h9 hz, h10⟩
  have hz := h1 w hw hn
  cases w with
  | methodLinkNest a i x hh => exact va_Nw.warmM hW hz
  | castable C T => exact va_Nw.warmC hW hz
  | _ => cases hn
/-- the world at a heap -/
def Wh (E : En) (T : Tb) (n : Nat) (K : Mk) (S : Mi) (G : Ml) (P : Mr) (H : Heap) : Prop := T.1 ≤ n ∧ va_P (gG E) vwC (wsl E T n K S G P) H
/-- one frame's room -/
def rmD (D c : Nat) : Room := { frames := D, cells := c, slots := 1000 * c, locals := 64 * D + 40 }
def retI (r : Option Value) (i : Instr) : Prop := match r with
  | none => i = .return_
  | some (.int _) => i = .ireturn
  | some (.long _) => i = .lreturn
  | some (.ref _) => i = .areturn
  | _ => False
def rzOk (rz : Nat) (r : Option Value) : Prop := match r with
  | some (.int x) => match rz with
    | 0 => True
    | 1 => narrow .boolean (.int x) = .int x
    | 2 => narrow .char (.int x) = .int x
    | 3 => narrow .byte (.int x) = .int x
    | _ => False
  | some (.long _) => rz = 4
  | some (.ref _) => rz = 5
  | none => rz = 6
  | _ => False
/-- the run's context: Z is what its end must say, Q what the calculus says of it -/
def Cx (p : Program) (l : Launch) (e : Env) (R : Room) (s : State) (m : MethodId) (args : Array Value) (below : List Frame) (meth : Method) (c : Code) (E : En) (T : Tb) (j D rz mc : Nat) (ini : Bool) (Z : State → Prop) (Q : QT) : Prop :=
  p.tables.exec = Jvm.exec ∧ c.code = bb j ∧ c.maxLocals = mL j ∧ s.vm.findClass (cnm (ow j)) = some m.cls ∧ (∀ w ∈ gtbl, w.before args s = true) ∧ va_K (gG E) vwC (tysE E) s ∧ Ext E s s.heap ∧ gB E ≤ s.heap.size ∧
  (D + 1 ≤ R.frames ∧ 64 * D + 104 ≤ R.locals ∧ mc ≤ R.cells ∧ 1000 * mc ≤ R.slots) ∧ (ini = true → meth.name = "<init>") ∧ j < nMeth ∧ ow j < 19 ∧
  ∀ (r : Option Value) (n : Nat) (K : Mk) (S : Mi) (G : Ml) (P : Mr) (cs : Nat) (H : Heap) (locs : List Loc) (ls : Array Slot) (pc : Nat) (i : Instr), Q r n K S G P → Wh E T n K S G P H → va_S (aW E) s.heap H locs → cs ≤ mc → (Nat.ble 600 mc || Nat.beq cs mc) = true → s.heap.size + cs = gB E + n → retI r i → rzOk rz r → decode (bb j) pc = .ok (i, 1) → W p l e R s m args below meth c H locs cs (1000 * cs) Z (F0 m pc ls ((r.map (tv E)).toList))
/-- the machine, from a state of the calculus on, comes to its end -/
def AtW (p : Program) (l : Launch) (e : Env) (R : Room) (s : State) (m : MethodId) (args : Array Value) (below : List Frame) (meth : Method) (c : Code) (E : En) (T : Tb) (j mc : Nat) (Z : State → Prop) : PT := fun pc lo st n K S G P cs =>
  ∀ (H : Heap) (locs : List Loc) (ls : Array Slot), Wh E T n K S G P H → lh E ls (mL j) lo → va_S (aW E) s.heap H locs → cs ≤ mc → s.heap.size + cs = gB E + n → W p l e R s m args below meth c H locs cs (1000 * cs) Z (F0 m pc ls (st.map (tv E)))
section A
variable {p : Program} {l : Launch} {e : Env} {R : Room} {s : State} {m : MethodId} {args : Array Value} {below : List Frame} {meth : Method} {c : Code} {E : En} {T : Tb} {j D rz mc : Nat} {ini : Bool} {Z : State → Prop} {Q : QT} {nx : PT}
variable {pc nt : Nat} {lo st : List Value} {n : Nat} {K : Mk} {S : Mi} {G : Ml} {P : Mr} {cs : Nat}
abbrev NX (p : Program) (l : Launch) (e : Env) (R : Room) (s : State) (m : MethodId) (args : Array Value) (below : List Frame) (meth : Method) (c : Code) (E : En) (T : Tb) (j mc : Nat) (Z : State → Prop) (nx : PT) : Prop := ∀ (pc : Nat) (lo st : List Value) (n : Nat) (K : Mk) (S : Mi) (G : Ml) (P : Mr) (cs : Nat), nx pc lo st n K S G P cs → AtW p l e R s m args below meth c E T j mc Z pc lo st n K S G P cs
theorem s_iconst {x : Int} {v : Int32} (C : Cx p l e R s m args below meth c E T j D rz mc ini Z Q) (hN : NX p l e R s m args below meth c E T j mc Z nx) (hd : decode (bb j) pc = .ok (.iconst x, 1)) (hv : Int32.ofInt x = v) (h : nx (pc + 1) lo (.int v :: st) n K S G P cs) : AtW p l e R s m args below meth c E T j mc Z pc lo st n K S G P cs := by
  intro H locs ls hw hl hS hc hz
  exact lv_iconst C.1 C.2.1 hd hv (hN _ _ _ _ _ _ _ _ _ h H locs ls hw hl hS hc hz)
theorem s_bipush {x : Int} {v : Int32} (C : Cx p l e R s m args below meth c E T j D rz mc ini Z Q) (hN : NX p l e R s m args below meth c E T j mc Z nx) (hd : decode (bb j) pc = .ok (.bipush x, 2)) (hv : (Int8.ofInt x).toInt32 = v) (h : nx (pc + 2) lo (.int v :: st) n K S G P cs) : AtW p l e R s m args below meth c E T j mc Z pc lo st n K S G P cs := by
  intro H locs ls hw hl hS hc hz
  exact lv_bipush C.1 C.2.1 hd hv (hN _ _ _ _ _ _ _ _ _ h H locs ls hw hl hS hc hz)
theorem s_sipush {x : Int} {v : Int32} (C : Cx p l e R s m args below meth c E T j D rz mc ini Z Q) (hN : NX p l e R s m args below meth c E T j mc Z nx) (hd : decode (bb j) pc = .ok (.sipush x, 3)) (hv : (Int16.ofInt x).toInt32 = v) (h : nx (pc + 3) lo (.int v :: st) n K S G P cs) : AtW p l e R s m args below meth c E T j mc Z pc lo st n K S G P cs := by
  intro H locs ls hw hl hS hc hz
  exact lv_sipush C.1 C.2.1 hd hv (hN _ _ _ _ _ _ _ _ _ h H locs ls hw hl hS hc hz)
theorem s_lconst {x : Fin 2} (C : Cx p l e R s m args below meth c E T j D rz mc ini Z Q) (hN : NX p l e R s m args below meth c E T j mc Z nx) (hd : decode (bb j) pc = .ok (.lconst x, 1)) (h : nx (pc + 1) lo (.long (Int64.ofNat (x : Nat)) :: st) n K S G P cs) : AtW p l e R s m args below meth c E T j mc Z pc lo st n K S G P cs := by
  intro H locs ls hw hl hS hc hz
  exact lv_lconst C.1 C.2.1 hd rfl (hN _ _ _ _ _ _ _ _ _ h H locs ls hw hl hS hc hz)
theorem s_null (C : Cx p l e R s m args below meth c E T j D rz mc ini Z Q) (hN : NX p l e R s m args below meth c E T j mc Z nx) (hd : decode (bb j) pc = .ok (.aconst_null, 1)) (h : nx (pc + 1) lo (.null :: st) n K S G P cs) : AtW p l e R s m args below meth c E T j mc Z pc lo st n K S G P cs := by
  intro H locs ls hw hl hS hc hz
  exact lv_null C.1 C.2.1 hd (hN _ _ _ _ _ _ _ _ _ h H locs ls hw hl hS hc hz)
theorem s_iload {i : Nat} (C : Cx p l e R s m args below meth c E T j D rz mc ini Z Q) (hN : NX p l e R s m args below meth c E T j mc Z nx) (hd : decode (bb j) pc = .ok (.iload i, 2)) (h : i_ild i nx (pc + 2) lo st n K S G P cs) : AtW p l e R s m args below meth c E T j mc Z pc lo st n K S G P cs := by
  intro H locs ls hw hl hS hc hz
  unfold i_ild at h
  split at h
  · rename_i x hx
    exact lv_iload C.1 C.2.1 hd (lh_at hl hx rfl) (hN _ _ _ _ _ _ _ _ _ h H locs ls hw hl hS hc hz)
  · exact h.elim
theorem s_iload_n {i : Fin 4} (C : Cx p l e R s m args below meth c E T j D rz mc ini Z Q) (hN : NX p l e R s m args below meth c E T j mc Z nx) (hd : decode (bb j) pc = .ok (.iload_n i, 1)) (h : i_ild (i : Nat) nx (pc + 1) lo st n K S G P cs) : AtW p l e R s m args below meth c E T j mc Z pc lo st n K S G P cs := by
  intro H locs ls hw hl hS hc hz
  unfold i_ild at h
  split at h
  · rename_i x hx
    exact lv_iload_n C.1 C.2.1 hd rfl (lh_at hl hx rfl) (hN _ _ _ _ _ _ _ _ _ h H locs ls hw hl hS hc hz)
  · exact h.elim
theorem s_lload {i : Nat} (C : Cx p l e R s m args below meth c E T j D rz mc ini Z Q) (hN : NX p l e R s m args below meth c E T j mc Z nx) (hd : decode (bb j) pc = .ok (.lload i, 2)) (h : i_lld i nx (pc + 2) lo st n K S G P cs) : AtW p l e R s m args below meth c E T j mc Z pc lo st n K S G P cs := by
  intro H locs ls hw hl hS hc hz
  unfold i_lld at h
  split at h
  · rename_i x hx
    exact lv_lload C.1 C.2.1 hd (lh_at hl hx rfl) (hN _ _ _ _ _ _ _ _ _ h H locs ls hw hl hS hc hz)
  · exact h.elim
theorem s_lload_n {i : Fin 4} (C : Cx p l e R s m args below meth c E T j D rz mc ini Z Q) (hN : NX p l e R s m args below meth c E T j mc Z nx) (hd : decode (bb j) pc = .ok (.lload_n i, 1)) (h : i_lld (i : Nat) nx (pc + 1) lo st n K S G P cs) : AtW p l e R s m args below meth c E T j mc Z pc lo st n K S G P cs := by
  intro H locs ls hw hl hS hc hz
  unfold i_lld at h
  split at h
  · rename_i x hx
    exact lv_lload_n C.1 C.2.1 hd rfl (lh_at hl hx rfl) (hN _ _ _ _ _ _ _ _ _ h H locs ls hw hl hS hc hz)
  · exact h.elim
theorem s_aload {i : Nat} (C : Cx p l e R s m args below meth c E T j D rz mc ini Z Q) (hN : NX p l e R s m args below meth c E T j mc Z nx) (hd : decode (bb j) pc = .ok (.aload i, 2)) (h : i_ald i nx (pc + 2) lo st n K S G P cs) : AtW p l e R s m args below meth c E T j mc Z pc lo st n K S G P cs := by
  intro H locs ls hw hl hS hc hz
  unfold i_ald at h
  split at h
  · rename_i x hx
    exact lv_aload C.1 C.2.1 hd (lh_at hl hx rfl) (hN _ _ _ _ _ _ _ _ _ h H locs ls hw hl hS hc hz)
  · rename_i hx
    have h1 := lh_at hl hx rfl
    have h2 := hN _ _ _ _ _ _ _ _ _ h H locs ls hw hl hS hc hz
    cases hf : gF E with
    | none =>
      simp only [List.map_cons, tv, if_true, hf] at h1 h2
      exact lv_aloadN C.1 C.2.1 hd h1 h2
    | some a =>
      simp only [List.map_cons, tv, if_true, hf] at h1 h2
      exact lv_aload C.1 C.2.1 hd h1 h2
  · exact h.elim
theorem s_aload_n {i : Fin 4} (C : Cx p l e R s m args below meth c E T j D rz mc ini Z Q) (hN : NX p l e R s m args below meth c E T j mc Z nx) (hd : decode (bb j) pc = .ok (.aload_n i, 1)) (h : i_ald (i : Nat) nx (pc + 1) lo st n K S G P cs) : AtW p l e R s m args below meth c E T j mc Z pc lo st n K S G P cs := by
  intro H locs ls hw hl hS hc hz
  unfold i_ald at h
  split at h
  · rename_i x hx
    exact lv_aload_n C.1 C.2.1 hd rfl (lh_at hl hx rfl) (hN _ _ _ _ _ _ _ _ _ h H locs ls hw hl hS hc hz)
  · rename_i hx
    have h1 := lh_at hl hx rfl
    have h2 := hN _ _ _ _ _ _ _ _ _ h H locs ls hw hl hS hc hz
    cases hf : gF E with
    | none =>
      simp only [List.map_cons, tv, if_true, hf] at h1 h2
      exact lv_aload_nN C.1 C.2.1 hd rfl h1 h2
    | some a =>
      simp only [List.map_cons, tv, if_true, hf] at h1 h2
      exact lv_aload_n C.1 C.2.1 hd rfl h1 h2
  · exact h.elim
theorem s_istore {i : Nat} (C : Cx p l e R s m args below meth c E T j D rz mc ini Z Q) (hN : NX p l e R s m args below meth c E T j mc Z nx) (hd : decode (bb j) pc = .ok (.istore i, 2)) (h : i_ist i nx (pc + 2) lo st n K S G P cs) : AtW p l e R s m args below meth c E T j mc Z pc lo st n K S G P cs := by
  intro H locs ls hw hl hS hc hz
  unfold i_ist at h
  split at h
  · obtain ⟨lo', h1, h2⟩ := lsk_spec _ _ _ _ h
    exact lv_istore C.1 C.2.1 hd (lh_has hl) (by rw [← hl.2.1]; exact h2.2.1) rfl (fun ls' hl' => hN _ _ _ _ _ _ _ _ _ h1 H locs ls' hw (lh_st1 hl h2 hl') hS hc hz)
  · exact h.elim
theorem s_istore_n {i : Fin 4} (C : Cx p l e R s m args below meth c E T j D rz mc ini Z Q) (hN : NX p l e R s m args below meth c E T j mc Z nx) (hd : decode (bb j) pc = .ok (.istore_n i, 1)) (h : i_ist (i : Nat) nx (pc + 1) lo st n K S G P cs) : AtW p l e R s m args below meth c E T j mc Z pc lo st n K S G P cs := by
  intro H locs ls hw hl hS hc hz
  unfold i_ist at h
  split at h
  · obtain ⟨lo', h1, h2⟩ := lsk_spec _ _ _ _ h
    exact lv_istore_n C.1 C.2.1 hd rfl (lh_has hl) (by rw [← hl.2.1]; exact h2.2.1) rfl (fun ls' hl' => hN _ _ _ _ _ _ _ _ _ h1 H locs ls' hw (lh_st1 hl h2 hl') hS hc hz)
  · exact h.elim
theorem s_astore {i : Nat} (C : Cx p l e R s m args below meth c E T j D rz mc ini Z Q) (hN : NX p l e R s m args below meth c E T j mc Z nx) (hd : decode (bb j) pc = .ok (.astore i, 2)) (h : i_ast i nx (pc + 2) lo st n K S G P cs) : AtW p l e R s m args below meth c E T j mc Z pc lo st n K S G P cs := by
  intro H locs ls hw hl hS hc hz
  unfold i_ast at h
  split at h
  · obtain ⟨lo', h1, h2⟩ := lsk_spec _ _ _ _ h
    exact lv_astore C.1 C.2.1 hd (lh_has hl) (by rw [← hl.2.1]; exact h2.2.1) rfl (fun ls' hl' => hN _ _ _ _ _ _ _ _ _ h1 H locs ls' hw (lh_st1 hl h2 hl') hS hc hz)
  · exact h.elim
theorem s_astore_n {i : Fin 4} (C : Cx p l e R s m args below meth c E T j D rz mc ini Z Q) (hN : NX p l e R s m args below meth c E T j mc Z nx) (hd : decode (bb j) pc = .ok (.astore_n i, 1)) (h : i_ast (i : Nat) nx (pc + 1) lo st n K S G P cs) : AtW p l e R s m args below meth c E T j mc Z pc lo st n K S G P cs := by
  intro H locs ls hw hl hS hc hz
  unfold i_ast at h
  split at h
  · obtain ⟨lo', h1, h2⟩ := lsk_spec _ _ _ _ h
    exact lv_astore_n C.1 C.2.1 hd rfl (lh_has hl) (by rw [← hl.2.1]; exact h2.2.1) rfl (fun ls' hl' => hN _ _ _ _ _ _ _ _ _ h1 H locs ls' hw (lh_st1 hl h2 hl') hS hc hz)
  · exact h.elim
theorem s_lstore {i : Nat} (C : Cx p l e R s m args below meth c E T j D rz mc ini Z Q) (hN : NX p l e R s m args below meth c E T j mc Z nx) (hd : decode (bb j) pc = .ok (.lstore i, 2)) (h : i_lst i nx (pc + 2) lo st n K S G P cs) : AtW p l e R s m args below meth c E T j mc Z pc lo st n K S G P cs := by
  intro H locs ls hw hl hS hc hz
  unfold i_lst at h
  split at h
  · obtain ⟨l1, h1, h2⟩ := lsk_spec _ _ _ _ h
    obtain ⟨lo', h3, h4⟩ := lsr_spec _ _ _ h1
    exact lv_lstore C.1 C.2.1 hd (lh_has hl) (by have := h4.2.1; rw [h2.1, hl.2.1] at this; exact this) rfl (fun ls' hl' => hN _ _ _ _ _ _ _ _ _ h3 H locs ls' hw (lh_st2 hl h2 h4 hl') hS hc hz)
  · exact h.elim
theorem s_lstore_n {i : Fin 4} (C : Cx p l e R s m args below meth c E T j D rz mc ini Z Q) (hN : NX p l e R s m args below meth c E T j mc Z nx) (hd : decode (bb j) pc = .ok (.lstore_n i, 1)) (h : i_lst (i : Nat) nx (pc + 1) lo st n K S G P cs) : AtW p l e R s m args below meth c E T j mc Z pc lo st n K S G P cs := by
  intro H locs ls hw hl hS hc hz
  unfold i_lst at h
  split at h
  · obtain ⟨l1, h1, h2⟩ := lsk_spec _ _ _ _ h
    obtain ⟨lo', h3, h4⟩ := lsr_spec _ _ _ h1
    exact lv_lstore_n C.1 C.2.1 hd rfl (lh_has hl) (by have := h4.2.1; rw [h2.1, hl.2.1] at this; exact this) rfl (fun ls' hl' => hN _ _ _ _ _ _ _ _ _ h3 H locs ls' hw (lh_st2 hl h2 h4 hl') hS hc hz)
  · exact h.elim
theorem s_iinc {i : Nat} {x : Int} {v : Int32} (C : Cx p l e R s m args below meth c E T j D rz mc ini Z Q) (hN : NX p l e R s m args below meth c E T j mc Z nx) (hd : decode (bb j) pc = .ok (.iinc i x, 3)) (hv : Int32.ofInt x = v) (h : i_inc i v nx (pc + 3) lo st n K S G P cs) : AtW p l e R s m args below meth c E T j mc Z pc lo st n K S G P cs := by
  intro H locs ls hw hl hS hc hz
  unfold i_inc at h
  split at h
  · rename_i y hy
    obtain ⟨lo', h1, h2⟩ := lsk_spec _ _ _ _ h
    obtain ⟨k, hk⟩ := List.getElem?_of_mem (lps_in (E := E) hy rfl)
    exact lv_iinc C.1 C.2.1 hd (lh_has hl) hk (by rw [hv]) (by rw [← hl.2.1]; exact h2.2.1) rfl (fun ls' hl' => hN _ _ _ _ _ _ _ _ _ h1 H locs ls' hw (lh_st1 hl h2 hl') hS hc hz)
  · exact h.elim
end A
end

noncomputable section
theorem iP {c A B : Prop} [Decidable c] (z : c) (h : if c then A else B) : A := by rwa [if_pos z] at h
theorem iN {c A B : Prop} [Decidable c] (z : ¬ c) (h : if c then A else B) : B := by rwa [if_neg z] at h
section A
variable {p : Program} {l : Launch} {e : Env} {R : Room} {s : State} {m : MethodId} {args : Array Value} {below : List Frame} {meth : Method} {c : Code} {E : En} {T : Tb} {j D rz mc : Nat} {ini : Bool} {Z : State → Prop} {Q : QT} {nx : PT}
variable {pc nt : Nat} {lo st : List Value} {n : Nat} {K : Mk} {S : Mi} {G : Ml} {P : Mr} {cs : Nat}
theorem s_iadd (C : Cx p l e R s m args below meth c E T j D rz mc ini Z Q) (hN : NX p l e R s m args below meth c E T j mc Z nx) (hd : decode (bb j) pc = .ok (.iadd, 1)) (h : i_bin (fun x y => x + y) nx (pc + 1) lo st n K S G P cs) : AtW p l e R s m args below meth c E T j mc Z pc lo st n K S G P cs := by
  intro H locs ls hw hl hS hc hz
  unfold i_bin at h
  split at h
  · exact lv_iadd C.1 C.2.1 hd (hN _ _ _ _ _ _ _ _ _ h H locs ls hw hl hS hc hz)
  · exact h.elim
theorem s_isub (C : Cx p l e R s m args below meth c E T j D rz mc ini Z Q) (hN : NX p l e R s m args below meth c E T j mc Z nx) (hd : decode (bb j) pc = .ok (.isub, 1)) (h : i_bin (fun x y => x - y) nx (pc + 1) lo st n K S G P cs) : AtW p l e R s m args below meth c E T j mc Z pc lo st n K S G P cs := by
  intro H locs ls hw hl hS hc hz
  unfold i_bin at h
  split at h
  · exact lv_isub C.1 C.2.1 hd (hN _ _ _ _ _ _ _ _ _ h H locs ls hw hl hS hc hz)
  · exact h.elim
theorem s_imul (C : Cx p l e R s m args below meth c E T j D rz mc ini Z Q) (hN : NX p l e R s m args below meth c E T j mc Z nx) (hd : decode (bb j) pc = .ok (.imul, 1)) (h : i_bin (fun x y => x * y) nx (pc + 1) lo st n K S G P cs) : AtW p l e R s m args below meth c E T j mc Z pc lo st n K S G P cs := by
  intro H locs ls hw hl hS hc hz
  unfold i_bin at h
  split at h
  · exact lv_imul C.1 C.2.1 hd (hN _ _ _ _ _ _ _ _ _ h H locs ls hw hl hS hc hz)
  · exact h.elim
theorem s_iand (C : Cx p l e R s m args below meth c E T j D rz mc ini Z Q) (hN : NX p l e R s m args below meth c E T j mc Z nx) (hd : decode (bb j) pc = .ok (.iand, 1)) (h : i_bin (fun x y => x &&& y) nx (pc + 1) lo st n K S G P cs) : AtW p l e R s m args below meth c E T j mc Z pc lo st n K S G P cs := by
  intro H locs ls hw hl hS hc hz
  unfold i_bin at h
  split at h
  · exact lv_iand C.1 C.2.1 hd (hN _ _ _ _ _ _ _ _ _ h H locs ls hw hl hS hc hz)
  · exact h.elim
theorem s_ior (C : Cx p l e R s m args below meth c E T j D rz mc ini Z Q) (hN : NX p l e R s m args below meth c E T j mc Z nx) (hd : decode (bb j) pc = .ok (.ior, 1)) (h : i_bin (fun x y => x ||| y) nx (pc + 1) lo st n K S G P cs) : AtW p l e R s m args below meth c E T j mc Z pc lo st n K S G P cs := by
  intro H locs ls hw hl hS hc hz
  unfold i_bin at h
  split at h
  · exact lv_ior C.1 C.2.1 hd (hN _ _ _ _ _ _ _ _ _ h H locs ls hw hl hS hc hz)
  · exact h.elim
theorem s_ixor (C : Cx p l e R s m args below meth c E T j D rz mc ini Z Q) (hN : NX p l e R s m args below meth c E T j mc Z nx) (hd : decode (bb j) pc = .ok (.ixor, 1)) (h : i_bin (fun x y => x ^^^ y) nx (pc + 1) lo st n K S G P cs) : AtW p l e R s m args below meth c E T j mc Z pc lo st n K S G P cs := by
  intro H locs ls hw hl hS hc hz
  unfold i_bin at h
  split at h
  · exact lv_ixor C.1 C.2.1 hd (hN _ _ _ _ _ _ _ _ _ h H locs ls hw hl hS hc hz)
  · exact h.elim
theorem s_ishl (C : Cx p l e R s m args below meth c E T j D rz mc ini Z Q) (hN : NX p l e R s m args below meth c E T j mc Z nx) (hd : decode (bb j) pc = .ok (.ishl, 1)) (h : i_bin (fun x y => x <<< (y &&& 31)) nx (pc + 1) lo st n K S G P cs) : AtW p l e R s m args below meth c E T j mc Z pc lo st n K S G P cs := by
  intro H locs ls hw hl hS hc hz
  unfold i_bin at h
  split at h
  · exact lv_ishl C.1 C.2.1 hd (hN _ _ _ _ _ _ _ _ _ h H locs ls hw hl hS hc hz)
  · exact h.elim
theorem s_ishr (C : Cx p l e R s m args below meth c E T j D rz mc ini Z Q) (hN : NX p l e R s m args below meth c E T j mc Z nx) (hd : decode (bb j) pc = .ok (.ishr, 1)) (h : i_bin (fun x y => x >>> (y &&& 31)) nx (pc + 1) lo st n K S G P cs) : AtW p l e R s m args below meth c E T j mc Z pc lo st n K S G P cs := by
  intro H locs ls hw hl hS hc hz
  unfold i_bin at h
  split at h
  · exact lv_ishr C.1 C.2.1 hd (hN _ _ _ _ _ _ _ _ _ h H locs ls hw hl hS hc hz)
  · exact h.elim
theorem s_iushr (C : Cx p l e R s m args below meth c E T j D rz mc ini Z Q) (hN : NX p l e R s m args below meth c E T j mc Z nx) (hd : decode (bb j) pc = .ok (.iushr, 1)) (h : i_bin (fun x y => (x.toUInt32 >>> (y.toUInt32 &&& Int32.toUInt32 31)).toInt32) nx (pc + 1) lo st n K S G P cs) : AtW p l e R s m args below meth c E T j mc Z pc lo st n K S G P cs := by
  intro H locs ls hw hl hS hc hz
  unfold i_bin at h
  split at h
  · exact lv_iushr C.1 C.2.1 hd rfl (hN _ _ _ _ _ _ _ _ _ h H locs ls hw hl hS hc hz)
  · exact h.elim
theorem s_idiv (C : Cx p l e R s m args below meth c E T j D rz mc ini Z Q) (hN : NX p l e R s m args below meth c E T j mc Z nx) (hd : decode (bb j) pc = .ok (.idiv, 1)) (h : i_div (fun x y => x / y) nx (pc + 1) lo st n K S G P cs) : AtW p l e R s m args below meth c E T j mc Z pc lo st n K S G P cs := by
  intro H locs ls hw hl hS hc hz
  unfold i_div at h
  split at h
  · split at h
    · exact h.elim
    · rename_i hy
      exact lv_idiv C.1 C.2.1 hd hy (hN _ _ _ _ _ _ _ _ _ h H locs ls hw hl hS hc hz)
  · exact h.elim
theorem s_irem (C : Cx p l e R s m args below meth c E T j D rz mc ini Z Q) (hN : NX p l e R s m args below meth c E T j mc Z nx) (hd : decode (bb j) pc = .ok (.irem, 1)) (h : i_div (fun x y => x - x / y * y) nx (pc + 1) lo st n K S G P cs) : AtW p l e R s m args below meth c E T j mc Z pc lo st n K S G P cs := by
  intro H locs ls hw hl hS hc hz
  unfold i_div at h
  split at h
  · split at h
    · exact h.elim
    · rename_i hy
      exact lv_irem C.1 C.2.1 hd hy (hN _ _ _ _ _ _ _ _ _ h H locs ls hw hl hS hc hz)
  · exact h.elim
theorem s_ineg (C : Cx p l e R s m args below meth c E T j D rz mc ini Z Q) (hN : NX p l e R s m args below meth c E T j mc Z nx) (hd : decode (bb j) pc = .ok (.ineg, 1)) (h : i_un (fun x => -x) nx (pc + 1) lo st n K S G P cs) : AtW p l e R s m args below meth c E T j mc Z pc lo st n K S G P cs := by
  intro H locs ls hw hl hS hc hz
  unfold i_un at h
  split at h
  · exact lv_ineg C.1 C.2.1 hd (hN _ _ _ _ _ _ _ _ _ h H locs ls hw hl hS hc hz)
  · exact h.elim
theorem s_i2b (C : Cx p l e R s m args below meth c E T j D rz mc ini Z Q) (hN : NX p l e R s m args below meth c E T j mc Z nx) (hd : decode (bb j) pc = .ok (.i2b, 1)) (h : i_un (fun x => x.toInt8.toInt32) nx (pc + 1) lo st n K S G P cs) : AtW p l e R s m args below meth c E T j mc Z pc lo st n K S G P cs := by
  intro H locs ls hw hl hS hc hz
  unfold i_un at h
  split at h
  · exact lv_i2b C.1 C.2.1 hd rfl (hN _ _ _ _ _ _ _ _ _ h H locs ls hw hl hS hc hz)
  · exact h.elim
theorem s_i2s (C : Cx p l e R s m args below meth c E T j D rz mc ini Z Q) (hN : NX p l e R s m args below meth c E T j mc Z nx) (hd : decode (bb j) pc = .ok (.i2s, 1)) (h : i_un (fun x => x.toInt16.toInt32) nx (pc + 1) lo st n K S G P cs) : AtW p l e R s m args below meth c E T j mc Z pc lo st n K S G P cs := by
  intro H locs ls hw hl hS hc hz
  unfold i_un at h
  split at h
  · exact lv_i2s C.1 C.2.1 hd rfl (hN _ _ _ _ _ _ _ _ _ h H locs ls hw hl hS hc hz)
  · exact h.elim
theorem s_i2c (C : Cx p l e R s m args below meth c E T j D rz mc ini Z Q) (hN : NX p l e R s m args below meth c E T j mc Z nx) (hd : decode (bb j) pc = .ok (.i2c, 1)) (h : i_un (fun x => (x.toUInt32 % 65536).toInt32) nx (pc + 1) lo st n K S G P cs) : AtW p l e R s m args below meth c E T j mc Z pc lo st n K S G P cs := by
  intro H locs ls hw hl hS hc hz
  unfold i_un at h
  split at h
  · exact lv_i2c C.1 C.2.1 hd rfl (hN _ _ _ _ _ _ _ _ _ h H locs ls hw hl hS hc hz)
  · exact h.elim
theorem s_i2l (C : Cx p l e R s m args below meth c E T j D rz mc ini Z Q) (hN : NX p l e R s m args below meth c E T j mc Z nx) (hd : decode (bb j) pc = .ok (.i2l, 1)) (h : (match st with | .int x :: q => nx (pc + 1) lo (.long x.toInt64 :: q) n K S G P cs | _ => False)) : AtW p l e R s m args below meth c E T j mc Z pc lo st n K S G P cs := by
  intro H locs ls hw hl hS hc hz
  split at h
  · exact lv_i2l C.1 C.2.1 hd rfl (hN _ _ _ _ _ _ _ _ _ h H locs ls hw hl hS hc hz)
  · exact h.elim
theorem s_l2i (C : Cx p l e R s m args below meth c E T j D rz mc ini Z Q) (hN : NX p l e R s m args below meth c E T j mc Z nx) (hd : decode (bb j) pc = .ok (.l2i, 1)) (h : (match st with | .long x :: q => nx (pc + 1) lo (.int x.toInt32 :: q) n K S G P cs | _ => False)) : AtW p l e R s m args below meth c E T j mc Z pc lo st n K S G P cs := by
  intro H locs ls hw hl hS hc hz
  split at h
  · exact lv_l2i C.1 C.2.1 hd rfl (hN _ _ _ _ _ _ _ _ _ h H locs ls hw hl hS hc hz)
  · exact h.elim
theorem s_lcmp (C : Cx p l e R s m args below meth c E T j D rz mc ini Z Q) (hN : NX p l e R s m args below meth c E T j mc Z nx) (hd : decode (bb j) pc = .ok (.lcmp, 1)) (h : (match st with | .long y :: .long x :: q => nx (pc + 1) lo (.int (lg_cmp x y) :: q) n K S G P cs | _ => False)) : AtW p l e R s m args below meth c E T j mc Z pc lo st n K S G P cs := by
  intro H locs ls hw hl hS hc hz
  split at h
  · exact W.lcmp C.1 C.2.1 hd (hN _ _ _ _ _ _ _ _ _ h H locs ls hw hl hS hc hz)
  · exact h.elim
theorem s_ladd (C : Cx p l e R s m args below meth c E T j D rz mc ini Z Q) (hN : NX p l e R s m args below meth c E T j mc Z nx) (hd : decode (bb j) pc = .ok (.ladd, 1)) (h : i_binL (fun x y => x + y) nx (pc + 1) lo st n K S G P cs) : AtW p l e R s m args below meth c E T j mc Z pc lo st n K S G P cs := by
  intro H locs ls hw hl hS hc hz
  unfold i_binL at h
  split at h
  · exact lv_ladd C.1 C.2.1 hd (hN _ _ _ _ _ _ _ _ _ h H locs ls hw hl hS hc hz)
  · exact h.elim
theorem s_land (C : Cx p l e R s m args below meth c E T j D rz mc ini Z Q) (hN : NX p l e R s m args below meth c E T j mc Z nx) (hd : decode (bb j) pc = .ok (.land, 1)) (h : i_binL (fun x y => x &&& y) nx (pc + 1) lo st n K S G P cs) : AtW p l e R s m args below meth c E T j mc Z pc lo st n K S G P cs := by
  intro H locs ls hw hl hS hc hz
  unfold i_binL at h
  split at h
  · exact lv_land C.1 C.2.1 hd (hN _ _ _ _ _ _ _ _ _ h H locs ls hw hl hS hc hz)
  · exact h.elim
theorem s_lor (C : Cx p l e R s m args below meth c E T j D rz mc ini Z Q) (hN : NX p l e R s m args below meth c E T j mc Z nx) (hd : decode (bb j) pc = .ok (.lor, 1)) (h : i_binL (fun x y => x ||| y) nx (pc + 1) lo st n K S G P cs) : AtW p l e R s m args below meth c E T j mc Z pc lo st n K S G P cs := by
  intro H locs ls hw hl hS hc hz
  unfold i_binL at h
  split at h
  · exact lv_lor C.1 C.2.1 hd (hN _ _ _ _ _ _ _ _ _ h H locs ls hw hl hS hc hz)
  · exact h.elim
theorem s_lxor (C : Cx p l e R s m args below meth c E T j D rz mc ini Z Q) (hN : NX p l e R s m args below meth c E T j mc Z nx) (hd : decode (bb j) pc = .ok (.lxor, 1)) (h : i_binL (fun x y => x ^^^ y) nx (pc + 1) lo st n K S G P cs) : AtW p l e R s m args below meth c E T j mc Z pc lo st n K S G P cs := by
  intro H locs ls hw hl hS hc hz
  unfold i_binL at h
  split at h
  · exact lv_lxor C.1 C.2.1 hd (hN _ _ _ _ _ _ _ _ _ h H locs ls hw hl hS hc hz)
  · exact h.elim
theorem s_lshl (C : Cx p l e R s m args below meth c E T j D rz mc ini Z Q) (hN : NX p l e R s m args below meth c E T j mc Z nx) (hd : decode (bb j) pc = .ok (.lshl, 1)) (h : i_shL (fun x y => x <<< (y.toInt64 &&& 63)) nx (pc + 1) lo st n K S G P cs) : AtW p l e R s m args below meth c E T j mc Z pc lo st n K S G P cs := by
  intro H locs ls hw hl hS hc hz
  unfold i_shL at h
  split at h
  · exact lv_lshl C.1 C.2.1 hd rfl (hN _ _ _ _ _ _ _ _ _ h H locs ls hw hl hS hc hz)
  · exact h.elim
theorem s_lshr (C : Cx p l e R s m args below meth c E T j D rz mc ini Z Q) (hN : NX p l e R s m args below meth c E T j mc Z nx) (hd : decode (bb j) pc = .ok (.lshr, 1)) (h : i_shL (fun x y => x >>> (y.toInt64 &&& 63)) nx (pc + 1) lo st n K S G P cs) : AtW p l e R s m args below meth c E T j mc Z pc lo st n K S G P cs := by
  intro H locs ls hw hl hS hc hz
  unfold i_shL at h
  split at h
  · exact lv_lshr C.1 C.2.1 hd rfl (hN _ _ _ _ _ _ _ _ _ h H locs ls hw hl hS hc hz)
  · exact h.elim
theorem s_dup (C : Cx p l e R s m args below meth c E T j D rz mc ini Z Q) (hN : NX p l e R s m args below meth c E T j mc Z nx) (hd : decode (bb j) pc = .ok (.dup, 1)) (h : i_dup nx (pc + 1) lo st n K S G P cs) : AtW p l e R s m args below meth c E T j mc Z pc lo st n K S G P cs := by
  intro H locs ls hw hl hS hc hz
  unfold i_dup at h
  split at h
  · exact lv_dup C.1 C.2.1 hd rfl (hN _ _ _ _ _ _ _ _ _ h H locs ls hw hl hS hc hz)
  · exact lv_dup C.1 C.2.1 hd rfl (hN _ _ _ _ _ _ _ _ _ h H locs ls hw hl hS hc hz)
  · exact h.elim
theorem s_dup_x1 (C : Cx p l e R s m args below meth c E T j D rz mc ini Z Q) (hN : NX p l e R s m args below meth c E T j mc Z nx) (hd : decode (bb j) pc = .ok (.dup_x1, 1)) (h : i_dx1 nx (pc + 1) lo st n K S G P cs) : AtW p l e R s m args below meth c E T j mc Z pc lo st n K S G P cs := by
  intro H locs ls hw hl hS hc hz
  unfold i_dx1 at h
  split at h
  · exact lv_dup_x1 C.1 C.2.1 hd rfl rfl (hN _ _ _ _ _ _ _ _ _ h H locs ls hw hl hS hc hz)
  · exact h.elim
theorem s_dup2 (C : Cx p l e R s m args below meth c E T j D rz mc ini Z Q) (hN : NX p l e R s m args below meth c E T j mc Z nx) (hd : decode (bb j) pc = .ok (.dup2, 1)) (h : i_dup2 nx (pc + 1) lo st n K S G P cs) : AtW p l e R s m args below meth c E T j mc Z pc lo st n K S G P cs := by
  intro H locs ls hw hl hS hc hz
  unfold i_dup2 at h
  split at h
  · exact lv_dup2_11 C.1 C.2.1 hd rfl rfl (hN _ _ _ _ _ _ _ _ _ h H locs ls hw hl hS hc hz)
  · exact h.elim
theorem s_pop (C : Cx p l e R s m args below meth c E T j D rz mc ini Z Q) (hN : NX p l e R s m args below meth c E T j mc Z nx) (hd : decode (bb j) pc = .ok (.pop, 1)) (h : i_pop nx (pc + 1) lo st n K S G P cs) : AtW p l e R s m args below meth c E T j mc Z pc lo st n K S G P cs := by
  intro H locs ls hw hl hS hc hz
  unfold i_pop at h
  split at h
  · exact lv_pop C.1 C.2.1 hd rfl (hN _ _ _ _ _ _ _ _ _ h H locs ls hw hl hS hc hz)
  · exact h.elim
theorem s_goto {off : Int} {tg : Nat} (ht : (pc : Int) + off = (tg : Int)) (C : Cx p l e R s m args below meth c E T j D rz mc ini Z Q) (hN : NX p l e R s m args below meth c E T j mc Z nx) (hd : decode (bb j) pc = .ok (.goto off, 3)) (h : nx tg lo st n K S G P cs) : AtW p l e R s m args below meth c E T j mc Z pc lo st n K S G P cs := by
  intro H locs ls hw hl hS hc hz
  exact lv_goto C.1 C.2.1 hd ht (hN _ _ _ _ _ _ _ _ _ h H locs ls hw hl hS hc hz)
theorem s_i_c2 {q : ClassFile.Cond} {off : Int} {tg : Nat} (ht : (pc : Int) + off = (tg : Int)) (C : Cx p l e R s m args below meth c E T j D rz mc ini Z Q) (hN : NX p l e R s m args below meth c E T j mc Z nx) (hd : decode (bb j) pc = .ok (.if_icmp q off, 3)) (h : i_c2 q tg nx (pc + 3) lo st n K S G P cs) : AtW p l e R s m args below meth c E T j mc Z pc lo st n K S G P cs := by
  intro H locs ls hw hl hS hc hz
  unfold i_c2 at h
  split at h
  · cases q with
    | eq => exact lv_icmp_eq C.1 C.2.1 hd ht (fun z => hN _ _ _ _ _ _ _ _ _ (iP z h) H locs ls hw hl hS hc hz) (fun z => hN _ _ _ _ _ _ _ _ _ (iN z h) H locs ls hw hl hS hc hz)
    | ne => exact lv_icmp_ne C.1 C.2.1 hd ht (fun z => hN _ _ _ _ _ _ _ _ _ (iN z h) H locs ls hw hl hS hc hz) (fun z => hN _ _ _ _ _ _ _ _ _ (iP z h) H locs ls hw hl hS hc hz)
    | lt => exact lv_icmp_lt C.1 C.2.1 hd ht (fun z => hN _ _ _ _ _ _ _ _ _ (iP z h) H locs ls hw hl hS hc hz) (fun z => hN _ _ _ _ _ _ _ _ _ (iN z h) H locs ls hw hl hS hc hz)
    | ge => exact lv_icmp_ge C.1 C.2.1 hd ht (fun z => hN _ _ _ _ _ _ _ _ _ (iP z h) H locs ls hw hl hS hc hz) (fun z => hN _ _ _ _ _ _ _ _ _ (iN z h) H locs ls hw hl hS hc hz)
    | gt => exact lv_icmp_gt C.1 C.2.1 hd ht (fun z => hN _ _ _ _ _ _ _ _ _ (iP z h) H locs ls hw hl hS hc hz) (fun z => hN _ _ _ _ _ _ _ _ _ (iN z h) H locs ls hw hl hS hc hz)
    | le => exact lv_icmp_le C.1 C.2.1 hd ht (fun z => hN _ _ _ _ _ _ _ _ _ (iP z h) H locs ls hw hl hS hc hz) (fun z => hN _ _ _ _ _ _ _ _ _ (iN z h) H locs ls hw hl hS hc hz)
  · exact h.elim
theorem s_i_c1 {q : ClassFile.Cond} {off : Int} {tg : Nat} (ht : (pc : Int) + off = (tg : Int)) (C : Cx p l e R s m args below meth c E T j D rz mc ini Z Q) (hN : NX p l e R s m args below meth c E T j mc Z nx) (hd : decode (bb j) pc = .ok (.ifCond q off, 3)) (h : i_c1 q tg nx (pc + 3) lo st n K S G P cs) : AtW p l e R s m args below meth c E T j mc Z pc lo st n K S G P cs := by
  intro H locs ls hw hl hS hc hz
  unfold i_c1 at h
  split at h
  · cases q with
    | eq => exact lv_if_eq C.1 C.2.1 hd ht (fun z => hN _ _ _ _ _ _ _ _ _ (iP z h) H locs ls hw hl hS hc hz) (fun z => hN _ _ _ _ _ _ _ _ _ (iN z h) H locs ls hw hl hS hc hz)
    | ne => exact lv_if_ne C.1 C.2.1 hd ht (fun z => hN _ _ _ _ _ _ _ _ _ (iN z h) H locs ls hw hl hS hc hz) (fun z => hN _ _ _ _ _ _ _ _ _ (iP z h) H locs ls hw hl hS hc hz)
    | lt => exact lv_if_lt C.1 C.2.1 hd ht (fun z => hN _ _ _ _ _ _ _ _ _ (iP z h) H locs ls hw hl hS hc hz) (fun z => hN _ _ _ _ _ _ _ _ _ (iN z h) H locs ls hw hl hS hc hz)
    | ge => exact lv_if_ge C.1 C.2.1 hd ht (fun z => hN _ _ _ _ _ _ _ _ _ (iP z h) H locs ls hw hl hS hc hz) (fun z => hN _ _ _ _ _ _ _ _ _ (iN z h) H locs ls hw hl hS hc hz)
    | gt => exact lv_if_gt C.1 C.2.1 hd ht (fun z => hN _ _ _ _ _ _ _ _ _ (iP z h) H locs ls hw hl hS hc hz) (fun z => hN _ _ _ _ _ _ _ _ _ (iN z h) H locs ls hw hl hS hc hz)
    | le => exact lv_if_le C.1 C.2.1 hd ht (fun z => hN _ _ _ _ _ _ _ _ _ (iP z h) H locs ls hw hl hS hc hz) (fun z => hN _ _ _ _ _ _ _ _ _ (iN z h) H locs ls hw hl hS hc hz)
  · exact h.elim
theorem s_ifnull {off : Int} {tg : Nat} (ht : (pc : Int) + off = (tg : Int)) (C : Cx p l e R s m args below meth c E T j D rz mc ini Z Q) (hN : NX p l e R s m args below meth c E T j mc Z nx) (hd : decode (bb j) pc = .ok (.ifnull off, 3)) (h : i_nul true tg nx (pc + 3) lo st n K S G P cs) : AtW p l e R s m args below meth c E T j mc Z pc lo st n K S G P cs := by
  intro H locs ls hw hl hS hc hz
  unfold i_nul at h
  split at h
  · exact lv_ifnull C.1 C.2.1 hd (hN _ _ _ _ _ _ _ _ _ h H locs ls hw hl hS hc hz)
  · exact lv_ifnullN C.1 C.2.1 hd ht (hN _ _ _ _ _ _ _ _ _ h H locs ls hw hl hS hc hz)
  · exact h.elim
theorem s_ifnonnull {off : Int} {tg : Nat} (ht : (pc : Int) + off = (tg : Int)) (C : Cx p l e R s m args below meth c E T j D rz mc ini Z Q) (hN : NX p l e R s m args below meth c E T j mc Z nx) (hd : decode (bb j) pc = .ok (.ifnonnull off, 3)) (h : i_nul false tg nx (pc + 3) lo st n K S G P cs) : AtW p l e R s m args below meth c E T j mc Z pc lo st n K S G P cs := by
  intro H locs ls hw hl hS hc hz
  unfold i_nul at h
  split at h
  · exact lv_ifnonnull C.1 C.2.1 hd ht (hN _ _ _ _ _ _ _ _ _ h H locs ls hw hl hS hc hz)
  · exact lv_ifnonnullN C.1 C.2.1 hd (hN _ _ _ _ _ _ _ _ _ h H locs ls hw hl hS hc hz)
  · exact h.elim
theorem swp_map {x : Int32} {d : Nat} {k : Nat → Prop} {pr : Nat → Prop} (hk : ∀ t, k t → pr t) : ∀ (sw : List (Int32 × Nat)), swp x d k sw → (∃ t, (x, t) ∈ sw ∧ (sw.find? (fun q => q.1 == x)) = some (x, t) ∧ k t) ∨ ((∀ q ∈ sw, q.1 ≠ x) ∧ k d)
  | [], h => Or.inr ⟨fun _ h => absurd h List.not_mem_nil, h⟩
  | (c0, t) :: r, h => by
    unfold swp at h
    by_cases hx : x = c0
    · rw [if_pos hx] at h
      subst hx
      exact Or.inl ⟨t, List.mem_cons_self, by simp, h⟩
    · rw [if_neg hx] at h
      rcases swp_map hk r h with ⟨t2, h1, h2, h3⟩ | ⟨h1, h2⟩
      · exact Or.inl ⟨t2, List.mem_cons_of_mem _ h1, by rw [List.find?_cons_of_neg]; exact h2; simp; exact fun q => hx q.symm, h3⟩
      · exact Or.inr ⟨fun q hq => by
          rcases List.mem_cons.mp hq with e | e
          · rw [e]; exact fun z => hx z.symm
          · exact h1 q e, h2⟩
theorem ofI_toInt {z : Int} (h1 : -100 < z) (h2 : z < 100) : (Int32.ofInt z).toInt = z := by
  rw [Int32.toInt_ofInt_of_le (by simp; omega) (by simp; omega)]

theorem s_tableswitch {d0 lo0 hi : Int} {offs : Array Int} {len0 tg : Nat} {sw : List (Int32 × Nat)} (C : Cx p l e R s m args below meth c E T j D rz mc ini Z Q) (hN : NX p l e R s m args below meth c E T j mc Z nx) (hd : decode (bb j) pc = .ok (.tableswitch d0 lo0 hi offs, len0)) (ht : (pc : Int) + d0 = (tg : Int)) (hlo : -100 < lo0) (hhi : hi < 100) (hsz : (offs.size : Int) = hi - lo0 + 1) (hsw : sw = (List.range offs.size).map (fun (i : Nat) => (Int32.ofInt (lo0 + (i : Int)), ((pc : Int) + offs.getD i 0).toNat))) (hpo : ∀ i, i < offs.size → 0 ≤ (pc : Int) + offs.getD i 0) (h : i_sw sw tg nx lo st n K S G P cs) : AtW p l e R s m args below meth c E T j mc Z pc lo st n K S G P cs := by
  intro H locs ls hw hl hS hc hz
  unfold i_sw at h
  split at h
  · rename_i x r
    have inr : ∀ i, i < offs.size → (Int32.ofInt (lo0 + (i : Int))).toInt = lo0 + i := fun i hi => ofI_toInt (by omega) (by omega)
    rcases swp_map (pr := fun _ => True) (fun _ _ => trivial) sw h with ⟨t, h1, -, h3⟩ | ⟨h1, h2⟩
    · rw [hsw] at h1
      obtain ⟨i, hi, he⟩ := List.mem_map.mp h1
      have hi := List.mem_range.mp hi
      have e1 : x = Int32.ofInt (lo0 + (i : Int)) := (congrArg Prod.fst he).symm
      have e2 : t = ((pc : Int) + offs.getD i 0).toNat := (congrArg Prod.snd he).symm
      have e3 : x.toInt = lo0 + i := by rw [e1]; exact inr i hi
      have e4 : (x.toInt - lo0).toNat = i := by omega
      have hp := hpo i hi
      refine lv_tableIn C.1 C.2.1 hd (by omega) (by omega) (off := offs.getD i 0) (by rw [e4]; simp [Array.getD, hi]) (tgt := t) (by omega) (hN _ _ _ _ _ _ _ _ _ h3 H locs ls hw hl hS hc hz)
    · refine lv_tableOut C.1 C.2.1 hd ?_ ht (hN _ _ _ _ _ _ _ _ _ h2 H locs ls hw hl hS hc hz)
      rcases Int.lt_or_le x.toInt lo0 with q | q
      · exact Or.inl q
      · rcases Int.lt_or_le hi x.toInt with q2 | q2
        · exact Or.inr q2
        · exfalso
          have hi : (x.toInt - lo0).toNat < offs.size := by omega
          refine h1 (Int32.ofInt (lo0 + ((x.toInt - lo0).toNat : Int)), _) (by rw [hsw]; exact List.mem_map.mpr ⟨_, List.mem_range.mpr hi, rfl⟩) ?_
          apply Int32.toInt_inj.mp
          rw [inr _ hi]
          omega
  · exact h.elim
theorem lko {pc : Nat} {d0 : Int} {x : Int32} {tg : Nat} {k : Nat → Prop} (ht : (pc : Int) + d0 = (tg : Int)) : ∀ (ps : List (Int × Int)), (∀ q ∈ ps, 0 ≤ (pc : Int) + q.2 ∧ -100 < q.1 ∧ q.1 < 100) → swp x tg k (ps.map (fun q => (Int32.ofInt q.1, ((pc : Int) + q.2).toNat))) → ∃ t : Nat, k t ∧ (pc : Int) + Op.lookupswitch.offset ps d0 x.toInt = (t : Int)
  | [], _, h => ⟨tg, h, ht⟩
  | (a, b) :: r, hp, h => by
    obtain ⟨g1, g2, g3⟩ := hp (a, b) List.mem_cons_self
    have ea : (Int32.ofInt a).toInt = a := ofI_toInt g2 g3
    rw [Op.lookupswitch.offset_cons]
    simp only [List.map_cons] at h
    unfold swp at h
    by_cases hx : x = Int32.ofInt a
    · rw [if_pos hx] at h
      refine ⟨_, h, ?_⟩
      have e : a = x.toInt := by rw [hx, ea]
      simp only [e, beq_self_eq_true, if_true]
      simp only at g1
      omega
    · rw [if_neg hx] at h
      obtain ⟨t, h1, h2⟩ := lko ht r (fun q hq => hp q (List.mem_cons_of_mem _ hq)) h
      refine ⟨t, h1, ?_⟩
      have e : ¬ a = x.toInt := fun z => hx (Int32.toInt_inj.mp (by rw [ea]; exact z.symm))
      simp only [beq_iff_eq, if_neg e]
      exact h2
theorem s_lookupswitch {d0 : Int} {ps : Array (Int × Int)} {len0 tg : Nat} {sw : List (Int32 × Nat)} (C : Cx p l e R s m args below meth c E T j D rz mc ini Z Q) (hN : NX p l e R s m args below meth c E T j mc Z nx) (hd : decode (bb j) pc = .ok (.lookupswitch d0 ps, len0)) (ht : (pc : Int) + d0 = (tg : Int)) (hord : (ps.toList.zip (ps.toList.drop 1)).all (fun (a, next) => a.1 < next.1) = true) (hsw : sw = ps.toList.map (fun q => (Int32.ofInt q.1, ((pc : Int) + q.2).toNat))) (hpo : ∀ q ∈ ps.toList, 0 ≤ (pc : Int) + q.2 ∧ -100 < q.1 ∧ q.1 < 100) (h : i_sw sw tg nx lo st n K S G P cs) : AtW p l e R s m args below meth c E T j mc Z pc lo st n K S G P cs := by
  intro H locs ls hw hl hS hc hz
  unfold i_sw at h
  split at h
  · rename_i x r
    rw [hsw] at h
    obtain ⟨t, h1, h2⟩ := lko ht ps.toList hpo h
    exact lv_lookup C.1 C.2.1 hd hord rfl h2 (hN _ _ _ _ _ _ _ _ _ h1 H locs ls hw hl hS hc hz)
  · exact h.elim

end A
end

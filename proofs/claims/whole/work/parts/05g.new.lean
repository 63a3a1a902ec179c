noncomputable section
theorem p7_ok : (List.range 19).all (fun o => (plo o).all (fun q => decide (q.2.1.1 = 7 → q.2.1.2.1 < 13))) = true := by decide +kernel
theorem p7_use {o i ci a b d : Nat} (ho : o < 19) (hp : poolIn o i (7, ci, a, b, d) = true) : ci < 13 := by
  obtain ⟨q, hq, h1⟩ := List.any_eq_true.mp hp
  simp only [Bool.and_eq_true, decide_eq_true_eq] at h1
  have h2 := List.all_eq_true.mp (List.all_eq_true.mp p7_ok o (List.mem_range.mpr ho)) q hq
  simp only [decide_eq_true_eq] at h2
  rw [h1.2] at h2
  exact h2 rfl
theorem fk_lt : ∀ ci, ci < 13 → ∀ k, k < nf ci → fk ci k < 3 := by decide +kernel
theorem nf_le : ∀ ci, ci < 13 → nf ci ≤ 1000 := by decide +kernel
theorem dv_kd {ty : FieldType} (h : kdT ty < 3) : defaultValue ty = if kdT ty = 2 then .null else .int 0 := by
  cases ty <;> first | rfl | (simp [kdT] at h)
theorem aw_in : (∀ a ∈ [ArrayType.int, .byte, .long, .boolean], Cond.arrayClass (newarray.typeOf a) ∈ gtbl) := by decide +kernel
section A
variable {p : Program} {l : Launch} {e : Env} {R : Room} {s : State} {m : MethodId} {args : Array Value} {below : List Frame} {meth : Method} {c : Code} {E : En} {T : Tb} {j D rz mc : Nat} {ini : Bool} {Z : State → Prop} {Q : QT} {nx : PT}
variable {pc nt : Nat} {lo st : List Value} {n : Nat} {K : Mk} {S : Mi} {G : Ml} {P : Mr} {cs : Nat}
theorem Wh.size (C : Cx p l e R s m args below meth c E T j D rz mc ini Z Q) {H : Heap} {locs : List Loc} (hw : Wh E T n K S G P H) (hS : va_S (aW E) s.heap H locs) (hz : s.heap.size + cs = gB E + n) (hX : H.size ≤ s.heap.size + cs) : H.size = gB E + n := by
  have hB := C.2.2.2.2.2.2.2.1
  have h1 := hS.1
  rcases Nat.eq_zero_or_pos n with h0 | h0
  · omega
  · have hn : n - 1 < n := by omega
    have hq : (wsl E T n K S G P)[n - 1]? = some (gB E + (n - 1), cel E (shp T K (n - 1 + 32)) (S (n - 1 + 32)) (G (n - 1 + 32)) (P (n - 1 + 32))) := by
      unfold wsl
      rw [List.getElem?_map, List.getElem?_range hn]
      rfl
    have := (hw.2 _ _ hq).lt
    simp only at this
    omega
theorem shp_upR {K : Mk} {a b ci : Nat} (h : b ≠ a) : shp T (upR K a ci) b = shp T K b := by
  unfold shp
  rw [upR_ne K ci h]
theorem push_core {H H1 : Heap} {K' : Mk} {S' : Mi} {G' : Ml} {P' : Mr} (hw : Wh E T n K S G P H) (hsz : H.size = gB E + n) (o1 : ∀ q, q < H.size → H1[q]? = H[q]?) (hK : ∀ b, b ≠ n + 32 → shp T K' b = shp T K b) (hS : ∀ b, b ≠ n + 32 → S' b = S b) (hG : ∀ b, b ≠ n + 32 → G' b = G b) (hP : ∀ b, b ≠ n + 32 → P' b = P b) (hc : va_at (gG E) vwC (H.size, cel E (shp T K' (n + 32)) (S' (n + 32)) (G' (n + 32)) (P' (n + 32))) H1) : Wh E T (n + 1) K' S' G' P' H1 := by
  refine ⟨Nat.le_succ_of_le hw.1, ?_⟩
  rw [← wsl_push E T n hsz hK hS hG hP rfl]
  refine (hw.2.kept (fun k q hq => o1 q.1 ((hw.2 k q hq).lt))).app (fun k q hq => ?_)
  have h0 : k < 1 := (List.getElem?_eq_some_iff.mp hq).1
  rw [show k = 0 by omega] at hq
  cases hq
  exact hc
theorem vaS_push {A : Nat → Prop} {H0 H H1 : Heap} {locs : List Loc} (h : va_S A H0 H locs) (hz : H.size ≤ H1.size) (o1 : ∀ q, q < H.size → H1[q]? = H[q]?) : va_S A H0 H1 locs := ⟨Nat.le_trans h.1 hz, fun q h1 h2 => (o1 q (Nat.lt_of_lt_of_le h1 h.1)).trans (h.2.1 q h1 h2), h.2.2⟩
theorem W_sz {H : Heap} {locs : List Loc} {cl sl : Nat} {g : JFrame} (k : H.size ≤ s.heap.size + cl → W p l e R s m args below meth c H locs cl sl Z g) : W p l e R s m args below meth c H locs cl sl Z g := fun T hT X => k (hT ▸ X.heapSize) T hT X
theorem s_new {i : Nat} {r : Rs} (C : Cx p l e R s m args below meth c E T j D rz mc ini Z Q) (hN : NX p l e R s m args below meth c E T j mc Z nx) (hd : decode (bb j) pc = .ok (.new i, 3)) (hp : poolIn (ow j) i r = true) (hr : r.1 = 7) (h : i_new T mc r nx (pc + 3) lo st n K S G P cs) : AtW p l e R s m args below meth c E T j mc Z pc lo st n K S G P cs := by
  intro H locs ls hw hl hS hc hz
  refine W_sz (fun hX => ?_)
  have hsz := hw.size C hS hz hX
  obtain ⟨tg, ci, r3, r4, r5⟩ := r
  simp only at hr
  subst hr
  have hci := p7_use C.2.2.2.2.2.2.2.2.2.2.2.1 hp
  unfold i_new at h
  replace h := cT h
  obtain ⟨h0, h⟩ := h
  have hcs : cs + 1 ≤ mc := Nat.ble_eq.mp h0
  split at h
  · rename_i c0 fs hsh
    replace h := cT h
    obtain ⟨h1, h⟩ := h
    simp only [Bool.and_eq_true, Nat.beq_eq] at h1
    obtain ⟨⟨h1, h2⟩, h3⟩ := h1
    subst h1
    have hno : ∀ k, fs.getD k none = none := by
      intro k
      by_cases hk : k < fs.length
      · have := List.all_eq_true.mp h3 fs[k] (List.getElem_mem hk)
        have e2 : fs[k] = none := by simpa using this
        simp [List.getD, hk, e2]
      · simp [List.getD, Nat.le_of_not_lt hk]
    have hrm := C.2.2.2.2.2.2.2.2.1
    have hKn := C.2.2.2.2.2.1.1 c0 _ (vwC_at hci)
    have hnf := nf_le c0 hci
    have hR1 : cs + 1 ≤ R.cells := by omega
    have hR2 : 1000 * cs + nf c0 ≤ R.slots := by omega
    refine W.newcK C.1 C.2.1 C.2.2.2.1 (C.word hp (w := .classLink (cnm (ow j)) i (cnm c0)) List.mem_cons_self rfl) (C.word hp (w := .instantiable (cnm c0) (nf c0)) (List.mem_cons_of_mem _ List.mem_cons_self) rfl) (C.word hp (w := .initialized (cnm c0)) (List.mem_cons_of_mem _ (List.mem_cons_of_mem _ List.mem_cons_self)) rfl) rfl hd (by omega) (by omega) hKn.2.1 rfl (fun H1 kC hkC e1 z1 o1 => ?_)
    refine W.widen (k := cs + 1) (n := 1000 * (cs + 1)) (Nat.le_refl _) (by omega) ?_
    have hw1 : Wh E T (n + 1) (upR K (n + 32) c0) (upR S (n + 32) (fun _ => 0)) G (upR P (n + 32) (fun _ => none)) H1 := by
      refine push_core hw hsz o1 (fun b hb => shp_upR hb) (fun b hb => upR_ne S _ hb) (fun _ _ => rfl) (fun b hb => upR_ne P _ hb) ?_
      rw [hsh]
      refine ⟨_, vwC_at hci, (u_born (tyT c0) C.2.2.2.2.1 (lay_good hci) hKn hkC e1 (tyT_ok c0 hci)).to (fun k hk => ?_)⟩
      simp only
      unfold vp_V
      simp only [List.getD, fvs_at E c0 fs (upR S (n + 32) (fun _ => 0) (n + 32)) (upR P (n + 32) (fun _ => none) (n + 32)) (show k < fs.length by omega), Option.getD_some]
      unfold fvl
      rw [hno k]
      simp only
      have hfk := fk_ok c0 hci k hk
      rw [dv_kd (by rw [hfk]; exact fk_lt c0 hci k hk), hfk, upR_self, upR_self]
      rfl
    have ea : ad E (n + 32) = H.size := by
      unfold ad
      rw [if_neg (by omega), hsz]
      omega
    have h4 := hN _ _ _ _ _ _ _ _ _ h H1 locs ls hw1 hl (vaS_push hS (by omega) o1) hcs (by omega)
    simp only [List.map_cons, tv, ea] at h4
    exact h4
  · exact h.elim
theorem s_newarray {a : ArrayType} (C : Cx p l e R s m args below meth c E T j D rz mc ini Z Q) (hN : NX p l e R s m args below meth c E T j mc Z nx) (hd : decode (bb j) pc = .ok (.newarray a, 2)) (h : i_newa T mc a nx (pc + 2) lo st n K S G P cs) : AtW p l e R s m args below meth c E T j mc Z pc lo st n K S G P cs := by
  intro H locs ls hw hl hS hc hz
  refine W_sz (fun hX => ?_)
  have hsz := hw.size C hS hz hX
  unfold i_newa at h
  split at h
  · rename_i x q
    replace h := cT h
    obtain ⟨h0, h⟩ := h
    have hcs : cs + 1 ≤ mc := Nat.ble_eq.mp h0
    split at h
    · rename_i t N hsh
      replace h := cAnd h
      obtain ⟨h1, h2, h⟩ := h
      have hN1 : N ≤ 1000 := Nat.ble_eq.mp h2
      split at h
      · rename_i hx
        subst hx
        have hrm := C.2.2.2.2.2.2.2.2.1
        have hcl : (nI N).toNatClampNeg = N := nI_clamp (by omega)
        have hR1 : cs + 1 ≤ R.cells := by omega
        have hR2 : 1000 * cs + N ≤ R.slots := by omega
        have hty : a ∈ [ArrayType.int, .byte, .long, .boolean] := by
          cases a <;> simp [atOk] at h1 ⊢
        have hcb : componentBytes (newarray.typeOf a) ≤ 8 := by
          cases a <;> decide
        have hbytes : N * componentBytes (newarray.typeOf a) ≤ 536870912 := by
          have : N * componentBytes (newarray.typeOf a) ≤ 1000 * 8 := Nat.mul_le_mul hN1 hcb
          omega
        refine va_newaK C.1 C.2.1 (C.2.2.2.2.1 _ (aw_in a hty)) rfl hd rfl (nI_pos (by omega)) hcl hbytes hR1 hR2 rfl (fun H1 cA e1 z1 o1 hAr hNm => ?_)
        refine W.widen (k := cs + 1) (n := 1000 * (cs + 1)) (Nat.le_refl _) (by omega) ?_
        have htt : t < 4 ∧ newarray.typeOf a = tyA t := by
          cases a <;> first | (simp [atOk] at h1; done) | (have := Nat.beq_eq.mp h1; subst this; exact ⟨by decide, rfl⟩)
        have hcA : gT E t = cA := by
          have hRA := (C.2.2.2.2.2.1.2 t _ (tysE_at E (by omega))).2
          have : s.vm.findClass ("[" ++ (tyA t).toString) = some (gT E t) := by
            rcases (show t = 0 ∨ t = 1 ∨ t = 2 ∨ t = 3 by omega) with rfl | rfl | rfl | rfl <;> exact hRA
          rw [htt.2, this] at hNm
          exact Option.some.inj hNm
        have hw1 : Wh E T (n + 1) K (upR S (n + 32) (fun _ => 0)) (upR G (n + 32) (fun _ => 0)) P H1 := by
          refine push_core hw hsz o1 (fun _ _ => rfl) (fun b hb => upR_ne S _ hb) (fun b hb => upR_ne G _ hb) (fun _ _ => rfl) ?_
          rw [hsh, upR_self, upR_self]
          show H1[H.size]? = some (vp_cell _ _)
          rw [e1, htt.2, hcA]
          rcases (show t = 0 ∨ t = 1 ∨ t = 2 ∨ t = 3 by omega) with rfl | rfl | rfl | rfl <;> rfl
        have ea : ad E (n + 32) = H.size := by
          unfold ad
          rw [if_neg (by omega), hsz]
          omega
        have h4 := hN _ _ _ _ _ _ _ _ _ h H1 locs ls hw1 hl (vaS_push hS (by omega) o1) hcs (by omega)
        simp only [List.map_cons, tv, ea] at h4
        exact h4
      · exact h.elim
    · exact h.elim
  · exact h.elim
theorem s_anewarray {i : Nat} {r : Rs} (C : Cx p l e R s m args below meth c E T j D rz mc ini Z Q) (hN : NX p l e R s m args below meth c E T j mc Z nx) (hd : decode (bb j) pc = .ok (.anewarray i, 3)) (hp : poolIn (ow j) i r = true) (hr : r.1 = 9) (h : i_newq T mc r nx (pc + 3) lo st n K S G P cs) : AtW p l e R s m args below meth c E T j mc Z pc lo st n K S G P cs := by
  intro H locs ls hw hl hS hc hz
  refine W_sz (fun hX => ?_)
  have hsz := hw.size C hS hz hX
  obtain ⟨tg, t0, r3, r4, r5⟩ := r
  simp only at hr
  subst hr
  unfold i_newq at h
  split at h
  · rename_i x q
    replace h := cT h
    obtain ⟨h0, h⟩ := h
    have hcs : cs + 1 ≤ mc := Nat.ble_eq.mp h0
    split at h
    · rename_i t N hsh
      replace h := cAnd h
      obtain ⟨h1, h2, h⟩ := h
      have hN1 : N ≤ 1000 := Nat.ble_eq.mp h2
      simp only [Bool.and_eq_true, Bool.or_eq_true, Nat.beq_eq] at h1
      obtain ⟨h1, h3⟩ := h1
      subst h1
      split at h
      · rename_i hx
        subst hx
        have hrm := C.2.2.2.2.2.2.2.2.1
        have hcl : (nI N).toNatClampNeg = N := nI_clamp (by omega)
        have hR1 : cs + 1 ≤ R.cells := by omega
        have hR2 : 1000 * cs + N ≤ R.slots := by omega
        have hov : va_AO (aname t) s := C.2.2.2.2.2.2.1.2.1 (aname t) (wrd_in C.2.2.2.2.2.2.2.2.2.2.2.1 hp (.arrayOver (.object (aname t))) (List.mem_cons_of_mem _ List.mem_cons_self)).1
        have hty : tyA t = .object (aname t) := by rcases h3 with rfl | rfl <;> rfl
        refine W.anew C.1 C.2.1 C.2.2.2.1 (C.word hp (w := .classLink (cnm (ow j)) i (aname t)) List.mem_cons_self rfl) (va_AO.use hov) rfl hd rfl (nI_pos (by omega)) (by rw [hcl]; omega) hR1 (by rw [hcl]; exact hR2) (fun cA kA comp f1 f2 f3 f4 => ?_)
        rw [hcl]
        generalize hH1 : H.push ({ cls := cA, slots := Array.replicate N .null, vm := .none } : Cell) = H1
        have z1 : H1.size = H.size + 1 := by rw [← hH1, Array.size_push]
        have e1 : H1[H.size]? = some (arrV cA N (fun _ => .null)) := by rw [← hH1, Array.getElem?_push_size, ← arrV_new]
        have o1 : ∀ q : Nat, q < H.size → H1[q]? = H[q]? := fun q hq => by rw [← hH1, Array.getElem?_push, if_neg (Nat.ne_of_lt hq)]
        refine W.widen (k := cs + 1) (n := 1000 * (cs + 1)) (Nat.le_refl _) (by omega) ?_
        have hcA : gT E t = cA := by
          have hRA := (C.2.2.2.2.2.1.2 t _ (tysE_at E (by rcases h3 with rfl | rfl <;> decide))).2
          rw [hty] at hRA
          obtain ⟨kA', comp', g1, g2, g3, g4⟩ := hRA
          exact Option.some.inj (g4.symm.trans f1)
        have hw1 : Wh E T (n + 1) K S G (upR P (n + 32) (fun _ => none)) H1 := by
          refine push_core hw hsz o1 (fun _ _ => rfl) (fun _ _ => rfl) (fun _ _ => rfl) (fun b hb => upR_ne P _ hb) ?_
          rw [hsh, upR_self]
          show H1[H.size]? = some (vp_cell _ _)
          rw [e1, hcA]
          rcases h3 with rfl | rfl <;> rfl
        have ea : ad E (n + 32) = H.size := by
          unfold ad
          rw [if_neg (by omega), hsz]
          omega
        have h4 := hN _ _ _ _ _ _ _ _ _ h H1 locs ls hw1 hl (vaS_push hS (by omega) o1) hcs (by omega)
        simp only [List.map_cons, tv, ea] at h4
        exact h4
      · exact h.elim
    · exact h.elim
  · exact h.elim
end A
end

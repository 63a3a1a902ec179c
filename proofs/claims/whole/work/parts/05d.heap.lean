noncomputable section
/-! SOUNDNESS of what reads and writes cells. -/
theorem fam_ok : ∀ ci, ci < 13 → ∀ k, k < nf ci → FT ci k = FT (fam ci) k := by decide +kernel
theorem own_ok : ∀ ci, ci < 13 → ∀ k, k < nf ci → (FT ci k).1 = cnm (fam ci) := by decide +kernel
theorem nmT_ok : ∀ ci, ci < 13 → ∀ a, a < nf ci → ∀ b, b < nf ci → a ≠ b → (FT ci a).2.1 ≠ (FT ci b).2.1 := by decide +kernel
theorem tyT_ok : ∀ ci, ci < 13 → ∀ k, k < nf ci → parseFieldDescriptor (FT ci k).2.2.1 = some (tyT ci k) := by decide +kernel
def kdT (ty : FieldType) : Nat := match ty with
  | .int => 0
  | .boolean => 1
  | .object _ => 2
  | .array _ => 2
  | _ => 9
theorem fk_ok : ∀ ci, ci < 13 → ∀ k, k < nf ci → kdT (tyT ci k) = fk ci k := by decide +kernel
theorem pf_ok : (List.range 19).all (fun o => (plo o).all (fun q => decide (q.2.1.1 = 0 → q.2.1.2.1 < 13 ∧ (q.2.1.2.2.2.2 = 0 → (FT q.2.1.2.1 q.2.1.2.2.1).2.2.2 = false) ∧ (q.2.1.2.2.2.2 = 1 → (FT q.2.1.2.1 q.2.1.2.2.1).2.2.2 = true ∧ q.2.1.2.1 = o)))) = true := by decide +kernel
theorem pf_use {o i ci k rc f : Nat} (ho : o < 19) (hp : poolIn o i (0, ci, k, rc, f) = true) : ci < 13 ∧ (f = 0 → (FT ci k).2.2.2 = false) ∧ (f = 1 → (FT ci k).2.2.2 = true ∧ ci = o) := by
  obtain ⟨q, hq, h1⟩ := List.any_eq_true.mp hp
  simp only [Bool.and_eq_true, decide_eq_true_eq] at h1
  have h2 := List.all_eq_true.mp (List.all_eq_true.mp pf_ok o (List.mem_range.mpr ho)) q hq
  simp only [decide_eq_true_eq] at h2
  rw [h1.2] at h2
  exact h2 rfl
theorem fvs_at (E : En) (ci : Nat) (fs : List (Option Nat)) (f : Nat → Int32) (r : Nat → Option Nat) {k : Nat} (hk : k < fs.length) : (fvs E ci fs f r)[k]? = some (fvl E ci fs f r k) := by
  unfold fvs
  rw [List.getElem?_map, List.getElem?_range hk]
  rfl
theorem fvs_len (E : En) (ci : Nat) (fs : List (Option Nat)) (f : Nat → Int32) (r : Nat → Option Nat) : (fvs E ci fs f r).length = fs.length := by simp [fvs]
theorem fvs_set (E : En) (ci : Nat) (fs : List (Option Nat)) {f f' : Nat → Int32} {r r' : Nat → Option Nat} {k : Nat} {v : Value} (hk : k < fs.length) (hf : ∀ j, j ≠ k → f' j = f j) (hr : ∀ j, j ≠ k → r' j = r j) (hv : v = fvl E ci fs f' r' k) : (fvs E ci fs f r).set k v = fvs E ci fs f' r' := by
  apply List.ext_getElem?
  intro i
  by_cases hi : i < fs.length
  · by_cases e : i = k
    · subst e
      rw [List.getElem?_set_self (by rw [fvs_len]; exact hi), fvs_at _ _ _ _ _ hi, hv]
    · rw [List.getElem?_set_ne (Ne.symm e), fvs_at _ _ _ _ _ hi, fvs_at _ _ _ _ _ hi]
      unfold fvl
      rw [hf i e, hr i e]
  · rw [List.getElem?_eq_none (by rw [List.length_set, fvs_len]; omega), List.getElem?_eq_none (by rw [fvs_len]; omega)]
theorem up2_self {α : Type} (S : Nat → Nat → α) (a i : Nat) (x : α) : up2 S a i x a = va_up (S a) i x := if_pos rfl
theorem up2_ne {α : Type} (S : Nat → Nat → α) {a b : Nat} (i : Nat) (x : α) (h : b ≠ a) : up2 S a i x b = S b := if_neg h
theorem upR_self {α : Type} (S : Nat → α) (a : Nat) (x : α) : upR S a x a = x := if_pos rfl
theorem upR_ne {α : Type} (S : Nat → α) {a b : Nat} (x : α) (h : b ≠ a) : upR S a x b = S b := if_neg h
theorem vaup_ne {α : Type} (f : Nat → α) {k j : Nat} (x : α) (h : j ≠ k) : va_up f k x j = f j := if_neg h
theorem vaup_self {α : Type} (f : Nat → α) (k : Nat) (x : α) : va_up f k x k = x := if_pos rfl
theorem cAnd {a b : Bool} {A : Prop} (h : cond (a && b) A False) : a = true ∧ b = true ∧ A := by
  cases a <;> cases b <;> first | exact h.elim | exact ⟨rfl, rfl, h⟩
theorem cT {a : Bool} {A : Prop} (h : cond a A False) : a = true ∧ A := by
  cases a
  · exact h.elim
  · exact ⟨rfl, h⟩
section A
variable {p : Program} {l : Launch} {e : Env} {R : Room} {s : State} {m : MethodId} {args : Array Value} {below : List Frame} {meth : Method} {c : Code} {E : En} {T : Tb} {j D rz mc : Nat} {ini : Bool} {Z : State → Prop} {Q : QT} {nx : PT}
variable {pc nt : Nat} {lo st : List Value} {n : Nat} {K : Mk} {S : Mi} {G : Ml} {P : Mr} {cs : Nat}
theorem Cx.word (C : Cx p l e R s m args below meth c E T j D rz mc ini Z Q) {i : Nat} {r : Rs} (hp : poolIn (ow j) i r = true) {w : Cond} (hw : w ∈ wrd (ow j) i r) (hs : spec w = false) : w.before args s = true := C.2.2.2.2.1 w (wrd_good C.2.2.2.2.2.2.2.2.2.2.2.1 hp hw hs)
theorem Cx.wordX (C : Cx p l e R s m args below meth c E T j D rz mc ini Z Q) {i : Nat} {r : Rs} (hp : poolIn (ow j) i r = true) {w : Cond} (hw : w ∈ wrd (ow j) i r) (hs : isNC w = true) : va_Nw w s := C.2.2.2.2.2.2.1.1 w (wrd_in C.2.2.2.2.2.2.2.2.2.2.2.1 hp w hw).1 hs
theorem Wh.cell {H : Heap} (hw : Wh E T n K S G P H) {a : Nat} {sh : Sh} (hs : sho T n K a = some sh) : (wsl E T n K S G P)[a - 32]? = some (ad E a, cel E sh (S a) (G a) (P a)) := by
  obtain ⟨h1, h2, h3⟩ := sho_some hw.1 hs
  rw [← h3]
  exact wsl_at E T K S G P h1 h2
theorem Wh.obj {H : Heap} (hw : Wh E T n K S G P H) {a ci : Nat} {fs : List (Option Nat)} (hs : sho T n K a = some (.inr (ci, fs))) : ci < 13 := by
  obtain ⟨r, h1, -⟩ := hw.2 _ _ (hw.cell hs)
  exact vwC_lt h1
theorem Wh.recv {H : Heap} (hw : Wh E T n K S G P H) (hK : va_K (gG E) vwC (tysE E) s) {a ci : Nat} {fs : List (Option Nat)} (hs : sho T n K a = some (.inr (ci, fs))) : ∃ cell : Cell, H[ad E a]? = some cell ∧ cell.vm.isStatics = false ∧ s.vm.findClass (cnm ci) = some cell.cls :=
  va_recv (q := (cnm ci, FT ci, nf ci)) hK hw.2 (vwC_at (hw.obj hs)) (hw.cell hs)
theorem fld_same (C : Cx p l e R s m args below meth c E T j D rz mc ini Z Q) {i ci k rc f cj : Nat} (hp : poolIn (ow j) i (0, ci, k, rc, f) = true) (hj : cj < 13) (hf : fam cj = ci) (hk : k < nf cj) : ∀ x, s.fieldFound? (FT cj k).1 (FT cj k).2.1 (FT cj k).2.2.1 = some x → s.fieldFound? (cnm rc) (FT cj k).2.1 (FT cj k).2.2.1 = some x := by
  intro x hx
  rw [own_ok cj hj k hk, hf] at hx
  by_cases e : rc = ci
  · rw [e]; exact hx
  · refine u_same (C.word hp (w := .sameField (cnm rc) (cnm ci) (FT cj k).2.1 (FT cj k).2.2.1) ?_ rfl) x hx
    rw [fam_ok cj hj k hk, hf]
    show _ ∈ wrd0 (ow j) i ci k rc
    unfold wrd0
    rw [if_neg e]
    exact List.mem_cons_of_mem _ List.mem_cons_self
theorem fld_link (C : Cx p l e R s m args below meth c E T j D rz mc ini Z Q) {i ci k rc f cj : Nat} (hp : poolIn (ow j) i (0, ci, k, rc, f) = true) (hj : cj < 13) (hf : fam cj = ci) (hk : k < nf cj) : (Cond.fieldLink (cnm (ow j)) i (cnm rc) (FT cj k).2.1 (FT cj k).2.2.1).before args s = true := by
  refine C.word hp ?_ rfl
  rw [fam_ok cj hj k hk, hf]
  exact List.mem_cons_self
theorem s_getfield {i : Nat} {r : Rs} (C : Cx p l e R s m args below meth c E T j D rz mc ini Z Q) (hN : NX p l e R s m args below meth c E T j mc Z nx) (hd : decode (bb j) pc = .ok (.getfield i, 3)) (hp : poolIn (ow j) i r = true) (h : i_get T r nx (pc + 3) lo st n K S G P cs) : AtW p l e R s m args below meth c E T j mc Z pc lo st n K S G P cs := by
  intro H locs ls hw hl hS hc hz
  obtain ⟨tg, ci, k, rc, f⟩ := r
  unfold i_get at h
  split at h
  · rename_i a q
    cases hb : Nat.beq tg 0 with
    | true =>
      have hb' : tg = 0 := Nat.beq_eq.mp hb
      subst hb'
      simp only [hb, cond_true] at h
      split at h
      · rename_i cj fs hs
        obtain ⟨h1, h2, h⟩ := cAnd h
        simp only [Bool.and_eq_true, Nat.blt_eq, Nat.beq_eq] at h1 h2
        have hj := hw.obj hs
        have hk : k < nf cj := by omega
        have hfv := fvs_at E cj fs (S a) (P a) h2.1
        refine va_get C.1 C.2.1 C.2.2.2.2.1 (lay_good hj) C.2.2.2.1 C.2.2.2.2.2.1 hw.2 (a - 32) (hw.cell hs) (vwC_at hj) k hk (fld_link C hp hj h1 hk) (fld_same C hp hj h1 hk) hfv hd ?_
        unfold fvl
        split at h
        · rename_i b hb
          simp only [hb]
          exact hN _ _ _ _ _ _ _ _ _ h H locs ls hw hl hS hc hz
        · rename_i hb
          simp only [hb]
          cases hk2 : Nat.beq (fk cj k) 2 with
          | true =>
            rw [hk2] at h
            rw [if_pos (Nat.beq_eq.mp hk2), ← tv_rf]
            exact hN _ _ _ _ _ _ _ _ _ h H locs ls hw hl hS hc hz
          | false =>
            rw [hk2] at h
            rw [if_neg (fun z => by rw [z] at hk2; cases hk2)]
            exact hN _ _ _ _ _ _ _ _ _ h H locs ls hw hl hS hc hz
      · exact h.elim
    | false =>
      simp only [hb, cond_false] at h
      obtain ⟨h1, h2, h0⟩ := cAnd h
      clear h
      have e1 : tg = 17 := Nat.beq_eq.mp h1
      have ha : @LT.lt Nat instLTNat a 10 := Nat.blt_eq.mp h2
      clear h1 h2
      subst e1
      have hE := C.2.2.2.2.2.2.1.2.2.2.1.1 a ha
      have ha1 : ad E a = gX E a := if_pos (by omega)
      have ha2 : ad E (a + 10) = gX E (a + 10) := if_pos (by omega)
      show W p l e R s m args below meth c H locs cs (1000 * cs) Z (F0 m pc ls (.ref (ad E a) :: q.map (tv E)))
      rw [ha1]
      cases hb0 : Nat.beq ci 0 with
      | true =>
        rw [hb0] at h0
        have e2 : ci = 0 := Nat.beq_eq.mp hb0
        subst e2
        have h3 := hN _ _ _ _ _ _ _ _ _ h0 H locs ls hw hl hS hc hz
        simp only [List.map_cons, tv, ha2] at h3
        exact vk_getf C.1 C.2.1 hE.2.2.1 hS C.2.2.2.1 (C.word hp (w := .fieldLink (cnm (ow j)) i "java/lang/String" "value" "[B") List.mem_cons_self rfl) (fun x hx => hx) hd h3
      | false =>
        rw [hb0] at h0
        have e2 : ci ≠ 0 := fun z => by rw [z] at hb0; cases hb0
        have hmem : Cond.fieldLink (cnm (ow j)) i "java/lang/String" "coder" "B" ∈ wrd (ow j) i (17, ci, k, rc, f) := by
          show _ ∈ wrdH (ow j) i ci
          unfold wrdH
          rw [if_neg e2, if_neg e2]
          exact List.mem_cons_self
        exact vk_getf C.1 C.2.1 hE.2.1 hS C.2.2.2.1 (C.word hp hmem rfl) (fun x hx => hx) hd (hN _ _ _ _ _ _ _ _ _ h0 H locs ls hw hl hS hc hz)
  · exact h.elim
end A
end

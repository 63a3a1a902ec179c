noncomputable section
/-! ROWS OF ROWS: the calculus' step out of the machine's (MuStep). -/
def MuStep (l : Launch) : Prop := ∀ (p : Program) (e : Env) (R : Room) (s : State) (m : MethodId) (args : Array Value) (below : List Frame) (meth : Method) (c : Code) (T : State) (locs : List Loc) (cells slots : Nat) (g : JFrame) (rest : List Value), Stand p l e R s m args below meth c T locs cells slots → p.tables.exec = Jvm.exec → s.vm.findClass "RefusedTwice" = some m.cls → (Cond.classLink "RefusedTwice" 59 "[[J").before args s = true → (Cond.arrayOver (.array .long)).before args s = true → (Cond.arrayClass .long).before args s = true → g.method = m → decode c.code g.pc = .ok (.multianewarray 59 2, 4) → g.stack = .int 60 :: .int 6 :: rest → cells + 7 ≤ R.cells → slots + 366 ≤ R.slots →
  ∃ (T1 : State) (cA comp : ClassId), s.vm.findClass "[[J" = some cA ∧ s.vm.findClass "[J" = some comp ∧ T1.heap.size = T.heap.size + 7 ∧ (∀ a : Nat, a < T.heap.size → T1.heap[a]? = T.heap[a]?) ∧ T1.heap[T.heap.size]? = some (arrV cA 6 (fun j => if j < 6 then .ref (T.heap.size + 1 + j) else .null)) ∧ (∀ j : Nat, j < 6 → T1.heap[T.heap.size + 1 + j]? = some (arrV comp 60 (fun _ => .long 0))) ∧ Stand p l e R s m args below meth c T1 locs (cells + 7) (slots + 366) ∧ ∀ target, Steps p.tables e below (T1.setTop { g with pc := g.pc + 4, stack := .ref T.heap.size :: rest }) target → Steps p.tables e below (T.setTop g) target
theorem mu_in : Cond.classLink "RefusedTwice" 59 "[[J" ∈ gtbl ∧ Cond.arrayClass .long ∈ gtbl := by decide +kernel
theorem mu_dec : decode (bb 69) 101 = .ok (.multianewarray 59 2, 4) := by decide +kernel
theorem mu_of {l : Launch} (hst : MuStep l) : MuH l := by
  intro p e R s m args below meth c E T D rz mc ini Z Q nx lo st n K S G P cs C hN h H locs ls hw hl hS hc hz
  refine W_sz (fun hX => ?_)
  have hsz := hw.size C hS hz hX
  have hrm := C.2.2.2.2.2.2.2.2.1
  unfold i_multi at h
  split at h
  · rename_i x y q
    replace h := cT h
    obtain ⟨h0, h⟩ := h
    have hcs : cs + 7 ≤ mc := Nat.ble_eq.mp h0
    split at h
    · rename_i hcnd
      obtain ⟨e1, e2, hs6, hs60⟩ := hcnd
      subst e1 e2
      intro Ts hT X
      obtain ⟨T1, cA, comp, fA, fC, zz, old, out, inn, X1, step⟩ := hst p e R s m args below meth c Ts locs cs (1000 * cs) (F0 m 101 ls ((Value.int 60 :: .int 6 :: q).map (tv E))) (q.map (tv E)) X C.1 C.2.2.2.1 (C.2.2.2.2.1 _ mu_in.1) C.2.2.2.2.2.2.1.2.2.2.1.2 (C.2.2.2.2.1 _ mu_in.2) rfl (by rw [C.2.1]; exact mu_dec) rfl (by omega) (by omega)
      subst hT
      have aA : gT E 6 = cA := Option.some.inj ((C.2.2.2.2.2.1.2 6 _ (tysE_at E (by decide))).2.symm.trans fA)
      have aC : gT E 2 = comp := Option.some.inj ((C.2.2.2.2.2.1.2 2 _ (tysE_at E (by decide))).2.symm.trans fC)
      have hw1 : Wh E T (n + 7) K S (fun b => if n + 33 ≤ b ∧ b < n + 39 then fun _ => 0 else G b) (upR P (n + 32) (fun j => if j < 6 then some (n + 33 + j) else none)) T1.heap := by
        refine ⟨Nat.le_trans hw.1 (Nat.le_add_right _ _), fun k q hq => ?_⟩
        have hk : k < n + 7 := by
          have := (List.getElem?_eq_some_iff.mp hq).1
          simpa [wsl] using this
        unfold wsl at hq
        rw [List.getElem?_map, List.getElem?_range hk] at hq
        simp only [Option.map_some, Option.some.injEq] at hq
        subst hq
        by_cases k1 : k < n
        · have hq0 : (wsl E T n K S G P)[k]? = some (gB E + k, cel E (shp T K (k + 32)) (S (k + 32)) (G (k + 32)) (P (k + 32))) := by
            unfold wsl
            rw [List.getElem?_map, List.getElem?_range k1]
            rfl
          have h1 := hw.2.kept (H1 := T1.heap) (fun k' q' hq' => old q'.1 ((hw.2 k' q' hq').lt)) k _ hq0
          rw [if_neg (by omega), upR_o _ _ (by omega)]
          exact h1
        · by_cases k2 : k = n
          · subst k2
            rw [hs6, upR_self]
            show T1.heap[gB E + k]? = some (arrV (gT E 6) 6 (fun j => va_rf ((if j < 6 then some (k + 33 + j) else none).map (ad E))))
            rw [← hsz, out, aA]
            congr 2
            funext j
            by_cases hj : j < 6
            · rw [if_pos hj, if_pos hj]
              show Value.ref _ = Value.ref (ad E (k + 33 + j))
              unfold ad
              rw [if_neg (by omega), hsz]
              exact congrArg Value.ref (show ((gB E + k + 1 + j : Nat) = gB E + (k + 33 + j - 32)) by omega)
            · rw [if_neg hj, if_neg hj]
              rfl
          · obtain ⟨i, rfl⟩ : ∃ i, k = n + 1 + i := ⟨k - (n + 1), by omega⟩
            have hi : i < 6 := by omega
            have hsh : shp T K (n + 1 + i + 32) = .inl (2, 60) := by
              rw [show n + 1 + i + 32 = n + 33 + i by omega]
              exact hs60 i hi
            rw [hsh, if_pos (by omega)]
            show T1.heap[gB E + (n + 1 + i)]? = some (arrV (gT E 2) 60 (fun j => .long 0))
            rw [show gB E + (n + 1 + i) = Ts.heap.size + 1 + i by omega, inn i hi, aC]
      have ea : ad E (n + 32) = Ts.heap.size := by
        unfold ad
        rw [if_neg (by omega), hsz]
        omega
      have h4 := hN _ _ _ _ _ _ _ _ _ h T1.heap locs ls hw1 hl (vaS_push hS (by omega) old) hcs (by omega)
      simp only [List.map_cons, tv, ea] at h4
      have h5 := W.widen (k := cs + 7) (n := 1000 * (cs + 7)) (cells := cs + 7) (slots := 1000 * cs + 366) (Nat.le_refl _) (by omega) h4
      obtain ⟨t, a1, b1⟩ := h5 T1 rfl X1
      exact ⟨t, step t a1, b1⟩
    · exact h.elim
  · exact h.elim
end

noncomputable section
/-! THE START: classes' numbers, texts, what lies outside. -/
def tmS (k : Nat) : Term := .string (cnm (strO k).1) (strO k).2
def vaS (k : Nat) : Term := .field (tmS k) "java/lang/String" "value" "[B"
def lenS (k : Nat) : Nat := (strB.map (fun l => l.length)).getD k 0
def flN : List Cond := flatC (Jvm.Cond.and given_1 narrow_1)
theorem st_ex : ∀ k, k < 10 → Cond.exactly (tmS k) "java/lang/String" ∈ flN := by decide +kernel
theorem st_co : ∀ k, k < 10 → Cond.eq (.field (tmS k) "java/lang/String" "coder" "B") (.int 0) ∈ flN := by decide +kernel
theorem st_ar : ∀ k, k < 10 → Cond.arrayOf (vaS k) .byte ∈ flN := by decide +kernel
theorem st_le : ∀ k, k < 10 → Cond.eq (.length (vaS k)) (.int (Int32.ofNat (lenS k))) ∈ flN := by decide +kernel
theorem st_el : ∀ k, k < 10 → ∀ j, j < lenS k → Cond.eq (.elem (vaS k) (.int (Int32.ofNat j))) (.int ((strB.getD k []).getD j 0)) ∈ flN := by decide +kernel
theorem st_ref : ∀ k, k < 10 → Cond.stringRef (cnm (strO k).1) (strO k).2 (strs.getD k "") ∈ lw_tbl := by decide +kernel
theorem st_nc : ∀ ci ∈ pers, ∀ c ∈ pers, isSub ci c = false → Cond.not (.castable (cnm ci) (cnm c)) ∈ flN := by decide +kernel
theorem in_ins : ∀ i, i < 13 → Cond.instantiable (cnm i) (nf i) ∈ lw_tbl := by decide +kernel
theorem in_z1 : Cond.laysStatic "java/lang/String" "COMPACT_STRINGS" "Z" ∈ lw_tbl ∧ Cond.initialized "java/lang/String" ∈ lw_tbl ∧ Cond.eq (.static "java/lang/String" "COMPACT_STRINGS" "Z") (.int 1) ∈ flN := by decide +kernel
theorem in_z2 : Cond.laysStatic "jdk/internal/util/Preconditions" "SIOOBE_FORMATTER" "Ljava/util/function/BiFunction;" ∈ lw_tbl ∧ Cond.initialized "jdk/internal/util/Preconditions" ∈ lw_tbl ∧ Cond.isRef (.static "jdk/internal/util/Preconditions" "SIOOBE_FORMATTER" "Ljava/util/function/BiFunction;") ∈ flN := by decide +kernel
theorem in_ac : Cond.arrayClass .int ∈ lw_tbl ∧ Cond.arrayClass .byte ∈ lw_tbl ∧ Cond.arrayClass .long ∈ lw_tbl ∧ Cond.arrayClass .boolean ∈ lw_tbl := by decide +kernel
theorem in_ao : Cond.arrayOver (.object "RefusedTwice$One") ∈ lw_tbl ∧ Cond.arrayOver (.object "RefusedTwice$Street") ∈ lw_tbl ∧ Cond.arrayOver (.array .long) ∈ lw_tbl := by decide +kernel
theorem nc_tab {w : Cond} (h : isNC w = true) : w.onTables = true := by
  cases w with
  | methodLinkNest a i x hh => rfl
  | castable C T => rfl
  | _ => cases h
theorem arr_p {args : Array Value} {s : State} {ty : FieldType} (h : (Cond.arrayClass ty).before args s = true) (hv : ∀ cA, s.vm.findClass ("[" ++ ty.toString) = some cA → va_RA s cA ty) : ∃ cA, ArrOfT s cA ty ∧ va_RA s cA ty := by
  obtain ⟨cA, kA, comp, h1, h2, h3⟩ := Cond.arrayClass_spec h
  exact ⟨cA, fun n z => ⟨fun k h => (by cases h), kA, h2, comp, h3⟩, hv cA h1⟩
theorem arr_o {args : Array Value} {s : State} {C : String} (h : (Cond.arrayOver (.object C)).before args s = true) : ∃ cA, ArrOfT s cA (.object C) ∧ va_RA s cA (.object C) := by
  obtain ⟨comp, c, k, h1, h2, h3, h4, h5⟩ := Cond.arrayOver_spec h
  exact ⟨c, fun n z => ⟨fun k h => (by cases h), k, h3, comp, h4⟩, k, comp, h3, h4, h1, h5⟩
theorem arr_a {args : Array Value} {s : State} {t : FieldType} (h : (Cond.arrayOver (.array t)).before args s = true) : ∃ cA, ArrOfT s cA (.array t) ∧ va_RA s cA (.array t) := by
  obtain ⟨comp, c, k, h1, h2, h3, h4, h5⟩ := arrayOverA_spec h
  exact ⟨c, fun n z => ⟨fun k h => (by cases h), k, h3, comp, h4⟩, h5⟩
theorem start_E {args : Array Value} {s : State} {b L : Nat} {xs : Nat → Int32} (hts : ∀ w ∈ lw_tbl, w.before args s = true) (hgv : (Jvm.Cond.and given_1 narrow_1).before args s = true) (hX : va_X b L xs s s.heap) (hb : b < s.heap.size) :
    ∃ E : En, gB E = s.heap.size ∧ gX E 31 = b ∧ gL E = L ∧ gS E = xs ∧ va_K (gG E) vwC (tysE E) s ∧ Ext E s s.heap := by
  have hfl : ∀ w ∈ flN, w.before args s = true := flat_of_before _ hgv
  have hA : ∀ a : Nat, a < s.heap.size → ¬ (fun q : Nat => s.heap.size ≤ q) a := fun a h1 h2 => absurd h2 (Nat.not_le.mpr h1)
  have hcl : ∀ i, ∃ q : ClassId × (Nat → Nat), i < 13 → u_Kn s (cnm i) (FT i) (nf i) q.1 q.2 := by
    intro i
    by_cases hi : i < 13
    · obtain ⟨cC, iS, h⟩ := u_known (ws := lw_tbl) (n := nf i) hts (fun w hw => (List.mem_filter.mp (lay_good hi w hw)).1) (hts _ (in_ins i hi))
      exact ⟨(cC, iS), fun _ => h⟩
    · exact ⟨(0, fun _ => 0), fun h => absurd h hi⟩
  have har : ∀ t, ∃ cA : ClassId, t < 7 → ArrOfT s cA (tyA t) ∧ va_RA s cA (tyA t) := by
    intro t
    by_cases ht : t < 7
    · have e : t = 0 ∨ t = 1 ∨ t = 2 ∨ t = 3 ∨ t = 4 ∨ t = 5 ∨ t = 6 := by omega
      rcases e with rfl | rfl | rfl | rfl | rfl | rfl | rfl
      · obtain ⟨cA, h⟩ := arr_p (hts _ in_ac.1) (fun _ h => h)
        exact ⟨cA, fun _ => h⟩
      · obtain ⟨cA, h⟩ := arr_p (hts _ in_ac.2.1) (fun _ h => h)
        exact ⟨cA, fun _ => h⟩
      · obtain ⟨cA, h⟩ := arr_p (hts _ in_ac.2.2.1) (fun _ h => h)
        exact ⟨cA, fun _ => h⟩
      · obtain ⟨cA, h⟩ := arr_p (hts _ in_ac.2.2.2) (fun _ h => h)
        exact ⟨cA, fun _ => h⟩
      · obtain ⟨cA, h⟩ := arr_o (hts _ in_ao.1)
        exact ⟨cA, fun _ => h⟩
      · obtain ⟨cA, h⟩ := arr_o (hts _ in_ao.2.1)
        exact ⟨cA, fun _ => h⟩
      · obtain ⟨cA, h⟩ := arr_a (hts _ in_ao.2.2)
        exact ⟨cA, fun _ => h⟩
    · exact ⟨0, fun h => absurd h ht⟩
  have hst : ∀ k, ∃ q : Nat × Nat, k < 10 → (tmS k).eval args s none [] s = some (.ref q.1) ∧ va_O "java/lang/String" q.1 (fun q : Nat => s.heap.size ≤ q) s s.heap ∧ va_OF "java/lang/String" "coder" "B" (.int 0) q.1 (fun q : Nat => s.heap.size ≤ q) s s.heap ∧ va_OF "java/lang/String" "value" "[B" (.ref q.2) q.1 (fun q : Nat => s.heap.size ≤ q) s s.heap ∧ va_T .byte q.2 ((strB.map (fun l => l.length)).getD k 0) (fun j => .int ((strB.getD k []).getD j 0)) (fun q : Nat => s.heap.size ≤ q) s s.heap := by
    intro k
    by_cases hk : k < 10
    · have hl : ∀ k, k < 10 → lenS k < 2 ^ 31 := by decide
      obtain ⟨adK, adV, h1, h2⟩ := vk_Sof (args := args) (s := s) (N := 1) (tm := fun _ => tmS k) (len := [lenS k]) (byt := [strB.getD k []]) (A := fun q : Nat => s.heap.size ≤ q)
        (fun i hi => by obtain rfl : i = 0 := by omega
                        exact hl k hk)
        (fun i hi => hfl _ (st_ex k hk)) (fun i hi => hfl _ (st_co k hk)) (fun i hi => hfl _ (st_ar k hk))
        (fun i hi => by obtain rfl : i = 0 := by omega
                        exact hfl _ (st_le k hk))
        (fun i hi j hj => by obtain rfl : i = 0 := by omega
                             exact hfl _ (st_el k hk j hj))
        (fun i j hi hj hij => by omega) hA
      exact ⟨(adK 0, adV 0), fun _ => ⟨h2 0 (by decide), h1.1 0 (by decide)⟩⟩
    · exact ⟨(0, 0), fun h => absurd h hk⟩
  obtain ⟨fc, hfc⟩ := Classical.axiomOfChoice hcl
  obtain ⟨fa', hfa⟩ := Classical.axiomOfChoice har
  obtain ⟨fs, hfs⟩ := Classical.axiomOfChoice hst
  have hz1 : va_Z "java/lang/String" "COMPACT_STRINGS" "Z" (.int 1) (fun q : Nat => s.heap.size ≤ q) s s.heap := va_Zof (hts _ in_z1.1) (hts _ in_z1.2.1) (va_eqi (hfl _ in_z1.2.2)) hA
  have hz2 : ∃ gf : Option Nat, va_Z "jdk/internal/util/Preconditions" "SIOOBE_FORMATTER" "Ljava/util/function/BiFunction;" (va_rf gf) (fun q : Nat => s.heap.size ≤ q) s s.heap := by
    rcases va_Zqof (hts _ in_z2.1) (hts _ in_z2.2.1) (hfl _ in_z2.2.2) hA with h | ⟨t, h⟩
    · exact ⟨none, h⟩
    · exact ⟨some t, h⟩
  obtain ⟨gf, hgf⟩ := hz2
  refine ⟨((fun i => (fc i).1, fun i => (fc i).2), s.heap.size, fun k => if k < 10 then (fs k).1 else if k < 20 then (fs (k - 10)).2 else b, fa', L, xs, gf), rfl, rfl, rfl, rfl, ⟨fun c q hq => ?_, fun k q hq => ?_⟩, fun w hw hn => va_tabs (nc_tab hn) rfl (hts w hw), fun C hC => va_AO.of (hts _ hC), fun k hk => ?_, ⟨fun k hk => ?_, (show (Cond.arrayOver (.array .long)).before #[] s = true from hts _ in_ao.2.2)⟩, hz1, hgf, fun ci hci c hc hs => va_Nc.of (hfl _ (st_nc ci hci c hc hs)), hX, hb, hb⟩
  · have h13 := vwC_lt hq
    rw [vwC_at h13] at hq
    cases hq
    exact hfc c h13
  · have h7 : k < 7 := by
      have := (List.getElem?_eq_some_iff.mp hq).1
      simpa [tysE] using this
    rw [tysE_at _ h7] at hq
    cases hq
    exact hfa k h7
  · have e : gX ((fun i => (fc i).1, fun i => (fc i).2), s.heap.size, fun k => if k < 10 then (fs k).1 else if k < 20 then (fs (k - 10)).2 else b, fa', L, xs, gf) k = (fs k).1 := if_pos hk
    rw [e]
    exact vk_R.of (hts _ (st_ref k hk)) (hfs k hk).1
  · have e1 : gX ((fun i => (fc i).1, fun i => (fc i).2), s.heap.size, fun k => if k < 10 then (fs k).1 else if k < 20 then (fs (k - 10)).2 else b, fa', L, xs, gf) k = (fs k).1 := if_pos hk
    have e2 : gX ((fun i => (fc i).1, fun i => (fc i).2), s.heap.size, fun k => if k < 10 then (fs k).1 else if k < 20 then (fs (k - 10)).2 else b, fa', L, xs, gf) (k + 10) = (fs k).2 := by
      show (if k + 10 < 10 then (fs (k + 10)).1 else if k + 10 < 20 then (fs (k + 10 - 10)).2 else b) = (fs k).2
      rw [if_neg (by omega), if_pos (by omega), Nat.add_sub_cancel]
    rw [e1, e2]
    exact (hfs k hk).2
end

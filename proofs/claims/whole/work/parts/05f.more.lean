noncomputable section
theorem cl_len {sp dp ln : Int32} {n0 n1 : Nat} (h : cpOk sp dp ln n0 n1) : ¬ sp < 0 ∧ ¬ dp < 0 ∧ ¬ ln < 0 ∧ sp.toNatClampNeg + ln.toNatClampNeg ≤ n0 ∧ dp.toNatClampNeg + ln.toNatClampNeg ≤ n1 := by
  obtain ⟨h1, h2, h3, h4, h5⟩ := h
  have nn : ∀ z : Int32, 0 ≤ z.toInt → ¬ z < 0 := fun z hz q => by
    have := Int32.lt_iff_toInt_lt.mp q
    simp at this
    omega
  refine ⟨nn _ h1, nn _ h2, nn _ h3, ?_, ?_⟩
  · show sp.toInt.toNat + ln.toInt.toNat ≤ n0
    omega
  · show dp.toInt.toNat + ln.toInt.toNat ≤ n1
    omega
section A
variable {p : Program} {l : Launch} {e : Env} {R : Room} {s : State} {m : MethodId} {args : Array Value} {below : List Frame} {meth : Method} {c : Code} {E : En} {T : Tb} {j D rz mc : Nat} {ini : Bool} {Z : State → Prop} {Q : QT} {nx : PT}
variable {pc nt : Nat} {lo st : List Value} {n : Nat} {K : Mk} {S : Mi} {G : Ml} {P : Mr} {cs : Nat}
theorem s_aaload (C : Cx p l e R s m args below meth c E T j D rz mc ini Z Q) (hN : NX p l e R s m args below meth c E T j mc Z nx) (hd : decode (bb j) pc = .ok (.aaload, 1)) (h : i_aald T nx (pc + 1) lo st n K S G P cs) : AtW p l e R s m args below meth c E T j mc Z pc lo st n K S G P cs := by
  intro H locs ls hw hl hS hc hz
  unfold i_aald at h
  split at h
  · rename_i i a q
    split at h
    · rename_i t N hs
      replace h := cAnd h
      obtain ⟨t1, t2, h⟩ := h
      split at h
      · rename_i hi
        have ht1 := Nat.ble_eq.mp t1
        have ht2 := Nat.ble_eq.mp t2
        have hin := ixB_in hi
        have hlt : i.toNatClampNeg < N := Nat.not_le.mp fun q => hin (Or.inr q)
        have h2 := hN _ _ _ _ _ _ _ _ _ h H locs ls hw hl hS hc hz
        simp only [List.map_cons, tv_rf] at h2
        have hcel : acel E t N (S a) (G a) (P a) = .inl (gT E t, N, .inr (.inr (.inr (.inr (fun k => (P a k).map (ad E)))))) := by
          rcases (show t = 4 ∨ t = 5 ∨ t = 6 by omega) with rfl | rfl | rfl <;> rfl
        have hc0 : H[ad E a]? = some (vp_cell (gT E t) (N, .inr (.inr (.inr (.inr (fun k => (P a k).map (ad E))))))) := by
          have := hw.2 _ _ (hw.cell hs)
          simp only [cel, hcel] at this
          exact this
        exact W.aald (v := va_rf ((P a i.toNatClampNeg).map (ad E))) (ty := tyA t) C.1 C.2.1 hc0 ((C.2.2.2.2.2.1.2 t _ (tysE_at E (by omega))).1 N (fun k => va_rf ((P a k).map (ad E)))) (by rcases (show t = 4 ∨ t = 5 ∨ t = 6 by omega) with rfl | rfl | rfl <;> rfl) (fun q => by cases q) (by show ¬ (i < 0 ∨ (arrV _ _ _).slots.size ≤ _); rw [arrV_size]; exact hin) (by show (arrV _ _ _).slots[_]? = _; rw [arrV_read _ _ hlt]) rfl rfl hd h2
      · exact h.elim
    · exact h.elim
  · exact h.elim
theorem s_aastore (C : Cx p l e R s m args below meth c E T j D rz mc ini Z Q) (hN : NX p l e R s m args below meth c E T j mc Z nx) (hcast : ∀ x ∈ pers, isSub x 4 = true → (x == 4) = false → va_Nw (.castable (cnm x) "RefusedTwice$One") s) (hd : decode (bb j) pc = .ok (.aastore, 1)) (h : i_aast T nx (pc + 1) lo st n K S G P cs) : AtW p l e R s m args below meth c E T j mc Z pc lo st n K S G P cs := by
  intro H locs ls hw hl hS hc hz
  unfold i_aast at h
  split at h
  · rename_i b i a q
    split at h
    · rename_i t N hs
      split at h
      · rename_i ci fs hb
        replace h := cT h
        obtain ⟨t1, h⟩ := h
        split at h
        · rename_i hi
          simp only [Bool.or_eq_true, Bool.and_eq_true, Nat.beq_eq] at t1
          have hcel : acel E t N (S a) (G a) (P a) = .inl (gT E t, N, .inr (.inr (.inr (.inr (fun k => (P a k).map (ad E)))))) := by
            rcases t1 with ⟨rfl, -⟩ | ⟨rfl, -⟩ <;> rfl
          have hcell : (wsl E T n K S G P)[a - 32]? = some (ad E a, .inl (gT E t, N, .inr (.inr (.inr (.inr (fun k => (P a k).map (ad E))))))) := by
            have := hw.cell hs
            simp only [cel, hcel] at this
            exact this
          have hcb := hw.cell hb
          simp only [cel] at hcb
          have fin : ∀ (H1 : Heap) (locs1 : List Loc), va_P (gG E) vwC ((wsl E T n K S G P).set (a - 32) (ad E a, .inl (gT E t, N, .inr (.inr (.inr (.inr (va_up (fun k => (P a k).map (ad E)) i.toNatClampNeg (some (ad E b))))))))) H1 → va_S (aW E) s.heap H1 locs1 → W p l e R s m args below meth c H1 locs1 cs (1000 * cs) Z (F0 m (pc + 1) ls (q.map (tv E))) := by
            intro H1 locs1 hP1 hS1
            refine hN _ _ _ _ _ _ _ _ _ h H1 locs1 ls (upd_core hw hs (fun _ _ => rfl) (fun _ _ => rfl) (fun b' hb => up2_ne P _ (some b) hb) ?_ hP1) hl hS1 hc hz
            have hcel' : acel E t N (S a) (G a) (up2 P a i.toNatClampNeg (some b) a) = .inl (gT E t, N, .inr (.inr (.inr (.inr (fun k => (up2 P a i.toNatClampNeg (some b) a k).map (ad E)))))) := by
              rcases t1 with ⟨rfl, -⟩ | ⟨rfl, -⟩ <;> rfl
            rw [hcel']
            congr 7
            funext k
            rw [up2_self]
            by_cases e : k = i.toNatClampNeg
            · rw [e, vaup_self, vaup_self]; rfl
            · rw [vaup_ne _ _ e, vaup_ne _ _ e]
          rcases t1 with ⟨rfl, hsub⟩ | ⟨rfl, rfl⟩
          · by_cases e4 : ci = 4
            · subst e4
              exact va_astq (r := (cnm 4, FT 4, nf 4)) C.1 C.2.1 C.2.2.2.2.2.1 hw.2 (wsl_D E T n K S G P) hS (a - 32) 4 (b - 32) 4 hcell (tysE_at E (by decide)) hcb (vwC_at (by decide)) (ixB_in hi) hd (fun H1 locs1 hP1 _ hS1 => fin H1 locs1 hP1 hS1)
            · have hj := hw.obj hb
              have hp : ci ∈ pers := by
                have : ∀ x, x < 13 → isSub x 4 = true → x ∈ pers := by decide +kernel
                exact this ci hj hsub
              exact va_astqO (r := (cnm ci, FT ci, nf ci)) (E := "RefusedTwice$One") C.1 C.2.1 C.2.2.2.2.2.1 hw.2 (wsl_D E T n K S G P) hS (a - 32) 4 (b - 32) ci hcell (tysE_at E (by decide)) (hcast ci hp hsub (by simpa using e4)) hcb (vwC_at hj) (ixB_in hi) hd (fun H1 locs1 hP1 _ hS1 => fin H1 locs1 hP1 hS1)
          · exact va_astq (r := (cnm 7, FT 7, nf 7)) C.1 C.2.1 C.2.2.2.2.2.1 hw.2 (wsl_D E T n K S G P) hS (a - 32) 5 (b - 32) 7 hcell (tysE_at E (by decide)) hcb (vwC_at (by decide)) (ixB_in hi) hd (fun H1 locs1 hP1 _ hS1 => fin H1 locs1 hP1 hS1)
        · exact h.elim
      · exact h.elim
    · exact h.elim
  · rename_i i a q
    split at h
    · rename_i t N hs
      replace h := cT h
      obtain ⟨t1, h⟩ := h
      split at h
      · rename_i hi
        simp only [Bool.or_eq_true, Nat.beq_eq] at t1
        have hcel : acel E t N (S a) (G a) (P a) = .inl (gT E t, N, .inr (.inr (.inr (.inr (fun k => (P a k).map (ad E)))))) := by
          rcases t1 with rfl | rfl <;> rfl
        have hcell : (wsl E T n K S G P)[a - 32]? = some (ad E a, .inl (gT E t, N, .inr (.inr (.inr (.inr (fun k => (P a k).map (ad E))))))) := by
          have := hw.cell hs
          simp only [cel, hcel] at this
          exact this
        have fin : ∀ (H1 : Heap) (locs1 : List Loc), va_P (gG E) vwC ((wsl E T n K S G P).set (a - 32) (ad E a, .inl (gT E t, N, .inr (.inr (.inr (.inr (va_up (fun k => (P a k).map (ad E)) i.toNatClampNeg none))))))) H1 → va_S (aW E) s.heap H1 locs1 → W p l e R s m args below meth c H1 locs1 cs (1000 * cs) Z (F0 m (pc + 1) ls (q.map (tv E))) := by
          intro H1 locs1 hP1 hS1
          refine hN _ _ _ _ _ _ _ _ _ h H1 locs1 ls (upd_core hw hs (fun _ _ => rfl) (fun _ _ => rfl) (fun b' hb => up2_ne P _ none hb) ?_ hP1) hl hS1 hc hz
          have hcel' : acel E t N (S a) (G a) (up2 P a i.toNatClampNeg none a) = .inl (gT E t, N, .inr (.inr (.inr (.inr (fun k => (up2 P a i.toNatClampNeg none a k).map (ad E)))))) := by
            rcases t1 with rfl | rfl <;> rfl
          rw [hcel']
          congr 7
          funext k
          rw [up2_self]
          by_cases e : k = i.toNatClampNeg
          · rw [e, vaup_self, vaup_self]; rfl
          · rw [vaup_ne _ _ e, vaup_ne _ _ e]
        rcases t1 with rfl | rfl
        · exact va_astqN (C := "RefusedTwice$One") C.1 C.2.1 C.2.2.2.2.2.1 hw.2 (wsl_D E T n K S G P) hS (a - 32) 4 hcell (tysE_at E (by decide)) (ixB_in hi) hd (fun H1 locs1 hP1 _ hS1 => fin H1 locs1 hP1 hS1)
        · exact va_astqN (C := "RefusedTwice$Street") C.1 C.2.1 C.2.2.2.2.2.1 hw.2 (wsl_D E T n K S G P) hS (a - 32) 5 hcell (tysE_at E (by decide)) (ixB_in hi) hd (fun H1 locs1 hP1 _ hS1 => fin H1 locs1 hP1 hS1)
      · exact h.elim
    · exact h.elim
  · exact h.elim
theorem s_ldc {i : Nat} {r : Rs} {v : Int32} (C : Cx p l e R s m args below meth c E T j D rz mc ini Z Q) (hN : NX p l e R s m args below meth c E T j mc Z nx) (hd : decode (bb j) pc = .ok (.ldc i, 2)) (hp : poolIn (ow j) i r = true) (hr : (r.1 = 12) ∨ (r.1 = 11 ∧ Int32.ofNat r.2.1 = v)) (hx : r.1 = 12 → (ow j, i) = strO r.2.1 ∧ r.2.1 < 10) (h : cond (Nat.beq r.1 12) (nx (pc + 2) lo (.ref r.2.1 :: st) n K S G P cs) (nx (pc + 2) lo (.int v :: st) n K S G P cs)) : AtW p l e R s m args below meth c E T j mc Z pc lo st n K S G P cs := by
  intro H locs ls hw hl hS hc hz
  obtain ⟨tg, k, r3, r4, r5⟩ := r
  rcases hr with hr | ⟨hr, hv⟩
  · simp only at hr
    subst hr
    obtain ⟨h1, h2⟩ := hx rfl
    simp only at h1 h2
    have hR := C.2.2.2.2.2.2.1.2.2.1 k h2
    rw [← h1] at hR
    have h3 := hN _ _ _ _ _ _ _ _ _ h H locs ls hw hl hS hc hz
    have ha1 : ad E k = gX E k := if_pos (by omega)
    simp only [List.map_cons, tv, ha1] at h3
    exact va_ldcS C.1 C.2.1 C.2.2.2.1 hR hd h3
  · simp only at hr hv
    subst hr
    subst hv
    exact lv_ldc C.1 C.2.1 C.2.2.2.1 (C.word hp (w := .constant (cnm (ow j)) i (Int32.ofNat k)) List.mem_cons_self rfl) hd (hN _ _ _ _ _ _ _ _ _ h H locs ls hw hl hS hc hz)
theorem s_ldc_w {i : Nat} {r : Rs} {v : Int32} (C : Cx p l e R s m args below meth c E T j D rz mc ini Z Q) (hN : NX p l e R s m args below meth c E T j mc Z nx) (hd : decode (bb j) pc = .ok (.ldc_w i, 3)) (hp : poolIn (ow j) i r = true) (hr : r.1 = 11 ∧ Int32.ofNat r.2.1 = v) (h : nx (pc + 3) lo (.int v :: st) n K S G P cs) : AtW p l e R s m args below meth c E T j mc Z pc lo st n K S G P cs := by
  intro H locs ls hw hl hS hc hz
  obtain ⟨tg, k, r3, r4, r5⟩ := r
  obtain ⟨hr, hv⟩ := hr
  simp only at hr hv
  subst hr
  subst hv
  exact lv_ldcw C.1 C.2.1 C.2.2.2.1 (C.word hp (w := .constant (cnm (ow j)) i (Int32.ofNat k)) List.mem_cons_self rfl) hd (hN _ _ _ _ _ _ _ _ _ h H locs ls hw hl hS hc hz)
theorem s_ldc2_w {i : Nat} {r : Rs} (C : Cx p l e R s m args below meth c E T j D rz mc ini Z Q) (hN : NX p l e R s m args below meth c E T j mc Z nx) (hd : decode (bb j) pc = .ok (.ldc2_w i, 3)) (hp : poolIn (ow j) i r = true) (hr : r.1 = 13) (h : nx (pc + 3) lo (.long (lc r.2.1) :: st) n K S G P cs) : AtW p l e R s m args below meth c E T j mc Z pc lo st n K S G P cs := by
  intro H locs ls hw hl hS hc hz
  obtain ⟨tg, k, r3, r4, r5⟩ := r
  simp only at hr
  subst hr
  exact lv_ldc2 C.1 C.2.1 C.2.2.2.1 (C.word hp (w := .constantLong (cnm (ow j)) i (lc k)) List.mem_cons_self rfl) hd (hN _ _ _ _ _ _ _ _ _ h H locs ls hw hl hS hc hz)
theorem s_getstatic {i : Nat} {r : Rs} (C : Cx p l e R s m args below meth c E T j D rz mc ini Z Q) (hN : NX p l e R s m args below meth c E T j mc Z nx) (hd : decode (bb j) pc = .ok (.getstatic i, 3)) (hp : poolIn (ow j) i r = true) (h : cond (Nat.beq r.1 14) (nx (pc + 3) lo (.int 1 :: st) n K S G P cs) (cond (Nat.beq r.1 15) (nx (pc + 3) lo (.retAddr 7 :: st) n K S G P cs) False)) : AtW p l e R s m args below meth c E T j mc Z pc lo st n K S G P cs := by
  intro H locs ls hw hl hS hc hz
  obtain ⟨tg, k, r3, r4, r5⟩ := r
  cases hb : Nat.beq tg 14 with
  | true =>
    rw [hb] at h
    have e := Nat.beq_eq.mp hb
    subst e
    exact va_gets C.1 C.2.1 C.2.2.2.2.2.2.1.2.2.2.2.1 hS C.2.2.2.1 (C.word hp (w := .fieldLink (cnm (ow j)) i "java/lang/String" "COMPACT_STRINGS" "Z") List.mem_cons_self rfl) (fun x hx => hx) hd (hN _ _ _ _ _ _ _ _ _ h H locs ls hw hl hS hc hz)
  | false =>
    rw [hb] at h
    simp only [cond_false] at h
    replace h := cT h
    obtain ⟨h1, h⟩ := h
    have e := Nat.beq_eq.mp h1
    subst e
    have h3 := hN _ _ _ _ _ _ _ _ _ h H locs ls hw hl hS hc hz
    exact va_gets C.1 C.2.1 C.2.2.2.2.2.2.1.2.2.2.2.2.1 hS C.2.2.2.1 (C.word hp (w := .fieldLink (cnm (ow j)) i "jdk/internal/util/Preconditions" "SIOOBE_FORMATTER" "Ljava/util/function/BiFunction;") List.mem_cons_self rfl) (fun x hx => hx) hd h3
theorem s_instanceof {i : Nat} {r : Rs} (C : Cx p l e R s m args below meth c E T j D rz mc ini Z Q) (hN : NX p l e R s m args below meth c E T j mc Z nx) (hd : decode (bb j) pc = .ok (.instanceof i, 3)) (hp : poolIn (ow j) i r = true) (hr : r.1 = 8 ∧ r.2.1 ∈ pers) (h : i_inst T r nx (pc + 3) lo st n K S G P cs) : AtW p l e R s m args below meth c E T j mc Z pc lo st n K S G P cs := by
  intro H locs ls hw hl hS hc hz
  obtain ⟨tg, k, r3, r4, r5⟩ := r
  obtain ⟨hr, hk⟩ := hr
  simp only at hr hk
  subst hr
  unfold i_inst at h
  split at h
  · rename_i a q
    split at h
    · rename_i ci fs hs
      replace h := cT h
      obtain ⟨h1, h⟩ := h
      have hci : ci ∈ pers := by simpa using h1
      have hlink := C.word hp (w := .classLink (cnm (ow j)) i (cnm k)) List.mem_cons_self rfl
      have hrv := hw.recv C.2.2.2.2.2.1 hs
      have h3 := hN _ _ _ _ _ _ _ _ _ h H locs ls hw hl hS hc hz
      cases hsub : isSub ci k with
      | true =>
        rw [hsub] at h3
        by_cases e : ci = k
        · subst e
          have hcl := (C.2.2.2.2.2.1.1 ci _ (vwC_at (hw.obj hs))).2
          exact va_instS C.1 C.2.1 C.2.2.2.1 hlink hcl hrv hd h3
        · exact va_instY C.1 C.2.1 C.2.2.2.1 hlink (C.wordX hp (w := .castable (cnm ci) (cnm k)) (List.mem_cons_of_mem _ (List.mem_map.mpr ⟨ci, List.mem_filter.mpr ⟨hci, by simp [hsub, e]⟩, rfl⟩)) rfl) hrv hd h3
      | false =>
        rw [hsub] at h3
        exact va_instNo C.1 C.2.1 C.2.2.2.1 hlink (C.2.2.2.2.2.2.1.2.2.2.2.2.2.1 ci hci k hk hsub) hrv hd h3
    · exact h.elim
  · exact h.elim
end A
end

noncomputable section
theorem sub10 {a : Nat} (h : 10 ≤ a) : a - 10 + 10 = a := by omega
section A
variable {p : Program} {l : Launch} {e : Env} {R : Room} {s : State} {m : MethodId} {args : Array Value} {below : List Frame} {meth : Method} {c : Code} {E : En} {T : Tb} {j D rz mc : Nat} {ini : Bool} {Z : State → Prop} {Q : QT} {nx : PT}
variable {pc nt : Nat} {lo st : List Value} {n : Nat} {K : Mk} {S : Mi} {G : Ml} {P : Mr} {cs : Nat}
theorem put_core (C : Cx p l e R s m args below meth c E T j D rz mc ini Z Q) {H : Heap} {locs : List Loc} {ls : Array Slot} {i ci k rc f cj a : Nat} {fs : List (Option Nat)} {v : Value} {q : List Value} {S' : Mi} {P' : Mr} {cl sl : Nat} (hw : Wh E T n K S G P H) (hS : va_S (aW E) s.heap H locs) (hd : decode (bb j) pc = .ok (.putfield i, 3)) (hp : poolIn (ow j) i (0, ci, k, rc, f) = true) (hs : sho T n K a = some (.inr (cj, fs))) (h1 : fam cj = ci) (hk : k < fs.length) (hl : fs.length = nf cj) (hf : f = 0 ∨ (f = 1 ∧ ini = true)) (hn : narrow (tyT cj k) v = v) (hfit : fits (tyT cj k) v = true) (hS1 : ∀ b, b ≠ a → S' b = S b) (hS2 : ∀ i, i ≠ k → S' a i = S a i) (hP1 : ∀ b, b ≠ a → P' b = P b) (hP2 : ∀ i, i ≠ k → P' a i = P a i) (hv : v = fvl E cj fs (S' a) (P' a) k)
    (kk : ∀ (H1 : Heap) (locs1 : List Loc), Wh E T n K S' G P' H1 → va_S (aW E) s.heap H1 locs1 → W p l e R s m args below meth c H1 locs1 cl sl Z (F0 m (pc + 3) ls q)) : W p l e R s m args below meth c H locs cl sl Z (F0 m pc ls (v :: .ref (ad E a) :: q)) := by
  have hj := hw.obj hs
  have hkn : k < nf cj := by omega
  have hcell := hw.cell hs
  obtain ⟨g1, g2, g3⟩ := sho_some hw.1 hs
  obtain ⟨p1, p2, p3⟩ := pf_use C.2.2.2.2.2.2.2.2.2.2.2.1 hp
  have hFF : FT cj k = FT ci k := by rw [fam_ok cj hj k hkn, h1]
  have fin : ∀ (H1 : Heap) (locs1 : List Loc), va_P (gG E) vwC ((wsl E T n K S G P).set (a - 32) (ad E a, .inr (cj, (fvs E cj fs (S a) (P a)).set k v))) H1 → va_D (aW E) ((wsl E T n K S G P).set (a - 32) (ad E a, .inr (cj, (fvs E cj fs (S a) (P a)).set k v))) → va_S (aW E) s.heap H1 locs1 → W p l e R s m args below meth c H1 locs1 cl sl Z (F0 m (pc + 3) ls q) := by
    intro H1 locs1 hP _ hS1'
    refine kk H1 locs1 ⟨hw.1, ?_⟩ hS1'
    rw [wsl_upd E T K g1 g2 hS1 (fun _ _ => rfl) hP1 (G' := G)] at hP
    · exact hP
    · rw [g3, fvs_set E cj fs hk hS2 hP2 hv]
      rfl
  rcases hf with hf | ⟨hf, hi⟩
  · exact va_put C.1 C.2.1 C.2.2.2.2.1 (lay_good hj) (tyT cj) (tyT_ok cj hj) (nmT_ok cj hj) C.2.2.2.1 C.2.2.2.2.2.1 hw.2 (wsl_D E T n K S G P) hS (a - 32) hcell (vwC_at hj) k hkn (fld_link C hp hj h1 hkn) (fld_same C hp hj h1 hkn) (by rw [hFF]; exact p2 hf) (tyT_ok cj hj k hkn) hn hfit (by rw [fvs_len]; exact hk) hd fin
  · exact va_putF C.1 C.2.1 C.2.2.2.2.1 (lay_good hj) (tyT cj) (tyT_ok cj hj) (nmT_ok cj hj) C.2.2.2.1 C.2.2.2.2.2.1 hw.2 (wsl_D E T n K S G P) hS (a - 32) hcell (vwC_at hj) k hkn (fld_link C hp hj h1 hkn) (fld_same C hp hj h1 hkn) (by rw [hFF]; exact (p3 hf).1) (C.2.2.2.2.2.2.2.2.2.1 hi) (by rw [own_ok cj hj k hkn, h1]; exact congrArg cnm (p3 hf).2) (tyT_ok cj hj k hkn) hn hfit (by rw [fvs_len]; exact hk) hd fin
theorem kd_int {ty : FieldType} (h : kdT ty = 0) (x : Int32) : narrow ty (.int x) = .int x ∧ fits ty (.int x) = true := by
  cases ty <;> first | exact ⟨rfl, rfl⟩ | (simp [kdT] at h)
theorem kd_bool {ty : FieldType} (h : kdT ty = 1) {x : Int32} (hx : x = 0 ∨ x = 1) : narrow ty (.int x) = .int x ∧ fits ty (.int x) = true := by
  cases ty <;> first | (simp [kdT] at h; done) | (rcases hx with rfl | rfl <;> exact ⟨by decide +kernel, by decide +kernel⟩)
theorem kd_ref {ty : FieldType} (h : kdT ty = 2) (r : Option Nat) : narrow ty (va_rf r) = va_rf r ∧ fits ty (va_rf r) = true := by
  cases ty <;> first | (simp [kdT] at h; done) | (cases r <;> exact ⟨rfl, rfl⟩)
theorem s_putfield {i : Nat} {r : Rs} (C : Cx p l e R s m args below meth c E T j D rz mc ini Z Q) (hN : NX p l e R s m args below meth c E T j mc Z nx) (hd : decode (bb j) pc = .ok (.putfield i, 3)) (hp : poolIn (ow j) i r = true) (h : i_put T ini r nx (pc + 3) lo st n K S G P cs) : AtW p l e R s m args below meth c E T j mc Z pc lo st n K S G P cs := by
  intro H locs ls hw hl hS hc hz
  obtain ⟨tg, ci, k, rc, f⟩ := r
  unfold i_put at h
  split at h
  · rename_i v a q
    replace h := cAnd h
    obtain ⟨t1, t2, h⟩ := h
    have e0 : tg = 0 := Nat.beq_eq.mp t1
    have hf : f = 0 ∨ (f = 1 ∧ ini = true) := by
      simp only [Bool.or_eq_true, Bool.and_eq_true, Nat.beq_eq] at t2
      exact t2
    rw [e0] at hp
    split at h
    · rename_i cj fs hs
      replace h := cAnd h
      obtain ⟨h1, h2, h⟩ := h
      simp only [Bool.and_eq_true, Nat.blt_eq, Nat.beq_eq] at h1 h2
      have hj := hw.obj hs
      have hkn : k < nf cj := by omega
      have hfk := fk_ok cj hj k hkn
      split at h
      · exact h.elim
      · rename_i hb
        split at h
        · rename_i x
          cases hk0 : Nat.beq (fk cj k) 0 with
          | true =>
            rw [hk0] at h
            have hk1 := Nat.beq_eq.mp hk0
            obtain ⟨n1, n2⟩ := kd_int (hfk.trans hk1) x
            exact put_core C hw hS hd hp hs h1 h2.1 h2.2 hf n1 n2 (fun b hb => up2_ne S k x hb) (fun i hi => by rw [up2_self, vaup_ne _ _ hi]) (fun _ _ => rfl) (fun _ _ => rfl) (by unfold fvl; simp only [hb]; rw [if_neg (by rw [hk1]; decide), up2_self, vaup_self]; rfl) (fun H1 locs1 hw1 hS1 => hN _ _ _ _ _ _ _ _ _ h H1 locs1 ls hw1 hl hS1 hc hz)
          | false =>
            rw [hk0] at h
            simp only [cond_false] at h
            replace h := cT h
            obtain ⟨hk1, h⟩ := h
            have hk1 := Nat.beq_eq.mp hk1
            by_cases hx : x = 0 ∨ x = 1
            · rw [if_pos hx] at h
              obtain ⟨n1, n2⟩ := kd_bool (hfk.trans hk1) hx
              exact put_core C hw hS hd hp hs h1 h2.1 h2.2 hf n1 n2 (fun b hb => up2_ne S k x hb) (fun i hi => by rw [up2_self, vaup_ne _ _ hi]) (fun _ _ => rfl) (fun _ _ => rfl) (by unfold fvl; simp only [hb]; rw [if_neg (by rw [hk1]; decide), up2_self, vaup_self]; rfl) (fun H1 locs1 hw1 hS1 => hN _ _ _ _ _ _ _ _ _ h H1 locs1 ls hw1 hl hS1 hc hz)
            · rw [if_neg hx] at h
              exact h.elim
        · rename_i b
          replace h := cT h
          obtain ⟨hk1, h⟩ := h
          have hk1 := Nat.beq_eq.mp hk1
          obtain ⟨n1, n2⟩ := kd_ref (hfk.trans hk1) (some (ad E b))
          exact put_core C hw hS hd hp hs h1 h2.1 h2.2 hf n1 n2 (fun _ _ => rfl) (fun _ _ => rfl) (fun b' hb => up2_ne P k (some b) hb) (fun i hi => by rw [up2_self, vaup_ne _ _ hi]) (by unfold fvl; simp only [hb]; rw [if_pos hk1, up2_self, vaup_self]; rfl) (fun H1 locs1 hw1 hS1 => hN _ _ _ _ _ _ _ _ _ h H1 locs1 ls hw1 hl hS1 hc hz)
        · replace h := cT h
          obtain ⟨hk1, h⟩ := h
          have hk1 := Nat.beq_eq.mp hk1
          obtain ⟨n1, n2⟩ := kd_ref (hfk.trans hk1) none
          exact put_core C hw hS hd hp hs h1 h2.1 h2.2 hf n1 n2 (fun _ _ => rfl) (fun _ _ => rfl) (fun b' hb => up2_ne P k none hb) (fun i hi => by rw [up2_self, vaup_ne _ _ hi]) (by unfold fvl; simp only [hb]; rw [if_pos hk1, up2_self, vaup_self]; rfl) (fun H1 locs1 hw1 hS1 => hN _ _ _ _ _ _ _ _ _ h H1 locs1 ls hw1 hl hS1 hc hz)
        · exact h.elim
    · exact h.elim
  · exact h.elim
theorem s_iaload (C : Cx p l e R s m args below meth c E T j D rz mc ini Z Q) (hN : NX p l e R s m args below meth c E T j mc Z nx) (hd : decode (bb j) pc = .ok (.iaload, 1)) (h : i_iald T (gL E) (gS E) nx (pc + 1) lo st n K S G P cs) : AtW p l e R s m args below meth c E T j mc Z pc lo st n K S G P cs := by
  intro H locs ls hw hl hS hc hz
  unfold i_iald at h
  split at h
  · rename_i i a q
    cases hb : Nat.beq a 31 with
    | true =>
      rw [hb] at h
      simp only [cond_true] at h
      split at h
      · rename_i hi
        have e : a = 31 := Nat.beq_eq.mp hb
        subst e
        have hX := C.2.2.2.2.2.2.1.2.2.2.2.2.2.2
        exact va_sld C.1 C.2.1 hX.1 hX.2.1 (Nat.not_le.mpr hX.2.2) hS (ixB_in hi) hd (hN _ _ _ _ _ _ _ _ _ h H locs ls hw hl hS hc hz)
      · exact h.elim
    | false =>
      rw [hb] at h
      simp only [cond_false] at h
      split at h
      · rename_i N hs
        split at h
        · rename_i hi
          exact va_iald C.1 C.2.1 C.2.2.2.2.2.1 hw.2 (a - 32) 0 (hw.cell hs) (tysE_at E (by decide)) (ixB_in hi) hd (hN _ _ _ _ _ _ _ _ _ h H locs ls hw hl hS hc hz)
        · exact h.elim
      · exact h.elim
  · exact h.elim
theorem s_baload (C : Cx p l e R s m args below meth c E T j D rz mc ini Z Q) (hN : NX p l e R s m args below meth c E T j mc Z nx) (hd : decode (bb j) pc = .ok (.baload, 1)) (h : i_bald T nx (pc + 1) lo st n K S G P cs) : AtW p l e R s m args below meth c E T j mc Z pc lo st n K S G P cs := by
  intro H locs ls hw hl hS hc hz
  unfold i_bald at h
  split at h
  · rename_i i a q
    cases hb : (Nat.blt a 20 && Nat.ble 10 a) with
    | true =>
      rw [hb] at h
      simp only [cond_true] at h
      split at h
      · rename_i hi
        simp only [Bool.and_eq_true, Nat.blt_eq, Nat.ble_eq] at hb
        have hE := C.2.2.2.2.2.2.1.2.2.2.1.1 (a - 10) (show @LT.lt Nat instLTNat (a - 10) 10 by have h1 : @LT.lt Nat instLTNat a 20 := hb.1; have h2 : @LE.le Nat instLENat 10 a := hb.2; omega)
        have e1 := sub10 hb.2
        have ha1 : ad E a = gX E a := if_pos (by have h1 : @LT.lt Nat instLTNat a 20 := hb.1; omega)
        have hT := hE.2.2.2
        simp only [e1, ← ha1] at hT
        have hlen : (strB.map (fun l => l.length)).getD (a - 10) 0 = (strB.getD (a - 10) []).length := by
          simp only [List.getD, List.getElem?_map]
          cases strB[a - 10]? <;> rfl
        rw [hlen] at hT
        exact va_tb C.1 C.2.1 hT hS (ixB_in hi) rfl hd (hN _ _ _ _ _ _ _ _ _ h H locs ls hw hl hS hc hz)
      · exact h.elim
    | false =>
      rw [hb] at h
      simp only [cond_false] at h
      split at h
      · rename_i N hs
        split at h
        · rename_i hi
          exact va_bald C.1 C.2.1 C.2.2.2.2.2.1 hw.2 (a - 32) 1 (hw.cell hs) (tysE_at E (by decide)) (ixB_in hi) hd (hN _ _ _ _ _ _ _ _ _ h H locs ls hw hl hS hc hz)
        · exact h.elim
      · rename_i N hs
        split at h
        · rename_i hi
          exact va_zald C.1 C.2.1 C.2.2.2.2.2.1 hw.2 (a - 32) 3 (hw.cell hs) (tysE_at E (by decide)) (ixB_in hi) hd (hN _ _ _ _ _ _ _ _ _ h H locs ls hw hl hS hc hz)
        · exact h.elim
      · exact h.elim
  · exact h.elim
theorem s_laload (C : Cx p l e R s m args below meth c E T j D rz mc ini Z Q) (hN : NX p l e R s m args below meth c E T j mc Z nx) (hd : decode (bb j) pc = .ok (.laload, 1)) (h : i_lald T nx (pc + 1) lo st n K S G P cs) : AtW p l e R s m args below meth c E T j mc Z pc lo st n K S G P cs := by
  intro H locs ls hw hl hS hc hz
  unfold i_lald at h
  split at h
  · rename_i i a q
    split at h
    · rename_i N hs
      split at h
      · rename_i hi
        exact va_lald C.1 C.2.1 C.2.2.2.2.2.1 hw.2 (a - 32) 2 (hw.cell hs) (tysE_at E (by decide)) (ixB_in hi) hd (hN _ _ _ _ _ _ _ _ _ h H locs ls hw hl hS hc hz)
      · exact h.elim
    · exact h.elim
  · exact h.elim
/-- one array cell is written -/
theorem upd_core {H1 : Heap} {a t N : Nat} {S' : Mi} {G' : Ml} {P' : Mr} {ev : va_E} {H : Heap} (hw : Wh E T n K S G P H) (hs : sho T n K a = some (.inl (t, N))) (hS1 : ∀ b, b ≠ a → S' b = S b) (hG1 : ∀ b, b ≠ a → G' b = G b) (hP1 : ∀ b, b ≠ a → P' b = P b) (he : ev = acel E t N (S' a) (G' a) (P' a)) (hP : va_P (gG E) vwC ((wsl E T n K S G P).set (a - 32) (ad E a, ev)) H1) : Wh E T n K S' G' P' H1 := by
  obtain ⟨g1, g2, g3⟩ := sho_some hw.1 hs
  rw [wsl_upd E T K g1 g2 hS1 hG1 hP1 (by rw [he, g3]; rfl)] at hP
  exact ⟨hw.1, hP⟩
theorem s_iastore (C : Cx p l e R s m args below meth c E T j D rz mc ini Z Q) (hN : NX p l e R s m args below meth c E T j mc Z nx) (hd : decode (bb j) pc = .ok (.iastore, 1)) (h : i_iast T nx (pc + 1) lo st n K S G P cs) : AtW p l e R s m args below meth c E T j mc Z pc lo st n K S G P cs := by
  intro H locs ls hw hl hS hc hz
  unfold i_iast at h
  split at h
  · rename_i x i a q
    split at h
    · rename_i N hs
      split at h
      · rename_i hi
        refine va_iast C.1 C.2.1 C.2.2.2.2.2.1 hw.2 (wsl_D E T n K S G P) hS (a - 32) 0 (hw.cell hs) (tysE_at E (by decide)) (ixB_in hi) hd (fun H1 locs1 hP1 _ hS1 => ?_)
        exact hN _ _ _ _ _ _ _ _ _ h H1 locs1 ls (upd_core hw hs (fun b hb => up2_ne S _ x hb) (fun _ _ => rfl) (fun _ _ => rfl) (by rw [up2_self]; rfl) hP1) hl hS1 hc hz
      · exact h.elim
    · exact h.elim
  · exact h.elim
theorem s_bastore (C : Cx p l e R s m args below meth c E T j D rz mc ini Z Q) (hN : NX p l e R s m args below meth c E T j mc Z nx) (hd : decode (bb j) pc = .ok (.bastore, 1)) (h : i_bast T nx (pc + 1) lo st n K S G P cs) : AtW p l e R s m args below meth c E T j mc Z pc lo st n K S G P cs := by
  intro H locs ls hw hl hS hc hz
  unfold i_bast at h
  split at h
  · rename_i x i a q
    split at h
    · rename_i N hs
      split at h
      · rename_i hi
        refine va_bast C.1 C.2.1 C.2.2.2.2.2.1 hw.2 (wsl_D E T n K S G P) hS (a - 32) 1 (hw.cell hs) (tysE_at E (by decide)) (ixB_in hi) hd (fun H1 locs1 hP1 _ hS1 => ?_)
        exact hN _ _ _ _ _ _ _ _ _ h H1 locs1 ls (upd_core hw hs (fun b hb => up2_ne S _ _ hb) (fun _ _ => rfl) (fun _ _ => rfl) (by rw [up2_self]; rfl) hP1) hl hS1 hc hz
      · exact h.elim
    · rename_i N hs
      split at h
      · rename_i hi
        refine va_zast C.1 C.2.1 C.2.2.2.2.2.1 hw.2 (wsl_D E T n K S G P) hS (a - 32) 3 (hw.cell hs) (tysE_at E (by decide)) (ixB_in hi) hd (fun H1 locs1 hP1 _ hS1 => ?_)
        exact hN _ _ _ _ _ _ _ _ _ h H1 locs1 ls (upd_core hw hs (fun b hb => up2_ne S _ _ hb) (fun _ _ => rfl) (fun _ _ => rfl) (by rw [up2_self]; rfl) hP1) hl hS1 hc hz
      · exact h.elim
    · exact h.elim
  · exact h.elim
theorem s_lastore (C : Cx p l e R s m args below meth c E T j D rz mc ini Z Q) (hN : NX p l e R s m args below meth c E T j mc Z nx) (hd : decode (bb j) pc = .ok (.lastore, 1)) (h : i_last T nx (pc + 1) lo st n K S G P cs) : AtW p l e R s m args below meth c E T j mc Z pc lo st n K S G P cs := by
  intro H locs ls hw hl hS hc hz
  unfold i_last at h
  split at h
  · rename_i x i a q
    split at h
    · rename_i N hs
      split at h
      · rename_i hi
        refine va_last C.1 C.2.1 C.2.2.2.2.2.1 hw.2 (wsl_D E T n K S G P) hS (a - 32) 2 (hw.cell hs) (tysE_at E (by decide)) (ixB_in hi) hd (fun H1 locs1 hP1 _ hS1 => ?_)
        exact hN _ _ _ _ _ _ _ _ _ h H1 locs1 ls (upd_core hw hs (fun _ _ => rfl) (fun b hb => up2_ne G _ x hb) (fun _ _ => rfl) (by rw [up2_self]; rfl) hP1) hl hS1 hc hz
      · exact h.elim
    · exact h.elim
  · exact h.elim
theorem s_arraylength (C : Cx p l e R s m args below meth c E T j D rz mc ini Z Q) (hN : NX p l e R s m args below meth c E T j mc Z nx) (hd : decode (bb j) pc = .ok (.arraylength, 1)) (h : i_alen T (gL E) nx (pc + 1) lo st n K S G P cs) : AtW p l e R s m args below meth c E T j mc Z pc lo st n K S G P cs := by
  intro H locs ls hw hl hS hc hz
  unfold i_alen at h
  split at h
  · rename_i a q
    cases hb : Nat.beq a 31 with
    | true =>
      rw [hb] at h
      simp only [cond_true] at h
      have e : a = 31 := Nat.beq_eq.mp hb
      subst e
      have hX := C.2.2.2.2.2.2.1.2.2.2.2.2.2.2
      exact va_slen C.1 C.2.1 hX.1 hX.2.1 (Nat.not_le.mpr hX.2.2) hS hd (hN _ _ _ _ _ _ _ _ _ h H locs ls hw hl hS hc hz)
    | false =>
      rw [hb] at h
      simp only [cond_false] at h
      cases hb2 : (Nat.blt a 20 && Nat.ble 10 a) with
      | true =>
        rw [hb2] at h
        simp only [cond_true] at h
        simp only [Bool.and_eq_true, Nat.blt_eq, Nat.ble_eq] at hb2
        have hE := C.2.2.2.2.2.2.1.2.2.2.1.1 (a - 10) (show @LT.lt Nat instLTNat (a - 10) 10 by have h1 : @LT.lt Nat instLTNat a 20 := hb2.1; have h2 : @LE.le Nat instLENat 10 a := hb2.2; omega)
        have e1 := sub10 hb2.2
        have ha1 : ad E a = gX E a := if_pos (by have h1 : @LT.lt Nat instLTNat a 20 := hb2.1; omega)
        have hT := hE.2.2.2
        simp only [e1, ← ha1] at hT
        have hlen : (strB.map (fun l => l.length)).getD (a - 10) 0 = (strB.getD (a - 10) []).length := by
          simp only [List.getD, List.getElem?_map]
          cases strB[a - 10]? <;> rfl
        rw [hlen] at hT
        exact va_tlen C.1 C.2.1 hT hS rfl hd (hN _ _ _ _ _ _ _ _ _ h H locs ls hw hl hS hc hz)
      | false =>
        rw [hb2] at h
        simp only [cond_false] at h
        split at h
        · rename_i t N hs
          replace h := cT h
          obtain ⟨ht, h⟩ := h
          exact va_alen C.1 C.2.1 C.2.2.2.2.2.1 hw.2 (a - 32) t (hw.cell hs) (tysE_at E (by have := Nat.ble_eq.mp ht; omega)) rfl hd (hN _ _ _ _ _ _ _ _ _ h H locs ls hw hl hS hc hz)
        · exact h.elim
  · exact h.elim
end A
end

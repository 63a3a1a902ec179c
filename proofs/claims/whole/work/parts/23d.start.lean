noncomputable section
/-! THE WALK's beginning, on the machine. -/
section A
variable {p : Program} {e : Env} {s : State} {m : MethodId} {below : List Frame} {meth : Method} {c : Code} {b L : Nat} {xs : Nat → Int32} {E : En}
def QL : QT := fun r _ _ _ _ _ => r = some (.int 1)
theorem law_Cx (l : Launch) (T : Tb) (C0 : lw_At p s m meth c b L xs) (hB : gB E = s.heap.size) (hK : va_K (gG E) vwC (tysE E) s) (hE : Ext E s s.heap) : Cx p l e room_1 s m #[Value.ref b] below meth c E T 214 320 1 7302 false (lw_Z below #[Value.ref b] s) QL := by
  obtain ⟨hx, hb, hr, hml, hown, hts, hX, hbl, hlocks, hgv⟩ := C0
  refine ⟨hx, hb, hml, hown, fun w hw => hts w (List.mem_filter.mp hw).1, hK, hE, by omega, ⟨Nat.le_of_ble_eq_true rfl, Nat.le_of_ble_eq_true rfl, Nat.le_of_ble_eq_true rfl, Nat.le_of_ble_eq_true rfl⟩, fun h => absurd h (by decide), by decide, by decide, ?_⟩
  intro r n K S G P cs H locs ls pc i hQ hw hS hcs hme hz hi hrz hdg
  have er : r = some (.int 1) := hQ
  subst er
  have ei : i = .ireturn := hi
  subst ei
  refine va_forget (fun q hq => ?_) ?_
  · have h1 : gB E ≤ q.base := hS.2.2 q hq
    omega
  · refine W.widen (k := 600000) (n := 7302249) (by omega) (by omega) ?_
    exact lw_ret hx hb hr hlocks hdg
theorem whole_begin (l : Launch) (hM : MuH l) (hL : L ≤ 3072) (C0 : lw_At p s m meth c b L xs) : W p l e room_1 s m #[Value.ref b] below meth c s.heap [] 0 0 (lw_Z below #[Value.ref b] s) (entryFrame m ([Value.ref b] : List Value).toArray 4) := by
  have C0' := C0
  obtain ⟨hx, hb, hr, hml, hown, hts, hX, hbl, hlocks, hgv⟩ := C0'
  obtain ⟨E, h1, h2, h3, h4, h5, h6⟩ := start_E hts hgv hX hbl
  have D0 := law_Cx (e := e) (below := below) l T0 C0 h1 h5 h6
  have D1 := law_Cx (e := e) (below := below) l T1 C0 h1 h5 h6
  have hAt := law_start (l := l) (L := L) (xs := xs) (D := 5) (Q := QL) (At0 := AtW p l e room_1 s m #[Value.ref b] below meth c E T0 214 7302 (lw_Z below #[Value.ref b] s)) (At1 := AtW p l e room_1 s m #[Value.ref b] below meth c E T1 214 7302 (lw_Z below #[Value.ref b] s)) (K := fun _ => 0) (P := fun _ _ => none)
    (fun stop k pc lo st n K S G P cs h => stp_sound D0 (fun pc lo st n K S G P cs h => wps_sound D0 h3 h4 k pc lo st n K S G P cs h) h3 h4 h)
    (fun stop k pc lo st n K S G P cs h => stp_sound D1 (fun pc lo st n K S G P cs h => wps_sound D1 h3 h4 k pc lo st n K S G P cs h) h3 h4 h)
    (fun pc lo st K S G P cs hP h H locs ls hw hl hS hc hz => h H locs ls (Wh_01 hP hw) hl hS hc hz) hM hL (fun _ _ _ _ _ => rfl)
  have haa : ∀ v ∈ [Value.ref 31], okA v = true := by
    intro v hv
    rw [List.mem_singleton.mp hv]
    rfl
  have hlh := lh_entry E (j := 214) (as := [.ref 31]) haa (Nat.le_of_ble_eq_true rfl)
  have ea : [Value.ref 31].map (tv E) = [Value.ref b] := by
    show [Value.ref (ad E 31)] = [Value.ref b]
    rw [show ad E 31 = gX E 31 from rfl, h2]
  rw [ea] at hlh
  rw [lg_entry_eq]
  exact hAt s.heap [] _ ⟨Nat.le_refl _, fun k q hq => by cases hq⟩ hlh va_S.rf (Nat.zero_le _) (by omega)
end A
end

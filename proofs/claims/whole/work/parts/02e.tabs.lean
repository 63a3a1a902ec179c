noncomputable section
def poolIn (o i : Nat) (r : Rs) : Bool := (plo o).any (fun q => decide (q.1 = i) && decide (q.2.1 = r))
def tgOk (pc : Nat) (off : Int) (t : Nat) : Bool := decide ((pc : Int) + off = (t : Int))
/-- an entry says what the machine's instruction is -/
def entOk (o : Nat) (pc : Nat) (e : Ent) : Bool := match e with
  | (ins, _, t, v, sw, r) => match ins with
    | .iconst x => decide (Int32.ofInt x = v)
    | .bipush x => decide ((Int8.ofInt x).toInt32 = v)
    | .sipush x => decide ((Int16.ofInt x).toInt32 = v)
    | .iinc _ x => decide (Int32.ofInt x = v)
    | .if_icmp _ off => tgOk pc off t
    | .ifCond _ off => tgOk pc off t
    | .goto off => tgOk pc off t
    | .ifnull off => tgOk pc off t
    | .ifnonnull off => tgOk pc off t
    | .tableswitch d lo hi offs => tgOk pc d t && decide (-100 < lo) && decide (hi < 100) && decide ((offs.size : Int) = hi - lo + 1) && decide (sw = (List.range offs.size).map (fun (i : Nat) => (Int32.ofInt (lo + (i : Int)), ((pc : Int) + offs.getD i 0).toNat))) && (List.range offs.size).all (fun i => decide (0 ≤ (pc : Int) + offs.getD i 0))
    | .lookupswitch d ps => tgOk pc d t && (ps.toList.zip (ps.toList.drop 1)).all (fun (a, next) => a.1 < next.1) && decide (sw = ps.toList.map (fun q => (Int32.ofInt q.1, ((pc : Int) + q.2).toNat))) && ps.toList.all (fun q => decide (0 ≤ (pc : Int) + q.2) && decide (-100 < q.1) && decide (q.1 < 100))
    | .getfield i => poolIn o i r
    | .putfield i => poolIn o i r
    | .getstatic i => poolIn o i r
    | .invokestatic i => decide (r.1 = 99) || poolIn o i r
    | .invokevirtual i => decide (r.1 = 99) || poolIn o i r
    | .invokespecial i => decide (r.1 = 99) || poolIn o i r
    | .new i => poolIn o i r
    | .instanceof i => poolIn o i r
    | .anewarray i => poolIn o i r
    | .multianewarray i d => decide (d = 2) && poolIn o i r
    | .ldc i => poolIn o i r && (decide (r.1 = 12) || (decide (r.1 = 11) && decide (Int32.ofNat r.2.1 = v)))
    | .ldc_w i => poolIn o i r && (decide (r.1 = 11) && decide (Int32.ofNat r.2.1 = v))
    | .ldc2_w i => poolIn o i r && decide (r.1 = 13)
    | _ => true
def decOk (cc : ByteArray) (pc : Nat) (e : Ent) : Bool := decide (pc < e.2.1) && decide (decode cc pc = .ok (e.1, e.2.1 - pc))
def tabP (j pc : Nat) : Bool := match look (tb j) pc with
  | none => true
  | some e => decOk (bb j) pc e && entOk (ow j) pc e
def tabOk (j : Nat) : Bool := (List.range (16 * (tb j).length)).all (tabP j)
theorem look_lt {t : Tab} {pc : Nat} {e : Ent} (h : look t pc = some e) : pc < 16 * t.length := by
  unfold look at h
  by_cases q : pc / 16 < t.length
  · omega
  · have h9 : t[pc / 16]? = none := List.getElem?_eq_none (by omega)
    simp [List.getD, h9] at h
theorem tabOk_use {j pc : Nat} {e : Ent} (h : tabOk j = true) (hl : look (tb j) pc = some e) : decode (bb j) pc = .ok (e.1, e.2.1 - pc) ∧ pc < e.2.1 ∧ entOk (ow j) pc e = true := by
  have h1 := List.all_eq_true.mp h pc (List.mem_range.mpr (look_lt hl))
  unfold tabP at h1
  rw [hl] at h1
  simp only [Bool.and_eq_true, decOk, decide_eq_true_eq] at h1
  exact ⟨h1.1.2, h1.1.1, h1.2⟩
def nMeth : Nat := 215
end

noncomputable section
/-! WHAT A READ CLAUSE SAYS. -/
/-- codes that push one answer -/
def PuC (lim h : Nat) (lc : List Nat) (vals : Nat → Int32) (x : Bool) : Prop := ∀ st : List Bool, st.length + h ≤ lim → ev lim lc vals st = some (x :: st)
theorem PuC_le {lim h h' : Nat} {lc : List Nat} {vals : Nat → Int32} {x : Bool} (hh : h ≤ h') (p : PuC lim h lc vals x) : PuC lim h' lc vals x := fun st hs => p st (by omega)
theorem PuC_test {lim c : Nat} {vals : Nat → Int32} (hc : 3 ≤ c) : PuC lim 1 [c] vals (tsB (c - 3) vals) := fun st hs => by
  rw [ev_c, if_pos hc, if_pos (by omega)]
  rfl
/-- codes that change the answer on top -/
def OpC (lim h : Nat) (lc : List Nat) (vals : Nat → Int32) (o : Bool → Bool) : Prop := ∀ (st : List Bool) (x : Bool), st.length + 1 + h ≤ lim → ev lim lc vals (x :: st) = some (o x :: st)
theorem PuC_op {lim h h1 h2 : Nat} {l1 l2 : List Nat} {vals : Nat → Int32} {x : Bool} {o : Bool → Bool} (p : PuC lim h1 l1 vals x) (q : OpC lim h2 l2 vals o) (e1 : h1 ≤ h) (e2 : 1 + h2 ≤ h) : PuC lim h (l1 ++ l2) vals (o x) := fun st hs => by
  rw [ev_app, p st (by omega)]
  exact q st x (by omega)
theorem OpC_op {lim h h1 h2 : Nat} {l1 l2 : List Nat} {vals : Nat → Int32} {o q : Bool → Bool} (p : OpC lim h1 l1 vals o) (r : OpC lim h2 l2 vals q) (e1 : h1 ≤ h) (e2 : h2 ≤ h) : OpC lim h (l1 ++ l2) vals (fun x => q (o x)) := fun st x hs => by
  rw [ev_app, p st x (by omega)]
  exact r st (o x) (by omega)
theorem OpC_and {lim h : Nat} {lc : List Nat} {vals : Nat → Int32} {y : Bool} (p : PuC lim h lc vals y) : OpC lim h (lc ++ [1]) vals (fun x => x && y) := fun st x hs => by
  rw [ev_app, p (x :: st) (by rw [List.length_cons]; omega)]
  rfl
theorem OpC_or {lim h : Nat} {lc : List Nat} {vals : Nat → Int32} {y : Bool} (p : PuC lim h lc vals y) : OpC lim h (lc ++ [2]) vals (fun x => x || y) := fun st x hs => by
  rw [ev_app, p (x :: st) (by rw [List.length_cons]; omega)]
  rfl
theorem PuC_not {lim h : Nat} {lc : List Nat} {vals : Nat → Int32} {y : Bool} (p : PuC lim h lc vals y) : PuC lim h (lc ++ [0]) vals (!y) := fun st hs => by
  rw [ev_app, p st hs]
  rfl
theorem OpC_id {lim h : Nat} {vals : Nat → Int32} : OpC lim h [] vals (fun x => x) := fun _ _ _ => rfl
end

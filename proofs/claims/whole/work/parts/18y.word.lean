noncomputable section
/-! THE WORD of a clause. -/
def wdP (t : Nat → Nat) (sz p : Nat) : Option Nat × Nat :=
  if isC t sz 108 p = true then ((if (mW t sz (wdL 5) p).1 = true then some 0 else none), (mW t sz (wdL 5) p).2)
  else if isC t sz 100 p = true then ((if (mW t sz (wdL 6) p).1 = true then some 1 else none), (mW t sz (wdL 6) p).2)
  else if isC t sz 98 p = true then ((if (mW t sz (wdL 7) p).1 = true then some 2 else none), (mW t sz (wdL 7) p).2)
  else (none, p)
def wdI : Option Nat → Int32
  | some 0 => 1
  | some 1 => -1
  | some _ => 0
  | none => -2
theorem mW_5 {t : Nat → Nat} {sz p : Nat} (h : isC t sz 108 p = true) : mW t sz (wdL 5) p = mW t sz (wdL 0) (p + 1) := if_pos h
theorem mW_6 {t : Nat → Nat} {sz p : Nat} (h : isC t sz 100 p = true) : mW t sz (wdL 6) p = mW t sz (wdL 1) (p + 1) := if_pos h
theorem mW_7 {t : Nat → Nat} {sz p : Nat} (h : isC t sz 98 p = true) : mW t sz (wdL 7) p = mW t sz (wdL 2) (p + 1) := if_pos h
end

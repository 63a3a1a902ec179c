noncomputable section
/-! THE CALCULUS. What a run of code asks, as one proposition over plain numbers: no machine in it. Part 05 says that it is enough. -/
abbrev Mi : Type := Nat → Nat → Int32
abbrev Ml : Type := Nat → Nat → Int64
abbrev Mr : Type := Nat → Nat → Option Nat
abbrev Mk : Type := Nat → Nat
/-- a shape: an array (its sort, its length), or an object (its class, the cells that its final references name) -/
abbrev Sh : Type := (Nat × Nat) ⊕ (Nat × List (Option Nat))
/-- shapes: how many cells are always there, which shape each has, 0: those behind them too; 1: those behind them are people -/
abbrev Tb : Type := Nat × (Nat → Sh) × Nat
abbrev PT : Type := Nat → List Value → List Value → Nat → Mk → Mi → Ml → Mr → Nat → Prop
abbrev QT : Type := Option Value → Nat → Mk → Mi → Ml → Mr → Prop
abbrev CT : Type := Nat → Nat → List Value → Nat → Mk → Mi → Ml → Mr → QT → Prop
def up2 {α : Type} (S : Nat → Nat → α) (a i : Nat) (x : α) : Nat → Nat → α := fun b => if b = a then va_up (S b) i x else S b
def upR {α : Type} (S : Nat → α) (a : Nat) (x : α) : Nat → α := fun b => if b = a then x else S b
def shp (T : Tb) (K : Mk) (a : Nat) : Sh := cond (Nat.blt (a - 32) T.1 || Nat.beq T.2.2 0) (T.2.1 (a - 32)) (.inr (K a, [none, none, none, none]))
def sho (T : Tb) (n : Nat) (K : Mk) (a : Nat) : Option Sh := cond (Nat.blt a 32) none (cond (Nat.blt (a - 32) T.1 || Nat.blt (a - 32) n) (some (shp T K a)) none)
/-- a local takes a value: the list goes on with it -/
def lsk : List Value → Nat → Value → (List Value → Prop) → Prop
  | [], _, _, _ => False
  | _ :: l, 0, v, k => k (v :: l)
  | a :: l, 1, v, k => match a with
    | .long _ => lsk l 0 v (fun l' => k (.retAddr 0 :: l'))
    | .double _ => lsk l 0 v (fun l' => k (.retAddr 0 :: l'))
    | .int x => lsk l 0 v (fun l' => k (.int x :: l'))
    | .ref x => lsk l 0 v (fun l' => k (.ref x :: l'))
    | .null => lsk l 0 v (fun l' => k (.null :: l'))
    | .retAddr x => lsk l 0 v (fun l' => k (.retAddr x :: l'))
    | .float x => lsk l 0 v (fun l' => k (.float x :: l'))
  | a :: l, i + 2, v, k => lsk l (i + 1) v (fun l' => k (a :: l'))
/-- a place behind a long's is nobody's -/
def lsr : List Value → Nat → (List Value → Prop) → Prop
  | [], _, _ => False
  | _ :: l, 0, k => k (.retAddr 0 :: l)
  | a :: l, i + 1, k => lsr l i (fun l' => k (a :: l'))
/-- the arguments of a call, from the stack -/
def tkA : Nat → List Value → List Value → (List Value → List Value → Prop) → Prop
  | 0, acc, st, k => k acc st
  | _ + 1, _, [], _ => False
  | n + 1, acc, v :: st, k => tkA n (v :: acc) st k
def scat (st : List Value) : Nat := (st.map (fun v => v.category)).sum
/-- which value runs where in a new frame -/
def layv : List Value → List Value
  | [] => []
  | .long x :: r => .long x :: .retAddr 0 :: layv r
  | v :: r => v :: layv r
def swp (x : Int32) (d : Nat) (k : Nat → Prop) : List (Int32 × Nat) → Prop
  | [] => k d
  | (c, t) :: r => if x = c then k t else swp x d k r
def ixOk (i : Int32) (n : Nat) : Prop := 0 ≤ i.toInt ∧ i.toInt < (n : Int)
def ixB (i : Int32) (n : Nat) : Bool := decide (0 ≤ i.toInt) && decide (i.toInt < (n : Int))
def i_bin (f : Int32 → Int32 → Int32) (nx : PT) (nt : Nat) (lo st : List Value) (n : Nat) (K : Mk) (S : Mi) (G : Ml) (P : Mr) (cs : Nat) : Prop := match st with
  | .int y :: .int x :: r => nx nt lo (.int (f x y) :: r) n K S G P cs
  | _ => False
def i_un (f : Int32 → Int32) (nx : PT) (nt : Nat) (lo st : List Value) (n : Nat) (K : Mk) (S : Mi) (G : Ml) (P : Mr) (cs : Nat) : Prop := match st with
  | .int x :: r => nx nt lo (.int (f x) :: r) n K S G P cs
  | _ => False
def i_binL (f : Int64 → Int64 → Int64) (nx : PT) (nt : Nat) (lo st : List Value) (n : Nat) (K : Mk) (S : Mi) (G : Ml) (P : Mr) (cs : Nat) : Prop := match st with
  | .long y :: .long x :: r => nx nt lo (.long (f x y) :: r) n K S G P cs
  | _ => False
def i_shL (f : Int64 → Int32 → Int64) (nx : PT) (nt : Nat) (lo st : List Value) (n : Nat) (K : Mk) (S : Mi) (G : Ml) (P : Mr) (cs : Nat) : Prop := match st with
  | .int y :: .long x :: r => nx nt lo (.long (f x y) :: r) n K S G P cs
  | _ => False
def i_div (f : Int32 → Int32 → Int32) (nx : PT) (nt : Nat) (lo st : List Value) (n : Nat) (K : Mk) (S : Mi) (G : Ml) (P : Mr) (cs : Nat) : Prop := match st with
  | .int y :: .int x :: r => if y = 0 then False else nx nt lo (.int (f x y) :: r) n K S G P cs
  | _ => False
def i_ild (i : Nat) (nx : PT) (nt : Nat) (lo st : List Value) (n : Nat) (K : Mk) (S : Mi) (G : Ml) (P : Mr) (cs : Nat) : Prop := match lo[i]? with
  | some (.int x) => nx nt lo (.int x :: st) n K S G P cs
  | _ => False
def i_lld (i : Nat) (nx : PT) (nt : Nat) (lo st : List Value) (n : Nat) (K : Mk) (S : Mi) (G : Ml) (P : Mr) (cs : Nat) : Prop := match lo[i]? with
  | some (.long x) => nx nt lo (.long x :: st) n K S G P cs
  | _ => False
def i_ald (i : Nat) (nx : PT) (nt : Nat) (lo st : List Value) (n : Nat) (K : Mk) (S : Mi) (G : Ml) (P : Mr) (cs : Nat) : Prop := match lo[i]? with
  | some (.ref x) => nx nt lo (.ref x :: st) n K S G P cs
  | some (.retAddr 7) => nx nt lo (.retAddr 7 :: st) n K S G P cs
  | _ => False
def i_ist (i : Nat) (nx : PT) (nt : Nat) (lo st : List Value) (n : Nat) (K : Mk) (S : Mi) (G : Ml) (P : Mr) (cs : Nat) : Prop := match st with
  | .int x :: r => lsk lo i (.int x) (fun lo' => nx nt lo' r n K S G P cs)
  | _ => False
def i_ast (i : Nat) (nx : PT) (nt : Nat) (lo st : List Value) (n : Nat) (K : Mk) (S : Mi) (G : Ml) (P : Mr) (cs : Nat) : Prop := match st with
  | .ref x :: r => lsk lo i (.ref x) (fun lo' => nx nt lo' r n K S G P cs)
  | _ => False
def i_lst (i : Nat) (nx : PT) (nt : Nat) (lo st : List Value) (n : Nat) (K : Mk) (S : Mi) (G : Ml) (P : Mr) (cs : Nat) : Prop := match st with
  | .long x :: r => lsk lo i (.long x) (fun lo' => lsr lo' (i + 1) (fun lo'' => nx nt lo'' r n K S G P cs))
  | _ => False
def i_inc (i : Nat) (v : Int32) (nx : PT) (nt : Nat) (lo st : List Value) (n : Nat) (K : Mk) (S : Mi) (G : Ml) (P : Mr) (cs : Nat) : Prop := match lo[i]? with
  | some (.int x) => lsk lo i (.int (x + v)) (fun lo' => nx nt lo' st n K S G P cs)
  | _ => False
def i_dup (nx : PT) (nt : Nat) (lo st : List Value) (n : Nat) (K : Mk) (S : Mi) (G : Ml) (P : Mr) (cs : Nat) : Prop := match st with
  | .int x :: r => nx nt lo (.int x :: .int x :: r) n K S G P cs
  | .ref x :: r => nx nt lo (.ref x :: .ref x :: r) n K S G P cs
  | _ => False
def i_dx1 (nx : PT) (nt : Nat) (lo st : List Value) (n : Nat) (K : Mk) (S : Mi) (G : Ml) (P : Mr) (cs : Nat) : Prop := match st with
  | .int x :: .ref y :: r => nx nt lo (.int x :: .ref y :: .int x :: r) n K S G P cs
  | _ => False
def i_dup2 (nx : PT) (nt : Nat) (lo st : List Value) (n : Nat) (K : Mk) (S : Mi) (G : Ml) (P : Mr) (cs : Nat) : Prop := match st with
  | .int x :: .ref y :: r => nx nt lo (.int x :: .ref y :: .int x :: .ref y :: r) n K S G P cs
  | _ => False
def i_pop (nx : PT) (nt : Nat) (lo st : List Value) (n : Nat) (K : Mk) (S : Mi) (G : Ml) (P : Mr) (cs : Nat) : Prop := match st with
  | .int _ :: r => nx nt lo r n K S G P cs
  | _ => False
def i_c2 (c : ClassFile.Cond) (tg : Nat) (nx : PT) (nt : Nat) (lo st : List Value) (n : Nat) (K : Mk) (S : Mi) (G : Ml) (P : Mr) (cs : Nat) : Prop := match st with
  | .int y :: .int x :: r => match c with
    | .eq => if x = y then nx tg lo r n K S G P cs else nx nt lo r n K S G P cs
    | .ne => if x = y then nx nt lo r n K S G P cs else nx tg lo r n K S G P cs
    | .lt => if x < y then nx tg lo r n K S G P cs else nx nt lo r n K S G P cs
    | .ge => if y ≤ x then nx tg lo r n K S G P cs else nx nt lo r n K S G P cs
    | .gt => if y < x then nx tg lo r n K S G P cs else nx nt lo r n K S G P cs
    | .le => if x ≤ y then nx tg lo r n K S G P cs else nx nt lo r n K S G P cs
  | _ => False
def i_c1 (c : ClassFile.Cond) (tg : Nat) (nx : PT) (nt : Nat) (lo st : List Value) (n : Nat) (K : Mk) (S : Mi) (G : Ml) (P : Mr) (cs : Nat) : Prop := match st with
  | .int x :: r => match c with
    | .eq => if x = 0 then nx tg lo r n K S G P cs else nx nt lo r n K S G P cs
    | .ne => if x = 0 then nx nt lo r n K S G P cs else nx tg lo r n K S G P cs
    | .lt => if x < 0 then nx tg lo r n K S G P cs else nx nt lo r n K S G P cs
    | .ge => if 0 ≤ x then nx tg lo r n K S G P cs else nx nt lo r n K S G P cs
    | .gt => if 0 < x then nx tg lo r n K S G P cs else nx nt lo r n K S G P cs
    | .le => if x ≤ 0 then nx tg lo r n K S G P cs else nx nt lo r n K S G P cs
  | _ => False
def i_nul (b : Bool) (tg : Nat) (nx : PT) (nt : Nat) (lo st : List Value) (n : Nat) (K : Mk) (S : Mi) (G : Ml) (P : Mr) (cs : Nat) : Prop := match st with
  | .ref _ :: r => nx (cond b nt tg) lo r n K S G P cs
  | .null :: r => nx (cond b tg nt) lo r n K S G P cs
  | _ => False
def i_sw (sw : List (Int32 × Nat)) (tg : Nat) (nx : PT) (lo st : List Value) (n : Nat) (K : Mk) (S : Mi) (G : Ml) (P : Mr) (cs : Nat) : Prop := match st with
  | .int x :: r => swp x tg (fun t => nx t lo r n K S G P cs) sw
  | _ => False
/-- a field is read: of a cell of the world, or of a text -/
def i_get (T : Tb) (r : Rs) (nx : PT) (nt : Nat) (lo st : List Value) (n : Nat) (K : Mk) (S : Mi) (G : Ml) (P : Mr) (cs : Nat) : Prop := match st with
  | .ref a :: q => cond (Nat.beq r.1 0)
      (match sho T n K a with
        | some (.inr (ci, fs)) => cond (Nat.beq (fam ci) r.2.1 && (Nat.blt r.2.2.1 fs.length && Nat.beq fs.length (nf ci)))
            (match fs.getD r.2.2.1 none with
              | some b => nx nt lo (.ref b :: q) n K S G P cs
              | none => cond (Nat.beq (fk ci r.2.2.1) 2) (nx nt lo (va_rf (P a r.2.2.1) :: q) n K S G P cs) (nx nt lo (.int (S a r.2.2.1) :: q) n K S G P cs))
            False
        | _ => False)
      (cond (Nat.beq r.1 17 && Nat.blt a 10) (cond (Nat.beq r.2.1 0) (nx nt lo (.ref (a + 10) :: q) n K S G P cs) (nx nt lo (.int 0 :: q) n K S G P cs)) False)
  | _ => False
/-- a field is written -/
def i_put (T : Tb) (ini : Bool) (r : Rs) (nx : PT) (nt : Nat) (lo st : List Value) (n : Nat) (K : Mk) (S : Mi) (G : Ml) (P : Mr) (cs : Nat) : Prop := match st with
  | v :: .ref a :: q => cond (Nat.beq r.1 0 && (Nat.beq r.2.2.2.2 0 || (Nat.beq r.2.2.2.2 1 && ini)))
      (match sho T n K a with
        | some (.inr (ci, fs)) => cond (Nat.beq (fam ci) r.2.1 && (Nat.blt r.2.2.1 fs.length && Nat.beq fs.length (nf ci)))
            (match fs.getD r.2.2.1 none with
              | some _ => False
              | none => match v with
                | .int x => cond (Nat.beq (fk ci r.2.2.1) 0) (nx nt lo q n K (up2 S a r.2.2.1 x) G P cs) (cond (Nat.beq (fk ci r.2.2.1) 1) (if x = 0 ∨ x = 1 then nx nt lo q n K (up2 S a r.2.2.1 x) G P cs else False) False)
                | .ref b => cond (Nat.beq (fk ci r.2.2.1) 2) (nx nt lo q n K S G (up2 P a r.2.2.1 (some b)) cs) False
                | .null => cond (Nat.beq (fk ci r.2.2.1) 2) (nx nt lo q n K S G (up2 P a r.2.2.1 none) cs) False
                | _ => False)
            False
        | _ => False)
      False
  | _ => False
/-- array loads: of the world's arrays, of the script (31), of a text's bytes (10 .. 19) -/
def i_iald (T : Tb) (L : Nat) (xs : Nat → Int32) (nx : PT) (nt : Nat) (lo st : List Value) (n : Nat) (K : Mk) (S : Mi) (G : Ml) (P : Mr) (cs : Nat) : Prop := match st with
  | .int i :: .ref a :: q => cond (Nat.beq a 31) (if ixB i L = true then nx nt lo (.int (xs i.toNatClampNeg) :: q) n K S G P cs else False)
      (match sho T n K a with
        | some (.inl (0, N)) => if ixB i N = true then nx nt lo (.int (S a i.toNatClampNeg) :: q) n K S G P cs else False
        | _ => False)
  | _ => False
def i_bald (T : Tb) (nx : PT) (nt : Nat) (lo st : List Value) (n : Nat) (K : Mk) (S : Mi) (G : Ml) (P : Mr) (cs : Nat) : Prop := match st with
  | .int i :: .ref a :: q => cond (Nat.blt a 20 && Nat.ble 10 a) (if ixB i (strB.getD (a - 10) []).length = true then nx nt lo (.int ((strB.getD (a - 10) []).getD i.toNatClampNeg 0) :: q) n K S G P cs else False)
      (match sho T n K a with
        | some (.inl (1, N)) => if ixB i N = true then nx nt lo (.int (S a i.toNatClampNeg) :: q) n K S G P cs else False
        | some (.inl (3, N)) => if ixB i N = true then nx nt lo (.int (S a i.toNatClampNeg) :: q) n K S G P cs else False
        | _ => False)
  | _ => False
def i_lald (T : Tb) (nx : PT) (nt : Nat) (lo st : List Value) (n : Nat) (K : Mk) (S : Mi) (G : Ml) (P : Mr) (cs : Nat) : Prop := match st with
  | .int i :: .ref a :: q => match sho T n K a with
    | some (.inl (2, N)) => if ixB i N = true then nx nt lo (.long (G a i.toNatClampNeg) :: q) n K S G P cs else False
    | _ => False
  | _ => False
def i_aald (T : Tb) (nx : PT) (nt : Nat) (lo st : List Value) (n : Nat) (K : Mk) (S : Mi) (G : Ml) (P : Mr) (cs : Nat) : Prop := match st with
  | .int i :: .ref a :: q => match sho T n K a with
    | some (.inl (t, N)) => cond (Nat.ble 4 t && Nat.ble t 6) (if ixB i N = true then nx nt lo (va_rf (P a i.toNatClampNeg) :: q) n K S G P cs else False) False
    | _ => False
  | _ => False
def i_iast (T : Tb) (nx : PT) (nt : Nat) (lo st : List Value) (n : Nat) (K : Mk) (S : Mi) (G : Ml) (P : Mr) (cs : Nat) : Prop := match st with
  | .int x :: .int i :: .ref a :: q => match sho T n K a with
    | some (.inl (0, N)) => if ixB i N = true then nx nt lo q n K (up2 S a i.toNatClampNeg x) G P cs else False
    | _ => False
  | _ => False
def i_bast (T : Tb) (nx : PT) (nt : Nat) (lo st : List Value) (n : Nat) (K : Mk) (S : Mi) (G : Ml) (P : Mr) (cs : Nat) : Prop := match st with
  | .int x :: .int i :: .ref a :: q => match sho T n K a with
    | some (.inl (1, N)) => if ixB i N = true then nx nt lo q n K (up2 S a i.toNatClampNeg (vp_nar .byte x)) G P cs else False
    | some (.inl (3, N)) => if ixB i N = true then nx nt lo q n K (up2 S a i.toNatClampNeg (vp_nar .boolean x)) G P cs else False
    | _ => False
  | _ => False
def i_last (T : Tb) (nx : PT) (nt : Nat) (lo st : List Value) (n : Nat) (K : Mk) (S : Mi) (G : Ml) (P : Mr) (cs : Nat) : Prop := match st with
  | .long x :: .int i :: .ref a :: q => match sho T n K a with
    | some (.inl (2, N)) => if ixB i N = true then nx nt lo q n K S (up2 G a i.toNatClampNeg x) P cs else False
    | _ => False
  | _ => False
/-- a reference comes into an array of people or of streets -/
def i_aast (T : Tb) (nx : PT) (nt : Nat) (lo st : List Value) (n : Nat) (K : Mk) (S : Mi) (G : Ml) (P : Mr) (cs : Nat) : Prop := match st with
  | .ref b :: .int i :: .ref a :: q => match sho T n K a with
    | some (.inl (t, N)) => (match sho T n K b with
      | some (.inr (ci, _)) => cond ((Nat.beq t 4 && isSub ci 4) || (Nat.beq t 5 && Nat.beq ci 7)) (if ixB i N = true then nx nt lo q n K S G (up2 P a i.toNatClampNeg (some b)) cs else False) False
      | _ => False)
    | _ => False
  | .null :: .int i :: .ref a :: q => match sho T n K a with
    | some (.inl (t, N)) => cond (Nat.beq t 4 || Nat.beq t 5) (if ixB i N = true then nx nt lo q n K S G (up2 P a i.toNatClampNeg none) cs else False) False
    | _ => False
  | _ => False
def i_alen (T : Tb) (L : Nat) (nx : PT) (nt : Nat) (lo st : List Value) (n : Nat) (K : Mk) (S : Mi) (G : Ml) (P : Mr) (cs : Nat) : Prop := match st with
  | .ref a :: q => cond (Nat.beq a 31) (nx nt lo (.int (nI L) :: q) n K S G P cs)
      (cond (Nat.blt a 20 && Nat.ble 10 a) (nx nt lo (.int (nI (strB.getD (a - 10) []).length) :: q) n K S G P cs)
        (match sho T n K a with
          | some (.inl (t, N)) => cond (Nat.ble t 6) (nx nt lo (.int (nI N) :: q) n K S G P cs) False
          | _ => False))
  | _ => False
/-- what a callee's end goes on with -/
def rgo (rk : Nat) (nx : PT) (nt : Nat) (lo q : List Value) (cs : Nat) : QT := fun r n K S G P => match rk, r with
  | 0, none => nx nt lo q n K S G P cs
  | 1, some (.int x) => nx nt lo (.int x :: q) n K S G P cs
  | 2, some (.long x) => nx nt lo (.long x :: q) n K S G P cs
  | 3, some (.ref x) => nx nt lo (.ref x :: q) n K S G P cs
  | _, _ => False
/-- the methods that make cells -/
def mcq (j : Nat) : Bool := cond (Nat.beq j 116) true (cond (Nat.beq j 9) true (cond (Nat.beq j 22) true (cond (Nat.beq j 67) true (cond (Nat.beq j 42) true (cond (Nat.beq j 69) true (cond (Nat.beq j 70) true (cond (Nat.beq j 109) true (false))))))))
def i_go (mc j : Nat) (as q : List Value) (rk : Nat) (Cl : CT) (nx : PT) (nt : Nat) (lo : List Value) (n : Nat) (K : Mk) (S : Mi) (G : Ml) (P : Mr) (cs : Nat) : Prop :=
  cond (Nat.ble (scat q) 8) (cond (mcq j) (∃ c, cs + c ≤ mc ∧ Cl j c as n K S G P (rgo rk nx nt lo q (cs + c))) (Cl j 0 as n K S G P (rgo rk nx nt lo q cs))) False
def cpOk (sp dp ln : Int32) (n0 n1 : Nat) : Prop := 0 ≤ sp.toInt ∧ 0 ≤ dp.toInt ∧ 0 ≤ ln.toInt ∧ sp.toInt + ln.toInt ≤ (n0 : Int) ∧ dp.toInt + ln.toInt ≤ (n1 : Int)
def i_copy (T : Tb) (nx : PT) (nt : Nat) (lo st : List Value) (n : Nat) (K : Mk) (S : Mi) (G : Ml) (P : Mr) (cs : Nat) : Prop := match st with
  | .int ln :: .int dp :: .ref b :: .int sp :: .ref a :: q => cond (Nat.ble (scat q) 8) (match sho T n K a, sho T n K b with
    | some (.inl (0, n0)), some (.inl (0, n1)) => cpOk sp dp ln n0 n1 ∧ nx nt lo q n K (upR S b (va_cpy (S a) (S b) sp.toNatClampNeg dp.toNatClampNeg ln.toNatClampNeg)) G P cs
    | some (.inl (1, n0)), some (.inl (1, n1)) => cpOk sp dp ln n0 n1 ∧ (∀ i, i < ln.toNatClampNeg → fits .byte (.int (S a (sp.toNatClampNeg + i))) = true) ∧ nx nt lo q n K (upR S b (va_cpy (S a) (S b) sp.toNatClampNeg dp.toNatClampNeg ln.toNatClampNeg)) G P cs
    | some (.inl (2, n0)), some (.inl (2, n1)) => cpOk sp dp ln n0 n1 ∧ nx nt lo q n K S (upR G b (va_cpy (G a) (G b) sp.toNatClampNeg dp.toNatClampNeg ln.toNatClampNeg)) P cs
    | _, _ => False) False
  | _ => False
def i_stat (T : Tb) (mc : Nat) (r : Rs) (Cl : CT) (nx : PT) (nt : Nat) (lo st : List Value) (n : Nat) (K : Mk) (S : Mi) (G : Ml) (P : Mr) (cs : Nat) : Prop :=
  cond (Nat.beq r.1 1) (tkA r.2.2.1 [] st (fun as q => i_go mc r.2.1 as q r.2.2.2.2 Cl nx nt lo n K S G P cs))
    (cond (Nat.beq r.1 16) (i_copy T nx nt lo st n K S G P cs) False)
def i_virt (T : Tb) (mc : Nat) (r : Rs) (Cl : CT) (nx : PT) (nt : Nat) (lo st : List Value) (n : Nat) (K : Mk) (S : Mi) (G : Ml) (P : Mr) (cs : Nat) : Prop :=
  tkA r.2.2.1 [] st (fun as q => match q with
    | .ref a :: q' => cond (Nat.beq r.1 2)
        (cond (Nat.blt a 10 && Nat.beq r.2.2.2.1 14) (i_go mc r.2.1 (.ref a :: as) q' r.2.2.2.2 Cl nx nt lo n K S G P cs)
          (match sho T n K a with
            | some (.inr (ci, _)) => cond (Nat.beq ci r.2.2.2.1) (i_go mc r.2.1 (.ref a :: as) q' r.2.2.2.2 Cl nx nt lo n K S G P cs) False
            | _ => False))
        (cond (Nat.beq r.1 3)
          (match sho T n K a with
            | some (.inr (ci, _)) => cond (pers.contains ci && isSub ci (xnm r.2.2.2.1).1) (i_go mc (jsel r.2.1 ci) (.ref a :: as) q' r.2.2.2.2 Cl nx nt lo n K S G P cs) False
            | _ => False) False)
    | _ => False)
def i_spec (T : Tb) (mc : Nat) (r : Rs) (Cl : CT) (nx : PT) (nt : Nat) (lo st : List Value) (n : Nat) (K : Mk) (S : Mi) (G : Ml) (P : Mr) (cs : Nat) : Prop :=
  cond (Nat.beq r.1 5) (match st with
    | .ref _ :: q => cond (Nat.ble (scat q) 8) (nx nt lo q n K S G P cs) False
    | _ => False)
  (tkA r.2.2.1 [] st (fun as q => match q with
    | .ref a :: q' => cond (Nat.beq r.1 4) (i_go mc r.2.1 (.ref a :: as) q' 0 Cl nx nt lo n K S G P cs)
        (cond (Nat.beq r.1 6) (match sho T n K a with
          | some (.inr (_, _)) => i_go mc r.2.1 (.ref a :: as) q' r.2.2.2.2 Cl nx nt lo n K S G P cs
          | _ => False) False)
    | _ => False))
def i_inst (T : Tb) (r : Rs) (nx : PT) (nt : Nat) (lo st : List Value) (n : Nat) (K : Mk) (S : Mi) (G : Ml) (P : Mr) (cs : Nat) : Prop := match st with
  | .ref a :: q => (match sho T n K a with
    | some (.inr (ci, _)) => cond (pers.contains ci) (nx nt lo (.int (cond (isSub ci r.2.1) 1 0) :: q) n K S G P cs) False
    | _ => False)
  | _ => False
def i_new (T : Tb) (mc : Nat) (r : Rs) (nx : PT) (nt : Nat) (lo st : List Value) (n : Nat) (K : Mk) (S : Mi) (G : Ml) (P : Mr) (cs : Nat) : Prop :=
  cond (Nat.ble (cs + 1) mc) (match shp T (upR K (n + 32) r.2.1) (n + 32) with
    | .inr (c, fs) => cond (Nat.beq c r.2.1 && Nat.beq fs.length (nf c) && fs.all (fun x => x.isNone))
        (nx nt lo (.ref (n + 32) :: st) (n + 1) (upR K (n + 32) r.2.1) (upR S (n + 32) (fun _ => 0)) G (upR P (n + 32) (fun _ => none)) (cs + 1)) False
    | _ => False) False
def atOk (a : ArrayType) (t : Nat) : Bool := match a with
  | .int => Nat.beq t 0
  | .byte => Nat.beq t 1
  | .long => Nat.beq t 2
  | .boolean => Nat.beq t 3
  | _ => false
def i_newa (T : Tb) (mc : Nat) (a : ArrayType) (nx : PT) (nt : Nat) (lo st : List Value) (n : Nat) (K : Mk) (S : Mi) (G : Ml) (P : Mr) (cs : Nat) : Prop := match st with
  | .int x :: q => cond (Nat.ble (cs + 1) mc) (match shp T K (n + 32) with
    | .inl (t, N) => cond (atOk a t && Nat.ble N 1000) (if x = nI N then nx nt lo (.ref (n + 32) :: q) (n + 1) K (upR S (n + 32) (fun _ => 0)) (upR G (n + 32) (fun _ => 0)) P (cs + 1) else False) False
    | _ => False) False
  | _ => False
def i_newq (T : Tb) (mc : Nat) (r : Rs) (nx : PT) (nt : Nat) (lo st : List Value) (n : Nat) (K : Mk) (S : Mi) (G : Ml) (P : Mr) (cs : Nat) : Prop := match st with
  | .int x :: q => cond (Nat.ble (cs + 1) mc) (match shp T K (n + 32) with
    | .inl (t, N) => cond (Nat.beq t r.2.1 && (Nat.beq t 4 || Nat.beq t 5) && Nat.ble N 1000) (if x = nI N then nx nt lo (.ref (n + 32) :: q) (n + 1) K S G (upR P (n + 32) (fun _ => none)) (cs + 1) else False) False
    | _ => False) False
  | _ => False
/-- new long[6][60] -/
def i_multi (T : Tb) (mc : Nat) (nx : PT) (nt : Nat) (lo st : List Value) (n : Nat) (K : Mk) (S : Mi) (G : Ml) (P : Mr) (cs : Nat) : Prop := match st with
  | .int x :: .int y :: q => cond (Nat.ble (cs + 7) mc) (if x = 60 ∧ y = 6 ∧ shp T K (n + 32) = .inl (6, 6) ∧ (∀ i, i < 6 → shp T K (n + 33 + i) = .inl (2, 60)) then
      nx nt lo (.ref (n + 32) :: q) (n + 7) K S (fun b => if n + 33 ≤ b ∧ b < n + 39 then fun _ => 0 else G b) (upR P (n + 32) (fun j => if j < 6 then some (n + 33 + j) else none)) (cs + 7) else False) False
  | _ => False
/-- what an int answer of a method may be: rz 0 any int, 1 of a boolean method, 2 a char's, 3 a byte's -/
def i_ret (rz : Nat) (Q : QT) (st : List Value) (n : Nat) (K : Mk) (S : Mi) (G : Ml) (P : Mr) : Prop := match st with
  | [.int x] => match rz with
    | 0 => Q (some (.int x)) n K S G P
    | 1 => if x = 0 ∨ x = 1 then Q (some (.int x)) n K S G P else False
    | 2 => if narrow .char (.int x) = .int x then Q (some (.int x)) n K S G P else False
    | 3 => if narrow .byte (.int x) = .int x then Q (some (.int x)) n K S G P else False
    | _ => False
  | _ => False
def i_lret (rz : Nat) (Q : QT) (st : List Value) (n : Nat) (K : Mk) (S : Mi) (G : Ml) (P : Mr) : Prop := match st with
  | [.long x] => cond (Nat.beq rz 4) (Q (some (.long x)) n K S G P) False
  | _ => False
def i_aret (rz : Nat) (Q : QT) (st : List Value) (n : Nat) (K : Mk) (S : Mi) (G : Ml) (P : Mr) : Prop := match st with
  | [.ref x] => cond (Nat.beq rz 5) (Q (some (.ref x)) n K S G P) False
  | _ => False
def i_vret (rz : Nat) (Q : QT) (st : List Value) (n : Nat) (K : Mk) (S : Mi) (G : Ml) (P : Mr) : Prop := match st with
  | [] => cond (Nat.beq rz 6) (Q none n K S G P) False
  | _ => False
/-- one instruction: T the shapes, L and xs the script, rz the answer's kind, ini in a constructor, mc the cells that may be made, Cl the calls, Q the end, nx what follows -/
def stI (T : Tb) (L : Nat) (xs : Nat → Int32) (rz : Nat) (ini : Bool) (mc : Nat) (Cl : CT) (Q : QT) (nx : PT) (e : Ent) (lo st : List Value) (n : Nat) (K : Mk) (S : Mi) (G : Ml) (P : Mr) (cs : Nat) : Prop := match e with
  | (ins, nt, tg, v, sw, r) => match ins with
    | .iconst _ => nx nt lo (.int v :: st) n K S G P cs
    | .bipush _ => nx nt lo (.int v :: st) n K S G P cs
    | .sipush _ => nx nt lo (.int v :: st) n K S G P cs
    | .ldc _ => cond (Nat.beq r.1 12) (nx nt lo (.ref r.2.1 :: st) n K S G P cs) (nx nt lo (.int v :: st) n K S G P cs)
    | .ldc_w _ => nx nt lo (.int v :: st) n K S G P cs
    | .ldc2_w _ => nx nt lo (.long (lc r.2.1) :: st) n K S G P cs
    | .lconst k => nx nt lo (.long (Int64.ofNat (k : Nat)) :: st) n K S G P cs
    | .aconst_null => nx nt lo (.null :: st) n K S G P cs
    | .iload i => i_ild i nx nt lo st n K S G P cs
    | .iload_n i => i_ild (i : Nat) nx nt lo st n K S G P cs
    | .lload i => i_lld i nx nt lo st n K S G P cs
    | .lload_n i => i_lld (i : Nat) nx nt lo st n K S G P cs
    | .aload i => i_ald i nx nt lo st n K S G P cs
    | .aload_n i => i_ald (i : Nat) nx nt lo st n K S G P cs
    | .istore i => i_ist i nx nt lo st n K S G P cs
    | .istore_n i => i_ist (i : Nat) nx nt lo st n K S G P cs
    | .lstore i => i_lst i nx nt lo st n K S G P cs
    | .lstore_n i => i_lst (i : Nat) nx nt lo st n K S G P cs
    | .astore i => i_ast i nx nt lo st n K S G P cs
    | .astore_n i => i_ast (i : Nat) nx nt lo st n K S G P cs
    | .iinc i _ => i_inc i v nx nt lo st n K S G P cs
    | .iadd => i_bin (fun x y => x + y) nx nt lo st n K S G P cs
    | .isub => i_bin (fun x y => x - y) nx nt lo st n K S G P cs
    | .imul => i_bin (fun x y => x * y) nx nt lo st n K S G P cs
    | .iand => i_bin (fun x y => x &&& y) nx nt lo st n K S G P cs
    | .ior => i_bin (fun x y => x ||| y) nx nt lo st n K S G P cs
    | .ixor => i_bin (fun x y => x ^^^ y) nx nt lo st n K S G P cs
    | .ishl => i_bin (fun x y => x <<< (y &&& 31)) nx nt lo st n K S G P cs
    | .ishr => i_bin (fun x y => x >>> (y &&& 31)) nx nt lo st n K S G P cs
    | .iushr => i_bin (fun x y => (x.toUInt32 >>> (y.toUInt32 &&& Int32.toUInt32 31)).toInt32) nx nt lo st n K S G P cs
    | .idiv => i_div (fun x y => x / y) nx nt lo st n K S G P cs
    | .irem => i_div (fun x y => x - x / y * y) nx nt lo st n K S G P cs
    | .ineg => i_un (fun x => -x) nx nt lo st n K S G P cs
    | .i2b => i_un (fun x => x.toInt8.toInt32) nx nt lo st n K S G P cs
    | .i2s => i_un (fun x => x.toInt16.toInt32) nx nt lo st n K S G P cs
    | .i2c => i_un (fun x => (x.toUInt32 % 65536).toInt32) nx nt lo st n K S G P cs
    | .i2l => (match st with
      | .int x :: q => nx nt lo (.long x.toInt64 :: q) n K S G P cs
      | _ => False)
    | .l2i => (match st with
      | .long x :: q => nx nt lo (.int x.toInt32 :: q) n K S G P cs
      | _ => False)
    | .lcmp => (match st with
      | .long y :: .long x :: q => nx nt lo (.int (lg_cmp x y) :: q) n K S G P cs
      | _ => False)
    | .ladd => i_binL (fun x y => x + y) nx nt lo st n K S G P cs
    | .land => i_binL (fun x y => x &&& y) nx nt lo st n K S G P cs
    | .lor => i_binL (fun x y => x ||| y) nx nt lo st n K S G P cs
    | .lxor => i_binL (fun x y => x ^^^ y) nx nt lo st n K S G P cs
    | .lshl => i_shL (fun x y => x <<< (y.toInt64 &&& 63)) nx nt lo st n K S G P cs
    | .lshr => i_shL (fun x y => x >>> (y.toInt64 &&& 63)) nx nt lo st n K S G P cs
    | .dup => i_dup nx nt lo st n K S G P cs
    | .dup_x1 => i_dx1 nx nt lo st n K S G P cs
    | .dup2 => i_dup2 nx nt lo st n K S G P cs
    | .pop => i_pop nx nt lo st n K S G P cs
    | .if_icmp c _ => i_c2 c tg nx nt lo st n K S G P cs
    | .ifCond c _ => i_c1 c tg nx nt lo st n K S G P cs
    | .goto _ => nx tg lo st n K S G P cs
    | .ifnull _ => i_nul true tg nx nt lo st n K S G P cs
    | .ifnonnull _ => i_nul false tg nx nt lo st n K S G P cs
    | .tableswitch _ _ _ _ => i_sw sw tg nx lo st n K S G P cs
    | .lookupswitch _ _ => i_sw sw tg nx lo st n K S G P cs
    | .getfield _ => i_get T r nx nt lo st n K S G P cs
    | .putfield _ => i_put T ini r nx nt lo st n K S G P cs
    | .getstatic _ => cond (Nat.beq r.1 14) (nx nt lo (.int 1 :: st) n K S G P cs) (cond (Nat.beq r.1 15) (nx nt lo (.retAddr 7 :: st) n K S G P cs) False)
    | .iaload => i_iald T L xs nx nt lo st n K S G P cs
    | .baload => i_bald T nx nt lo st n K S G P cs
    | .laload => i_lald T nx nt lo st n K S G P cs
    | .aaload => i_aald T nx nt lo st n K S G P cs
    | .iastore => i_iast T nx nt lo st n K S G P cs
    | .bastore => i_bast T nx nt lo st n K S G P cs
    | .lastore => i_last T nx nt lo st n K S G P cs
    | .aastore => i_aast T nx nt lo st n K S G P cs
    | .arraylength => i_alen T L nx nt lo st n K S G P cs
    | .invokestatic _ => i_stat T mc r Cl nx nt lo st n K S G P cs
    | .invokevirtual _ => i_virt T mc r Cl nx nt lo st n K S G P cs
    | .invokespecial _ => i_spec T mc r Cl nx nt lo st n K S G P cs
    | .instanceof _ => i_inst T r nx nt lo st n K S G P cs
    | .new _ => i_new T mc r nx nt lo st n K S G P cs
    | .newarray a => i_newa T mc a nx nt lo st n K S G P cs
    | .anewarray _ => i_newq T mc r nx nt lo st n K S G P cs
    | .ireturn => cond (Nat.ble 600 mc || Nat.beq cs mc) (i_ret rz Q st n K S G P) False
    | .lreturn => cond (Nat.ble 600 mc || Nat.beq cs mc) (i_lret rz Q st n K S G P) False
    | .areturn => cond (Nat.ble 600 mc || Nat.beq cs mc) (i_aret rz Q st n K S G P) False
    | .return_ => cond (Nat.ble 600 mc || Nat.beq cs mc) (i_vret rz Q st n K S G P) False
    | _ => False
def stp (T : Tb) (L : Nat) (xs : Nat → Int32) (tab : Tab) (rz : Nat) (ini : Bool) (mc : Nat) (Cl : CT) (Q : QT) (nx : PT) : PT := fun pc lo st n K S G P cs => match look tab pc with
  | none => False
  | some e => stI T L xs rz ini mc Cl Q nx e lo st n K S G P cs
def stopB : List Nat → Nat → Bool
  | [], _ => false
  | s :: r, p => Nat.beq s p || stopB r p
/-- at most k instructions, to a place where At is asked: one of stop, or where k ends -/
def wps (T : Tb) (L : Nat) (xs : Nat → Int32) (tab : Tab) (rz : Nat) (ini : Bool) (mc : Nat) (Cl : CT) (Q : QT) (At : PT) (stop : List Nat) : Nat → PT
  | 0 => At
  | k + 1 => fun pc lo st n K S G P cs => cond (stopB stop pc) (At pc lo st n K S G P cs) (stp T L xs tab rz ini mc Cl Q (wps T L xs tab rz ini mc Cl Q At stop k) pc lo st n K S G P cs)
def ilen : Instr → Nat
  | .bipush _ => 2
  | .sipush _ => 3
  | .ldc _ => 2
  | .ldc_w _ => 3
  | .ldc2_w _ => 3
  | .iload _ => 2
  | .lload _ => 2
  | .aload _ => 2
  | .istore _ => 2
  | .lstore _ => 2
  | .astore _ => 2
  | .iinc _ _ => 3
  | .if_icmp _ _ => 3
  | .ifCond _ _ => 3
  | .goto _ => 3
  | .ifnull _ => 3
  | .ifnonnull _ => 3
  | .getfield _ => 3
  | .putfield _ => 3
  | .getstatic _ => 3
  | .invokestatic _ => 3
  | .invokevirtual _ => 3
  | .invokespecial _ => 3
  | .instanceof _ => 3
  | .new _ => 3
  | .newarray _ => 2
  | .anewarray _ => 3
  | .multianewarray _ _ => 4
  | .tableswitch _ _ _ _ => 0
  | .lookupswitch _ _ => 0
  | _ => 1
def lenP (j pc : Nat) : Bool := match look (tb j) pc with
  | none => true
  | some e => Nat.beq (ilen e.1) 0 || Nat.beq (e.2.1 - pc) (ilen e.1)
def lenOk (j : Nat) : Bool := (List.range (16 * (tb j).length)).all (lenP j)
theorem lens_ok : (List.range nMeth).all lenOk = true := by decide +kernel
theorem lenOk_use {j pc : Nat} {e : Ent} (hj : j < nMeth) (hl : look (tb j) pc = some e) : ilen e.1 = 0 ∨ e.2.1 - pc = ilen e.1 := by
  have h := List.all_eq_true.mp lens_ok j (List.mem_range.mpr hj)
  have h1 := List.all_eq_true.mp h pc (List.mem_range.mpr (look_lt hl))
  unfold lenP at h1
  rw [hl] at h1
  simp only [Bool.or_eq_true, Nat.beq_eq] at h1
  exact h1
end

noncomputable section
def cdw (j : Nat) : Cond := .code (yy j) (bb j) (mL j) (rt j)
/-- the words that an instruction with a pool number asks -/
def wrd0 (o i ci k rc : Nat) : List Cond := .fieldLink (cnm o) i (cnm rc) (FT ci k).2.1 (FT ci k).2.2.1 :: (if rc = ci then [] else [.sameField (cnm rc) (cnm ci) (FT ci k).2.1 (FT ci k).2.2.1])
def wrd1 (o i j h : Nat) : List Cond := [if h = 0 then .methodLink (cnm o) i (yy j) else .methodLinkNest (cnm o) i (yy j) "RefusedTwice", .static (yy j), .initialized (yy j).cls, cdw j]
def wrd2 (o i j c : Nat) : List Cond := [.methodLink (cnm o) i (yy j), .instanceMethod (yy j), .selects (cnm c) (yy j) (yy j), .initialized (cnm c), cdw j]
def wrd3 (o i m xi : Nat) : List Cond := [.methodLink (cnm o) i (xN xi), .sameMethod (xN xi).cls "RefusedTwice$One" (xN xi).name (xN xi).desc, .instanceMethod (yy (jsel m 4)), cdw (jsel m 4)] ++ (pers.filter (fun ci => isSub ci (xnm xi).1)).flatMap (fun ci => [.selects (cnm ci) (xN xi) (yy (jsel m ci)), .instanceMethod (yy (jsel m ci)), .initialized (yy (jsel m ci)).cls, cdw (jsel m ci)])
def wrd4 (o i j : Nat) : List Cond := [.methodLink (cnm o) i (yy j), .instanceMethod (yy j), .initialized (yy j).cls, cdw j]
def wrd5 (o i : Nat) : List Cond := [.methodLink (cnm o) i objectInit, .instanceMethod objectInit, .code objectInit ⟨#[0xb1]⟩ 1 none]
def wrd6 (o i j rc : Nat) : List Cond := [.methodLink (cnm o) i ⟨cnm rc, (yy j).name, (yy j).desc⟩, .sameMethod (cnm rc) (yy j).cls (yy j).name (yy j).desc, .superclass (cnm o) (cnm rc), .instanceMethod (yy j), .initialized (yy j).cls, cdw j] ++ (if cnm rc = (yy j).cls then [] else [.superclass (cnm rc) (yy j).cls])
def wrd7 (o i ci : Nat) : List Cond := [.classLink (cnm o) i (cnm ci), .instantiable (cnm ci) (nf ci), .initialized (cnm ci)]
def wrd8 (o i ci : Nat) : List Cond := .classLink (cnm o) i (cnm ci) :: (pers.filter (fun x => isSub x ci && !(x == ci))).map (fun x => .castable (cnm x) (cnm ci))
def aname (t : Nat) : String := if t = 4 then "RefusedTwice$One" else "RefusedTwice$Street"
def wrd9 (o i t : Nat) : List Cond := [.classLink (cnm o) i (aname t), .arrayOver (.object (aname t))]
def wrdA (o i : Nat) : List Cond := [.classLink (cnm o) i "[[J"]
def wrdB (o i v : Nat) : List Cond := [.constant (cnm o) i (Int32.ofNat v)]
def wrdC (o i k : Nat) : List Cond := [.stringRef (cnm o) i (strs.getD k "")]
def wrdD (o i k : Nat) : List Cond := [.constantLong (cnm o) i (lc k)]
def wrdE (o i : Nat) : List Cond := [.fieldLink (cnm o) i "java/lang/String" "COMPACT_STRINGS" "Z"]
def wrdF (o i : Nat) : List Cond := [.fieldLink (cnm o) i "jdk/internal/util/Preconditions" "SIOOBE_FORMATTER" "Ljava/util/function/BiFunction;"]
def wrdG (o i : Nat) : List Cond := [.methodLink (cnm o) i arraycopyName, .native arraycopyName, .static arraycopyName, .initialized "java/lang/System"]
def wrdH (o i k : Nat) : List Cond := [.fieldLink (cnm o) i "java/lang/String" (if k = 0 then "value" else "coder") (if k = 0 then "[B" else "B")]
def wrds : List (Nat → Nat → Rs → List Cond) := [fun o i r => wrd0 o i r.2.1 r.2.2.1 r.2.2.2.1, fun o i r => wrd1 o i r.2.1 r.2.2.2.1, fun o i r => wrd2 o i r.2.1 r.2.2.2.1, fun o i r => wrd3 o i r.2.1 r.2.2.2.1, fun o i r => wrd4 o i r.2.1, fun o i _ => wrd5 o i, fun o i r => wrd6 o i r.2.1 r.2.2.2.1, fun o i r => wrd7 o i r.2.1, fun o i r => wrd8 o i r.2.1, fun o i r => wrd9 o i r.2.1, fun o i _ => wrdA o i, fun o i r => wrdB o i r.2.1, fun o i r => wrdC o i r.2.1, fun o i r => wrdD o i r.2.1, fun o i _ => wrdE o i, fun o i _ => wrdF o i, fun o i _ => wrdG o i, fun o i r => wrdH o i r.2.1]
def wrd (o i : Nat) (r : Rs) : List Cond := (wrds.getD r.1 (fun _ _ _ => [])) o i r
end

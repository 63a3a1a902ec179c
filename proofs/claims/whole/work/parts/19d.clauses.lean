noncomputable section
/-! CLAUSES: as many as are read, up to where; what they say. -/
def clL (t : Nat → Nat) (sz : Nat) : Nat → Nat → Bool × Nat × List Cl
  | 0, p => (false, p, [])
  | k + 1, p => match clP t sz p with
    | (none, q) => (false, q, [])
    | (some c, q) => if k ≠ 0 ∧ isC t sz 59 q = true then ((clL t sz k (q + 1)).1, (clL t sz k (q + 1)).2.1, c :: (clL t sz k (q + 1)).2.2) else (decide (q = sz), q, [c])
section A
variable {t : Nat → Nat} {sz p q k : Nat} {c : Cl}
theorem clL_n (h : clP t sz p = (none, q)) : clL t sz (k + 1) p = (false, q, []) := by
  unfold clL; rw [h]
theorem clL_m (h : clP t sz p = (some c, q)) (h2 : k ≠ 0) (h3 : isC t sz 59 q = true) : clL t sz (k + 1) p = ((clL t sz k (q + 1)).1, (clL t sz k (q + 1)).2.1, c :: (clL t sz k (q + 1)).2.2) := by
  rw [clL.eq_2, h]; dsimp only; rw [if_pos ⟨h2, h3⟩]
theorem clL_e (h : clP t sz p = (some c, q)) (h2 : ¬ (k ≠ 0 ∧ isC t sz 59 q = true)) : clL t sz (k + 1) p = (decide (q = sz), q, [c]) := by
  rw [clL.eq_2, h]; dsimp only; rw [if_neg h2]
end A
def semC (c : Cl) (vals : Nat → Int32) : Bool := if c.1 = 2 then false else match ev 11 c.2.2.1 vals [] with
  | some (x :: _) => x
  | _ => false
def ClOk (c : Cl) : Prop := c.1 < 3 ∧ c.2.1 < 100 ∧ (c.1 = 2 → c.2.2.1 = [] ∧ c.2.2.2 = []) ∧ (c.1 ≠ 2 → (∀ x, x ∈ c.2.2.1 → x < 1803) ∧ (∀ x, x ∈ c.2.2.2 → x < 1803) ∧ ∀ vals, ev 11 c.2.2.1 vals [] = some [semC c vals] ∧ ev 110 c.2.2.2 vals [] = some [semC c vals])
theorem clP_ok {t : Nat → Nat} {sz p q : Nat} {c : Cl} (hp : p ≤ sz) (h100 : sz ≤ 100) (h : clP t sz p = (some c, q)) : ClOk c ∧ p + c.2.2.1.length ≤ q ∧ p + c.2.2.2.length ≤ q ∧ q ≤ sz := by
  cases hw : wdP t sz p with
  | mk o q1 =>
    cases o with
    | none => rw [clP_w hw] at h; cases h
    | some w =>
      obtain ⟨w3, wl, wq⟩ := wdP_lt hp hw
      cases hn : num t sz q1 with
      | none => rw [clP_n hw hn] at h; cases h
      | some z =>
        obtain ⟨v, q2⟩ := z
        obtain ⟨n1, n2, n3, n4⟩ := num_lt hn
        by_cases h2 : w = 2
        · subst h2
          rw [clP_b hw hn] at h
          cases h
          exact ⟨⟨(by decide : 2 < 3), n1, fun _ => ⟨rfl, rfl⟩, fun k => absurd rfl k⟩, by show p + 0 ≤ _; omega, by show p + 0 ≤ _; omega, n3⟩
        · by_cases hc : isC t sz 32 q2 = true
          · have z1 := (isC_i.mp hc).1
            have r0 := pE_ok (d := 0) (fun m d p hp => psr_ok (t := t) (sz := sz) 101 m d p hp) (show q2 + 1 ≤ sz from z1)
            obtain ⟨r1, r2, r3, r4⟩ := r0
            cases he : (pE (psr t sz 101) 0 (q2 + 1)).1 with
            | false => rw [clP_e hw hn h2 hc he] at h; cases h
            | true =>
              rw [clP_t hw hn h2 hc he] at h
              cases h
              obtain ⟨a1, a2, a3, g, a4⟩ := pE_sem (psr_sem 101) (show 0 ≤ 4 by decide) he
              have e1 : ∀ vals, ev 11 (pE (psr t sz 101) 0 (q2 + 1)).2.2.1 vals [] = some [g vals] := fun vals => (a4 11 vals).1 [] (by decide)
              have e2 : ∀ vals, ev 110 (pE (psr t sz 101) 0 (q2 + 1)).2.2.2 vals [] = some [g vals] := fun vals => (a4 110 vals).2 [] (by rw [List.length_nil]; omega)
              have e3 : ∀ vals, semC (w, v, (pE (psr t sz 101) 0 (q2 + 1)).2.2.1, (pE (psr t sz 101) 0 (q2 + 1)).2.2.2) vals = g vals := by
                intro vals
                unfold semC
                dsimp only
                rw [if_neg h2, e1]
              exact ⟨⟨w3, n1, fun k => absurd k h2, fun _ => ⟨a1, a2, fun vals => by rw [e3]; exact ⟨e1 vals, e2 vals⟩⟩⟩, by dsimp only; omega, by dsimp only; omega, r2⟩
          · rw [clP_s hw hn h2 hc] at h; cases h
theorem clP_le {t : Nat → Nat} {sz p q : Nat} {o : Option Cl} (hp : p ≤ sz) (h : clP t sz p = (o, q)) : q ≤ sz := by
  cases hw : wdP t sz p with
  | mk o1 q1 =>
    have wl := wdP_le (t := t) hp
    rw [hw] at wl
    cases o1 with
    | none => rw [clP_w hw] at h; cases h; exact wl.2
    | some w =>
      cases hn : num t sz q1 with
      | none => rw [clP_n hw hn] at h; cases h; exact wl.2
      | some z =>
        obtain ⟨v, q2⟩ := z
        obtain ⟨n1, n2, n3, n4⟩ := num_lt hn
        by_cases h2 : w = 2
        · subst h2
          rw [clP_b hw hn] at h
          cases h
          exact n3
        · by_cases hc : isC t sz 32 q2 = true
          · have z1 := (isC_i.mp hc).1
            have r0 := pE_ok (d := 0) (fun m d p hp => psr_ok (t := t) (sz := sz) 101 m d p hp) (show q2 + 1 ≤ sz from z1)
            cases he : (pE (psr t sz 101) 0 (q2 + 1)).1 with
            | false => rw [clP_e hw hn h2 hc he] at h; cases h; exact r0.2.1
            | true => rw [clP_t hw hn h2 hc he] at h; cases h; exact r0.2.1
          · rw [clP_s hw hn h2 hc] at h; cases h; exact n3
def cg (ys : List Cl) (i : Nat) : Cl := ys.getD i (2, 0, [], [])
theorem cg_l {ys r : List Cl} {i : Nat} (h : i < ys.length) : cg (ys ++ r) i = cg ys i := by
  unfold cg; rw [List.getD_eq_getElem?_getD, List.getD_eq_getElem?_getD, List.getElem?_append_left h]
theorem cg_r {ys : List Cl} {c : Cl} : cg (ys ++ [c]) ys.length = c := by
  unfold cg; rw [List.getD_eq_getElem?_getD, List.getElem?_append_right (Nat.le_refl _), Nat.sub_self]; rfl
theorem cg_mem {ys : List Cl} {i : Nat} (h : i < ys.length) : cg ys i ∈ ys := by
  unfold cg; rw [List.getD_eq_getElem?_getD, List.getElem?_eq_getElem h]; exact List.getElem_mem h
/-- where a clause's codes begin: of the component, of the model -/
def seC (ys : List Cl) : Nat → Nat
  | 0 => 0
  | i + 1 => seC ys i + (cg ys i).2.2.1.length
def seM (ys : List Cl) : Nat → Nat
  | 0 => 0
  | i + 1 => seM ys i + (cg ys i).2.2.2.length
theorem seC_l {ys r : List Cl} : ∀ {i}, i ≤ ys.length → seC (ys ++ r) i = seC ys i
  | 0, _ => rfl
  | i + 1, h => by
    show seC (ys ++ r) i + (cg (ys ++ r) i).2.2.1.length = seC ys i + (cg ys i).2.2.1.length
    rw [seC_l (i := i) (by omega), cg_l (by omega)]
theorem seM_l {ys r : List Cl} : ∀ {i}, i ≤ ys.length → seM (ys ++ r) i = seM ys i
  | 0, _ => rfl
  | i + 1, h => by
    show seM (ys ++ r) i + (cg (ys ++ r) i).2.2.2.length = seM ys i + (cg ys i).2.2.2.length
    rw [seM_l (i := i) (by omega), cg_l (by omega)]
theorem seC_r {ys : List Cl} {c : Cl} : seC (ys ++ [c]) (ys.length + 1) = seC ys ys.length + c.2.2.1.length := by
  show seC (ys ++ [c]) ys.length + (cg (ys ++ [c]) ys.length).2.2.1.length = _
  rw [seC_l (Nat.le_refl _), cg_r]
theorem seM_r {ys : List Cl} {c : Cl} : seM (ys ++ [c]) (ys.length + 1) = seM ys ys.length + c.2.2.2.length := by
  show seM (ys ++ [c]) ys.length + (cg (ys ++ [c]) ys.length).2.2.2.length = _
  rw [seM_l (Nat.le_refl _), cg_r]
theorem seC_le {ys : List Cl} {i : Nat} : ∀ {j}, i ≤ j → seC ys i ≤ seC ys j
  | 0, h => by rw [show i = 0 by omega]; exact Nat.le_refl _
  | j + 1, h => by
    by_cases e : i = j + 1
    · rw [e]; exact Nat.le_refl _
    · exact Nat.le_trans (seC_le (j := j) (by omega)) (Nat.le_add_right _ _)
theorem seM_le {ys : List Cl} {i : Nat} : ∀ {j}, i ≤ j → seM ys i ≤ seM ys j
  | 0, h => by rw [show i = 0 by omega]; exact Nat.le_refl _
  | j + 1, h => by
    by_cases e : i = j + 1
    · rw [e]; exact Nat.le_refl _
    · exact Nat.le_trans (seM_le (j := j) (by omega)) (Nat.le_add_right _ _)
theorem lastb_c {cw cw' : Nat → Nat} {cu cu' : Nat → Int32} : ∀ {n}, (∀ i, i < n → cw i = cw' i ∧ cu i = cu' i) → lastb cw cu n = lastb cw' cu' n
  | 0, _ => rfl
  | n + 1, h => by
    show (if cw n = 2 then cu n else lastb cw cu n) = (if cw' n = 2 then cu' n else lastb cw' cu' n)
    rw [(h n (by omega)).1, (h n (by omega)).2, lastb_c (n := n) (fun i hi => h i (by omega))]
def bgL (ys : List Cl) (n : Nat) : Int32 := lastb (fun i => (cg ys i).1) (fun i => nI (cg ys i).2.1) n
theorem bgL_r {ys : List Cl} {c : Cl} : bgL (ys ++ [c]) (ys.length + 1) = if c.1 = 2 then nI c.2.1 else bgL ys ys.length := by
  unfold bgL
  show (if (cg (ys ++ [c]) ys.length).1 = 2 then nI (cg (ys ++ [c]) ys.length).2.1 else lastb _ _ ys.length) = _
  rw [cg_r, lastb_c (n := ys.length) (cw' := fun i => (cg ys i).1) (cu' := fun i => nI (cg ys i).2.1) (fun i hi => by rw [cg_l hi]; exact ⟨rfl, rfl⟩)]
theorem len_1 {ys : List Cl} {c : Cl} : (ys ++ [c]).length = ys.length + 1 := by rw [List.length_append]; rfl
theorem clL_ok {t : Nat → Nat} {sz : Nat} (h100 : sz ≤ 100) : ∀ k p, p ≤ sz → (clL t sz k p).2.2.length ≤ k ∧ (clL t sz k p).2.1 ≤ sz ∧ (∀ c, c ∈ (clL t sz k p).2.2 → ClOk c) := by
  intro k
  induction k with
  | zero => intro p hp; exact ⟨Nat.le_refl _, hp, fun c h => absurd h List.not_mem_nil⟩
  | succ k ih =>
    intro p hp
    cases hc : clP t sz p with
    | mk o q =>
      cases o with
      | none =>
        rw [clL_n hc]
        refine ⟨Nat.zero_le _, ?_, fun c h => absurd h List.not_mem_nil⟩
        exact clP_le hp hc
      | some c =>
        obtain ⟨k1, k2, k3, k4⟩ := clP_ok hp h100 hc
        by_cases z : k ≠ 0 ∧ isC t sz 59 q = true
        · rw [clL_m hc z.1 z.2]
          have z1 := (isC_i.mp z.2).1
          obtain ⟨i1, i2, i3⟩ := ih (q + 1) z1
          refine ⟨by show _ + 1 ≤ _; omega, i2, fun x hx => ?_⟩
          rcases List.mem_cons.mp hx with e | e
          · rw [e]; exact k1
          · exact i3 x e
        · rw [clL_e hc z]
          refine ⟨by show 1 ≤ _; omega, k4, fun x hx => ?_⟩
          rw [List.mem_singleton.mp hx]; exact k1
end

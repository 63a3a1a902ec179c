noncomputable section
/-! THE WORLD: which heap a calculus' state stands for. -/
/-- (classes' numbers, first address, addresses of what lies outside, array classes, the script's length, its ints, a JDK static's value) -/
abbrev En : Type := va_G × Nat × (Nat → Nat) × (Nat → ClassId) × Nat × (Nat → Int32) × Option Nat
def gG (E : En) : va_G := E.1
def gB (E : En) : Nat := E.2.1
def gX (E : En) : Nat → Nat := E.2.2.1
def gT (E : En) : Nat → ClassId := E.2.2.2.1
def gL (E : En) : Nat := E.2.2.2.2.1
def gS (E : En) : Nat → Int32 := E.2.2.2.2.2.1
def gF (E : En) : Option Nat := E.2.2.2.2.2.2
def ad (E : En) (a : Nat) : Nat := if a < 32 then gX E a else gB E + (a - 32)
def tv (E : En) : Value → Value
  | .ref a => .ref (ad E a)
  | .retAddr x => if x = 7 then va_rf (gF E) else .retAddr x
  | .int x => .int x
  | .long x => .long x
  | .float x => .float x
  | .double x => .double x
  | .null => .null
theorem tv_cat (E : En) (v : Value) : (tv E v).category = v.category := by
  cases v with
  | retAddr x =>
    by_cases h : x = 7
    · simp only [tv, if_pos h]
      cases gF E <;> rfl
    · simp only [tv, if_neg h]
  | _ => rfl
theorem tv_rf (E : En) (r : Option Nat) : tv E (va_rf r) = va_rf (r.map (ad E)) := by cases r <;> rfl
theorem tv_scat (E : En) (st : List Value) : ((st.map (tv E)).map (fun v => v.category)).sum = scat st := by
  unfold scat
  congr 1
  rw [List.map_map]
  exact List.map_congr_left (fun v _ => tv_cat E v)
def tyA (t : Nat) : FieldType := match t with
  | 0 => .int
  | 1 => .byte
  | 2 => .long
  | 3 => .boolean
  | 4 => .object "RefusedTwice$One"
  | 5 => .object "RefusedTwice$Street"
  | _ => .array .long
def tysE (E : En) : List (ClassId × FieldType) := (List.range 7).map (fun t => (gT E t, tyA t))
theorem tysE_at (E : En) {t : Nat} (h : t < 7) : (tysE E)[t]? = some (gT E t, tyA t) := by
  unfold tysE
  rw [List.getElem?_map, List.getElem?_range h]
  rfl
def vwC : List vw_C := (List.range 13).map (fun i => (cnm i, FT i, nf i))
theorem vwC_at {i : Nat} (h : i < 13) : vwC[i]? = some (cnm i, FT i, nf i) := by
  unfold vwC
  rw [List.getElem?_map, List.getElem?_range h]
  rfl
theorem vwC_lt {i : Nat} {q : vw_C} (h : vwC[i]? = some q) : i < 13 := by
  have := (List.getElem?_eq_some_iff.mp h).1
  simpa [vwC] using this
def acel (E : En) (t n : Nat) (f : Nat → Int32) (g : Nat → Int64) (r : Nat → Option Nat) : va_E := .inl (gT E t, n, match t with
  | 0 => .inl f
  | 1 => .inl f
  | 2 => .inr (.inl g)
  | 3 => .inl f
  | _ => .inr (.inr (.inr (.inr (fun j => (r j).map (ad E))))))
def fvl (E : En) (ci : Nat) (cs : List (Option Nat)) (f : Nat → Int32) (r : Nat → Option Nat) (k : Nat) : Value := match cs.getD k none with
  | some c => .ref (ad E c)
  | none => if fk ci k = 2 then va_rf ((r k).map (ad E)) else .int (f k)
def fvs (E : En) (ci : Nat) (cs : List (Option Nat)) (f : Nat → Int32) (r : Nat → Option Nat) : List Value := (List.range cs.length).map (fvl E ci cs f r)
def cel (E : En) (sh : Sh) (f : Nat → Int32) (g : Nat → Int64) (r : Nat → Option Nat) : va_E := match sh with
  | .inl (t, n) => acel E t n f g r
  | .inr (ci, cs) => .inr (ci, fvs E ci cs f r)
def wsl (E : En) (T : Tb) (n : Nat) (K : Mk) (S : Mi) (G : Ml) (P : Mr) : va_W := (List.range n).map (fun i => (gB E + i, cel E (shp T K (i + 32)) (S (i + 32)) (G (i + 32)) (P (i + 32))))
theorem wsl_at (E : En) (T : Tb) {n : Nat} (K : Mk) (S : Mi) (G : Ml) (P : Mr) {a : Nat} (h32 : 32 ≤ a) (hn : a - 32 < n) : (wsl E T n K S G P)[a - 32]? = some (ad E a, cel E (shp T K a) (S a) (G a) (P a)) := by
  unfold wsl
  rw [List.getElem?_map, List.getElem?_range hn]
  have e : a - 32 + 32 = a := by omega
  simp only [Option.map_some, e]
  unfold ad
  rw [if_neg (by omega)]
theorem wsl_D (E : En) (T : Tb) (n : Nat) (K : Mk) (S : Mi) (G : Ml) (P : Mr) : va_D (fun q => gB E ≤ q) (wsl E T n K S G P) := by
  have hq : ∀ (k : Nat) (q : Nat × va_E), (wsl E T n K S G P)[k]? = some q → q.1 = gB E + k := by
    intro k q h
    have hk : k < n := by
      have := (List.getElem?_eq_some_iff.mp h).1
      simpa [wsl] using this
    unfold wsl at h
    rw [List.getElem?_map, List.getElem?_range hk] at h
    cases h
    rfl
  refine ⟨fun i j p q h1 h2 h3 => ?_, fun k q h => ?_⟩
  · rw [hq i p h1, hq j q h2] at h3
    omega
  · rw [hq k q h]
    exact Nat.le_add_right _ _
/-- one cell is written -/
theorem wsl_upd (E : En) (T : Tb) {n : Nat} (K : Mk) {S S' : Mi} {G G' : Ml} {P P' : Mr} {a : Nat} {e : va_E} (h32 : 32 ≤ a) (hn : a - 32 < n) (hS : ∀ b, b ≠ a → S' b = S b) (hG : ∀ b, b ≠ a → G' b = G b) (hP : ∀ b, b ≠ a → P' b = P b) (he : e = cel E (shp T K a) (S' a) (G' a) (P' a)) : (wsl E T n K S G P).set (a - 32) (ad E a, e) = wsl E T n K S' G' P' := by
  subst he
  apply List.ext_getElem?
  intro i
  by_cases hi : i < n
  · by_cases e : i = a - 32
    · subst e
      rw [wsl_at E T K S' G' P' h32 hn, List.getElem?_set_self (by simpa [wsl] using hn)]
    · rw [List.getElem?_set_ne (Ne.symm e)]
      unfold wsl
      rw [List.getElem?_map, List.getElem?_map, List.getElem?_range hi]
      have e2 : i + 32 ≠ a := by omega
      simp only [Option.map_some, hS _ e2, hG _ e2, hP _ e2]
  · rw [List.getElem?_eq_none (by simpa [wsl] using Nat.le_of_not_lt hi), List.getElem?_eq_none (by simpa [wsl] using Nat.le_of_not_lt hi)]
/-- one cell comes -/
theorem wsl_push (E : En) (T : Tb) (n : Nat) {K K' : Mk} {S S' : Mi} {G G' : Ml} {P P' : Mr} {q : Nat} {e : va_E} (hq : q = gB E + n) (hK : ∀ b, b ≠ n + 32 → shp T K' b = shp T K b) (hS : ∀ b, b ≠ n + 32 → S' b = S b) (hG : ∀ b, b ≠ n + 32 → G' b = G b) (hP : ∀ b, b ≠ n + 32 → P' b = P b) (he : e = cel E (shp T K' (n + 32)) (S' (n + 32)) (G' (n + 32)) (P' (n + 32))) : wsl E T n K S G P ++ [(q, e)] = wsl E T (n + 1) K' S' G' P' := by
  subst hq
  subst he
  unfold wsl
  rw [List.range_succ, List.map_append]
  congr 1
  apply List.map_congr_left
  intro i hi
  have h := List.mem_range.mp hi
  have e2 : i + 32 ≠ n + 32 := by omega
  simp only [hK _ e2, hS _ e2, hG _ e2, hP _ e2]
theorem sho_some {T : Tb} {n : Nat} {K : Mk} {a : Nat} {sh : Sh} (hT : T.1 ≤ n) (h : sho T n K a = some sh) : 32 ≤ a ∧ a - 32 < n ∧ shp T K a = sh := by
  unfold sho at h
  cases h1 : Nat.blt a 32 with
  | true => rw [h1] at h; cases h
  | false =>
    rw [h1] at h
    simp only [cond_false] at h
    have h1' : ¬ a < 32 := fun q => by rw [Nat.blt_eq.mpr q] at h1; cases h1
    cases h2 : (Nat.blt (a - 32) T.1 || Nat.blt (a - 32) n) with
    | false => rw [h2] at h; cases h
    | true =>
      rw [h2] at h
      simp only [cond_true, Option.some.injEq] at h
      refine ⟨by omega, ?_, h⟩
      simp only [Bool.or_eq_true, Nat.blt_eq] at h2
      omega
/-- locals -/
def kn : Value → Bool
  | .retAddr x => Nat.beq x 7
  | _ => true
def lh (E : En) (ls : Array Slot) (nL : Nat) (lo : List Value) : Prop := ls.size = nL ∧ lo.length = nL ∧ lv_wf ls ∧ ∀ (i : Nat) (v : Value), lo[i]? = some v → kn v = true → ls[i]? = some (.val (tv E v))
def lps (E : En) (lo : List Value) : List (Nat × Value) := (List.range lo.length).filterMap (fun i => match lo[i]? with
  | some v => if kn v = true then some (i, tv E v) else none
  | none => none)
theorem lps_mem {E : En} {lo : List Value} {q : Nat × Value} (h : q ∈ lps E lo) : ∃ v, lo[q.1]? = some v ∧ kn v = true ∧ q.2 = tv E v := by
  obtain ⟨i, -, hi⟩ := List.mem_filterMap.mp h
  cases hv : lo[i]? with
  | none => rw [hv] at hi; cases hi
  | some v =>
    rw [hv] at hi
    by_cases hk : kn v = true
    · simp only [hk, if_true, Option.some.injEq] at hi
      subst hi
      exact ⟨v, hv, hk, rfl⟩
    · simp [hk] at hi
theorem lps_in {E : En} {lo : List Value} {i : Nat} {v : Value} (h : lo[i]? = some v) (hk : kn v = true) : (i, tv E v) ∈ lps E lo := by
  refine List.mem_filterMap.mpr ⟨i, List.mem_range.mpr (List.getElem?_eq_some_iff.mp h).1, ?_⟩
  rw [h]
  simp [hk]
theorem lh_has {E : En} {ls : Array Slot} {nL : Nat} {lo : List Value} (h : lh E ls nL lo) : lv_has ls nL (lps E lo) := by
  refine ⟨h.1, h.2.2.1, fun q hq => ?_⟩
  obtain ⟨v, h1, h2, h3⟩ := lps_mem hq
  rw [h3]
  exact h.2.2.2 _ _ h1 h2
theorem lh_at {E : En} {ls : Array Slot} {nL : Nat} {lo : List Value} (h : lh E ls nL lo) {i : Nat} {v : Value} (hv : lo[i]? = some v) (hk : kn v = true) : ls[i]? = some (.val (tv E v)) := h.2.2.2 _ _ hv hk
def lskP (lo lo' : List Value) (i : Nat) (v : Value) : Prop := lo'.length = lo.length ∧ i < lo.length ∧ lo'[i]? = some v ∧ ∀ j w, j ≠ i → lo'[j]? = some w → kn w = true → lo[j]? = some w ∧ ¬ (j + 1 = i ∧ w.category = 2)
theorem lskP_cons {a : Value} {l l' : List Value} {i : Nat} {v : Value} (h : lskP l l' i v) (hc : i = 0 → a.category ≠ 2) : lskP (a :: l) (a :: l') (i + 1) v := by
  obtain ⟨h1, h2, h3, h4⟩ := h
  refine ⟨by simp [h1], by simp; omega, by simpa using h3, fun j w hj hw hk => ?_⟩
  cases j with
  | zero =>
    simp only [List.getElem?_cons_zero, Option.some.injEq] at hw
    subst hw
    exact ⟨by simp, fun q => hc (by omega) q.2⟩
  | succ j =>
    simp only [List.getElem?_cons_succ] at hw ⊢
    obtain ⟨g1, g2⟩ := h4 j w (by omega) hw hk
    exact ⟨g1, fun q => g2 ⟨by omega, q.2⟩⟩
theorem lskP_kill {a : Value} {l l' : List Value} {v : Value} (h : lskP l l' 0 v) : lskP (a :: l) (.retAddr 0 :: l') 1 v := by
  obtain ⟨h1, h2, h3, h4⟩ := h
  refine ⟨by simp [h1], by simp; omega, by simpa using h3, fun j w hj hw hk => ?_⟩
  cases j with
  | zero =>
    simp only [List.getElem?_cons_zero, Option.some.injEq] at hw
    subst hw
    cases hk
  | succ j =>
    simp only [List.getElem?_cons_succ] at hw ⊢
    obtain ⟨g1, g2⟩ := h4 j w (by omega) hw hk
    exact ⟨g1, fun q => g2 ⟨by omega, q.2⟩⟩
theorem lsk_spec : ∀ (lo : List Value) (i : Nat) (v : Value) (k : List Value → Prop), lsk lo i v k → ∃ lo', k lo' ∧ lskP lo lo' i v
  | [], i, v, k, h => by
    cases i with
    | zero => exact h.elim
    | succ i => cases i <;> exact h.elim
  | a :: l, 0, v, k, h => by
    refine ⟨v :: l, h, by simp, by simp, by simp, fun j w hj hw _ => ?_⟩
    cases j with
    | zero => exact absurd rfl hj
    | succ j => exact ⟨by simpa using hw, fun q => by omega⟩
  | a :: l, 1, v, k, h => by
    cases a with
    | long x => obtain ⟨l', h1, h2⟩ := lsk_spec l 0 v _ h; exact ⟨_, h1, lskP_kill h2⟩
    | double x => obtain ⟨l', h1, h2⟩ := lsk_spec l 0 v _ h; exact ⟨_, h1, lskP_kill h2⟩
    | int x => obtain ⟨l', h1, h2⟩ := lsk_spec l 0 v _ h; exact ⟨_, h1, lskP_cons h2 (fun _ => by simp [Value.category])⟩
    | ref x => obtain ⟨l', h1, h2⟩ := lsk_spec l 0 v _ h; exact ⟨_, h1, lskP_cons h2 (fun _ => by simp [Value.category])⟩
    | null => obtain ⟨l', h1, h2⟩ := lsk_spec l 0 v _ h; exact ⟨_, h1, lskP_cons h2 (fun _ => by simp [Value.category])⟩
    | retAddr x => obtain ⟨l', h1, h2⟩ := lsk_spec l 0 v _ h; exact ⟨_, h1, lskP_cons h2 (fun _ => by simp [Value.category])⟩
    | float x => obtain ⟨l', h1, h2⟩ := lsk_spec l 0 v _ h; exact ⟨_, h1, lskP_cons h2 (fun _ => by simp [Value.category])⟩
  | a :: l, i + 2, v, k, h => by
    obtain ⟨l', h1, h2⟩ := lsk_spec l (i + 1) v _ h
    exact ⟨_, h1, lskP_cons h2 (fun q => by omega)⟩
theorem lsr_spec : ∀ (lo : List Value) (i : Nat) (k : List Value → Prop), lsr lo i k → ∃ lo', k lo' ∧ lo'.length = lo.length ∧ i < lo.length ∧ lo'[i]? = some (.retAddr 0) ∧ ∀ j, j ≠ i → lo'[j]? = lo[j]?
  | [], _, _, h => h.elim
  | a :: l, 0, k, h => ⟨_, h, by simp, by simp, by simp, fun j hj => by cases j with
    | zero => exact absurd rfl hj
    | succ j => simp⟩
  | a :: l, i + 1, k, h => by
    obtain ⟨l', h1, h2, h3, h4, h5⟩ := lsr_spec l i _ h
    refine ⟨_, h1, by simp [h2], by simp; omega, by simpa using h4, fun j hj => ?_⟩
    cases j with
    | zero => simp
    | succ j => simpa using h5 j (by omega)
/-- a local took a value of category 1 -/
theorem lh_st1 {E : En} {ls ls' : Array Slot} {nL : Nat} {lo lo' : List Value} {i : Nat} {v : Value} (h : lh E ls nL lo) (hP : lskP lo lo' i v) (h' : lv_has ls' nL ((i, tv E v) :: (lps E lo).filter (fun q => !(q.1 == i) && !(q.1 + 1 == i && q.2.category == 2)))) : lh E ls' nL lo' := by
  refine ⟨h'.1, by rw [hP.1]; exact h.2.1, h'.2.1, fun j w hw hk => ?_⟩
  by_cases e : j = i
  · subst e
    have e2 : some w = some v := hw.symm.trans hP.2.2.1
    cases e2
    exact h'.2.2 _ List.mem_cons_self
  · obtain ⟨g1, g2⟩ := hP.2.2.2 j w e hw hk
    refine h'.2.2 (j, tv E w) (List.mem_cons_of_mem _ (List.mem_filter.mpr ⟨lps_in g1 hk, ?_⟩))
    simp only [Bool.and_eq_true, Bool.not_eq_true', beq_eq_false_iff_ne, ne_eq, Bool.and_eq_false_iff]
    refine ⟨e, ?_⟩
    by_cases q : j + 1 = i
    · exact Or.inr (fun z => g2 ⟨q, by rw [← tv_cat E w]; exact z⟩)
    · exact Or.inl q
/-- a local took a long -/
theorem lh_st2 {E : En} {ls ls' : Array Slot} {nL : Nat} {lo l1 lo' : List Value} {i : Nat} {x : Int64} (h : lh E ls nL lo) (hP : lskP lo l1 i (.long x)) (hr : lo'.length = l1.length ∧ i + 1 < l1.length ∧ lo'[i + 1]? = some (.retAddr 0) ∧ ∀ j, j ≠ i + 1 → lo'[j]? = l1[j]?) (h' : lv_has ls' nL ((i, .long x) :: (lps E lo).filter (fun q => !(q.1 == i) && (!(q.1 == i + 1) && !(q.1 + 1 == i && q.2.category == 2))))) : lh E ls' nL lo' := by
  refine ⟨h'.1, by rw [hr.1, hP.1]; exact h.2.1, h'.2.1, fun j w hw hk => ?_⟩
  by_cases e1 : j = i + 1
  · subst e1
    have e2 := hw.symm.trans hr.2.2.1
    cases e2
    cases hk
  · rw [hr.2.2.2 j e1] at hw
    by_cases e : j = i
    · subst e
      have e2 := hw.symm.trans hP.2.2.1
      cases e2
      exact h'.2.2 _ List.mem_cons_self
    · obtain ⟨g1, g2⟩ := hP.2.2.2 j w e hw hk
      refine h'.2.2 (j, tv E w) (List.mem_cons_of_mem _ (List.mem_filter.mpr ⟨lps_in g1 hk, ?_⟩))
      simp only [Bool.and_eq_true, Bool.not_eq_true', beq_eq_false_iff_ne, ne_eq, Bool.and_eq_false_iff]
      refine ⟨e, e1, ?_⟩
      by_cases q : j + 1 = i
      · exact Or.inr (fun z => g2 ⟨q, by rw [← tv_cat E w]; exact z⟩)
      · exact Or.inl q
theorem ixB_in {i : Int32} {n : Nat} (h : ixB i n = true) : vp_in i n := by
  unfold ixB at h
  simp only [Bool.and_eq_true, decide_eq_true_eq] at h
  exact vp_in_iff.mpr h
end

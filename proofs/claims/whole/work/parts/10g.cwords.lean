noncomputable section
/-! WHAT COUNTS: the component. The rows b_.. began as rows of kit/laws/BITS.to-paste. -/
def bt (x : Int32) (i : Nat) : Bool := x.toBitVec.getLsbD i
theorem b_ext {x y : Int32} (h : ∀ i, i < 32 → bt x i = bt y i) : x = y := Int32.toBitVec_inj.mp (BitVec.eq_of_getLsbD_eq (fun i hi => h i hi))
theorem b_or (x y : Int32) (i : Nat) : bt (x ||| y) i = (bt x i || bt y i) := by unfold bt; rw [Int32.toBitVec_or, BitVec.getLsbD_or]
theorem b_and (x y : Int32) (i : Nat) : bt (x &&& y) i = (bt x i && bt y i) := by unfold bt; rw [Int32.toBitVec_and, BitVec.getLsbD_and]
theorem b_xor (x y : Int32) (i : Nat) : bt (x ^^^ y) i = (bt x i ^^ bt y i) := by unfold bt; rw [Int32.toBitVec_xor, BitVec.getLsbD_xor]
theorem b_big {x : Int32} {i : Nat} (h : 32 ≤ i) : bt x i = false := BitVec.getLsbD_of_ge _ _ h
theorem b_255 (i : Nat) : bt 255 i = decide (i < 8) := by
  rcases Nat.lt_or_ge i 32 with h | h
  · exact (by decide +kernel : ∀ i, i < 32 → bt 255 i = decide (i < 8)) i h
  · rw [b_big h, decide_eq_false (by omega)]
theorem b_65535 (i : Nat) : bt 65535 i = decide (i < 16) := by
  rcases Nat.lt_or_ge i 32 with h | h
  · exact (by decide +kernel : ∀ i, i < 32 → bt 65535 i = decide (i < 16)) i h
  · rw [b_big h, decide_eq_false (by omega)]
theorem b_m1 : ∀ i, i < 32 → bt (-1) i = true := by decide +kernel
theorem b_0 (i : Nat) : bt 0 i = false := BitVec.getLsbD_zero
theorem s_l : ∀ n, n < 32 → ((nI n &&& 31).toBitVec.smod 32).toNat = n := by decide +kernel
theorem s_u : ∀ n, n < 32 → (((nI n).toUInt32 &&& Int32.toUInt32 31).toBitVec % 32).toNat = n := by decide +kernel
theorem b_shl (n : Nat) (hn : n < 32) (x : Int32) {i : Nat} (hi : i < 32) : bt (x <<< (nI n &&& 31)) i = (decide (n ≤ i) && bt x (i - n)) := by
  unfold bt
  rw [Int32.toBitVec_shiftLeft]
  show (x.toBitVec <<< ((nI n &&& 31).toBitVec.smod 32).toNat).getLsbD i = _
  rw [s_l n hn, BitVec.getLsbD_shiftLeft]
  rcases Nat.lt_or_ge i n with h | h
  · simp [h, Nat.not_le.mpr h]
  · simp [hi, h, Nat.not_lt.mpr h]
theorem b_ushr (n : Nat) (hn : n < 32) (x : Int32) (i : Nat) : bt ((x.toUInt32 >>> ((nI n).toUInt32 &&& Int32.toUInt32 31)).toInt32) i = bt x (n + i) := by
  show (x.toUInt32 >>> ((nI n).toUInt32 &&& Int32.toUInt32 31)).toBitVec.getLsbD i = x.toUInt32.toBitVec.getLsbD (n + i)
  rw [UInt32.toBitVec_shiftRight]
  show (x.toUInt32.toBitVec >>> (((nI n).toUInt32 &&& Int32.toUInt32 31).toBitVec % 32).toNat).getLsbD i = _
  rw [s_u n hn, BitVec.getLsbD_ushiftRight]
theorem b_sshr (n : Nat) (hn : n < 32) (x : Int32) {i : Nat} (hi : i < 32) : bt (x >>> (nI n &&& 31)) i = if n + i < 32 then bt x (n + i) else bt x 31 := by
  unfold bt
  rw [Int32.toBitVec_shiftRight]
  show (x.toBitVec.sshiftRight ((nI n &&& 31).toBitVec.smod 32).toNat).getLsbD i = _
  rw [s_l n hn, BitVec.getLsbD_sshiftRight, BitVec.msb_eq_getLsbD_last]
  simp [hi]
theorem b4_32 : ∀ a b c d : Bool, ∀ i, i < 32 → bt (b4 a b c d) i = (if i = 0 then a else if i = 1 then b else if i = 2 then c else if i = 3 then d else false) := by decide +kernel
theorem bits4_bt (f : Nat → Bool) {i : Nat} (hi : i < 32) : bt (bits4 f) i = (decide (i < 4) && f i) := by
  rw [bits4_b4, b4_32 _ _ _ _ i hi]
  match i, hi with
  | 0, _ => simp
  | 1, _ => simp
  | 2, _ => simp
  | 3, _ => simp
  | i + 4, _ => simp [show ¬ (i + 4 < 4) by omega]
theorem one_bt : ∀ i, i < 32 → bt 1 i = decide (i = 0) := by decide +kernel
theorem usB_bt (us : Int32) {w : Nat} (hw : w < 4) : usB us w = !bt us w := by
  unfold usB
  have h0 : bt ((us >>> (nI w &&& 31)) &&& 1) 0 = bt us w := by
    rw [b_and, b_sshr w (by omega) us (by decide), one_bt 0 (by decide), if_pos (by omega)]
    simp
  by_cases h : (us >>> (nI w &&& 31)) &&& 1 = 0
  · rw [decide_eq_true h]
    rw [h, b_0] at h0
    rw [← h0]
    rfl
  · rw [decide_eq_false h]
    cases hb : bt us w with
    | true => rfl
    | false =>
      rw [hb] at h0
      refine absurd (b_ext (fun i hi => ?_)) h
      rw [b_0]
      by_cases hi0 : i = 0
      · subst hi0; exact h0
      · rw [b_and, one_bt i hi, decide_eq_false hi0, Bool.and_false]
theorem wo4_b (hd : Nat → Bool) (us : Int32) : bits4 hd &&& (us ^^^ -1) = bits4 (fun w => hd w && usB us w) := by
  refine b_ext (fun i hi => ?_)
  rw [b_and, b_xor, b_m1 i hi, bits4_bt hd hi, bits4_bt _ hi]
  by_cases h4 : i < 4
  · rw [usB_bt us h4, decide_eq_true h4]
    simp
  · rw [decide_eq_false h4]
    simp
theorem eight_b : ∀ a b c d : Bool, b4 a b c d &&& 8 = b4 (a && false) (b && false) (c && false) (d && true) := by decide +kernel
theorem wo2_b (hd : Nat → Bool) : bits4 hd &&& 8 = bits4 (fun w => hd w && decide (w = 3)) := by
  rw [bits4_b4, bits4_b4, eight_b]
  rfl
theorem sub_b : ∀ j, j < 4 → ∀ a b c d : Bool, b4 a b c d &&& (((1 : Int32) <<< (nI j &&& 31)) ^^^ -1) = b4 (a && !decide (0 = j)) (b && !decide (1 = j)) (c && !decide (2 = j)) (d && !decide (3 = j)) := by decide +kernel
theorem wo6_b (f : Nat → Bool) {j : Nat} (hj : j < 4) : bits4 f &&& (((1 : Int32) <<< (nI j &&& 31)) ^^^ -1) = bits4 (fun w => f w && !decide (w = j)) := by
  rw [bits4_b4, bits4_b4, sub_b j hj]
/-- the class of a kind -/
def kcl (k : Nat) : Nat := [4, 0, 5, 2, 6, 1, 8].getD k 4
def scr (b : Nat) : Bool := Nat.beq b 43 || Nat.beq b 44 || Nat.beq b 55 || Nat.beq b 56 || Nat.beq b 67 || Nat.beq b 68 || Nat.beq b 88 || Nat.beq b 94 || Nat.beq b 100 || Nat.beq b 106 || Nat.beq b 112 || Nat.beq b 118
def Fc (S S' : Mi) : Prop := ∀ b j, scr b = false → S' b j = S b j
theorem Fc.rf (S : Mi) : Fc S S := fun _ _ _ => rfl
theorem Fc.tr {S S' S'' : Mi} (h : Fc S S') (g : Fc S' S'') : Fc S S'' := fun b j hb => (g b j hb).trans (h b j hb)
theorem scr_big {w : Nat} (h : 119 ≤ w) : scr w = false := by
  have hh : ∀ k, k < 119 → Nat.beq w k = false := fun k hk => by
    cases e : Nat.beq w k with
    | false => rfl
    | true => exact absurd (Nat.eq_of_beq_eq_true e) (by omega)
  unfold scr
  rw [hh 43 (by decide), hh 44 (by decide), hh 55 (by decide), hh 56 (by decide), hh 67 (by decide), hh 68 (by decide), hh 88 (by decide), hh 94 (by decide), hh 100 (by decide), hh 106 (by decide), hh 112 (by decide), hh 118 (by decide)]
  rfl
theorem SD_of {k : Nat} (h : k < 6) : SD (84 + 6 * k) := by unfold SD; omega
theorem HC_fr {S S' : Mi} {r : Option Nat} {bg : Int32} {hf : (Nat → Int32) → Bool} (h : Fc S S') (hs : HC S r bg hf) : HC S' r bg hf := by
  rcases hs with hs | ⟨k, h1, h2, h3⟩
  · exact .inl hs
  · refine .inr ⟨k, h1, h2, SC_fr (fun j => ?_) h3⟩
    rcases SD_of h1 with e | e | e | e | e | e <;> (rw [e]; exact ⟨h _ _ rfl, h _ _ rfl, h _ _ rfl, h _ _ rfl⟩)
def Psn (a n : Nat) (K : Mk) (S : Mi) (P : Mr) (p : Nat) (kd v : Int32) : Prop := ∃ w k, P (a + 1) p = some w ∧ k < 7 ∧ kd = nI k ∧ Per n K w (kcl k) ∧ S w 0 = nI k ∧ S w 1 = nI p ∧ S w 2 = v ∧ P w 3 = some 73
theorem Psn_fr {a n : Nat} {K : Mk} {S S' : Mi} {P : Mr} {p : Nat} {kd v : Int32} (h : Fc S S') (hs : Psn a n K S P p kd v) : Psn a n K S' P p kd v := by
  obtain ⟨w, k, h1, h2, h3, h4, h5, h6, h7, h8⟩ := hs
  have g := h4.1
  have e := scr_big (w := w) (by omega)
  exact ⟨w, k, h1, h2, h3, h4, (h _ _ e).trans h5, (h _ _ e).trans h6, (h _ _ e).trans h7, h8⟩
section A
variable {l : Launch} {L : Nat} {xs : Nat → Int32} {D : Nat} {n : Nat} {K : Mk} {S : Mi} {G : Ml} {P : Mr} {Q : QT} {bg : Int32} {hf : (Nat → Int32) → Bool} {kd v : Int32} {rw : Nat → Int32}
set_option maxRecDepth 20000
theorem m_words {w o k d : Nat} {us : Int32} {hd : Nat → Bool} (hk : k < 7) (hp : Per n K w (kcl k)) (ho : NA o) (hvn : ∃ j, j < 10 ∧ v = nI j) (hd2 : d < 20000) (e1 : S o 1 = v) (e2 : S o 2 = nI d) (e3 : S o 3 = us) (e4 : S o 4 = bits4 hd) (e5 : S o 5 = rw (d % 4)) (h : Q (some (.int (bits4 (fun w => cntK (nI k) v rw d w (hd w) (hd w && usB us w))))) n K S G P) : Ok l L xs T1 (D + 3) (jsel 0 (kcl k)) 0 [.ref w, .ref o] n K S G P Q := by
  have w4 : wo4 S o = bits4 (fun w => hd w && usB us w) := by unfold wo4; rw [e4, e3]; exact wo4_b hd us
  have w2 : wo2 S o = bits4 (fun w => hd w && decide (w = 3)) := by unfold wo2; rw [e4]; exact wo2_b hd
  have d2 : rmI (nI d) 2 = nI (d % 2) := rm_i (by omega) (by decide)
  have w0 : wo0 S o = bits4 (fun w => (hd w && usB us w) && decide (d % 2 = 0)) := by
    unfold wo0
    rw [e2, d2, w4]
    by_cases c : d % 2 = 0
    · rw [if_pos (by rw [c]; rfl)]
      refine bits4_ext (fun w _ => ?_)
      rw [decide_eq_true c, Bool.and_true]
    · rw [if_neg (by rw [eq_i, nI_toInt (by omega), t_0]; omega), ← bits4_0]
      refine bits4_ext (fun w _ => ?_)
      rw [decide_eq_false c, Bool.and_false]
  match k, hk with
  | 0, _ => exact m_wo4 ho (by rw [w4]; exact h)
  | 1, _ => exact m_wo0 hp ho (by rw [w0]; exact h)
  | 2, _ => exact m_wo5 ho (by rw [e4]; exact h)
  | 3, _ => exact m_wo2 ho (by rw [w2]; exact h)
  | 4, _ =>
    refine m_wo6 hp ho ?_
    obtain ⟨j, hj, ej⟩ := hvn
    have e : rmI v 4 = nI (j % 4) := by rw [ej]; exact rm_i (by omega) (by decide)
    have e6 : wo6 S o = bits4 (fun w => cntK (nI 4) v rw d w (hd w) (hd w && usB us w)) := by
      unfold wo6
      rw [w0, e1, e, wo6_b _ (by omega)]
      refine bits4_ext (fun w hw => ?_)
      show _ = ((hd w && usB us w) && decide (d % 2 = 0) && !decide (nI w = rmI v 4))
      rw [e]
      congr 2
      rw [decide_eq_decide, nI_eq (by omega) (by omega)]
    rw [e6]
    exact h
  | 5, _ => exact m_wo1 (by rw [← bits4_15]; exact h)
  | 6, _ =>
    refine m_wo8 hp ho ?_
    have e6 : wo8 S o = bits4 (fun w => cntK (nI 6) v rw d w (hd w) (hd w && usB us w)) := by
      unfold wo8
      rw [w2, e5]
      by_cases c : rw (d % 4) = 0
      · rw [if_pos c, ← bits4_0]
        refine bits4_ext (fun w _ => ?_)
        show _ = ((hd w) && decide (w = 3) && !decide (rw (d % 4) = 0))
        rw [decide_eq_true c, Bool.not_true, Bool.and_false]
      · rw [if_neg c]
        refine bits4_ext (fun w _ => ?_)
        show _ = ((hd w) && decide (w = 3) && !decide (rw (d % 4) = 0))
        rw [decide_eq_false c, Bool.not_false, Bool.and_true]
    rw [e6]
    exact h
theorem v_go {k m mc rk nt cs : Nat} {as q lo : List Value} {Cl : CT} {nx : PT} (hk : k < 7) (hm : m < 4) (hq : Nat.ble (scat q) 8 = true) (h : Cl (jsel m (kcl k)) 0 as n K S G P (rgo rk nx nt lo q cs)) : cond (pers.contains (kcl k) && isSub (kcl k) 4) (i_go mc (jsel m (kcl k)) as q rk Cl nx nt lo n K S G P cs) False := by
  have a1 : ∀ k, k < 7 → (pers.contains (kcl k) && isSub (kcl k) 4) = true := by decide
  have a2 : ∀ k, k < 7 → ∀ m, m < 4 → mcq (jsel m (kcl k)) = false := by decide
  rw [a1 k hk]
  unfold i_go
  rw [hq, a2 k hk m hm]
  exact h
theorem rf_s {A B : List Value → Prop} {y : Option Nat} {b : Nat} {q : List Value} (h : y = some b) (hA : A q) : (match va_rf y :: q with
    | .ref _ :: r => A r
    | .null :: r => B r
    | _ => False) := by
  subst h
  exact hA
theorem rf_n {A B : List Value → Prop} {y : Option Nat} {q : List Value} (h : y = none) (hB : B q) : (match va_rf y :: q with
    | .ref _ :: r => A r
    | .null :: r => B r
    | _ => False) := by
  subst h
  exact hB
theorem m_firstDay {a : Nat} (ha : TA a) (hh : HC S (P a 8) bg hf) (h : Q (some (.int bg)) n K S G P) : Ok l L xs T1 (D + 1) jX9_firstDay 0 [.ref a] n K S G P Q := by
  refine I_X9_firstDay (by decide) (fun At go => ?_)
  rcases hh with ⟨h1, h2, _⟩ | ⟨k, hk, h1, h2⟩
  · rw [h2] at h
    rcases ha with rfl | rfl | rfl <;> (
    refine go [] 60 _ _ _ _ _ _ _ _ _ ?_
    refine rf_n h1 ?_
    exact h)
  · rw [← h2.1] at h
    rcases SD_of hk with e | e | e | e | e | e <;> (
    rw [e] at h h1
    rcases ha with rfl | rfl | rfl <;> (
    refine go [] 60 _ _ _ _ _ _ _ _ _ ?_
    refine rf_s h1 ?_
    refine rf_v h1 ?_
    exact h))
end A
end

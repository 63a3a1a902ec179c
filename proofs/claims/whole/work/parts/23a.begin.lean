noncomputable section
/-! THE LAW from its first instruction, in the calculus. -/
theorem PBi_fr {i lo hi : Nat} {P P' : Mr} (f : FrQ lo hi P P') (h1 : 120 ≤ lo) (h6 : i ≤ 6) (h : PBi i P) : PBi i P' := ⟨PB_fr f (by omega) h.1, fun k hk => ⟨fa_st f (by omega) (h.2 k hk).1, (f _ _ (by omega)).trans (h.2 k hk).2⟩⟩
section A
variable {l : Launch} {L : Nat} {xs : Nat → Int32} {D : Nat} {Q : QT} {At0 At1 : PT} {K : Mk} {P : Mr}
set_option maxRecDepth 20000
theorem law_start (go0 : Walk l L xs T0 (D + 315) tbL_law 1 false 7302 Q At0) (go1 : LW l L xs D Q At1) (sw : ∀ (pc : Nat) (lo st : List Value) (K : Mk) (S : Mi) (G : Ml) (P : Mr) (cs : Nat), PF P → At1 pc lo st 123 K S G P cs → At0 pc lo st 123 K S G P cs) (hM : MuH l) (hL : L ≤ 3072) (hQ : ∀ n K S G P, Q (some (.int 1)) n K S G P) : At0 0 [.ref 31, .retAddr 0, .retAddr 0, .retAddr 0] [] 0 K (fun _ _ => 0) (fun _ _ => 0) P 0 := by
  have a18 : ∀ K' S' G' P', SF S' → Zg G' → PF P' → At0 18 [.ref 31, .ref 32, .ref 120, .int 0] [] 123 K' S' G' P' 123 := by
    intro K' S' G' P' h1 h2 h3
    exact sw _ _ _ _ _ _ _ _ h3 (law_loop go1 hQ hL 512 0 0 123 K' S' G' P' 123 rfl (by decide) (by omega) (by decide) (inv0 h1 h2 h3))
  refine go0 [18] 60 _ _ _ _ _ _ _ _ _ ?_
  refine ⟨87, by decide, ?_⟩
  refine t_comp hM (Zs_uR (fun _ _ => rfl)) (fun _ _ => rfl) (fun K1 S1 G1 P1 f1 f2 f3 f4 => ?_)
  refine ⟨34, by decide, ?_⟩
  refine t_model (fun b j hb => ?_) f3 (fun K2 S2 G2 P2 g1 g2 g3 g4 g5 g6 => ?_)
  · by_cases e : b = 120
    · rw [e]; exact congrFun (upR_self _ _ _) j
    · exact (congrFun (upR_o _ _ e) j).trans (f1 b j (by omega))
  · refine a18 K2 S2 G2 P2 ⟨fun b j h1 h2 h3 => ?_, g2, g3, fun t ht => ?_⟩ g4 ⟨PBi_fr (lo := 120) (hi := 154) (FrQ_tr (FrQ_uR FrQ_rf (by decide) (by decide)) g5 (by decide) (by decide)) (by decide) (by decide) f4, g6⟩
    · rw [g1 b j h1 h2]
      by_cases e : b = 120
      · rw [e]; exact congrFun (upR_self _ _ _) j
      · exact (congrFun (upR_o _ _ e) j).trans (f1 b j h3)
    · exact (g1 82 t (by omega) (by decide)).trans ((congrFun (upR_o _ _ (by decide)) t).trans (f2 t ht))
end A
end

noncomputable section
theorem oneT_f {tw : Nat → Int32} {np k : Nat} {v : Int32} (h6 : np < 6) {j : Nat} (h1 : j ≠ np) (h2 : j ≠ 6 + np) (h3 : j ≠ 219) (h4 : j < 12 ∨ 42 ≤ j) : oneT tw np k v j = if clrB 42 np 6 j = true ∨ clrB 78 np 6 j = true then 0 else if clrB 114 np 6 j = true then -5 else tw j := by
  unfold oneT oneS
  rw [va_up_ne _ _ h2, va_up_ne _ _ h1, va_up_ne _ _ h3]
  unfold twCl twRw
  rw [if_neg (show ¬ (18 + 4 * np ≤ j ∧ j < 18 + 4 * np + 4) by omega), va_up_ne _ _ (show j ≠ 12 + np by omega)]
theorem oneT_o {tw : Nat → Int32} {np k : Nat} {v : Int32} (h6 : np < 6) {j : Nat} (h1 : j ≠ np) (h2 : j ≠ 6 + np) (h3 : j ≠ 219) (h4 : j < 12 ∨ 150 ≤ j) : oneT tw np k v j = tw j := by
  rw [oneT_f h6 h1 h2 h3 (by omega), if_neg, if_neg]
  · intro w; have := clr_r h6 (by decide) w; omega
  · rintro (w | w)
    · have := clr_r h6 (by decide) w; omega
    · have := clr_r h6 (by decide) w; omega
theorem TwOk_one {tw : Nat → Int32} {np dy ns k : Nat} {v : Int32} (h6 : np < 6) (hk : k < 7) (hv : ∃ j, j < 10 ∧ v = nI j) (h : TwOk tw np dy ns) : TwOk (oneT tw np k v) (np + 1) dy ns := by
  obtain ⟨h1, h2, h3, h4, h5, h6', ⟨r, r1, r2, r3⟩, ⟨s, s1, s2, s3⟩, ⟨b, b1, b2, b3⟩⟩ := h
  have o : ∀ j, 150 ≤ j → j ≠ 219 → oneT tw np k v j = tw j := fun j q1 q2 => oneT_o h6 (by omega) (by omega) q2 (.inr q1)
  refine ⟨⟨?_, h6⟩, ⟨(o _ (by decide) (by decide)).trans h2.1, h2.2⟩, ?_, fun p hp => ?_, fun i hi => ?_, fun i hi => ?_, ⟨r, r1, (o _ (by decide) (by decide)).trans r2, fun i hi => ?_⟩, ⟨s, s1, (o _ (by decide) (by decide)).trans s2, fun i hi => ?_⟩, ⟨b, b1, (o _ (by decide) (by decide)).trans b2, fun i hi => ?_⟩⟩
  · unfold oneT oneS
    rw [va_up_ne _ _ (by omega), va_up_ne _ _ (by omega), va_up_self]
  · rw [o _ (by decide) (by decide)]; exact h3
  · by_cases e : p = np
    · subst e
      refine ⟨⟨k, hk, ?_⟩, ?_⟩
      · unfold oneT; rw [va_up_ne _ _ (by omega), va_up_self]
      · obtain ⟨j, hj, ej⟩ := hv
        refine ⟨j, hj, ?_⟩
        unfold oneT; rw [va_up_self]; exact ej
    · rw [oneT_o h6 e (by omega) (by omega) (by omega), oneT_o h6 (by omega) (by omega) (by omega) (by omega)]
      exact h4 p (by omega)
  · rw [oneT_f h6 (by omega) (by omega) (by omega) (by omega), if_neg]
    · split
      · rw [t_m5]; omega
      · exact h5 i hi
    · rintro (w | w)
      · have := clr_r h6 (by decide) w; omega
      · have := clr_r h6 (by decide) w; omega
  · rw [oneT_f h6 (by omega) (by omega) (by omega) (by omega)]
    split
    · exact ⟨0, by decide, rfl⟩
    · rw [if_neg]
      · exact h6' i hi
      · intro w; have := clr_r h6 (by decide) w; omega
  · obtain ⟨p, q, w, t, g1, g2, g3, g4, g5, g6, g7, g8, g9⟩ := r3 i hi
    exact ⟨p, q, w, t, by omega, by omega, g3, g4, (o _ (by omega) (by omega)).trans g5, (o _ (by omega) (by omega)).trans g6, (o _ (by omega) (by omega)).trans g7, (o _ (by omega) (by omega)).trans g8, by rw [o _ (by omega) (by omega)]; exact g9⟩
  · rw [o _ (by omega) (by omega), o _ (by omega) (by omega)]
    rcases s3 i hi with g | ⟨g, p, q, w, g1, g2, g3, g4, g5⟩
    · exact .inl g
    · exact .inr ⟨g, p, q, w, by omega, by omega, g3, g4, g5⟩
  · obtain ⟨p, q, g1, g2, g3, g4⟩ := b3 i hi
    exact ⟨p, q, by omega, by omega, (o _ (by omega) (by omega)).trans g3, (o _ (by omega) (by omega)).trans g4⟩
theorem d_one {N : Nat → Nat} {d : Nat → Nat → Int32} {x y : Int32} (hD : DOk N d) (ok : okOn N x y) : DOk (onN N) (onD N d x y) := by
  obtain ⟨hx, hy, h6⟩ := ok
  obtain ⟨k, hk, rfl⟩ := inR_ex hx
  have e : onD N d (nI k) y = upR d 0 (oneT (d 0) (N 0) k y) := by unfold onD; rw [nI_clamp (by omega)]
  rw [e]
  exact DOk_tw hD (TwOk_one (dy := N 1) h6 hk (inR_ex hy) hD.1) hD.2.1 (fun i hi => upR_o _ _ (by omega))
end

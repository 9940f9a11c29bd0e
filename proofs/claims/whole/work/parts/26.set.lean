/-! set, image, restore, lit, count -/
section
variable {w w1 w2 : Wd} {σ τ : St} {b : Nat}
theorem q_set (h : R w σ) (x y : Int32) : Ans (fX9_set w x y) (fun v => fX10_set v x y) := by
  rcases arg x 3 with hx | hx | ⟨p, hp, rfl⟩
  · exact Ans.nof h 2 (by decide) (by decide) (by unfold fX9_set fX9_isOutside; simp only [if_pos hx, if_neg (show ¬ (1 : Int32) = 0 by decide), rf1, rf2, rf3, rf4, rf6, bd_e, un2_e] <;> rfl) (fun v e => by unfold fX10_set fX10_isIn fX10_set_j59; simp only [if_pos hx, if_pos, lt_e, if_neg (show ¬ (-2 : Int32) = 0 by decide), e _ (show (42 : Nat) ≠ 12 by decide), no1, no2, no3, no4, no6, bd_e, un2_e] <;> rfl)
  · have a1 : ¬ x < 0 := ge0 hx (by decide)
    have a2 : ¬ x ≤ 2 := hi_le (m := 2) hx (by decide)
    have a3 : (2 : Int32) < x := hi_lt (m := 2) hx (by decide)
    exact Ans.nof h 2 (by decide) (by decide) (by unfold fX9_set fX9_isOutside; simp only [if_neg a1, if_neg a2, if_neg (show ¬ (1 : Int32) = 0 by decide), rf1, rf2, rf3, rf4, rf6, bd_e, un2_e] <;> rfl) (fun v e => by unfold fX10_set fX10_isIn fX10_set_j59; simp only [if_neg a1, if_pos a3, if_pos, lt_e, if_neg (show ¬ (-2 : Int32) = 0 by decide), e _ (show (42 : Nat) ≠ 12 by decide), no1, no2, no3, no4, no6, bd_e, un2_e] <;> rfl)
  · rcases (by omega : p = 0 ∨ p = 1 ∨ p = 2) with rfl | rfl | rfl
    · have i1 : fX9_isOutside (nI 0) 2 = 0 := by decide
      have i2 : fX10_isIn (nI 0) 0 2 = 1 := by decide
      have i3 : fX9_leastOf (nI 0) = 0 := by decide
      have i4 : fX9_mostOf (nI 0) = 2 := by decide
      rcases arg y 3 with hy | hy | ⟨k, hk, rfl⟩
      · have d1 := lo_ge hy
        exact Ans.nof h 4 (by decide) (by decide) (by unfold fX9_set; simp only [i1, i3, if_pos, if_neg d1, rf1, rf2, rf3, rf4, rf6, bd_e, un2_e] <;> rfl) (fun v e => by unfold fX10_set fX10_bound fX10_set_j59; simp only [i2, if_neg (show ¬ (1 : Int32) = 0 by decide), if_pos (show nI 0 = 0 from rfl), if_neg (show ¬ nI 0 = 2 by decide), if_neg d1, lt_e, if_neg (show ¬ (-4 : Int32) = 0 by decide), e _ (show (42 : Nat) ≠ 12 by decide), no1, no2, no3, no4, no6, bd_e, un2_e] <;> rfl)
      · have d1 := hi_ge hy (by decide)
        have d2 : ¬ y ≤ 2 := hi_le (m := 2) hy (by decide)
        exact Ans.nof h 6 (by decide) (by decide) (by unfold fX9_set; simp only [i1, i3, i4, if_pos, if_pos d1, if_neg d2, rf1, rf2, rf3, rf4, rf6, bd_e, un2_e] <;> rfl) (fun v e => by unfold fX10_set fX10_bound fX10_set_j59; simp only [i2, if_neg (show ¬ (1 : Int32) = 0 by decide), if_pos (show nI 0 = 0 from rfl), if_neg (show ¬ nI 0 = 2 by decide), if_pos d1, if_neg d2, lt_e, if_neg (show ¬ (-6 : Int32) = 0 by decide), e _ (show (42 : Nat) ≠ 12 by decide), no1, no2, no3, no4, no6, bd_e, un2_e] <;> rfl)
      · have d1 : (0 : Int32) ≤ nI k := nI_pos' (by omega)
        have d2 : nI k ≤ 2 := by rw [c2, n_le (by omega) (by decide)]; omega
        refine set_do h (k := 0) (by decide) (h.g.F2 hk) ?_ fun u _ => ?_
        · unfold fX9_set
          rw [i1, i3, i4, if_pos rfl, if_pos d1, if_pos d2, if_neg (by decide)]
        · unfold fX10_set fX10_bound
          rw [i2, if_neg (by decide), if_pos (show nI 0 = 0 from rfl), if_neg (show ¬ nI 0 = 2 by decide), if_pos d1, if_pos d2, lt_e, if_pos rfl, if_neg (by decide)]
    · have i1 : fX9_isOutside (nI 1) 2 = 0 := by decide
      have i2 : fX10_isIn (nI 1) 0 2 = 1 := by decide
      have i3 : fX9_leastOf (nI 1) = 1 := by decide
      have i4 : fX9_mostOf (nI 1) = 2 := by decide
      by_cases d1 : (1 : Int32) ≤ y
      · by_cases d2 : y ≤ 2
        · rcases arg y 3 with hy | hy | ⟨k, hk, rfl⟩
          · exact absurd (Int32.lt_of_lt_of_le hy (show (0 : Int32) ≤ 1 by decide)) (Int32.not_lt.mpr d1)
          · exact absurd d2 (hi_le (m := 2) hy (by decide))
          · have hk1 : 1 ≤ k := by rw [c1, n_le (by decide) (by omega)] at d1; exact d1
            refine set_do h (k := 1) (by decide) (h.g.E2 ⟨hk1, by omega⟩) ?_ fun u _ => ?_
            · unfold fX9_set
              rw [i1, i3, i4, if_pos rfl, if_pos d1, if_pos d2, if_neg (by decide)]
            · unfold fX10_set fX10_bound
              rw [i2, if_neg (by decide), if_neg (show ¬ nI 1 = 0 by decide), if_neg (show ¬ nI 1 = 2 by decide), if_pos d1, if_pos d2, lt_e, if_pos rfl, if_neg (by decide)]
        · exact Ans.nof h 6 (by decide) (by decide) (by unfold fX9_set; simp only [i1, i3, i4, if_pos, if_pos d1, if_neg d2, rf1, rf2, rf3, rf4, rf6, bd_e, un2_e] <;> rfl) (fun v e => by unfold fX10_set fX10_bound fX10_set_j59; simp only [i2, if_neg (show ¬ (1 : Int32) = 0 by decide), if_neg (show ¬ nI 1 = 0 by decide), if_neg (show ¬ nI 1 = 2 by decide), if_pos d1, if_neg d2, lt_e, if_neg (show ¬ (-6 : Int32) = 0 by decide), e _ (show (42 : Nat) ≠ 12 by decide), no1, no2, no3, no4, no6, bd_e, un2_e] <;> rfl)
      · exact Ans.nof h 4 (by decide) (by decide) (by unfold fX9_set; simp only [i1, i3, if_pos, if_neg d1, rf1, rf2, rf3, rf4, rf6, bd_e, un2_e] <;> rfl) (fun v e => by unfold fX10_set fX10_bound fX10_set_j59; simp only [i2, if_neg (show ¬ (1 : Int32) = 0 by decide), if_neg (show ¬ nI 1 = 0 by decide), if_neg (show ¬ nI 1 = 2 by decide), if_neg d1, lt_e, if_neg (show ¬ (-4 : Int32) = 0 by decide), e _ (show (42 : Nat) ≠ 12 by decide), no1, no2, no3, no4, no6, bd_e, un2_e] <;> rfl)
    · have i1 : fX9_isOutside (nI 2) 2 = 0 := by decide
      have i2 : fX10_isIn (nI 2) 0 2 = 1 := by decide
      have i3 : fX9_leastOf (nI 2) = 1 := by decide
      have i4 : fX9_mostOf (nI 2) = 24 := by decide
      have hA := h.g.A
      have hD := h.g.D
      by_cases d1 : (1 : Int32) ≤ y
      · by_cases d2 : y ≤ 24
        · rcases arg y 25 with hy | hy | ⟨k, hk, rfl⟩
          · exact absurd (Int32.lt_of_lt_of_le hy (show (0 : Int32) ≤ 1 by decide)) (Int32.not_lt.mpr d1)
          · exact absurd d2 (hi_le (m := 24) hy (by decide))
          · have hk1 : 1 ≤ k := by rw [c1, n_le (by decide) (by omega)] at d1; exact d1
            by_cases ha : sA σ ≤ k
            · have ha1 : nI (sA σ) ≤ nI k := by rw [n_le (by omega) (by omega)]; exact ha
              refine set_do h (k := 2) (by decide) (h.g.D2 ⟨hk1, by omega⟩ ha) ?_ fun u hu => ?_
              · unfold fX9_set
                rw [i1, i3, i4, if_pos rfl, if_pos d1, if_pos d2, if_pos (show nI 2 = 2 from rfl), h.c.Pl, if_pos ha1]
              · unfold fX10_set fX10_bound
                rw [i2, if_neg (by decide), if_neg (show ¬ nI 2 = 0 by decide), if_pos (show nI 2 = 2 from rfl), if_pos d1, if_pos d2, lt_e, if_pos rfl, if_pos (show nI 2 = 2 from rfl), hu, h.o.A, if_pos ha1]
            · have ha1 : ¬ nI (sA σ) ≤ nI k := by rw [n_le (by omega) (by omega)]; exact ha
              exact Ans.nof h 3 (by decide) (by decide) (by unfold fX9_set; simp only [i1, i3, i4, if_pos, if_pos d1, if_pos d2, if_pos (show nI 2 = 2 from rfl), h.c.Pl, if_neg ha1, rf1, rf2, rf3, rf4, rf6, bd_e, un2_e] <;> rfl) (fun v e => by unfold fX10_set fX10_bound fX10_set_j59; simp only [i2, if_neg (show ¬ (1 : Int32) = 0 by decide), if_neg (show ¬ nI 2 = 0 by decide), if_pos (show nI 2 = 2 from rfl), if_pos d1, if_pos d2, lt_e, if_pos, h.o.A, if_neg ha1, if_neg (show ¬ (-3 : Int32) = 0 by decide), e _ (show (42 : Nat) ≠ 12 by decide), no1, no2, no3, no4, no6, bd_e, un2_e] <;> rfl)
        · exact Ans.nof h 6 (by decide) (by decide) (by unfold fX9_set; simp only [i1, i3, i4, if_pos, if_pos d1, if_neg d2, rf1, rf2, rf3, rf4, rf6, bd_e, un2_e] <;> rfl) (fun v e => by unfold fX10_set fX10_bound fX10_set_j59; simp only [i2, if_neg (show ¬ (1 : Int32) = 0 by decide), if_neg (show ¬ nI 2 = 0 by decide), if_pos (show nI 2 = 2 from rfl), if_pos d1, if_neg d2, lt_e, if_neg (show ¬ (-6 : Int32) = 0 by decide), e _ (show (42 : Nat) ≠ 12 by decide), no1, no2, no3, no4, no6, bd_e, un2_e] <;> rfl)
      · exact Ans.nof h 4 (by decide) (by decide) (by unfold fX9_set; simp only [i1, i3, if_pos, if_neg d1, rf1, rf2, rf3, rf4, rf6, bd_e, un2_e] <;> rfl) (fun v e => by unfold fX10_set fX10_bound fX10_set_j59; simp only [i2, if_neg (show ¬ (1 : Int32) = 0 by decide), if_neg (show ¬ nI 2 = 0 by decide), if_pos (show nI 2 = 2 from rfl), if_neg d1, lt_e, if_neg (show ¬ (-4 : Int32) = 0 by decide), e _ (show (42 : Nat) ≠ 12 by decide), no1, no2, no3, no4, no6, bd_e, un2_e] <;> rfl)
/-- one company taken from another -/
theorem c_take (hb : isCo b) {b1 : Nat} (hb1 : isCo b1) (hn : b ≠ b1) (hC : CoIs w b1 σ) : CoIs (fX2_takeFrom b b1 w) b σ := by
  have e1 : b = 1 ∨ b = 2 ∨ b = 3 := hb
  have e2 : b1 = 1 ∨ b1 = 2 ∨ b1 = 3 := hb1
  rcases e1 with rfl | rfl | rfl <;> rcases e2 with rfl | rfl | rfl
  any_goals exact absurd rfl hn
  all_goals
    refine ⟨fun k hk => ?_, fun k hk => ?_, fun k hk => ?_, fun k hk => ?_, fun k hk => ?_⟩
    · rcases (by omega : k = 0 ∨ k = 1 ∨ k = 2 ∨ k = 3 ∨ k = 4 ∨ k = 5 ∨ k = 6) with rfl | rfl | rfl | rfl | rfl | rfl | rfl
      · exact hC.P
      · exact hC.L
      · exact hC.Fm
      · exact hC.Ea
      · exact hC.Do
      · exact hC.Pl
      · exact hC.Mi
    · refine Eq.trans ?_ (hC.K hk)
      show (if 0 ≤ k ∧ k < 0 + 8 then _ else _) = _
      rw [if_pos (by omega)]
      show _ = w.1 _ k
      rw [show 0 + (k - 0) = k by omega]
      rfl
    · refine Eq.trans ?_ (hC.G hk)
      show (if 0 ≤ k ∧ k < 0 + 8 then _ else _) = _
      rw [if_pos (by omega)]
      show _ = w.1 _ k
      rw [show 0 + (k - 0) = k by omega]
      rfl
    · refine Eq.trans ?_ (hC.W hk)
      show (if 0 ≤ k ∧ k < 0 + 25 then _ else _) = _
      rw [if_pos (by omega)]
      show _ = w.1 _ k
      rw [show 0 + (k - 0) = k by omega]
      rfl
    · refine Eq.trans ?_ (hC.S hk)
      show (if 0 ≤ k ∧ k < 0 + 25 then _ else _) = _
      rw [if_pos (by omega)]
      show _ = w.1 _ k
      rw [show 0 + (k - 0) = k by omega]
      rfl
end

/-! row, clear, wind, beside, covers, calm, spreads, person -/
section
variable {w w1 : Wd} {σ : St}
theorem q_row (h : R w σ) (x : Int32) : Ans (fX9_row w x) (fun v => fX10_row v x) := by
  obtain ⟨n, hn, e1, e2, e3⟩ := h.ro
  rcases arg x 100 with hx | hx | ⟨p, hp, rfl⟩
  · have a1 := lo_ge hx
    exact Ans.nof h 4 (by decide) (by decide) (by unfold fX9_row; simp only [if_neg a1, rf1, rf2, rf3, rf4, rf6, bd_e, un2_e] <;> rfl) (fun v e => by unfold fX10_row fX10_bound fX10_row_j24; simp only [if_neg a1, lt_e, if_neg (show ¬ (-4 : Int32) = 0 by decide), e _ (show (42 : Nat) ≠ 12 by decide), no1, no2, no3, no4, no6, bd_e, un2_e] <;> rfl)
  · have a1 := hi_ge hx (by decide)
    have a2 : (99 : Int32) < x := hi_lt (m := 99) hx (by decide)
    have a3 : ¬ x ≤ 99 := Int32.not_le.mpr a2
    exact Ans.nof h 6 (by decide) (by decide) (by unfold fX9_row fX9_row_j27; simp only [if_pos a1, if_pos a2, rf1, rf2, rf3, rf4, rf6, bd_e, un2_e] <;> rfl) (fun v e => by unfold fX10_row fX10_bound fX10_row_j24; simp only [if_pos a1, if_neg a3, lt_e, if_neg (show ¬ (-6 : Int32) = 0 by decide), e _ (show (42 : Nat) ≠ 12 by decide), no1, no2, no3, no4, no6, bd_e, un2_e] <;> rfl)
  · have a1 : (0 : Int32) ≤ nI p := nI_pos' (by omega)
    have a2 : ¬ (99 : Int32) < nI p := by rw [c99, n_lt (by decide) (by omega)]; omega
    have a3 : nI p ≤ (99 : Int32) := by rw [c99, n_le (by omega) (by decide)]; omega
    by_cases c : n = 12
    · subst c
      have b1 : ¬ nI 12 < (12 : Int32) := by decide
      exact Ans.nof h 6 (by decide) (by decide) (by unfold fX9_row fX9_row_j27 fX7_isFull; simp only [if_pos a1, if_neg a2, e1, if_neg b1, if_neg (show ¬ (1 : Int32) = 0 by decide), rf1, rf2, rf3, rf4, rf6, bd_e, un2_e] <;> rfl) (fun v e => by unfold fX10_row fX10_bound fX10_row_j24; simp only [if_pos a1, if_pos a3, lt_e, if_pos, e2, if_pos (show nI 12 = (12 : Int32) from rfl), if_neg (show ¬ (-6 : Int32) = 0 by decide), e _ (show (42 : Nat) ≠ 12 by decide), no1, no2, no3, no4, no6, bd_e, un2_e] <;> rfl)
    · have b1 : nI n < (12 : Int32) := by rw [c12, n_lt (by omega) (by decide)]; omega
      have b2 : ¬ nI n = (12 : Int32) := by rw [c12, n_eq (by omega) (by decide)]; omega
      refine ⟨nI (n + 1), upI (upI w 34 n (nI p)) 7 0 (nI (n + 1)), upI (upI (upI (upI w 34 n (nI p)) 7 0 (nI (n + 1))) 67 n (nI p)) 42 41 (nI (n + 1)), σ, ?_, ?_, h.g, h.m, h.c, h.o, h.le, ⟨n + 1, by omega, rfl, rfl, fun k hk => ?_⟩, h.pa, h.pi, h.re⟩
      · unfold fX9_row fX7_append fX7_isFull
        simp only [if_pos a1, if_neg a2, e1, if_pos b1, if_pos, gdn (show n < 12 by omega) (by decide), lt_e, upI_o _ 34 _ _ (show (7 : Nat) ≠ 34 by decide), n_cl (show n < 2 ^ 31 by omega), nI_1, bd_e, un2_e, upI_s]
      · unfold fX10_row fX10_bound fX10_row_j24
        have e4 : (upI (upI w 34 n (nI p)) 7 0 (nI (n + 1))).1 42 41 = nI n := e2
        have e5 : ∀ v x, (upI v 67 n x).1 42 41 = v.1 42 41 := fun v x => rfl
        simp only [if_pos a1, if_pos a3, e4, if_neg b2, if_pos, gdn (show n < 12 by omega) (by decide), lt_e, n_cl (show n < 2 ^ 31 by omega), nI_1, bd_e, un2_e, upI_s, e5]
      · by_cases d : k = n
        · subst d; exact ⟨p, by omega, upI_s _ _ _ _, upI_s _ _ _ _⟩
        · obtain ⟨c, h1, h2, h3⟩ := e3 k (by omega)
          exact ⟨c, h1, (upI_k _ _ _ _ d).trans h2, (upI_k _ _ _ _ d).trans h3⟩
theorem q_clear (h : R w σ) : ∃ r w1 w2, fX9_clear w = (r, w1) ∧ fX10_clear w1 = (r, w2) ∧ R w2 σ := by
  obtain ⟨n, hn, e1, e2, e3⟩ := h.ro
  refine ⟨nI n, upI w 7 0 0, upI (upI w 7 0 0) 42 41 0, ?_, ?_, h.g, h.m, h.c, h.o, h.le, ⟨0, by omega, rfl, rfl, fun k hk => absurd hk (Nat.not_lt_zero _)⟩, h.pa, h.pi, h.re⟩
  · unfold fX9_clear
    rw [lt_e, lt_e, e1]
  · unfold fX10_clear
    rw [lt_e, lt_e]
    exact congrArg (·, _) e2
/-- an answer without a write -/
theorem Ans.eq {r : Int32} (h : R w σ) {m : Option (Int32 × Wd)} {f : Wd → Option (Int32 × Wd)} (h1 : m = some (r, w)) (h2 : f w = some (r, w)) : Ans m f := ⟨r, w, w, σ, h1, h2, h⟩
theorem q_wind (h : R w σ) (x y : Int32) : Ans (fX9_wind w x y) (fun v => fX10_wind v x y) := by
  rcases arg x 25 with hx | hx | ⟨p, hp, rfl⟩
  · exact Ans.nof h 1 (by decide) (by decide) (by unfold fX9_wind fX9_isOutside; simp only [if_pos hx, if_neg (show ¬ (1 : Int32) = 0 by decide), rf1, rf2, rf3, rf4, rf6, bd_e, un2_e] <;> rfl) (fun v e => by unfold fX10_wind fX10_isPlace; simp only [if_pos hx, if_pos, e _ (show (42 : Nat) ≠ 12 by decide), no1, no2, no3, no4, no6, bd_e, un2_e] <;> rfl)
  · have a1 : ¬ x < 0 := ge0 hx (by decide)
    have a2 : ¬ x ≤ 24 := hi_le (m := 24) hx (by decide)
    have a3 : (24 : Int32) < x := hi_lt (m := 24) hx (by decide)
    exact Ans.nof h 1 (by decide) (by decide) (by unfold fX9_wind fX9_isOutside; simp only [if_neg a1, if_neg a2, if_neg (show ¬ (1 : Int32) = 0 by decide), rf1, rf2, rf3, rf4, rf6, bd_e, un2_e] <;> rfl) (fun v e => by unfold fX10_wind fX10_isPlace; simp only [if_neg a1, if_pos a3, if_pos, e _ (show (42 : Nat) ≠ 12 by decide), no1, no2, no3, no4, no6, bd_e, un2_e] <;> rfl)
  · have a1 : ¬ nI p < 0 := nI_pos (by omega)
    have a2 : nI p ≤ 24 := by rw [c24, n_le (by omega) (by decide)]; omega
    have a3 : ¬ (24 : Int32) < nI p := Int32.not_lt.mpr a2
    rcases arg y 2 with hy | hy | ⟨k, hk, rfl⟩
    · exact Ans.nof h 2 (by decide) (by decide) (by unfold fX9_wind fX9_isOutside; simp only [if_neg a1, if_pos a2, if_pos, if_pos hy, if_neg (show ¬ (1 : Int32) = 0 by decide), rf1, rf2, rf3, rf4, rf6, bd_e, un2_e] <;> rfl) (fun v e => by unfold fX10_wind fX10_isPlace fX10_isIn; simp only [if_neg a1, if_neg a3, if_pos hy, if_pos, if_neg (show ¬ (1 : Int32) = 0 by decide), e _ (show (42 : Nat) ≠ 12 by decide), no1, no2, no3, no4, no6, bd_e, un2_e] <;> rfl)
    · have b1 : ¬ y < 0 := ge0 hy (by decide)
      have b2 : ¬ y ≤ 1 := hi_le (m := 1) hy (by decide)
      have b3 : (1 : Int32) < y := hi_lt (m := 1) hy (by decide)
      exact Ans.nof h 2 (by decide) (by decide) (by unfold fX9_wind fX9_isOutside; simp only [if_neg a1, if_pos a2, if_pos, if_neg b1, if_neg b2, if_neg (show ¬ (1 : Int32) = 0 by decide), rf1, rf2, rf3, rf4, rf6, bd_e, un2_e] <;> rfl) (fun v e => by unfold fX10_wind fX10_isPlace fX10_isIn; simp only [if_neg a1, if_neg a3, if_neg b1, if_pos b3, if_pos, if_neg (show ¬ (1 : Int32) = 0 by decide), e _ (show (42 : Nat) ≠ 12 by decide), no1, no2, no3, no4, no6, bd_e, un2_e] <;> rfl)
    · have b1 : ¬ nI k < 0 := nI_pos (by omega)
      have b2 : nI k ≤ 1 := by rw [c1, n_le (by omega) (by decide)]; omega
      have b3 : ¬ (1 : Int32) < nI k := Int32.not_lt.mpr b2
      refine Ans.eq (r := nI (if k = 0 then sW σ p else sS σ p)) h ?_ ?_
      · unfold fX9_wind fX9_isOutside
        simp only [if_neg a1, if_pos a2, if_pos, if_neg b1, if_pos b2, gdn hp (by decide), n_cl (show p < 2 ^ 31 by omega)]
        by_cases c : k = 0
        · subst c
          rw [if_pos (show nI 0 = 0 from rfl), if_pos rfl]
          exact congrArg (fun x => some (x, w)) (h.c.W hp)
        · rw [if_neg (by rw [c0, n_eq (by omega) (by decide)]; exact c), if_neg c]
          exact congrArg (fun x => some (x, w)) (h.c.S hp)
      · show fX10_wind _ _ _ = _
        unfold fX10_wind fX10_isPlace fX10_isIn
        simp only [if_neg a1, if_neg a3, if_neg b1, if_neg b3, if_neg (show ¬ (1 : Int32) = 0 by decide), gdn hp (by decide), n_cl (show p < 2 ^ 31 by omega)]
        by_cases c : k = 0
        · subst c
          rw [if_pos (show nI 0 = 0 from rfl), if_pos rfl]
          exact congrArg (fun x => some (x, w)) (h.o.W hp)
        · rw [if_neg (by rw [c0, n_eq (by omega) (by decide)]; exact c), if_neg c]
          exact congrArg (fun x => some (x, w)) (h.o.S hp)
theorem m_isPerson {v : Wd} (hP : v.1 42 6 = nI (sP σ)) (hg : good σ) (x : Int32) : (fX10_isPerson v x = 0 ∧ ¬ ∃ p, p < sP σ ∧ x = nI p) ∨ (fX10_isPerson v x = 1 ∧ ∃ p, p < sP σ ∧ x = nI p) := by
  have h8 := hg.P
  unfold fX10_isPerson
  rw [hP]
  rcases pk_ix x (n := sP σ) (by omega) with h | h | ⟨p, hp, rfl⟩
  · rw [if_pos h]
    refine Or.inl ⟨rfl, ?_⟩
    rintro ⟨p, hp, rfl⟩
    exact nI_pos (by omega) h
  · by_cases h0 : x < 0
    · rw [if_pos h0]
      refine Or.inl ⟨rfl, ?_⟩
      rintro ⟨p, hp, rfl⟩
      exact nI_pos (by omega) h0
    · rw [if_neg h0, if_pos h]
      refine Or.inl ⟨rfl, ?_⟩
      rintro ⟨p, hp, rfl⟩
      rw [n_le (by omega) (by omega)] at h
      omega
  · rw [if_neg (nI_pos (by omega)), if_neg (by rw [n_le (by omega) (by omega)]; omega)]
    exact Or.inr ⟨rfl, p, hp, rfl⟩
/-- a person's number, or neither knows one -/
theorem who (h : R w σ) (x : Int32) : (fX2_hasOne 1 w x = 0 ∧ ∀ v : Wd, (∀ i, i ≠ 12 → v.1 i = w.1 i) → fX10_isPerson v x = 0) ∨ (fX2_hasOne 1 w x = 1 ∧ (∀ v : Wd, v.1 42 6 = w.1 42 6 → fX10_isPerson v x = 1) ∧ ∃ p, p < sP σ ∧ x = nI p) := by
  rcases c_hasOne h.c h.g x with ⟨a, b⟩ | ⟨a, b⟩
  · refine Or.inl ⟨a, fun v hv => ?_⟩
    rcases m_isPerson (v := v) (by rw [hv 42 (by decide)]; exact h.o.P) h.g x with ⟨c, _⟩ | ⟨_, d⟩
    · exact c
    · exact absurd d b
  · refine Or.inr ⟨a, fun v hv => ?_, b⟩
    rcases m_isPerson (v := v) (by rw [hv]; exact h.o.P) h.g x with ⟨_, d⟩ | ⟨c, _⟩
    · exact absurd b d
    · exact c
theorem q_beside (h : R w σ) (x : Int32) : Ans (fX9_beside w x) (fun v => fX10_beside v x) := by
  have h8 := h.g.P
  rcases who h x with ⟨a, b⟩ | ⟨a, b, p, hp, rfl⟩
  · exact Ans.nof h 1 (by decide) (by decide) (by unfold fX9_beside; simp only [a, if_pos, rf1, rf2, rf3, rf4, rf6, bd_e, un2_e] <;> rfl) (fun v e => by unfold fX10_beside; simp only [b v e, if_pos, e _ (show (42 : Nat) ≠ 12 by decide), no1, no2, no3, no4, no6, bd_e, un2_e] <;> rfl)
  · refine Ans.eq (r := nI (near (sF σ) (sP σ) p)) h ?_ ?_
    · unfold fX9_beside
      rw [a, if_neg (by decide), c_near h.c h.g hp, bd_e]
    · show fX10_beside _ _ = _
      unfold fX10_beside
      rw [b w rfl, if_neg (by decide), bes_w, h.o.F, h.o.P, bes_t _ h.g.F _ (by omega) _ hp]
theorem q_covers (h : R w σ) (x y : Int32) : Ans (fX9_covers w x y) (fun v => fX10_covers v x y) := by
  have h8 := h.g.P
  rcases who h x with ⟨a, b⟩ | ⟨a, b, p, hp, rfl⟩
  · exact Ans.nof h 1 (by decide) (by decide) (by unfold fX9_covers fX9_covers_j20; simp only [a, if_pos, rf1, rf2, rf3, rf4, rf6, bd_e, un2_e] <;> rfl) (fun v e => by unfold fX10_covers fX10_covers_j24; simp only [b v e, if_pos, e _ (show (42 : Nat) ≠ 12 by decide), no1, no2, no3, no4, no6, bd_e, un2_e] <;> rfl)
  · rcases arg y 25 with hy | hy | ⟨k, hk, rfl⟩
    · exact Ans.nof h 1 (by decide) (by decide) (by unfold fX9_covers fX9_covers_j20 fX9_isOutside; simp only [a, if_pos hy, if_neg (show ¬ (1 : Int32) = 0 by decide), rf1, rf2, rf3, rf4, rf6, bd_e, un2_e] <;> rfl) (fun v e => by unfold fX10_covers fX10_covers_j24 fX10_isPlace; simp only [b v (by rw [e 42 (by decide)]), if_pos hy, if_pos, if_neg (show ¬ (1 : Int32) = 0 by decide), e _ (show (42 : Nat) ≠ 12 by decide), no1, no2, no3, no4, no6, bd_e, un2_e] <;> rfl)
    · have b1 : ¬ y < 0 := ge0 hy (by decide)
      have b2 : ¬ y ≤ 24 := hi_le (m := 24) hy (by decide)
      have b3 : (24 : Int32) < y := hi_lt (m := 24) hy (by decide)
      exact Ans.nof h 1 (by decide) (by decide) (by unfold fX9_covers fX9_covers_j20 fX9_isOutside; simp only [a, if_neg b1, if_neg b2, if_neg (show ¬ (1 : Int32) = 0 by decide), rf1, rf2, rf3, rf4, rf6, bd_e, un2_e] <;> rfl) (fun v e => by unfold fX10_covers fX10_covers_j24 fX10_isPlace; simp only [b v (by rw [e 42 (by decide)]), if_neg b1, if_pos b3, if_pos, if_neg (show ¬ (1 : Int32) = 0 by decide), e _ (show (42 : Nat) ≠ 12 by decide), no1, no2, no3, no4, no6, bd_e, un2_e] <;> rfl)
    · have b1 : ¬ nI k < 0 := nI_pos (by omega)
      have b2 : nI k ≤ 24 := by rw [c24, n_le (by omega) (by decide)]; omega
      have b3 : ¬ (24 : Int32) < nI k := Int32.not_lt.mpr b2
      refine Ans.eq (r := cvI (covN (sF σ) (sP σ) p (sS σ k))) h ?_ ?_
      · unfold fX9_covers fX9_isOutside
        have hS := h.c.S hk
        rw [a, if_neg (by decide), if_neg b1, if_pos b2, if_pos rfl, gdn hk (by decide), n_cl (by omega), show w.1 16 k = nI (sS σ k) from hS, c_coverer h.c h.g hp (h.g.S k), bd_e]
      · show fX10_covers _ _ _ = _
        unfold fX10_covers fX10_isPlace
        rw [b w rfl, if_neg (by decide), if_neg b1, if_neg b3, if_neg (by decide), m_coverer h.o h.g hp hk, bd_e]
theorem q_calm (h : R w σ) (x y : Int32) : Ans (fX9_calm w x y) (fun v => fX10_calm v x y) := by
  by_cases a1 : x < 1
  · exact Ans.nof h 4 (by decide) (by decide) (by unfold fX9_calm fX9_calm_j9; simp only [if_pos a1, rf1, rf2, rf3, rf4, rf6, bd_e, un2_e] <;> rfl) (fun v e => by unfold fX10_calm; simp only [if_pos a1, lt_e, if_neg (show ¬ (-4 : Int32) = 0 by decide), e _ (show (42 : Nat) ≠ 12 by decide), no1, no2, no3, no4, no6, bd_e, un2_e] <;> rfl)
  · rcases arg y 100 with hy | hy | ⟨k, hk, rfl⟩
    · have b1 := lo_ge hy
      exact Ans.nof h 4 (by decide) (by decide) (by unfold fX9_calm fX9_calm_j9; simp only [if_neg a1, if_neg b1, rf1, rf2, rf3, rf4, rf6, bd_e, un2_e] <;> rfl) (fun v e => by unfold fX10_calm; simp only [if_neg a1, if_neg b1, lt_e, if_neg (show ¬ (-4 : Int32) = 0 by decide), e _ (show (42 : Nat) ≠ 12 by decide), no1, no2, no3, no4, no6, bd_e, un2_e] <;> rfl)
    · have b1 := hi_ge hy (by decide)
      have b2 : ¬ y ≤ 99 := hi_le (m := 99) hy (by decide)
      by_cases a2 : 99 < x
      · exact Ans.nof h 6 (by decide) (by decide) (by unfold fX9_calm fX9_calm_j28; simp only [if_neg a1, if_pos b1, if_pos a2, rf1, rf2, rf3, rf4, rf6, bd_e, un2_e] <;> rfl) (fun v e => by unfold fX10_calm; simp only [if_neg a1, if_pos b1, if_pos a2, lt_e, if_neg (show ¬ (-6 : Int32) = 0 by decide), e _ (show (42 : Nat) ≠ 12 by decide), no1, no2, no3, no4, no6, bd_e, un2_e] <;> rfl)
      · exact Ans.nof h 6 (by decide) (by decide) (by unfold fX9_calm fX9_calm_j28; simp only [if_neg a1, if_pos b1, if_neg a2, if_neg b2, rf1, rf2, rf3, rf4, rf6, bd_e, un2_e] <;> rfl) (fun v e => by unfold fX10_calm; simp only [if_neg a1, if_pos b1, if_neg a2, if_neg b2, lt_e, if_neg (show ¬ (-6 : Int32) = 0 by decide), e _ (show (42 : Nat) ≠ 12 by decide), no1, no2, no3, no4, no6, bd_e, un2_e] <;> rfl)
    · have b1 : (0 : Int32) ≤ nI k := nI_pos' (by omega)
      have b2 : nI k ≤ 99 := by rw [c99, n_le (by omega) (by decide)]; omega
      by_cases a2 : 99 < x
      · exact Ans.nof h 6 (by decide) (by decide) (by unfold fX9_calm fX9_calm_j28; simp only [if_neg a1, if_pos b1, if_pos a2, rf1, rf2, rf3, rf4, rf6, bd_e, un2_e] <;> rfl) (fun v e => by unfold fX10_calm; simp only [if_neg a1, if_pos b1, if_pos a2, lt_e, if_neg (show ¬ (-6 : Int32) = 0 by decide), e _ (show (42 : Nat) ≠ 12 by decide), no1, no2, no3, no4, no6, bd_e, un2_e] <;> rfl)
      · rcases arg x 100 with hx | hx | ⟨p, hp, rfl⟩
        · exact absurd (Int32.lt_trans hx (by decide)) a1
        · exact absurd (hi_lt (m := 99) hx (by decide)) a2
        · have ez : (!(((2 : Int32) * nI k) + 1 == 0)) = true := by
            rw [c2, n_mul, nI_1, c0]
            have : ¬ nI (2 * k + 1) = nI 0 := by rw [n_eq (by omega) (by decide)]; omega
            simp [this]
          have en : (nI p + ((2 : Int32) * nI k + 1)) - 1 = nI p + (2 : Int32) * nI k := by
            rw [c2, n_mul, nI_1, n_add, n_add, ← Nat.add_assoc, c1, n_sub (by omega)]
            rfl
          refine Ans.eq (r := (nI p + 2 * nI k) / (2 * nI k + 1)) h ?_ ?_
          · unfold fX9_calm
            rw [if_neg a1, if_pos b1, if_neg a2, if_pos b2, lt_e, gd_t ez, en]
          · show fX10_calm _ _ _ = _
            unfold fX10_calm
            simp only [if_neg a1, if_pos b1, if_neg a2, if_pos b2, lt_e, if_pos, gd_t ez]
theorem q_spreads (h : R w σ) (x y : Int32) : Ans (fX9_spreads w x y) (fun v => fX10_spreads v x y) := by
  by_cases a1 : x < 1
  · exact Ans.nof h 4 (by decide) (by decide) (by unfold fX9_spreads fX9_spreads_j9; simp only [if_pos a1, rf1, rf2, rf3, rf4, rf6, bd_e, un2_e] <;> rfl) (fun v e => by unfold fX10_spreads; simp only [if_pos a1, lt_e, if_neg (show ¬ (-4 : Int32) = 0 by decide), e _ (show (42 : Nat) ≠ 12 by decide), no1, no2, no3, no4, no6, bd_e, un2_e] <;> rfl)
  · rcases arg y 100 with hy | hy | ⟨k, hk, rfl⟩
    · have b1 := lo_ge hy
      exact Ans.nof h 4 (by decide) (by decide) (by unfold fX9_spreads fX9_spreads_j9; simp only [if_neg a1, if_neg b1, rf1, rf2, rf3, rf4, rf6, bd_e, un2_e] <;> rfl) (fun v e => by unfold fX10_spreads; simp only [if_neg a1, if_neg b1, lt_e, if_neg (show ¬ (-4 : Int32) = 0 by decide), e _ (show (42 : Nat) ≠ 12 by decide), no1, no2, no3, no4, no6, bd_e, un2_e] <;> rfl)
    · have b1 := hi_ge hy (by decide)
      have b2 : ¬ y ≤ 99 := hi_le (m := 99) hy (by decide)
      by_cases a2 : 99 < x
      · exact Ans.nof h 6 (by decide) (by decide) (by unfold fX9_spreads fX9_spreads_j28; simp only [if_neg a1, if_pos b1, if_pos a2, rf1, rf2, rf3, rf4, rf6, bd_e, un2_e] <;> rfl) (fun v e => by unfold fX10_spreads; simp only [if_neg a1, if_pos b1, if_pos a2, lt_e, if_neg (show ¬ (-6 : Int32) = 0 by decide), e _ (show (42 : Nat) ≠ 12 by decide), no1, no2, no3, no4, no6, bd_e, un2_e] <;> rfl)
      · exact Ans.nof h 6 (by decide) (by decide) (by unfold fX9_spreads fX9_spreads_j28; simp only [if_neg a1, if_pos b1, if_neg a2, if_neg b2, rf1, rf2, rf3, rf4, rf6, bd_e, un2_e] <;> rfl) (fun v e => by unfold fX10_spreads; simp only [if_neg a1, if_pos b1, if_neg a2, if_neg b2, lt_e, if_neg (show ¬ (-6 : Int32) = 0 by decide), e _ (show (42 : Nat) ≠ 12 by decide), no1, no2, no3, no4, no6, bd_e, un2_e] <;> rfl)
    · have b1 : (0 : Int32) ≤ nI k := nI_pos' (by omega)
      have b2 : nI k ≤ 99 := by rw [c99, n_le (by omega) (by decide)]; omega
      by_cases a2 : 99 < x
      · exact Ans.nof h 6 (by decide) (by decide) (by unfold fX9_spreads fX9_spreads_j28; simp only [if_neg a1, if_pos b1, if_pos a2, rf1, rf2, rf3, rf4, rf6, bd_e, un2_e] <;> rfl) (fun v e => by unfold fX10_spreads; simp only [if_neg a1, if_pos b1, if_pos a2, lt_e, if_neg (show ¬ (-6 : Int32) = 0 by decide), e _ (show (42 : Nat) ≠ 12 by decide), no1, no2, no3, no4, no6, bd_e, un2_e] <;> rfl)
      · by_cases a3 : nI k < x
        · refine Ans.eq (r := jmax (nI k) ((x - 1) - nI k)) h ?_ ?_
          · unfold fX9_spreads
            rw [if_neg a1, if_pos b1, if_neg a2, if_pos b2, if_pos a3]
          · show fX10_spreads _ _ _ = _
            unfold fX10_spreads
            simp only [if_neg a1, if_pos b1, if_neg a2, if_pos b2, lt_e, if_pos, if_pos a3]
            unfold jmax
            by_cases c : nI k < (x - 1) - nI k
            · rw [if_pos c, if_pos (Int32.le_of_lt c)]
            · rw [if_neg c]
              by_cases d : nI k ≤ (x - 1) - nI k
              · rw [if_pos d, Int32.le_antisymm (Int32.not_lt.mp c) d]
              · rw [if_neg d]
        · exact Ans.nof h 1 (by decide) (by decide) (by unfold fX9_spreads; simp only [if_neg a1, if_pos b1, if_neg a2, if_pos b2, if_neg a3, rf1, rf2, rf3, rf4, rf6, bd_e, un2_e] <;> rfl) (fun v e => by unfold fX10_spreads; simp only [if_neg a1, if_pos b1, if_neg a2, if_pos b2, if_neg a3, lt_e, if_neg (show ¬ (-1 : Int32) = 0 by decide), e _ (show (42 : Nat) ≠ 12 by decide), no1, no2, no3, no4, no6, bd_e, un2_e] <;> rfl)
end

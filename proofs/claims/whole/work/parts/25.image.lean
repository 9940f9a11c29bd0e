/-! blows, set, image, restore, lit, count -/
section
variable {w w1 w2 : Wd} {σ τ : St} {b : Nat}
/-- people or wind have changed, or the past; the rest stands -/
theorem R.mk2 (h : R w σ) (g : good τ) (m : sM τ ≤ 999) (c : CoIs w2 1 τ) (o : MoIs w2 τ) (pa : PastR w2 τ) (e : ∀ i, (i == 0 || i == 2 || i == 17 || i == 18 || i == 19 || i == 20 || i == 6 || i == 7 || i == 12 || i == 33 || i == 34 || i == 43 || i == 49 || i == 67) = true → w2.1 i = w.1 i) (e42 : ∀ f, (f == 14 || f == 18 || f == 41) = true → w2.1 42 f = w.1 42 f) (kk : KK 1 w w2) : R w2 τ := by
  refine ⟨g, m, c, o, ?_, ?_, pa, ?_, ?_⟩
  · unfold LettersR
    rw [e 6 rfl, e42 14 rfl, e 33 rfl, e 49 rfl]
    exact h.le
  · unfold RowR
    rw [e 7 rfl, e42 41 rfl, e 34 rfl, e 67 rfl]
    exact h.ro
  · obtain ⟨p1, p2⟩ := h.pi
    unfold PicR
    rw [e42 18 rfl, e 0 rfl]
    refine ⟨p1, ?_⟩
    rcases p2 with p2 | ⟨p2, υ, p3, p4, p5, p6⟩
    · exact Or.inl p2
    · exact Or.inr ⟨p2, υ, p3, p4, p5.eq (e 2 rfl) (e 17 rfl) (e 18 rfl) (e 19 rfl) (e 20 rfl), p6.kk kk (by decide)⟩
  · unfold RefR
    rw [e 43 rfl, e 12 rfl]
    exact h.re
theorem q_blows (h : R w σ) (x y z : Int32) : Ans (fX9_blows w x y z) (fun v => fX10_blows v x y z) := by
  rcases arg x 25 with hx | hx | ⟨p, hp, rfl⟩
  · exact Ans.nof h 1 (by decide) (by decide) (by unfold fX9_blows fX9_isOutside; simp only [if_pos hx, if_neg (show ¬ (1 : Int32) = 0 by decide), rf1, rf2, rf3, rf4, rf6, bd_e, un2_e] <;> rfl) (fun v e => by unfold fX10_blows fX10_isPlace; simp only [if_pos hx, if_pos, lt_e, if_neg (show ¬ (-1 : Int32) = 0 by decide), e _ (show (42 : Nat) ≠ 12 by decide), no1, no2, no3, no4, no6, bd_e, un2_e] <;> rfl)
  · have a1 : ¬ x < 0 := ge0 hx (by decide)
    have a2 : ¬ x ≤ 24 := hi_le (m := 24) hx (by decide)
    have a3 : (24 : Int32) < x := hi_lt (m := 24) hx (by decide)
    exact Ans.nof h 1 (by decide) (by decide) (by unfold fX9_blows fX9_isOutside; simp only [if_neg a1, if_neg a2, if_neg (show ¬ (1 : Int32) = 0 by decide), rf1, rf2, rf3, rf4, rf6, bd_e, un2_e] <;> rfl) (fun v e => by unfold fX10_blows fX10_isPlace; simp only [if_neg a1, if_pos a3, if_pos, lt_e, if_neg (show ¬ (-1 : Int32) = 0 by decide), e _ (show (42 : Nat) ≠ 12 by decide), no1, no2, no3, no4, no6, bd_e, un2_e] <;> rfl)
  · have a1 : ¬ nI p < 0 := nI_pos (by omega)
    have a2 : nI p ≤ 24 := by rw [c24, n_le (by omega) (by decide)]; omega
    have a3 : ¬ (24 : Int32) < nI p := Int32.not_lt.mpr a2
    by_cases y0 : y < 0
    · exact Ans.nof h 4 (by decide) (by decide) (by unfold fX9_blows fX9_blows_j23 fX9_isOutside; simp only [if_neg a1, if_pos a2, if_pos, if_pos y0, if_neg (show ¬ (1 : Int32) = 0 by decide), rf1, rf2, rf3, rf4, rf6, bd_e, un2_e] <;> rfl) (fun v e => by unfold fX10_blows fX10_isPlace; simp only [if_neg a1, if_neg a3, if_pos y0, lt_e, if_neg (show ¬ (1 : Int32) = 0 by decide), if_neg (show ¬ (-4 : Int32) = 0 by decide), e _ (show (42 : Nat) ≠ 12 by decide), no1, no2, no3, no4, no6, bd_e, un2_e] <;> rfl)
    · by_cases z0 : 0 ≤ z
      · by_cases y9 : 9 < y
        · exact Ans.nof h 6 (by decide) (by decide) (by unfold fX9_blows fX9_blows_j41 fX9_isOutside; simp only [if_neg a1, if_pos a2, if_pos, if_neg y0, if_pos z0, if_pos y9, if_neg (show ¬ (1 : Int32) = 0 by decide), rf1, rf2, rf3, rf4, rf6, bd_e, un2_e] <;> rfl) (fun v e => by unfold fX10_blows fX10_isPlace; simp only [if_neg a1, if_neg a3, if_neg y0, if_pos z0, if_pos y9, lt_e, if_neg (show ¬ (1 : Int32) = 0 by decide), if_neg (show ¬ (-6 : Int32) = 0 by decide), e _ (show (42 : Nat) ≠ 12 by decide), no1, no2, no3, no4, no6, bd_e, un2_e] <;> rfl)
        · by_cases z2 : z ≤ 2
          · rcases arg y 10 with hy | hy | ⟨f, hf, rfl⟩
            · exact absurd hy y0
            · exact absurd (hi_lt (m := 9) hy (by decide)) y9
            · rcases arg z 3 with hz | hz | ⟨s, hs, rfl⟩
              · exact absurd hz (Int32.not_lt.mpr z0)
              · exact absurd z2 (hi_le (m := 2) hz (by decide))
              · have e9 : fX9_blows w (nI p) (nI f) (nI s) = some (nI (10 * sW σ p + sS σ p), upI (upI (upI w 15 p (nI f)) 16 p (nI s)) 5 0 0) := by
                  unfold fX9_blows fX9_isOutside fX5_forget
                  rw [if_neg a1, if_pos a2, if_pos rfl, if_neg y0, if_pos z0, if_neg y9, if_pos z2, gdn hp (by decide), n_cl (by omega), show w.1 15 p = nI (sW σ p) from h.c.W hp, show w.1 16 p = nI (sS σ p) from h.c.S hp, c10m, lt_e, lt_e, lt_e, lt_e, lt_e]
                have e10 : ∀ v, v.1 47 p = nI (sW σ p) → v.1 48 p = nI (sS σ p) → fX10_blows v (nI p) (nI f) (nI s) = some (nI (10 * sW σ p + sS σ p), upI (upI (upI v 47 p (nI f)) 48 p (nI s)) 42 27 0) := fun v h1 h2 => by
                  unfold fX10_blows fX10_isPlace
                  rw [if_neg a1, if_neg a3, if_neg (by decide), if_neg y0, if_pos z0, if_neg y9, if_pos z2, lt_e, if_pos rfl, gdn hp (by decide), n_cl (by omega), h1, h2, c10m, lt_e, lt_e, lt_e, lt_e]
                refine ⟨_, _, _, wrS (wrW σ p f) p s, e9, e10 _ (h.o.W hp) (h.o.S hp), ?_⟩
                refine h.mk2 (good.wS (h.g.wW hf) hs) h.m ?_ ?_ (Past0 rfl rfl) ?_ ?_ ?_
                · exact (CoIs.wrS (σ := wrW σ p f) (h.c.wrW co1 p f) co1 p s)
                · exact MoIs.wS (σ := wrW σ p f) (h.o.wW p f) p s
                · intro i hi
                  simp only [Bool.or_eq_true, beq_iff_eq] at hi
                  rw [upI_o _ _ _ _ (by omega), upI_o _ _ _ _ (by omega), upI_o _ _ _ _ (by omega), upI_o _ _ _ _ (by omega), upI_o _ _ _ _ (by omega), upI_o _ _ _ _ (by omega)]
                · intro i hi
                  simp only [Bool.or_eq_true, beq_iff_eq] at hi
                  rw [upI_k _ _ _ _ (by omega), upI_o _ _ _ _ (by decide), upI_o _ _ _ _ (by decide), upI_o _ _ _ _ (by decide), upI_o _ _ _ _ (by decide), upI_o _ _ _ _ (by decide)]
                · intro q _; rfl
          · exact Ans.nof h 6 (by decide) (by decide) (by unfold fX9_blows fX9_blows_j41 fX9_isOutside; simp only [if_neg a1, if_pos a2, if_pos, if_neg y0, if_pos z0, if_neg y9, if_neg z2, if_neg (show ¬ (1 : Int32) = 0 by decide), rf1, rf2, rf3, rf4, rf6, bd_e, un2_e] <;> rfl) (fun v e => by unfold fX10_blows fX10_isPlace; simp only [if_neg a1, if_neg a3, if_neg y0, if_pos z0, if_neg y9, if_neg z2, lt_e, if_neg (show ¬ (1 : Int32) = 0 by decide), if_neg (show ¬ (-6 : Int32) = 0 by decide), e _ (show (42 : Nat) ≠ 12 by decide), no1, no2, no3, no4, no6, bd_e, un2_e] <;> rfl)
      · exact Ans.nof h 4 (by decide) (by decide) (by unfold fX9_blows fX9_blows_j23 fX9_isOutside; simp only [if_neg a1, if_pos a2, if_pos, if_neg y0, if_neg z0, if_neg (show ¬ (1 : Int32) = 0 by decide), rf1, rf2, rf3, rf4, rf6, bd_e, un2_e] <;> rfl) (fun v e => by unfold fX10_blows fX10_isPlace; simp only [if_neg a1, if_neg a3, if_neg y0, if_neg z0, lt_e, if_neg (show ¬ (1 : Int32) = 0 by decide), if_neg (show ¬ (-4 : Int32) = 0 by decide), e _ (show (42 : Nat) ≠ 12 by decide), no1, no2, no3, no4, no6, bd_e, un2_e] <;> rfl)
theorem good.F2 (hg : good σ) {v : Nat} (hv : v < 3) : good (wr σ 2 v) := by
  obtain ⟨a1, a2, a3, a4, a5, a6, a7, a8, a9, a10, a11, a12⟩ := hg
  exact ⟨a1, a2, a3, hv, a5, a6, a7, a8, a9, a10, a11, a12⟩
theorem good.E2 (hg : good σ) {v : Nat} (hv : 1 ≤ v ∧ v ≤ 2) : good (wr σ 3 v) := by
  obtain ⟨a1, a2, a3, a4, a5, a6, a7, a8, a9, a10, a11, a12⟩ := hg
  exact ⟨a1, a2, a3, a4, hv, a6, a7, a8, a9, a10, a11, a12⟩
theorem good.D2 (hg : good σ) {v : Nat} (hv : 1 ≤ v ∧ v ≤ 24) (ha : sA σ ≤ v) : good (wr σ 4 v) := by
  obtain ⟨a1, a2, a3, a4, a5, a6, a7, a8, a9, a10, a11, a12⟩ := hg
  exact ⟨a1, a2, a3, a4, a5, hv, ha, a8, a9, a10, a11, a12⟩
/-- the setting k is v -/
theorem set_do (h : R w σ) {k v : Nat} (hk : k < 3) (hg : good (wr σ (k + 2) v)) (e9 : fX9_set w (nI k) (nI v) = fX9_set_j68 (nI k) (nI v) w) (e10 : ∀ u : Wd, u.1 42 8 = w.1 42 8 → fX10_set u (nI k) (nI v) = fX10_set_j59 (nI k) (nI v) u 0) : Ans (fX9_set w (nI k) (nI v)) (fun u => fX10_set u (nI k) (nI v)) := by
  have f9 : fX9_set_j68 (nI k) (nI v) w = some (nI (σ.1 (k + 2)), upI (upI w 5 0 0) 1 (k + 2) (nI v)) := by
    unfold fX9_set_j68 fX5_forget fX9_change
    rw [lt_e, lt_e]
    rcases (by omega : k = 0 ∨ k = 1 ∨ k = 2) with rfl | rfl | rfl
    · rw [if_pos (show nI 0 = 0 from rfl), lt_e, lt_e, un2_e]
      exact congrArg (fun x => some (x, _)) h.c.Fm
    · rw [if_neg (by decide), if_pos (show nI 1 = 1 from rfl), lt_e, lt_e, un2_e]
      exact congrArg (fun x => some (x, _)) h.c.Ea
    · rw [if_neg (by decide), if_neg (by decide), lt_e, lt_e, un2_e]
      exact congrArg (fun x => some (x, _)) h.c.Do
  have f10 : ∀ u : Wd, u.1 44 = w.1 44 → fX10_set_j59 (nI k) (nI v) u 0 = some (nI (σ.1 (k + 2)), upI (upI u 44 k (nI v)) 42 27 0) := fun u hu => by
    unfold fX10_set_j59
    rw [if_pos rfl, gdn hk (by decide), n_cl (by omega), lt_e, lt_e, lt_e, hu]
    rcases (by omega : k = 0 ∨ k = 1 ∨ k = 2) with rfl | rfl | rfl
    · exact congrArg (fun x => some (x, _)) h.o.F
    · exact congrArg (fun x => some (x, _)) h.o.E
    · exact congrArg (fun x => some (x, _)) h.o.D
  refine ⟨_, _, _, wr σ (k + 2) v, e9.trans f9, (e10 _ ?_).trans (f10 _ ?_), h.mk2 hg ?_ ?_ ?_ (Past0 ?_ rfl) ?_ ?_ ?_⟩
  · rw [upI_o _ _ _ _ (by decide), upI_o _ _ _ _ (by decide)]
  · rw [upI_o _ _ _ _ (by decide), upI_o _ _ _ _ (by decide)]
  · have : sM (wr σ (k + 2) v) = sM σ := by
      show (if 6 = k + 2 then v else σ.1 6) = _
      rw [if_neg (by omega)]
    rw [this]; exact h.m
  · exact CoIs.wr (w := upI w 5 0 0) (b := 1) (σ := σ) h.c co1 (k + 2) v
  · rcases (by omega : k = 0 ∨ k = 1 ∨ k = 2) with rfl | rfl | rfl
    · exact h.o.wF v
    · exact h.o.wE v
    · exact h.o.wD v
  · rw [upI_o _ _ _ _ (by decide), upI_o _ _ _ _ (by decide), upI_o _ _ _ _ (by decide)]; exact upI_s _ _ _ _
  · intro i hi
    simp only [Bool.or_eq_true, beq_iff_eq] at hi
    rw [upI_o _ _ _ _ (by omega), upI_o _ _ _ _ (by omega), upI_o _ _ _ _ (by omega), upI_o _ _ _ _ (by omega)]
  · intro i hi
    simp only [Bool.or_eq_true, beq_iff_eq] at hi
    rw [upI_k _ _ _ _ (by omega), upI_o _ _ _ _ (by decide), upI_o _ _ _ _ (by decide), upI_o _ _ _ _ (by decide)]
  · intro q _; rfl
end

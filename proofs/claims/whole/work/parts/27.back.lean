/-! image, restore, lit, count -/
section
variable {w w1 w2 : Wd} {σ τ : St} {b : Nat}
theorem R.mk3 (h : R w σ) (g : good τ) (m : sM τ ≤ 999) (c : CoIs w2 1 τ) (o : MoIs w2 τ) (pa : PastR w2 τ) (pi : PicR w2) (e : ∀ i, (i == 6 || i == 7 || i == 12 || i == 33 || i == 34 || i == 43 || i == 49 || i == 67) = true → w2.1 i = w.1 i) (e42 : ∀ f, (f == 14 || f == 41) = true → w2.1 42 f = w.1 42 f) : R w2 τ := by
  refine ⟨g, m, c, o, ?_, ?_, pa, pi, ?_⟩
  · unfold LettersR
    rw [e 6 rfl, e42 14 rfl, e 33 rfl, e 49 rfl]
    exact h.le
  · unfold RowR
    rw [e 7 rfl, e42 41 rfl, e 34 rfl, e 67 rfl]
    exact h.ro
  · unfold RefR
    rw [e 43 rfl, e 12 rfl]
    exact h.re
theorem q_image (h : R w σ) : ∃ r w1 w2, fX9_image w = (r, w1) ∧ fX10_image w1 = some (r, w2) ∧ R w2 σ := by
  have fr : Agree (pU (pX2_takeFrom 2)) w (fX2_takeFrom 2 1 w) := rX2_takeFrom rfl
  have f1 : ∀ i, (i != 2 && i != 17 && i != 18 && i != 19 && i != 20) = true → (fX2_takeFrom 2 1 w).1 i = w.1 i := fun i hi => (fr.cell i (by
    rw [List.all_eq_true]
    intro q hq
    have : q.1 = 2 ∨ q.1 = 17 ∨ q.1 = 18 ∨ q.1 = 19 ∨ q.1 = 20 := (by decide : ∀ q, q ∈ pX2_takeFrom 2 → q.1 = 2 ∨ q.1 = 17 ∨ q.1 = 18 ∨ q.1 = 19 ∨ q.1 = 20) q hq
    simp only [Bool.and_eq_true, bne_iff_ne, ne_eq] at hi ⊢
    omega)).1
  have hC2 : CoIs (fX2_takeFrom 2 1 w) 2 σ := c_take co2 co1 (by decide) h.c
  have hM : MoIs (upI (upI (fX2_takeFrom 2 1 w) 0 2 1) 42 18 1) σ := h.o
  obtain ⟨v, a1, a2, a3, a4, a5, a6, a7⟩ := m_save hM (show 0 < 3 by decide)
  have e9 : fX9_image w = (nI (sA σ), upI (fX2_takeFrom 2 1 w) 0 2 1) := by
    unfold fX9_image
    rw [lt_e, lt_e]
    exact congrArg (·, _) h.c.Pl
  have e10 : fX10_image (upI (fX2_takeFrom 2 1 w) 0 2 1) = some (nI (sA σ), v) := by
    unfold fX10_image
    rw [lt_e, show (0 : Int32) = nI 0 from rfl, a1, bd_e, a2.A]
  have k1 : ∀ i, i ≠ 42 → i ≠ 53 → i ≠ 0 → (i != 2 && i != 17 && i != 18 && i != 19 && i != 20) = true → v.1 i = w.1 i := fun i h1 h2 h3 h4 => by
    rw [a5 i h1 h2, upI_o _ _ _ _ h1, upI_o _ _ _ _ h3, f1 i h4]
  have k2 : ∀ f, f ≠ 18 → f ≠ 19 → f ≠ 20 → v.1 42 f = w.1 42 f := fun f h1 h2 h3 => by
    rw [a6 f h2 h3, upI_k _ _ _ _ h1, upI_o _ _ _ _ (by decide), f1 42 (by decide)]
  refine ⟨_, _, _, e9, e10, h.mk3 h.g h.m ?_ a2 ?_ ⟨?_, Or.inr ⟨?_, σ, h.g, h.m, ?_, a3⟩⟩ ?_ ?_⟩
  · exact h.c.eq (k1 1 (by decide) (by decide) (by decide) (by decide)) (k1 13 (by decide) (by decide) (by decide) (by decide)) (k1 14 (by decide) (by decide) (by decide) (by decide)) (k1 15 (by decide) (by decide) (by decide) (by decide)) (k1 16 (by decide) (by decide) (by decide) (by decide))
  · unfold PastR
    rw [k1 5 (by decide) (by decide) (by decide) (by decide), k2 27 (by decide) (by decide) (by decide), k1 30 (by decide) (by decide) (by decide) (by decide), k1 31 (by decide) (by decide) (by decide) (by decide), k1 32 (by decide) (by decide) (by decide) (by decide), k1 56 (by decide) (by decide) (by decide) (by decide), k1 57 (by decide) (by decide) (by decide) (by decide), k1 58 (by decide) (by decide) (by decide) (by decide)]
    exact h.pa
  · rw [a6 18 (by decide) (by decide), a5 0 (by decide) (by decide)]; rfl
  · rw [a5 0 (by decide) (by decide)]; rfl
  · refine CoIs.eq (w := fX2_takeFrom 2 1 w) hC2 ?_ ?_ ?_ ?_ ?_
    all_goals rw [a5 _ (by decide) (by decide), upI_o _ _ _ _ (by decide), upI_o _ _ _ _ (by decide)]
  · intro i hi
    simp only [Bool.or_eq_true, beq_iff_eq] at hi
    exact k1 i (by omega) (by omega) (by omega) (by simp only [Bool.and_eq_true, bne_iff_ne, ne_eq]; omega)
  · intro i hi
    simp only [Bool.or_eq_true, beq_iff_eq] at hi
    exact k2 i (by omega) (by omega) (by omega)
theorem q_restore (h : R w σ) : Ans (fX9_restore w) (fun v => fX10_restore v) := by
  obtain ⟨p1, p2⟩ := h.pi
  rcases p2 with p2 | ⟨p2, τ, p3, p4, p5, p6⟩
  · exact Ans.nof h 3 (by decide) (by decide) (by unfold fX9_restore; simp only [p2, if_pos, rf1, rf2, rf3, rf4, rf6, bd_e, un2_e] <;> rfl) (fun v e => by unfold fX10_restore; simp only [p1, p2, if_pos, e _ (show (42 : Nat) ≠ 12 by decide), no1, no2, no3, no4, no6, bd_e, un2_e] <;> rfl)
  · have fr : Agree (pU (pX2_takeFrom 1)) w (fX2_takeFrom 1 2 w) := rX2_takeFrom rfl
    have f1 : ∀ i, (i != 1 && i != 13 && i != 14 && i != 15 && i != 16) = true → (fX2_takeFrom 1 2 w).1 i = w.1 i := fun i hi => (fr.cell i (by
      rw [List.all_eq_true]
      intro q hq
      have : q.1 = 1 ∨ q.1 = 13 ∨ q.1 = 14 ∨ q.1 = 15 ∨ q.1 = 16 := (by decide : ∀ q, q ∈ pX2_takeFrom 1 → q.1 = 1 ∨ q.1 = 13 ∨ q.1 = 14 ∨ q.1 = 15 ∨ q.1 = 16) q hq
      simp only [Bool.and_eq_true, bne_iff_ne, ne_eq] at hi ⊢
      omega)).1
    have hC : CoIs (fX2_takeFrom 1 2 w) 1 τ := c_take co1 co2 (by decide) p5
    have e9 : fX9_restore w = some (nI (sA τ), upI (fX2_takeFrom 1 2 w) 5 0 0) := by
      unfold fX9_restore fX5_forget
      rw [p2, if_neg (by decide), lt_e, lt_e, lt_e]
      exact congrArg (fun x => some (x, _)) hC.Pl
    have hK : Kept (upI (fX2_takeFrom 1 2 w) 5 0 0) 0 τ := p6
    obtain ⟨v, a1, a2, a3, a4, a5⟩ := m_rest hK (show 0 < 3 by decide)
    have e10 : fX10_restore (upI (fX2_takeFrom 1 2 w) 5 0 0) = some (nI (sA τ), upI v 42 27 0) := by
      unfold fX10_restore
      have e18 : (upI (fX2_takeFrom 1 2 w) 5 0 0).1 42 18 = 1 := p1.trans p2
      have a1' : fX10_passesAll (upI (fX2_takeFrom 1 2 w) 5 0 0) 0 0 = some v := a1
      rw [e18, if_neg (by decide), a1', bd_e, lt_e]
      exact congrArg (fun x => some (x, _)) a2.A
    have k1 : ∀ i, (i < 42 ∨ i = 43 ∨ 48 < i) → i ≠ 5 → (i != 1 && i != 13 && i != 14 && i != 15 && i != 16) = true → (upI v 42 27 0).1 i = w.1 i := fun i h1 h2 h3 => by
      rw [upI_o _ _ _ _ (by omega), a3 i h1, upI_o _ _ _ _ h2, f1 i h3]
    have k2 : ∀ f, 10 ≤ f → f ≠ 27 → f ≠ 19 → f ≠ 20 → (upI v 42 27 0).1 42 f = w.1 42 f := fun f h0 h1 h2 h3 => by
      rw [upI_k _ _ _ _ h1, a4 f h0 h2 h3, upI_o _ _ _ _ (by decide), f1 42 (by decide)]
    refine ⟨_, _, _, τ, e9, e10, h.mk3 p3 p4 ?_ ⟨a2.1, a2.2.1, a2.2.2⟩ (Past0 ?_ (upI_s _ _ _ _)) ⟨?_, Or.inr ⟨?_, τ, p3, p4, ?_, ?_⟩⟩ ?_ ?_⟩
    · refine CoIs.eq (w := fX2_takeFrom 1 2 w) hC ?_ ?_ ?_ ?_ ?_
      all_goals rw [upI_o _ _ _ _ (by decide), a3 _ (by decide), upI_o _ _ _ _ (by decide)]
    · rw [upI_o _ _ _ _ (by decide), a3 5 (by decide)]; exact upI_s _ _ _ _
    · rw [k2 18 (by decide) (by decide) (by decide) (by decide), k1 0 (by decide) (by decide) (by decide)]; exact p1
    · rw [k1 0 (by decide) (by decide) (by decide)]; exact p2
    · exact p5.eq (k1 2 (by decide) (by decide) (by decide)) (k1 17 (by decide) (by decide) (by decide)) (k1 18 (by decide) (by decide) (by decide)) (k1 19 (by decide) (by decide) (by decide)) (k1 20 (by decide) (by decide) (by decide))
    · exact p6.keep fun q _ _ => congrFun (k1 53 (by decide) (by decide) (by decide)) q
    · intro i hi
      simp only [Bool.or_eq_true, beq_iff_eq] at hi
      exact k1 i (by omega) (by omega) (by simp only [Bool.and_eq_true, bne_iff_ne, ne_eq]; omega)
    · intro i hi
      simp only [Bool.or_eq_true, beq_iff_eq] at hi
      exact k2 i (by omega) (by omega) (by omega) (by omega)
theorem q_lit (h : R w σ) : fX9_lit w = fX10_lit w := h.c.L.trans h.o.L.symm
theorem q_count (h : R w σ) (x : Int32) : ∃ r, fX9_count w x = some r ∧ fX10_count w x = some r := by
  have h8 := h.g.P
  have hL := lt256 h.g.L h8
  have hlow : ∀ n : Nat, n ≤ 16 → x ≠ nI n → x ≠ nI n := fun _ _ h => h
  by_cases hm : (11 : Int32) ≤ x ∧ x ≤ 16
  · obtain ⟨m1, m2⟩ := hm
    rcases arg x 17 with hx | hx | ⟨p, hp, rfl⟩
    · exact absurd (Int32.lt_of_lt_of_le hx (show (0 : Int32) ≤ 11 by decide)) (Int32.not_lt.mpr m1)
    · exact absurd m2 (hi_le (m := 16) hx (by decide))
    · have hp1 : 11 ≤ p := by rw [show (11 : Int32) = nI 11 from rfl, n_le (by decide) (by omega)] at m1; exact m1
      have es : nI p - 10 = nI (p - 10) := by rw [c10, n_sub (by omega)]
      refine ⟨w.1 12 (p - 10), ?_, ?_⟩
      · unfold fX9_count
        rw [if_neg (Int32.not_lt.mpr m1), if_neg (Int32.not_lt.mpr m2), es, gdn (by omega) (by decide), n_cl (by omega)]
      · unfold fX10_count fX10_isIn
        rw [if_neg (Int32.not_lt.mpr m1), if_neg (Int32.not_lt.mpr m2), if_neg (by decide), es, gdn (by omega) (by decide), n_cl (by omega), h.re _ (by omega)]
  · have e9 : fX9_count w x = fX9_count_j22 x w := by
      unfold fX9_count
      by_cases c : x < 11
      · rw [if_pos c]
      · rw [if_neg c, if_pos (Int32.not_le.mp fun d => hm ⟨Int32.not_lt.mp c, d⟩)]
    have e10 : fX10_isIn x 11 16 = 0 := by
      unfold fX10_isIn
      by_cases c : x < 11
      · rw [if_pos c]
      · rw [if_neg c, if_pos (Int32.not_le.mp fun d => hm ⟨Int32.not_lt.mp c, d⟩)]
    rw [e9]
    unfold fX9_count_j22 fX10_count
    rw [e10, if_pos rfl]
    by_cases d0 : x = 0
    · rw [if_pos d0, if_pos d0]; exact ⟨_, rfl, congrArg some (h.o.P.trans h.c.P.symm)⟩
    rw [if_neg d0, if_neg d0]
    by_cases d1 : x = 1
    · rw [if_pos d1, if_pos d1, h.c.L, h.o.L, pop_c _ hL, pop_m _ hL, bd_e]; exact ⟨_, rfl, rfl⟩
    rw [if_neg d1, if_neg d1]
    by_cases d2 : x = 2
    · rw [if_pos d2, if_pos d2]; exact ⟨_, rfl, congrArg some (h.o.A.trans h.c.Pl.symm)⟩
    rw [if_neg d2, if_neg d2]
    by_cases d3 : x = 3
    · rw [if_pos d3, if_pos d3]; exact ⟨_, rfl, congrArg some (h.o.M.trans h.c.Mi.symm)⟩
    rw [if_neg d3, if_neg d3]
    by_cases d4 : x = 4
    · rw [if_pos d4, if_pos d4, d4]; exact ⟨_, rfl, congrArg some (h.o.F.trans h.c.Fm.symm)⟩
    rw [if_neg d4, if_neg d4]
    by_cases d5 : x = 5
    · rw [if_pos d5, if_pos d5, d5]; exact ⟨_, rfl, congrArg some (h.o.E.trans h.c.Ea.symm)⟩
    rw [if_neg d5, if_neg d5]
    by_cases d6 : x = 6
    · rw [if_pos d6, if_pos d6, d6]; exact ⟨_, rfl, congrArg some (h.o.D.trans h.c.Do.symm)⟩
    rw [if_neg d6, if_neg d6]
    by_cases d7 : x = 7
    · obtain ⟨n, _, e1, e2, _⟩ := h.le
      rw [if_pos d7, if_pos d7]; exact ⟨_, rfl, congrArg some (e2.trans e1.symm)⟩
    rw [if_neg d7, if_neg d7]
    by_cases d8 : x = 8
    · obtain ⟨n, _, e1, e2, _⟩ := h.ro
      rw [if_pos d8, if_pos d8]; exact ⟨_, rfl, congrArg some (e2.trans e1.symm)⟩
    rw [if_neg d8, if_neg d8]
    by_cases d9 : x = 9
    · rw [if_pos d9, if_pos d9, h.c.L, h.o.L, c_light h.c h.g (by omega), m_lightOf h.o h.g (by omega), bd_e]; exact ⟨_, rfl, rfl⟩
    rw [if_neg d9, if_neg d9]
    by_cases d10 : x = 10
    · obtain ⟨n, _, e1, e2, _⟩ := h.pa
      rw [if_pos d10, if_pos d10]; exact ⟨_, rfl, congrArg some (e2.trans e1.symm)⟩
    rw [if_neg d10, if_neg d10]
    exact ⟨_, rfl, rfl⟩
end

/-! kind, blows, set, image, restore, lit, count -/
section
variable {w w1 : Wd} {σ : St} {b : Nat}
theorem c_become (hb : isCo b) (hC : CoIs w b σ) {p k : Nat} (hp : p < 8) (hk : k < 7) : ∃ w1, fX2_become b w (nI p) (nI k) = some w1 ∧ CoIs w1 b (if k = 6 then wr (wrK σ p k) 1 (nd (sL σ) (2 ^ p)) else wrK σ p k) := by
  have h1 := hC.wrK hb p k
  have hL : (upI w (9 + 4 * b) p (nI k)).1 b 1 = nI (sL σ) := h1.L
  unfold fX2_become
  rw [gdn hp (by decide), n_cl (by omega), lt_e]
  by_cases c : k = 6
  · rw [if_pos (by rw [c]; rfl), lt_e, if_pos c]
    refine ⟨_, rfl, ?_⟩
    rw [show (0 : Int32) = nI 0 from rfl, putLit_t hL (by omega) (by decide)]
    exact h1.wr hb 1 _
  · rw [if_neg (by rw [c6, n_eq (by omega) (by decide)]; exact c), if_neg c]
    exact ⟨_, rfl, h1⟩
theorem m_becomes (hM : MoIs w σ) {p k : Nat} (hp : p < 8) (hk : k < 7) : ∃ w1, fX10_becomes w (nI p) (nI k) = some w1 ∧ MoIs w1 (if k = 6 then wr (wrK σ p k) 1 (nd (sL σ) (2 ^ p)) else wrK σ p k) := by
  have h1 := hM.wK p k
  have hL : (upI w 45 p (nI k)).1 42 7 = nI (sL σ) := h1.L
  unfold fX10_becomes
  rw [gdn hp (by decide), n_cl (by omega), lt_e]
  by_cases c : k = 6
  · rw [if_pos (by rw [c]; rfl), hL, sh_p p (by omega), n_nd, lt_e, if_pos c]
    exact ⟨_, rfl, h1.wL _⟩
  · rw [if_neg (by rw [c6, n_eq (by omega) (by decide)]; exact c), if_neg c]
    exact ⟨_, rfl, h1⟩
/-- p becomes of kind k -/
def bec (σ : St) (p k : Nat) : St := if k = 6 then wr (wrK σ p k) 1 (nd (sL σ) (2 ^ p)) else wrK σ p k
theorem good_bec (hg : good σ) {p k : Nat} (hk : k < 7) : good (bec σ p k) := by
  obtain ⟨a1, a2, a3, a4, a5, a6, a7, a8, a9, a10, a11, a12⟩ := hg
  unfold bec
  by_cases c : k = 6
  · rw [if_pos c]
    refine ⟨a1, nd_lt a2, fun q hq => ?_, a4, a5, a6, a7, a8, fun j => ?_, a10, a11, a12⟩
    · have hq2 : (nd (sL σ) (2 ^ p)).testBit q = true := hq
      rw [nd_bit, Nat.testBit_two_pow] at hq2
      simp only [Bool.and_eq_true, Bool.not_eq_true', decide_eq_false_iff_not] at hq2
      show (if q = p then k else sK σ q) ≠ 6
      rw [if_neg (fun h => hq2.2 h.symm)]
      exact a3 q hq2.1
    · show (if j = p then k else sK σ j) < 7
      split
      · omega
      · exact a9 j
  · rw [if_neg c]
    refine ⟨a1, a2, fun q hq => ?_, a4, a5, a6, a7, a8, fun j => ?_, a10, a11, a12⟩
    · show (if q = p then k else sK σ q) ≠ 6
      split
      · exact c
      · exact a3 q hq
    · show (if j = p then k else sK σ j) < 7
      split
      · omega
      · exact a9 j
theorem good.wG (hg : good σ) {p v : Nat} (hv : v < 10) : good (wrG σ p v) := by
  obtain ⟨a1, a2, a3, a4, a5, a6, a7, a8, a9, a10, a11, a12⟩ := hg
  refine ⟨a1, a2, a3, a4, a5, a6, a7, a8, a9, fun j => ?_, a11, a12⟩
  show (if j = p then v else sG σ j) < 10
  split
  · exact hv
  · exact a10 j
theorem good.wW (hg : good σ) {p v : Nat} (hv : v < 10) : good (wrW σ p v) := by
  obtain ⟨a1, a2, a3, a4, a5, a6, a7, a8, a9, a10, a11, a12⟩ := hg
  refine ⟨a1, a2, a3, a4, a5, a6, a7, a8, a9, a10, fun j => ?_, a12⟩
  show (if j = p then v else sW σ j) < 10
  split
  · exact hv
  · exact a11 j
theorem good.wS (hg : good σ) {p v : Nat} (hv : v < 3) : good (wrS σ p v) := by
  obtain ⟨a1, a2, a3, a4, a5, a6, a7, a8, a9, a10, a11, a12⟩ := hg
  refine ⟨a1, a2, a3, a4, a5, a6, a7, a8, a9, a10, a11, fun j => ?_⟩
  show (if j = p then v else sS σ j) < 3
  split
  · exact hv
  · exact a12 j
theorem c10m {a b : Nat} : (10 : Int32) * nI a + nI b = nI (10 * a + b) := by rw [c10, n_mul, n_add]
theorem q_kind (h : R w σ) (x y z : Int32) : Ans (fX9_kind w x y z) (fun v => fX10_kind v x y z) := by
  have h8 := h.g.P
  rcases who h x with ⟨a, b⟩ | ⟨a, b, p, hp, rfl⟩
  · exact Ans.nof h 1 (by decide) (by decide) (by unfold fX9_kind; simp only [a, if_pos, rf1, rf2, rf3, rf4, rf6, bd_e, un2_e] <;> rfl) (fun v e => by unfold fX10_kind; simp only [b v e, if_pos, lt_e, if_neg (show ¬ (-1 : Int32) = 0 by decide), e _ (show (42 : Nat) ≠ 12 by decide), no1, no2, no3, no4, no6, bd_e, un2_e] <;> rfl)
  · rcases arg y 7 with hy | hy | ⟨k, hk, rfl⟩
    · exact Ans.nof h 2 (by decide) (by decide) (by unfold fX9_kind fX9_isOutside; simp only [a, if_pos hy, if_neg (show ¬ (1 : Int32) = 0 by decide), rf1, rf2, rf3, rf4, rf6, bd_e, un2_e] <;> rfl) (fun v e => by unfold fX10_kind fX10_isIn; simp only [b v (by rw [e 42 (by decide)]), if_pos hy, if_pos, if_neg (show ¬ (1 : Int32) = 0 by decide), lt_e, if_neg (show ¬ (-2 : Int32) = 0 by decide), e _ (show (42 : Nat) ≠ 12 by decide), no1, no2, no3, no4, no6, bd_e, un2_e] <;> rfl)
    · have b1 : ¬ y < 0 := ge0 hy (by decide)
      have b2 : ¬ y ≤ 6 := hi_le (m := 6) hy (by decide)
      have b3 : (6 : Int32) < y := hi_lt (m := 6) hy (by decide)
      exact Ans.nof h 2 (by decide) (by decide) (by unfold fX9_kind fX9_isOutside; simp only [a, if_neg b1, if_neg b2, if_neg (show ¬ (1 : Int32) = 0 by decide), rf1, rf2, rf3, rf4, rf6, bd_e, un2_e] <;> rfl) (fun v e => by unfold fX10_kind fX10_isIn; simp only [b v (by rw [e 42 (by decide)]), if_neg b1, if_pos b3, if_pos, if_neg (show ¬ (1 : Int32) = 0 by decide), lt_e, if_neg (show ¬ (-2 : Int32) = 0 by decide), e _ (show (42 : Nat) ≠ 12 by decide), no1, no2, no3, no4, no6, bd_e, un2_e] <;> rfl)
    · have b1 : ¬ nI k < 0 := nI_pos (by omega)
      have b2 : nI k ≤ 6 := by rw [c6, n_le (by omega) (by decide)]; omega
      have b3 : ¬ (6 : Int32) < nI k := Int32.not_lt.mpr b2
      rcases arg z 10 with hz | hz | ⟨f, hf, rfl⟩
      · have d1 := lo_ge hz
        exact Ans.nof h 4 (by decide) (by decide) (by unfold fX9_kind fX9_isOutside; simp only [a, if_neg b1, if_pos b2, if_pos, if_neg d1, if_neg (show ¬ (1 : Int32) = 0 by decide), rf1, rf2, rf3, rf4, rf6, bd_e, un2_e] <;> rfl) (fun v e => by unfold fX10_kind fX10_isIn fX10_bound; simp only [b v (by rw [e 42 (by decide)]), if_neg b1, if_neg b3, if_neg d1, if_neg (show ¬ (1 : Int32) = 0 by decide), lt_e, if_neg (show ¬ (-4 : Int32) = 0 by decide), e _ (show (42 : Nat) ≠ 12 by decide), no1, no2, no3, no4, no6, bd_e, un2_e] <;> rfl)
      · have d1 := hi_ge hz (by decide)
        have d2 : ¬ z ≤ 9 := hi_le (m := 9) hz (by decide)
        exact Ans.nof h 6 (by decide) (by decide) (by unfold fX9_kind fX9_isOutside; simp only [a, if_neg b1, if_pos b2, if_pos, if_pos d1, if_neg d2, if_neg (show ¬ (1 : Int32) = 0 by decide), rf1, rf2, rf3, rf4, rf6, bd_e, un2_e] <;> rfl) (fun v e => by unfold fX10_kind fX10_isIn fX10_bound; simp only [b v (by rw [e 42 (by decide)]), if_neg b1, if_neg b3, if_pos d1, if_neg d2, if_neg (show ¬ (1 : Int32) = 0 by decide), lt_e, if_neg (show ¬ (-6 : Int32) = 0 by decide), e _ (show (42 : Nat) ≠ 12 by decide), no1, no2, no3, no4, no6, bd_e, un2_e] <;> rfl)
      · have d1 : (0 : Int32) ≤ nI f := nI_pos' (by omega)
        have d2 : nI f ≤ 9 := by rw [c9, n_le (by omega) (by decide)]; omega
        have hp8 : p < 8 := by omega
        obtain ⟨v1, a1, a2⟩ := c_become co1 (h.c.wrG co1 p f) hp8 hk
        have fr := rX2_become a1
        have fr42 : ∀ i, 20 < i → v1.1 i = (upI w 14 p (nI f)).1 i := fun i hi => (fr.cell i (by
          rw [List.all_eq_true]
          intro q hq
          have : q.1 ≤ 20 := (by decide : ∀ q, q ∈ pX2_become 1 → q.1 ≤ 20) q hq
          simp only [bne_iff_ne, ne_eq]; omega)).1
        have q1 : ∀ i, 20 < i → (upI v1 5 0 0).1 i = w.1 i := fun i hi => by rw [upI_o _ _ _ _ (by omega), fr42 i hi, upI_o _ _ _ _ (by omega)]
        have q2 : ∀ i, i ≤ 20 → (pX2_become 1).all (fun q => q.1 != i) = true → i ≠ 5 → i ≠ 14 → (upI v1 5 0 0).1 i = w.1 i := fun i _ hc h5 h14 => by rw [upI_o _ _ _ _ h5, (fr.cell i hc).1, upI_o _ _ _ _ h14]
        have hM : MoIs (upI v1 5 0 0) σ := by
          obtain ⟨t1, t2, t3, t4, t5, t6⟩ := h.o
          refine ⟨?_, ?_, ?_, ?_, ?_, ?_⟩
          · rw [q1 44 (by decide)]; exact t1
          · rw [q1 42 (by decide)]; exact t2
          · rw [q1 45 (by decide)]; exact t3
          · rw [q1 46 (by decide)]; exact t4
          · rw [q1 47 (by decide)]; exact t5
          · rw [q1 48 (by decide)]; exact t6
        obtain ⟨v2, a3, a4⟩ := m_becomes hM hp8 hk
        have fr2 := rX10_becomes a3
        have q3 : ∀ i, (pX10_becomes).all (fun q => q.1 != i) = true → v2.1 i = (upI v1 5 0 0).1 i := fun i hc => (fr2.cell i hc).1
        have q4 : ∀ f, f ≠ 7 → v2.1 42 f = (upI v1 5 0 0).1 42 f := fun g hg => (fr2 42 g (by
          unfold pX10_becomes pU
          simp [hit, all_, at_]; omega)).1
        have e9 : fX9_kind w (nI p) (nI k) (nI f) = some (nI (10 * sK σ p + sG σ p), upI v1 5 0 0) := by
          unfold fX9_kind fX9_isOutside fX5_forget
          rw [a, if_neg (by decide), if_neg b1, if_pos b2, if_pos rfl, if_pos d1, if_pos d2, gdn hp8 (by decide), n_cl (by omega), show w.1 13 p = nI (sK σ p) from h.c.K hp8, show w.1 14 p = nI (sG σ p) from h.c.G hp8, c10m, lt_e, lt_e, a1, bd_e, lt_e, lt_e]
        have e10 : fX10_kind (upI v1 5 0 0) (nI p) (nI k) (nI f) = some (nI (10 * sK σ p + sG σ p), upI (upI v2 46 p (nI f)) 42 27 0) := by
          unfold fX10_kind fX10_isIn fX10_bound
          rw [b (upI v1 5 0 0) (by rw [q1 42 (by decide)]), if_neg (by decide), if_neg b1, if_neg b3, if_neg (by decide), if_pos d1, if_pos d2, lt_e, if_pos rfl, gdn hp8 (by decide), n_cl (by omega), hM.K hp8, hM.G hp8, c10m, lt_e, a3, bd_e, lt_e, lt_e]
        have hσ : bec (wrG σ p f) p k = wrG (bec σ p k) p f := by
          unfold bec
          split <;> rfl
        have g2 := (good_bec h.g (p := p) hk).wG (p := p) hf
        have hpi := h.pi
        have eP : sP (wrG (bec σ p k) p f) = sP σ := by unfold bec; split <;> rfl
        refine ⟨_, _, _, wrG (bec σ p k) p f, e9, e10, g2, ?_, ?_, ?_, ?_, ?_, Past0 ?_ rfl, ?_, ?_⟩
        · have : sM (wrG (bec σ p k) p f) = sM σ := by unfold bec; split <;> rfl
          rw [this]; exact h.m
        · have a5 : CoIs v1 1 (bec (wrG σ p f) p k) := a2
          rw [hσ] at a5
          refine CoIs.eq (w := v1) a5 ?_ ?_ ?_ ?_ ?_
          all_goals rw [upI_o _ _ _ _ (by decide), upI_o _ _ _ _ (by decide), q3 _ (by decide), upI_o _ _ _ _ (by decide)]
        · exact MoIs.wG (σ := bec σ p k) a4 p f
        · unfold LettersR
          rw [upI_o _ _ _ _ (by decide), upI_o _ 46 _ _ (by decide), q3 6 (by decide), q2 6 (by decide) (by decide) (by decide) (by decide), upI_k _ _ _ _ (by decide), upI_o _ 46 _ _ (by decide), q4 14 (by decide), q1 42 (by decide), upI_o _ _ _ _ (by decide), upI_o _ 46 _ _ (by decide), q3 33 (by decide), q1 33 (by decide), upI_o _ _ _ _ (by decide), upI_o _ 46 _ _ (by decide), q3 49 (by decide), q1 49 (by decide)]
          exact h.le
        · unfold RowR
          rw [upI_o _ _ _ _ (by decide), upI_o _ 46 _ _ (by decide), q3 7 (by decide), q2 7 (by decide) (by decide) (by decide) (by decide), upI_k _ _ _ _ (by decide), upI_o _ 46 _ _ (by decide), q4 41 (by decide), q1 42 (by decide), upI_o _ _ _ _ (by decide), upI_o _ 46 _ _ (by decide), q3 34 (by decide), q1 34 (by decide), upI_o _ _ _ _ (by decide), upI_o _ 46 _ _ (by decide), q3 67 (by decide), q1 67 (by decide)]
          exact h.ro
        · rw [upI_o _ _ _ _ (by decide), upI_o _ _ _ _ (by decide), q3 5 (by decide)]
          exact upI_s _ _ _ _
        · obtain ⟨p1, p2⟩ := hpi
          refine ⟨?_, ?_⟩
          · rw [upI_k _ _ _ _ (by decide), upI_o _ 46 _ _ (by decide), q4 18 (by decide), q1 42 (by decide), upI_o _ _ _ _ (by decide), upI_o _ 46 _ _ (by decide), q3 0 (by decide), q2 0 (by decide) (by decide) (by decide) (by decide)]
            exact p1
          · rw [upI_o _ _ _ _ (by decide), upI_o _ 46 _ _ (by decide), q3 0 (by decide), q2 0 (by decide) (by decide) (by decide) (by decide)]
            rcases p2 with p2 | ⟨p2, τ, p3, p4, p5, p6⟩
            · exact Or.inl p2
            · refine Or.inr ⟨p2, τ, p3, p4, p5.eq ?_ ?_ ?_ ?_ ?_, p6.keep fun q _ _ => ?_⟩
              · rw [upI_o _ _ _ _ (by decide), upI_o _ 46 _ _ (by decide), q3 2 (by decide), q2 2 (by decide) (by decide) (by decide) (by decide)]
              · rw [upI_o _ _ _ _ (by decide), upI_o _ 46 _ _ (by decide), q3 _ (by decide), q2 _ (by decide) (by decide) (by decide) (by decide)]
              · rw [upI_o _ _ _ _ (by decide), upI_o _ 46 _ _ (by decide), q3 _ (by decide), q2 _ (by decide) (by decide) (by decide) (by decide)]
              · rw [upI_o _ _ _ _ (by decide), upI_o _ 46 _ _ (by decide), q3 _ (by decide), q2 _ (by decide) (by decide) (by decide) (by decide)]
              · rw [upI_o _ _ _ _ (by decide), upI_o _ 46 _ _ (by decide), q3 _ (by decide), q2 _ (by decide) (by decide) (by decide) (by decide)]
              · rw [upI_o _ _ _ _ (by decide), upI_o _ 46 _ _ (by decide), q3 53 (by decide), q1 53 (by decide)]
        · unfold RefR
          rw [upI_o _ _ _ _ (by decide), upI_o _ 46 _ _ (by decide), q3 43 (by decide), q1 43 (by decide), upI_o _ _ _ _ (by decide), upI_o _ 46 _ _ (by decide), q3 12 (by decide), q2 12 (by decide) (by decide) (by decide) (by decide)]
          exact h.re
end

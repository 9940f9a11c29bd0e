/-! then, door, dark, darkFor -/
section
variable {w w1 w2 : Wd} {σ τ : St} {b : Nat}
theorem n_min {a c : Nat} (ha : a < 2 ^ 31) (hc : c < 2 ^ 31) : jmin (nI a) (nI c) = nI (min a c) := by
  unfold jmin
  by_cases d : c < a
  · rw [if_pos (by rw [n_lt hc ha]; exact d), show min a c = c by omega]
  · rw [if_neg (by rw [n_lt hc ha]; exact d), show min a c = a by omega]
theorem n_max {a c : Nat} (ha : a < 2 ^ 31) (hc : c < 2 ^ 31) : jmax (nI a) (nI c) = nI (max a c) := by
  unfold jmax
  by_cases d : a < c
  · rw [if_pos (by rw [n_lt ha hc]; exact d), show max a c = c by omega]
  · rw [if_neg (by rw [n_lt ha hc]; exact d), show max a c = a by omega]
/-- what the reference keeps aside for a query -/
theorem m_saveq (hM : MoIs w σ) {k : Nat} (hk : k = 1 ∨ k = 2) : ∃ v, fX10_passesAll w (nI k) 1 = some v ∧ MoIs v σ ∧ Kept v k σ ∧ Mq w v ∧ KK k w v ∧ (∀ i, i ≠ 42 → i ≠ 53 → v.1 i = w.1 i) ∧ (∀ f, f ≠ 19 → f ≠ 20 → v.1 42 f = w.1 42 f) ∧ v.2 = w.2 := by
  obtain ⟨v, a1, a2, a3, a4, a5, a6, a7⟩ := m_save hM (show k < 3 by omega)
  refine ⟨v, a1, a2, a3, ?_, fun q hq => a4 q (by omega), a5, a6, a7⟩
  exact Mq.mk1 (fun i h1 h2 _ => a5 i h1 h2) (fun f hf => a6 f (by omega) (by omega)) (fun q hq => a4 q (by omega))
theorem m_restq {k : Nat} (hK : Kept w k σ) (hk : k = 1 ∨ k = 2) : ∃ v, fX10_passesAll w (nI k) 0 = some v ∧ MoIs v σ ∧ Mq w v ∧ (∀ i, i < 42 ∨ i = 43 ∨ 48 < i → v.1 i = w.1 i) ∧ (∀ f, 10 ≤ f → f ≠ 19 → f ≠ 20 → v.1 42 f = w.1 42 f) ∧ v.2 = w.2 := by
  obtain ⟨v, a1, a2, a3, a4, a5⟩ := m_rest hK (show k < 3 by omega)
  refine ⟨v, a1, a2, ?_, a3, a4, a5⟩
  refine Mq.mk1 (fun i h1 h2 h3 => a3 i ?_) (fun f hf => a4 f (by omega) (by omega) (by omega)) (fun q _ => by rw [a3 53 (by omega)])
  unfold mqA at h3
  simp at h3
  omega
theorem m_save1 (hM : MoIs w σ) : ∃ v, fX10_passesAll w 1 1 = some v ∧ MoIs v σ ∧ Kept v 1 σ ∧ Mq w v ∧ KK 1 w v ∧ (∀ i, i ≠ 42 → i ≠ 53 → v.1 i = w.1 i) ∧ (∀ f, f ≠ 19 → f ≠ 20 → v.1 42 f = w.1 42 f) ∧ v.2 = w.2 := m_saveq hM (k := 1) (Or.inl rfl)
theorem m_save2 (hM : MoIs w σ) : ∃ v, fX10_passesAll w 2 1 = some v ∧ MoIs v σ ∧ Kept v 2 σ ∧ Mq w v ∧ KK 2 w v ∧ (∀ i, i ≠ 42 → i ≠ 53 → v.1 i = w.1 i) ∧ (∀ f, f ≠ 19 → f ≠ 20 → v.1 42 f = w.1 42 f) ∧ v.2 = w.2 := m_saveq hM (k := 2) (Or.inr rfl)
theorem m_rest1 (hK : Kept w 1 σ) : ∃ v, fX10_passesAll w 1 0 = some v ∧ MoIs v σ ∧ Mq w v ∧ (∀ i, i < 42 ∨ i = 43 ∨ 48 < i → v.1 i = w.1 i) ∧ (∀ f, 10 ≤ f → f ≠ 19 → f ≠ 20 → v.1 42 f = w.1 42 f) ∧ v.2 = w.2 := m_restq hK (Or.inl rfl)
theorem m_rest2 (hK : Kept w 2 σ) : ∃ v, fX10_passesAll w 2 0 = some v ∧ MoIs v σ ∧ Mq w v ∧ (∀ i, i < 42 ∨ i = 43 ∨ 48 < i → v.1 i = w.1 i) ∧ (∀ f, 10 ≤ f → f ≠ 19 → f ≠ 20 → v.1 42 f = w.1 42 f) ∧ v.2 = w.2 := m_restq hK (Or.inr rfl)
/-- the door, as a query -/
theorem m_door (hM : MoIs w σ) (hg : good σ) (hm : sM σ ≤ 1200) : ∃ w1, fX10_atDoor w = some (nI (door σ (sL σ)), w1) ∧ MoIs w1 σ ∧ KK 2 w w1 ∧ Mq w w1 := by
  obtain ⟨v, a1, a2, a3⟩ := m_atDoor hM hg hm
  refine ⟨v, a1, a2, a3, ?_⟩
  have fr := rX10_atDoor a1
  refine Mq.mk1 (fun i h1 h2 h3 => (fr.cell i ?_).1) (fun f hf => (fr 42 f ?_).1) (fun q hq => a3 q (by omega))
  · rw [List.all_eq_true]
    intro q hq
    have : q.1 = 42 ∨ q.1 = 53 ∨ mqA q.1 = true := (by decide : ∀ q, q ∈ pX10_atDoor → q.1 = 42 ∨ q.1 = 53 ∨ mqA q.1 = true) q hq
    simp only [bne_iff_ne, ne_eq]
    intro e
    rw [e] at this
    rcases this with h | h | h
    · exact h1 h
    · exact h2 h
    · rw [h] at h3; cases h3
  · rcases hf with rfl | rfl | rfl | rfl <;> decide
theorem c_walkNow (hC : CoIs w 1 σ) (hg : good σ) : ∃ w1, fX4_walkFromNow w = some w1 ∧ WkIs w1 σ ∧ CoIs w1 1 σ ∧ (∀ m, m ≤ sD σ - sA σ → w1.1 26 m = nI (run σ (sA σ) (sL σ) m)) ∧ Cq w w1 := by
  obtain ⟨v1, a1, a2⟩ := c_setOut co1 hC hg
  have f1 : Cq w v1 := Cq.of (rX8_setOut a1) (by decide)
  have hC1 : CoIs v1 1 σ := hC.eq (f1.at 1 rfl) (f1.at 13 rfl) (f1.at 14 rfl) (f1.at 15 rfl) (f1.at 16 rfl)
  obtain ⟨v2, b1, b2, b3⟩ := c_walkOn a2 hg hg.L
  have f2 : Cq v1 v2 := Cq.of (rX8_walkOn b1) (by decide)
  refine ⟨v2, ?_, b3, hC1.eq (f2.at 1 rfl) (f2.at 13 rfl) (f2.at 14 rfl) (f2.at 15 rfl) (f2.at 16 rfl), b2, f1.tr f2⟩
  unfold fX4_walkFromNow
  rw [a1, bd_e, hC1.L, b1, bd_e]
theorem c_litBehind (hC : CoIs w 1 σ) (hg : good σ) {n : Nat} (hn : n < 1000) : ∃ w1, fX4_litBehind w (nI n) = some (nI (run σ (sA σ) (sL σ) (min n (sD σ - sA σ))), w1) ∧ CoIs w1 1 σ ∧ Cq w w1 := by
  have hD := hg.D
  obtain ⟨v, a1, a2, a3, a4, a5⟩ := c_walkNow hC hg
  refine ⟨v, ?_, a3, a5⟩
  unfold fX4_litBehind
  rw [a1, bd_e, a2.2.2.2.2.1, n_min (by omega) (by omega), gdn (by omega) (by decide), n_cl (by omega), a4 _ (by omega)]
theorem q_then (h : R w σ) (x : Int32) : Ans (fX9_then w x) (fun v => fX10_then v x) := by
  have hD := h.g.D
  rcases arg x 25 with hx | hx | ⟨n, hn, rfl⟩
  · have a1 := lo_ge hx
    exact Ans.nof h 4 (by decide) (by decide) (by unfold fX9_then; simp only [if_neg a1, rf1, rf2, rf3, rf4, rf6, bd_e, un2_e] <;> rfl) (fun v e => by unfold fX10_then fX10_bound; simp only [if_neg a1, lt_e, if_neg (show ¬ (-4 : Int32) = 0 by decide), e _ (show (42 : Nat) ≠ 12 by decide), no1, no2, no3, no4, no6, bd_e, un2_e] <;> rfl)
  · have a1 := hi_ge hx (by decide)
    have a2 : ¬ x ≤ 24 := hi_le (m := 24) hx (by decide)
    exact Ans.nof h 6 (by decide) (by decide) (by unfold fX9_then; simp only [if_pos a1, if_neg a2, rf1, rf2, rf3, rf4, rf6, bd_e, un2_e] <;> rfl) (fun v e => by unfold fX10_then fX10_bound; simp only [if_pos a1, if_neg a2, lt_e, if_neg (show ¬ (-6 : Int32) = 0 by decide), e _ (show (42 : Nat) ≠ 12 by decide), no1, no2, no3, no4, no6, bd_e, un2_e] <;> rfl)
  · have a1 : (0 : Int32) ≤ nI n := nI_pos' (by omega)
    have a2 : nI n ≤ 24 := by rw [c24, n_le (by omega) (by decide)]; omega
    refine Ans.q (r := nI (run σ (sA σ) (sL σ) (min n (sD σ - sA σ)))) h ?_ fun v hv => ?_
    · obtain ⟨v, b1, b2, b3⟩ := c_litBehind h.c h.g (show n < 1000 by omega)
      refine ⟨v, ?_, b3⟩
      unfold fX9_then
      rw [if_pos a1, if_pos a2, b1, bd_e, un2_e]
    · obtain ⟨v1, b1, b2, b3, b4, b5, -⟩ := m_save1 hv.o
      obtain ⟨v2, d1, d2⟩ := m_goesAhead b2 hv.g hv.m2 (show n ≤ 1000 by omega)
      have d3 := rX10_goesAhead d1
      obtain ⟨v3, f1, f2, f3, -⟩ := m_rest1 (b3.kk (KK.of 2 d3 (by decide)) (by decide))
      refine ⟨v3, ?_, f2, (b4.tr (Mq.of d3 (by decide))).tr f3⟩
      show fX10_then v (nI n) = _
      unfold fX10_then fX10_bound
      rw [if_pos a1, if_pos a2, lt_e, if_pos rfl, b1, bd_e, d1, bd_e, lt_e, f1, bd_e, d2.L]
      rfl
theorem q_door (h : R w σ) (x : Int32) : Ans (fX9_door w x) (fun v => fX10_door v x) := by
  have hD := h.g.D
  have h8 := h.g.P
  rcases arg x 3 with hx | hx | ⟨n, hn, rfl⟩
  · exact Ans.nof h 2 (by decide) (by decide) (by unfold fX9_door fX9_isOutside; simp only [if_pos hx, if_neg (show ¬ (1 : Int32) = 0 by decide), rf1, rf2, rf3, rf4, rf6, bd_e, un2_e] <;> rfl) (fun v e => by unfold fX10_door fX10_isIn; simp only [if_pos hx, if_pos, e _ (show (42 : Nat) ≠ 12 by decide), no1, no2, no3, no4, no6, bd_e, un2_e] <;> rfl)
  · have a1 : ¬ x < 0 := ge0 hx (by decide)
    have a2 : ¬ x ≤ 2 := hi_le (m := 2) hx (by decide)
    have a3 : (2 : Int32) < x := hi_lt (m := 2) hx (by decide)
    exact Ans.nof h 2 (by decide) (by decide) (by unfold fX9_door fX9_isOutside; simp only [if_neg a1, if_neg a2, if_neg (show ¬ (1 : Int32) = 0 by decide), rf1, rf2, rf3, rf4, rf6, bd_e, un2_e] <;> rfl) (fun v e => by unfold fX10_door fX10_isIn; simp only [if_neg a1, if_pos a3, if_pos, e _ (show (42 : Nat) ≠ 12 by decide), no1, no2, no3, no4, no6, bd_e, un2_e] <;> rfl)
  · have i1 : fX9_isOutside (nI n) 2 = 0 := (by decide : ∀ p, p < 3 → fX9_isOutside (nI p) 2 = 0) n hn
    have i2 : fX10_isIn (nI n) 0 2 = 1 := (by decide : ∀ p, p < 3 → fX10_isIn (nI p) 0 2 = 1) n hn
    have hd : door σ (sL σ) < 256 := lt256 (runU_lt h.g h.g.L _) h8
    refine Ans.q (r := nI (if n = 0 then door σ (sL σ) else if n = 1 then pop (door σ (sL σ)) else light σ (door σ (sL σ)))) h ?_ fun v hv => ?_
    · obtain ⟨v, b1, b2, b3⟩ := c_litBehind h.c h.g (show 24 < 1000 by decide)
      rw [show min 24 (sD σ - sA σ) = sD σ - sA σ by omega] at b1
      refine ⟨v, ?_, b3⟩
      unfold fX9_door
      rw [i1, if_pos rfl, show (24 : Int32) = nI 24 from rfl, b1, bd_e, un2_e]
      by_cases c0' : n = 0
      · subst c0'; rw [if_pos (show nI 0 = 0 from rfl), if_pos rfl]; rfl
      · rw [if_neg (by rw [c0, n_eq (by omega) (by decide)]; exact c0'), if_neg c0']
        by_cases c1' : n = 1
        · subst c1'; rw [if_pos (show nI 1 = 1 from rfl), if_pos rfl]
          exact congrArg (fun x => some (x, v)) (pop_c _ hd)
        · rw [if_neg (by rw [c1, n_eq (by omega) (by decide)]; exact c1'), if_neg c1']
          exact (congrArg (fun o : Option Int32 => o.bind fun r5 => some (r5, v)) (c_light b2 h.g (s := door σ (sL σ)) (by omega))).trans rfl
    · obtain ⟨v1, b1, b2, b3, b4⟩ := m_door hv.o hv.g hv.m2
      refine ⟨v1, ?_, b2, b4⟩
      show fX10_door v (nI n) = _
      unfold fX10_door
      rw [i2, if_neg (by decide), b1, bd_e, un2_e]
      by_cases c0' : n = 0
      · subst c0'; rw [if_pos (show nI 0 = 0 from rfl), if_pos rfl]
      · rw [if_neg (by rw [c0, n_eq (by omega) (by decide)]; exact c0'), if_neg c0']
        by_cases c1' : n = 1
        · subst c1'; rw [if_pos (show nI 1 = 1 from rfl), if_pos rfl, pop_m _ hd, bd_e]
        · rw [if_neg (by rw [c1, n_eq (by omega) (by decide)]; exact c1'), if_neg c1', m_lightOf b2 hv.g (by omega), bd_e]
end

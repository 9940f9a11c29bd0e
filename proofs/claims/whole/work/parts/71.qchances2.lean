/-! chances: both, the end -/
section
variable {w w1 w2 : Wd} {σ τ : St} {b : Nat}
theorem Ans.noL {m : Option (Int64 × Wd)} {f : Wd → Option (Int64 × Wd)} (h : R w σ) (k : Nat) (h7 : k < 7) (e9 : m = some (4000000000000000000 - (-(nI k)).toInt64, upI w 12 k (w.1 12 k + 1))) (e10 : ∀ v : Wd, (∀ i, i ≠ 12 → v.1 i = w.1 i) → f v = some (4000000000000000000 - (-(nI k)).toInt64, upI v 43 k (v.1 43 k + 1))) : Ans m f :=
  ⟨_, _, _, σ, e9, e10 _ (fun i hi => upI_o _ _ _ _ hi), upR h k h7⟩
theorem rfL (k : Nat) (h1 : 1 ≤ k) (h7 : k < 7) (w : Wd) : fX9_refuseLong w (-(nI k)) = some (4000000000000000000 - (-(nI k)).toInt64, upI w 12 k (w.1 12 k + 1)) := by
  unfold fX9_refuseLong
  rw [ref9 k h1 h7, bd_e, un2_e]
theorem loL (k : Nat) (h7 : k < 7) (w : Wd) : fX10_lowest w (-(nI k)) = some (4000000000000000000 - (-(nI k)).toInt64, upI w 43 k (w.1 43 k + 1)) := by
  unfold fX10_lowest
  rw [neg_t k h7, gdn h7 (by decide), n_cl (by omega), lt_e]
theorem j65_no (a1 a2 a3 : Int32) (v : Wd) (k : Nat) (h1 : 1 ≤ k) (h7 : k < 7) : fX10_chances_j65 a1 a2 a3 v (-(nI k)) = some (4000000000000000000 - (-(nI k)).toInt64, upI v 43 k (v.1 43 k + 1)) := by
  unfold fX10_chances_j65
  have : ∀ k : Nat, k < 7 → 1 ≤ k → ¬ -(nI k) = 0 := by decide
  rw [if_neg (this k h7 h1), loL k h7, bd_e, un2_e]
theorem out2 (x : Int32) : (fX9_isOutside x 1 = 1 ∧ fX10_isIn x 0 1 = 0) ∨ ∃ p, p < 2 ∧ x = nI p ∧ fX9_isOutside x 1 = 0 ∧ fX10_isIn x 0 1 = 1 := by
  rcases arg x 2 with hx | hx | ⟨p, hp, rfl⟩
  · refine Or.inl ⟨?_, ?_⟩
    · unfold fX9_isOutside; rw [if_pos hx]
    · unfold fX10_isIn; rw [if_pos hx]
  · have a1 := hi_ge hx (by decide)
    have a2 : (1 : Int32) < x := hi_lt (m := 1) hx (by decide)
    have a3 : ¬ x < 0 := Int32.not_lt.mpr a1
    refine Or.inl ⟨?_, ?_⟩
    · unfold fX9_isOutside; rw [if_neg a3, if_neg (Int32.not_le.mpr a2)]
    · unfold fX10_isIn; rw [if_neg a3, if_pos a2]
  · refine Or.inr ⟨p, hp, rfl, ?_, ?_⟩ <;> rcases (by omega : p = 0 ∨ p = 1) with rfl | rfl <;> rfl
theorem q_chances (h : R w σ) (x y z : Int32) : Ans (fX9_chances w x y z) (fun v => fX10_chances v x y z) := by
  have hD := h.g.D
  have h8 := h.g.P
  have hA := h.g.A
  rcases arg x 4 with hx | hx | ⟨n, hn, rfl⟩
  · have a1 := lo_ge hx
    refine Ans.noL h 4 (by decide) ?_ fun v hv => ?_
    · unfold fX9_chances
      rw [if_neg a1, show (-4 : Int32) = -(nI 4) from rfl, rfL 4 (by decide) (by decide), bd_e, un2_e]
    · show fX10_chances v x y z = _
      unfold fX10_chances fX10_bound
      rw [if_neg a1, lt_e, if_neg (show ¬ (-4 : Int32) = 0 by decide), show (-4 : Int32) = -(nI 4) from rfl, j65_no _ _ _ _ 4 (by decide) (by decide)]
  · have a1 := hi_ge hx (by decide)
    have a2 : ¬ x ≤ 3 := hi_le (m := 3) hx (by decide)
    refine Ans.noL h 6 (by decide) ?_ fun v hv => ?_
    · unfold fX9_chances
      rw [if_pos a1, if_neg a2, show (-6 : Int32) = -(nI 6) from rfl, rfL 6 (by decide) (by decide), bd_e, un2_e]
    · show fX10_chances v x y z = _
      unfold fX10_chances fX10_bound
      rw [if_pos a1, if_neg a2, lt_e, if_neg (show ¬ (-6 : Int32) = 0 by decide), show (-6 : Int32) = -(nI 6) from rfl, j65_no _ _ _ _ 6 (by decide) (by decide)]
  · have a1 : (0 : Int32) ≤ nI n := by rw [show (0 : Int32) = nI 0 from rfl, n_le (by decide) (by omega)]; exact Nat.zero_le _
    have a2 : nI n ≤ 3 := by rw [show (3 : Int32) = nI 3 from rfl, n_le (by omega) (by decide)]; omega
    have eb : fX10_bound (nI n) 0 3 = 0 := by unfold fX10_bound; rw [if_pos a1, if_pos a2]
    have two : (fX9_isOutside y 1 = 1 ∧ fX10_isIn y 0 1 = 0) ∨ (fX9_isOutside y 1 = 0 ∧ fX10_isIn y 0 1 = 1 ∧ fX9_isOutside z 1 = 1 ∧ fX10_isIn z 0 1 = 0) → Ans (fX9_chances w (nI n) y z) (fun v => fX10_chances v (nI n) y z) := fun c => by
      refine Ans.noL h 2 (by decide) ?_ fun v hv => ?_
      · unfold fX9_chances fX9_chances_j39
        rw [if_pos a1, if_pos a2]
        rcases c with ⟨c1, -⟩ | ⟨c1, -, c2, -⟩
        · rw [c1, if_neg (show ¬ (1 : Int32) = 0 by decide), show (-2 : Int32) = -(nI 2) from rfl, rfL 2 (by decide) (by decide), bd_e, un2_e]
        · rw [c1, if_pos rfl, c2, if_neg (show ¬ (1 : Int32) = 0 by decide), show (-2 : Int32) = -(nI 2) from rfl, rfL 2 (by decide) (by decide), bd_e, un2_e]
      · show fX10_chances v (nI n) y z = _
        unfold fX10_chances
        rw [eb, lt_e, if_pos rfl]
        rcases c with ⟨-, c1⟩ | ⟨-, c1, -, c2⟩
        · rw [c1, if_pos (show (0 : Int32) = 0 from rfl), lt_e, show (-2 : Int32) = -(nI 2) from rfl, j65_no _ _ _ _ 2 (by decide) (by decide)]
        · rw [c1, if_neg (show ¬ (1 : Int32) = 0 by decide), c2, if_pos (show (0 : Int32) = 0 from rfl), lt_e, show (-2 : Int32) = -(nI 2) from rfl, j65_no _ _ _ _ 2 (by decide) (by decide)]
    rcases out2 y with hy | ⟨p, hp, rfl, y1, y2⟩
    · exact two (Or.inl hy)
    · rcases out2 z with hz | ⟨q, hq, rfl, z1, z2⟩
      · exact two (Or.inr ⟨y1, y2, hz.1, hz.2⟩)
      · have m1 : ∀ v : Wd, fX10_chances v (nI n) (nI p) (nI q) = fX10_chances_j65 (nI n) (nI p) (nI q) v (if (4 : Int32) < v.1 42 6 then -3 else if v.1 42 8 + nI n ≤ v.1 44 2 then 0 else -3) := fun v => by
          unfold fX10_chances
          rw [eb, lt_e, if_pos rfl, y2, if_neg (show ¬ (1 : Int32) = 0 by decide), z2, if_neg (show ¬ (1 : Int32) = 0 by decide), lt_e]
          rfl
        have no3' : ∀ v : Wd, (if (4 : Int32) < v.1 42 6 then (-3 : Int32) else if v.1 42 8 + nI n ≤ v.1 44 2 then 0 else -3) = -3 → fX10_chances v (nI n) (nI p) (nI q) = some (4000000000000000000 - (-(nI 3)).toInt64, upI v 43 3 (v.1 43 3 + 1)) := fun v e => by
          rw [m1, e, show (-3 : Int32) = -(nI 3) from rfl, j65_no _ _ _ _ 3 (by decide) (by decide)]
        have c76 : fX9_chances_j76 w = some (4000000000000000000 - (-(nI 3)).toInt64, upI w 12 3 (w.1 12 3 + 1)) := by
          unfold fX9_chances_j76
          rw [show (-3 : Int32) = -(nI 3) from rfl, rfL 3 (by decide) (by decide), bd_e, un2_e]
        by_cases c4 : sP σ ≤ 4
        · have l4 : ∀ v : Wd, MoIs v σ → ¬ (4 : Int32) < v.1 42 6 := fun v hv => by rw [hv.P, show (4 : Int32) = nI 4 from rfl, n_lt (by decide) (by omega)]; omega
          have k4 : ¬ (4 : Int32) < w.1 1 0 := by rw [h.c.P, show (4 : Int32) = nI 4 from rfl, n_lt (by decide) (by omega)]; omega
          by_cases cn : n ≤ sD σ - sA σ
          · refine Ans.q (r := lN (chN σ n p q)) h ?_ fun v hv => ?_
            · obtain ⟨u, b1, b2, b3⟩ := c_weigh h.g c4 h.c cn
              refine ⟨u, ?_, Cq.of (rX0_weigh b1) (by decide)⟩
              have e1 : (if nI p = 1 then (1 : Int32) else 0) = nI p := by rcases (by omega : p = 0 ∨ p = 1) with rfl | rfl <;> rfl
              have e2 : fX9_chances_j119 u (nI p) (nI q) = some (lN (chN σ n p q), u) := by
                unfold fX9_chances_j119
                rw [c_terms h.g c4 (by omega) b2 b3 hp hq, bd_e]
              have e3 : (if nI q = 1 then fX9_chances_j119 u (nI p) 1 else fX9_chances_j119 u (nI p) 0) = some (lN (chN σ n p q), u) := by
                rw [← e2]
                rcases (by omega : q = 0 ∨ q = 1) with rfl | rfl
                · exact if_neg (show ¬ nI 0 = 1 by decide)
                · exact if_pos (show nI 1 = 1 from rfl)
              unfold fX9_chances
              rw [if_pos a1, if_pos a2, y1, if_pos rfl, z1, if_pos rfl, if_neg k4, h.c.Do, h.c.Pl, n_sub hA, if_pos (by rw [n_le (by omega) (by omega)]; exact cn), b1, bd_e, e1, lt_e, e3]
            · obtain ⟨u, b1, b2, b3⟩ := m_chances h.g c4 hv.o (n := n) (by omega) cn hp hq
              refine ⟨u, ?_, b2, b3⟩
              show fX10_chances v (nI n) (nI p) (nI q) = _
              rw [m1, if_neg (l4 v hv.o), hv.o.A, hv.o.D, n_add, if_pos (by rw [n_le (by omega) (by omega)]; omega), b1]
          · refine Ans.noL h 3 (by decide) ?_ fun v hv => ?_
            · unfold fX9_chances
              rw [if_pos a1, if_pos a2, y1, if_pos rfl, z1, if_pos rfl, if_neg k4, h.c.Do, h.c.Pl, n_sub hA, if_neg (by rw [n_le (by omega) (by omega)]; exact cn), c76]
            · have hvM : MoIs v σ := by
                obtain ⟨t1, t2, t3, t4, t5, t6⟩ := h.o
                refine ⟨?_, ⟨?_, ?_, ?_, ?_⟩, ?_, ?_, ?_, ?_⟩
                · rw [hv 44 (by decide)]; exact t1
                · rw [hv 42 (by decide)]; exact t2.1
                · rw [hv 42 (by decide)]; exact t2.2.1
                · rw [hv 42 (by decide)]; exact t2.2.2.1
                · rw [hv 42 (by decide)]; exact t2.2.2.2
                · rw [hv 45 (by decide)]; exact t3
                · rw [hv 46 (by decide)]; exact t4
                · rw [hv 47 (by decide)]; exact t5
                · rw [hv 48 (by decide)]; exact t6
              exact no3' v (by rw [if_neg (l4 v hvM), hvM.A, hvM.D, n_add, if_neg (by rw [n_le (by omega) (by omega)]; omega)])
        · have k4 : (4 : Int32) < w.1 1 0 := by rw [h.c.P, show (4 : Int32) = nI 4 from rfl, n_lt (by decide) (by omega)]; omega
          refine Ans.noL h 3 (by decide) ?_ fun v hv => ?_
          · unfold fX9_chances
            rw [if_pos a1, if_pos a2, y1, if_pos rfl, z1, if_pos rfl, if_pos k4, c76]
          · exact no3' v (by rw [if_pos (by rw [hv 42 (by decide), h.o.P, show (4 : Int32) = nI 4 from rfl, n_lt (by decide) (by omega)]; omega)])
end

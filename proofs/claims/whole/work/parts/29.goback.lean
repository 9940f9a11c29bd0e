/-! go, back -/
section
variable {w w1 w2 : Wd} {σ τ : St} {b : Nat}
theorem q_go (h : R w σ) (x : Int32) : Ans (fX9_go w x) (fun v => fX10_go v x) := by
  have h8 := h.g.P
  have hA := h.g.A
  have hD := h.g.D
  have hm := h.m
  rcases arg x 2 with hx | hx | ⟨p, hp, rfl⟩
  · exact Ans.nof h 2 (by decide) (by decide) (by unfold fX9_go fX9_isOutside; simp only [if_pos hx, if_neg (show ¬ (1 : Int32) = 0 by decide), rf1, rf2, rf3, rf4, rf6, bd_e, un2_e] <;> rfl) (fun v e => by unfold fX10_go fX10_isIn; simp only [if_pos hx, if_pos, lt_e, if_neg (show ¬ (-2 : Int32) = 0 by decide), e _ (show (42 : Nat) ≠ 12 by decide), no1, no2, no3, no4, no6, bd_e, un2_e] <;> rfl)
  · have a1 : ¬ x < 0 := ge0 hx (by decide)
    have a2 : ¬ x ≤ 1 := hi_le (m := 1) hx (by decide)
    have a3 : (1 : Int32) < x := hi_lt (m := 1) hx (by decide)
    exact Ans.nof h 2 (by decide) (by decide) (by unfold fX9_go fX9_isOutside; simp only [if_neg a1, if_neg a2, if_neg (show ¬ (1 : Int32) = 0 by decide), rf1, rf2, rf3, rf4, rf6, bd_e, un2_e] <;> rfl) (fun v e => by unfold fX10_go fX10_isIn; simp only [if_neg a1, if_pos a3, if_pos, lt_e, if_neg (show ¬ (-2 : Int32) = 0 by decide), e _ (show (42 : Nat) ≠ 12 by decide), no1, no2, no3, no4, no6, bd_e, un2_e] <;> rfl)
  · have i1 : fX9_isOutside (nI p) 1 = 0 := (by decide : ∀ p, p < 2 → fX9_isOutside (nI p) 1 = 0) p hp
    have i2 : fX10_isIn (nI p) 0 1 = 1 := (by decide : ∀ p, p < 2 → fX10_isIn (nI p) 0 1 = 1) p hp
    by_cases ha : sA σ = sD σ
    · have d1 : ¬ nI (sA σ) < nI (sD σ) := by rw [n_lt (by omega) (by omega)]; omega
      have d2 : nI (sA σ) = nI (sD σ) := by rw [ha]
      exact Ans.nof h 3 (by decide) (by decide) (by unfold fX9_go fX2_isAtDoor; simp only [i1, if_pos, h.c.Pl, h.c.Do, if_neg d1, if_neg (show ¬ (1 : Int32) = 0 by decide), rf1, rf2, rf3, rf4, rf6, bd_e, un2_e] <;> rfl) (fun v e => by unfold fX10_go fX10_doorAt; simp only [i2, if_neg (show ¬ (1 : Int32) = 0 by decide), h.o.A, e 44 (by decide), h.o.D, if_pos d2, lt_e, if_neg (show ¬ (-3 : Int32) = 0 by decide), e _ (show (42 : Nat) ≠ 12 by decide), no1, no2, no3, no4, no6, bd_e, un2_e] <;> rfl)
    · have d1 : nI (sA σ) < nI (sD σ) := by rw [n_lt (by omega) (by omega)]; omega
      have d2 : ¬ nI (sA σ) = nI (sD σ) := by rw [n_eq (by omega) (by omega)]; exact ha
      by_cases hm9 : sM σ = 999
      · have d3 : ¬ nI (sM σ) < (999 : Int32) := by rw [hm9]; decide
        have d4 : nI (sM σ) = (999 : Int32) := by rw [hm9]; rfl
        exact Ans.nof h 6 (by decide) (by decide) (by unfold fX9_go fX2_isAtDoor; simp only [i1, if_pos, h.c.Pl, h.c.Do, h.c.Mi, if_pos d1, if_neg d3, rf1, rf2, rf3, rf4, rf6, bd_e, un2_e] <;> rfl) (fun v e => by unfold fX10_go fX10_doorAt; simp only [i2, if_neg (show ¬ (1 : Int32) = 0 by decide), h.o.A, e 44 (by decide), h.o.D, h.o.M, if_neg d2, if_pos d4, lt_e, if_neg (show ¬ (-6 : Int32) = 0 by decide), e _ (show (42 : Nat) ≠ 12 by decide), no1, no2, no3, no4, no6, bd_e, un2_e] <;> rfl)
      · have d3 : nI (sM σ) < (999 : Int32) := by rw [c999, n_lt (by omega) (by decide)]; omega
        have d4 : ¬ nI (sM σ) = (999 : Int32) := by rw [c999, n_eq (by omega) (by decide)]; exact hm9
        obtain ⟨n, hn, p1, p2, p3⟩ := h.pa
        have hv : ∀ (y z : Int32), (if nI p = 1 then (1 : Int32) else 0) = nI p := fun _ _ => (by decide : ∀ p, p < 2 → (if nI p = 1 then (1 : Int32) else 0) = nI p) p hp
        obtain ⟨v1, a1, a2, a3, a4⟩ := c_keep hn p1 h.c
        have fr1 := rX5_keep a1
        have k1 : ∀ i, (i != 5 && i != 30 && i != 31 && i != 32) = true → v1.1 i = w.1 i := fun i hi => (fr1.cell i (by
          rw [List.all_eq_true]
          intro q hq
          have : q.1 = 5 ∨ q.1 = 30 ∨ q.1 = 31 ∨ q.1 = 32 := (by decide : ∀ q, q ∈ pX5_keep → q.1 = 5 ∨ q.1 = 30 ∨ q.1 = 31 ∨ q.1 = 32) q hq
          simp only [Bool.and_eq_true, bne_iff_ne, ne_eq] at hi ⊢
          omega)).1
        have hC1 : CoIs v1 1 σ := h.c.eq (k1 1 rfl) (k1 13 rfl) (k1 14 rfl) (k1 15 rfl) (k1 16 rfl)
        obtain ⟨v2, b1, b2⟩ := c_passMinute co1 hC1 h.g (by omega) (nI p)
        have fr2 := rX8_passMinute b1
        have k2 : ∀ i, (i != 1 && i != 4 && decide (i < 25 ∨ 29 < i)) = true → v2.1 i = v1.1 i := fun i hi => (fr2.cell i (by
          rw [List.all_eq_true]
          intro q hq
          have : q.1 = 1 ∨ q.1 = 4 ∨ (25 ≤ q.1 ∧ q.1 ≤ 29) := (by decide : ∀ q, q ∈ pX8_passMinute 1 → q.1 = 1 ∨ q.1 = 4 ∨ (25 ≤ q.1 ∧ q.1 ≤ 29)) q hq
          simp only [Bool.and_eq_true, bne_iff_ne, ne_eq, decide_eq_true_eq] at hi ⊢
          omega)).1
        have hL' : mnt σ (sA σ) (sL σ) < 2 ^ sP σ := mntU_lt h.g h.g.L
        have hsm' := mntU_sm h.g (uns σ) (sA σ) h.g.sm
        have e9 : fX9_go w (nI p) = some (nI (pop (mnt σ (sA σ) (sL σ))), v2) := by
          unfold fX9_go fX2_isAtDoor
          rw [i1, if_pos rfl, h.c.Pl, h.c.Do, if_pos d1, if_pos rfl, h.c.Mi, if_pos d3, a1, bd_e, hv 0 0, lt_e, b1, bd_e, b2.L]
          exact congrArg (fun x => some (x, v2)) (pop_c _ (lt256 hL' h8))
        have k3 : ∀ i, (i != 5 && i != 30 && i != 31 && i != 32 && i != 1 && i != 4 && decide (i < 25 ∨ 29 < i)) = true → v2.1 i = w.1 i := fun i hi => by
          simp only [Bool.and_eq_true, bne_iff_ne, ne_eq, decide_eq_true_eq] at hi
          rw [k2 i (by simp only [Bool.and_eq_true, bne_iff_ne, ne_eq, decide_eq_true_eq]; omega), k1 i (by simp only [Bool.and_eq_true, bne_iff_ne, ne_eq]; omega)]
        have hM2 : MoIs v2 σ := by
          obtain ⟨t1, t2, t3, t4, t5, t6⟩ := h.o
          refine ⟨?_, ?_, ?_, ?_, ?_, ?_⟩
          · rw [k3 44 rfl]; exact t1
          · rw [k3 42 rfl]; exact t2
          · rw [k3 45 rfl]; exact t3
          · rw [k3 46 rfl]; exact t4
          · rw [k3 47 rfl]; exact t5
          · rw [k3 48 rfl]; exact t6
        obtain ⟨v3, g1, g2, g3, g4⟩ := m_keeps hn (w := v2) (by rw [k3 42 rfl]; exact p2) hM2
        have fr3 := rX10_keepsMinute g1
        have hM3 : MoIs v3 σ := hM2.keep fr3 (by decide)
        obtain ⟨v4, f1, f2, -⟩ := m_goes hM3 h.g (by omega) (nI p)
        have fr4 := rX10_goes f1
        have e10 : fX10_go v2 (nI p) = some (nI (pop (mnt σ (sA σ) (sL σ))), v4) := by
          unfold fX10_go fX10_doorAt
          rw [i2, if_neg (by decide), hM2.A, hM2.D, if_neg d2, hM2.M, if_neg d4, lt_e, if_pos rfl, g1, bd_e, hv 0 0, lt_e, f1, bd_e, f2.L]
          have := pop_m _ (lt256 hL' h8)
          exact (congrArg (fun o : Option Int32 => o.bind fun r9 => some (r9, v4)) this).trans rfl
        have k4 : ∀ i, i < 42 → v4.1 i = v2.1 i := fun i hi => by
          rw [(fr4.lt 42 (by decide) i hi).1, (fr3.lt 42 (by decide) i hi).1]
        have k5 : ∀ i, (i == 43 || i == 49 || i == 67 || i == 53) = true → v4.1 i = w.1 i := fun i hi => by
          simp only [Bool.or_eq_true, beq_iff_eq] at hi
          rcases hi with ((rfl | rfl) | rfl) | rfl
          · rw [(fr4.cell 43 (by decide)).1, (fr3.cell 43 (by decide)).1, k3 43 rfl]
          · rw [(fr4.cell 49 (by decide)).1, (fr3.cell 49 (by decide)).1, k3 49 rfl]
          · rw [(fr4.cell 67 (by decide)).1, (fr3.cell 67 (by decide)).1, k3 67 rfl]
          · rw [(fr4.cell 53 (by decide)).1, (fr3.cell 53 (by decide)).1, k3 53 rfl]
        refine ⟨_, _, _, aw σ (sA σ + if nI p = 0 then 1 else 0) (mnt σ (sA σ) (sL σ)) (sM σ + 1), e9, e10, h.mk2 ?_ ?_ ?_ f2 ?_ ?_ ?_ ?_⟩
        · exact good_aw h.g hL' hsm' (by split <;> omega) (by omega)
        · show sM σ + 1 ≤ 999; omega
        · exact b2.eq (k4 1 (by decide)) (k4 13 (by decide)) (k4 14 (by decide)) (k4 15 (by decide)) (k4 16 (by decide))
        · refine ⟨min 8 (n + 1), by omega, ?_, ?_, fun k hk => ?_⟩
          · rw [k4 5 (by decide), k2 5 rfl]; exact a2
          · rw [(fr4 42 27 (by decide)).1]; exact g2
          · rw [k4 30 (by decide), k4 31 (by decide), k4 32 (by decide), k2 30 rfl, k2 31 rfl, k2 32 rfl, (fr4.cell 56 (by decide)).1, (fr4.cell 57 (by decide)).1, (fr4.cell 58 (by decide)).1]
            by_cases ck : k = 0
            · subst ck
              exact ⟨sL σ, sA σ, sM σ, h.g.L, h.g.sm, hA, h.m, a3, g3⟩
            · obtain ⟨j, rfl⟩ : ∃ j, k = j + 1 := ⟨k - 1, by omega⟩
              obtain ⟨l, a, m, t1, t2, t3, t4, ⟨t5, t6, t7⟩, t8, t9, t10⟩ := p3 j (by omega)
              obtain ⟨s1, s2, s3⟩ := a4 j hk
              obtain ⟨r1, r2, r3⟩ := g4 j (by omega)
              refine ⟨l, a, m, t1, t2, t3, t4, ⟨s1.trans t5, s2.trans t6, s3.trans t7⟩, ?_, ?_, ?_⟩
              · rw [r1, k3 56 rfl]; exact t8
              · rw [r2, k3 57 rfl]; exact t9
              · rw [r3, k3 58 rfl]; exact t10
        · intro i hi
          simp only [Bool.or_eq_true, beq_iff_eq] at hi
          by_cases c : i < 42
          · rw [k4 i c, k3 i (by simp only [Bool.and_eq_true, bne_iff_ne, ne_eq, decide_eq_true_eq]; omega)]
          · exact k5 i (by simp only [Bool.or_eq_true, beq_iff_eq]; omega)
        · intro f hf
          simp only [Bool.or_eq_true, beq_iff_eq] at hf
          rcases hf with (rfl | rfl) | rfl
          · rw [(fr4 42 14 (by decide)).1, (fr3 42 14 (by decide)).1, k3 42 rfl]
          · rw [(fr4 42 18 (by decide)).1, (fr3 42 18 (by decide)).1, k3 42 rfl]
          · rw [(fr4 42 41 (by decide)).1, (fr3 42 41 (by decide)).1, k3 42 rfl]
        · intro q _
          rw [k5 53 rfl]
theorem q_back (h : R w σ) : Ans (fX9_back w) (fun v => fX10_back v) := by
  obtain ⟨n, hn, p1, p2, p3⟩ := h.pa
  by_cases hz : n = 0
  · have e1 : w.1 5 0 = 0 := by rw [p1, hz]; rfl
    have e2 : w.1 42 27 = 0 := by rw [p2, hz]; rfl
    exact Ans.nof h 3 (by decide) (by decide) (by unfold fX9_back; simp only [e1, if_pos, rf1, rf2, rf3, rf4, rf6, bd_e, un2_e] <;> rfl) (fun v e => by unfold fX10_back; simp only [e2, if_pos, e _ (show (42 : Nat) ≠ 12 by decide), no1, no2, no3, no4, no6, bd_e, un2_e] <;> rfl)
  · obtain ⟨l, a, m, t1, t2, t3, t4, ⟨t5, t6, t7⟩, t8, t9, t10⟩ := p3 0 (by omega)
    rw [show n - 1 - 0 = n - 1 by omega] at t5 t6 t7
    have hA := h.g.A
    have hD := h.g.D
    have z1 : ¬ nI n = 0 := by rw [c0, n_eq (by omega) (by decide)]; exact hz
    have z2 : ¬ nI n ≤ 0 := by rw [c0, n_le (by omega) (by decide)]; omega
    have es : nI n - 1 = nI (n - 1) := by rw [c1, n_sub (by omega)]
    have e9 : fX9_back w = some (nI a, upI (upI (upI (upI w 5 0 (nI (n - 1))) 1 1 (nI l)) 1 5 (nI a)) 1 6 (nI m)) := by
      unfold fX9_back fX5_takeBack
      rw [p1, if_neg z1, if_neg z2, es, lt_e, show (upI w 5 0 (nI (n - 1))).1 5 0 = nI (n - 1) from rfl, gdn (by omega) (by decide), n_cl (by omega), show (upI w 5 0 (nI (n - 1))).1 30 (n - 1) = nI l from t5, lt_e, show (upI (upI w 5 0 (nI (n - 1))) 1 1 (nI l)).1 5 0 = nI (n - 1) from rfl, gdn (by omega) (by decide), n_cl (by omega), show (upI (upI w 5 0 (nI (n - 1))) 1 1 (nI l)).1 31 (n - 1) = nI a from t6, lt_e, show (upI (upI (upI w 5 0 (nI (n - 1))) 1 1 (nI l)) 1 5 (nI a)).1 5 0 = nI (n - 1) from rfl, gdn (by omega) (by decide), n_cl (by omega), show (upI (upI (upI w 5 0 (nI (n - 1))) 1 1 (nI l)) 1 5 (nI a)).1 32 (n - 1) = nI m from t7, lt_e, bd_e]
      rfl
    have hb : ∀ u : Wd, u.1 42 27 = nI n → u.1 56 0 = nI l → u.1 57 0 = nI a → u.1 58 0 = nI m → ∃ v, fX10_back u = some (nI a, v) ∧ v.1 42 27 = nI (n - 1) ∧ v.1 42 7 = nI l ∧ v.1 42 8 = nI a ∧ v.1 42 9 = nI m ∧ (∀ f, f ≠ 7 → f ≠ 8 → f ≠ 9 → f ≠ 27 → v.1 42 f = u.1 42 f) ∧ (∀ i, (i != 42 && i != 56 && i != 57 && i != 58) = true → v.1 i = u.1 i) ∧ ∀ k, k < 7 → v.1 56 k = u.1 56 (k + 1) ∧ v.1 57 k = u.1 57 (k + 1) ∧ v.1 58 k = u.1 58 (k + 1) := fun u h27 h56 h57 h58 => by
      have loop : ∃ x, iter (fun s : Int32 × Wd => fX10_back_b46 s.1 s.2) FU (0, upI (upI (upI u 42 7 (nI l)) 42 8 (nI a)) 42 9 (nI m)) = some x ∧ (∀ i, (i != 56 && i != 57 && i != 58) = true → x.1 i = (upI (upI (upI u 42 7 (nI l)) 42 8 (nI a)) 42 9 (nI m)).1 i) ∧ ∀ k, k < 7 → x.1 56 k = u.1 56 (k + 1) ∧ x.1 57 k = u.1 57 (k + 1) ∧ x.1 58 k = u.1 58 (k + 1) := by
        refine itn (fun n s => s.1 = nI n ∧ (∀ i, (i != 56 && i != 57 && i != 58) = true → s.2.1 i = (upI (upI (upI u 42 7 (nI l)) 42 8 (nI a)) 42 9 (nI m)).1 i) ∧ (∀ k, k < n → s.2.1 56 k = u.1 56 (k + 1) ∧ s.2.1 57 k = u.1 57 (k + 1) ∧ s.2.1 58 k = u.1 58 (k + 1)) ∧ ∀ k, n ≤ k → s.2.1 56 k = u.1 56 k ∧ s.2.1 57 k = u.1 57 k ∧ s.2.1 58 k = u.1 58 k) _ 7 ⟨rfl, fun _ _ => rfl, fun k hk => absurd hk (Nat.not_lt_zero _), fun _ _ => ⟨rfl, rfl, rfl⟩⟩ ?_ ?_ (by omega)
        · rintro i ⟨x, y⟩ hi ⟨e1, e2, e3, e4⟩
          dsimp only at e1 e2 e3 e4
          subst e1
          refine ⟨(nI (i + 1), upI (upI (upI y 56 i (y.1 56 (i + 1))) 57 i (y.1 57 (i + 1))) 58 i (y.1 58 (i + 1))), ?_, rfl, fun j hj => ?_, fun j hj => ?_, fun j hj => ?_⟩
          · show fX10_back_b46 _ _ = _
            unfold fX10_back_b46
            rw [if_neg (by rw [show (7 : Int32) = nI 7 from rfl, n_le (by decide) (by omega)]; omega), nI_1, gdn (by omega) (by decide), gdn (by omega) (by decide), n_cl (by omega), n_cl (by omega), lt_e, lt_e, lt_e, lt_e]
            rfl
          · simp only [Bool.and_eq_true, bne_iff_ne, ne_eq] at hj
            dsimp only
            rw [upI_o _ _ _ _ hj.2, upI_o _ _ _ _ hj.1.2, upI_o _ _ _ _ hj.1.1]
            exact e2 j (by simp only [Bool.and_eq_true, bne_iff_ne, ne_eq]; exact hj)
          · by_cases c : j = i
            · subst c
              obtain ⟨t1, t2, t3⟩ := e4 (j + 1) (by omega)
              exact ⟨(upI_s _ 56 _ _).trans t1, (upI_s _ 57 _ _).trans t2, (upI_s _ 58 _ _).trans t3⟩
            · obtain ⟨t1, t2, t3⟩ := e3 j (by omega)
              exact ⟨(upI_k _ 56 _ _ c).trans t1, (upI_k _ 57 _ _ c).trans t2, (upI_k _ 58 _ _ c).trans t3⟩
          · obtain ⟨t1, t2, t3⟩ := e4 j (by omega)
            exact ⟨(upI_k _ 56 _ _ (by omega)).trans t1, (upI_k _ 57 _ _ (by omega)).trans t2, (upI_k _ 58 _ _ (by omega)).trans t3⟩
        · rintro ⟨x, y⟩ ⟨e1, e2, e3, e4⟩
          dsimp only at e1 e2 e3 e4
          subst e1
          refine ⟨y, ?_, e2, e3⟩
          show fX10_back_b46 _ _ = _
          unfold fX10_back_b46
          rw [if_pos (show (7 : Int32) ≤ nI 7 by decide)]
      obtain ⟨x, x1, x2, x3⟩ := loop
      have x27 : x.1 42 27 = nI n := by rw [x2 42 rfl]; exact h27
      refine ⟨upI x 42 27 (nI (n - 1)), ?_, upI_s _ _ _ _, ?_, ?_, ?_, fun f h1 h2 h3 h4 => ?_, fun i hi => ?_, x3⟩
      · unfold fX10_back
        rw [h27, if_neg z1, h56, lt_e, show (upI u 42 7 (nI l)).1 57 0 = nI a from h57, lt_e, show (upI (upI u 42 7 (nI l)) 42 8 (nI a)).1 58 0 = nI m from h58, lt_e, x1, bd_e, x27, es, lt_e]
        refine congrArg (fun y => some (y, _)) ?_
        rw [upI_k _ _ _ _ (by decide), x2 42 rfl]; rfl
      · rw [upI_k _ _ _ _ (by decide), x2 42 rfl]; rfl
      · rw [upI_k _ _ _ _ (by decide), x2 42 rfl]; rfl
      · rw [upI_k _ _ _ _ (by decide), x2 42 rfl]; rfl
      · rw [upI_k _ _ _ _ h4, x2 42 rfl, upI_k _ _ _ _ h3, upI_k _ _ _ _ h2, upI_k _ _ _ _ h1]
      · simp only [Bool.and_eq_true, bne_iff_ne, ne_eq] at hi
        rw [upI_o _ _ _ _ hi.1.1.1, x2 i (by simp only [Bool.and_eq_true, bne_iff_ne, ne_eq]; exact ⟨⟨hi.1.1.2, hi.1.2⟩, hi.2⟩), upI_o _ _ _ _ hi.1.1.1, upI_o _ _ _ _ hi.1.1.1, upI_o _ _ _ _ hi.1.1.1]
    obtain ⟨v, b1, b2, b3, b4, b5, b6, b7, b8⟩ := hb (upI (upI (upI (upI w 5 0 (nI (n - 1))) 1 1 (nI l)) 1 5 (nI a)) 1 6 (nI m)) p2 t8 t9 t10
    have k9 : ∀ i, i ≠ 1 → i ≠ 5 → (upI (upI (upI (upI w 5 0 (nI (n - 1))) 1 1 (nI l)) 1 5 (nI a)) 1 6 (nI m)).1 i = w.1 i := fun i h1 h5 => by
      rw [upI_o _ _ _ _ h1, upI_o _ _ _ _ h1, upI_o _ _ _ _ h1, upI_o _ _ _ _ h5]
    refine ⟨_, _, _, aw σ a l m, e9, b1, h.mk2 ?_ t4 ?_ ?_ ?_ ?_ ?_ ?_⟩
    · exact good_aw h.g t1 t2 t3 (by omega)
    · have q := (((CoIs.wr (w := upI w 5 0 (nI (n - 1))) (b := 1) (σ := σ) h.c co1 1 l).wr co1 5 a).wr co1 6 m)
      have e : wr (wr (wr σ 1 l) 5 a) 6 m = aw σ a l m := by
        unfold wr aw
        congr 1
        funext k
        dsimp only
        by_cases h1 : k = 1
        · subst h1; rfl
        · by_cases h5 : k = 5
          · subst h5; rfl
          · by_cases h6 : k = 6
            · subst h6; rfl
            · simp only [if_neg h1, if_neg h5, if_neg h6]
      rw [e] at q
      exact q.eq (b7 1 rfl) (b7 13 rfl) (b7 14 rfl) (b7 15 rfl) (b7 16 rfl)
    · obtain ⟨s1, s2, s3, s4, s5, s6⟩ := h.o
      refine ⟨?_, ⟨?_, b3, b4, b5⟩, ?_, ?_, ?_, ?_⟩
      · rw [b7 44 rfl]; exact s1
      · rw [b6 6 (by decide) (by decide) (by decide) (by decide)]; exact s2.1
      · rw [b7 45 rfl]; exact s3
      · rw [b7 46 rfl]; exact s4
      · rw [b7 47 rfl]; exact s5
      · rw [b7 48 rfl]; exact s6
    · refine ⟨n - 1, by omega, ?_, b2, fun k hk => ?_⟩
      · rw [b7 5 rfl]; rfl
      · obtain ⟨l', a', m', u1, u2, u3, u4, ⟨u5, u6, u7⟩, u8, u9, u10⟩ := p3 (k + 1) (by omega)
        rw [show n - 1 - (k + 1) = n - 1 - 1 - k by omega] at u5 u6 u7
        obtain ⟨r1, r2, r3⟩ := b8 k (by omega)
        refine ⟨l', a', m', u1, u2, u3, u4, ⟨?_, ?_, ?_⟩, r1.trans u8, r2.trans u9, r3.trans u10⟩
        · rw [b7 30 rfl]; exact u5
        · rw [b7 31 rfl]; exact u6
        · rw [b7 32 rfl]; exact u7
    · intro i hi
      simp only [Bool.or_eq_true, beq_iff_eq] at hi
      rw [b7 i (by simp only [Bool.and_eq_true, bne_iff_ne, ne_eq]; omega), k9 i (by omega) (by omega)]
    · intro f hf
      simp only [Bool.or_eq_true, beq_iff_eq] at hf
      rw [b6 f (by omega) (by omega) (by omega) (by omega), k9 42 (by decide) (by decide)]
    · intro q _
      rw [b7 53 rfl, k9 53 (by decide) (by decide)]
end

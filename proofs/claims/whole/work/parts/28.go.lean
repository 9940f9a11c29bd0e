/-! go, back -/
section
variable {w w1 w2 : Wd} {σ τ : St} {b : Nat}
/-- a minute of the class's people -/
theorem c_passMinute (hb : isCo b) (hC : CoIs w b σ) (hg : good σ) (ha : sA σ < sD σ) (x : Int32) : ∃ w1, fX8_passMinute b w x = some w1 ∧ CoIs w1 b (aw σ (sA σ + if x = 0 then 1 else 0) (mnt σ (sA σ) (sL σ)) (sM σ + 1)) := by
  have hb1 : b = 1 ∨ b = 2 ∨ b = 3 := hb
  obtain ⟨v1, a1, a2⟩ := c_setOut hb hC hg
  have hC1 : CoIs v1 b σ := by
    have fr := rX8_setOut a1
    have k : ∀ i, (i < 4 ∨ (13 ≤ i ∧ i ≤ 24)) → v1.1 i = w.1 i := fun i hi => (fr.cell i (by
      rw [List.all_eq_true]
      intro q hq
      have : q.1 = 4 ∨ 24 < q.1 := (by decide : ∀ q, q ∈ pX8_setOut → q.1 = 4 ∨ 24 < q.1) q hq
      simp only [bne_iff_ne, ne_eq]; omega)).1
    exact hC.eq (k _ (by omega)) (k _ (by omega)) (k _ (by omega)) (k _ (by omega)) (k _ (by omega))
  obtain ⟨v2, b1, -⟩ := c_minute a2 hg hg.L (Nat.le_refl (sA σ)) ha
  have hC2 : CoIs v2 b σ := by
    have fr := rX8_minuteAt b1
    have k : ∀ i, (i < 4 ∨ (13 ≤ i ∧ i ≤ 24)) → v2.1 i = v1.1 i := fun i hi => (fr.cell i (by
      rw [List.all_eq_true]
      intro q hq
      have : q.1 = 4 ∨ 24 < q.1 := (by decide : ∀ q, q ∈ pX8_minuteAt → q.1 = 4 ∨ 24 < q.1) q hq
      simp only [bne_iff_ne, ne_eq]; omega)).1
    exact hC1.eq (k _ (by omega)) (k _ (by omega)) (k _ (by omega)) (k _ (by omega)) (k _ (by omega))
  have hC3 := hC2.wr hb 1 (mnt σ (sA σ) (sL σ))
  have hC4 := hC3.wr hb 6 (sM σ + 1)
  unfold fX8_passMinute
  have e6 : (upI v2 b 1 (nI (mntU σ (uns σ) (sA σ) (sL σ)))).1 b 6 + 1 = nI (sM σ + 1) := by
    rw [show (upI v2 b 1 (nI (mntU σ (uns σ) (sA σ) (sL σ)))).1 b 6 = nI (sM σ) from hC3.Mi, nI_1]
  rw [a1, bd_e, hC1.Pl, hC1.L, b1, bd_e, un2_e, lt_e, e6, lt_e]
  by_cases c : x = 0
  · rw [if_pos c, if_pos c]
    have e5 : (upI (upI v2 b 1 (nI (mntU σ (uns σ) (sA σ) (sL σ)))) b 6 (nI (sM σ + 1))).1 b 5 + 1 = nI (sA σ + 1) := by
      rw [show (upI (upI v2 b 1 (nI (mntU σ (uns σ) (sA σ) (sL σ)))) b 6 (nI (sM σ + 1))).1 b 5 = nI (sA σ) from hC4.Pl, nI_1]
    rw [e5, lt_e]
    have hC5 := hC4.wr hb 5 (sA σ + 1)
    refine ⟨_, rfl, ?_⟩
    have e : wr (wr (wr σ 1 (mnt σ (sA σ) (sL σ))) 6 (sM σ + 1)) 5 (sA σ + 1) = aw σ (sA σ + 1) (mnt σ (sA σ) (sL σ)) (sM σ + 1) := by
      unfold wr aw
      congr 1
      funext k
      dsimp only
      by_cases h1 : k = 1
      · subst h1; rfl
      · by_cases h5 : k = 5
        · subst h5; rfl
        · by_cases h6 : k = 6
          · subst h6; rfl
          · simp only [if_neg h1, if_neg h5, if_neg h6]
    rw [e] at hC5
    exact hC5
  · rw [if_neg c, if_neg c]
    refine ⟨_, rfl, ?_⟩
    have e : wr (wr σ 1 (mnt σ (sA σ) (sL σ))) 6 (sM σ + 1) = aw σ (sA σ + 0) (mnt σ (sA σ) (sL σ)) (sM σ + 1) := by
      unfold wr aw
      congr 1
      funext k
      dsimp only
      by_cases h1 : k = 1
      · subst h1; rfl
      · by_cases h5 : k = 5
        · subst h5; rfl
        · by_cases h6 : k = 6
          · subst h6; rfl
          · simp only [if_neg h1, if_neg h5, if_neg h6]
    rw [e] at hC4
    exact hC4
/-- the class's past: the oldest is dropped -/
theorem c_drop (h0 : w.1 5 0 = nI 8) : ∃ w1, fX5_dropOldest w = some w1 ∧ w1.1 5 0 = nI 7 ∧ ∀ j, j < 7 → w1.1 30 j = w.1 30 (j + 1) ∧ w1.1 31 j = w.1 31 (j + 1) ∧ w1.1 32 j = w.1 32 (j + 1) := by
  unfold fX5_dropOldest
  refine itnb (fun n s => s.1 = nI (n + 1) ∧ s.2.1 5 0 = nI 8 ∧ (∀ j, j < n → s.2.1 30 j = w.1 30 (j + 1) ∧ s.2.1 31 j = w.1 31 (j + 1) ∧ s.2.1 32 j = w.1 32 (j + 1)) ∧ ∀ j, n ≤ j → s.2.1 30 j = w.1 30 j ∧ s.2.1 31 j = w.1 31 j ∧ s.2.1 32 j = w.1 32 j) (fun x => x.1 5 0 = nI 8 ∧ ∀ j, j < 7 → x.1 30 j = w.1 30 (j + 1) ∧ x.1 31 j = w.1 31 (j + 1) ∧ x.1 32 j = w.1 32 (j + 1)) 7 ⟨rfl, h0, fun j hj => absurd hj (Nat.not_lt_zero _), fun _ _ => ⟨rfl, rfl, rfl⟩⟩ ?_ ?_ (by omega) ?_
  · rintro n ⟨x, v⟩ hn ⟨e1, e2, e3, e4⟩
    dsimp only at e1 e2 e3 e4
    subst e1
    refine ⟨(nI (n + 2), upI (upI (upI v 30 n (v.1 30 (n + 1))) 31 n (v.1 31 (n + 1))) 32 n (v.1 32 (n + 1))), ?_, rfl, e2, fun j hj => ?_, fun j hj => ?_⟩
    · show fX5_dropOldest_b2 _ _ = _
      unfold fX5_dropOldest_b2
      have es : nI (n + 1) - 1 = nI n := by rw [c1, n_sub (by omega)]; rfl
      rw [e2, if_neg (by rw [n_le (by decide) (by omega)]; omega), gdn (by omega) (by decide), es, gdn (by omega) (by decide), n_cl (by omega), n_cl (by omega), lt_e, lt_e, lt_e, lt_e, nI_1]
      rfl
    · by_cases c : j = n
      · subst c
        obtain ⟨t1, t2, t3⟩ := e4 (j + 1) (by omega)
        exact ⟨(upI_s _ _ _ _).trans t1, (upI_s _ _ _ _).trans t2, (upI_s _ _ _ _).trans t3⟩
      · obtain ⟨t1, t2, t3⟩ := e3 j (by omega)
        exact ⟨(upI_k _ _ _ _ c).trans t1, (upI_k _ _ _ _ c).trans t2, (upI_k _ _ _ _ c).trans t3⟩
    · obtain ⟨t1, t2, t3⟩ := e4 j (by omega)
      exact ⟨(upI_k _ _ _ _ (by omega)).trans t1, (upI_k _ _ _ _ (by omega)).trans t2, (upI_k _ _ _ _ (by omega)).trans t3⟩
  · rintro ⟨x, v⟩ ⟨e1, e2, e3, e4⟩
    dsimp only at e1 e2 e3 e4
    subst e1
    refine ⟨v, ?_, e2, e3⟩
    show fX5_dropOldest_b2 _ _ = _
    unfold fX5_dropOldest_b2
    rw [e2, if_pos (show nI 8 ≤ nI (7 + 1) by decide)]
  · rintro x ⟨e1, e2⟩
    rw [e1, lt_e]
    exact ⟨_, rfl, by rw [upI_s, c1, n_sub (by decide)], e2⟩
theorem c_keep {n : Nat} (hn : n ≤ 8) (h0 : w.1 5 0 = nI n) (hC : CoIs w 1 σ) : ∃ w1, fX5_keep 1 w = some w1 ∧ w1.1 5 0 = nI (min 8 (n + 1)) ∧ (w1.1 30 (min 8 (n + 1) - 1) = nI (sL σ) ∧ w1.1 31 (min 8 (n + 1) - 1) = nI (sA σ) ∧ w1.1 32 (min 8 (n + 1) - 1) = nI (sM σ)) ∧ ∀ k, k + 1 < min 8 (n + 1) → w1.1 30 (min 8 (n + 1) - 1 - (k + 1)) = w.1 30 (n - 1 - k) ∧ w1.1 31 (min 8 (n + 1) - 1 - (k + 1)) = w.1 31 (n - 1 - k) ∧ w1.1 32 (min 8 (n + 1) - 1 - (k + 1)) = w.1 32 (n - 1 - k) := by
  have core : ∀ (v : Wd) (m : Nat), m < 8 → v.1 5 0 = nI m → CoIs v 1 σ → fX5_keep_j13 1 v = some (upI (upI (upI (upI v 30 m (nI (sL σ))) 31 m (nI (sA σ))) 32 m (nI (sM σ))) 5 0 (nI (m + 1))) := fun v m hm h5 hv => by
    have q1 : ∀ x y : Wd, True := fun _ _ => trivial
    unfold fX5_keep_j13
    rw [h5, gdn hm (by decide), n_cl (by omega), hv.L, lt_e, show (upI v 30 m (nI (sL σ))).1 5 0 = nI m from h5, gdn hm (by decide), n_cl (by omega), show (upI v 30 m (nI (sL σ))).1 1 5 = nI (sA σ) from hv.Pl, lt_e, show (upI (upI v 30 m (nI (sL σ))) 31 m (nI (sA σ))).1 5 0 = nI m from h5, gdn hm (by decide), n_cl (by omega), show (upI (upI v 30 m (nI (sL σ))) 31 m (nI (sA σ))).1 1 6 = nI (sM σ) from hv.Mi, lt_e, show (upI (upI (upI v 30 m (nI (sL σ))) 31 m (nI (sA σ))) 32 m (nI (sM σ))).1 5 0 = nI m from h5, lt_e, nI_1]
  unfold fX5_keep
  by_cases c : n = 8
  · subst c
    rw [h0, if_pos (show nI 8 = 8 from rfl)]
    obtain ⟨v, a1, a2, a3⟩ := c_drop h0
    have hv : CoIs v 1 σ := by
      have fr := rX5_dropOldest a1
      exact hC.eq (fr.cell 1 (by decide)).1 (fr.cell _ (by decide)).1 (fr.cell _ (by decide)).1 (fr.cell _ (by decide)).1 (fr.cell _ (by decide)).1
    rw [a1, bd_e, core v 7 (by decide) a2 hv]
    refine ⟨_, rfl, rfl, ⟨rfl, rfl, rfl⟩, fun k hk => ?_⟩
    have hk7 : k < 7 := by omega
    obtain ⟨t1, t2, t3⟩ := a3 (6 - k) (by omega)
    have e1 : min 8 (8 + 1) - 1 - (k + 1) = 6 - k := by omega
    have e2 : 8 - 1 - k = 6 - k + 1 := by omega
    rw [e1, e2]
    exact ⟨(upI_k _ 30 7 _ (by omega)).trans t1, (upI_k _ 31 7 _ (by omega)).trans t2, (upI_k _ 32 7 _ (by omega)).trans t3⟩
  · rw [h0, if_neg (by rw [c8, n_eq (by omega) (by decide)]; exact c), core w n (by omega) h0 hC]
    have e0 : min 8 (n + 1) = n + 1 := by omega
    rw [e0]
    refine ⟨_, rfl, rfl, ⟨?_, ?_, ?_⟩, fun k hk => ?_⟩
    · exact upI_s _ 30 n _
    · exact upI_s _ 31 n _
    · exact upI_s _ 32 n _
    · have e1 : n + 1 - 1 - (k + 1) = n - 1 - k := by omega
      rw [e1]
      exact ⟨upI_k _ 30 n _ (by omega), upI_k _ 31 n _ (by omega), upI_k _ 32 n _ (by omega)⟩
theorem m_keeps {n : Nat} (hn : n ≤ 8) (h0 : w.1 42 27 = nI n) (hM : MoIs w σ) : ∃ w1, fX10_keepsMinute w = some w1 ∧ w1.1 42 27 = nI (min 8 (n + 1)) ∧ (w1.1 56 0 = nI (sL σ) ∧ w1.1 57 0 = nI (sA σ) ∧ w1.1 58 0 = nI (sM σ)) ∧ ∀ k, k < 7 → w1.1 56 (k + 1) = w.1 56 k ∧ w1.1 57 (k + 1) = w.1 57 k ∧ w1.1 58 (k + 1) = w.1 58 k := by
  unfold fX10_keepsMinute
  refine itnb (fun m s => s.1 = nI (7 - m) ∧ (∀ f, s.2.1 42 f = w.1 42 f) ∧ (∀ j, 7 - m < j → j < 8 → s.2.1 56 j = w.1 56 (j - 1) ∧ s.2.1 57 j = w.1 57 (j - 1) ∧ s.2.1 58 j = w.1 58 (j - 1)) ∧ ∀ j, j ≤ 7 - m → s.2.1 56 j = w.1 56 j ∧ s.2.1 57 j = w.1 57 j ∧ s.2.1 58 j = w.1 58 j) (fun x => (∀ f, x.1 42 f = w.1 42 f) ∧ ∀ j, 0 < j → j < 8 → x.1 56 j = w.1 56 (j - 1) ∧ x.1 57 j = w.1 57 (j - 1) ∧ x.1 58 j = w.1 58 (j - 1)) 7 ⟨rfl, fun _ => rfl, fun j h1 h2 => by omega, fun _ _ => ⟨rfl, rfl, rfl⟩⟩ ?_ ?_ (by omega) ?_
  · rintro m ⟨x, v⟩ hm ⟨e1, e2, e3, e4⟩
    dsimp only at e1 e2 e3 e4
    subst e1
    have hp : 0 < 7 - m := by omega
    refine ⟨(nI (7 - m - 1), upI (upI (upI v 56 (7 - m) (v.1 56 (7 - m - 1))) 57 (7 - m) (v.1 57 (7 - m - 1))) 58 (7 - m) (v.1 58 (7 - m - 1))), ?_, by rw [show 7 - (m + 1) = 7 - m - 1 by omega], e2, fun j h1 h2 => ?_, fun j hj => ?_⟩
    · show fX10_keepsMinute_b3 _ _ = _
      unfold fX10_keepsMinute_b3
      have es : nI (7 - m) - 1 = nI (7 - m - 1) := by rw [c1, n_sub (by omega)]
      rw [if_neg (by rw [c0, n_le (by omega) (by decide)]; omega), es, gdn (by omega) (by decide), gdn (by omega) (by decide), n_cl (by omega), n_cl (by omega), lt_e, lt_e, lt_e, n_m1 hp, lt_e]
      rfl
    · by_cases c : j = 7 - m
      · subst c
        obtain ⟨t1, t2, t3⟩ := e4 (7 - m - 1) (by omega)
        exact ⟨(upI_s _ 56 _ _).trans t1, (upI_s _ 57 _ _).trans t2, (upI_s _ 58 _ _).trans t3⟩
      · obtain ⟨t1, t2, t3⟩ := e3 j (by omega) h2
        exact ⟨(upI_k _ 56 _ _ c).trans t1, (upI_k _ 57 _ _ c).trans t2, (upI_k _ 58 _ _ c).trans t3⟩
    · obtain ⟨t1, t2, t3⟩ := e4 j (by omega)
      exact ⟨(upI_k _ 56 _ _ (by omega)).trans t1, (upI_k _ 57 _ _ (by omega)).trans t2, (upI_k _ 58 _ _ (by omega)).trans t3⟩
  · rintro ⟨x, v⟩ ⟨e1, e2, e3, e4⟩
    dsimp only at e1 e2 e3 e4
    subst e1
    refine ⟨v, ?_, e2, fun j h1 h2 => e3 j (by omega) h2⟩
    show fX10_keepsMinute_b3 _ _ = _
    unfold fX10_keepsMinute_b3
    rw [if_pos (show nI (7 - 7) ≤ 0 by decide)]
  · rintro x ⟨e1, e2⟩
    have f7 : x.1 42 7 = nI (sL σ) := (e1 7).trans hM.L
    have f8 : x.1 42 8 = nI (sA σ) := (e1 8).trans hM.A
    have f9 : x.1 42 9 = nI (sM σ) := (e1 9).trans hM.M
    have f27 : x.1 42 27 = nI n := (e1 27).trans h0
    rw [f7, lt_e, show (upI x 56 0 (nI (sL σ))).1 42 8 = nI (sA σ) from f8, lt_e, show (upI (upI x 56 0 (nI (sL σ))) 57 0 (nI (sA σ))).1 42 9 = nI (sM σ) from f9, lt_e, show (upI (upI (upI x 56 0 (nI (sL σ))) 57 0 (nI (sA σ))) 58 0 (nI (sM σ))).1 42 27 = nI n from f27]
    have fin : ∀ r : Int32, r = nI (min 8 (n + 1)) → ∃ o, fX10_keepsMinute_j106 (upI (upI (upI x 56 0 (nI (sL σ))) 57 0 (nI (sA σ))) 58 0 (nI (sM σ))) r = some o ∧ (o.1 42 27 = nI (min 8 (n + 1)) ∧ (o.1 56 0 = nI (sL σ) ∧ o.1 57 0 = nI (sA σ) ∧ o.1 58 0 = nI (sM σ)) ∧ ∀ k, k < 7 → o.1 56 (k + 1) = w.1 56 k ∧ o.1 57 (k + 1) = w.1 57 k ∧ o.1 58 (k + 1) = w.1 58 k) := fun r hr => by
      unfold fX10_keepsMinute_j106
      refine ⟨_, rfl, by rw [upI_s, hr], ⟨rfl, rfl, rfl⟩, fun k hk => ?_⟩
      exact e2 (k + 1) (by omega) (by omega)
    by_cases c : 8 ≤ n
    · rw [if_pos (by rw [c8, n_le (by decide) (by omega)]; exact c)]
      exact fin _ (by rw [show min 8 (n + 1) = 8 by omega]; rfl)
    · rw [if_neg (by rw [c8, n_le (by decide) (by omega)]; exact c), nI_1]
      exact fin _ (by rw [show min 8 (n + 1) = n + 1 by omega])
end

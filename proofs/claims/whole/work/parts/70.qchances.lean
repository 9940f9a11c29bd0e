/-! chances: both -/
section
variable {w w1 w2 : Wd} {σ τ : St} {b : Nat}
theorem cst_0 (h : MoIs w σ) : MoIs w (cst σ 0) := ⟨h.1, ⟨h.P, h.L, h.A, h.M⟩, h.2.2⟩
theorem m_weigh (hg : good σ) (h4 : sP σ ≤ 4) (hM : MoIs w σ) {n : Nat} (hn : n ≤ sD σ - sA σ) (h63 : ∀ t, t < 16 → w.2 63 t = lN (wtN σ 0 t)) : ∃ x, iter (fun s : Int64 × Int32 × Wd => fX10_chances_b126 (nI n) s.1 s.2.1 s.2.2) FU (1, 0, w) = some x ∧ x.1 = lN ((10 ^ sP σ) ^ n) ∧ MoIs x.2 (cst σ n) ∧ Mq w x.2 ∧ ∀ t, t < 16 → x.2.2 63 t = lN (wtN σ n t) := by
  have hD := hg.D
  refine itn (fun m (s : Int64 × Int32 × Wd) => s.1 = lN ((10 ^ sP σ) ^ m) ∧ s.2.1 = nI m ∧ MoIs s.2.2 (cst σ m) ∧ Mq w s.2.2 ∧ ∀ t, t < 16 → s.2.2.2 63 t = lN (wtN σ m t)) (fun (x : Int64 × Wd) => x.1 = lN ((10 ^ sP σ) ^ n) ∧ MoIs x.2 (cst σ n) ∧ Mq w x.2 ∧ ∀ t, t < 16 → x.2.2 63 t = lN (wtN σ n t)) n ⟨rfl, rfl, cst_0 hM, Ag.rf, h63⟩ ?_ ?_ (by omega)
  · rintro m ⟨l, x, y⟩ hm ⟨e1, e2, e3, e4, e5⟩
    dsimp only at e1 e2 e3 e4 e5
    subst e1; subst e2
    obtain ⟨y1, b1, b2, b3⟩ := m_goesCh hg h4 e3 (by omega) (wt_z hg h4 m) e5
    have q1 : Mq y y1 := Mq.of (rX10_goesChances b1) (by decide)
    have h8 := hg.P
    have e6 : iter (fun s : Int64 × Int32 => fX10_chances_b139 y1 s.1 s.2) FU (lN ((10 ^ sP σ) ^ m), 0) = some (lN ((10 ^ sP σ) ^ (m + 1))) := by
      refine itf (fun p => (lN ((10 ^ sP σ) ^ m * 10 ^ p), nI p)) _ (sP σ) (by rw [Nat.pow_zero, Nat.mul_one]; rfl) (fun p hp => ?_) ?_ (by omega)
      · show fX10_chances_b139 _ _ _ = _
        unfold fX10_chances_b139
        rw [b2.P, if_neg (by show ¬ nI (sP σ) ≤ nI p; rw [n_le (by omega) (by omega)]; omega), show (10 : Int64) = lN 10 from rfl, lN_mul, lt_e, nI_1, lt_e, Nat.pow_succ 10 p, Nat.mul_assoc]
      · show fX10_chances_b139 _ _ _ = _
        unfold fX10_chances_b139
        rw [b2.P, if_pos (by show nI (sP σ) ≤ nI (sP σ); rw [n_le (by omega) (by omega)]; exact Nat.le_refl _), Nat.pow_succ]
    refine ⟨(lN ((10 ^ sP σ) ^ (m + 1)), nI (m + 1), y1), ?_, rfl, rfl, b2, e4.tr q1, b3⟩
    show fX10_chances_b126 _ _ _ _ = _
    unfold fX10_chances_b126
    rw [if_neg (by rw [n_le (by omega) (by omega)]; omega), b1, bd_e, e6, bd_e, nI_1, lt_e]
  · rintro ⟨l, x, y⟩ ⟨e1, e2, e3, e4, e5⟩
    dsimp only at e1 e2 e3 e4 e5
    subst e1; subst e2
    refine ⟨(lN ((10 ^ sP σ) ^ n), y), ?_, rfl, e3, e4, e5⟩
    show fX10_chances_b126 _ _ _ _ = _
    unfold fX10_chances_b126
    rw [if_pos (by rw [n_le (by omega) (by omega)]; exact Nat.le_refl _)]
theorem cP_pos : 0 < cP σ := Nat.pow_pos (by decide)
theorem ch_eq (h4 : sP σ ≤ 4) (n p q : Nat) : (if q = 0 then upN σ n p 15 else (10 ^ sP σ) ^ n) / Nat.gcd (upN σ n p 15) ((10 ^ sP σ) ^ n) = chN σ n p q := by
  have hc : 0 < cP σ ^ n := Nat.pow_pos cP_pos
  have e1 : 10000 ^ n = cP σ ^ n * (10 ^ sP σ) ^ n := by rw [← Nat.mul_pow, cP_10 h4]
  have e2 : (if q = 0 then cP σ ^ n * upN σ n p 15 else cP σ ^ n * (10 ^ sP σ) ^ n) = cP σ ^ n * (if q = 0 then upN σ n p 15 else (10 ^ sP σ) ^ n) := by split <;> rfl
  unfold chN
  rw [e1, e2, Nat.gcd_mul_left, Nat.mul_div_mul_left _ _ hc, Nat.gcd_comm]
theorem m_sum {n p : Nat} (hp : p < 2) (h63 : ∀ t, t < 16 → w.2 63 t = lN (wtN σ n t)) : iter (fun s : Int64 × Int32 => fX10_chances_b180 (nI p) w s.1 s.2) FU (0, 1) = some (lN (upN σ n p 15)) := by
  refine itf (fun i => (lN (upN σ n p i), nI (i + 1))) (lN (upN σ n p 15)) 15 rfl (fun i hi => ?_) ?_ (by decide)
  · have := pop16 i hi
    have e1 : (if nI p = 0 then some (1 : Int32) else (fX10_bits (nI (i + 1))).bind fun (r49 : Int32) => some r49 : Option Int32) = some (nI (if p = 1 then pop (i + 1) else 1)) := by
      rcases (by omega : p = 0 ∨ p = 1) with rfl | rfl
      · rw [if_pos (show nI 0 = 0 from rfl), if_neg (show ¬ (0 : Nat) = 1 by decide)]; rfl
      · rw [if_neg (show ¬ nI 1 = 0 by decide), pop_m _ (by omega), bd_e, if_pos (show (1 : Nat) = 1 from rfl)]
    have e2 : (if p = 1 then pop (i + 1) else 1) ≤ 4 := by split <;> omega
    have e3 : upN σ n p (i + 1) = upN σ n p i + wtN σ n (i + 1) * (if p = 1 then pop (i + 1) else 1) := rfl
    show fX10_chances_b180 _ _ _ _ = _
    unfold fX10_chances_b180
    dsimp only
    rw [if_neg (by rw [show (16 : Int32) = nI 16 from rfl, n_le (by decide) (by omega)]; omega), gdn (by omega) (by decide), e1, bd_e, n_cl (by omega), h63 _ (by omega), nI_l (by omega), lN_mul, lN_add, lt_e, nI_1, lt_e, e3]
  · show fX10_chances_b180 _ _ _ _ = _
    unfold fX10_chances_b180
    dsimp only
    rw [if_pos (show (16 : Int32) ≤ nI (15 + 1) by decide)]
theorem pickL {q a c : Nat} (hq : q < 2) : (if nI q = 0 then lN a else lN c) = lN (if q = 0 then a else c) := by
  rcases (by omega : q = 0 ∨ q = 1) with rfl | rfl
  · rw [if_pos (show nI 0 = 0 from rfl), if_pos (show (0 : Nat) = 0 from rfl)]
  · rw [if_neg (show ¬ nI 1 = 0 by decide), if_neg (show ¬ (1 : Nat) = 0 by decide)]
theorem m_init (hg : good σ) (h4 : sP σ ≤ 4) (hM : MoIs w σ) : ∃ v, iter (fun s : Int32 × Wd => fX10_chances_b86 s.1 s.2) FU (0, w) = some v ∧ v.1 = w.1 ∧ ∀ t, t < 16 → v.2 63 t = lN (wtN σ 0 t) := by
  have hL := hg.L
  have hp16 := p16 h4
  refine itn (fun k (s : Int32 × Wd) => s.1 = nI k ∧ s.2.1 = w.1 ∧ ∀ t, t < k → s.2.2 63 t = lN (wtN σ 0 t)) (fun (v : Wd) => v.1 = w.1 ∧ ∀ t, t < 16 → v.2 63 t = lN (wtN σ 0 t)) 16 ⟨rfl, rfl, fun t ht => absurd ht (Nat.not_lt_zero _)⟩ ?_ ?_ (by decide)
  · rintro k ⟨x, v⟩ hk ⟨e1, e2, e3⟩
    dsimp only at e1 e2 e3
    subst e1
    refine ⟨(nI (k + 1), upJ v 63 k (lN (wtN σ 0 k))), ?_, rfl, e2, fun t ht => ?_⟩
    · have ev : (if nI k = v.1 42 7 then (1 : Int64) else 0) = lN (wtN σ 0 k) := by
        rw [e2, hM.L]
        unfold wtN
        by_cases c : k = sL σ
        · rw [if_pos c, if_pos (by rw [c])]; rfl
        · rw [if_neg c, if_neg (by rw [n_eq (by omega) (by omega)]; exact c)]; rfl
      show fX10_chances_b86 _ _ = _
      unfold fX10_chances_b86
      rw [if_neg (by rw [show (16 : Int32) = nI 16 from rfl, n_le (by decide) (by omega)]; omega), ev, lt_e, gdn (by omega) (by decide), n_cl (by omega), lt_e, nI_1, lt_e]
    · dsimp only
      by_cases d : t = k
      · subst d; rw [upJ_s]
      · rw [upJ_k _ _ _ _ d]; exact e3 t (by omega)
  · rintro ⟨x, v⟩ ⟨e1, e2, e3⟩
    dsimp only at e1 e2 e3
    subst e1
    refine ⟨v, ?_, e2, e3⟩
    show fX10_chances_b86 _ _ = _
    unfold fX10_chances_b86
    rw [if_pos (show (16 : Int32) ≤ nI 16 by decide)]
theorem m_chances (hg : good σ) (h4 : sP σ ≤ 4) (hM : MoIs w σ) {n p q : Nat} (hn : n ≤ 3) (hn2 : n ≤ sD σ - sA σ) (hp : p < 2) (hq : q < 2) : ∃ w1, fX10_chances_j65 (nI n) (nI p) (nI q) w 0 = some (lN (chN σ n p q), w1) ∧ MoIs w1 σ ∧ Mq w w1 := by
  have hA := hM.A
  obtain ⟨v, f0, f1, f2⟩ := m_init hg h4 hM
  have hv : MoIs v σ := by unfold MoIs at hM ⊢; rw [f1]; exact hM
  have qv : Mq w v := fun i k _ => by rw [f1]
  obtain ⟨⟨l, y⟩, a1, a2, a3, a4, a5⟩ := m_weigh hg h4 hv hn2 f2
  dsimp only at a2 a3 a4 a5
  subst a2
  have hb := upN_le hg h4 hn p
  have hc : 0 < cP σ ^ n := Nat.pow_pos cP_pos
  have k3 : (4 : Nat) * 160000 ^ 3 < 2 ^ 62 := by decide
  have k4 : (10000 : Nat) ^ 3 < 2 ^ 62 := by decide
  have hu : upN σ n p 15 ≤ cP σ ^ n * upN σ n p 15 := Nat.le_mul_of_pos_left _ hc
  have hd : (10 ^ sP σ) ^ n ≤ 10000 ^ 3 := by
    have e1 : 10000 ^ n = cP σ ^ n * (10 ^ sP σ) ^ n := by rw [← Nat.mul_pow, cP_10 h4]
    have e2 : (10 ^ sP σ) ^ n ≤ cP σ ^ n * (10 ^ sP σ) ^ n := Nat.le_mul_of_pos_left _ hc
    have e3 := (p10k hn).2
    omega
  have hd0 : 0 < (10 ^ sP σ) ^ n := Nat.pow_pos (Nat.pow_pos (by decide))
  have hM2 : MoIs (upI y 42 8 (nI (sA σ))) σ := by
    obtain ⟨t1, t2, t3⟩ := a3
    exact ⟨t1, ⟨t2.1, t2.2.1, upI_s _ _ _ _, t2.2.2.2⟩, t3⟩
  have q2 : Mq y (upI y 42 8 (nI (sA σ))) := Mq.mk1 (fun i h1 h2 h3 => upI_o _ _ _ _ h1) (fun f hf => upI_k _ _ _ _ (by omega)) (fun q hq => congrFun (upI_o _ _ _ _ (by decide)) _)
  have hG : 0 < Nat.gcd (upN σ n p 15) ((10 ^ sP σ) ^ n) := Nat.gcd_pos_of_pos_right _ hd0
  have hG2 : Nat.gcd (upN σ n p 15) ((10 ^ sP σ) ^ n) ≤ (10 ^ sP σ) ^ n := Nat.le_of_dvd hd0 (Nat.gcd_dvd_right _ _)
  have e8 : (if q = 0 then upN σ n p 15 else (10 ^ sP σ) ^ n) < 2 ^ 62 := by split <;> omega
  have nz : ¬ lN (Nat.gcd (upN σ n p 15) ((10 ^ sP σ) ^ n)) = 0 := fun e => by
    have := (pk_lEQ (by omega) (by decide)).mp (e.trans lN0.symm)
    omega
  refine ⟨upI y 42 8 (nI (sA σ)), ?_, hM2, (qv.tr a4).tr q2⟩
  unfold fX10_chances_j65
  rw [if_pos rfl, lt_e, f0, bd_e, a1, bd_e, un2_e, hA, lt_e, m_sum hp (fun t ht => by rw [← a5 t ht]; rfl), bd_e, pickL hq, lt_e, m_gcd (by omega) (by omega), bd_e, gd_t (by simp [nz]), pk_lDiv (by omega) hG (by omega), ch_eq h4]
end

/-! chances: the class, the weights and the answer -/
section
variable {w w1 w2 : Wd} {σ τ : St} {b : Nat}
theorem WkU.eq3 {u : Nat → Nat} (h : WkU w σ u) (e4 : w1.1 4 = w.1 4) (e28 : w1.1 28 = w.1 28) (e27 : w1.1 27 = w.1 27) : WkU w1 σ u := by
  unfold WkU at h ⊢
  rw [e4, e28, e27]
  exact h
theorem cP_10 (h4 : sP σ ≤ 4) : cP σ * 10 ^ sP σ = 10000 := by
  show 10 ^ (4 - sP σ) * 10 ^ sP σ = 10000
  rw [← Nat.pow_add, show 4 - sP σ + sP σ = 4 by omega]
theorem c_passCh (hg : good σ) (h4 : sP σ ≤ 4) {a C : Nat} {W : Nat → Nat} (hWz : ∀ t, 2 ^ sP σ ≤ t → W t = 0) {u : Wd} (hW : WkIs u σ) (h41 : ∀ p, p < 4 → u.1 41 p = nI (teN σ a p)) (h39 : ∀ t, t < 16 → u.2 39 t = lN (C * W t)) : ∃ u1, fX0_passChances u = some u1 ∧ WkIs u1 σ ∧ FrC u u1 ∧ u1.2 11 = u.2 11 ∧ ∀ t, t < 16 → u1.2 39 t = lN (C * cP σ * smN (fun set => smN (tmN σ a W t set) 16) 16) := by
  unfold fX0_passChances
  refine itnb (fun k (s : Int32 × Wd) => s.1 = nI k ∧ s.2.1 = u.1 ∧ (∀ i, i ≠ 40 → s.2.2 i = u.2 i) ∧ ∀ t, t < k → s.2.2 40 t = 0) (fun (v : Wd) => v.1 = u.1 ∧ (∀ i, i ≠ 40 → v.2 i = u.2 i) ∧ ∀ t, t < 16 → v.2 40 t = 0) 16 ⟨rfl, rfl, fun _ _ => rfl, fun t ht => absurd ht (Nat.not_lt_zero _)⟩ ?_ ?_ (by decide) ?_
  · rintro k ⟨x, v⟩ hk ⟨e1, e2, e3, e4⟩
    dsimp only at e1 e2 e3 e4
    subst e1
    refine ⟨(nI (k + 1), upJ v 40 k 0), ?_, rfl, e2, fun i hi => (upJ_o _ _ _ _ hi).trans (e3 i hi), fun t ht => ?_⟩
    · show fX0_passChances_b2 _ _ = _
      unfold fX0_passChances_b2
      rw [if_neg (by rw [show (16 : Int32) = nI 16 from rfl, n_le (by decide) (by omega)]; omega), gdn (by omega) (by decide), n_cl (by omega), lt_e, nI_1, lt_e]
    · dsimp only
      by_cases d : t = k
      · subst d; rw [upJ_s]
      · rw [upJ_k _ _ _ _ d]; exact e4 t (by omega)
  · rintro ⟨x, v⟩ ⟨e1, e2, e3, e4⟩
    dsimp only at e1 e2 e3 e4
    subst e1
    refine ⟨v, ?_, e2, e3, e4⟩
    show fX0_passChances_b2 _ _ = _
    unfold fX0_passChances_b2
    rw [if_pos (show (16 : Int32) ≤ nI 16 by decide)]
  · rintro v ⟨f1, f2, f3⟩
    have hv : WkIs v σ := hW.eq3 (by rw [f1]) (by rw [f1]) (by rw [f1])
    refine itnb (fun k (s : Int32 × Wd) => s.1 = nI k ∧ WkIs s.2 σ ∧ FrC u s.2 ∧ (s.2.2 39 = u.2 39 ∧ s.2.2 11 = u.2 11) ∧ ∀ t, t < 16 → s.2.2 40 t = lN (C * cP σ * pcN σ a W t k)) (fun (y : Wd) => WkIs y σ ∧ FrC u y ∧ (y.2 39 = u.2 39 ∧ y.2 11 = u.2 11) ∧ ∀ t, t < 16 → y.2 40 t = lN (C * cP σ * pcN σ a W t 16)) 16 ⟨rfl, hv, fun i _ _ => by rw [f1], ⟨f2 39 (by decide), f2 11 (by decide)⟩, fun t ht => f3 t ht⟩ ?_ ?_ (by decide) ?_
    · rintro k ⟨x, y⟩ hk ⟨e1, e2, e3, e4, e5⟩
      dsimp only at e1 e2 e3 e4 e5
      subst e1
      obtain ⟨y1, b1, b2, b3, b4, b5⟩ := c_passIn hg h4 (a := a) (C := C) hWz hk e2 (fun p hp => by rw [e3 41 (by decide) (by decide)]; exact h41 p hp) (fun t ht => by rw [e4.1]; exact h39 t ht) e5
      refine ⟨(nI (k + 1), y1), ?_, rfl, b2, fun i h1 h2 => (b3 i h1 h2).trans (e3 i h1 h2), ⟨b4.1.trans e4.1, b4.2.trans e4.2⟩, b5⟩
      show fX0_passChances_b23 _ _ = _
      unfold fX0_passChances_b23
      rw [if_neg (by rw [show (16 : Int32) = nI 16 from rfl, n_le (by decide) (by omega)]; omega), b1, bd_e, nI_1, lt_e]
    · rintro ⟨x, y⟩ ⟨e1, e2, e3, e4, e5⟩
      dsimp only at e1 e2 e3 e4 e5
      subst e1
      refine ⟨y, ?_, e2, e3, e4, e5⟩
      show fX0_passChances_b23 _ _ = _
      unfold fX0_passChances_b23
      rw [if_pos (show (16 : Int32) ≤ nI 16 by decide)]
    · rintro y ⟨e2, e3, e4, e5⟩
      refine ⟨upB y 39 (va_cpy (y.2 40) (y.2 39) 0 0 16), rfl, e2, e3, ?_, fun t ht => ?_⟩
      · rw [← e4.2]
        exact if_neg (t := va_cpy (y.2 40) (y.2 39) 0 0 16) (show ¬ (11 : Nat) = 39 by decide)
      · have : (upB y 39 (va_cpy (y.2 40) (y.2 39) 0 0 16)).2 39 = va_cpy (y.2 40) (y.2 39) 0 0 16 := if_pos (e := y.2 39) (show (39 : Nat) = 39 from rfl)
        rw [this, pk_cpy_in (Nat.zero_le _) (by omega), show 0 + (t - 0) = t by omega, e5 t ht]
        congr 2
        exact smN_cg fun set hs => tc_tm a W t hs
theorem c_weigh (hg : good σ) (h4 : sP σ ≤ 4) (hC : CoIs w 1 σ) {n : Nat} (hn : n ≤ sD σ - sA σ) : ∃ w1, fX0_weigh 1 w (nI n) = some w1 ∧ (∀ t, t < 16 → w1.2 39 t = lN (cP σ ^ n * wtN σ n t)) ∧ w1.2 11 0 = lN (10000 ^ n) := by
  have hD := hg.D
  have hL := hg.L
  have hp16 := p16 h4
  obtain ⟨u, a1, a2, a3, -⟩ := c_outNow hC hg
  unfold fX0_weigh
  rw [a1, bd_e]
  refine itnb (fun k (s : Int32 × Wd) => s.1 = nI k ∧ s.2.1 = u.1 ∧ ∀ t, t < k → s.2.2 39 t = lN (wtN σ 0 t)) (fun (v : Wd) => v.1 = u.1 ∧ ∀ t, t < 16 → v.2 39 t = lN (wtN σ 0 t)) 16 ⟨rfl, rfl, fun t ht => absurd ht (Nat.not_lt_zero _)⟩ ?_ ?_ (by decide) ?_
  · rintro k ⟨x, v⟩ hk ⟨e1, e2, e3⟩
    dsimp only at e1 e2 e3
    subst e1
    refine ⟨(nI (k + 1), upJ v 39 k (lN (wtN σ 0 k))), ?_, rfl, e2, fun t ht => ?_⟩
    · have ev : (if nI k = v.1 1 1 then (1 : Int64) else 0) = lN (wtN σ 0 k) := by
        rw [e2, a3.L]
        unfold wtN
        by_cases c : k = sL σ
        · rw [if_pos c, if_pos (by rw [c])]; rfl
        · rw [if_neg c, if_neg (by rw [n_eq (by omega) (by omega)]; exact c)]; rfl
      show fX0_weigh_b10 _ _ _ = _
      unfold fX0_weigh_b10
      rw [if_neg (by rw [show (16 : Int32) = nI 16 from rfl, n_le (by decide) (by omega)]; omega), ev, lt_e, gdn (by omega) (by decide), n_cl (by omega), lt_e, nI_1, lt_e]
    · dsimp only
      by_cases d : t = k
      · subst d; rw [upJ_s]
      · rw [upJ_k _ _ _ _ d]; exact e3 t (by omega)
  · rintro ⟨x, v⟩ ⟨e1, e2, e3⟩
    dsimp only at e1 e2 e3
    subst e1
    refine ⟨v, ?_, e2, e3⟩
    show fX0_weigh_b10 _ _ _ = _
    unfold fX0_weigh_b10
    rw [if_pos (show (16 : Int32) ≤ nI 16 by decide)]
  · rintro v ⟨f1, f2⟩
    rw [lt_e]
    have hv : WkIs (upJ v 11 0 1) σ := a2.eq3 (congrFun f1 _) (congrFun f1 _) (congrFun f1 _)
    have hcv : CoIs (upJ v 11 0 1) 1 σ := a3.eq (congrFun f1 _) (congrFun f1 _) (congrFun f1 _) (congrFun f1 _) (congrFun f1 _)
    refine itnb (fun m (s : Int32 × Wd) => s.1 = nI m ∧ WkIs s.2 σ ∧ CoIs s.2 1 σ ∧ (∀ t, t < 16 → s.2.2 39 t = lN (cP σ ^ m * wtN σ m t)) ∧ s.2.2 11 0 = lN (10000 ^ m)) (fun (w1 : Wd) => (∀ t, t < 16 → w1.2 39 t = lN (cP σ ^ n * wtN σ n t)) ∧ w1.2 11 0 = lN (10000 ^ n)) n ⟨rfl, hv, hcv, fun t ht => ?_, ?_⟩ ?_ ?_ (by omega) (fun x hx => ⟨x, rfl, hx⟩)
    · rw [upJ_o _ _ _ _ (by decide), Nat.pow_zero, Nat.one_mul]; exact f2 t ht
    · rw [upJ_s]; rfl
    · rintro m ⟨x, y⟩ hm ⟨e1, e2, e3, e4, e5⟩
      dsimp only at e1 e2 e3 e4 e5
      subst e1
      obtain ⟨y1, b1, b2, b3, b4⟩ := c_fill e3 hg (show sA σ + m < 25 by omega)
      have W1 : WkIs y1 σ := e2.eq3 (b3 _ (by decide)) (b3 _ (by decide)) (b3 _ (by decide))
      have C1 : CoIs y1 1 σ := e3.eq (b3 _ (by decide)) (b3 _ (by decide)) (b3 _ (by decide)) (b3 _ (by decide)) (b3 _ (by decide))
      obtain ⟨y2, d1, d2, d3, d4, d5⟩ := c_passCh hg h4 (a := sA σ + m) (C := cP σ ^ m) (W := wtN σ m) (wt_z hg h4 m) W1 b2 (fun t ht => by rw [b4]; exact e4 t ht)
      have C2 : CoIs y2 1 σ := C1.eq (d3 _ (by decide) (by decide)) (d3 _ (by decide) (by decide)) (d3 _ (by decide) (by decide)) (d3 _ (by decide) (by decide)) (d3 _ (by decide) (by decide))
      refine ⟨(nI (m + 1), upJ y2 11 0 (lN (10000 ^ (m + 1)))), ?_, rfl, d2, C2, fun t ht => ?_, upJ_s _ _ _ _⟩
      · show fX0_weigh_b48 _ _ _ _ = _
        unfold fX0_weigh_b48
        rw [if_neg (by rw [n_le (by omega) (by omega)]; omega), e3.Pl, n_add, b1, bd_e, d1, bd_e, d4, b4, e5, show (10000 : Int64) = lN 10000 from rfl, lN_mul, ← Nat.pow_succ, lt_e, nI_1, lt_e]
      · rw [upJ_o _ _ _ _ (by decide), Nat.pow_succ]
        exact d5 t ht
    · rintro ⟨x, y⟩ ⟨e1, e2, e3, e4, e5⟩
      dsimp only at e1 e2 e3 e4 e5
      subst e1
      refine ⟨y, ?_, e4, e5⟩
      show fX0_weigh_b48 _ _ _ _ = _
      unfold fX0_weigh_b48
      rw [if_pos (by rw [n_le (by omega) (by omega)]; exact Nat.le_refl _)]
theorem pop16 : ∀ i, i < 15 → pop (i + 1) ≤ 4 := by decide +kernel
/-- no sum is too large -/
theorem upN_le (hg : good σ) (h4 : sP σ ≤ 4) {n : Nat} (hn : n ≤ 3) (p : Nat) : cP σ ^ n * upN σ n p 15 ≤ 4 * 160000 ^ 3 := by
  have h1 : upN σ n p 15 ≤ 4 * smN (wtN σ n) 16 := by
    rw [smN_hd, ← Nat.zero_add (upN σ n p 15), Nat.mul_add, ← smN_mul]
    refine Nat.add_le_add (Nat.zero_le _) (smN_le fun i hi => ?_)
    rw [Nat.mul_comm 4]
    refine Nat.mul_le_mul_left _ ?_
    have := pop16 i hi
    split <;> omega
  have h2 := tot_le hg h4 n
  have h3 : cP σ ^ n * upN σ n p 15 ≤ cP σ ^ n * (4 * (16 * 10 ^ sP σ) ^ n) := Nat.mul_le_mul_left _ (Nat.le_trans h1 (Nat.mul_le_mul_left 4 h2))
  have h5 : cP σ ^ n * (4 * (16 * 10 ^ sP σ) ^ n) = 4 * 160000 ^ n := by
    rw [Nat.mul_left_comm, ← Nat.mul_pow, Nat.mul_left_comm, cP_10 h4]
  have h6 : (160000 : Nat) ^ n ≤ 160000 ^ 3 := Nat.pow_le_pow_right (by decide) hn
  rw [h5] at h3
  exact Nat.le_trans h3 (Nat.mul_le_mul_left 4 h6)
/-- what is answered -/
def chN (σ : St) (n p q : Nat) : Nat := (if q = 0 then cP σ ^ n * upN σ n p 15 else 10000 ^ n) / Nat.gcd (10000 ^ n) (cP σ ^ n * upN σ n p 15)
theorem p10k {n : Nat} (hn : n ≤ 3) : 0 < 10000 ^ n ∧ 10000 ^ n ≤ 10000 ^ 3 := ⟨Nat.pow_pos (by decide), Nat.pow_le_pow_right (by decide) hn⟩
theorem jmaxL_1 {g : Nat} (h : 0 < g) (hg : g < 2 ^ 62) : jmaxL 1 (lN g) = lN g := by
  unfold jmaxL
  rw [if_neg]
  rw [show (1 : Int64) = lN 1 from rfl, pk_lLT (by omega) (by decide)]
  omega
theorem c_terms (hg : good σ) (h4 : sP σ ≤ 4) {n : Nat} (hn : n ≤ 3) (h39 : ∀ t, t < 16 → w.2 39 t = lN (cP σ ^ n * wtN σ n t)) (h11 : w.2 11 0 = lN (10000 ^ n)) {p q : Nat} (hp : p < 2) (hq : q < 2) : fX0_inLeastTerms w (nI p) (nI q) = some (lN (chN σ n p q)) := by
  have hb := upN_le hg h4 hn p
  obtain ⟨k1, k2⟩ := p10k hn
  have k3 : (4 : Nat) * 160000 ^ 3 < 2 ^ 62 := by decide
  have k4 : (10000 : Nat) ^ 3 < 2 ^ 62 := by decide
  have hG : 0 < Nat.gcd (10000 ^ n) (cP σ ^ n * upN σ n p 15) := Nat.gcd_pos_of_pos_left _ k1
  have hG2 : Nat.gcd (10000 ^ n) (cP σ ^ n * upN σ n p 15) ≤ 10000 ^ n := Nat.le_of_dvd k1 (Nat.gcd_dvd_left _ _)
  unfold fX0_inLeastTerms
  refine (itb (fun i => (lN (cP σ ^ n * upN σ n p i), nI (i + 1))) (lN (cP σ ^ n * upN σ n p 15)) 15 rfl (fun i hi => ?_) ?_ (by decide)).trans ?_
  · have e1 : (if nI p = 0 then gd_ (ib (nI (i + 1)) 16) (some (w.2 39 (nI (i + 1)).toNatClampNeg)) else gd_ (ib (nI (i + 1)) 16) (some (w.2 39 (nI (i + 1)).toNatClampNeg * (fJ6_bitCount_0f7a4 (nI (i + 1))).toInt64)) : Option Int64) = some (lN (cP σ ^ n * (wtN σ n (i + 1) * (if p = 1 then pop (i + 1) else 1)))) := by
      have := pop16 i hi
      rw [gdn (by omega) (by decide), gdn (by omega) (by decide), n_cl (by omega), h39 _ (by omega), pop_c _ (by omega), nI_l (by omega), lN_mul]
      rcases (by omega : p = 0 ∨ p = 1) with rfl | rfl
      · rw [if_pos (show nI 0 = 0 from rfl), if_neg (show ¬ (0 : Nat) = 1 by decide), Nat.mul_one]
      · rw [if_neg (show ¬ nI 1 = 0 by decide), if_pos (show (1 : Nat) = 1 from rfl), Nat.mul_assoc]
    show fX0_inLeastTerms_b5 _ _ _ _ = _
    unfold fX0_inLeastTerms_b5
    rw [if_neg (by rw [show (16 : Int32) = nI 16 from rfl, n_le (by decide) (by omega)]; omega), e1, bd_e, lN_add, ← Nat.mul_add, lt_e, nI_1, lt_e]
    rfl
  · show fX0_inLeastTerms_b5 _ _ _ _ = _
    unfold fX0_inLeastTerms_b5
    rw [if_pos (show (16 : Int32) ≤ nI (15 + 1) by decide)]
  · have e2 : (if nI q = 0 then lN (cP σ ^ n * upN σ n p 15) else lN (10000 ^ n)) = lN (if q = 0 then cP σ ^ n * upN σ n p 15 else 10000 ^ n) := by
      rcases (by omega : q = 0 ∨ q = 1) with rfl | rfl
      · exact if_pos (show nI 0 = 0 from rfl)
      · exact if_neg (show ¬ nI 1 = 0 by decide)
    have e3 : (if q = 0 then cP σ ^ n * upN σ n p 15 else 10000 ^ n) < 2 ^ 62 := by split <;> omega
    have nz : ¬ lN (Nat.gcd (10000 ^ n) (cP σ ^ n * upN σ n p 15)) = 0 := fun e => by
      have := (pk_lEQ (by omega) (by decide)).mp (e.trans lN0.symm)
      omega
    rw [h11, c_gcd (by omega) (by omega), bd_e, e2, lt_e, jmaxL_1 hG (by omega), gd_t (by simp [nz]), pk_lDiv (by omega) hG (by omega)]
    rfl
end

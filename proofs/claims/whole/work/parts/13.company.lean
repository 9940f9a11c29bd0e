/-! the class's Company: what its methods answer -/
def CoIs (w : Wd) (b : Nat) (σ : St) : Prop := (∀ k, k < 7 → w.1 b k = nI (σ.1 k)) ∧ (∀ k, k < 8 → w.1 (9 + 4 * b) k = nI (sK σ k)) ∧ (∀ k, k < 8 → w.1 (10 + 4 * b) k = nI (sG σ k)) ∧ (∀ k, k < 25 → w.1 (11 + 4 * b) k = nI (sW σ k)) ∧ ∀ k, k < 25 → w.1 (12 + 4 * b) k = nI (sS σ k)
theorem CoIs.keep {w w1 : Wd} {b : Nat} {σ : St} (h : CoIs w b σ) (h0 : ∀ k, k < 7 → w1.1 b k = w.1 b k) (h1 : w1.1 (9 + 4 * b) = w.1 (9 + 4 * b)) (h2 : w1.1 (10 + 4 * b) = w.1 (10 + 4 * b)) (h3 : w1.1 (11 + 4 * b) = w.1 (11 + 4 * b)) (h4 : w1.1 (12 + 4 * b) = w.1 (12 + 4 * b)) : CoIs w1 b σ :=
  ⟨fun k hk => (h0 k hk).trans (h.1 k hk), fun k hk => by rw [h1]; exact h.2.1 k hk, fun k hk => by rw [h2]; exact h.2.2.1 k hk, fun k hk => by rw [h3]; exact h.2.2.2.1 k hk, fun k hk => by rw [h4]; exact h.2.2.2.2 k hk⟩
theorem CoIs.eq {w w1 : Wd} {b : Nat} {σ : St} (h : CoIs w b σ) (h0 : w1.1 b = w.1 b) (h1 : w1.1 (9 + 4 * b) = w.1 (9 + 4 * b)) (h2 : w1.1 (10 + 4 * b) = w.1 (10 + 4 * b)) (h3 : w1.1 (11 + 4 * b) = w.1 (11 + 4 * b)) (h4 : w1.1 (12 + 4 * b) = w.1 (12 + 4 * b)) : CoIs w1 b σ := h.keep (fun _ _ => by rw [h0]) h1 h2 h3 h4
section
variable {w : Wd} {b : Nat} {σ : St}
theorem CoIs.P (h : CoIs w b σ) : w.1 b 0 = nI (sP σ) := h.1 0 (by decide)
theorem CoIs.L (h : CoIs w b σ) : w.1 b 1 = nI (sL σ) := h.1 1 (by decide)
theorem CoIs.Fm (h : CoIs w b σ) : w.1 b 2 = nI (sF σ) := h.1 2 (by decide)
theorem CoIs.Ea (h : CoIs w b σ) : w.1 b 3 = nI (sE σ) := h.1 3 (by decide)
theorem CoIs.Do (h : CoIs w b σ) : w.1 b 4 = nI (sD σ) := h.1 4 (by decide)
theorem CoIs.Pl (h : CoIs w b σ) : w.1 b 5 = nI (sA σ) := h.1 5 (by decide)
theorem CoIs.Mi (h : CoIs w b σ) : w.1 b 6 = nI (sM σ) := h.1 6 (by decide)
theorem CoIs.K (h : CoIs w b σ) {k : Nat} (hk : k < 8) : w.1 (9 + 4 * b) k = nI (sK σ k) := h.2.1 k hk
theorem CoIs.G (h : CoIs w b σ) {k : Nat} (hk : k < 8) : w.1 (10 + 4 * b) k = nI (sG σ k) := h.2.2.1 k hk
theorem CoIs.W (h : CoIs w b σ) {k : Nat} (hk : k < 25) : w.1 (11 + 4 * b) k = nI (sW σ k) := h.2.2.2.1 k hk
theorem CoIs.S (h : CoIs w b σ) {k : Nat} (hk : k < 25) : w.1 (12 + 4 * b) k = nI (sS σ k) := h.2.2.2.2 k hk
theorem good.P (h : good σ) : sP σ ≤ 8 := h.1
theorem good.L (h : good σ) : sL σ < 2 ^ sP σ := h.2.1
theorem good.sm (h : good σ) : ∀ p, (sL σ).testBit p = true → sK σ p ≠ 6 := h.2.2.1
theorem good.F (h : good σ) : sF σ < 3 := h.2.2.2.1
theorem good.E (h : good σ) : 1 ≤ sE σ ∧ sE σ ≤ 2 := h.2.2.2.2.1
theorem good.D (h : good σ) : 1 ≤ sD σ ∧ sD σ ≤ 24 := h.2.2.2.2.2.1
theorem good.A (h : good σ) : sA σ ≤ sD σ := h.2.2.2.2.2.2.1
theorem good.M (h : good σ) : sM σ ≤ 2000 := h.2.2.2.2.2.2.2.1
theorem good.K (h : good σ) : ∀ k, sK σ k < 7 := h.2.2.2.2.2.2.2.2.1
theorem good.G (h : good σ) : ∀ k, sG σ k < 10 := h.2.2.2.2.2.2.2.2.2.1
theorem good.W (h : good σ) : ∀ k, sW σ k < 10 := h.2.2.2.2.2.2.2.2.2.2.1
theorem good.S (h : good σ) : ∀ k, sS σ k < 3 := h.2.2.2.2.2.2.2.2.2.2.2
theorem c_near (hC : CoIs w b σ) (hg : good σ) {p : Nat} (hp : p < sP σ) : fX2_nearOnes b w (nI p) = some (nI (near (sF σ) (sP σ) p)) := by
  have := hg.P
  rw [near_w, hC.Fm, hC.P]
  exact near_t _ hg.F _ (by omega) _ hp
theorem c_coverer (hC : CoIs w b σ) (hg : good σ) {p s : Nat} (hp : p < sP σ) (hs : s < 3) : fX2_coverer b w (nI p) (nI s) = some (cvI (covN (sF σ) (sP σ) p s)) := by
  have := hg.P
  rw [cov_w, hC.Fm, hC.P]
  exact cov_t _ hg.F _ (by omega) _ hp _ hs
theorem c_cov (hC : CoIs w b σ) (hg : good σ) {p s : Nat} (hp : p < sP σ) (hs : s < 3) : fX2_coverFor b w (nI p) (nI s) = some (nI (covA σ p s)) := by
  have h8 := hg.P
  unfold fX2_coverFor covA
  rw [c_coverer hC hg hp hs, bd_e]
  rcases cov_lt _ hg.F _ (by omega : sP σ < 9) _ hp _ hs with h | h
  · rw [h, if_pos rfl]
    exact if_neg (by decide)
  · have h9 : covN (sF σ) (sP σ) p s ≠ 99 := by omega
    rw [if_neg h9]
    unfold cvI
    rw [if_neg h9, if_pos (nI_pos' (by omega)), n_cl (by omega), gd_t (n_ib (by omega) (by decide)), hC.K (by omega), gd_t (n_ib (hg.K _) (by decide)), n_cl (by have := hg.K (covN (sF σ) (sP σ) p s); omega), cover_c _ (hg.K _)]
theorem jmax_sub {a c : Nat} (ha : a < 100) (hc : c < 100) : jmax 0 (nI a - nI c) = nI (a - c) := by
  unfold jmax
  by_cases h : c < a
  · rw [n_sub (by omega), if_pos (by rw [show (0 : Int32) = nI 0 from rfl, n_lt (by decide) (by omega)]; omega)]
  · have e0 : a - c = 0 := by omega
    rw [e0]
    rcases Nat.lt_or_ge a c with h2 | h2
    · rw [if_neg]
      · rfl
      · have := pk_sneg (a := a) (b := c) (by omega) h2
        intro q
        rw [Int32.lt_iff_toInt_lt] at this q
        omega
    · have : a = c := by omega
      subst this
      rw [n_sub (Nat.le_refl _), Nat.sub_self, if_neg (by decide)]
      rfl
theorem covA_le (hg : good σ) (p s : Nat) : covA σ p s ≤ 3 := by
  unfold covA
  split
  · omega
  · exact cover_le _ (hg.K _)
theorem c_felt (hC : CoIs w b σ) (hg : good σ) {p a : Nat} (hp : p < sP σ) (ha : a < 25) : fX2_feltBy b w (nI p) (nI a) = some (nI (felt σ p a)) := by
  unfold fX2_feltBy felt
  rw [gd_t (n_ib ha (by decide)), n_cl (by omega), hC.S ha, c_cov hC hg hp (hg.S _), bd_e, hC.W ha]
  have h1 := hg.W a
  have h2 := covA_le hg p (sS σ a)
  rw [jmax_sub (by omega) (by omega)]
theorem c_hold (hC : CoIs w b σ) (hg : good σ) {p : Nat} (hp : p < 8) : fX2_holdsOf b w (nI p) = some (nI (hold σ p)) := by
  have h := hold_t _ (hg.K p) _ (hg.G p)
  unfold hold
  rw [← h]
  unfold fX2_holdsOf
  rw [gd_t (n_ib hp (by decide)), gd_t (by decide), n_cl (by omega), hC.K hp, hC.G hp]
  rfl
theorem c_isSmall (hC : CoIs w b σ) (hg : good σ) {p : Nat} (hp : p < 8) : fX2_isSmall b w (nI p) = some (if sK σ p = 6 then 1 else 0) := by
  unfold fX2_isSmall
  have := hg.K p
  rw [gd_t (n_ib hp (by decide)), n_cl (by omega), hC.K hp, show (6 : Int32) = nI 6 from rfl]
  simp only [n_eq (show sK σ p < 2 ^ 31 by omega) (show 6 < 2 ^ 31 by decide)]
  split <;> rfl
theorem grown_lt : grown σ < 2 ^ sP σ := mask_lt _ _
theorem grown_bit (p : Nat) : (grown σ).testBit p = (decide (p < sP σ) && (sK σ p != 6)) := mask_bit _ _ _
theorem c_grown (hC : CoIs w b σ) (hg : good σ) : fX2_grownOnes b w = some (nI (grown σ)) := by
  have h8 := hg.P
  unfold fX2_grownOnes
  refine (itb (fun i => (nI (mask (fun p => sK σ p != 6) i), nI i)) (nI (grown σ)) (sP σ) rfl (fun i hi => ?_) ?_ (by omega)).trans rfl
  · show fX2_grownOnes_b4 w b _ _ = _
    unfold fX2_grownOnes_b4
    rw [hC.P, if_neg (by rw [n_le (by omega) (by omega)]; omega), c_isSmall hC hg (by omega), bd_e]
    by_cases h : sK σ i = 6
    · rw [if_pos h, if_neg (by decide), lt_e, nI_1]
      have e : mask (fun p => sK σ p != 6) (i + 1) = mask (fun p => sK σ p != 6) i := by
        simp [mask, h]
      rw [e]
    · rw [if_neg h, if_pos rfl, lt_e, lt_e, nI_1, sh_p i (by omega), n_or]
      have e : mask (fun p => sK σ p != 6) (i + 1) = mask (fun p => sK σ p != 6) i ||| 2 ^ i := by
        simp [mask, h]
      rw [e]
  · show fX2_grownOnes_b4 w b _ _ = _
    unfold fX2_grownOnes_b4
    rw [hC.P, if_pos (by rw [n_le (by omega) (by omega)]; omega)]
    rfl
/-- what a set of people gives -/
def lig (σ : St) (s : Nat) : Nat → Nat
  | 0 => 0
  | n + 1 => lig σ s n + (if s.testBit n then give (sK σ n) else 0)
def light (σ : St) (s : Nat) : Nat := lig σ s (sP σ)
theorem lig_le (hg : good σ) (s : Nat) : ∀ n, lig σ s n ≤ 3 * n
  | 0 => Nat.le_refl 0
  | n + 1 => by
    unfold lig
    have h1 := lig_le hg s n
    have h2 := give_le _ (hg.K n)
    split <;> omega
theorem c_light (hC : CoIs w b σ) (hg : good σ) {s : Nat} (hs : s < 2 ^ 31) : fX2_lightOf b w (nI s) = some (nI (light σ s)) := by
  have h8 := hg.P
  unfold fX2_lightOf
  refine (itb (fun i => (nI (lig σ s i), nI i)) (nI (light σ s)) (sP σ) rfl (fun i hi => ?_) ?_ (by omega)).trans rfl
  · show fX2_lightOf_b4 w b _ _ _ = _
    unfold fX2_lightOf_b4
    rw [hC.P, if_neg (by rw [n_le (by omega) (by omega)]; omega), hasc hs (by omega)]
    have hk := hg.K i
    by_cases h : s.testBit i = true
    · rw [if_pos h, if_neg (by decide), n_cl (by omega), gd_t (n_ib (by omega) (by decide)), hC.K (by omega), gd_t (n_ib hk (by decide)), n_cl (by omega), give_c _ hk, lt_e, lt_e, nI_1, n_add]
      have e : lig σ s (i + 1) = lig σ s i + give (sK σ i) := by simp [lig, h]
      rw [e]
    · rw [if_neg h, if_pos rfl, lt_e, nI_1]
      have e : lig σ s (i + 1) = lig σ s i := by simp [lig, h]
      rw [e]
  · show fX2_lightOf_b4 w b _ _ _ = _
    unfold fX2_lightOf_b4
    rw [hC.P, if_pos (by rw [n_le (by omega) (by omega)]; omega)]
    rfl
theorem c_hasOne (hC : CoIs w b σ) (hg : good σ) (x : Int32) : (fX2_hasOne b w x = 0 ∧ ¬ ∃ p, p < sP σ ∧ x = nI p) ∨ (fX2_hasOne b w x = 1 ∧ ∃ p, p < sP σ ∧ x = nI p) := by
  have h8 := hg.P
  unfold fX2_hasOne
  rw [hC.P]
  rcases pk_ix x (n := sP σ) (by omega) with h | h | ⟨p, hp, rfl⟩
  · rw [if_pos h]
    refine Or.inl ⟨rfl, ?_⟩
    rintro ⟨p, hp, rfl⟩
    exact nI_pos (by omega) h
  · by_cases h0 : x < 0
    · rw [if_pos h0]
      refine Or.inl ⟨rfl, ?_⟩
      rintro ⟨p, hp, rfl⟩
      exact nI_pos (by omega) h0
    · rw [if_neg h0, if_pos h]
      refine Or.inl ⟨rfl, ?_⟩
      rintro ⟨p, hp, rfl⟩
      rw [n_le (by omega) (by omega)] at h
      omega
  · rw [if_neg (nI_pos (by omega)), if_neg (by rw [n_le (by omega) (by omega)]; omega)]
    exact Or.inr ⟨rfl, p, hp, rfl⟩
end

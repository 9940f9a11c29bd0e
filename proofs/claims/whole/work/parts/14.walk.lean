/-! the class's Walk: set out, a minute, on to the door -/
def WkU (w : Wd) (σ : St) (u : Nat → Nat) : Prop := w.1 4 0 = nI (sP σ) ∧ w.1 4 1 = nI (grown σ) ∧ w.1 4 2 = nI (sE σ) ∧ w.1 4 3 = nI (sA σ) ∧ w.1 4 4 = nI (sD σ - sA σ) ∧ (∀ p, p < sP σ → w.1 28 p = nI (near (sF σ) (sP σ) p)) ∧ ∀ a, sA σ ≤ a → a < sD σ → w.1 27 a = nI (u a)
abbrev WkIs (w : Wd) (σ : St) : Prop := WkU w σ (uns σ)
/-- which writes leave what Walk has set out -/
def okWk (l : List (Nat × Option Nat)) : Bool := l.all fun q => q.1 != 28 && q.1 != 27 && (q.1 != 4 || match q.2 with | some f => decide (5 ≤ f) | none => false)
theorem WkU.keep {l : List (Nat × Option Nat)} {w w1 : Wd} {σ : St} {u : Nat → Nat} (h : WkU w σ u) (ha : Agree (pU l) w w1) (hl : okWk l = true) : WkU w1 σ u := by
  have hq : ∀ q ∈ l, q.1 ≠ 28 ∧ q.1 ≠ 27 ∧ (q.1 ≠ 4 ∨ ∃ f, q.2 = some f ∧ 5 ≤ f) := fun q hq => by
    have h1 := List.all_eq_true.mp hl q hq
    rw [Bool.and_eq_true, Bool.and_eq_true, Bool.or_eq_true] at h1
    obtain ⟨⟨h2, h3⟩, h4⟩ := h1
    refine ⟨by simpa using h2, by simpa using h3, ?_⟩
    rcases h4 with h4 | h4
    · exact Or.inl (by simpa using h4)
    · cases h5 : q.2 with
      | none => rw [h5] at h4; cases h4
      | some f => rw [h5] at h4; exact Or.inr ⟨f, rfl, of_decide_eq_true h4⟩
  have h28 := ha.cell 28 (List.all_eq_true.mpr fun q h => by simpa using (hq q h).1)
  have h27 := ha.cell 27 (List.all_eq_true.mpr fun q h => by simpa using (hq q h).2.1)
  have h4 : ∀ k, k < 5 → w1.1 4 k = w.1 4 k := fun k hk => (ha 4 k (by
    unfold pU
    rw [List.any_eq_false]
    intro q hqm hh
    unfold hit at hh
    rw [Bool.and_eq_true] at hh
    have e4 : q.1 = 4 := beq_iff_eq.mp hh.1
    rcases (hq q hqm).2.2 with h5 | ⟨f, h5, h6⟩
    · exact h5 e4
    · rw [h5] at hh
      have : f = k := beq_iff_eq.mp hh.2
      omega)).1
  obtain ⟨a0, a1, a2, a3, a4, a5, a6⟩ := h
  exact ⟨(h4 0 (by decide)).trans a0, (h4 1 (by decide)).trans a1, (h4 2 (by decide)).trans a2, (h4 3 (by decide)).trans a3, (h4 4 (by decide)).trans a4, fun p hp => by rw [h28.1]; exact a5 p hp, fun a h1 h2 => by rw [h27.1]; exact a6 a h1 h2⟩
def aside (i : Nat) : Prop := i = 0 ∨ (4 ≤ i ∧ i < 13) ∨ 25 ≤ i
theorem CoIs.far {w : Wd} {b : Nat} {σ : St} (h : CoIs w b σ) (hb : isCo b) {i : Nat} (hi : aside i) (k : Nat) (x : Int32) : CoIs (upI w i k x) b σ := by
  unfold isCo at hb
  unfold aside at hi
  rcases hb with rfl | rfl | rfl <;> (exact h.eq (upI_o _ _ _ _ (by omega)) (upI_o _ _ _ _ (by omega)) (upI_o _ _ _ _ (by omega)) (upI_o _ _ _ _ (by omega)) (upI_o _ _ _ _ (by omega)))
section
variable {w : Wd} {b : Nat} {σ : St} {u : Nat → Nat}
theorem uns_lt (σ : St) (a : Nat) : uns σ a < 2 ^ sP σ := mask_lt _ _
theorem c_bears (hb : isCo b) (hC : CoIs w b σ) (hg : good σ) {p : Nat} (hp : p < sP σ) : ∃ w1, iter (fun s : Int32 × Wd => fX8_setOut_b79 b (nI p) (nI (hold σ p)) s.1 s.2) FU (0, w) = some w1 ∧ ((∀ i, i ≠ 29 → w1.1 i = w.1 i) ∧ (∀ s, s < 3 → w1.1 29 (8 * s + p) = nI (hold σ p + covA σ p s)) ∧ ∀ j, (∀ s, j ≠ 8 * s + p) → w1.1 29 j = w.1 29 j) := by
  have h8 := hg.P
  refine itn (fun n s => s.1 = nI n ∧ (∀ i, i ≠ 29 → s.2.1 i = w.1 i) ∧ (∀ t, t < n → s.2.1 29 (8 * t + p) = nI (hold σ p + covA σ p t)) ∧ ∀ j, (∀ t, j ≠ 8 * t + p) → s.2.1 29 j = w.1 29 j) _ 3 ⟨rfl, fun _ _ => rfl, fun t ht => absurd ht (by omega), fun _ _ => rfl⟩ ?_ ?_ (by decide)
  · rintro n ⟨x, v⟩ hn ⟨e1, e2, e3, e4⟩
    dsimp only at e1 e2 e3 e4
    subst e1
    have hC2 : CoIs v b σ := by
      unfold isCo at hb
      rcases hb with rfl | rfl | rfl <;> exact hC.eq (e2 _ (by omega)) (e2 _ (by omega)) (e2 _ (by omega)) (e2 _ (by omega)) (e2 _ (by omega))
    refine ⟨(nI (n + 1), upI v 29 (8 * n + p) (nI (hold σ p + covA σ p n))), ?_, rfl, fun i hi => ?_, fun t ht => ?_, fun j hj => ?_⟩
    · show fX8_setOut_b79 _ _ _ _ _ = _
      unfold fX8_setOut_b79
      rw [if_neg (by rw [show (2 : Int32) = nI 2 from rfl, n_lt (by decide) (by omega)]; omega), c_cov hC2 hg hp hn, bd_e, show (8 : Int32) = nI 8 from rfl, n_mul, n_add, gd_t (n_ib (by omega) (by decide)), n_cl (by omega), n_add, nI_1]
      rfl
    · exact (upI_o _ _ _ _ hi).trans (e2 i hi)
    · by_cases h : t = n
      · subst h; exact upI_s _ _ _ _
      · exact (upI_k _ _ _ _ (by omega)).trans (e3 t (by omega))
    · exact (upI_k _ _ _ _ (hj n)).trans (e4 j hj)
  · rintro ⟨x, v⟩ ⟨e1, e2, e3, e4⟩
    dsimp only at e1 e2 e3 e4
    subst e1
    refine ⟨v, ?_, e2, e3, e4⟩
    show fX8_setOut_b79 _ _ _ _ _ = _
    unfold fX8_setOut_b79
    exact if_pos (show (2 : Int32) < nI 3 by decide)
theorem c_unsteady (hg : good σ) (h0 : w.1 4 0 = nI (sP σ)) {a : Nat} (hb2 : ∀ p, p < sP σ → w.1 29 (8 * sS σ a + p) = nI (hold σ p + covA σ p (sS σ a))) : fX8_unsteadyIn w (nI (sW σ a)) (nI (sS σ a)) = some (nI (uns σ a)) := by
  have h8 := hg.P
  have hS := hg.S a
  have hW := hg.W a
  unfold fX8_unsteadyIn
  refine (itb (fun i => (nI (mask (fun p => decide (hold σ p < felt σ p a)) i), nI i)) (nI (uns σ a)) (sP σ) rfl (fun i hi => ?_) ?_ (by omega)).trans rfl
  · show fX8_unsteadyIn_b5 _ _ _ _ _ = _
    unfold fX8_unsteadyIn_b5
    have hh := hold_le _ (hg.K i) _ (hg.G i)
    have hc := covA_le hg i (sS σ a)
    have hh2 : hold σ i ≤ 99 := hh
    rw [h0, if_neg (by rw [n_le (by omega) (by omega)]; omega), show (8 : Int32) = nI 8 from rfl, n_mul, n_add, gd_t (n_ib (by omega) (by decide)), n_cl (by omega), hb2 i hi]
    by_cases h : hold σ i < felt σ i a
    · have h3 : ¬ sW σ a ≤ hold σ i + covA σ i (sS σ a) := by unfold felt at h; omega
      rw [if_neg (by rw [n_le (by omega) (by omega)]; exact h3), sh_p i (by omega), n_or, lt_e, lt_e, nI_1]
      have e : mask (fun p => decide (hold σ p < felt σ p a)) (i + 1) = mask (fun p => decide (hold σ p < felt σ p a)) i ||| 2 ^ i := by simp [mask, h]
      rw [e]
    · have h3 : sW σ a ≤ hold σ i + covA σ i (sS σ a) := by unfold felt at h; omega
      rw [if_pos (by rw [n_le (by omega) (by omega)]; exact h3), lt_e, nI_1]
      have e : mask (fun p => decide (hold σ p < felt σ p a)) (i + 1) = mask (fun p => decide (hold σ p < felt σ p a)) i := by simp [mask, h]
      rw [e]
  · show fX8_unsteadyIn_b5 _ _ _ _ _ = _
    unfold fX8_unsteadyIn_b5
    rw [h0, if_pos (by rw [n_le (by omega) (by omega)]; omega)]
    rfl
theorem jmax_m {a c : Nat} (hc : c ≤ 24) (ha : a ≤ c) : jmax 0 (nI c - nI a) = nI (c - a) := by
  rw [jmax_sub (by omega) (by omega)]
theorem c_setOut (hb : isCo b) (hC : CoIs w b σ) (hg : good σ) : ∃ w1, fX8_setOut b w = some w1 ∧ WkIs w1 σ := by
  have h8 := hg.P
  have hD := hg.D
  have hA := hg.A
  have f4 : aside 4 := Or.inr (Or.inl (by decide))
  have hb4 : (4 : Nat) ≠ b := by unfold isCo at hb; omega
  unfold fX8_setOut
  rw [lt_e, c_grown (hC.far hb f4 _ _) hg, bd_e, lt_e, lt_e, lt_e, lt_e]
  rw [((hC.far hb f4 _ _).far hb f4 _ _).Ea, (((hC.far hb f4 _ _).far hb f4 _ _).far hb f4 _ _).Pl, ((((hC.far hb f4 _ _).far hb f4 _ _).far hb f4 _ _).far hb f4 _ _).Pl, ((((hC.far hb f4 _ _).far hb f4 _ _).far hb f4 _ _).far hb f4 _ _).Do, jmax_m hD.2 hA, hC.P]
  have hC5 : CoIs (upI (upI (upI (upI (upI w 4 0 (nI (sP σ))) 4 1 (nI (grown σ))) 4 2 (nI (sE σ))) 4 3 (nI (sA σ))) 4 4 (nI (sD σ - sA σ))) b σ := ((((hC.far hb f4 _ _).far hb f4 _ _).far hb f4 _ _).far hb f4 _ _).far hb f4 _ _
  have h5 : ∀ v : Wd, v = upI (upI (upI (upI (upI w 4 0 (nI (sP σ))) 4 1 (nI (grown σ))) 4 2 (nI (sE σ))) 4 3 (nI (sA σ))) 4 4 (nI (sD σ - sA σ)) → v.1 4 0 = nI (sP σ) ∧ v.1 4 1 = nI (grown σ) ∧ v.1 4 2 = nI (sE σ) ∧ v.1 4 3 = nI (sA σ) ∧ v.1 4 4 = nI (sD σ - sA σ) := fun v e => by subst e; exact ⟨rfl, rfl, rfl, rfl, rfl⟩
  generalize upI (upI (upI (upI (upI w 4 0 (nI (sP σ))) 4 1 (nI (grown σ))) 4 2 (nI (sE σ))) 4 3 (nI (sA σ))) 4 4 (nI (sD σ - sA σ)) = v at hC5 h5 ⊢
  obtain ⟨k0, k1, k2, k3, k4⟩ := h5 v rfl
  refine itnb (fun n s => s.1 = nI n ∧ CoIs s.2 b σ ∧ (∀ k, s.2.1 4 k = v.1 4 k) ∧ (∀ p, p < n → s.2.1 28 p = nI (near (sF σ) (sP σ) p)) ∧ ∀ p, p < n → ∀ t, t < 3 → s.2.1 29 (8 * t + p) = nI (hold σ p + covA σ p t)) (fun x => CoIs x b σ ∧ (∀ k, x.1 4 k = v.1 4 k) ∧ (∀ p, p < sP σ → x.1 28 p = nI (near (sF σ) (sP σ) p)) ∧ ∀ p, p < sP σ → ∀ t, t < 3 → x.1 29 (8 * t + p) = nI (hold σ p + covA σ p t)) (sP σ) ⟨rfl, hC5, fun _ => rfl, fun p hp => absurd hp (by omega), fun p hp => absurd hp (by omega)⟩ ?_ ?_ (by omega) ?_
  · rintro n ⟨x, v1⟩ hn ⟨e1, e2, e3, e4, e5⟩
    dsimp only at e1 e2 e3 e4 e5
    subst e1
    have f28 : aside 28 := Or.inr (Or.inr (by decide))
    have hC6 := e2.far hb f28 n (nI (near (sF σ) (sP σ) n))
    obtain ⟨w2, d1, d2, d3, d4⟩ := c_bears hb hC6 hg hn
    refine ⟨(nI (n + 1), w2), ?_, rfl, ?_, fun k => ?_, fun p hp => ?_, fun p hp t ht => ?_⟩
    · show fX8_setOut_b51 _ _ _ = _
      unfold fX8_setOut_b51
      rw [e3, k0, if_neg (by rw [n_le (by omega) (by omega)]; omega), c_near e2 hg hn, bd_e, gd_t (n_ib (by omega) (by decide)), n_cl (by omega), lt_e, c_hold hC6 hg (by omega), bd_e, d1, bd_e, lt_e, nI_1]
    · unfold isCo at hb
      rcases hb with rfl | rfl | rfl <;> exact hC6.eq (d2 _ (by omega)) (d2 _ (by omega)) (d2 _ (by omega)) (d2 _ (by omega)) (d2 _ (by omega))
    · rw [d2 4 (by omega), upI_o _ _ _ _ (by decide)]; exact e3 k
    · rw [d2 28 (by omega)]
      by_cases h : p = n
      · subst h; exact upI_s _ _ _ _
      · exact (upI_k _ _ _ _ h).trans (e4 p (by omega))
    · by_cases h : p = n
      · subst h; exact d3 t ht
      · rw [d4 _ (fun s => by omega), upI_o _ _ _ _ (by decide)]; exact e5 p (by omega) t ht
  · rintro ⟨x, v1⟩ ⟨e1, e2, e3, e4, e5⟩
    dsimp only at e1 e2 e3 e4 e5
    subst e1
    refine ⟨v1, ?_, e2, e3, e4, e5⟩
    show fX8_setOut_b51 _ _ _ = _
    unfold fX8_setOut_b51
    rw [e3, k0, if_pos (by rw [n_le (by omega) (by omega)]; omega)]
  · rintro v2 ⟨q1, q2, q3, q4⟩
    rw [lt_e, q1.Pl]
    refine itnb (fun n s => s.1 = nI (sA σ + n) ∧ CoIs s.2 b σ ∧ (∀ i, i ≠ 27 → s.2.1 i = v2.1 i) ∧ ∀ a, sA σ ≤ a → a < sA σ + n → s.2.1 27 a = nI (uns σ a)) (fun x => (∀ i, i ≠ 27 → x.1 i = v2.1 i) ∧ ∀ a, sA σ ≤ a → a < sD σ → x.1 27 a = nI (uns σ a)) (sD σ - sA σ) ⟨rfl, q1, fun _ _ => rfl, fun a h1 h2 => absurd h2 (by omega)⟩ ?_ ?_ (by omega) ?_
    · rintro n ⟨x, v3⟩ hn ⟨e1, e2, e3, e4⟩
      dsimp only at e1 e2 e3 e4
      subst e1
      have f27 : aside 27 := Or.inr (Or.inr (by decide))
      refine ⟨(nI (sA σ + n + 1), upI v3 27 (sA σ + n) (nI (uns σ (sA σ + n)))), ?_, rfl, e2.far hb f27 _ _, fun i hi => (upI_o _ _ _ _ hi).trans (e3 i hi), fun a h1 h2 => ?_⟩
      · show fX8_setOut_b123 _ _ _ = _
        unfold fX8_setOut_b123
        rw [e2.Do, if_neg (by rw [n_le (by omega) (by omega)]; omega), gd_t (n_ib (by omega) (by decide)), n_cl (by omega), e2.W (by omega), e2.S (by omega), c_unsteady hg (by rw [e3 4 (by decide), q2, k0]) (fun p hp => by rw [e3 29 (by decide)]; exact q4 p hp _ (hg.S _)), bd_e, lt_e, lt_e, nI_1]
      · by_cases h : a = sA σ + n
        · subst h; exact upI_s _ _ _ _
        · exact (upI_k _ _ _ _ h).trans (e4 a h1 (by omega))
    · rintro ⟨x, v3⟩ ⟨e1, e2, e3, e4⟩
      dsimp only at e1 e2 e3 e4
      subst e1
      refine ⟨v3, ?_, e3, fun a h1 h2 => e4 a h1 (by omega)⟩
      show fX8_setOut_b123 _ _ _ = _
      unfold fX8_setOut_b123
      rw [e2.Do, if_pos (by rw [n_le (by omega) (by omega)]; omega)]
    · rintro x ⟨e3, e4⟩
      refine ⟨x, rfl, ?_, ?_, ?_, ?_, ?_, ?_, e4⟩
      · rw [e3 4 (by decide), q2, k0]
      · rw [e3 4 (by decide), q2, k1]
      · rw [e3 4 (by decide), q2, k2]
      · rw [e3 4 (by decide), q2, k3]
      · rw [e3 4 (by decide), q2, k4]
      · intro p hp; rw [e3 28 (by decide)]; exact q3 p hp
end

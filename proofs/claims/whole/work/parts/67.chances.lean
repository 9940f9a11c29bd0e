/-! chances: the class -/
def cP (σ : St) : Nat := 10 ^ (4 - sP σ)
/-- below set, all sets; in all to t -/
def pcN (σ : St) (a : Nat) (W : Nat → Nat) (t s : Nat) : Nat := smN (fun s' => smN (tcN σ a W t s') (s' + 1)) s
def upN (σ : St) (n p : Nat) : Nat → Nat := smN fun i => wtN σ n (i + 1) * (if p = 1 then pop (i + 1) else 1)
section
variable {w w1 w2 : Wd} {σ τ : St} {b : Nat}
theorem ten_t : ∀ a, a < 10 → ∀ c, c < 100 → 2 ≤ c → jmax 0 (jmin 9 (nI a - (nI c - 2))) = nI (a - (c - 2)) := by decide +kernel
theorem c_fill (hC : CoIs w 1 σ) (hg : good σ) {a : Nat} (ha : a < 25) : ∃ w1, fX0_fillTenths 1 w (nI a) = some w1 ∧ (∀ p, p < 4 → w1.1 41 p = nI (teN σ a p)) ∧ (∀ i, i ≠ 41 → w1.1 i = w.1 i) ∧ w1.2 = w.2 := by
  have h8 := hg.P
  unfold fX0_fillTenths
  refine itnb (fun p (s : Int32 × Wd) => s.1 = nI p ∧ (∀ q, q < p → s.2.1 41 q = nI (teN σ a q)) ∧ (∀ i, i ≠ 41 → s.2.1 i = w.1 i) ∧ s.2.2 = w.2) (fun (x : Wd) => (∀ p, p < 4 → x.1 41 p = nI (teN σ a p)) ∧ (∀ i, i ≠ 41 → x.1 i = w.1 i) ∧ x.2 = w.2) 4 ⟨rfl, fun q hq => absurd hq (Nat.not_lt_zero _), fun _ _ => rfl, rfl⟩ ?_ ?_ (by decide) (fun x hx => ⟨x, rfl, hx⟩)
  · rintro p ⟨x, u⟩ hp ⟨e1, e2, e3, e4⟩
    dsimp only at e1 e2 e3 e4
    subst e1
    have hCu : CoIs u 1 σ := hC.eq (e3 _ (by decide)) (e3 _ (by decide)) (e3 _ (by decide)) (e3 _ (by decide)) (e3 _ (by decide))
    refine ⟨(nI (p + 1), upI u 41 p (nI (teN σ a p))), ?_, rfl, fun q hq => ?_, fun i hi => (upI_o _ _ _ _ hi).trans (e3 i hi), e4⟩
    · show fX0_fillTenths_b2 _ _ _ _ = _
      unfold fX0_fillTenths_b2 fX0_fillTenths_j44 teN
      rw [if_neg (by rw [c4, n_le (by decide) (by omega)]; omega)]
      by_cases c : p < sP σ
      · have hh := hold_ge hg p
        have hW := hg.W a
        have hf : felt σ p a < 10 := by unfold felt; omega
        have hK := hg.K p
        rw [hasOne_t hCu hg c, if_neg (by decide), gdn (by omega) (by decide), n_cl (by omega), hCu.K (by omega), if_pos c]
        by_cases d : sK σ p = 3
        · rw [if_pos (by rw [d]; rfl), if_pos d, gdn (by omega) (by decide), show jmax 0 (jmin 9 0) = nI 0 by decide, lt_e, nI_1, lt_e]
        · rw [if_neg (by rw [c3, n_eq (by omega) (by decide)]; exact d), if_neg d, c_felt hCu hg c ha, bd_e, c_hold hCu hg (by omega), bd_e, lt_e, gdn (by omega) (by decide), ten_t _ hf _ hh.2 hh.1, lt_e, nI_1, lt_e]
      · have h0 : fX2_hasOne 1 u (nI p) = 0 := by
          rcases c_hasOne hCu hg (nI p) with ⟨h, -⟩ | ⟨-, q, h1, h2⟩
          · exact h
          · rw [n_eq (by omega) (by omega)] at h2; omega
        rw [h0, if_pos rfl, if_neg c, gdn (by omega) (by decide), n_cl (by omega), show jmax 0 (jmin 9 0) = nI 0 by decide, lt_e, nI_1, lt_e]
    · dsimp only
      by_cases d : q = p
      · subst d; rw [upI_s]
      · rw [upI_k _ _ _ _ d]; exact e2 q (by omega)
  · rintro ⟨x, u⟩ ⟨e1, e2, e3, e4⟩
    dsimp only at e1 e2 e3 e4
    subst e1
    refine ⟨u, ?_, e2, e3, e4⟩
    show fX0_fillTenths_b2 _ _ _ _ = _
    unfold fX0_fillTenths_b2
    rw [if_pos (show (4 : Int32) ≤ nI 4 by decide)]
theorem prN_ext (a still : Nat) {set : Nat} (hs : set < 2 ^ sP σ) : ∀ j, prN σ a set still (sP σ + j) = prN σ a set still (sP σ) * 10 ^ j
  | 0 => by rw [Nat.pow_zero, Nat.mul_one]; rfl
  | j + 1 => by
    have hb : ¬ set.testBit (sP σ + j) = true := fun h => absurd (bit_lt hs h) (by omega)
    show prN σ a set still (sP σ + j) * (if set.testBit (sP σ + j) then _ else 10) = _
    rw [if_neg hb, prN_ext a still hs j, Nat.mul_assoc, ← Nat.pow_succ]
theorem c_parts (hg : good σ) (h4 : sP σ ≤ 4) {a : Nat} (h41 : ∀ p, p < 4 → w.1 41 p = nI (teN σ a p)) {set gone : Nat} (hs : set < 2 ^ sP σ) (hz : nd gone set = 0) : fX0_partsOf w (nI set) (nI gone) = some (lN (prN σ a set (nd set gone) (sP σ) * cP σ)) := by
  have hs8 := lt256 hs hg.P
  have hg8 := lt256 (sub_lt hz hs) hg.P
  have e : prN σ a set (nd set gone) (sP σ) * cP σ = prN σ a set (nd set gone) 4 := by
    have := prN_ext (σ := σ) a (nd set gone) hs (4 - sP σ)
    rw [show sP σ + (4 - sP σ) = 4 by omega] at this
    rw [this]; rfl
  rw [e]
  unfold fX0_partsOf
  refine (itb (fun p => (lN (prN σ a set (nd set gone) p), nI p)) (lN (prN σ a set (nd set gone) 4)) 4 rfl (fun p hp => ?_) ?_ (by decide)).trans rfl
  · have ht := teN_le hg a p
    have el : prN σ a set (nd set gone) (p + 1) = prN σ a set (nd set gone) p * (if set.testBit p then (if (nd set gone).testBit p then 10 - teN σ a p else teN σ a p) else 10) := rfl
    rw [nd_bit] at el
    show fX0_partsOf_b5 _ _ _ _ _ = _
    unfold fX0_partsOf_b5
    rw [if_neg (by rw [c4, n_le (by decide) (by omega)]; omega), hasc (by omega) (by omega)]
    by_cases c : gone.testBit p = true
    · have hb : set.testBit p = true := nd_zero.mp hz p c
      rw [if_pos c, if_neg (by decide), gdn (by omega) (by decide), n_cl (by omega), h41 p hp, nI_l (by omega), lN_mul, lt_e, nI_1, lt_e, el, if_pos hb, c]
      simp [hb]
    · have c' : gone.testBit p = false := by simpa using c
      rw [if_neg c, if_pos rfl, hasc (by omega) (by omega)]
      by_cases d : set.testBit p = true
      · rw [if_pos d, if_neg (by decide), gdn (by omega) (by decide), n_cl (by omega), h41 p hp, show (10 : Int32) = nI 10 from rfl, n_sub (by omega), nI_l (by omega), bd_e, lN_mul, lt_e, nI_1, lt_e, el, if_pos d, c']
        simp [d]
      · rw [if_neg d, if_pos rfl, bd_e, show (10 : Int64) = lN 10 from rfl, lN_mul, lt_e, nI_1, lt_e, el, if_neg d]
  · show fX0_partsOf_b5 _ _ _ _ _ = _
    unfold fX0_partsOf_b5
    rw [if_pos (show (4 : Int32) ≤ nI 4 by decide)]
theorem and15 {x : Nat} (h : x < 16) : nI x &&& 15 = nI x := by
  rw [show (15 : Int32) = nI 15 from rfl, n_and]
  congr 1
  rw [show 15 = 2 ^ 4 - 1 from rfl, Nat.and_two_pow_sub_one_eq_mod]
  exact Nat.mod_eq_of_lt h
theorem p16 (h4 : sP σ ≤ 4) : 2 ^ sP σ ≤ 16 := Nat.pow_le_pow_right (n := 2) (by decide) h4
/-- the class within the sets: nothing else is moved -/
def FrC (w w1 : Wd) : Prop := ∀ i, i ≠ 4 → i ≠ 25 → w1.1 i = w.1 i
theorem c_passIn (hg : good σ) (h4 : sP σ ≤ 4) {a C : Nat} {W : Nat → Nat} (hWz : ∀ t, 2 ^ sP σ ≤ t → W t = 0) {set : Nat} (hs : set < 16) {u : Wd} (hW : WkIs u σ) (h41 : ∀ p, p < 4 → u.1 41 p = nI (teN σ a p)) (h39 : ∀ t, t < 16 → u.2 39 t = lN (C * W t)) (h40 : ∀ t, t < 16 → u.2 40 t = lN (C * cP σ * pcN σ a W t set)) : ∃ u1, iter (fun s : Int32 × Wd => fX0_passChances_b31 (nI set) s.1 s.2) FU (0, u) = some u1 ∧ WkIs u1 σ ∧ FrC u u1 ∧ (u1.2 39 = u.2 39 ∧ u1.2 11 = u.2 11) ∧ ∀ t, t < 16 → u1.2 40 t = lN (C * cP σ * pcN σ a W t (set + 1)) := by
  have hp16 := p16 h4
  refine itn (fun g (s : Int32 × Wd) => s.1 = nI g ∧ WkIs s.2 σ ∧ FrC u s.2 ∧ (s.2.2 39 = u.2 39 ∧ s.2.2 11 = u.2 11) ∧ ∀ t, t < 16 → s.2.2 40 t = lN (C * cP σ * (pcN σ a W t set + smN (tcN σ a W t set) g))) (fun (u1 : Wd) => WkIs u1 σ ∧ FrC u u1 ∧ (u1.2 39 = u.2 39 ∧ u1.2 11 = u.2 11) ∧ ∀ t, t < 16 → u1.2 40 t = lN (C * cP σ * pcN σ a W t (set + 1))) (set + 1) ⟨rfl, hW, fun _ _ _ => rfl, ⟨rfl, rfl⟩, h40⟩ ?_ ?_ (by omega)
  · rintro g ⟨x, v⟩ hgl ⟨e1, e2, e3, e4, e5⟩
    dsimp only at e1 e2 e3 e4 e5
    subst e1
    have hlt : ¬ nI set < nI g := by rw [n_lt (by omega) (by omega)]; omega
    have w39 : v.2 39 set = lN (C * W set) := by rw [e4.1]; exact h39 set hs
    have es : ∀ t, smN (tcN σ a W t set) (g + 1) = smN (tcN σ a W t set) g + tcN σ a W t set g := fun t => rfl
    have et : ∀ t, tcN σ a W t set g = if nd g set = 0 ∧ spr σ (nd set g) = t then W set * prN σ a set (nd set g) (sP σ) else 0 := fun t => rfl
    have hndl : nd g set < 2 ^ 31 := by
      have : nd g set < 2 ^ 5 := nd_lt (by omega)
      omega
    by_cases z : lN (C * W set) = 0
    · refine ⟨(nI (g + 1), v), ?_, rfl, e2, e3, e4, fun t ht => ?_⟩
      · show fX0_passChances_b31 _ _ _ = _
        unfold fX0_passChances_b31
        rw [if_neg hlt, gdn hs (by decide), n_cl (by omega), w39, if_pos (by rw [lc0]; exact z), nI_1, lt_e]
      · dsimp only
        rw [e5 t ht, es, et]
        by_cases c : nd g set = 0 ∧ spr σ (nd set g) = t
        · have e6 : C * cP σ * (pcN σ a W t set + (smN (tcN σ a W t set) g + W set * prN σ a set (nd set g) (sP σ))) = C * cP σ * (pcN σ a W t set + smN (tcN σ a W t set) g) + (C * W set) * (cP σ * prN σ a set (nd set g) (sP σ)) := by
            rw [← Nat.add_assoc, Nat.mul_add, Nat.mul_mul_mul_comm]
          rw [if_pos c, e6, ← lN_add, ← lN_mul (C * W set), z, Int64.zero_mul, Int64.add_zero]
        · show _ = lN (C * cP σ * (pcN σ a W t set + (smN (tcN σ a W t set) g + if nd g set = 0 ∧ spr σ (nd set g) = t then _ else 0)))
          rw [if_neg c, Nat.add_zero]
    · have hset : set < 2 ^ sP σ := by
        rcases Nat.lt_or_ge set (2 ^ sP σ) with h | h
        · exact h
        · exact absurd (by rw [hWz set h, Nat.mul_zero]; rfl) z
      by_cases c : nd g set = 0
      · have hst : nd set g < 2 ^ sP σ := nd_lt hset
        obtain ⟨v1, b1, b2, b3⟩ := c_relight e2 hg hst
        have fr := rX8_relight b1
        have k1 : FrC v v1 := fun i h1 h2 => (fr.cell i (by
          rw [List.all_eq_true]
          intro q hq
          have : q.1 = 4 ∨ q.1 = 25 := (by decide : ∀ q, q ∈ pX8_relight → q.1 = 4 ∨ q.1 = 25) q hq
          simp only [bne_iff_ne, ne_eq]; omega)).1
        have k40 : v1.2 40 = v.2 40 := (fr.cell 40 (by decide)).2
        have k39 : v1.2 39 = v.2 39 := (fr.cell 39 (by decide)).2
        have k11 : v1.2 11 = v.2 11 := (fr.cell 11 (by decide)).2
        have hsp := spr_lt hg hst
        have hk : WkIs v1 σ := e2.keep fr (by decide)
        have hpa := c_parts (w := v1) hg h4 (a := a) (fun p hp => by rw [k1 41 (by decide) (by decide), e3 41 (by decide) (by decide)]; exact h41 p hp) hset c
        refine ⟨(nI (g + 1), upJ v1 40 (spr σ (nd set g)) (lN (C * cP σ * (pcN σ a W (spr σ (nd set g)) set + smN (tcN σ a W (spr σ (nd set g)) set) (g + 1))))), ?_, rfl, hk, fun i h1 h2 => (k1 i h1 h2).trans (e3 i h1 h2), ⟨(upJ_o _ _ _ _ (by decide)).trans (k39.trans e4.1), (upJ_o _ _ _ _ (by decide)).trans (k11.trans e4.2)⟩, fun t ht => ?_⟩
        · show fX0_passChances_b31 _ _ _ = _
          unfold fX0_passChances_b31
          have e6 : C * cP σ * (pcN σ a W (spr σ (nd set g)) set + smN (tcN σ a W (spr σ (nd set g)) set) (g + 1)) = C * cP σ * (pcN σ a W (spr σ (nd set g)) set + smN (tcN σ a W (spr σ (nd set g)) set) g) + (C * W set) * (prN σ a set (nd set g) (sP σ) * cP σ) := by
            rw [es, et, if_pos ⟨c, rfl⟩, ← Nat.add_assoc, Nat.mul_add, Nat.mul_comm (prN σ a set (nd set g) (sP σ)) (cP σ), Nat.mul_mul_mul_comm C (cP σ)]
          rw [if_neg hlt, gdn hs (by decide), n_cl (by omega), w39, if_neg (by rw [lc0]; exact z), n_nd, if_pos (by rw [c]; rfl), n_nd, b1, bd_e, un2_e, and15 (by omega), lt_e, gdn (by omega) (by decide), hpa, bd_e, n_cl (by omega), k40, e5 _ (by omega), k39, w39, lN_mul, lN_add, ← e6, lt_e, nI_1, lt_e]
        · dsimp only
          by_cases d : t = spr σ (nd set g)
          · subst d; rw [upJ_s]
          · rw [upJ_k _ _ _ _ d, k40, e5 t ht, es, et]
            rw [if_neg (fun h => d h.2.symm), Nat.add_zero]
      · refine ⟨(nI (g + 1), v), ?_, rfl, e2, e3, e4, fun t ht => ?_⟩
        · show fX0_passChances_b31 _ _ _ = _
          unfold fX0_passChances_b31
          rw [if_neg hlt, gdn hs (by decide), n_cl (by omega), w39, if_neg (by rw [lc0]; exact z), n_nd, if_neg (by rw [c0, n_eq hndl (by decide)]; exact c), nI_1, lt_e]
        · dsimp only
          rw [e5 t ht, es, et, if_neg (fun h => c h.1), Nat.add_zero]
  · rintro ⟨x, v⟩ ⟨e1, e2, e3, e4, e5⟩
    dsimp only at e1 e2 e3 e4 e5
    subst e1
    refine ⟨v, ?_, e2, e3, e4, fun t ht => e5 t ht⟩
    show fX0_passChances_b31 _ _ _ = _
    unfold fX0_passChances_b31
    rw [if_pos (by rw [n_lt (by omega) (by omega)]; omega)]
end

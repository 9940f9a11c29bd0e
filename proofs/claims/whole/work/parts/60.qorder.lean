/-! order: the reference, and both -/
section
variable {w w1 w2 : Wd} {σ τ : St} {b : Nat} {g : Nat → Nat} {n : Nat}
theorem snN_lt (h0 : 0 < n) (h6 : n ≤ 6) (k : Nat) : ∀ t, snN n k t < 64
  | 0 => by show (0 : Nat) < 64; decide
  | t + 1 => by
    have h1 := snN_lt h0 h6 k t
    have h2 : eN n k t < n := Nat.mod_lt _ h0
    have h3 : 2 ^ eN n k t < 2 ^ 6 := Nat.pow_lt_pow_right (by decide) (by omega)
    exact Nat.or_lt_two_pow (n := 6) h1 h3
theorem m_tells (hP : w.1 42 6 = nI n) (h0 : 0 < n) (h6 : n ≤ 6) {k : Nat} (hk : k < 100000) : ∃ w1, fX10_tellsOrder w (nI k) = some (if isPm n k = true then 1 else 0, w1) ∧ (∀ j, j < n → w1.1 59 j = nI (dig n k j)) ∧ ∀ i, i ≠ 59 → w1.1 i = w.1 i := by
  have hz : (!(nI n == 0)) = true := by
    have : ¬ nI n = 0 := by rw [c0, n_eq (by omega) (by decide)]; omega
    simp [this]
  unfold fX10_tellsOrder
  rw [hP, i_m1, lt_e]
  have main : ∃ x, iter (fun s : Int32 × Int32 × Int32 × Wd => fX10_tellsOrder_b12 s.1 s.2.1 s.2.2.1 s.2.2.2) FU (nI k, 0, nI n + (-1), w) = some x ∧ x.1 = nI (snN n k n) ∧ (∀ t, t < n → x.2.1 59 (n - 1 - t) = nI (eN n k t)) ∧ ∀ i, i ≠ 59 → x.2.1 i = w.1 i := by
    refine itn (fun t (s : Int32 × Int32 × Int32 × Wd) => s.1 = nI (dq n k t) ∧ s.2.1 = nI (snN n k t) ∧ s.2.2.1 = nI (n - t) + (-1) ∧ (∀ t', t' < t → s.2.2.2.1 59 (n - 1 - t') = nI (eN n k t')) ∧ ∀ i, i ≠ 59 → s.2.2.2.1 i = w.1 i) _ n ⟨rfl, rfl, rfl, fun t ht => absurd ht (Nat.not_lt_zero _), fun _ _ => rfl⟩ ?_ ?_ (by omega)
    · rintro t ⟨x, y, z, u⟩ ht ⟨e1, e2, e3, e4, e5⟩
      dsimp only at e1 e2 e3 e4 e5
      subst e1; subst e2; subst e3
      have hq := dq_le n k t
      have hme : eN n k t < n := Nat.mod_lt _ h0
      have uP : u.1 42 6 = nI n := by rw [e5 42 (by decide)]; exact hP
      refine ⟨(nI (dq n k (t + 1)), nI (snN n k (t + 1)), nI (n - (t + 1)) + (-1), upI u 59 (n - t - 1) (nI (eN n k t))), ?_, rfl, rfl, rfl, fun t' ht' => ?_, fun i hi => ?_⟩
      · show fX10_tellsOrder_b12 _ _ _ _ = _
        unfold fX10_tellsOrder_b12
        rw [n_m1 (by omega), if_neg (nI_pos (by omega)), uP, gd_t hz, gdn (by omega) (by decide), n_cl (by omega), n_rem (by omega) h0 (by omega), show dq n k t % n = eN n k t from rfl, lt_e, upI_o _ _ _ _ (by decide), uP, gd_t hz, n_div (by omega) h0 (by omega), lt_e, upI_s, sh_p _ (by omega), n_or, lt_e, lt_e]
        rfl
      · dsimp only
        by_cases d : t' = t
        · subst d
          rw [show n - 1 - t' = n - t' - 1 by omega, upI_s]
        · rw [upI_k _ _ _ _ (by omega)]; exact e4 t' (by omega)
      · dsimp only
        rw [upI_o _ _ _ _ hi]; exact e5 i hi
    · rintro ⟨x, y, z, u⟩ ⟨e1, e2, e3, e4, e5⟩
      dsimp only at e1 e2 e3 e4 e5
      subst e1; subst e2; subst e3
      refine ⟨(nI (snN n k n), u), ?_, rfl, e4, e5⟩
      show fX10_tellsOrder_b12 _ _ _ _ = _
      unfold fX10_tellsOrder_b12
      rw [Nat.sub_self, if_pos (show nI 0 + (-1) < (0 : Int32) by decide)]
  obtain ⟨⟨x, u⟩, m1, m2, m3, m4⟩ := main
  dsimp only at m2 m3 m4
  have hs := snN_lt h0 h6 k n
  have hp8 := pop8 (m := snN n k n) (by omega)
  refine ⟨u, ?_, fun j hj => ?_, m4⟩
  · rw [m1, bd_e, un2_e, m2, pop_m _ (by omega), bd_e, m4 42 (by decide), hP]
    by_cases c : pop (snN n k n) = n
    · have : isPm n k = true := by unfold isPm; rw [c]; exact Nat.beq_refl n
      rw [if_pos (by rw [c]), if_pos this]
    · have : ¬ isPm n k = true := fun h => c (Nat.eq_of_beq_eq_true h)
      rw [if_neg (by rw [n_eq (by omega) (by omega)]; exact c), if_neg this]
  · have h := m3 (n - 1 - j) (by omega)
    rw [show n - 1 - (n - 1 - j) = j by omega] at h
    exact h
theorem mx_up {f : Nat → Nat} {a c : Nat} (ha : a < sP σ) : wr (wrG (wrK (mx σ f) a (sK σ c)) a (sG σ c)) 1 (setLit (mask (fun q => (sL σ).testBit (f q)) (sP σ)) a (if (sL σ).testBit c = true then 1 else 0)) = mx σ (upF f a c) := by
  unfold mx wr wrG wrK upF
  refine Prod.ext (funext fun j => ?_) (Prod.ext (funext fun j => ?_) (Prod.ext (funext fun j => ?_) rfl))
  · dsimp only
    by_cases h : j = 1
    · subst h
      rw [if_pos rfl, if_pos rfl]
      refine bits_ext fun q => ?_
      rw [mask_bit]
      unfold setLit
      by_cases hb : (sL σ).testBit c = true
      · rw [if_pos hb, if_neg (by decide), Nat.testBit_or, mask_bit, Nat.testBit_two_pow]
        by_cases d : q = a
        · subst d; simp [ha, hb]
        · have d2 : decide (a = q) = false := decide_eq_false fun e => d e.symm
          rw [d2, Bool.or_false, if_neg d]
      · rw [if_neg hb, if_pos rfl, nd_bit, mask_bit, Nat.testBit_two_pow]
        by_cases d : q = a
        · subst d; simp [hb]
        · have d2 : decide (a = q) = false := decide_eq_false fun e => d e.symm
          rw [d2, if_neg d]; simp
    · rw [if_neg h, if_neg h, if_neg h]
  · dsimp only
    by_cases h : j = a
    · rw [if_pos h, if_pos h]
    · rw [if_neg h, if_neg h]
  · dsimp only
    by_cases h : j = a
    · rw [if_pos h, if_pos h]
    · rw [if_neg h, if_neg h]
theorem m_putLit {L p c : Nat} (hp : p < 8) (hc : c < 8) (hs : sL σ < 2 ^ 31) : (nI L &&& (((1 : Int32) <<< (nI p &&& 31)) ^^^ (-1))) ||| (((nI (sL σ) >>> (nI c &&& 31)) &&& 1) <<< (nI p &&& 31)) = nI (setLit L p (if (sL σ).testBit c = true then 1 else 0)) := by
  rw [sh_p p (by omega), n_nd, n_tb hs (by omega), shl_t _ (by split <;> omega) p hp, n_or]
  congr 1
  unfold setLit
  by_cases h : (sL σ).testBit c = true
  · rw [if_pos h, if_neg (by decide), Nat.one_shiftLeft, nd_or]
  · rw [if_neg h, if_pos rfl, Nat.zero_shiftLeft, Nat.or_zero]
theorem m_doorBy {k : Nat} (hM : MoIs w (mx σ g)) (hf : ∀ q, sP σ ≤ q → g q = q) (hg : good σ) (hm : sM σ ≤ 1200) (h0 : 0 < sP σ) (h6 : sP σ ≤ 6) (r59 : ∀ j, j < sP σ → w.1 59 j = nI (dig (sP σ) k j)) (r61 : ∀ j, j < sP σ → w.1 61 j = nI (sK σ j)) (r62 : ∀ j, j < sP σ → w.1 62 j = nI (sG σ j)) : ∃ w1, fX10_doorBy w (nI (sL σ)) = some (nI (pOr σ k), w1) ∧ MoIs w1 (mx σ (pfN (sP σ) k)) ∧ Mq w w1 ∧ KK 2 w w1 ∧ ∀ i, i = 59 ∨ i = 60 ∨ i = 61 ∨ i = 62 → w1.1 i = w.1 i := by
  have h8 := hg.P
  have hL8 := lt256 hg.L h8
  have main : ∃ x, iter (fun s : Int32 × Wd => fX10_doorBy_b2 (nI (sL σ)) s.1 s.2) FU (0, w) = some x ∧ MoIs x (mx σ (pfN (sP σ) k)) ∧ (∀ i, i ≠ 42 → i ≠ 45 → i ≠ 46 → x.1 i = w.1 i) ∧ ∀ f, f ≠ 7 → x.1 42 f = w.1 42 f := by
    refine itn (fun p (s : Int32 × Wd) => s.1 = nI p ∧ (∃ f, MoIs s.2 (mx σ f) ∧ (∀ q, q < p → f q = dig (sP σ) k q) ∧ ∀ q, sP σ ≤ q → f q = q) ∧ (∀ i, i ≠ 42 → i ≠ 45 → i ≠ 46 → s.2.1 i = w.1 i) ∧ ∀ f, f ≠ 7 → s.2.1 42 f = w.1 42 f) _ (sP σ) ⟨rfl, ⟨g, hM, fun q hq => absurd hq (Nat.not_lt_zero _), hf⟩, fun _ _ _ _ => rfl, fun _ _ => rfl⟩ ?_ ?_ (by omega)
    · rintro p ⟨x, u⟩ hp ⟨e1, ⟨f, e2, e3, e4⟩, e5, e6⟩
      dsimp only at e1 e2 e3 e4 e5 e6
      subst e1
      have hd := dig_lt (n := sP σ) (k := k) (j := p) h0
      have u59 : u.1 59 p = nI (dig (sP σ) k p) := by rw [e5 59 (by decide) (by decide) (by decide)]; exact r59 p hp
      have u61 : u.1 61 (dig (sP σ) k p) = nI (sK σ (dig (sP σ) k p)) := by rw [e5 61 (by decide) (by decide) (by decide)]; exact r61 _ hd
      have u62 : u.1 62 (dig (sP σ) k p) = nI (sG σ (dig (sP σ) k p)) := by rw [e5 62 (by decide) (by decide) (by decide)]; exact r62 _ hd
      have s := ((e2.wK p (sK σ (dig (sP σ) k p))).wG p (sG σ (dig (sP σ) k p))).wL (setLit (mask (fun q => (sL σ).testBit (f q)) (sP σ)) p (if (sL σ).testBit (dig (sP σ) k p) = true then 1 else 0))
      rw [mx_up hp] at s
      have uL : u.1 42 7 = nI (mask (fun q => (sL σ).testBit (f q)) (sP σ)) := e2.L
      have uP : u.1 42 6 = nI (sP σ) := e2.P
      refine ⟨(nI (p + 1), upI (upI (upI u 45 p (nI (sK σ (dig (sP σ) k p)))) 46 p (nI (sG σ (dig (sP σ) k p)))) 42 7 (nI (setLit (mask (fun q => (sL σ).testBit (f q)) (sP σ)) p (if (sL σ).testBit (dig (sP σ) k p) = true then 1 else 0)))), ?_, rfl, ⟨_, s, fun q hq => ?_, fun q hq => ?_⟩, fun i i1 i2 i3 => ?_, fun f hf => ?_⟩
      · show fX10_doorBy_b2 _ _ _ = _
        unfold fX10_doorBy_b2
        rw [uP, if_neg (by rw [n_le (by omega) (by omega)]; omega), gdn (by omega) (by decide), n_cl (by omega), u59, gdn (by omega) (by decide), gdn (by omega) (by decide), n_cl (by omega), u61, lt_e, upI_o _ _ _ _ (show (59 : Nat) ≠ 45 by decide), u59, gdn (by omega) (by decide), n_cl (by omega), upI_o _ _ _ _ (show (62 : Nat) ≠ 45 by decide), u62, lt_e, upI_o _ _ _ _ (show (42 : Nat) ≠ 46 by decide), upI_o _ _ _ _ (show (42 : Nat) ≠ 45 by decide), uL, upI_o _ _ _ _ (show (59 : Nat) ≠ 46 by decide), upI_o _ _ _ _ (show (59 : Nat) ≠ 45 by decide), u59, m_putLit (by omega) (by omega) (by omega), lt_e, nI_1, lt_e]
      · unfold upF
        by_cases d : q = p
        · subst d; rw [if_pos rfl]
        · rw [if_neg d]; exact e3 q (by omega)
      · unfold upF
        rw [if_neg (by omega)]; exact e4 q hq
      · dsimp only
        rw [upI_o _ _ _ _ i1, upI_o _ _ _ _ i3, upI_o _ _ _ _ i2]; exact e5 i i1 i2 i3
      · dsimp only
        rw [upI_k _ _ _ _ hf, upI_o _ _ _ _ (by decide), upI_o _ _ _ _ (by decide)]; exact e6 f hf
    · rintro ⟨x, u⟩ ⟨e1, ⟨f, e2, e3, e4⟩, e5, e6⟩
      dsimp only at e1 e2 e3 e4 e5 e6
      subst e1
      refine ⟨u, ?_, mx_eqM (fun q _ => ?_) h8 e2, e5, e6⟩
      · show fX10_doorBy_b2 _ _ _ = _
        unfold fX10_doorBy_b2
        rw [show u.1 42 6 = nI (sP σ) from e2.P, if_pos (Int32.le_refl _)]
      · unfold pfN
        by_cases d : q < sP σ
        · rw [if_pos d, e3 q d]
        · rw [if_neg d, e4 q (by omega)]
  obtain ⟨x, m1, m2, m3, m4⟩ := main
  have gm := good_mx hg (pfN (sP σ) k)
  obtain ⟨u, d1, d2, d3, d4⟩ := m_door m2 gm hm
  have hd := dN_lt gm
  have e : fX10_doorBy w (nI (sL σ)) = some (nI (pOr σ k), u) := by
    unfold fX10_doorBy
    rw [m1, bd_e, d1, bd_e, un2_e, show fX10_bits (nI (door (mx σ (pfN (sP σ) k)) (sL (mx σ (pfN (sP σ) k))))) = some (nI (pOr σ k)) from pop_m _ hd, bd_e]
  have q1 : Mq w x := fun i k hi => by
    by_cases c : i = 42
    · subst c
      exact m4 k (fun d => by subst d; cases hi)
    · rw [m3 i c (fun d => by subst d; cases hi) (fun d => by subst d; cases hi)]
  refine ⟨u, e, d2, q1.tr d4, (fun q hq => ?_), fun i hi => ?_⟩
  · rw [d3 q hq, m3 53 (by decide) (by decide) (by decide)]
  · have fr := rX10_doorBy e
    rcases hi with rfl | rfl | rfl | rfl
    · exact (fr.cell 59 (by decide)).1
    · exact (fr.cell 60 (by decide)).1
    · exact (fr.cell 61 (by decide)).1
    · exact (fr.cell 62 (by decide)).1
theorem m_keepBest {k : Nat} (hM : MoIs w (mx σ g)) (h6 : sP σ ≤ 6) (r59 : ∀ j, j < sP σ → w.1 59 j = nI (dig (sP σ) k j)) : ∃ w1, iter (fun s : Int32 × Wd => fX10_order_b163 s.1 s.2) FU (0, w) = some w1 ∧ (∀ j, j < sP σ → w1.1 60 j = nI (dig (sP σ) k j)) ∧ ∀ i, i ≠ 60 → w1.1 i = w.1 i := by
  have uP : w.1 42 6 = nI (sP σ) := hM.P
  refine itn (fun p (s : Int32 × Wd) => s.1 = nI p ∧ (∀ j, j < p → s.2.1 60 j = nI (dig (sP σ) k j)) ∧ ∀ i, i ≠ 60 → s.2.1 i = w.1 i) _ (sP σ) ⟨rfl, fun j hj => absurd hj (Nat.not_lt_zero _), fun _ _ => rfl⟩ ?_ ?_ (by omega)
  · rintro p ⟨x, u⟩ hp ⟨e1, e2, e3⟩
    dsimp only at e1 e2 e3
    subst e1
    refine ⟨(nI (p + 1), upI u 60 p (nI (dig (sP σ) k p))), ?_, rfl, fun j hj => ?_, fun i hi => ?_⟩
    · show fX10_order_b163 _ _ = _
      unfold fX10_order_b163
      rw [e3 42 (by decide), uP, if_neg (by rw [n_le (by omega) (by omega)]; omega), gdn (by omega) (by decide), n_cl (by omega), e3 59 (by decide), r59 p hp, lt_e, nI_1, lt_e]
    · dsimp only
      by_cases d : j = p
      · subst d; rw [upI_s]
      · rw [upI_k _ _ _ _ d]; exact e2 j (by omega)
    · dsimp only
      rw [upI_o _ _ _ _ hi]; exact e3 i hi
  · rintro ⟨x, u⟩ ⟨e1, e2, e3⟩
    dsimp only at e1 e2 e3
    subst e1
    refine ⟨u, ?_, e2, e3⟩
    show fX10_order_b163 _ _ = _
    unfold fX10_order_b163
    rw [e3 42 (by decide), uP, if_pos (Int32.le_refl _)]
theorem pwn (h : n ≤ 6) : n ^ n < 50000 := by
  have h1 : n ^ n ≤ 6 ^ n := Nat.pow_le_pow_left h n
  have h2 : 6 ^ n ≤ 6 ^ 6 := Nat.pow_le_pow_right (by decide) h
  have h3 : 6 ^ 6 = 46656 := by decide
  omega
abbrev bR (σ : St) (k : Nat) : Nat × Nat := rfN (sP σ) (pOr σ) 0 k (999999, 0)
theorem bR_2 (hg : good σ) : ∀ k, (bR σ k).2 ≤ 9
  | 0 => Nat.zero_le _
  | k + 1 => by
    have h := bR_2 hg k
    have hp := pOr_le hg (0 + k)
    show (stB (sP σ) (pOr σ) (0 + k) (bR σ k)).2 ≤ 9
    unfold stB besU
    split
    · split
      · dsimp only; omega
      · exact h
    · exact h
theorem MoIs.far {i : Nat} (h : MoIs w τ) (e : ∀ j, j ≠ i → w1.1 j = w.1 j) (hi : 48 < i) : MoIs w1 τ := by
  obtain ⟨t1, t2, t3, t4, t5, t6⟩ := h
  refine ⟨?_, ?_, ?_, ?_, ?_, ?_⟩
  · rw [e 44 (by omega)]; exact t1
  · rw [e 42 (by omega)]; exact t2
  · rw [e 45 (by omega)]; exact t3
  · rw [e 46 (by omega)]; exact t4
  · rw [e 47 (by omega)]; exact t5
  · rw [e 48 (by omega)]; exact t6
theorem m_orders (hM : MoIs w σ) (hK : Kept w 1 σ) (hg : good σ) (hm : sM σ ≤ 1200) (h0 : 0 < sP σ) (h6 : sP σ ≤ 6) (r61 : ∀ j, j < sP σ → w.1 61 j = nI (sK σ j)) (r62 : ∀ j, j < sP σ → w.1 62 j = nI (sG σ j)) : ∃ x, iter (fun s : Int32 × Int32 × Wd => fX10_order_b120 (nI (sP σ ^ sP σ)) (nI (sL σ)) s.1 s.2.1 s.2.2) FU (-9, 0, w) = some x ∧ x.1 = bI (-9) (bR σ (sP σ ^ sP σ)).2 ∧ Kept x.2 1 σ ∧ Mq w x.2 ∧ ((bR σ (sP σ ^ sP σ)).2 ≠ 0 → ∀ j, j < sP σ → x.2.1 60 j = nI (dig (sP σ) (bR σ (sP σ ^ sP σ)).1 j)) := by
  have hpw := pwn h6
  refine itn (fun k (s : Int32 × Int32 × Wd) => s.1 = bI (-9) (bR σ k).2 ∧ s.2.1 = nI k ∧ (∃ f, MoIs s.2.2 (mx σ f) ∧ ∀ q, sP σ ≤ q → f q = q) ∧ Kept s.2.2 1 σ ∧ Mq w s.2.2 ∧ (∀ j, j < sP σ → s.2.2.1 61 j = nI (sK σ j)) ∧ (∀ j, j < sP σ → s.2.2.1 62 j = nI (sG σ j)) ∧ ((bR σ k).2 ≠ 0 → ∀ j, j < sP σ → s.2.2.1 60 j = nI (dig (sP σ) (bR σ k).1 j))) _ (sP σ ^ sP σ) ⟨rfl, rfl, ⟨fun q => q, by rw [mx_id hg]; exact hM, fun _ _ => rfl⟩, hK, Ag.rf, r61, r62, fun h => absurd rfl h⟩ ?_ ?_ (by omega)
  · rintro k ⟨x, y, u⟩ hk ⟨e1, e2, ⟨f, e3, e3'⟩, e4, e5, e6, e7, e8⟩
    dsimp only at e1 e2 e3 e4 e5 e6 e7 e8
    subst e1; subst e2
    have hb2 := bR_2 hg k
    obtain ⟨u1, b1, b2, b3⟩ := m_tells (n := sP σ) (w := u) e3.P h0 h6 (k := k) (by omega)
    have M1 : MoIs u1 (mx σ f) := e3.far (i := 59) b3 (by decide)
    have q1 : Mq u u1 := Mq.one (i := 59) (by decide) b3
    have K1 : Kept u1 1 σ := e4.keep fun q _ _ => by rw [b3 53 (by decide)]
    have ebR : bR σ (k + 1) = stB (sP σ) (pOr σ) k (bR σ k) := by
      show stB (sP σ) (pOr σ) (0 + k) _ = _
      rw [Nat.zero_add]
    have hnle : ¬ nI (sP σ ^ sP σ) ≤ nI k := by rw [n_le (by omega) (by omega)]; omega
    rw [ebR]
    unfold stB
    by_cases c : isPm (sP σ) k = true
    · rw [if_pos c]
      rw [if_pos c] at b1
      obtain ⟨u2, d1, d2, d3, d4, d5⟩ := m_doorBy (k := k) M1 e3' hg hm h0 h6 b2 (fun j hj => by rw [b3 61 (by decide)]; exact e6 j hj) (fun j hj => by rw [b3 62 (by decide)]; exact e7 j hj)
      have hp8 := pOr_le hg k
      have K2 : Kept u2 1 σ := K1.kk d4 (by decide)
      have r61' : ∀ j, j < sP σ → u2.1 61 j = nI (sK σ j) := fun j hj => by rw [d5 61 (by omega), b3 61 (by decide)]; exact e6 j hj
      have r62' : ∀ j, j < sP σ → u2.1 62 j = nI (sG σ j) := fun j hj => by rw [d5 62 (by omega), b3 62 (by decide)]; exact e7 j hj
      unfold besU
      by_cases z : (bR σ k).2 ≤ pOr σ k
      · rw [if_pos z]
        obtain ⟨u3, f1, f2, f3⟩ := m_keepBest (k := k) d2 h6 (fun j hj => by rw [d5 59 (by omega)]; exact b2 j hj)
        refine ⟨(bI (-9) (pOr σ k + 1), nI (k + 1), u3), ?_, rfl, rfl, ⟨_, d2.far (i := 60) f3 (by decide), fun q hq => by unfold pfN; rw [if_neg (by omega)]⟩, K2.keep fun q _ _ => by rw [f3 53 (by decide)], ((e5.tr q1).tr d3).tr (Mq.one (i := 60) (by decide) f3), fun j hj => by rw [f3 61 (by decide)]; exact r61' j hj, fun j hj => by rw [f3 62 (by decide)]; exact r62' j hj, fun _ => f2⟩
        show fX10_order_b120 _ _ _ _ _ = _
        unfold fX10_order_b120
        rw [if_neg hnle, b1, bd_e, un2_e, if_neg (show ¬ (1 : Int32) = 0 by decide), d1, bd_e, un2_e, if_pos (by rw [bI_lt (by decide) (by omega) (by omega)]; exact z), f1, bd_e, nI_1, lt_e, bI_s]
      · rw [if_neg z]
        refine ⟨(bI (-9) (bR σ k).2, nI (k + 1), u2), ?_, rfl, rfl, ⟨_, d2, fun q hq => by unfold pfN; rw [if_neg (by omega)]⟩, K2, (e5.tr q1).tr d3, r61', r62', fun h j hj => by rw [d5 60 (by omega), b3 60 (by decide)]; exact e8 h j hj⟩
        show fX10_order_b120 _ _ _ _ _ = _
        unfold fX10_order_b120
        rw [if_neg hnle, b1, bd_e, un2_e, if_neg (show ¬ (1 : Int32) = 0 by decide), d1, bd_e, un2_e, if_neg (by rw [bI_lt (by decide) (by omega) (by omega)]; exact z), nI_1, lt_e]
    · rw [if_neg c]
      rw [if_neg c] at b1
      refine ⟨(bI (-9) (bR σ k).2, nI (k + 1), u1), ?_, rfl, rfl, ⟨f, M1, e3'⟩, K1, e5.tr q1, fun j hj => by rw [b3 61 (by decide)]; exact e6 j hj, fun j hj => by rw [b3 62 (by decide)]; exact e7 j hj, fun h j hj => by rw [b3 60 (by decide)]; exact e8 h j hj⟩
      show fX10_order_b120 _ _ _ _ _ = _
      unfold fX10_order_b120
      rw [if_neg hnle, b1, bd_e, un2_e, if_pos rfl, nI_1, lt_e]
  · rintro ⟨x, y, u⟩ ⟨e1, e2, e3, e4, e5, e6, e7, e8⟩
    dsimp only at e1 e2 e3 e4 e5 e6 e7 e8
    subst e1; subst e2
    refine ⟨(bI (-9) (bR σ (sP σ ^ sP σ)).2, u), ?_, rfl, e4, e5, e8⟩
    show fX10_order_b120 _ _ _ _ _ = _
    unfold fX10_order_b120
    rw [if_pos (Int32.le_refl _)]
theorem m_code {k : Nat} (h6 : n ≤ 6) (hr : ∀ j, j < n → w.1 60 j = nI (dig n k j)) : iter (fun s : Int32 × Int32 => fX10_order_b215 w s.1 s.2) FU (0, nI n + (-1)) = some (nI (dcN n k n)) := by
  refine itf (fun t => (nI (dcN n k t), nI (n - t) + (-1))) (nI (dcN n k n)) n rfl (fun t ht => ?_) ?_ (by omega)
  · show fX10_order_b215 _ _ _ = _
    unfold fX10_order_b215
    rw [n_m1 (by omega), if_neg (nI_pos (by omega)), gdn (by omega) (by decide), n_cl (by omega), hr _ (by omega), show dig n k (n - t - 1) = eN n k t by unfold dig; rw [show n - 1 - (n - t - 1) = t by omega], c10m, lt_e, lt_e]
    rfl
  · show fX10_order_b215 _ _ _ = _
    unfold fX10_order_b215
    rw [Nat.sub_self, if_pos (show nI 0 + (-1) < (0 : Int32) by decide)]
theorem q_order (h : R w σ) (x : Int32) : Ans (fX9_order w x) (fun v => fX10_order v x) := by
  have h8 := h.g.P
  rcases io1 x with ⟨i1, i2⟩ | ⟨i1, i2, p, hp, rfl⟩
  · exact Ans.nof h 2 (by decide) (by decide) (by unfold fX9_order; simp only [i1, if_neg (show ¬ (1 : Int32) = 0 by decide), rf1, rf2, rf3, rf4, rf6, bd_e, un2_e] <;> rfl) (fun v e => by unfold fX10_order; simp only [i2, if_pos, lt_e, if_neg (show ¬ (-2 : Int32) = 0 by decide), e _ (show (42 : Nat) ≠ 12 by decide), no1, no2, no3, no4, no6, bd_e, un2_e] <;> rfl)
  · by_cases hz : sP σ = 0
    · have z1 : w.1 1 0 = 0 := by rw [h.c.P, hz]; rfl
      have z2 : fX10_isIn (w.1 42 6) 1 6 = 0 := by rw [h.o.P, hz]; decide
      exact Ans.nof h 3 (by decide) (by decide) (by unfold fX9_order fX9_order_j37; simp only [i1, if_pos, z1, rf1, rf2, rf3, rf4, rf6, bd_e, un2_e] <;> rfl) (fun v e => by unfold fX10_order; simp only [i2, if_neg (show ¬ (1 : Int32) = 0 by decide), z2, if_pos, lt_e, if_neg (show ¬ (-3 : Int32) = 0 by decide), e _ (show (42 : Nat) ≠ 12 by decide), no1, no2, no3, no4, no6, bd_e, un2_e] <;> rfl)
    · have z1 : ¬ w.1 1 0 = 0 := by rw [h.c.P, c0, n_eq (by omega) (by decide)]; exact hz
      by_cases h6 : sP σ ≤ 6
      · have z3 : w.1 1 0 ≤ 6 := by rw [h.c.P, c6, n_le (by omega) (by decide)]; exact h6
        have hlen := plx_len (sP σ) (by omega) (by omega)
        have hpos : 0 < fcN (sP σ) := by
          rcases (by omega : sP σ = 1 ∨ sP σ = 2 ∨ sP σ = 3 ∨ sP σ = 4 ∨ sP σ = 5 ∨ sP σ = 6) with e | e | e | e | e | e <;> rw [e] <;> decide
        have hbb : bO σ (fcN (sP σ)) = bR σ (sP σ ^ sP σ) := by
          show inB (pOr σ) (PLx (sP σ)) (999999, 0) (fcN (sP σ)) = rfN (sP σ) (pOr σ) 0 (sP σ ^ sP σ) (999999, 0)
          rw [← hlen, inB_all, plx_fold (sP σ) (by omega) (by omega)]
        obtain ⟨n1, n2⟩ := inB_ne (pOr σ) (PLx (sP σ)) (999999, 0) rfl (fun i hi => Nat.le_of_ble_eq_true (all_d (plx_lt (sP σ) (by omega)) hi)) (fcN (sP σ)) hpos (by omega)
        have hfO : fOr (sP σ) (bO σ (fcN (sP σ))).1 = nI (dcN (sP σ) (bO σ (fcN (sP σ))).1 (sP σ)) := by
          unfold fOr
          have n1' : (bO σ (fcN (sP σ))).1 < 99999 := n1
          rw [if_neg (by omega)]
        have hb : ∀ z, bI z (bO σ (fcN (sP σ))).2 = nI ((bO σ (fcN (sP σ))).2 - 1) := fun z => bI_any n2 z
        refine Ans.q (r := if p = 0 then nI (dcN (sP σ) (bO σ (fcN (sP σ))).1 (sP σ)) else nI ((bO σ (fcN (sP σ))).2 - 1)) h ?_ fun v hv => ?_
        · obtain ⟨v, e, e2, e3⟩ := c_findOrder h.c h.g (by omega) h6
          refine ⟨v, ?_, Cq.of (rX1_findOrder e) (by decide)⟩
          unfold fX9_order
          rw [i1, if_pos rfl, if_neg z1, if_pos z3, e, bd_e]
          by_cases c : p = 0
          · subst c; rw [if_pos (show nI 0 = 0 from rfl), e3, hfO, if_pos rfl]
          · rw [if_neg (by rw [c0, n_eq (by omega) (by decide)]; exact c), e2, hb, if_neg c]
        · have z4 : fX10_isIn (v.1 42 6) 1 6 = 1 := by
            rw [hv.o.P]
            rcases (by omega : sP σ = 1 ∨ sP σ = 2 ∨ sP σ = 3 ∨ sP σ = 4 ∨ sP σ = 5 ∨ sP σ = 6) with e | e | e | e | e | e <;> rw [e] <;> decide
          obtain ⟨v1, a1, a2, a3, a4, a5, -⟩ := m_save1 hv.o
          have ini : ∃ x, iter (fun s : Int32 × Int32 × Wd => fX10_order_b65 s.1 s.2.1 s.2.2) FU (1, 0, v1) = some x ∧ x.1 = nI (sP σ ^ sP σ) ∧ (∀ j, j < sP σ → x.2.1 61 j = nI (sK σ j)) ∧ (∀ j, j < sP σ → x.2.1 62 j = nI (sG σ j)) ∧ ∀ i, i ≠ 61 → i ≠ 62 → x.2.1 i = v1.1 i := by
            refine itn (fun i (s : Int32 × Int32 × Wd) => s.1 = nI (sP σ ^ i) ∧ s.2.1 = nI i ∧ (∀ j, j < i → s.2.2.1 61 j = nI (sK σ j)) ∧ (∀ j, j < i → s.2.2.1 62 j = nI (sG σ j)) ∧ ∀ i, i ≠ 61 → i ≠ 62 → s.2.2.1 i = v1.1 i) _ (sP σ) ⟨rfl, rfl, fun j hj => absurd hj (Nat.not_lt_zero _), fun j hj => absurd hj (Nat.not_lt_zero _), fun _ _ _ => rfl⟩ ?_ ?_ (by omega)
            · rintro i ⟨x, y, u⟩ hi ⟨e1, e2, e3, e4, e5⟩
              dsimp only at e1 e2 e3 e4 e5
              subst e1; subst e2
              have uP : u.1 42 6 = nI (sP σ) := by rw [e5 42 (by decide) (by decide)]; exact a2.P
              refine ⟨(nI (sP σ ^ (i + 1)), nI (i + 1), upI (upI u 61 i (nI (sK σ i))) 62 i (nI (sG σ i))), ?_, rfl, rfl, fun j hj => ?_, fun j hj => ?_, fun j h1 h2 => ?_⟩
              · show fX10_order_b65 _ _ _ = _
                unfold fX10_order_b65
                rw [uP, if_neg (by rw [n_le (by omega) (by omega)]; omega), gdn (by omega) (by decide), n_cl (by omega), e5 45 (by decide) (by decide), a2.K (by omega), lt_e, upI_o _ _ _ _ (show (46 : Nat) ≠ 61 by decide), e5 46 (by decide) (by decide), a2.G (by omega), lt_e, upI_o _ _ _ _ (show (42 : Nat) ≠ 62 by decide), upI_o _ _ _ _ (show (42 : Nat) ≠ 61 by decide), uP, n_mul, lt_e, nI_1, lt_e, Nat.pow_succ]
              · dsimp only
                rw [upI_o _ _ _ _ (by decide)]
                by_cases d : j = i
                · subst d; rw [upI_s]
                · rw [upI_k _ _ _ _ d]; exact e3 j (by omega)
              · dsimp only
                by_cases d : j = i
                · subst d; rw [upI_s]
                · rw [upI_k _ _ _ _ d, upI_o _ _ _ _ (by decide)]; exact e4 j (by omega)
              · dsimp only
                rw [upI_o _ _ _ _ h2, upI_o _ _ _ _ h1]; exact e5 j h1 h2
            · rintro ⟨x, y, u⟩ ⟨e1, e2, e3, e4, e5⟩
              dsimp only at e1 e2 e3 e4 e5
              subst e1; subst e2
              refine ⟨(nI (sP σ ^ sP σ), u), ?_, rfl, e3, e4, e5⟩
              show fX10_order_b65 _ _ _ = _
              unfold fX10_order_b65
              rw [e5 42 (by decide) (by decide), a2.P, if_pos (Int32.le_refl _)]
          obtain ⟨⟨al, v2⟩, j1, j2, j3, j4, j5⟩ := ini
          dsimp only at j2 j3 j4 j5
          subst j2
          have M2 : MoIs v2 σ := by
            obtain ⟨t1, t2, t3, t4, t5, t6⟩ := a2
            refine ⟨?_, ?_, ?_, ?_, ?_, ?_⟩
            · rw [j5 44 (by decide) (by decide)]; exact t1
            · rw [j5 42 (by decide) (by decide)]; exact t2
            · rw [j5 45 (by decide) (by decide)]; exact t3
            · rw [j5 46 (by decide) (by decide)]; exact t4
            · rw [j5 47 (by decide) (by decide)]; exact t5
            · rw [j5 48 (by decide) (by decide)]; exact t6
          have q2 : Mq v1 v2 := fun i k hi => by rw [j5 i (fun d => by subst d; cases hi) (fun d => by subst d; cases hi)]
          obtain ⟨⟨y, v3⟩, m1, m2, m3, m4, m5⟩ := m_orders M2 (a3.keep fun q _ _ => by rw [j5 53 (by decide) (by decide)]) h.g h.m2 (by omega) h6 j3 j4
          dsimp only at m2 m3 m4 m5
          rw [← hbb] at m2 m5
          obtain ⟨v4, f1, f2, f3, f4, -⟩ := m_rest1 m3
          refine ⟨v4, ?_, f2, ((a4.tr q2).tr m4).tr f3⟩
          have hcode := m_code (w := v4) (n := sP σ) (k := (bO σ (fcN (sP σ))).1) h6 (fun j hj => by rw [f4 60 (by decide)]; exact m5 n2 j hj)
          show fX10_order v (nI p) = _
          unfold fX10_order
          rw [i2, if_neg (by decide), z4, if_neg (by decide), lt_e, if_pos rfl, a1, bd_e, a2.L, lt_e, j1, bd_e, un2_e, m1, bd_e, un2_e, f1, bd_e, f2.P, i_m1, lt_e, hcode, bd_e, m2, hb]
          by_cases c : p = 0
          · subst c; rw [if_pos (show nI 0 = 0 from rfl), if_pos rfl]
          · rw [if_neg (by rw [c0, n_eq (by omega) (by decide)]; exact c), if_neg c]
      · have z3 : ¬ w.1 1 0 ≤ 6 := by rw [h.c.P, c6, n_le (by omega) (by decide)]; exact h6
        have z2 : fX10_isIn (w.1 42 6) 1 6 = 0 := by
          rw [h.o.P]
          rcases (by omega : sP σ = 7 ∨ sP σ = 8) with e | e <;> rw [e] <;> decide
        exact Ans.nof h 3 (by decide) (by decide) (by unfold fX9_order fX9_order_j37; simp only [i1, if_pos, if_neg z1, if_neg z3, rf1, rf2, rf3, rf4, rf6, bd_e, un2_e] <;> rfl) (fun v e => by unfold fX10_order; simp only [i2, if_neg (show ¬ (1 : Int32) = 0 by decide), z2, if_pos, lt_e, if_neg (show ¬ (-3 : Int32) = 0 by decide), e _ (show (42 : Nat) ≠ 12 by decide), no1, no2, no3, no4, no6, bd_e, un2_e] <;> rfl)
end

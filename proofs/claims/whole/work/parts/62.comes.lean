/-! road: the class's statements -/
section
variable {w w1 w2 : Wd} {σ τ : St} {b : Nat} {T : Nat → Nat} {n : Nat}
theorem c_doorS (hC : CoIs w 3 τ) (hg : good τ) {v : Nat} (hv : v < 100) : ∃ r w1, fX3_doorComes w (nI v) = (r, w1) ∧ ((r = 1 ∧ (1 ≤ v ∧ v ≤ 24 ∧ sA τ ≤ v) ∧ CoIs w1 3 (wr τ 4 v)) ∨ (r = 0 ∧ ¬ (1 ≤ v ∧ v ≤ 24 ∧ sA τ ≤ v))) := by
  have hA := hg.A
  have hD := hg.D
  unfold fX3_doorComes
  by_cases c1' : v < 1
  · rw [if_pos (by rw [c1, n_lt (by omega) (by decide)]; exact c1')]
    exact ⟨0, w, rfl, Or.inr ⟨rfl, fun h => by omega⟩⟩
  · rw [if_neg (by rw [c1, n_lt (by omega) (by decide)]; exact c1')]
    by_cases c2' : 24 < v
    · rw [if_pos (by rw [c24, n_lt (by decide) (by omega)]; exact c2')]
      exact ⟨0, w, rfl, Or.inr ⟨rfl, fun h => by omega⟩⟩
    · rw [if_neg (by rw [c24, n_lt (by decide) (by omega)]; exact c2'), hC.Pl]
      by_cases c3' : sA τ ≤ v
      · rw [if_pos (by rw [n_le (by omega) (by omega)]; exact c3'), lt_e]
        exact ⟨1, _, rfl, Or.inl ⟨rfl, ⟨by omega, by omega, c3'⟩, hC.wr co3 4 v⟩⟩
      · rw [if_neg (by rw [n_le (by omega) (by omega)]; exact c3')]
        exact ⟨0, w, rfl, Or.inr ⟨rfl, fun h => c3' h.2.2⟩⟩
theorem c_formS (hC : CoIs w 3 τ) {v x : Nat} (hv : v < 10) (hx : x < 10) : ∃ r w1, fX3_formComes w (nI v) (nI x) = (r, w1) ∧ ((r = 1 ∧ (v ≤ 2 ∧ 1 ≤ x ∧ x ≤ 2) ∧ CoIs w1 3 (wr (wr τ 2 v) 3 x)) ∨ (r = 0 ∧ ¬ (v ≤ 2 ∧ 1 ≤ x ∧ x ≤ 2))) := by
  unfold fX3_formComes
  by_cases c1' : 2 < v
  · rw [if_pos (by rw [c2, n_lt (by decide) (by omega)]; exact c1')]
    exact ⟨0, w, rfl, Or.inr ⟨rfl, fun h => by omega⟩⟩
  · rw [if_neg (by rw [c2, n_lt (by decide) (by omega)]; exact c1')]
    by_cases c2' : x < 1
    · rw [if_pos (by rw [c1, n_lt (by omega) (by decide)]; exact c2')]
      exact ⟨0, w, rfl, Or.inr ⟨rfl, fun h => by omega⟩⟩
    · rw [if_neg (by rw [c1, n_lt (by omega) (by decide)]; exact c2')]
      by_cases c3' : x ≤ 2
      · rw [if_pos (by rw [c2, n_le (by omega) (by decide)]; exact c3'), lt_e, lt_e]
        exact ⟨1, _, rfl, Or.inl ⟨rfl, ⟨by omega, by omega, c3'⟩, CoIs.wr (σ := wr τ 2 v) (hC.wr co3 2 v) co3 3 x⟩⟩
      · rw [if_neg (by rw [c2, n_le (by omega) (by decide)]; exact c3')]
        exact ⟨0, w, rfl, Or.inr ⟨rfl, fun h => c3' h.2.2⟩⟩
theorem c_windS (hC : CoIs w 3 τ) {v x y : Nat} (hv : v < 100) (hx : x < 10) (hy : y < 10) : ∃ r w1, fX3_windComes w (nI v) (nI x) (nI y) = some (r, w1) ∧ ((r = 1 ∧ (v ≤ 24 ∧ y ≤ 2) ∧ CoIs w1 3 (wrS (wrW τ v x) v y)) ∨ (r = 0 ∧ ¬ (v ≤ 24 ∧ y ≤ 2))) := by
  unfold fX3_windComes
  have io24 : fX9_isOutside (nI v) 24 = if v ≤ 24 then 0 else 1 := by
    unfold fX9_isOutside
    rw [if_neg (nI_pos (by omega))]
    by_cases c : v ≤ 24
    · rw [if_pos (by rw [c24, n_le (by omega) (by decide)]; exact c), if_pos c]
    · rw [if_neg (by rw [c24, n_le (by omega) (by decide)]; exact c), if_neg c]
  rw [io24]
  by_cases c : v ≤ 24
  · rw [if_pos c, if_pos rfl]
    by_cases d : y ≤ 2
    · rw [if_pos (by rw [c2, n_le (by omega) (by decide)]; exact d), gdn (by omega) (by decide), n_cl (by omega), lt_e, lt_e]
      exact ⟨1, _, rfl, Or.inl ⟨rfl, ⟨c, d⟩, CoIs.wrS (σ := wrW τ v x) (hC.wrW co3 v x) co3 v y⟩⟩
    · rw [if_neg (by rw [c2, n_le (by omega) (by decide)]; exact d)]
      exact ⟨0, w, rfl, Or.inr ⟨rfl, fun h => d h.2⟩⟩
  · rw [if_neg c, if_neg (by decide)]
    exact ⟨0, w, rfl, Or.inr ⟨rfl, fun h => c h.1⟩⟩
theorem c_lightS (hC : CoIs w 3 τ) (hg : good τ) {v : Nat} (hv : v < 10) : ∃ r w1, fX3_lightComes w (nI v) = some (r, w1) ∧ ((r = 1 ∧ (v < sP τ ∧ sK τ v ≠ 6) ∧ CoIs w1 3 (wr τ 1 (sL τ ^^^ 2 ^ v))) ∨ (r = 0 ∧ ¬ (v < sP τ ∧ sK τ v ≠ 6))) := by
  have h8 := hg.P
  unfold fX3_lightComes
  by_cases c : v < sP τ
  · rw [hasOne_t hC hg c, if_neg (by decide), c_isSmall hC hg (by omega), bd_e]
    by_cases d : sK τ v = 6
    · rw [if_pos d, if_neg (by decide)]
      exact ⟨0, w, rfl, Or.inr ⟨rfl, fun h => h.2 d⟩⟩
    · rw [if_neg d, if_pos rfl, c_isLit co3 hC hg c, bd_e]
      have e : (if (if (sL τ).testBit v = true then (1 : Int32) else 0) = 0 then (1 : Int32) else 0) = nI (if (sL τ).testBit v = true then 0 else 1) := by
        by_cases z : (sL τ).testBit v = true
        · rw [if_pos z, if_pos z, if_neg (by decide)]; rfl
        · rw [if_neg z, if_neg z, if_pos rfl]; rfl
      have e2 : setLit (sL τ) v (if (sL τ).testBit v = true then 0 else 1) = sL τ ^^^ 2 ^ v := bits_ext fun q => by
        rw [Nat.testBit_xor, Nat.testBit_two_pow]
        unfold setLit
        by_cases z : (sL τ).testBit v = true
        · rw [if_pos z, if_pos rfl, nd_bit, Nat.testBit_two_pow]
          by_cases y : v = q
          · subst y; rw [z]; simp
          · rw [decide_eq_false y]; simp
        · rw [if_neg z, if_neg (by decide), Nat.testBit_or, Nat.testBit_two_pow]
          by_cases y : v = q
          · subst y; simp at z; rw [z]; simp
          · rw [decide_eq_false y]; simp
      rw [e, lt_e, putLit_t hC.L (by omega) (by split <;> omega), e2, lt_e]
      exact ⟨1, _, rfl, Or.inl ⟨rfl, ⟨c, d⟩, hC.wr co3 1 _⟩⟩
  · have h0 : fX2_hasOne 3 w (nI v) = 0 := by
      rcases c_hasOne hC hg (nI v) with ⟨h, -⟩ | ⟨-, p, h1, h2⟩
      · exact h
      · rw [n_eq (by omega) (by omega)] at h2; omega
    rw [h0, if_pos rfl]
    exact ⟨0, w, rfl, Or.inr ⟨rfl, fun h => c h.1⟩⟩
theorem c_app (hC : CoIs w 3 τ) (hP : sP τ < 8) {k g l : Nat} (hl : l ≤ 1) : ∃ w1, fX2_append 3 w (nI k) (nI g) (nI l) = some w1 ∧ CoIs w1 3 (appS τ k g l) := by
  have s1 := hC.wrK co3 (sP τ) k
  have s2 := s1.wrG co3 (sP τ) g
  have s3 := s2.wr co3 0 (sP τ + 1)
  have s4 := s3.wr co3 1 (setLit (sL τ) (sP τ) l)
  have e : wr (wr (wrG (wrK τ (sP τ) k) (sP τ) g) 0 (sP τ + 1)) 1 (setLit (sL τ) (sP τ) l) = appS τ k g l := by
    unfold wr wrG wrK appS
    refine Prod.ext (funext fun j => ?_) rfl
    dsimp only
    by_cases h1 : j = 1
    · subst h1; rfl
    · by_cases h0 : j = 0
      · subst h0; rfl
      · rw [if_neg h1, if_neg h0, if_neg h0, if_neg h1]
  rw [e] at s4
  refine ⟨_, ?_, s4⟩
  unfold fX2_append
  rw [hC.P, if_neg (by rw [c8, n_le (by decide) (by omega)]; omega), gdn hP (by decide), n_cl (by omega), lt_e]
  rw [show (upI w (9 + 4 * 3) (sP τ) (nI k)).1 3 0 = nI (sP τ) from s1.P, gdn hP (by decide), n_cl (by omega), lt_e]
  rw [show (upI (upI w (9 + 4 * 3) (sP τ) (nI k)) (10 + 4 * 3) (sP τ) (nI g)).1 3 0 = nI (sP τ) from s2.P, nI_1, lt_e]
  rw [upI_s, show (1 : Int32) = nI 1 from rfl, n_sub (by omega), Nat.add_sub_cancel]
  have hL : (upI (upI (upI w (9 + 4 * 3) (sP τ) (nI k)) (10 + 4 * 3) (sP τ) (nI g)) 3 0 (nI (sP τ + 1))).1 3 1 = nI (sL τ) := s3.L
  rw [putLit_t hL (by omega) (by omega), lt_e]
theorem c_personS (hC : CoIs w 3 τ) (hg : good τ) {v x y : Nat} (hv : v < 10) (hy : y < 10) : ∃ r w1, fX3_personComes w (nI v) (nI x) (nI y) = some (r, w1) ∧ ((r = 1 ∧ (v ≤ 6 ∧ y ≤ 1 ∧ ¬ (v = 6 ∧ y = 1) ∧ sP τ < 8) ∧ CoIs w1 3 (appS τ v x y)) ∨ (r = 0 ∧ ¬ (v ≤ 6 ∧ y ≤ 1 ∧ ¬ (v = 6 ∧ y = 1) ∧ sP τ < 8))) := by
  have h8 := hg.P
  unfold fX3_personComes
  have e : (if nI v = 6 then if nI y = 1 then (1 : Int32) else 0 else 0) = if v = 6 ∧ y = 1 then 1 else 0 := by
    by_cases c : v = 6
    · rw [if_pos (by rw [c]; rfl)]
      by_cases d : y = 1
      · rw [if_pos (by rw [d]; rfl), if_pos ⟨c, d⟩]
      · rw [if_neg (by rw [c1, n_eq (by omega) (by decide)]; exact d), if_neg (fun h => d h.2)]
    · rw [if_neg (by rw [c6, n_eq (by omega) (by decide)]; exact c), if_neg (fun h => c h.1)]
  rw [e, lt_e]
  by_cases a1 : 6 < v
  · rw [if_pos (by rw [c6, n_lt (by decide) (by omega)]; exact a1)]
    exact ⟨0, w, rfl, Or.inr ⟨rfl, fun h => by omega⟩⟩
  · rw [if_neg (by rw [c6, n_lt (by decide) (by omega)]; exact a1)]
    by_cases a2 : 1 < y
    · rw [if_pos (by rw [c1, n_lt (by decide) (by omega)]; exact a2)]
      exact ⟨0, w, rfl, Or.inr ⟨rfl, fun h => by omega⟩⟩
    · rw [if_neg (by rw [c1, n_lt (by decide) (by omega)]; exact a2)]
      by_cases a3 : v = 6 ∧ y = 1
      · rw [if_pos a3, if_neg (by decide)]
        exact ⟨0, w, rfl, Or.inr ⟨rfl, fun h => h.2.2.1 a3⟩⟩
      · rw [if_neg a3, if_pos rfl, hC.P]
        by_cases a4 : sP τ < 8
        · have ey : (if nI y = 1 then (1 : Int32) else 0) = nI y := by
            rcases (by omega : y = 0 ∨ y = 1) with rfl | rfl <;> rfl
          rw [if_pos (by rw [c8, n_lt (by omega) (by decide)]; exact a4), ey, lt_e]
          obtain ⟨w1, b1, b2⟩ := c_app (k := v) (g := x) hC a4 (show y ≤ 1 by omega)
          rw [b1, bd_e]
          exact ⟨1, w1, rfl, Or.inl ⟨rfl, ⟨by omega, by omega, a3, a4⟩, b2⟩⟩
        · rw [if_neg (by rw [c8, n_lt (by omega) (by decide)]; exact a4)]
          exact ⟨0, w, rfl, Or.inr ⟨rfl, fun h => a4 h.2.2.2⟩⟩
theorem dg_kind {c : Nat} (h : dgN c ≠ 99) : (c = 100 ∧ dgN c = 2) ∨ (c = 102 ∧ dgN c = 2) ∨ (c = 108 ∧ dgN c = 1) ∨ (c = 109 ∧ dgN c = 1) ∨ (c = 112 ∧ dgN c = 3) ∨ (c = 119 ∧ dgN c = 4) := by
  unfold dgN at h ⊢
  by_cases h1 : c = 100
  · simp [h1]
  by_cases h2 : c = 102
  · simp [h2]
  by_cases h3 : c = 108
  · simp [h3]
  by_cases h4 : c = 109
  · simp [h4]
  by_cases h5 : c = 112
  · simp [h5]
  by_cases h6 : c = 119
  · simp [h6]
  simp [h1, h2, h3, h4, h5, h6] at h
theorem bz01 {r : Int32} (h : r = 1 ∨ r = 0) : bz r = true := by rcases h with rfl | rfl <;> rfl
theorem c_comes (hC : CoIs w 3 τ) (hg : good τ) (hm : sM τ ≤ 999) (hn : n ≤ 96) (h6 : w.1 6 0 = nI n) (hT : ∀ k, k < n → w.1 33 k = nI (T k)) (hA : AlT T n) {a : Nat} (ha : a < n) (h0 : stT T a = 0) : ∃ r w1, fX3_comes w (nI a) = some (r, w1) ∧ ((r = 1 ∧ ∃ τ', stE τ (T a) (tv0 T a) (tv1 T a) (tv2 T a) = some τ' ∧ CoIs w1 3 τ') ∨ (r = 0 ∧ stE τ (T a) (tv0 T a) (tv1 T a) (tv2 T a) = none)) := by
  obtain ⟨hd, hle, -, hdig⟩ := hA.st ha h0
  have dg := fun (j : Nat) (hj : j < dgN (T a)) => (⟨c_dig h6 hn hT (a := a + 1 + j) (by omega) (hdig j hj), hdig j hj⟩ : _ ∧ _)
  have hAt := hg.A
  have hDt := hg.D
  unfold fX3_comes
  rw [gdn (by omega) (by decide), n_cl (by omega), hT a ha, lt_e, nI_1]
  rcases dg_kind hd with ⟨hc, hk⟩ | ⟨hc, hk⟩ | ⟨hc, hk⟩ | ⟨hc, hk⟩ | ⟨hc, hk⟩ | ⟨hc, hk⟩
  · obtain ⟨d0, i0⟩ := dg 0 (by omega)
    obtain ⟨d1, i1⟩ := dg 1 (by omega)
    unfold isD at i0 i1
    rw [Nat.add_zero] at d0 i0
    have ev : tv0 T a = 10 * (T (a + 1) - 48) + (T (a + 1 + 1) - 48) := by unfold tv0; rw [if_pos (Or.inr hc)]
    obtain ⟨r, w1, b1, b2⟩ := c_doorS hC hg (v := tv0 T a) (by omega)
    have e2 : fX3_twoDigitsAt w (nI (a + 1)) = some (nI (tv0 T a)) := by
      unfold fX3_twoDigitsAt
      rw [d0, bd_e, nI_1, d1, bd_e, c10m, ev]
    rw [hc, if_pos (show nI 100 = 100 from rfl), e2, bd_e, b1, un2_e]
    unfold stE
    rw [if_neg (show ¬ 100 = 112 by decide), if_neg (show ¬ 100 = 119 by decide), if_neg (show ¬ 100 = 102 by decide), if_pos (show 100 = 100 from rfl)]
    rcases b2 with ⟨rfl, b3, b4⟩ | ⟨rfl, b3⟩
    · rw [gd_t (bz01 (Or.inl rfl)), if_pos b3]
      exact ⟨1, w1, rfl, Or.inl ⟨rfl, _, rfl, b4⟩⟩
    · rw [gd_t (bz01 (Or.inr rfl)), if_neg b3]
      exact ⟨0, w1, rfl, Or.inr ⟨rfl, rfl⟩⟩
  · obtain ⟨d0, i0⟩ := dg 0 (by omega)
    obtain ⟨d1, i1⟩ := dg 1 (by omega)
    unfold isD at i0 i1
    rw [Nat.add_zero] at d0 i0
    have ev : tv0 T a = T (a + 1) - 48 := by unfold tv0; rw [if_neg (by omega)]
    have ev1 : tv1 T a = T (a + 1 + 1) - 48 := by unfold tv1; rw [if_neg (by omega)]
    obtain ⟨r, w1, b1, b2⟩ := c_formS hC (v := tv0 T a) (x := tv1 T a) (by omega) (by omega)
    rw [hc, if_neg (show ¬ nI 102 = 100 by decide), if_pos (show nI 102 = 102 from rfl), d0, bd_e, show (2 : Int32) = nI 2 from rfl, n_add, show a + 2 = a + 1 + 1 from rfl, d1, bd_e, ← ev, ← ev1, b1, un2_e]
    unfold stE
    rw [if_neg (show ¬ 102 = 112 by decide), if_neg (show ¬ 102 = 119 by decide), if_pos (show 102 = 102 from rfl)]
    rcases b2 with ⟨rfl, b3, b4⟩ | ⟨rfl, b3⟩
    · rw [gd_t (bz01 (Or.inl rfl)), if_pos b3]
      exact ⟨1, w1, rfl, Or.inl ⟨rfl, _, rfl, b4⟩⟩
    · rw [gd_t (bz01 (Or.inr rfl)), if_neg b3]
      exact ⟨0, w1, rfl, Or.inr ⟨rfl, rfl⟩⟩
  · obtain ⟨d0, i0⟩ := dg 0 (by omega)
    unfold isD at i0
    rw [Nat.add_zero] at d0 i0
    have ev : tv0 T a = T (a + 1) - 48 := by unfold tv0; rw [if_neg (by omega)]
    obtain ⟨r, w1, b1, b2⟩ := c_lightS hC hg (v := tv0 T a) (by omega)
    rw [hc, if_neg (show ¬ nI 108 = 100 by decide), if_neg (show ¬ nI 108 = 102 by decide), if_pos (show nI 108 = 108 from rfl), d0, bd_e, ← ev, b1, bd_e, un2_e]
    unfold stE
    rw [if_neg (show ¬ 108 = 112 by decide), if_neg (show ¬ 108 = 119 by decide), if_neg (show ¬ 108 = 102 by decide), if_neg (show ¬ 108 = 100 by decide), if_pos (show 108 = 108 from rfl)]
    rcases b2 with ⟨rfl, b3, b4⟩ | ⟨rfl, b3⟩
    · rw [gd_t (bz01 (Or.inl rfl)), if_pos b3]
      exact ⟨1, w1, rfl, Or.inl ⟨rfl, _, rfl, b4⟩⟩
    · rw [gd_t (bz01 (Or.inr rfl)), if_neg b3]
      exact ⟨0, w1, rfl, Or.inr ⟨rfl, rfl⟩⟩
  · obtain ⟨d0, i0⟩ := dg 0 (by omega)
    unfold isD at i0
    rw [Nat.add_zero] at d0 i0
    have ev : tv0 T a = T (a + 1) - 48 := by unfold tv0; rw [if_neg (by omega)]
    rw [hc, if_neg (show ¬ nI 109 = 100 by decide), if_neg (show ¬ nI 109 = 102 by decide), if_neg (show ¬ nI 109 = 108 by decide), if_neg (show ¬ nI 109 = 112 by decide), if_neg (show ¬ nI 109 = 119 by decide), d0, bd_e, ← ev]
    unfold stE
    rw [if_neg (show ¬ 109 = 112 by decide), if_neg (show ¬ 109 = 119 by decide), if_neg (show ¬ 109 = 102 by decide), if_neg (show ¬ 109 = 100 by decide), if_neg (show ¬ 109 = 108 by decide)]
    by_cases z1 : 1 < tv0 T a
    · rw [if_pos (by rw [c1, n_lt (by decide) (by omega)]; exact z1), if_neg (show ¬ (tv0 T a ≤ 1 ∧ sA τ < sD τ ∧ sM τ < 999) from fun h => by omega)]
      exact ⟨0, w, rfl, Or.inr ⟨rfl, rfl⟩⟩
    · rw [if_neg (by rw [c1, n_lt (by decide) (by omega)]; exact z1)]
      have hdoor : fX2_isAtDoor 3 w = if sA τ < sD τ then 0 else 1 := by
        unfold fX2_isAtDoor
        rw [hC.Pl, hC.Do]
        simp only [n_lt (show sA τ < 2 ^ 31 by omega) (show sD τ < 2 ^ 31 by omega)]
      rw [hdoor]
      by_cases z2 : sA τ < sD τ
      · rw [if_pos z2, if_pos rfl, hC.Mi]
        by_cases z3 : sM τ < 999
        · rw [if_pos (by rw [c999, n_lt (by omega) (by decide)]; exact z3), lt_e, if_pos (show tv0 T a ≤ 1 ∧ sA τ < sD τ ∧ sM τ < 999 from ⟨by omega, z2, z3⟩)]
          obtain ⟨w1, b1, b2⟩ := c_passMinute co3 hC hg z2 (if nI (tv0 T a) = 1 then 1 else 0)
          have ex : (if (if nI (tv0 T a) = 1 then (1 : Int32) else 0) = 0 then 1 else 0 : Nat) = if tv0 T a = 1 then 0 else 1 := by
            rcases (by omega : tv0 T a = 0 ∨ tv0 T a = 1) with h | h <;> rw [h] <;> rfl
          rw [ex] at b2
          rw [b1, bd_e]
          exact ⟨1, w1, rfl, Or.inl ⟨rfl, _, rfl, b2⟩⟩
        · rw [if_neg (by rw [c999, n_lt (by omega) (by decide)]; exact z3), if_neg (show ¬ (tv0 T a ≤ 1 ∧ sA τ < sD τ ∧ sM τ < 999) from fun h => z3 h.2.2)]
          exact ⟨0, w, rfl, Or.inr ⟨rfl, rfl⟩⟩
      · rw [if_neg z2, if_neg (show ¬ (1 : Int32) = 0 by decide), if_neg (show ¬ (tv0 T a ≤ 1 ∧ sA τ < sD τ ∧ sM τ < 999) from fun h => z2 h.2.1)]
        exact ⟨0, w, rfl, Or.inr ⟨rfl, rfl⟩⟩
  · obtain ⟨d0, i0⟩ := dg 0 (by omega)
    obtain ⟨d1, i1⟩ := dg 1 (by omega)
    obtain ⟨d2, i2⟩ := dg 2 (by omega)
    unfold isD at i0 i1 i2
    rw [Nat.add_zero] at d0 i0
    have ev : tv0 T a = T (a + 1) - 48 := by unfold tv0; rw [if_neg (by omega)]
    have ev1 : tv1 T a = T (a + 1 + 1) - 48 := by unfold tv1; rw [if_neg (by omega)]
    have ev2 : tv2 T a = T (a + 1 + 2) - 48 := by unfold tv2; rw [if_neg (by omega)]
    obtain ⟨r, w1, b1, b2⟩ := c_personS hC hg (v := tv0 T a) (x := tv1 T a) (y := tv2 T a) (by omega) (by omega)
    rw [hc, if_neg (show ¬ nI 112 = 100 by decide), if_neg (show ¬ nI 112 = 102 by decide), if_neg (show ¬ nI 112 = 108 by decide), if_pos (show nI 112 = 112 from rfl), d0, bd_e, show (2 : Int32) = nI 2 from rfl, n_add, show a + 2 = a + 1 + 1 from rfl, d1, bd_e, show (3 : Int32) = nI 3 from rfl, n_add, show a + 3 = a + 1 + 2 from rfl, d2, bd_e, ← ev, ← ev1, ← ev2, b1, bd_e, un2_e]
    unfold stE
    rw [if_pos (show 112 = 112 from rfl)]
    rcases b2 with ⟨rfl, b3, b4⟩ | ⟨rfl, b3⟩
    · rw [gd_t (bz01 (Or.inl rfl)), if_pos b3]
      exact ⟨1, w1, rfl, Or.inl ⟨rfl, _, rfl, b4⟩⟩
    · rw [gd_t (bz01 (Or.inr rfl)), if_neg b3]
      exact ⟨0, w1, rfl, Or.inr ⟨rfl, rfl⟩⟩
  · obtain ⟨d0, i0⟩ := dg 0 (by omega)
    obtain ⟨d1, i1⟩ := dg 1 (by omega)
    obtain ⟨d2, i2⟩ := dg 2 (by omega)
    obtain ⟨d3, i3⟩ := dg 3 (by omega)
    unfold isD at i0 i1 i2 i3
    rw [Nat.add_zero] at d0 i0
    have ev : tv0 T a = 10 * (T (a + 1) - 48) + (T (a + 1 + 1) - 48) := by unfold tv0; rw [if_pos (Or.inl hc)]
    have ev1 : tv1 T a = T (a + 1 + 2) - 48 := by unfold tv1; rw [if_pos hc]
    have ev2 : tv2 T a = T (a + 1 + 3) - 48 := by unfold tv2; rw [if_pos hc]
    obtain ⟨r, w1, b1, b2⟩ := c_windS hC (v := tv0 T a) (x := tv1 T a) (y := tv2 T a) (by omega) (by omega) (by omega)
    have e2 : fX3_twoDigitsAt w (nI (a + 1)) = some (nI (tv0 T a)) := by
      unfold fX3_twoDigitsAt
      rw [d0, bd_e, nI_1, d1, bd_e, c10m, ev]
    rw [hc, if_neg (show ¬ nI 119 = 100 by decide), if_neg (show ¬ nI 119 = 102 by decide), if_neg (show ¬ nI 119 = 108 by decide), if_neg (show ¬ nI 119 = 112 by decide), if_pos (show nI 119 = 119 from rfl), e2, bd_e, show (3 : Int32) = nI 3 from rfl, n_add, show a + 3 = a + 1 + 2 from rfl, d2, bd_e, show (4 : Int32) = nI 4 from rfl, n_add, show a + 4 = a + 1 + 3 from rfl, d3, bd_e, ← ev1, ← ev2, b1, bd_e, un2_e]
    unfold stE
    rw [if_neg (show ¬ 119 = 112 by decide), if_pos (show 119 = 119 from rfl)]
    rcases b2 with ⟨rfl, b3, b4⟩ | ⟨rfl, b3⟩
    · rw [gd_t (bz01 (Or.inl rfl)), if_pos b3]
      exact ⟨1, w1, rfl, Or.inl ⟨rfl, _, rfl, b4⟩⟩
    · rw [gd_t (bz01 (Or.inr rfl)), if_neg b3]
      exact ⟨0, w1, rfl, Or.inr ⟨rfl, rfl⟩⟩
theorem tv1_lt {a : Nat} (hA : AlT T n) (ha : a < n) (h0 : stT T a = 0) (h8 : T a = 112 ∨ T a = 119) : tv1 T a < 10 := by
  obtain ⟨hd, hle, -, hdig⟩ := hA.st ha h0
  unfold tv1
  rcases h8 with h | h
  · have hk : dgN (T a) = 3 := by rw [h]; rfl
    have := hdig 1 (by omega)
    unfold isD at this
    rw [if_neg (by omega), show a + 2 = a + 1 + 1 from rfl]
    omega
  · have hk : dgN (T a) = 4 := by rw [h]; rfl
    have := hdig 2 (by omega)
    unfold isD at this
    rw [if_pos h, show a + 3 = a + 1 + 2 from rfl]
    omega
theorem stE_next {a : Nat} (hA : AlT T n) (ha : a < n) (h0 : stT T a = 0) (hg : good σ) (hm : sM σ ≤ 999) (h : stE σ (T a) (tv0 T a) (tv1 T a) (tv2 T a) = some τ) : good τ ∧ sM τ ≤ 999 := by
  by_cases h8 : T a = 112 ∨ T a = 119
  · exact stE_good hg hm (tv1_lt hA ha h0 h8) h
  · by_cases h9 : T a = 102 ∨ tv1 T a < 10
    · rcases h9 with h9 | h9
      · refine stE_good (y := tv1 T a) hg hm ?_ h
        obtain ⟨hd, hle, -, hdig⟩ := hA.st ha h0
        have hk : dgN (T a) = 2 := by rw [h9]; rfl
        have := hdig 1 (by omega)
        unfold isD at this
        unfold tv1
        rw [if_neg (by omega), show a + 2 = a + 1 + 1 from rfl]
        omega
      · exact stE_good hg hm h9 h
    · have e : stE σ (T a) (tv0 T a) (tv1 T a) (tv2 T a) = stE σ (T a) (tv0 T a) 0 (tv2 T a) := by
        unfold stE
        rw [if_neg (fun h => h8 (Or.inl h)), if_neg (fun h => h8 (Or.inr h)), if_neg (fun h => h9 (Or.inl h)), if_neg (fun h => h8 (Or.inl h)), if_neg (fun h => h8 (Or.inr h)), if_neg (fun h => h9 (Or.inl h))]
      rw [e] at h
      exact stE_good hg hm (by decide) h
theorem c_comeTo (hC : CoIs w 1 σ) (hg : good σ) (hm : sM σ ≤ 999) (hn : n ≤ 96) (h6 : w.1 6 0 = nI n) (hT : ∀ k, k < n → w.1 33 k = nI (T k)) (h8 : ∀ k, T k < 256) (hA : AlT T n) : ∃ r w1, fX3_comeTo 1 w = some (r, w1) ∧ ((∃ k τ, posT T k = n ∧ k ≤ 40 ∧ sqT σ T k = some τ ∧ r = nI k ∧ good τ ∧ sM τ ≤ 999 ∧ CoIs w1 1 τ) ∨ (∃ k τ, posT T k < n ∧ sqT σ T k = some τ ∧ sqT σ T (k + 1) = none ∧ r = -2000 - nI (posT T k) ∧ CoIs w1 1 σ)) := by
  unfold fX3_comeTo
  rw [lt_e]
  have cT : CoIs (fX2_takeFrom 3 1 w) 3 σ := c_take co3 co1 (by decide) hC
  have tO : ∀ i, i ≠ 3 ∧ (i < 21 ∨ 24 < i) → (fX2_takeFrom 3 1 w).1 i = w.1 i := fun i hi => take_o hi
  have cO : CoIs (fX2_takeFrom 3 1 w) 1 σ := hC
  have main : ∃ x, iter (fun s : Int32 × Int32 × Int32 × Wd => fX3_comeTo_b15 1 s.1 s.2.1 s.2.2.1 s.2.2.2) FU (0, 0, 0, fX2_takeFrom 3 1 w) = some x ∧ ((∃ k τ, posT T k = n ∧ k ≤ 40 ∧ sqT σ T k = some τ ∧ x.1 = nI k ∧ good τ ∧ sM τ ≤ 999 ∧ CoIs x.2 1 τ) ∨ (∃ k τ, posT T k < n ∧ sqT σ T k = some τ ∧ sqT σ T (k + 1) = none ∧ x.1 = -2000 - nI (posT T k) ∧ CoIs x.2 1 σ)) := by
    refine it (fun k (s : Int32 × Int32 × Int32 × Wd) => s.1 = nI k ∧ s.2.1 = nI (posT T k) ∧ s.2.2.1 = nI k ∧ CoIs s.2.2.2 1 σ ∧ (∃ τ, sqT σ T k = some τ ∧ good τ ∧ sM τ ≤ 999 ∧ CoIs s.2.2.2 3 τ) ∧ stT T (posT T k) = 0 ∧ posT T k ≤ n ∧ 3 * k ≤ posT T k ∧ s.2.2.2.1 6 = w.1 6 ∧ s.2.2.2.1 33 = w.1 33) _ 40 ⟨rfl, rfl, rfl, cO, ⟨σ, rfl, hg, hm, cT⟩, rfl, Nat.zero_le _, Nat.zero_le _, tO 6 (by decide), tO 33 (by decide)⟩ ?_ ?_ (by omega)
    · rintro k ⟨x, y, z, u⟩ hk ⟨e1, e2, e3, e4, ⟨τ, e5, e6, e7, e8⟩, e9, e10, e11, e12, e13⟩
      dsimp only at e1 e2 e3 e4 e5 e6 e7 e8 e12 e13
      subst e1; subst e2; subst e3
      have u6 : u.1 6 0 = nI n := by rw [e12]; exact h6
      have uT : ∀ k, k < n → u.1 33 k = nI (T k) := fun k hk => by rw [e13]; exact hT k hk
      by_cases c : posT T k = n
      · refine Or.inr ⟨(nI k, fX2_takeFrom 1 3 u), ?_, Or.inl ⟨k, τ, c, by omega, e5, rfl, e6, e7, c_take co1 co3 (by decide) e8⟩⟩
        show fX3_comeTo_b15 _ _ _ _ _ = _
        unfold fX3_comeTo_b15 fX3_comeTo_j67
        rw [if_neg (by rw [c96, n_le (by decide) (by omega)]; omega), u6, if_pos (by rw [c]; exact Int32.le_refl _), lt_e]
        rfl
      · obtain ⟨r, u1, b1, b2⟩ := c_comes e8 e6 e7 hn u6 uT hA (a := posT T k) (by omega) e9
        have fr := rX3_comes b1
        have q1 : u1.1 1 = u.1 1 := (fr.cell 1 (by decide)).1
        have q13 : u1.1 13 = u.1 13 := (fr.cell 13 (by decide)).1
        have q14 : u1.1 14 = u.1 14 := (fr.cell 14 (by decide)).1
        have q15 : u1.1 15 = u.1 15 := (fr.cell 15 (by decide)).1
        have q16 : u1.1 16 = u.1 16 := (fr.cell 16 (by decide)).1
        have q6 : u1.1 6 = u.1 6 := (fr.cell 6 (by decide)).1
        have q33 : u1.1 33 = u.1 33 := (fr.cell 33 (by decide)).1
        have C1 : CoIs u1 1 σ := e4.eq q1 q13 q14 q15 q16
        have hsq : sqT σ T (k + 1) = stE τ (T (posT T k)) (tv0 T (posT T k)) (tv1 T (posT T k)) (tv2 T (posT T k)) := by
          show (sqT σ T k).bind _ = _
          rw [e5]; rfl
        obtain ⟨hd, hle, hst, -⟩ := hA.st (a := posT T k) (by omega) e9
        have hd4 := dgN_c (T (posT T k))
        rcases b2 with ⟨rfl, τ', b3, b4⟩ | ⟨rfl, b3⟩
        · obtain ⟨g1, g2⟩ := stE_next hA (by omega) e9 e6 e7 b3
          refine Or.inl ⟨(nI (k + 1), nI (posT T (k + 1)), nI (k + 1), u1), ?_, rfl, rfl, rfl, C1, ⟨τ', hsq.trans b3, g1, g2, b4⟩, hst, hle, ?_, q6.trans e12, q33.trans e13⟩
          · show fX3_comeTo_b15 _ _ _ _ _ = _
            unfold fX3_comeTo_b15
            rw [if_neg (by rw [c96, n_le (by decide) (by omega)]; omega), u6, if_neg (by rw [n_le (by omega) (by omega)]; omega), b1, bd_e, un2_e, if_neg (show ¬ (1 : Int32) = 0 by decide), nI_1, lt_e, gdn (by omega) (by decide), n_cl (by omega), q33, uT _ (by omega), dgb_t _ (h8 _), if_neg hd, show (2 : Int32) = nI 2 from rfl, n_add, n_add, lt_e, lt_e]
            rfl
          · show 3 * (k + 1) ≤ posT T k + dgN (T (posT T k)) + 2
            omega
        · refine Or.inr ⟨(-2000 - nI (posT T k), u1), ?_, Or.inr ⟨k, τ, by omega, e5, hsq.trans b3, rfl, C1⟩⟩
          show fX3_comeTo_b15 _ _ _ _ _ = _
          unfold fX3_comeTo_b15
          rw [if_neg (by rw [c96, n_le (by decide) (by omega)]; omega), u6, if_neg (by rw [n_le (by omega) (by omega)]; omega), b1, bd_e, un2_e, if_pos rfl]
    · rintro ⟨x, y, z, u⟩ ⟨e1, e2, e3, e4, e5, e9, e10, e11, e12⟩
      exact absurd e11 (by omega)
  obtain ⟨⟨r, u⟩, m1, m2⟩ := main
  exact ⟨r, u, m1, m2⟩
end
